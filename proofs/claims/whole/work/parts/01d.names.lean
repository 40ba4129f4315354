set_option maxRecDepth 20000 in
theorem ggX12_init_X12_plain : GoodIn wsX12_init wsX12_plain := goodIn_r _ [34, 5, 35, 36, 37, 38, 39, 40, 41, 42, 43, 44, 45, 46, 47, 48, 49, 50, 51, 52, 53, 54, 55, 56, 57, 58, 59, 60, 61, 62, 63, 64, 65, 66, 67, 68, 69, 70, 71, 72, 73, 74, 75, 76] (by decide +kernel) (by decide +kernel)
set_option maxRecDepth 20000 in
theorem gX12_init_X12_plain : GoodIn wsX12_init (wsV RX12 81 RX12 yX12_plain wsX12_plain) := goodIn_app (goodIn_of _ (by decide +kernel)) ggX12_init_X12_plain
theorem dX12_init_0 : decode cX12_init 0 = .ok (.aload_n 0, 1) := by decide +kernel
theorem dX12_init_1 : decode cX12_init 1 = .ok (.invokespecial 1, 3) := by decide +kernel
theorem dX12_init_4 : decode cX12_init 4 = .ok (.aload_n 0, 1) := by decide +kernel
theorem dX12_init_5 : decode cX12_init 5 = .ok (.sipush 3548, 3) := by decide +kernel
theorem dX12_init_8 : decode cX12_init 8 = .ok (.newarray .int, 2) := by decide +kernel
theorem dX12_init_10 : decode cX12_init 10 = .ok (.putfield 7, 3) := by decide +kernel
theorem dX12_init_13 : decode cX12_init 13 = .ok (.aload_n 0, 1) := by decide +kernel
theorem dX12_init_14 : decode cX12_init 14 = .ok (.sipush 138, 3) := by decide +kernel
theorem dX12_init_17 : decode cX12_init 17 = .ok (.newarray .long, 2) := by decide +kernel
theorem dX12_init_19 : decode cX12_init 19 = .ok (.putfield 13, 3) := by decide +kernel
theorem dX12_init_22 : decode cX12_init 22 = .ok (.aload_n 0, 1) := by decide +kernel
theorem dX12_init_23 : decode cX12_init 23 = .ok (.lconst 1, 1) := by decide +kernel
theorem dX12_init_24 : decode cX12_init 24 = .ok (.putfield 17, 3) := by decide +kernel
theorem dX12_init_27 : decode cX12_init 27 = .ok (.aload_n 0, 1) := by decide +kernel
theorem dX12_init_28 : decode cX12_init 28 = .ok (.iconst 4, 1) := by decide +kernel
theorem dX12_init_29 : decode cX12_init 29 = .ok (.newarray .int, 2) := by decide +kernel
theorem dX12_init_31 : decode cX12_init 31 = .ok (.putfield 21, 3) := by decide +kernel
theorem dX12_init_34 : decode cX12_init 34 = .ok (.aload_n 0, 1) := by decide +kernel
theorem dX12_init_35 : decode cX12_init 35 = .ok (.iconst 4, 1) := by decide +kernel
theorem dX12_init_36 : decode cX12_init 36 = .ok (.newarray .int, 2) := by decide +kernel
theorem dX12_init_38 : decode cX12_init 38 = .ok (.dup, 1) := by decide +kernel
theorem dX12_init_39 : decode cX12_init 39 = .ok (.iconst 0, 1) := by decide +kernel
theorem dX12_init_40 : decode cX12_init 40 = .ok (.iconst (-1), 1) := by decide +kernel
theorem dX12_init_41 : decode cX12_init 41 = .ok (.iastore, 1) := by decide +kernel
theorem dX12_init_42 : decode cX12_init 42 = .ok (.dup, 1) := by decide +kernel
theorem dX12_init_43 : decode cX12_init 43 = .ok (.iconst 1, 1) := by decide +kernel
theorem dX12_init_44 : decode cX12_init 44 = .ok (.iconst (-1), 1) := by decide +kernel
theorem dX12_init_45 : decode cX12_init 45 = .ok (.iastore, 1) := by decide +kernel
theorem dX12_init_46 : decode cX12_init 46 = .ok (.dup, 1) := by decide +kernel
theorem dX12_init_47 : decode cX12_init 47 = .ok (.iconst 2, 1) := by decide +kernel
theorem dX12_init_48 : decode cX12_init 48 = .ok (.iconst (-1), 1) := by decide +kernel
theorem dX12_init_49 : decode cX12_init 49 = .ok (.iastore, 1) := by decide +kernel
theorem dX12_init_50 : decode cX12_init 50 = .ok (.dup, 1) := by decide +kernel
theorem dX12_init_51 : decode cX12_init 51 = .ok (.iconst 3, 1) := by decide +kernel
theorem dX12_init_52 : decode cX12_init 52 = .ok (.iconst (-1), 1) := by decide +kernel
theorem dX12_init_53 : decode cX12_init 53 = .ok (.iastore, 1) := by decide +kernel
theorem dX12_init_54 : decode cX12_init 54 = .ok (.putfield 24, 3) := by decide +kernel
theorem dX12_init_57 : decode cX12_init 57 = .ok (.aload_n 0, 1) := by decide +kernel
theorem dX12_init_58 : decode cX12_init 58 = .ok (.sipush 240, 3) := by decide +kernel
theorem dX12_init_61 : decode cX12_init 61 = .ok (.newarray .long, 2) := by decide +kernel
theorem dX12_init_63 : decode cX12_init 63 = .ok (.putfield 27, 3) := by decide +kernel
theorem dX12_init_66 : decode cX12_init 66 = .ok (.aload_n 0, 1) := by decide +kernel
theorem dX12_init_67 : decode cX12_init 67 = .ok (.sipush 900, 3) := by decide +kernel
theorem dX12_init_70 : decode cX12_init 70 = .ok (.newarray .byte, 2) := by decide +kernel
theorem dX12_init_72 : decode cX12_init 72 = .ok (.putfield 30, 3) := by decide +kernel
theorem dX12_init_75 : decode cX12_init 75 = .ok (.aload_n 0, 1) := by decide +kernel
theorem dX12_init_76 : decode cX12_init 76 = .ok (.sipush 900, 3) := by decide +kernel
theorem dX12_init_79 : decode cX12_init 79 = .ok (.newarray .byte, 2) := by decide +kernel
theorem dX12_init_81 : decode cX12_init 81 = .ok (.putfield 34, 3) := by decide +kernel
theorem dX12_init_84 : decode cX12_init 84 = .ok (.aload_n 0, 1) := by decide +kernel
theorem dX12_init_85 : decode cX12_init 85 = .ok (.iconst (-1), 1) := by decide +kernel
theorem dX12_init_86 : decode cX12_init 86 = .ok (.putfield 37, 3) := by decide +kernel
theorem dX12_init_89 : decode cX12_init 89 = .ok (.aload_n 0, 1) := by decide +kernel
theorem dX12_init_90 : decode cX12_init 90 = .ok (.iconst (-1), 1) := by decide +kernel
theorem dX12_init_91 : decode cX12_init 91 = .ok (.putfield 41, 3) := by decide +kernel
theorem dX12_init_94 : decode cX12_init 94 = .ok (.aload_n 0, 1) := by decide +kernel
theorem dX12_init_95 : decode cX12_init 95 = .ok (.iconst 3, 1) := by decide +kernel
theorem dX12_init_96 : decode cX12_init 96 = .ok (.newarray .int, 2) := by decide +kernel
theorem dX12_init_98 : decode cX12_init 98 = .ok (.putfield 44, 3) := by decide +kernel
theorem dX12_init_101 : decode cX12_init 101 = .ok (.aload_n 0, 1) := by decide +kernel
theorem dX12_init_102 : decode cX12_init 102 = .ok (.bipush 64, 2) := by decide +kernel
theorem dX12_init_104 : decode cX12_init 104 = .ok (.newarray .boolean, 2) := by decide +kernel
theorem dX12_init_106 : decode cX12_init 106 = .ok (.putfield 47, 3) := by decide +kernel
theorem dX12_init_109 : decode cX12_init 109 = .ok (.aload_n 0, 1) := by decide +kernel
theorem dX12_init_110 : decode cX12_init 110 = .ok (.bipush 7, 2) := by decide +kernel
theorem dX12_init_112 : decode cX12_init 112 = .ok (.newarray .int, 2) := by decide +kernel
theorem dX12_init_114 : decode cX12_init 114 = .ok (.putfield 51, 3) := by decide +kernel
theorem dX12_init_117 : decode cX12_init 117 = .ok (.aload_n 0, 1) := by decide +kernel
theorem dX12_init_118 : decode cX12_init 118 = .ok (.bipush 9, 2) := by decide +kernel
theorem dX12_init_120 : decode cX12_init 120 = .ok (.newarray .int, 2) := by decide +kernel
theorem dX12_init_122 : decode cX12_init 122 = .ok (.putfield 54, 3) := by decide +kernel
theorem dX12_init_125 : decode cX12_init 125 = .ok (.aload_n 0, 1) := by decide +kernel
theorem dX12_init_126 : decode cX12_init 126 = .ok (.bipush 9, 2) := by decide +kernel
theorem dX12_init_128 : decode cX12_init 128 = .ok (.newarray .int, 2) := by decide +kernel
theorem dX12_init_130 : decode cX12_init 130 = .ok (.putfield 57, 3) := by decide +kernel
theorem dX12_init_133 : decode cX12_init 133 = .ok (.aload_n 0, 1) := by decide +kernel
theorem dX12_init_134 : decode cX12_init 134 = .ok (.bipush 64, 2) := by decide +kernel
theorem dX12_init_136 : decode cX12_init 136 = .ok (.newarray .int, 2) := by decide +kernel
theorem dX12_init_138 : decode cX12_init 138 = .ok (.putfield 60, 3) := by decide +kernel
theorem dX12_init_141 : decode cX12_init 141 = .ok (.aload_n 0, 1) := by decide +kernel
theorem dX12_init_142 : decode cX12_init 142 = .ok (.iconst 4, 1) := by decide +kernel
theorem dX12_init_143 : decode cX12_init 143 = .ok (.newarray .int, 2) := by decide +kernel
theorem dX12_init_145 : decode cX12_init 145 = .ok (.putfield 63, 3) := by decide +kernel
theorem dX12_init_148 : decode cX12_init 148 = .ok (.aload_n 0, 1) := by decide +kernel
theorem dX12_init_149 : decode cX12_init 149 = .ok (.iconst 4, 1) := by decide +kernel
theorem dX12_init_150 : decode cX12_init 150 = .ok (.newarray .int, 2) := by decide +kernel
theorem dX12_init_152 : decode cX12_init 152 = .ok (.putfield 66, 3) := by decide +kernel
theorem dX12_init_155 : decode cX12_init 155 = .ok (.aload_n 0, 1) := by decide +kernel
theorem dX12_init_156 : decode cX12_init 156 = .ok (.iconst 4, 1) := by decide +kernel
theorem dX12_init_157 : decode cX12_init 157 = .ok (.newarray .int, 2) := by decide +kernel
theorem dX12_init_159 : decode cX12_init 159 = .ok (.putfield 69, 3) := by decide +kernel
theorem dX12_init_162 : decode cX12_init 162 = .ok (.aload_n 0, 1) := by decide +kernel
theorem dX12_init_163 : decode cX12_init 163 = .ok (.bipush 80, 2) := by decide +kernel
theorem dX12_init_165 : decode cX12_init 165 = .ok (.newarray .int, 2) := by decide +kernel
theorem dX12_init_167 : decode cX12_init 167 = .ok (.putfield 72, 3) := by decide +kernel
theorem dX12_init_170 : decode cX12_init 170 = .ok (.aload_n 0, 1) := by decide +kernel
theorem dX12_init_171 : decode cX12_init 171 = .ok (.iconst 5, 1) := by decide +kernel
theorem dX12_init_172 : decode cX12_init 172 = .ok (.newarray .int, 2) := by decide +kernel
theorem dX12_init_174 : decode cX12_init 174 = .ok (.putfield 75, 3) := by decide +kernel
theorem dX12_init_177 : decode cX12_init 177 = .ok (.aload_n 0, 1) := by decide +kernel
theorem dX12_init_178 : decode cX12_init 178 = .ok (.iconst 5, 1) := by decide +kernel
theorem dX12_init_179 : decode cX12_init 179 = .ok (.newarray .int, 2) := by decide +kernel
theorem dX12_init_181 : decode cX12_init 181 = .ok (.putfield 78, 3) := by decide +kernel
theorem dX12_init_184 : decode cX12_init 184 = .ok (.aload_n 0, 1) := by decide +kernel
theorem dX12_init_185 : decode cX12_init 185 = .ok (.iconst 0, 1) := by decide +kernel
theorem dX12_init_186 : decode cX12_init 186 = .ok (.invokevirtual 81, 3) := by decide +kernel
theorem dX12_init_189 : decode cX12_init 189 = .ok (.return_, 1) := by decide +kernel
theorem dX12_plain_0 : decode cX12_plain 0 = .ok (.iconst 0, 1) := by decide +kernel
theorem dX12_plain_1 : decode cX12_plain 1 = .ok (.istore_n 2, 1) := by decide +kernel
theorem dX12_plain_2 : decode cX12_plain 2 = .ok (.iload_n 2, 1) := by decide +kernel
theorem dX12_plain_3 : decode cX12_plain 3 = .ok (.sipush 502, 3) := by decide +kernel
theorem dX12_plain_6 : decode cX12_plain 6 = .ok (.if_icmp .ge 18, 3) := by decide +kernel
theorem dX12_plain_9 : decode cX12_plain 9 = .ok (.aload_n 0, 1) := by decide +kernel
theorem dX12_plain_10 : decode cX12_plain 10 = .ok (.getfield 7, 3) := by decide +kernel
theorem dX12_plain_13 : decode cX12_plain 13 = .ok (.iload_n 1, 1) := by decide +kernel
theorem dX12_plain_14 : decode cX12_plain 14 = .ok (.iload_n 2, 1) := by decide +kernel
theorem dX12_plain_15 : decode cX12_plain 15 = .ok (.iadd, 1) := by decide +kernel
theorem dX12_plain_16 : decode cX12_plain 16 = .ok (.iconst 0, 1) := by decide +kernel
theorem dX12_plain_17 : decode cX12_plain 17 = .ok (.iastore, 1) := by decide +kernel
theorem dX12_plain_18 : decode cX12_plain 18 = .ok (.iinc 2 1, 3) := by decide +kernel
theorem dX12_plain_21 : decode cX12_plain 21 = .ok (.goto (-19), 3) := by decide +kernel
theorem dX12_plain_24 : decode cX12_plain 24 = .ok (.aload_n 0, 1) := by decide +kernel
theorem dX12_plain_25 : decode cX12_plain 25 = .ok (.getfield 7, 3) := by decide +kernel
theorem dX12_plain_28 : decode cX12_plain 28 = .ok (.iload_n 1, 1) := by decide +kernel
theorem dX12_plain_29 : decode cX12_plain 29 = .ok (.bipush 8, 2) := by decide +kernel
theorem dX12_plain_31 : decode cX12_plain 31 = .ok (.iadd, 1) := by decide +kernel
theorem dX12_plain_32 : decode cX12_plain 32 = .ok (.iconst (-1), 1) := by decide +kernel
theorem dX12_plain_33 : decode cX12_plain 33 = .ok (.iastore, 1) := by decide +kernel
theorem dX12_plain_34 : decode cX12_plain 34 = .ok (.return_, 1) := by decide +kernel
theorem dX12_status_0 : decode cX12_status 0 = .ok (.aload_n 0, 1) := by decide +kernel
theorem dX12_status_1 : decode cX12_status 1 = .ok (.getfield 85, 3) := by decide +kernel
theorem dX12_status_4 : decode cX12_status 4 = .ok (.ireturn, 1) := by decide +kernel
theorem dX12_top_0 : decode cX12_top 0 = .ok (.aload_n 0, 1) := by decide +kernel
theorem dX12_top_1 : decode cX12_top 1 = .ok (.getfield 88, 3) := by decide +kernel
theorem dX12_top_4 : decode cX12_top 4 = .ok (.lreturn, 1) := by decide +kernel
theorem dX12_bottom_0 : decode cX12_bottom 0 = .ok (.aload_n 0, 1) := by decide +kernel
theorem dX12_bottom_1 : decode cX12_bottom 1 = .ok (.getfield 17, 3) := by decide +kernel
theorem dX12_bottom_4 : decode cX12_bottom 4 = .ok (.lreturn, 1) := by decide +kernel
theorem dX12_is_0 : decode cX12_is 0 = .ok (.aload_n 0, 1) := by decide +kernel
theorem dX12_is_1 : decode cX12_is 1 = .ok (.iload_n 1, 1) := by decide +kernel
theorem dX12_is_2 : decode cX12_is 2 = .ok (.putfield 85, 3) := by decide +kernel
theorem dX12_is_5 : decode cX12_is 5 = .ok (.iload_n 1, 1) := by decide +kernel
theorem dX12_is_6 : decode cX12_is 6 = .ok (.ifCond .ne 7, 3) := by decide +kernel
theorem dX12_is_9 : decode cX12_is 9 = .ok (.iconst 1, 1) := by decide +kernel
theorem dX12_is_10 : decode cX12_is 10 = .ok (.goto 4, 3) := by decide +kernel
theorem dX12_is_13 : decode cX12_is 13 = .ok (.iconst 0, 1) := by decide +kernel
theorem dX12_is_14 : decode cX12_is 14 = .ok (.ireturn, 1) := by decide +kernel
theorem dX12_refuse_0 : decode cX12_refuse 0 = .ok (.aload_n 0, 1) := by decide +kernel
theorem dX12_refuse_1 : decode cX12_refuse 1 = .ok (.iload_n 1, 1) := by decide +kernel
theorem dX12_refuse_2 : decode cX12_refuse 2 = .ok (.putfield 85, 3) := by decide +kernel
theorem dX12_refuse_5 : decode cX12_refuse 5 = .ok (.iconst (-1), 1) := by decide +kernel
theorem dX12_refuse_6 : decode cX12_refuse 6 = .ok (.ireturn, 1) := by decide +kernel
theorem dX12_gives_0 : decode cX12_gives 0 = .ok (.aload_n 0, 1) := by decide +kernel
theorem dX12_gives_1 : decode cX12_gives 1 = .ok (.iconst 0, 1) := by decide +kernel
theorem dX12_gives_2 : decode cX12_gives 2 = .ok (.putfield 85, 3) := by decide +kernel
theorem dX12_gives_5 : decode cX12_gives 5 = .ok (.iload_n 1, 1) := by decide +kernel
theorem dX12_gives_6 : decode cX12_gives 6 = .ok (.ireturn, 1) := by decide +kernel
set_option maxRecDepth 20000 in
theorem ggX12_orNone_X12_refuse : GoodIn wsX12_orNone wsX12_refuse := goodIn_r _ [5, 6, 11, 12, 13, 14, 15, 16, 17, 18, 19, 20, 21, 22, 23, 24, 25, 26, 27, 28, 29, 30, 31, 32, 33, 34, 35, 36, 37, 38, 39, 40, 41, 42, 43, 44, 45, 46, 47, 48, 49, 50, 51, 52] (by decide +kernel) (by decide +kernel)
set_option maxRecDepth 20000 in
theorem gX12_orNone_X12_refuse : GoodIn wsX12_orNone (wsV RX12 91 RX12 yX12_refuse wsX12_refuse) := goodIn_app (goodIn_of _ (by decide +kernel)) ggX12_orNone_X12_refuse
set_option maxRecDepth 20000 in
theorem ggX12_orNone_X12_gives : GoodIn wsX12_orNone wsX12_gives := goodIn_r _ [10, 6, 11, 12, 13, 14, 15, 16, 17, 18, 19, 20, 21, 22, 23, 24, 25, 26, 27, 28, 29, 30, 31, 32, 33, 34, 35, 36, 37, 38, 39, 40, 41, 42, 43, 44, 45, 46, 47, 48, 49, 50, 51, 52] (by decide +kernel) (by decide +kernel)
set_option maxRecDepth 20000 in
theorem gX12_orNone_X12_gives : GoodIn wsX12_orNone (wsV RX12 95 RX12 yX12_gives wsX12_gives) := goodIn_app (goodIn_of _ (by decide +kernel)) ggX12_orNone_X12_gives
theorem dX12_orNone_0 : decode cX12_orNone 0 = .ok (.iload_n 1, 1) := by decide +kernel
theorem dX12_orNone_1 : decode cX12_orNone 1 = .ok (.iconst (-1), 1) := by decide +kernel
theorem dX12_orNone_2 : decode cX12_orNone 2 = .ok (.if_icmp .ne 12, 3) := by decide +kernel
theorem dX12_orNone_5 : decode cX12_orNone 5 = .ok (.aload_n 0, 1) := by decide +kernel
theorem dX12_orNone_6 : decode cX12_orNone 6 = .ok (.bipush 6, 2) := by decide +kernel
theorem dX12_orNone_8 : decode cX12_orNone 8 = .ok (.invokevirtual 91, 3) := by decide +kernel
theorem dX12_orNone_11 : decode cX12_orNone 11 = .ok (.goto 8, 3) := by decide +kernel
theorem dX12_orNone_14 : decode cX12_orNone 14 = .ok (.aload_n 0, 1) := by decide +kernel
theorem dX12_orNone_15 : decode cX12_orNone 15 = .ok (.iload_n 1, 1) := by decide +kernel
theorem dX12_orNone_16 : decode cX12_orNone 16 = .ok (.invokevirtual 95, 3) := by decide +kernel
theorem dX12_orNone_19 : decode cX12_orNone 19 = .ok (.ireturn, 1) := by decide +kernel
set_option maxRecDepth 20000 in
theorem ggX12_tellsBy_X12_is : GoodIn wsX12_tellsBy wsX12_is := goodIn_r _ [7, 8, 9, 10, 11, 12, 13, 14, 15, 16, 17, 18, 19, 20, 21, 22, 23, 24, 25, 26, 27, 28, 29, 30, 31, 32, 33, 34, 35, 36, 37, 38, 39, 40, 41, 42, 43, 44, 45, 46, 47, 48, 49, 50] (by decide +kernel) (by decide +kernel)
set_option maxRecDepth 20000 in
theorem gX12_tellsBy_X12_is : GoodIn wsX12_tellsBy (wsV RX12 98 RX12 yX12_is wsX12_is) := goodIn_app (goodIn_of _ (by decide +kernel)) ggX12_tellsBy_X12_is
theorem dX12_tellsBy_0 : decode cX12_tellsBy 0 = .ok (.lload_n 1, 1) := by decide +kernel
theorem dX12_tellsBy_1 : decode cX12_tellsBy 1 = .ok (.lstore 5, 2) := by decide +kernel
theorem dX12_tellsBy_3 : decode cX12_tellsBy 3 = .ok (.lload_n 3, 1) := by decide +kernel
theorem dX12_tellsBy_4 : decode cX12_tellsBy 4 = .ok (.lstore 7, 2) := by decide +kernel
theorem dX12_tellsBy_6 : decode cX12_tellsBy 6 = .ok (.lload 7, 2) := by decide +kernel
theorem dX12_tellsBy_8 : decode cX12_tellsBy 8 = .ok (.lconst 0, 1) := by decide +kernel
theorem dX12_tellsBy_9 : decode cX12_tellsBy 9 = .ok (.lcmp, 1) := by decide +kernel
theorem dX12_tellsBy_10 : decode cX12_tellsBy 10 = .ok (.ifCond .eq 21, 3) := by decide +kernel
theorem dX12_tellsBy_13 : decode cX12_tellsBy 13 = .ok (.lload 5, 2) := by decide +kernel
theorem dX12_tellsBy_15 : decode cX12_tellsBy 15 = .ok (.lload 7, 2) := by decide +kernel
theorem dX12_tellsBy_17 : decode cX12_tellsBy 17 = .ok (.lrem, 1) := by decide +kernel
theorem dX12_tellsBy_18 : decode cX12_tellsBy 18 = .ok (.lstore 9, 2) := by decide +kernel
theorem dX12_tellsBy_20 : decode cX12_tellsBy 20 = .ok (.lload 7, 2) := by decide +kernel
theorem dX12_tellsBy_22 : decode cX12_tellsBy 22 = .ok (.lstore 5, 2) := by decide +kernel
theorem dX12_tellsBy_24 : decode cX12_tellsBy 24 = .ok (.lload 9, 2) := by decide +kernel
theorem dX12_tellsBy_26 : decode cX12_tellsBy 26 = .ok (.lstore 7, 2) := by decide +kernel
theorem dX12_tellsBy_28 : decode cX12_tellsBy 28 = .ok (.goto (-22), 3) := by decide +kernel
theorem dX12_tellsBy_31 : decode cX12_tellsBy 31 = .ok (.aload_n 0, 1) := by decide +kernel
theorem dX12_tellsBy_32 : decode cX12_tellsBy 32 = .ok (.lload_n 1, 1) := by decide +kernel
theorem dX12_tellsBy_33 : decode cX12_tellsBy 33 = .ok (.lload 5, 2) := by decide +kernel
theorem dX12_tellsBy_35 : decode cX12_tellsBy 35 = .ok (.ldiv, 1) := by decide +kernel
theorem dX12_tellsBy_36 : decode cX12_tellsBy 36 = .ok (.putfield 88, 3) := by decide +kernel
theorem dX12_tellsBy_39 : decode cX12_tellsBy 39 = .ok (.aload_n 0, 1) := by decide +kernel
theorem dX12_tellsBy_40 : decode cX12_tellsBy 40 = .ok (.lload_n 3, 1) := by decide +kernel
theorem dX12_tellsBy_41 : decode cX12_tellsBy 41 = .ok (.lload 5, 2) := by decide +kernel
theorem dX12_tellsBy_43 : decode cX12_tellsBy 43 = .ok (.ldiv, 1) := by decide +kernel
theorem dX12_tellsBy_44 : decode cX12_tellsBy 44 = .ok (.putfield 17, 3) := by decide +kernel
theorem dX12_tellsBy_47 : decode cX12_tellsBy 47 = .ok (.aload_n 0, 1) := by decide +kernel
theorem dX12_tellsBy_48 : decode cX12_tellsBy 48 = .ok (.iconst 0, 1) := by decide +kernel
theorem dX12_tellsBy_49 : decode cX12_tellsBy 49 = .ok (.invokevirtual 98, 3) := by decide +kernel
theorem dX12_tellsBy_52 : decode cX12_tellsBy 52 = .ok (.ireturn, 1) := by decide +kernel
theorem dX12_isTray_0 : decode cX12_isTray 0 = .ok (.iload_n 0, 1) := by decide +kernel
theorem dX12_isTray_1 : decode cX12_isTray 1 = .ok (.ifCond .lt 12, 3) := by decide +kernel
theorem dX12_isTray_4 : decode cX12_isTray 4 = .ok (.iload_n 0, 1) := by decide +kernel
theorem dX12_isTray_5 : decode cX12_isTray 5 = .ok (.iconst 4, 1) := by decide +kernel
theorem dX12_isTray_6 : decode cX12_isTray 6 = .ok (.if_icmp .ge 7, 3) := by decide +kernel
theorem dX12_isTray_9 : decode cX12_isTray 9 = .ok (.iconst 1, 1) := by decide +kernel
theorem dX12_isTray_10 : decode cX12_isTray 10 = .ok (.goto 4, 3) := by decide +kernel
theorem dX12_isTray_13 : decode cX12_isTray 13 = .ok (.iconst 0, 1) := by decide +kernel
theorem dX12_isTray_14 : decode cX12_isTray 14 = .ok (.ireturn, 1) := by decide +kernel
theorem dX12_cut_0 : decode cX12_cut 0 = .ok (.iload_n 2, 1) := by decide +kernel
theorem dX12_cut_1 : decode cX12_cut 1 = .ok (.ifCond .ne 10, 3) := by decide +kernel
theorem dX12_cut_4 : decode cX12_cut 4 = .ok (.lload_n 0, 1) := by decide +kernel
theorem dX12_cut_5 : decode cX12_cut 5 = .ok (.l2i, 1) := by decide +kernel
theorem dX12_cut_6 : decode cX12_cut 6 = .ok (.i2b, 1) := by decide +kernel
theorem dX12_cut_7 : decode cX12_cut 7 = .ok (.i2l, 1) := by decide +kernel
theorem dX12_cut_8 : decode cX12_cut 8 = .ok (.goto 27, 3) := by decide +kernel
theorem dX12_cut_11 : decode cX12_cut 11 = .ok (.iload_n 2, 1) := by decide +kernel
theorem dX12_cut_12 : decode cX12_cut 12 = .ok (.iconst 1, 1) := by decide +kernel
theorem dX12_cut_13 : decode cX12_cut 13 = .ok (.if_icmp .ne 10, 3) := by decide +kernel
theorem dX12_cut_16 : decode cX12_cut 16 = .ok (.lload_n 0, 1) := by decide +kernel
theorem dX12_cut_17 : decode cX12_cut 17 = .ok (.l2i, 1) := by decide +kernel
theorem dX12_cut_18 : decode cX12_cut 18 = .ok (.i2s, 1) := by decide +kernel
theorem dX12_cut_19 : decode cX12_cut 19 = .ok (.i2l, 1) := by decide +kernel
theorem dX12_cut_20 : decode cX12_cut 20 = .ok (.goto 15, 3) := by decide +kernel
theorem dX12_cut_23 : decode cX12_cut 23 = .ok (.iload_n 2, 1) := by decide +kernel
theorem dX12_cut_24 : decode cX12_cut 24 = .ok (.iconst 2, 1) := by decide +kernel
theorem dX12_cut_25 : decode cX12_cut 25 = .ok (.if_icmp .ne 9, 3) := by decide +kernel
theorem dX12_cut_28 : decode cX12_cut 28 = .ok (.lload_n 0, 1) := by decide +kernel
theorem dX12_cut_29 : decode cX12_cut 29 = .ok (.l2i, 1) := by decide +kernel
theorem dX12_cut_30 : decode cX12_cut 30 = .ok (.i2l, 1) := by decide +kernel
theorem dX12_cut_31 : decode cX12_cut 31 = .ok (.goto 4, 3) := by decide +kernel
theorem dX12_cut_34 : decode cX12_cut 34 = .ok (.lload_n 0, 1) := by decide +kernel
theorem dX12_cut_35 : decode cX12_cut 35 = .ok (.lreturn, 1) := by decide +kernel
set_option maxRecDepth 20000 in
theorem ggX12_tray_X12_isTray : GoodIn wsX12_tray wsX12_isTray := goodIn_r _ [7] (by decide +kernel) (by decide +kernel)
set_option maxRecDepth 20000 in
theorem gX12_tray_X12_isTray : GoodIn wsX12_tray (va_wsS RX12 102 yX12_isTray wsX12_isTray) := goodIn_app (goodIn_of _ (by decide +kernel)) ggX12_tray_X12_isTray
set_option maxRecDepth 20000 in
theorem ggX12_tray_X12_is : GoodIn wsX12_tray wsX12_is := goodIn_r _ [11, 12, 13, 14, 15, 16, 17, 18, 19, 20, 21, 22, 23, 24, 25, 26, 27, 28, 29, 30, 31, 32, 33, 34, 35, 36, 37, 38, 39, 40, 41, 42, 43, 44, 45, 46, 47, 48, 49, 50, 51, 52, 53, 54] (by decide +kernel) (by decide +kernel)
set_option maxRecDepth 20000 in
theorem gX12_tray_X12_is : GoodIn wsX12_tray (wsV RX12 98 RX12 yX12_is wsX12_is) := goodIn_app (goodIn_of _ (by decide +kernel)) ggX12_tray_X12_is
theorem dX12_tray_0 : decode cX12_tray 0 = .ok (.iload_n 1, 1) := by decide +kernel
theorem dX12_tray_1 : decode cX12_tray 1 = .ok (.invokestatic 102, 3) := by decide +kernel
theorem dX12_tray_4 : decode cX12_tray 4 = .ok (.ifCond .eq 22, 3) := by decide +kernel
theorem dX12_tray_7 : decode cX12_tray 7 = .ok (.iload_n 2, 1) := by decide +kernel
theorem dX12_tray_8 : decode cX12_tray 8 = .ok (.ifCond .lt 18, 3) := by decide +kernel
theorem dX12_tray_11 : decode cX12_tray 11 = .ok (.iload_n 2, 1) := by decide +kernel
theorem dX12_tray_12 : decode cX12_tray 12 = .ok (.iconst 3, 1) := by decide +kernel
theorem dX12_tray_13 : decode cX12_tray 13 = .ok (.if_icmp .gt 13, 3) := by decide +kernel
theorem dX12_tray_16 : decode cX12_tray 16 = .ok (.iload_n 3, 1) := by decide +kernel
theorem dX12_tray_17 : decode cX12_tray 17 = .ok (.ifCond .lt 9, 3) := by decide +kernel
theorem dX12_tray_20 : decode cX12_tray 20 = .ok (.iload_n 3, 1) := by decide +kernel
theorem dX12_tray_21 : decode cX12_tray 21 = .ok (.bipush 60, 2) := by decide +kernel
theorem dX12_tray_23 : decode cX12_tray 23 = .ok (.if_icmp .le 9, 3) := by decide +kernel
theorem dX12_tray_26 : decode cX12_tray 26 = .ok (.aload_n 0, 1) := by decide +kernel
theorem dX12_tray_27 : decode cX12_tray 27 = .ok (.iconst 1, 1) := by decide +kernel
theorem dX12_tray_28 : decode cX12_tray 28 = .ok (.invokevirtual 98, 3) := by decide +kernel
theorem dX12_tray_31 : decode cX12_tray 31 = .ok (.ireturn, 1) := by decide +kernel
theorem dX12_tray_32 : decode cX12_tray 32 = .ok (.aload_n 0, 1) := by decide +kernel
theorem dX12_tray_33 : decode cX12_tray 33 = .ok (.getfield 21, 3) := by decide +kernel
theorem dX12_tray_36 : decode cX12_tray 36 = .ok (.iload_n 1, 1) := by decide +kernel
theorem dX12_tray_37 : decode cX12_tray 37 = .ok (.iload_n 2, 1) := by decide +kernel
theorem dX12_tray_38 : decode cX12_tray 38 = .ok (.iastore, 1) := by decide +kernel
theorem dX12_tray_39 : decode cX12_tray 39 = .ok (.aload_n 0, 1) := by decide +kernel
theorem dX12_tray_40 : decode cX12_tray 40 = .ok (.getfield 24, 3) := by decide +kernel
theorem dX12_tray_43 : decode cX12_tray 43 = .ok (.iload_n 1, 1) := by decide +kernel
theorem dX12_tray_44 : decode cX12_tray 44 = .ok (.iload_n 3, 1) := by decide +kernel
theorem dX12_tray_45 : decode cX12_tray 45 = .ok (.iastore, 1) := by decide +kernel
theorem dX12_tray_46 : decode cX12_tray 46 = .ok (.iconst 0, 1) := by decide +kernel
theorem dX12_tray_47 : decode cX12_tray 47 = .ok (.istore 4, 2) := by decide +kernel
theorem dX12_tray_49 : decode cX12_tray 49 = .ok (.iload 4, 2) := by decide +kernel
theorem dX12_tray_51 : decode cX12_tray 51 = .ok (.iload_n 3, 1) := by decide +kernel
theorem dX12_tray_52 : decode cX12_tray 52 = .ok (.if_icmp .ge 22, 3) := by decide +kernel
theorem dX12_tray_55 : decode cX12_tray 55 = .ok (.aload_n 0, 1) := by decide +kernel
theorem dX12_tray_56 : decode cX12_tray 56 = .ok (.getfield 27, 3) := by decide +kernel
theorem dX12_tray_59 : decode cX12_tray 59 = .ok (.bipush 60, 2) := by decide +kernel
theorem dX12_tray_61 : decode cX12_tray 61 = .ok (.iload_n 1, 1) := by decide +kernel
theorem dX12_tray_62 : decode cX12_tray 62 = .ok (.imul, 1) := by decide +kernel
theorem dX12_tray_63 : decode cX12_tray 63 = .ok (.iload 4, 2) := by decide +kernel
theorem dX12_tray_65 : decode cX12_tray 65 = .ok (.iadd, 1) := by decide +kernel
theorem dX12_tray_66 : decode cX12_tray 66 = .ok (.lconst 0, 1) := by decide +kernel
theorem dX12_tray_67 : decode cX12_tray 67 = .ok (.lastore, 1) := by decide +kernel
theorem dX12_tray_68 : decode cX12_tray 68 = .ok (.iinc 4 1, 3) := by decide +kernel
theorem dX12_tray_71 : decode cX12_tray 71 = .ok (.goto (-22), 3) := by decide +kernel
theorem dX12_tray_74 : decode cX12_tray 74 = .ok (.aload_n 0, 1) := by decide +kernel
theorem dX12_tray_75 : decode cX12_tray 75 = .ok (.iconst 0, 1) := by decide +kernel
theorem dX12_tray_76 : decode cX12_tray 76 = .ok (.invokevirtual 98, 3) := by decide +kernel
theorem dX12_tray_79 : decode cX12_tray 79 = .ok (.ireturn, 1) := by decide +kernel
set_option maxRecDepth 20000 in
theorem ggX12_wrongPlace_X12_isTray : GoodIn wsX12_wrongPlace wsX12_isTray := goodIn_r _ [5] (by decide +kernel) (by decide +kernel)
set_option maxRecDepth 20000 in
theorem gX12_wrongPlace_X12_isTray : GoodIn wsX12_wrongPlace (va_wsS RX12 102 yX12_isTray wsX12_isTray) := goodIn_app (goodIn_of _ (by decide +kernel)) ggX12_wrongPlace_X12_isTray
theorem dX12_wrongPlace_0 : decode cX12_wrongPlace 0 = .ok (.iload_n 1, 1) := by decide +kernel
theorem dX12_wrongPlace_1 : decode cX12_wrongPlace 1 = .ok (.invokestatic 102, 3) := by decide +kernel
theorem dX12_wrongPlace_4 : decode cX12_wrongPlace 4 = .ok (.ifCond .ne 7, 3) := by decide +kernel
theorem dX12_wrongPlace_7 : decode cX12_wrongPlace 7 = .ok (.iconst 1, 1) := by decide +kernel
theorem dX12_wrongPlace_8 : decode cX12_wrongPlace 8 = .ok (.goto 36, 3) := by decide +kernel
theorem dX12_wrongPlace_11 : decode cX12_wrongPlace 11 = .ok (.aload_n 0, 1) := by decide +kernel
theorem dX12_wrongPlace_12 : decode cX12_wrongPlace 12 = .ok (.getfield 24, 3) := by decide +kernel
theorem dX12_wrongPlace_15 : decode cX12_wrongPlace 15 = .ok (.iload_n 1, 1) := by decide +kernel
theorem dX12_wrongPlace_16 : decode cX12_wrongPlace 16 = .ok (.iaload, 1) := by decide +kernel
theorem dX12_wrongPlace_17 : decode cX12_wrongPlace 17 = .ok (.iconst (-1), 1) := by decide +kernel
theorem dX12_wrongPlace_18 : decode cX12_wrongPlace 18 = .ok (.if_icmp .ne 7, 3) := by decide +kernel
theorem dX12_wrongPlace_21 : decode cX12_wrongPlace 21 = .ok (.iconst 2, 1) := by decide +kernel
theorem dX12_wrongPlace_22 : decode cX12_wrongPlace 22 = .ok (.goto 22, 3) := by decide +kernel
theorem dX12_wrongPlace_25 : decode cX12_wrongPlace 25 = .ok (.iload_n 2, 1) := by decide +kernel
theorem dX12_wrongPlace_26 : decode cX12_wrongPlace 26 = .ok (.ifCond .lt 13, 3) := by decide +kernel
theorem dX12_wrongPlace_29 : decode cX12_wrongPlace 29 = .ok (.iload_n 2, 1) := by decide +kernel
theorem dX12_wrongPlace_30 : decode cX12_wrongPlace 30 = .ok (.aload_n 0, 1) := by decide +kernel
theorem dX12_wrongPlace_31 : decode cX12_wrongPlace 31 = .ok (.getfield 24, 3) := by decide +kernel
theorem dX12_wrongPlace_34 : decode cX12_wrongPlace 34 = .ok (.iload_n 1, 1) := by decide +kernel
theorem dX12_wrongPlace_35 : decode cX12_wrongPlace 35 = .ok (.iaload, 1) := by decide +kernel
theorem dX12_wrongPlace_36 : decode cX12_wrongPlace 36 = .ok (.if_icmp .lt 7, 3) := by decide +kernel
theorem dX12_wrongPlace_39 : decode cX12_wrongPlace 39 = .ok (.iconst 3, 1) := by decide +kernel
theorem dX12_wrongPlace_40 : decode cX12_wrongPlace 40 = .ok (.goto 4, 3) := by decide +kernel
theorem dX12_wrongPlace_43 : decode cX12_wrongPlace 43 = .ok (.iconst 0, 1) := by decide +kernel
theorem dX12_wrongPlace_44 : decode cX12_wrongPlace 44 = .ok (.ireturn, 1) := by decide +kernel
set_option maxRecDepth 20000 in
theorem ggX12_write_X12_wrongPlace : GoodIn wsX12_write wsX12_wrongPlace := goodIn_r _ [7, 8, 9, 10, 6, 11, 20, 21, 22, 23, 24, 25, 26, 27, 28, 29, 30, 31, 32, 33, 34, 35, 36, 37, 38, 39, 40, 41, 42, 43, 44, 45, 46, 47, 48, 49, 50, 51, 52, 53, 54, 55, 56, 57, 58, 59, 60, 61] (by decide +kernel) (by decide +kernel)
set_option maxRecDepth 20000 in
theorem gX12_write_X12_wrongPlace : GoodIn wsX12_write (wsV RX12 105 RX12 yX12_wrongPlace wsX12_wrongPlace) := goodIn_app (goodIn_of _ (by decide +kernel)) ggX12_write_X12_wrongPlace
set_option maxRecDepth 20000 in
theorem ggX12_write_X12_cut : GoodIn wsX12_write wsX12_cut := goodIn_r _ [14] (by decide +kernel) (by decide +kernel)
set_option maxRecDepth 20000 in
theorem gX12_write_X12_cut : GoodIn wsX12_write (va_wsS RX12 109 yX12_cut wsX12_cut) := goodIn_app (goodIn_of _ (by decide +kernel)) ggX12_write_X12_cut
set_option maxRecDepth 20000 in
theorem ggX12_write_X12_is : GoodIn wsX12_write wsX12_is := goodIn_r _ [18, 19, 20, 21, 22, 23, 24, 25, 26, 27, 28, 29, 30, 31, 32, 33, 34, 35, 36, 37, 38, 39, 40, 41, 42, 43, 44, 45, 46, 47, 48, 49, 50, 51, 52, 53, 54, 55, 56, 57, 58, 59, 60, 61] (by decide +kernel) (by decide +kernel)
set_option maxRecDepth 20000 in
theorem gX12_write_X12_is : GoodIn wsX12_write (wsV RX12 98 RX12 yX12_is wsX12_is) := goodIn_app (goodIn_of _ (by decide +kernel)) ggX12_write_X12_is
theorem dX12_write_0 : decode cX12_write 0 = .ok (.aload_n 0, 1) := by decide +kernel
theorem dX12_write_1 : decode cX12_write 1 = .ok (.iload_n 1, 1) := by decide +kernel
theorem dX12_write_2 : decode cX12_write 2 = .ok (.iload_n 2, 1) := by decide +kernel
theorem dX12_write_3 : decode cX12_write 3 = .ok (.invokevirtual 105, 3) := by decide +kernel
theorem dX12_write_6 : decode cX12_write 6 = .ok (.istore 5, 2) := by decide +kernel
theorem dX12_write_8 : decode cX12_write 8 = .ok (.iload 5, 2) := by decide +kernel
theorem dX12_write_10 : decode cX12_write 10 = .ok (.ifCond .ne 24, 3) := by decide +kernel
theorem dX12_write_13 : decode cX12_write 13 = .ok (.aload_n 0, 1) := by decide +kernel
theorem dX12_write_14 : decode cX12_write 14 = .ok (.getfield 27, 3) := by decide +kernel
theorem dX12_write_17 : decode cX12_write 17 = .ok (.bipush 60, 2) := by decide +kernel
theorem dX12_write_19 : decode cX12_write 19 = .ok (.iload_n 1, 1) := by decide +kernel
theorem dX12_write_20 : decode cX12_write 20 = .ok (.imul, 1) := by decide +kernel
theorem dX12_write_21 : decode cX12_write 21 = .ok (.iload_n 2, 1) := by decide +kernel
theorem dX12_write_22 : decode cX12_write 22 = .ok (.iadd, 1) := by decide +kernel
theorem dX12_write_23 : decode cX12_write 23 = .ok (.lload_n 3, 1) := by decide +kernel
theorem dX12_write_24 : decode cX12_write 24 = .ok (.aload_n 0, 1) := by decide +kernel
theorem dX12_write_25 : decode cX12_write 25 = .ok (.getfield 21, 3) := by decide +kernel
theorem dX12_write_28 : decode cX12_write 28 = .ok (.iload_n 1, 1) := by decide +kernel
theorem dX12_write_29 : decode cX12_write 29 = .ok (.iaload, 1) := by decide +kernel
theorem dX12_write_30 : decode cX12_write 30 = .ok (.invokestatic 109, 3) := by decide +kernel
theorem dX12_write_33 : decode cX12_write 33 = .ok (.lastore, 1) := by decide +kernel
theorem dX12_write_34 : decode cX12_write 34 = .ok (.aload_n 0, 1) := by decide +kernel
theorem dX12_write_35 : decode cX12_write 35 = .ok (.iload 5, 2) := by decide +kernel
theorem dX12_write_37 : decode cX12_write 37 = .ok (.invokevirtual 98, 3) := by decide +kernel
theorem dX12_write_40 : decode cX12_write 40 = .ok (.ireturn, 1) := by decide +kernel
set_option maxRecDepth 20000 in
theorem ggX12_read_X12_wrongPlace : GoodIn wsX12_read wsX12_wrongPlace := goodIn_r _ [8, 9, 10, 11, 7, 12, 13, 14, 15, 16, 17, 18, 19, 20, 21, 22, 23, 24, 25, 26, 27, 28, 29, 30, 31, 32, 33, 34, 35, 36, 37, 38, 39, 40, 41, 42, 43, 44, 45, 46, 47, 48, 49, 50, 51, 52, 53, 54] (by decide +kernel) (by decide +kernel)
set_option maxRecDepth 20000 in
theorem gX12_read_X12_wrongPlace : GoodIn wsX12_read (wsV RX12 105 RX12 yX12_wrongPlace wsX12_wrongPlace) := goodIn_app (goodIn_of _ (by decide +kernel)) ggX12_read_X12_wrongPlace
theorem dX12_read_0 : decode cX12_read 0 = .ok (.aload_n 0, 1) := by decide +kernel
theorem dX12_read_1 : decode cX12_read 1 = .ok (.aload_n 0, 1) := by decide +kernel
theorem dX12_read_2 : decode cX12_read 2 = .ok (.iload_n 1, 1) := by decide +kernel
theorem dX12_read_3 : decode cX12_read 3 = .ok (.iload_n 2, 1) := by decide +kernel
theorem dX12_read_4 : decode cX12_read 4 = .ok (.invokevirtual 105, 3) := by decide +kernel
theorem dX12_read_7 : decode cX12_read 7 = .ok (.putfield 85, 3) := by decide +kernel
theorem dX12_read_10 : decode cX12_read 10 = .ok (.aload_n 0, 1) := by decide +kernel
theorem dX12_read_11 : decode cX12_read 11 = .ok (.getfield 85, 3) := by decide +kernel
theorem dX12_read_14 : decode cX12_read 14 = .ok (.ifCond .le 9, 3) := by decide +kernel
theorem dX12_read_17 : decode cX12_read 17 = .ok (.ldc2_w 113, 3) := by decide +kernel
theorem dX12_read_20 : decode cX12_read 20 = .ok (.goto 14, 3) := by decide +kernel
theorem dX12_read_23 : decode cX12_read 23 = .ok (.aload_n 0, 1) := by decide +kernel
theorem dX12_read_24 : decode cX12_read 24 = .ok (.getfield 27, 3) := by decide +kernel
theorem dX12_read_27 : decode cX12_read 27 = .ok (.bipush 60, 2) := by decide +kernel
theorem dX12_read_29 : decode cX12_read 29 = .ok (.iload_n 1, 1) := by decide +kernel
theorem dX12_read_30 : decode cX12_read 30 = .ok (.imul, 1) := by decide +kernel
theorem dX12_read_31 : decode cX12_read 31 = .ok (.iload_n 2, 1) := by decide +kernel
theorem dX12_read_32 : decode cX12_read 32 = .ok (.iadd, 1) := by decide +kernel
theorem dX12_read_33 : decode cX12_read 33 = .ok (.laload, 1) := by decide +kernel
theorem dX12_read_34 : decode cX12_read 34 = .ok (.lreturn, 1) := by decide +kernel
set_option maxRecDepth 20000 in
theorem ggX12_pour_X12_isTray : GoodIn wsX12_pour wsX12_isTray := goodIn_r _ [7] (by decide +kernel) (by decide +kernel)
set_option maxRecDepth 20000 in
theorem gX12_pour_X12_isTray : GoodIn wsX12_pour (va_wsS RX12 102 yX12_isTray wsX12_isTray) := goodIn_app (goodIn_of _ (by decide +kernel)) ggX12_pour_X12_isTray
set_option maxRecDepth 20000 in
theorem ggX12_pour_X12_is : GoodIn wsX12_pour wsX12_is := goodIn_r _ [11, 12, 13, 14, 15, 16, 17, 18, 19, 20, 21, 22, 23, 24, 25, 26, 27, 28, 29, 30, 31, 32, 33, 34, 35, 36, 37, 38, 39, 40, 41, 42, 43, 44, 45, 46, 47, 48, 49, 50, 51, 52, 53, 54] (by decide +kernel) (by decide +kernel)
set_option maxRecDepth 20000 in
theorem gX12_pour_X12_is : GoodIn wsX12_pour (wsV RX12 98 RX12 yX12_is wsX12_is) := goodIn_app (goodIn_of _ (by decide +kernel)) ggX12_pour_X12_is
theorem dX12_pour_0 : decode cX12_pour 0 = .ok (.iload_n 1, 1) := by decide +kernel
theorem dX12_pour_1 : decode cX12_pour 1 = .ok (.invokestatic 102, 3) := by decide +kernel
theorem dX12_pour_4 : decode cX12_pour 4 = .ok (.ifCond .eq 24, 3) := by decide +kernel
theorem dX12_pour_7 : decode cX12_pour 7 = .ok (.iload_n 3, 1) := by decide +kernel
theorem dX12_pour_8 : decode cX12_pour 8 = .ok (.invokestatic 102, 3) := by decide +kernel
theorem dX12_pour_11 : decode cX12_pour 11 = .ok (.ifCond .eq 17, 3) := by decide +kernel
theorem dX12_pour_14 : decode cX12_pour 14 = .ok (.iload_n 2, 1) := by decide +kernel
theorem dX12_pour_15 : decode cX12_pour 15 = .ok (.ifCond .lt 13, 3) := by decide +kernel
theorem dX12_pour_18 : decode cX12_pour 18 = .ok (.iload 4, 2) := by decide +kernel
theorem dX12_pour_20 : decode cX12_pour 20 = .ok (.ifCond .lt 8, 3) := by decide +kernel
theorem dX12_pour_23 : decode cX12_pour 23 = .ok (.iload 5, 2) := by decide +kernel
theorem dX12_pour_25 : decode cX12_pour 25 = .ok (.ifCond .ge 9, 3) := by decide +kernel
theorem dX12_pour_28 : decode cX12_pour 28 = .ok (.aload_n 0, 1) := by decide +kernel
theorem dX12_pour_29 : decode cX12_pour 29 = .ok (.iconst 1, 1) := by decide +kernel
theorem dX12_pour_30 : decode cX12_pour 30 = .ok (.invokevirtual 98, 3) := by decide +kernel
theorem dX12_pour_33 : decode cX12_pour 33 = .ok (.ireturn, 1) := by decide +kernel
theorem dX12_pour_34 : decode cX12_pour 34 = .ok (.aload_n 0, 1) := by decide +kernel
theorem dX12_pour_35 : decode cX12_pour 35 = .ok (.getfield 24, 3) := by decide +kernel
theorem dX12_pour_38 : decode cX12_pour 38 = .ok (.iload_n 1, 1) := by decide +kernel
theorem dX12_pour_39 : decode cX12_pour 39 = .ok (.iaload, 1) := by decide +kernel
theorem dX12_pour_40 : decode cX12_pour 40 = .ok (.iconst (-1), 1) := by decide +kernel
theorem dX12_pour_41 : decode cX12_pour 41 = .ok (.if_icmp .eq 13, 3) := by decide +kernel
theorem dX12_pour_44 : decode cX12_pour 44 = .ok (.aload_n 0, 1) := by decide +kernel
theorem dX12_pour_45 : decode cX12_pour 45 = .ok (.getfield 24, 3) := by decide +kernel
theorem dX12_pour_48 : decode cX12_pour 48 = .ok (.iload_n 3, 1) := by decide +kernel
theorem dX12_pour_49 : decode cX12_pour 49 = .ok (.iaload, 1) := by decide +kernel
theorem dX12_pour_50 : decode cX12_pour 50 = .ok (.iconst (-1), 1) := by decide +kernel
theorem dX12_pour_51 : decode cX12_pour 51 = .ok (.if_icmp .ne 9, 3) := by decide +kernel
theorem dX12_pour_54 : decode cX12_pour 54 = .ok (.aload_n 0, 1) := by decide +kernel
theorem dX12_pour_55 : decode cX12_pour 55 = .ok (.iconst 2, 1) := by decide +kernel
theorem dX12_pour_56 : decode cX12_pour 56 = .ok (.invokevirtual 98, 3) := by decide +kernel
theorem dX12_pour_59 : decode cX12_pour 59 = .ok (.ireturn, 1) := by decide +kernel
theorem dX12_pour_60 : decode cX12_pour 60 = .ok (.aload_n 0, 1) := by decide +kernel
theorem dX12_pour_61 : decode cX12_pour 61 = .ok (.getfield 21, 3) := by decide +kernel
theorem dX12_pour_64 : decode cX12_pour 64 = .ok (.iload_n 1, 1) := by decide +kernel
theorem dX12_pour_65 : decode cX12_pour 65 = .ok (.iaload, 1) := by decide +kernel
theorem dX12_pour_66 : decode cX12_pour 66 = .ok (.aload_n 0, 1) := by decide +kernel
theorem dX12_pour_67 : decode cX12_pour 67 = .ok (.getfield 21, 3) := by decide +kernel
theorem dX12_pour_70 : decode cX12_pour 70 = .ok (.iload_n 3, 1) := by decide +kernel
theorem dX12_pour_71 : decode cX12_pour 71 = .ok (.iaload, 1) := by decide +kernel
theorem dX12_pour_72 : decode cX12_pour 72 = .ok (.if_icmp .eq 10, 3) := by decide +kernel
theorem dX12_pour_75 : decode cX12_pour 75 = .ok (.aload_n 0, 1) := by decide +kernel
theorem dX12_pour_76 : decode cX12_pour 76 = .ok (.bipush 8, 2) := by decide +kernel
theorem dX12_pour_78 : decode cX12_pour 78 = .ok (.invokevirtual 98, 3) := by decide +kernel
theorem dX12_pour_81 : decode cX12_pour 81 = .ok (.ireturn, 1) := by decide +kernel
theorem dX12_pour_82 : decode cX12_pour 82 = .ok (.iload 5, 2) := by decide +kernel
theorem dX12_pour_84 : decode cX12_pour 84 = .ok (.aload_n 0, 1) := by decide +kernel
theorem dX12_pour_85 : decode cX12_pour 85 = .ok (.getfield 24, 3) := by decide +kernel
theorem dX12_pour_88 : decode cX12_pour 88 = .ok (.iload_n 1, 1) := by decide +kernel
theorem dX12_pour_89 : decode cX12_pour 89 = .ok (.iaload, 1) := by decide +kernel
theorem dX12_pour_90 : decode cX12_pour 90 = .ok (.iload_n 2, 1) := by decide +kernel
theorem dX12_pour_91 : decode cX12_pour 91 = .ok (.isub, 1) := by decide +kernel
theorem dX12_pour_92 : decode cX12_pour 92 = .ok (.if_icmp .gt 17, 3) := by decide +kernel
theorem dX12_pour_95 : decode cX12_pour 95 = .ok (.iload 5, 2) := by decide +kernel
theorem dX12_pour_97 : decode cX12_pour 97 = .ok (.aload_n 0, 1) := by decide +kernel
theorem dX12_pour_98 : decode cX12_pour 98 = .ok (.getfield 24, 3) := by decide +kernel
theorem dX12_pour_101 : decode cX12_pour 101 = .ok (.iload_n 3, 1) := by decide +kernel
theorem dX12_pour_102 : decode cX12_pour 102 = .ok (.iaload, 1) := by decide +kernel
theorem dX12_pour_103 : decode cX12_pour 103 = .ok (.iload 4, 2) := by decide +kernel
theorem dX12_pour_105 : decode cX12_pour 105 = .ok (.isub, 1) := by decide +kernel
theorem dX12_pour_106 : decode cX12_pour 106 = .ok (.if_icmp .le 9, 3) := by decide +kernel
theorem dX12_pour_109 : decode cX12_pour 109 = .ok (.aload_n 0, 1) := by decide +kernel
theorem dX12_pour_110 : decode cX12_pour 110 = .ok (.iconst 3, 1) := by decide +kernel
theorem dX12_pour_111 : decode cX12_pour 111 = .ok (.invokevirtual 98, 3) := by decide +kernel
theorem dX12_pour_114 : decode cX12_pour 114 = .ok (.ireturn, 1) := by decide +kernel
theorem dX12_pour_115 : decode cX12_pour 115 = .ok (.iconst 0, 1) := by decide +kernel
theorem dX12_pour_116 : decode cX12_pour 116 = .ok (.istore 6, 2) := by decide +kernel
theorem dX12_pour_118 : decode cX12_pour 118 = .ok (.iload 6, 2) := by decide +kernel
theorem dX12_pour_120 : decode cX12_pour 120 = .ok (.iload 5, 2) := by decide +kernel
theorem dX12_pour_122 : decode cX12_pour 122 = .ok (.if_icmp .ge 58, 3) := by decide +kernel
theorem dX12_pour_125 : decode cX12_pour 125 = .ok (.iload_n 2, 1) := by decide +kernel
theorem dX12_pour_126 : decode cX12_pour 126 = .ok (.iload 4, 2) := by decide +kernel
theorem dX12_pour_128 : decode cX12_pour 128 = .ok (.if_icmp .ge 13, 3) := by decide +kernel
theorem dX12_pour_131 : decode cX12_pour 131 = .ok (.iload 5, 2) := by decide +kernel
theorem dX12_pour_133 : decode cX12_pour 133 = .ok (.iconst 1, 1) := by decide +kernel
theorem dX12_pour_134 : decode cX12_pour 134 = .ok (.isub, 1) := by decide +kernel
theorem dX12_pour_135 : decode cX12_pour 135 = .ok (.iload 6, 2) := by decide +kernel
theorem dX12_pour_137 : decode cX12_pour 137 = .ok (.isub, 1) := by decide +kernel
theorem dX12_pour_138 : decode cX12_pour 138 = .ok (.goto 5, 3) := by decide +kernel
theorem dX12_pour_141 : decode cX12_pour 141 = .ok (.iload 6, 2) := by decide +kernel
theorem dX12_pour_143 : decode cX12_pour 143 = .ok (.istore 7, 2) := by decide +kernel
theorem dX12_pour_145 : decode cX12_pour 145 = .ok (.aload_n 0, 1) := by decide +kernel
theorem dX12_pour_146 : decode cX12_pour 146 = .ok (.getfield 27, 3) := by decide +kernel
theorem dX12_pour_149 : decode cX12_pour 149 = .ok (.bipush 60, 2) := by decide +kernel
theorem dX12_pour_151 : decode cX12_pour 151 = .ok (.iload_n 3, 1) := by decide +kernel
theorem dX12_pour_152 : decode cX12_pour 152 = .ok (.imul, 1) := by decide +kernel
theorem dX12_pour_153 : decode cX12_pour 153 = .ok (.iload 4, 2) := by decide +kernel
theorem dX12_pour_155 : decode cX12_pour 155 = .ok (.iadd, 1) := by decide +kernel
theorem dX12_pour_156 : decode cX12_pour 156 = .ok (.iload 7, 2) := by decide +kernel
theorem dX12_pour_158 : decode cX12_pour 158 = .ok (.iadd, 1) := by decide +kernel
theorem dX12_pour_159 : decode cX12_pour 159 = .ok (.aload_n 0, 1) := by decide +kernel
theorem dX12_pour_160 : decode cX12_pour 160 = .ok (.getfield 27, 3) := by decide +kernel
theorem dX12_pour_163 : decode cX12_pour 163 = .ok (.bipush 60, 2) := by decide +kernel
theorem dX12_pour_165 : decode cX12_pour 165 = .ok (.iload_n 1, 1) := by decide +kernel
theorem dX12_pour_166 : decode cX12_pour 166 = .ok (.imul, 1) := by decide +kernel
theorem dX12_pour_167 : decode cX12_pour 167 = .ok (.iload_n 2, 1) := by decide +kernel
theorem dX12_pour_168 : decode cX12_pour 168 = .ok (.iadd, 1) := by decide +kernel
theorem dX12_pour_169 : decode cX12_pour 169 = .ok (.iload 7, 2) := by decide +kernel
theorem dX12_pour_171 : decode cX12_pour 171 = .ok (.iadd, 1) := by decide +kernel
theorem dX12_pour_172 : decode cX12_pour 172 = .ok (.laload, 1) := by decide +kernel
theorem dX12_pour_173 : decode cX12_pour 173 = .ok (.lastore, 1) := by decide +kernel
theorem dX12_pour_174 : decode cX12_pour 174 = .ok (.iinc 6 1, 3) := by decide +kernel
theorem dX12_pour_177 : decode cX12_pour 177 = .ok (.goto (-59), 3) := by decide +kernel
theorem dX12_pour_180 : decode cX12_pour 180 = .ok (.aload_n 0, 1) := by decide +kernel
theorem dX12_pour_181 : decode cX12_pour 181 = .ok (.iconst 0, 1) := by decide +kernel
theorem dX12_pour_182 : decode cX12_pour 182 = .ok (.invokevirtual 98, 3) := by decide +kernel
theorem dX12_pour_185 : decode cX12_pour 185 = .ok (.ireturn, 1) := by decide +kernel
theorem dX12_isFrom_0 : decode cX12_isFrom 0 = .ok (.lload_n 0, 1) := by decide +kernel
theorem dX12_isFrom_1 : decode cX12_isFrom 1 = .ok (.lload_n 2, 1) := by decide +kernel
theorem dX12_isFrom_2 : decode cX12_isFrom 2 = .ok (.lcmp, 1) := by decide +kernel
theorem dX12_isFrom_3 : decode cX12_isFrom 3 = .ok (.ifCond .lt 14, 3) := by decide +kernel
theorem dX12_isFrom_6 : decode cX12_isFrom 6 = .ok (.lload_n 0, 1) := by decide +kernel
theorem dX12_isFrom_7 : decode cX12_isFrom 7 = .ok (.lload 4, 2) := by decide +kernel
theorem dX12_isFrom_9 : decode cX12_isFrom 9 = .ok (.lcmp, 1) := by decide +kernel
theorem dX12_isFrom_10 : decode cX12_isFrom 10 = .ok (.ifCond .gt 7, 3) := by decide +kernel
theorem dX12_isFrom_13 : decode cX12_isFrom 13 = .ok (.iconst 1, 1) := by decide +kernel
theorem dX12_isFrom_14 : decode cX12_isFrom 14 = .ok (.goto 4, 3) := by decide +kernel
theorem dX12_isFrom_17 : decode cX12_isFrom 17 = .ok (.iconst 0, 1) := by decide +kernel
theorem dX12_isFrom_18 : decode cX12_isFrom 18 = .ok (.ireturn, 1) := by decide +kernel
set_option maxRecDepth 20000 in
theorem ggX12_feed_X12_four : GoodIn wsX12_feed wsX12_four := goodIn_r _ [6, 7, 1, 8, 9, 10, 11, 12, 13, 14, 15, 16, 17, 18, 19, 20, 21, 22, 23, 24, 25, 26, 27, 28, 29, 30, 31, 32, 33, 34, 35, 36, 37, 38, 39, 40, 41, 42, 43, 44, 45, 46, 47, 48, 49] (by decide +kernel) (by decide +kernel)
set_option maxRecDepth 20000 in
theorem gX12_feed_X12_four : GoodIn wsX12_feed (wsV RX12 118 RX12 yX12_four wsX12_four) := goodIn_app (goodIn_of _ (by decide +kernel)) ggX12_feed_X12_four
theorem dX12_feed_0 : decode cX12_feed 0 = .ok (.aload_n 0, 1) := by decide +kernel
theorem dX12_feed_1 : decode cX12_feed 1 = .ok (.getfield 115, 3) := by decide +kernel
theorem dX12_feed_4 : decode cX12_feed 4 = .ok (.bipush 20, 2) := by decide +kernel
theorem dX12_feed_6 : decode cX12_feed 6 = .ok (.iadd, 1) := by decide +kernel
theorem dX12_feed_7 : decode cX12_feed 7 = .ok (.sipush 900, 3) := by decide +kernel
theorem dX12_feed_10 : decode cX12_feed 10 = .ok (.if_icmp .le 5, 3) := by decide +kernel
theorem dX12_feed_13 : decode cX12_feed 13 = .ok (.iconst (-1), 1) := by decide +kernel
theorem dX12_feed_14 : decode cX12_feed 14 = .ok (.ireturn, 1) := by decide +kernel
theorem dX12_feed_15 : decode cX12_feed 15 = .ok (.aload_n 0, 1) := by decide +kernel
theorem dX12_feed_16 : decode cX12_feed 16 = .ok (.iload_n 1, 1) := by decide +kernel
theorem dX12_feed_17 : decode cX12_feed 17 = .ok (.invokevirtual 118, 3) := by decide +kernel
theorem dX12_feed_20 : decode cX12_feed 20 = .ok (.aload_n 0, 1) := by decide +kernel
theorem dX12_feed_21 : decode cX12_feed 21 = .ok (.iload_n 2, 1) := by decide +kernel
theorem dX12_feed_22 : decode cX12_feed 22 = .ok (.invokevirtual 118, 3) := by decide +kernel
theorem dX12_feed_25 : decode cX12_feed 25 = .ok (.aload_n 0, 1) := by decide +kernel
theorem dX12_feed_26 : decode cX12_feed 26 = .ok (.iload_n 3, 1) := by decide +kernel
theorem dX12_feed_27 : decode cX12_feed 27 = .ok (.invokevirtual 118, 3) := by decide +kernel
theorem dX12_feed_30 : decode cX12_feed 30 = .ok (.aload_n 0, 1) := by decide +kernel
theorem dX12_feed_31 : decode cX12_feed 31 = .ok (.iload 4, 2) := by decide +kernel
theorem dX12_feed_33 : decode cX12_feed 33 = .ok (.invokevirtual 118, 3) := by decide +kernel
theorem dX12_feed_36 : decode cX12_feed 36 = .ok (.aload_n 0, 1) := by decide +kernel
theorem dX12_feed_37 : decode cX12_feed 37 = .ok (.iload 5, 2) := by decide +kernel
theorem dX12_feed_39 : decode cX12_feed 39 = .ok (.invokevirtual 118, 3) := by decide +kernel
theorem dX12_feed_42 : decode cX12_feed 42 = .ok (.aload_n 0, 1) := by decide +kernel
theorem dX12_feed_43 : decode cX12_feed 43 = .ok (.getfield 115, 3) := by decide +kernel
theorem dX12_feed_46 : decode cX12_feed 46 = .ok (.ireturn, 1) := by decide +kernel
theorem dX12_four_0 : decode cX12_four 0 = .ok (.bipush 24, 2) := by decide +kernel
theorem dX12_four_2 : decode cX12_four 2 = .ok (.istore_n 2, 1) := by decide +kernel
theorem dX12_four_3 : decode cX12_four 3 = .ok (.iload_n 2, 1) := by decide +kernel
theorem dX12_four_4 : decode cX12_four 4 = .ok (.ifCond .lt 32, 3) := by decide +kernel
theorem dX12_four_7 : decode cX12_four 7 = .ok (.aload_n 0, 1) := by decide +kernel
theorem dX12_four_8 : decode cX12_four 8 = .ok (.getfield 30, 3) := by decide +kernel
theorem dX12_four_11 : decode cX12_four 11 = .ok (.aload_n 0, 1) := by decide +kernel
theorem dX12_four_12 : decode cX12_four 12 = .ok (.getfield 115, 3) := by decide +kernel
theorem dX12_four_15 : decode cX12_four 15 = .ok (.iload_n 1, 1) := by decide +kernel
theorem dX12_four_16 : decode cX12_four 16 = .ok (.iload_n 2, 1) := by decide +kernel
theorem dX12_four_17 : decode cX12_four 17 = .ok (.ishr, 1) := by decide +kernel
theorem dX12_four_18 : decode cX12_four 18 = .ok (.i2b, 1) := by decide +kernel
theorem dX12_four_19 : decode cX12_four 19 = .ok (.bastore, 1) := by decide +kernel
theorem dX12_four_20 : decode cX12_four 20 = .ok (.aload_n 0, 1) := by decide +kernel
theorem dX12_four_21 : decode cX12_four 21 = .ok (.dup, 1) := by decide +kernel
theorem dX12_four_22 : decode cX12_four 22 = .ok (.getfield 115, 3) := by decide +kernel
theorem dX12_four_25 : decode cX12_four 25 = .ok (.iconst 1, 1) := by decide +kernel
theorem dX12_four_26 : decode cX12_four 26 = .ok (.iadd, 1) := by decide +kernel
theorem dX12_four_27 : decode cX12_four 27 = .ok (.putfield 115, 3) := by decide +kernel
theorem dX12_four_30 : decode cX12_four 30 = .ok (.iinc 2 (-8), 3) := by decide +kernel
theorem dX12_four_33 : decode cX12_four 33 = .ok (.goto (-30), 3) := by decide +kernel
theorem dX12_four_36 : decode cX12_four 36 = .ok (.return_, 1) := by decide +kernel
theorem dX12_byteAt_0 : decode cX12_byteAt 0 = .ok (.iload_n 1, 1) := by decide +kernel
theorem dX12_byteAt_1 : decode cX12_byteAt 1 = .ok (.aload_n 0, 1) := by decide +kernel
theorem dX12_byteAt_2 : decode cX12_byteAt 2 = .ok (.getfield 121, 3) := by decide +kernel
theorem dX12_byteAt_5 : decode cX12_byteAt 5 = .ok (.if_icmp .ge 16, 3) := by decide +kernel
theorem dX12_byteAt_8 : decode cX12_byteAt 8 = .ok (.aload_n 0, 1) := by decide +kernel
theorem dX12_byteAt_9 : decode cX12_byteAt 9 = .ok (.getfield 34, 3) := by decide +kernel
theorem dX12_byteAt_12 : decode cX12_byteAt 12 = .ok (.iload_n 1, 1) := by decide +kernel
theorem dX12_byteAt_13 : decode cX12_byteAt 13 = .ok (.baload, 1) := by decide +kernel
theorem dX12_byteAt_14 : decode cX12_byteAt 14 = .ok (.sipush 255, 3) := by decide +kernel
theorem dX12_byteAt_17 : decode cX12_byteAt 17 = .ok (.iand, 1) := by decide +kernel
theorem dX12_byteAt_18 : decode cX12_byteAt 18 = .ok (.goto 4, 3) := by decide +kernel
theorem dX12_byteAt_21 : decode cX12_byteAt 21 = .ok (.iconst (-1), 1) := by decide +kernel
theorem dX12_byteAt_22 : decode cX12_byteAt 22 = .ok (.ireturn, 1) := by decide +kernel
theorem dX12_isSmall_0 : decode cX12_isSmall 0 = .ok (.iload_n 0, 1) := by decide +kernel
theorem dX12_isSmall_1 : decode cX12_isSmall 1 = .ok (.bipush 97, 2) := by decide +kernel
theorem dX12_isSmall_3 : decode cX12_isSmall 3 = .ok (.if_icmp .lt 13, 3) := by decide +kernel
theorem dX12_isSmall_6 : decode cX12_isSmall 6 = .ok (.iload_n 0, 1) := by decide +kernel
theorem dX12_isSmall_7 : decode cX12_isSmall 7 = .ok (.bipush 122, 2) := by decide +kernel
theorem dX12_isSmall_9 : decode cX12_isSmall 9 = .ok (.if_icmp .gt 7, 3) := by decide +kernel
theorem dX12_isSmall_12 : decode cX12_isSmall 12 = .ok (.iconst 1, 1) := by decide +kernel
theorem dX12_isSmall_13 : decode cX12_isSmall 13 = .ok (.goto 4, 3) := by decide +kernel
theorem dX12_isSmall_16 : decode cX12_isSmall 16 = .ok (.iconst 0, 1) := by decide +kernel
theorem dX12_isSmall_17 : decode cX12_isSmall 17 = .ok (.ireturn, 1) := by decide +kernel
theorem dX12_isDigit_0 : decode cX12_isDigit 0 = .ok (.iload_n 0, 1) := by decide +kernel
theorem dX12_isDigit_1 : decode cX12_isDigit 1 = .ok (.bipush 48, 2) := by decide +kernel
theorem dX12_isDigit_3 : decode cX12_isDigit 3 = .ok (.if_icmp .lt 13, 3) := by decide +kernel
theorem dX12_isDigit_6 : decode cX12_isDigit 6 = .ok (.iload_n 0, 1) := by decide +kernel
theorem dX12_isDigit_7 : decode cX12_isDigit 7 = .ok (.bipush 57, 2) := by decide +kernel
theorem dX12_isDigit_9 : decode cX12_isDigit 9 = .ok (.if_icmp .gt 7, 3) := by decide +kernel
theorem dX12_isDigit_12 : decode cX12_isDigit 12 = .ok (.iconst 1, 1) := by decide +kernel
theorem dX12_isDigit_13 : decode cX12_isDigit 13 = .ok (.goto 4, 3) := by decide +kernel
theorem dX12_isDigit_16 : decode cX12_isDigit 16 = .ok (.iconst 0, 1) := by decide +kernel
theorem dX12_isDigit_17 : decode cX12_isDigit 17 = .ok (.ireturn, 1) := by decide +kernel
set_option maxRecDepth 20000 in
theorem ggX12_ahead_X12_byteAt : GoodIn wsX12_ahead wsX12_byteAt := goodIn_r _ [14, 15, 16, 23, 24, 25, 26, 27, 28, 29, 30, 31, 32, 33, 34, 35, 36, 37, 38, 39, 40, 41, 42, 43, 44, 45, 46, 47, 48, 49, 50, 51, 52, 53, 54, 55, 56, 57, 58, 59, 60, 61, 62, 63, 64] (by decide +kernel) (by decide +kernel)
set_option maxRecDepth 20000 in
theorem gX12_ahead_X12_byteAt : GoodIn wsX12_ahead (wsV RX12 127 RX12 yX12_byteAt wsX12_byteAt) := goodIn_app (goodIn_of _ (by decide +kernel)) ggX12_ahead_X12_byteAt
set_option maxRecDepth 20000 in
theorem ggX12_ahead_X12_isSmall : GoodIn wsX12_ahead wsX12_isSmall := goodIn_r _ [19] (by decide +kernel) (by decide +kernel)
set_option maxRecDepth 20000 in
theorem gX12_ahead_X12_isSmall : GoodIn wsX12_ahead (va_wsS RX12 139 yX12_isSmall wsX12_isSmall) := goodIn_app (goodIn_of _ (by decide +kernel)) ggX12_ahead_X12_isSmall
set_option maxRecDepth 20000 in
theorem ggX12_ahead_X12_isDigit : GoodIn wsX12_ahead wsX12_isDigit := goodIn_r _ [22] (by decide +kernel) (by decide +kernel)
set_option maxRecDepth 20000 in
theorem gX12_ahead_X12_isDigit : GoodIn wsX12_ahead (va_wsS RX12 142 yX12_isDigit wsX12_isDigit) := goodIn_app (goodIn_of _ (by decide +kernel)) ggX12_ahead_X12_isDigit
theorem dX12_ahead_0 : decode cX12_ahead 0 = .ok (.aload_n 0, 1) := by decide +kernel
theorem dX12_ahead_1 : decode cX12_ahead 1 = .ok (.aload_n 0, 1) := by decide +kernel
theorem dX12_ahead_2 : decode cX12_ahead 2 = .ok (.getfield 124, 3) := by decide +kernel
theorem dX12_ahead_5 : decode cX12_ahead 5 = .ok (.invokevirtual 127, 3) := by decide +kernel
theorem dX12_ahead_8 : decode cX12_ahead 8 = .ok (.bipush 32, 2) := by decide +kernel
theorem dX12_ahead_10 : decode cX12_ahead 10 = .ok (.if_icmp .eq 16, 3) := by decide +kernel
theorem dX12_ahead_13 : decode cX12_ahead 13 = .ok (.aload_n 0, 1) := by decide +kernel
theorem dX12_ahead_14 : decode cX12_ahead 14 = .ok (.aload_n 0, 1) := by decide +kernel
theorem dX12_ahead_15 : decode cX12_ahead 15 = .ok (.getfield 124, 3) := by decide +kernel
theorem dX12_ahead_18 : decode cX12_ahead 18 = .ok (.invokevirtual 127, 3) := by decide +kernel
theorem dX12_ahead_21 : decode cX12_ahead 21 = .ok (.bipush 10, 2) := by decide +kernel
theorem dX12_ahead_23 : decode cX12_ahead 23 = .ok (.if_icmp .ne 16, 3) := by decide +kernel
theorem dX12_ahead_26 : decode cX12_ahead 26 = .ok (.aload_n 0, 1) := by decide +kernel
theorem dX12_ahead_27 : decode cX12_ahead 27 = .ok (.dup, 1) := by decide +kernel
theorem dX12_ahead_28 : decode cX12_ahead 28 = .ok (.getfield 124, 3) := by decide +kernel
theorem dX12_ahead_31 : decode cX12_ahead 31 = .ok (.iconst 1, 1) := by decide +kernel
theorem dX12_ahead_32 : decode cX12_ahead 32 = .ok (.iadd, 1) := by decide +kernel
theorem dX12_ahead_33 : decode cX12_ahead 33 = .ok (.putfield 124, 3) := by decide +kernel
theorem dX12_ahead_36 : decode cX12_ahead 36 = .ok (.goto (-36), 3) := by decide +kernel
theorem dX12_ahead_39 : decode cX12_ahead 39 = .ok (.aload_n 0, 1) := by decide +kernel
theorem dX12_ahead_40 : decode cX12_ahead 40 = .ok (.aload_n 0, 1) := by decide +kernel
theorem dX12_ahead_41 : decode cX12_ahead 41 = .ok (.getfield 124, 3) := by decide +kernel
theorem dX12_ahead_44 : decode cX12_ahead 44 = .ok (.putfield 130, 3) := by decide +kernel
theorem dX12_ahead_47 : decode cX12_ahead 47 = .ok (.aload_n 0, 1) := by decide +kernel
theorem dX12_ahead_48 : decode cX12_ahead 48 = .ok (.aload_n 0, 1) := by decide +kernel
theorem dX12_ahead_49 : decode cX12_ahead 49 = .ok (.getfield 124, 3) := by decide +kernel
theorem dX12_ahead_52 : decode cX12_ahead 52 = .ok (.invokevirtual 127, 3) := by decide +kernel
theorem dX12_ahead_55 : decode cX12_ahead 55 = .ok (.istore_n 1, 1) := by decide +kernel
theorem dX12_ahead_56 : decode cX12_ahead 56 = .ok (.aload_n 0, 1) := by decide +kernel
theorem dX12_ahead_57 : decode cX12_ahead 57 = .ok (.iload_n 1, 1) := by decide +kernel
theorem dX12_ahead_58 : decode cX12_ahead 58 = .ok (.putfield 133, 3) := by decide +kernel
theorem dX12_ahead_61 : decode cX12_ahead 61 = .ok (.iload_n 1, 1) := by decide +kernel
theorem dX12_ahead_62 : decode cX12_ahead 62 = .ok (.iconst (-1), 1) := by decide +kernel
theorem dX12_ahead_63 : decode cX12_ahead 63 = .ok (.if_icmp .ne 11, 3) := by decide +kernel
theorem dX12_ahead_66 : decode cX12_ahead 66 = .ok (.aload_n 0, 1) := by decide +kernel
theorem dX12_ahead_67 : decode cX12_ahead 67 = .ok (.iconst 0, 1) := by decide +kernel
theorem dX12_ahead_68 : decode cX12_ahead 68 = .ok (.putfield 136, 3) := by decide +kernel
theorem dX12_ahead_71 : decode cX12_ahead 71 = .ok (.goto 180, 3) := by decide +kernel
theorem dX12_ahead_74 : decode cX12_ahead 74 = .ok (.iload_n 1, 1) := by decide +kernel
theorem dX12_ahead_75 : decode cX12_ahead 75 = .ok (.invokestatic 139, 3) := by decide +kernel
theorem dX12_ahead_78 : decode cX12_ahead 78 = .ok (.ifCond .eq 38, 3) := by decide +kernel
theorem dX12_ahead_81 : decode cX12_ahead 81 = .ok (.aload_n 0, 1) := by decide +kernel
theorem dX12_ahead_82 : decode cX12_ahead 82 = .ok (.aload_n 0, 1) := by decide +kernel
theorem dX12_ahead_83 : decode cX12_ahead 83 = .ok (.getfield 124, 3) := by decide +kernel
theorem dX12_ahead_86 : decode cX12_ahead 86 = .ok (.invokevirtual 127, 3) := by decide +kernel
theorem dX12_ahead_89 : decode cX12_ahead 89 = .ok (.invokestatic 139, 3) := by decide +kernel
theorem dX12_ahead_92 : decode cX12_ahead 92 = .ok (.ifCond .eq 16, 3) := by decide +kernel
theorem dX12_ahead_95 : decode cX12_ahead 95 = .ok (.aload_n 0, 1) := by decide +kernel
theorem dX12_ahead_96 : decode cX12_ahead 96 = .ok (.dup, 1) := by decide +kernel
theorem dX12_ahead_97 : decode cX12_ahead 97 = .ok (.getfield 124, 3) := by decide +kernel
theorem dX12_ahead_100 : decode cX12_ahead 100 = .ok (.iconst 1, 1) := by decide +kernel
theorem dX12_ahead_101 : decode cX12_ahead 101 = .ok (.iadd, 1) := by decide +kernel
theorem dX12_ahead_102 : decode cX12_ahead 102 = .ok (.putfield 124, 3) := by decide +kernel
theorem dX12_ahead_105 : decode cX12_ahead 105 = .ok (.goto (-24), 3) := by decide +kernel
theorem dX12_ahead_108 : decode cX12_ahead 108 = .ok (.aload_n 0, 1) := by decide +kernel
theorem dX12_ahead_109 : decode cX12_ahead 109 = .ok (.iconst 2, 1) := by decide +kernel
theorem dX12_ahead_110 : decode cX12_ahead 110 = .ok (.putfield 136, 3) := by decide +kernel
theorem dX12_ahead_113 : decode cX12_ahead 113 = .ok (.goto 138, 3) := by decide +kernel
theorem dX12_ahead_116 : decode cX12_ahead 116 = .ok (.iload_n 1, 1) := by decide +kernel
theorem dX12_ahead_117 : decode cX12_ahead 117 = .ok (.invokestatic 142, 3) := by decide +kernel
theorem dX12_ahead_120 : decode cX12_ahead 120 = .ok (.ifCond .eq 88, 3) := by decide +kernel
theorem dX12_ahead_123 : decode cX12_ahead 123 = .ok (.aload_n 0, 1) := by decide +kernel
theorem dX12_ahead_124 : decode cX12_ahead 124 = .ok (.iconst 0, 1) := by decide +kernel
theorem dX12_ahead_125 : decode cX12_ahead 125 = .ok (.putfield 133, 3) := by decide +kernel
theorem dX12_ahead_128 : decode cX12_ahead 128 = .ok (.aload_n 0, 1) := by decide +kernel
theorem dX12_ahead_129 : decode cX12_ahead 129 = .ok (.aload_n 0, 1) := by decide +kernel
theorem dX12_ahead_130 : decode cX12_ahead 130 = .ok (.getfield 124, 3) := by decide +kernel
theorem dX12_ahead_133 : decode cX12_ahead 133 = .ok (.invokevirtual 127, 3) := by decide +kernel
theorem dX12_ahead_136 : decode cX12_ahead 136 = .ok (.invokestatic 142, 3) := by decide +kernel
theorem dX12_ahead_139 : decode cX12_ahead 139 = .ok (.ifCond .eq 44, 3) := by decide +kernel
theorem dX12_ahead_142 : decode cX12_ahead 142 = .ok (.aload_n 0, 1) := by decide +kernel
theorem dX12_ahead_143 : decode cX12_ahead 143 = .ok (.ldc 145, 2) := by decide +kernel
theorem dX12_ahead_145 : decode cX12_ahead 145 = .ok (.bipush 10, 2) := by decide +kernel
theorem dX12_ahead_147 : decode cX12_ahead 147 = .ok (.aload_n 0, 1) := by decide +kernel
theorem dX12_ahead_148 : decode cX12_ahead 148 = .ok (.getfield 133, 3) := by decide +kernel
theorem dX12_ahead_151 : decode cX12_ahead 151 = .ok (.imul, 1) := by decide +kernel
theorem dX12_ahead_152 : decode cX12_ahead 152 = .ok (.aload_n 0, 1) := by decide +kernel
theorem dX12_ahead_153 : decode cX12_ahead 153 = .ok (.aload_n 0, 1) := by decide +kernel
theorem dX12_ahead_154 : decode cX12_ahead 154 = .ok (.getfield 124, 3) := by decide +kernel
theorem dX12_ahead_157 : decode cX12_ahead 157 = .ok (.invokevirtual 127, 3) := by decide +kernel
theorem dX12_ahead_160 : decode cX12_ahead 160 = .ok (.iadd, 1) := by decide +kernel
theorem dX12_ahead_161 : decode cX12_ahead 161 = .ok (.bipush 48, 2) := by decide +kernel
theorem dX12_ahead_163 : decode cX12_ahead 163 = .ok (.isub, 1) := by decide +kernel
theorem dX12_ahead_164 : decode cX12_ahead 164 = .ok (.invokestatic 146, 3) := by decide +kernel
theorem dX12_ahead_167 : decode cX12_ahead 167 = .ok (.putfield 133, 3) := by decide +kernel
theorem dX12_ahead_170 : decode cX12_ahead 170 = .ok (.aload_n 0, 1) := by decide +kernel
theorem dX12_ahead_171 : decode cX12_ahead 171 = .ok (.dup, 1) := by decide +kernel
theorem dX12_ahead_172 : decode cX12_ahead 172 = .ok (.getfield 124, 3) := by decide +kernel
theorem dX12_ahead_175 : decode cX12_ahead 175 = .ok (.iconst 1, 1) := by decide +kernel
theorem dX12_ahead_176 : decode cX12_ahead 176 = .ok (.iadd, 1) := by decide +kernel
theorem dX12_ahead_177 : decode cX12_ahead 177 = .ok (.putfield 124, 3) := by decide +kernel
theorem dX12_ahead_180 : decode cX12_ahead 180 = .ok (.goto (-52), 3) := by decide +kernel
theorem dX12_ahead_183 : decode cX12_ahead 183 = .ok (.aload_n 0, 1) := by decide +kernel
theorem dX12_ahead_184 : decode cX12_ahead 184 = .ok (.aload_n 0, 1) := by decide +kernel
theorem dX12_ahead_185 : decode cX12_ahead 185 = .ok (.getfield 124, 3) := by decide +kernel
theorem dX12_ahead_188 : decode cX12_ahead 188 = .ok (.aload_n 0, 1) := by decide +kernel
theorem dX12_ahead_189 : decode cX12_ahead 189 = .ok (.getfield 130, 3) := by decide +kernel
theorem dX12_ahead_192 : decode cX12_ahead 192 = .ok (.isub, 1) := by decide +kernel
theorem dX12_ahead_193 : decode cX12_ahead 193 = .ok (.iconst 4, 1) := by decide +kernel
theorem dX12_ahead_194 : decode cX12_ahead 194 = .ok (.if_icmp .le 7, 3) := by decide +kernel
theorem dX12_ahead_197 : decode cX12_ahead 197 = .ok (.iconst 1, 1) := by decide +kernel
theorem dX12_ahead_198 : decode cX12_ahead 198 = .ok (.goto 4, 3) := by decide +kernel
theorem dX12_ahead_201 : decode cX12_ahead 201 = .ok (.iconst 3, 1) := by decide +kernel
theorem dX12_ahead_202 : decode cX12_ahead 202 = .ok (.putfield 136, 3) := by decide +kernel
theorem dX12_ahead_205 : decode cX12_ahead 205 = .ok (.goto 46, 3) := by decide +kernel
theorem dX12_ahead_208 : decode cX12_ahead 208 = .ok (.aload_n 0, 1) := by decide +kernel
theorem dX12_ahead_209 : decode cX12_ahead 209 = .ok (.dup, 1) := by decide +kernel
theorem dX12_ahead_210 : decode cX12_ahead 210 = .ok (.getfield 124, 3) := by decide +kernel
theorem dX12_ahead_213 : decode cX12_ahead 213 = .ok (.iconst 1, 1) := by decide +kernel
theorem dX12_ahead_214 : decode cX12_ahead 214 = .ok (.iadd, 1) := by decide +kernel
theorem dX12_ahead_215 : decode cX12_ahead 215 = .ok (.putfield 124, 3) := by decide +kernel
theorem dX12_ahead_218 : decode cX12_ahead 218 = .ok (.aload_n 0, 1) := by decide +kernel
theorem dX12_ahead_219 : decode cX12_ahead 219 = .ok (.iload_n 1, 1) := by decide +kernel
theorem dX12_ahead_220 : decode cX12_ahead 220 = .ok (.bipush 59, 2) := by decide +kernel
theorem dX12_ahead_222 : decode cX12_ahead 222 = .ok (.if_icmp .eq 21, 3) := by decide +kernel
theorem dX12_ahead_225 : decode cX12_ahead 225 = .ok (.iload_n 1, 1) := by decide +kernel
theorem dX12_ahead_226 : decode cX12_ahead 226 = .ok (.bipush 60, 2) := by decide +kernel
theorem dX12_ahead_228 : decode cX12_ahead 228 = .ok (.if_icmp .eq 15, 3) := by decide +kernel
theorem dX12_ahead_231 : decode cX12_ahead 231 = .ok (.iload_n 1, 1) := by decide +kernel
theorem dX12_ahead_232 : decode cX12_ahead 232 = .ok (.bipush 62, 2) := by decide +kernel
theorem dX12_ahead_234 : decode cX12_ahead 234 = .ok (.if_icmp .eq 9, 3) := by decide +kernel
theorem dX12_ahead_237 : decode cX12_ahead 237 = .ok (.iload_n 1, 1) := by decide +kernel
theorem dX12_ahead_238 : decode cX12_ahead 238 = .ok (.bipush 61, 2) := by decide +kernel
theorem dX12_ahead_240 : decode cX12_ahead 240 = .ok (.if_icmp .ne 7, 3) := by decide +kernel
theorem dX12_ahead_243 : decode cX12_ahead 243 = .ok (.iconst 4, 1) := by decide +kernel
theorem dX12_ahead_244 : decode cX12_ahead 244 = .ok (.goto 4, 3) := by decide +kernel
theorem dX12_ahead_247 : decode cX12_ahead 247 = .ok (.iconst 1, 1) := by decide +kernel
theorem dX12_ahead_248 : decode cX12_ahead 248 = .ok (.putfield 136, 3) := by decide +kernel
theorem dX12_ahead_251 : decode cX12_ahead 251 = .ok (.return_, 1) := by decide +kernel
theorem dX12_isSign_0 : decode cX12_isSign 0 = .ok (.aload_n 0, 1) := by decide +kernel
theorem dX12_isSign_1 : decode cX12_isSign 1 = .ok (.getfield 136, 3) := by decide +kernel
theorem dX12_isSign_4 : decode cX12_isSign 4 = .ok (.iconst 4, 1) := by decide +kernel
theorem dX12_isSign_5 : decode cX12_isSign 5 = .ok (.if_icmp .ne 15, 3) := by decide +kernel
theorem dX12_isSign_8 : decode cX12_isSign 8 = .ok (.aload_n 0, 1) := by decide +kernel
theorem dX12_isSign_9 : decode cX12_isSign 9 = .ok (.getfield 133, 3) := by decide +kernel
theorem dX12_isSign_12 : decode cX12_isSign 12 = .ok (.iload_n 1, 1) := by decide +kernel
theorem dX12_isSign_13 : decode cX12_isSign 13 = .ok (.if_icmp .ne 7, 3) := by decide +kernel
theorem dX12_isSign_16 : decode cX12_isSign 16 = .ok (.iconst 1, 1) := by decide +kernel
theorem dX12_isSign_17 : decode cX12_isSign 17 = .ok (.goto 4, 3) := by decide +kernel
theorem dX12_isSign_20 : decode cX12_isSign 20 = .ok (.iconst 0, 1) := by decide +kernel
theorem dX12_isSign_21 : decode cX12_isSign 21 = .ok (.ireturn, 1) := by decide +kernel
set_option maxRecDepth 20000 in
theorem ggX12_inWords_J0_length_8abf5 : GoodIn wsX12_inWords wsJ0_length_8abf5 := goodIn_r _ [8, 9, 10, 11, 12, 7, 13, 14, 15] (by decide +kernel) (by decide +kernel)
set_option maxRecDepth 20000 in
theorem gX12_inWords_J0_length_8abf5 : GoodIn wsX12_inWords (wsV RX12 151 RJ0 yJ0_length_8abf5 wsJ0_length_8abf5) := goodIn_app (goodIn_of _ (by decide +kernel)) ggX12_inWords_J0_length_8abf5
set_option maxRecDepth 20000 in
theorem ggX12_inWords_J0_charAt_5068e : GoodIn wsX12_inWords wsJ0_charAt_5068e := goodIn_r _ [19, 9, 20, 21, 22, 7, 23, 14, 15, 24, 25, 26, 27, 28, 29, 30, 31, 32, 33, 34, 35, 36, 37, 38, 39, 40, 41, 42, 43, 44, 45, 46, 47, 48, 49, 50, 51, 52] (by decide +kernel) (by decide +kernel)
set_option maxRecDepth 20000 in
theorem gX12_inWords_J0_charAt_5068e : GoodIn wsX12_inWords (wsV RX12 157 RJ0 yJ0_charAt_5068e wsJ0_charAt_5068e) := goodIn_app (goodIn_of _ (by decide +kernel)) ggX12_inWords_J0_charAt_5068e
set_option maxRecDepth 20000 in
theorem ggX12_inWords_X12_byteAt : GoodIn wsX12_inWords wsX12_byteAt := goodIn_r _ [57, 58, 59, 60, 61, 62, 63, 64, 65, 66, 67, 68, 69, 70, 71, 72, 73, 74, 75, 76, 77, 78, 79, 80, 81, 82, 83, 84, 85, 86, 87, 88, 89, 90, 91, 92, 93, 94, 95, 96, 97, 98, 99, 100, 101] (by decide +kernel) (by decide +kernel)
set_option maxRecDepth 20000 in
theorem gX12_inWords_X12_byteAt : GoodIn wsX12_inWords (wsV RX12 127 RX12 yX12_byteAt wsX12_byteAt) := goodIn_app (goodIn_of _ (by decide +kernel)) ggX12_inWords_X12_byteAt
theorem dX12_inWords_0 : decode cX12_inWords 0 = .ok (.aload_n 0, 1) := by decide +kernel
theorem dX12_inWords_1 : decode cX12_inWords 1 = .ok (.getfield 136, 3) := by decide +kernel
theorem dX12_inWords_4 : decode cX12_inWords 4 = .ok (.iconst 2, 1) := by decide +kernel
theorem dX12_inWords_5 : decode cX12_inWords 5 = .ok (.if_icmp .eq 5, 3) := by decide +kernel
theorem dX12_inWords_8 : decode cX12_inWords 8 = .ok (.iconst (-1), 1) := by decide +kernel
theorem dX12_inWords_9 : decode cX12_inWords 9 = .ok (.ireturn, 1) := by decide +kernel
theorem dX12_inWords_10 : decode cX12_inWords 10 = .ok (.iconst 0, 1) := by decide +kernel
theorem dX12_inWords_11 : decode cX12_inWords 11 = .ok (.istore_n 2, 1) := by decide +kernel
theorem dX12_inWords_12 : decode cX12_inWords 12 = .ok (.iconst 1, 1) := by decide +kernel
theorem dX12_inWords_13 : decode cX12_inWords 13 = .ok (.istore_n 3, 1) := by decide +kernel
theorem dX12_inWords_14 : decode cX12_inWords 14 = .ok (.iload_n 3, 1) := by decide +kernel
theorem dX12_inWords_15 : decode cX12_inWords 15 = .ok (.aload_n 1, 1) := by decide +kernel
theorem dX12_inWords_16 : decode cX12_inWords 16 = .ok (.invokevirtual 151, 3) := by decide +kernel
theorem dX12_inWords_19 : decode cX12_inWords 19 = .ok (.if_icmp .ge 114, 3) := by decide +kernel
theorem dX12_inWords_22 : decode cX12_inWords 22 = .ok (.iload_n 3, 1) := by decide +kernel
theorem dX12_inWords_23 : decode cX12_inWords 23 = .ok (.istore 4, 2) := by decide +kernel
theorem dX12_inWords_25 : decode cX12_inWords 25 = .ok (.aload_n 1, 1) := by decide +kernel
theorem dX12_inWords_26 : decode cX12_inWords 26 = .ok (.iload 4, 2) := by decide +kernel
theorem dX12_inWords_28 : decode cX12_inWords 28 = .ok (.invokevirtual 157, 3) := by decide +kernel
theorem dX12_inWords_31 : decode cX12_inWords 31 = .ok (.bipush 32, 2) := by decide +kernel
theorem dX12_inWords_33 : decode cX12_inWords 33 = .ok (.if_icmp .eq 9, 3) := by decide +kernel
theorem dX12_inWords_36 : decode cX12_inWords 36 = .ok (.iinc 4 1, 3) := by decide +kernel
theorem dX12_inWords_39 : decode cX12_inWords 39 = .ok (.goto (-14), 3) := by decide +kernel
theorem dX12_inWords_42 : decode cX12_inWords 42 = .ok (.iload 4, 2) := by decide +kernel
theorem dX12_inWords_44 : decode cX12_inWords 44 = .ok (.iload_n 3, 1) := by decide +kernel
theorem dX12_inWords_45 : decode cX12_inWords 45 = .ok (.isub, 1) := by decide +kernel
theorem dX12_inWords_46 : decode cX12_inWords 46 = .ok (.aload_n 0, 1) := by decide +kernel
theorem dX12_inWords_47 : decode cX12_inWords 47 = .ok (.getfield 124, 3) := by decide +kernel
theorem dX12_inWords_50 : decode cX12_inWords 50 = .ok (.aload_n 0, 1) := by decide +kernel
theorem dX12_inWords_51 : decode cX12_inWords 51 = .ok (.getfield 130, 3) := by decide +kernel
theorem dX12_inWords_54 : decode cX12_inWords 54 = .ok (.isub, 1) := by decide +kernel
theorem dX12_inWords_55 : decode cX12_inWords 55 = .ok (.if_icmp .ne 7, 3) := by decide +kernel
theorem dX12_inWords_58 : decode cX12_inWords 58 = .ok (.iconst 1, 1) := by decide +kernel
theorem dX12_inWords_59 : decode cX12_inWords 59 = .ok (.goto 4, 3) := by decide +kernel
theorem dX12_inWords_62 : decode cX12_inWords 62 = .ok (.iconst 0, 1) := by decide +kernel
theorem dX12_inWords_63 : decode cX12_inWords 63 = .ok (.istore 5, 2) := by decide +kernel
theorem dX12_inWords_65 : decode cX12_inWords 65 = .ok (.iload_n 3, 1) := by decide +kernel
theorem dX12_inWords_66 : decode cX12_inWords 66 = .ok (.istore 6, 2) := by decide +kernel
theorem dX12_inWords_68 : decode cX12_inWords 68 = .ok (.iload 6, 2) := by decide +kernel
theorem dX12_inWords_70 : decode cX12_inWords 70 = .ok (.iload 4, 2) := by decide +kernel
theorem dX12_inWords_72 : decode cX12_inWords 72 = .ok (.if_icmp .ge 43, 3) := by decide +kernel
theorem dX12_inWords_75 : decode cX12_inWords 75 = .ok (.iload 5, 2) := by decide +kernel
theorem dX12_inWords_77 : decode cX12_inWords 77 = .ok (.ifCond .eq 38, 3) := by decide +kernel
theorem dX12_inWords_80 : decode cX12_inWords 80 = .ok (.aload_n 1, 1) := by decide +kernel
theorem dX12_inWords_81 : decode cX12_inWords 81 = .ok (.iload 6, 2) := by decide +kernel
theorem dX12_inWords_83 : decode cX12_inWords 83 = .ok (.invokevirtual 157, 3) := by decide +kernel
theorem dX12_inWords_86 : decode cX12_inWords 86 = .ok (.aload_n 0, 1) := by decide +kernel
theorem dX12_inWords_87 : decode cX12_inWords 87 = .ok (.aload_n 0, 1) := by decide +kernel
theorem dX12_inWords_88 : decode cX12_inWords 88 = .ok (.getfield 130, 3) := by decide +kernel
theorem dX12_inWords_91 : decode cX12_inWords 91 = .ok (.iload 6, 2) := by decide +kernel
theorem dX12_inWords_93 : decode cX12_inWords 93 = .ok (.iadd, 1) := by decide +kernel
theorem dX12_inWords_94 : decode cX12_inWords 94 = .ok (.iload_n 3, 1) := by decide +kernel
theorem dX12_inWords_95 : decode cX12_inWords 95 = .ok (.isub, 1) := by decide +kernel
theorem dX12_inWords_96 : decode cX12_inWords 96 = .ok (.invokevirtual 127, 3) := by decide +kernel
theorem dX12_inWords_99 : decode cX12_inWords 99 = .ok (.if_icmp .ne 7, 3) := by decide +kernel
theorem dX12_inWords_102 : decode cX12_inWords 102 = .ok (.iconst 1, 1) := by decide +kernel
theorem dX12_inWords_103 : decode cX12_inWords 103 = .ok (.goto 4, 3) := by decide +kernel
theorem dX12_inWords_106 : decode cX12_inWords 106 = .ok (.iconst 0, 1) := by decide +kernel
theorem dX12_inWords_107 : decode cX12_inWords 107 = .ok (.istore 5, 2) := by decide +kernel
theorem dX12_inWords_109 : decode cX12_inWords 109 = .ok (.iinc 6 1, 3) := by decide +kernel
theorem dX12_inWords_112 : decode cX12_inWords 112 = .ok (.goto (-44), 3) := by decide +kernel
theorem dX12_inWords_115 : decode cX12_inWords 115 = .ok (.iload 5, 2) := by decide +kernel
theorem dX12_inWords_117 : decode cX12_inWords 117 = .ok (.ifCond .eq 5, 3) := by decide +kernel
theorem dX12_inWords_120 : decode cX12_inWords 120 = .ok (.iload_n 2, 1) := by decide +kernel
theorem dX12_inWords_121 : decode cX12_inWords 121 = .ok (.ireturn, 1) := by decide +kernel
theorem dX12_inWords_122 : decode cX12_inWords 122 = .ok (.iinc 2 1, 3) := by decide +kernel
theorem dX12_inWords_125 : decode cX12_inWords 125 = .ok (.iload 4, 2) := by decide +kernel
theorem dX12_inWords_127 : decode cX12_inWords 127 = .ok (.iconst 1, 1) := by decide +kernel
theorem dX12_inWords_128 : decode cX12_inWords 128 = .ok (.iadd, 1) := by decide +kernel
theorem dX12_inWords_129 : decode cX12_inWords 129 = .ok (.istore_n 3, 1) := by decide +kernel
theorem dX12_inWords_130 : decode cX12_inWords 130 = .ok (.goto (-116), 3) := by decide +kernel
theorem dX12_inWords_133 : decode cX12_inWords 133 = .ok (.iconst (-1), 1) := by decide +kernel
theorem dX12_inWords_134 : decode cX12_inWords 134 = .ok (.ireturn, 1) := by decide +kernel
theorem dX12_fails_0 : decode cX12_fails 0 = .ok (.aload_n 0, 1) := by decide +kernel
theorem dX12_fails_1 : decode cX12_fails 1 = .ok (.getfield 161, 3) := by decide +kernel
theorem dX12_fails_4 : decode cX12_fails 4 = .ok (.ifCond .ne 28, 3) := by decide +kernel
theorem dX12_fails_7 : decode cX12_fails 7 = .ok (.aload_n 0, 1) := by decide +kernel
theorem dX12_fails_8 : decode cX12_fails 8 = .ok (.aload_n 0, 1) := by decide +kernel
theorem dX12_fails_9 : decode cX12_fails 9 = .ok (.getfield 136, 3) := by decide +kernel
theorem dX12_fails_12 : decode cX12_fails 12 = .ok (.iconst 1, 1) := by decide +kernel
theorem dX12_fails_13 : decode cX12_fails 13 = .ok (.if_icmp .ne 7, 3) := by decide +kernel
theorem dX12_fails_16 : decode cX12_fails 16 = .ok (.iconst 1, 1) := by decide +kernel
theorem dX12_fails_17 : decode cX12_fails 17 = .ok (.goto 4, 3) := by decide +kernel
theorem dX12_fails_20 : decode cX12_fails 20 = .ok (.iload_n 1, 1) := by decide +kernel
theorem dX12_fails_21 : decode cX12_fails 21 = .ok (.putfield 161, 3) := by decide +kernel
theorem dX12_fails_24 : decode cX12_fails 24 = .ok (.aload_n 0, 1) := by decide +kernel
theorem dX12_fails_25 : decode cX12_fails 25 = .ok (.aload_n 0, 1) := by decide +kernel
theorem dX12_fails_26 : decode cX12_fails 26 = .ok (.getfield 130, 3) := by decide +kernel
theorem dX12_fails_29 : decode cX12_fails 29 = .ok (.putfield 41, 3) := by decide +kernel
theorem dX12_fails_32 : decode cX12_fails 32 = .ok (.iconst 0, 1) := by decide +kernel
theorem dX12_fails_33 : decode cX12_fails 33 = .ok (.ireturn, 1) := by decide +kernel
set_option maxRecDepth 20000 in
theorem ggX12_begins_X12_ahead : GoodIn wsX12_begins wsX12_ahead := goodIn_r _ [13, 7, 14, 15, 16, 17, 18, 19, 20, 21, 22, 23, 24, 12, 25, 2, 3, 26, 27, 28, 29, 30, 31, 32, 33, 34, 35, 36, 37, 38, 39, 40, 41, 42, 43, 44, 45, 46, 47, 48, 49, 50, 51, 52, 53, 54, 55, 56, 57, 58, 59, 60, 61, 62, 63, 64, 65, 66, 67, 68, 69, 70, 71, 72, 73] (by decide +kernel) (by decide +kernel)
set_option maxRecDepth 20000 in
theorem gX12_begins_X12_ahead : GoodIn wsX12_begins (wsV RX12 167 RX12 yX12_ahead wsX12_ahead) := goodIn_app (goodIn_of _ (by decide +kernel)) ggX12_begins_X12_ahead
theorem dX12_begins_0 : decode cX12_begins 0 = .ok (.iload_n 1, 1) := by decide +kernel
theorem dX12_begins_1 : decode cX12_begins 1 = .ok (.ifCond .lt 16, 3) := by decide +kernel
theorem dX12_begins_4 : decode cX12_begins 4 = .ok (.iload_n 1, 1) := by decide +kernel
theorem dX12_begins_5 : decode cX12_begins 5 = .ok (.aload_n 0, 1) := by decide +kernel
theorem dX12_begins_6 : decode cX12_begins 6 = .ok (.getfield 115, 3) := by decide +kernel
theorem dX12_begins_9 : decode cX12_begins 9 = .ok (.if_icmp .gt 8, 3) := by decide +kernel
theorem dX12_begins_12 : decode cX12_begins 12 = .ok (.iload_n 1, 1) := by decide +kernel
theorem dX12_begins_13 : decode cX12_begins 13 = .ok (.iload_n 2, 1) := by decide +kernel
theorem dX12_begins_14 : decode cX12_begins 14 = .ok (.if_icmp .le 5, 3) := by decide +kernel
theorem dX12_begins_17 : decode cX12_begins 17 = .ok (.iconst 0, 1) := by decide +kernel
theorem dX12_begins_18 : decode cX12_begins 18 = .ok (.ireturn, 1) := by decide +kernel
theorem dX12_begins_19 : decode cX12_begins 19 = .ok (.aload_n 0, 1) := by decide +kernel
theorem dX12_begins_20 : decode cX12_begins 20 = .ok (.iload_n 1, 1) := by decide +kernel
theorem dX12_begins_21 : decode cX12_begins 21 = .ok (.putfield 121, 3) := by decide +kernel
theorem dX12_begins_24 : decode cX12_begins 24 = .ok (.iconst 0, 1) := by decide +kernel
theorem dX12_begins_25 : decode cX12_begins 25 = .ok (.istore_n 3, 1) := by decide +kernel
theorem dX12_begins_26 : decode cX12_begins 26 = .ok (.iload_n 3, 1) := by decide +kernel
theorem dX12_begins_27 : decode cX12_begins 27 = .ok (.iload_n 1, 1) := by decide +kernel
theorem dX12_begins_28 : decode cX12_begins 28 = .ok (.if_icmp .ge 21, 3) := by decide +kernel
theorem dX12_begins_31 : decode cX12_begins 31 = .ok (.aload_n 0, 1) := by decide +kernel
theorem dX12_begins_32 : decode cX12_begins 32 = .ok (.getfield 34, 3) := by decide +kernel
theorem dX12_begins_35 : decode cX12_begins 35 = .ok (.iload_n 3, 1) := by decide +kernel
theorem dX12_begins_36 : decode cX12_begins 36 = .ok (.aload_n 0, 1) := by decide +kernel
theorem dX12_begins_37 : decode cX12_begins 37 = .ok (.getfield 30, 3) := by decide +kernel
theorem dX12_begins_40 : decode cX12_begins 40 = .ok (.iload_n 3, 1) := by decide +kernel
theorem dX12_begins_41 : decode cX12_begins 41 = .ok (.baload, 1) := by decide +kernel
theorem dX12_begins_42 : decode cX12_begins 42 = .ok (.bastore, 1) := by decide +kernel
theorem dX12_begins_43 : decode cX12_begins 43 = .ok (.iinc 3 1, 3) := by decide +kernel
theorem dX12_begins_46 : decode cX12_begins 46 = .ok (.goto (-20), 3) := by decide +kernel
theorem dX12_begins_49 : decode cX12_begins 49 = .ok (.aload_n 0, 1) := by decide +kernel
theorem dX12_begins_50 : decode cX12_begins 50 = .ok (.iconst 0, 1) := by decide +kernel
theorem dX12_begins_51 : decode cX12_begins 51 = .ok (.putfield 115, 3) := by decide +kernel
theorem dX12_begins_54 : decode cX12_begins 54 = .ok (.aload_n 0, 1) := by decide +kernel
theorem dX12_begins_55 : decode cX12_begins 55 = .ok (.iconst 0, 1) := by decide +kernel
theorem dX12_begins_56 : decode cX12_begins 56 = .ok (.putfield 161, 3) := by decide +kernel
theorem dX12_begins_59 : decode cX12_begins 59 = .ok (.aload_n 0, 1) := by decide +kernel
theorem dX12_begins_60 : decode cX12_begins 60 = .ok (.iconst (-1), 1) := by decide +kernel
theorem dX12_begins_61 : decode cX12_begins 61 = .ok (.putfield 41, 3) := by decide +kernel
theorem dX12_begins_64 : decode cX12_begins 64 = .ok (.aload_n 0, 1) := by decide +kernel
theorem dX12_begins_65 : decode cX12_begins 65 = .ok (.iconst 0, 1) := by decide +kernel
theorem dX12_begins_66 : decode cX12_begins 66 = .ok (.putfield 124, 3) := by decide +kernel
theorem dX12_begins_69 : decode cX12_begins 69 = .ok (.aload_n 0, 1) := by decide +kernel
theorem dX12_begins_70 : decode cX12_begins 70 = .ok (.iconst 0, 1) := by decide +kernel
theorem dX12_begins_71 : decode cX12_begins 71 = .ok (.putfield 164, 3) := by decide +kernel
theorem dX12_begins_74 : decode cX12_begins 74 = .ok (.aload_n 0, 1) := by decide +kernel
theorem dX12_begins_75 : decode cX12_begins 75 = .ok (.invokevirtual 167, 3) := by decide +kernel
theorem dX12_begins_78 : decode cX12_begins 78 = .ok (.iconst 1, 1) := by decide +kernel
theorem dX12_begins_79 : decode cX12_begins 79 = .ok (.ireturn, 1) := by decide +kernel
set_option maxRecDepth 20000 in
theorem ggX12_wantSign_X12_isSign : GoodIn wsX12_wantSign wsX12_isSign := goodIn_r _ [5, 6, 7, 37, 38, 39, 40, 41, 42, 43, 44, 45, 46, 47, 48, 49, 50, 51, 52, 53, 54, 55, 56, 57, 58, 59, 60, 61, 62, 63, 64, 65, 66, 67, 68, 69, 70, 71, 72, 73, 74, 75, 76, 77, 78] (by decide +kernel) (by decide +kernel)
set_option maxRecDepth 20000 in
theorem gX12_wantSign_X12_isSign : GoodIn wsX12_wantSign (wsV RX12 170 RX12 yX12_isSign wsX12_isSign) := goodIn_app (goodIn_of _ (by decide +kernel)) ggX12_wantSign_X12_isSign
set_option maxRecDepth 20000 in
theorem ggX12_wantSign_X12_fails : GoodIn wsX12_wantSign wsX12_fails := goodIn_r _ [11, 12, 6, 13, 14, 37, 38, 39, 40, 41, 42, 43, 44, 45, 46, 47, 48, 49, 50, 51, 52, 53, 54, 55, 56, 57, 58, 59, 60, 61, 62, 63, 64, 65, 66, 67, 68, 69, 70, 71, 72, 73, 74, 75, 76, 77, 78] (by decide +kernel) (by decide +kernel)
set_option maxRecDepth 20000 in
theorem gX12_wantSign_X12_fails : GoodIn wsX12_wantSign (wsV RX12 173 RX12 yX12_fails wsX12_fails) := goodIn_app (goodIn_of _ (by decide +kernel)) ggX12_wantSign_X12_fails
set_option maxRecDepth 20000 in
theorem ggX12_wantSign_X12_ahead : GoodIn wsX12_wantSign wsX12_ahead := goodIn_r _ [18, 19, 13, 7, 6, 20, 21, 22, 23, 24, 25, 26, 27, 4, 28, 29, 30, 31, 32, 33, 34, 35, 36, 37, 38, 39, 40, 41, 42, 43, 44, 45, 46, 47, 48, 49, 50, 51, 52, 53, 54, 55, 56, 57, 58, 59, 60, 61, 62, 63, 64, 65, 66, 67, 68, 69, 70, 71, 72, 73, 74, 75, 76, 77, 78] (by decide +kernel) (by decide +kernel)
set_option maxRecDepth 20000 in
theorem gX12_wantSign_X12_ahead : GoodIn wsX12_wantSign (wsV RX12 167 RX12 yX12_ahead wsX12_ahead) := goodIn_app (goodIn_of _ (by decide +kernel)) ggX12_wantSign_X12_ahead
theorem dX12_wantSign_0 : decode cX12_wantSign 0 = .ok (.aload_n 0, 1) := by decide +kernel
theorem dX12_wantSign_1 : decode cX12_wantSign 1 = .ok (.iload_n 1, 1) := by decide +kernel
theorem dX12_wantSign_2 : decode cX12_wantSign 2 = .ok (.invokevirtual 170, 3) := by decide +kernel
theorem dX12_wantSign_5 : decode cX12_wantSign 5 = .ok (.ifCond .ne 9, 3) := by decide +kernel
theorem dX12_wantSign_8 : decode cX12_wantSign 8 = .ok (.aload_n 0, 1) := by decide +kernel
theorem dX12_wantSign_9 : decode cX12_wantSign 9 = .ok (.iconst 2, 1) := by decide +kernel
theorem dX12_wantSign_10 : decode cX12_wantSign 10 = .ok (.invokevirtual 173, 3) := by decide +kernel
theorem dX12_wantSign_13 : decode cX12_wantSign 13 = .ok (.ireturn, 1) := by decide +kernel
theorem dX12_wantSign_14 : decode cX12_wantSign 14 = .ok (.aload_n 0, 1) := by decide +kernel
theorem dX12_wantSign_15 : decode cX12_wantSign 15 = .ok (.invokevirtual 167, 3) := by decide +kernel
theorem dX12_wantSign_18 : decode cX12_wantSign 18 = .ok (.iconst 1, 1) := by decide +kernel
theorem dX12_wantSign_19 : decode cX12_wantSign 19 = .ok (.ireturn, 1) := by decide +kernel
set_option maxRecDepth 20000 in
theorem ggX12_wantWord_X12_inWords : GoodIn wsX12_wantWord wsX12_inWords := goodIn_r _ [5, 6, 7, 8, 9, 10, 11, 12, 13, 14, 15, 16, 17, 18, 19, 20, 21, 22, 23, 24, 25, 26, 27, 28, 29, 30, 31, 32, 33, 34, 35, 36, 37, 38, 39, 40, 41, 42, 43, 44, 45, 46, 47, 48, 49, 50, 51, 52, 53, 54, 55, 56, 57, 58, 59, 60, 4, 61, 62, 63, 86, 87, 88, 89, 90, 91, 92, 93, 94, 95, 96, 97, 98, 99, 100, 101, 102, 103, 104, 105, 106, 107, 108, 109, 110, 111, 112, 113, 114, 115, 116, 117, 118, 119, 120, 121, 122, 123, 124, 125, 126, 127] (by decide +kernel) (by decide +kernel)
set_option maxRecDepth 20000 in
theorem gX12_wantWord_X12_inWords : GoodIn wsX12_wantWord (wsV RX12 176 RX12 yX12_inWords wsX12_inWords) := goodIn_app (goodIn_of _ (by decide +kernel)) ggX12_wantWord_X12_inWords
set_option maxRecDepth 20000 in
theorem ggX12_wantWord_X12_fails : GoodIn wsX12_wantWord wsX12_fails := goodIn_r _ [67, 68, 6, 8, 69, 86, 87, 88, 89, 90, 91, 92, 93, 94, 95, 96, 97, 98, 99, 100, 101, 102, 103, 104, 105, 106, 107, 108, 109, 110, 111, 112, 113, 114, 115, 116, 117, 118, 119, 120, 121, 122, 123, 124, 125, 126, 127] (by decide +kernel) (by decide +kernel)
set_option maxRecDepth 20000 in
theorem gX12_wantWord_X12_fails : GoodIn wsX12_wantWord (wsV RX12 173 RX12 yX12_fails wsX12_fails) := goodIn_app (goodIn_of _ (by decide +kernel)) ggX12_wantWord_X12_fails
set_option maxRecDepth 20000 in
theorem ggX12_wantWord_X12_ahead : GoodIn wsX12_wantWord wsX12_ahead := goodIn_r _ [73, 7, 8, 74, 6, 75, 76, 77, 78, 79, 58, 59, 60, 4, 61, 62, 63, 80, 81, 82, 83, 84, 85, 86, 87, 88, 89, 90, 91, 92, 93, 94, 95, 96, 97, 98, 99, 100, 101, 102, 103, 104, 105, 106, 107, 108, 109, 110, 111, 112, 113, 114, 115, 116, 117, 118, 119, 120, 121, 122, 123, 124, 125, 126, 127] (by decide +kernel) (by decide +kernel)
set_option maxRecDepth 20000 in
theorem gX12_wantWord_X12_ahead : GoodIn wsX12_wantWord (wsV RX12 167 RX12 yX12_ahead wsX12_ahead) := goodIn_app (goodIn_of _ (by decide +kernel)) ggX12_wantWord_X12_ahead
theorem dX12_wantWord_0 : decode cX12_wantWord 0 = .ok (.aload_n 0, 1) := by decide +kernel
theorem dX12_wantWord_1 : decode cX12_wantWord 1 = .ok (.aload_n 1, 1) := by decide +kernel
theorem dX12_wantWord_2 : decode cX12_wantWord 2 = .ok (.invokevirtual 176, 3) := by decide +kernel
theorem dX12_wantWord_5 : decode cX12_wantWord 5 = .ok (.iload_n 2, 1) := by decide +kernel
theorem dX12_wantWord_6 : decode cX12_wantWord 6 = .ok (.if_icmp .eq 9, 3) := by decide +kernel
theorem dX12_wantWord_9 : decode cX12_wantWord 9 = .ok (.aload_n 0, 1) := by decide +kernel
theorem dX12_wantWord_10 : decode cX12_wantWord 10 = .ok (.iconst 2, 1) := by decide +kernel
theorem dX12_wantWord_11 : decode cX12_wantWord 11 = .ok (.invokevirtual 173, 3) := by decide +kernel
theorem dX12_wantWord_14 : decode cX12_wantWord 14 = .ok (.ireturn, 1) := by decide +kernel
theorem dX12_wantWord_15 : decode cX12_wantWord 15 = .ok (.aload_n 0, 1) := by decide +kernel
theorem dX12_wantWord_16 : decode cX12_wantWord 16 = .ok (.invokevirtual 167, 3) := by decide +kernel
theorem dX12_wantWord_19 : decode cX12_wantWord 19 = .ok (.iconst 1, 1) := by decide +kernel
theorem dX12_wantWord_20 : decode cX12_wantWord 20 = .ok (.ireturn, 1) := by decide +kernel
set_option maxRecDepth 20000 in
theorem ggX12_number_X12_fails : GoodIn wsX12_number wsX12_fails := goodIn_r _ [8, 9, 1, 10, 11, 34, 35, 36, 37, 38, 39, 40, 41, 42, 43, 44, 45, 46, 47, 48, 49, 50, 51, 52, 53, 54, 55, 56, 57, 58, 59, 60, 61, 62, 63, 64, 65, 66, 67, 68, 69, 70, 71, 72, 73, 74, 75] (by decide +kernel) (by decide +kernel)
set_option maxRecDepth 20000 in
theorem gX12_number_X12_fails : GoodIn wsX12_number (wsV RX12 173 RX12 yX12_fails wsX12_fails) := goodIn_app (goodIn_of _ (by decide +kernel)) ggX12_number_X12_fails
set_option maxRecDepth 20000 in
theorem ggX12_number_X12_ahead : GoodIn wsX12_number wsX12_ahead := goodIn_r _ [15, 16, 10, 2, 1, 17, 18, 19, 20, 21, 22, 23, 24, 7, 25, 26, 27, 28, 29, 30, 31, 32, 33, 34, 35, 36, 37, 38, 39, 40, 41, 42, 43, 44, 45, 46, 47, 48, 49, 50, 51, 52, 53, 54, 55, 56, 57, 58, 59, 60, 61, 62, 63, 64, 65, 66, 67, 68, 69, 70, 71, 72, 73, 74, 75] (by decide +kernel) (by decide +kernel)
set_option maxRecDepth 20000 in
theorem gX12_number_X12_ahead : GoodIn wsX12_number (wsV RX12 167 RX12 yX12_ahead wsX12_ahead) := goodIn_app (goodIn_of _ (by decide +kernel)) ggX12_number_X12_ahead
theorem dX12_number_0 : decode cX12_number 0 = .ok (.aload_n 0, 1) := by decide +kernel
theorem dX12_number_1 : decode cX12_number 1 = .ok (.getfield 136, 3) := by decide +kernel
theorem dX12_number_4 : decode cX12_number 4 = .ok (.iconst 3, 1) := by decide +kernel
theorem dX12_number_5 : decode cX12_number 5 = .ok (.if_icmp .eq 9, 3) := by decide +kernel
theorem dX12_number_8 : decode cX12_number 8 = .ok (.aload_n 0, 1) := by decide +kernel
theorem dX12_number_9 : decode cX12_number 9 = .ok (.iconst 2, 1) := by decide +kernel
theorem dX12_number_10 : decode cX12_number 10 = .ok (.invokevirtual 173, 3) := by decide +kernel
theorem dX12_number_13 : decode cX12_number 13 = .ok (.ireturn, 1) := by decide +kernel
theorem dX12_number_14 : decode cX12_number 14 = .ok (.aload_n 0, 1) := by decide +kernel
theorem dX12_number_15 : decode cX12_number 15 = .ok (.getfield 133, 3) := by decide +kernel
theorem dX12_number_18 : decode cX12_number 18 = .ok (.iload_n 2, 1) := by decide +kernel
theorem dX12_number_19 : decode cX12_number 19 = .ok (.if_icmp .lt 11, 3) := by decide +kernel
theorem dX12_number_22 : decode cX12_number 22 = .ok (.aload_n 0, 1) := by decide +kernel
theorem dX12_number_23 : decode cX12_number 23 = .ok (.getfield 133, 3) := by decide +kernel
theorem dX12_number_26 : decode cX12_number 26 = .ok (.iload_n 3, 1) := by decide +kernel
theorem dX12_number_27 : decode cX12_number 27 = .ok (.if_icmp .le 9, 3) := by decide +kernel
theorem dX12_number_30 : decode cX12_number 30 = .ok (.aload_n 0, 1) := by decide +kernel
theorem dX12_number_31 : decode cX12_number 31 = .ok (.iconst 4, 1) := by decide +kernel
theorem dX12_number_32 : decode cX12_number 32 = .ok (.invokevirtual 173, 3) := by decide +kernel
theorem dX12_number_35 : decode cX12_number 35 = .ok (.ireturn, 1) := by decide +kernel
theorem dX12_number_36 : decode cX12_number 36 = .ok (.aload_n 0, 1) := by decide +kernel
theorem dX12_number_37 : decode cX12_number 37 = .ok (.getfield 7, 3) := by decide +kernel
theorem dX12_number_40 : decode cX12_number 40 = .ok (.iload_n 1, 1) := by decide +kernel
theorem dX12_number_41 : decode cX12_number 41 = .ok (.aload_n 0, 1) := by decide +kernel
theorem dX12_number_42 : decode cX12_number 42 = .ok (.getfield 133, 3) := by decide +kernel
theorem dX12_number_45 : decode cX12_number 45 = .ok (.iastore, 1) := by decide +kernel
theorem dX12_number_46 : decode cX12_number 46 = .ok (.aload_n 0, 1) := by decide +kernel
theorem dX12_number_47 : decode cX12_number 47 = .ok (.invokevirtual 167, 3) := by decide +kernel
theorem dX12_number_50 : decode cX12_number 50 = .ok (.iconst 1, 1) := by decide +kernel
theorem dX12_number_51 : decode cX12_number 51 = .ok (.ireturn, 1) := by decide +kernel
set_option maxRecDepth 20000 in
theorem ggX12_isName_X12_inWords : GoodIn wsX12_isName wsX12_inWords := goodIn_r _ [8, 1, 2, 3, 9, 10, 11, 12, 13, 14, 15, 16, 17, 18, 19, 20, 21, 22, 23, 24, 25, 26, 27, 28, 29, 30, 31, 32, 33, 34, 35, 36, 37, 38, 39, 40, 41, 42, 43, 44, 45, 46, 47, 48, 49, 50, 51, 52, 53, 54, 55, 56, 57, 58, 59, 60, 7, 61, 62, 63, 64, 65, 66, 67, 68, 69, 70, 71, 72, 73, 74, 75, 76, 77, 78, 79, 80, 81, 82, 83, 84, 85, 86, 87, 88, 89, 90, 91, 92, 93, 94, 95, 96, 97, 98, 99, 100, 101, 102, 103, 104, 105] (by decide +kernel) (by decide +kernel)
set_option maxRecDepth 20000 in
theorem gX12_isName_X12_inWords : GoodIn wsX12_isName (wsV RX12 176 RX12 yX12_inWords wsX12_inWords) := goodIn_app (goodIn_of _ (by decide +kernel)) ggX12_isName_X12_inWords
theorem dX12_isName_0 : decode cX12_isName 0 = .ok (.aload_n 0, 1) := by decide +kernel
theorem dX12_isName_1 : decode cX12_isName 1 = .ok (.getfield 136, 3) := by decide +kernel
theorem dX12_isName_4 : decode cX12_isName 4 = .ok (.iconst 2, 1) := by decide +kernel
theorem dX12_isName_5 : decode cX12_isName 5 = .ok (.if_icmp .ne 30, 3) := by decide +kernel
theorem dX12_isName_8 : decode cX12_isName 8 = .ok (.aload_n 0, 1) := by decide +kernel
theorem dX12_isName_9 : decode cX12_isName 9 = .ok (.getfield 124, 3) := by decide +kernel
theorem dX12_isName_12 : decode cX12_isName 12 = .ok (.aload_n 0, 1) := by decide +kernel
theorem dX12_isName_13 : decode cX12_isName 13 = .ok (.getfield 130, 3) := by decide +kernel
theorem dX12_isName_16 : decode cX12_isName 16 = .ok (.isub, 1) := by decide +kernel
theorem dX12_isName_17 : decode cX12_isName 17 = .ok (.bipush 8, 2) := by decide +kernel
theorem dX12_isName_19 : decode cX12_isName 19 = .ok (.if_icmp .gt 16, 3) := by decide +kernel
theorem dX12_isName_22 : decode cX12_isName 22 = .ok (.aload_n 0, 1) := by decide +kernel
theorem dX12_isName_23 : decode cX12_isName 23 = .ok (.aload_n 1, 1) := by decide +kernel
theorem dX12_isName_24 : decode cX12_isName 24 = .ok (.invokevirtual 176, 3) := by decide +kernel
theorem dX12_isName_27 : decode cX12_isName 27 = .ok (.iconst (-1), 1) := by decide +kernel
theorem dX12_isName_28 : decode cX12_isName 28 = .ok (.if_icmp .ne 7, 3) := by decide +kernel
theorem dX12_isName_31 : decode cX12_isName 31 = .ok (.iconst 1, 1) := by decide +kernel
theorem dX12_isName_32 : decode cX12_isName 32 = .ok (.goto 4, 3) := by decide +kernel
theorem dX12_isName_35 : decode cX12_isName 35 = .ok (.iconst 0, 1) := by decide +kernel
theorem dX12_isName_36 : decode cX12_isName 36 = .ok (.ireturn, 1) := by decide +kernel
set_option maxRecDepth 20000 in
theorem ggX12_nameHere_X12_byteAt : GoodIn wsX12_nameHere wsX12_byteAt := goodIn_r _ [7, 8, 9, 10, 11, 12, 13, 14, 15, 16, 17, 18, 19, 20, 21, 22, 23, 24, 25, 26, 27, 28, 29, 30, 31, 32, 33, 34, 35, 36, 37, 38, 39, 40, 41, 42, 43, 44, 45, 46, 47, 48, 49, 50, 51] (by decide +kernel) (by decide +kernel)
set_option maxRecDepth 20000 in
theorem gX12_nameHere_X12_byteAt : GoodIn wsX12_nameHere (wsV RX12 127 RX12 yX12_byteAt wsX12_byteAt) := goodIn_app (goodIn_of _ (by decide +kernel)) ggX12_nameHere_X12_byteAt
theorem dX12_nameHere_0 : decode cX12_nameHere 0 = .ok (.lconst 0, 1) := by decide +kernel
theorem dX12_nameHere_1 : decode cX12_nameHere 1 = .ok (.lstore_n 1, 1) := by decide +kernel
theorem dX12_nameHere_2 : decode cX12_nameHere 2 = .ok (.aload_n 0, 1) := by decide +kernel
theorem dX12_nameHere_3 : decode cX12_nameHere 3 = .ok (.getfield 130, 3) := by decide +kernel
theorem dX12_nameHere_6 : decode cX12_nameHere 6 = .ok (.istore_n 3, 1) := by decide +kernel
theorem dX12_nameHere_7 : decode cX12_nameHere 7 = .ok (.iload_n 3, 1) := by decide +kernel
theorem dX12_nameHere_8 : decode cX12_nameHere 8 = .ok (.aload_n 0, 1) := by decide +kernel
theorem dX12_nameHere_9 : decode cX12_nameHere 9 = .ok (.getfield 124, 3) := by decide +kernel
theorem dX12_nameHere_12 : decode cX12_nameHere 12 = .ok (.if_icmp .ge 21, 3) := by decide +kernel
theorem dX12_nameHere_15 : decode cX12_nameHere 15 = .ok (.lload_n 1, 1) := by decide +kernel
theorem dX12_nameHere_16 : decode cX12_nameHere 16 = .ok (.bipush 8, 2) := by decide +kernel
theorem dX12_nameHere_18 : decode cX12_nameHere 18 = .ok (.lshl, 1) := by decide +kernel
theorem dX12_nameHere_19 : decode cX12_nameHere 19 = .ok (.aload_n 0, 1) := by decide +kernel
theorem dX12_nameHere_20 : decode cX12_nameHere 20 = .ok (.iload_n 3, 1) := by decide +kernel
theorem dX12_nameHere_21 : decode cX12_nameHere 21 = .ok (.invokevirtual 127, 3) := by decide +kernel
theorem dX12_nameHere_24 : decode cX12_nameHere 24 = .ok (.i2l, 1) := by decide +kernel
theorem dX12_nameHere_25 : decode cX12_nameHere 25 = .ok (.lor, 1) := by decide +kernel
theorem dX12_nameHere_26 : decode cX12_nameHere 26 = .ok (.lstore_n 1, 1) := by decide +kernel
theorem dX12_nameHere_27 : decode cX12_nameHere 27 = .ok (.iinc 3 1, 3) := by decide +kernel
theorem dX12_nameHere_30 : decode cX12_nameHere 30 = .ok (.goto (-23), 3) := by decide +kernel
theorem dX12_nameHere_33 : decode cX12_nameHere 33 = .ok (.lload_n 1, 1) := by decide +kernel
theorem dX12_nameHere_34 : decode cX12_nameHere 34 = .ok (.lreturn, 1) := by decide +kernel
set_option maxRecDepth 20000 in
theorem ggX12_findHere_X12_nameHere : GoodIn wsX12_findHere wsX12_nameHere := goodIn_r _ [6, 7, 8, 9, 10, 11, 5, 12, 13, 14, 15, 16, 17, 18, 19, 20, 21, 22, 23, 24, 25, 26, 27, 28, 29, 30, 31, 32, 33, 34, 35, 36, 37, 38, 39, 40, 41, 42, 43, 44, 45, 46, 47, 48, 49, 50, 51, 52, 53, 54, 55, 56] (by decide +kernel) (by decide +kernel)
set_option maxRecDepth 20000 in
theorem gX12_findHere_X12_nameHere : GoodIn wsX12_findHere (wsV RX12 180 RX12 yX12_nameHere wsX12_nameHere) := goodIn_app (goodIn_of _ (by decide +kernel)) ggX12_findHere_X12_nameHere
theorem dX12_findHere_0 : decode cX12_findHere 0 = .ok (.iconst 0, 1) := by decide +kernel
theorem dX12_findHere_1 : decode cX12_findHere 1 = .ok (.istore_n 3, 1) := by decide +kernel
theorem dX12_findHere_2 : decode cX12_findHere 2 = .ok (.iload_n 3, 1) := by decide +kernel
theorem dX12_findHere_3 : decode cX12_findHere 3 = .ok (.iload_n 2, 1) := by decide +kernel
theorem dX12_findHere_4 : decode cX12_findHere 4 = .ok (.if_icmp .ge 27, 3) := by decide +kernel
theorem dX12_findHere_7 : decode cX12_findHere 7 = .ok (.aload_n 0, 1) := by decide +kernel
theorem dX12_findHere_8 : decode cX12_findHere 8 = .ok (.getfield 13, 3) := by decide +kernel
theorem dX12_findHere_11 : decode cX12_findHere 11 = .ok (.iload_n 1, 1) := by decide +kernel
theorem dX12_findHere_12 : decode cX12_findHere 12 = .ok (.iload_n 3, 1) := by decide +kernel
theorem dX12_findHere_13 : decode cX12_findHere 13 = .ok (.iadd, 1) := by decide +kernel
theorem dX12_findHere_14 : decode cX12_findHere 14 = .ok (.laload, 1) := by decide +kernel
theorem dX12_findHere_15 : decode cX12_findHere 15 = .ok (.aload_n 0, 1) := by decide +kernel
theorem dX12_findHere_16 : decode cX12_findHere 16 = .ok (.invokevirtual 180, 3) := by decide +kernel
theorem dX12_findHere_19 : decode cX12_findHere 19 = .ok (.lcmp, 1) := by decide +kernel
theorem dX12_findHere_20 : decode cX12_findHere 20 = .ok (.ifCond .ne 5, 3) := by decide +kernel
theorem dX12_findHere_23 : decode cX12_findHere 23 = .ok (.iload_n 3, 1) := by decide +kernel
theorem dX12_findHere_24 : decode cX12_findHere 24 = .ok (.ireturn, 1) := by decide +kernel
theorem dX12_findHere_25 : decode cX12_findHere 25 = .ok (.iinc 3 1, 3) := by decide +kernel
theorem dX12_findHere_28 : decode cX12_findHere 28 = .ok (.goto (-26), 3) := by decide +kernel
theorem dX12_findHere_31 : decode cX12_findHere 31 = .ok (.iconst (-1), 1) := by decide +kernel
theorem dX12_findHere_32 : decode cX12_findHere 32 = .ok (.ireturn, 1) := by decide +kernel
theorem dX12_fault_0 : decode cX12_fault 0 = .ok (.iload_n 1, 1) := by decide +kernel
theorem dX12_fault_1 : decode cX12_fault 1 = .ok (.ifCond .ne 10, 3) := by decide +kernel
theorem dX12_fault_4 : decode cX12_fault 4 = .ok (.aload_n 0, 1) := by decide +kernel
theorem dX12_fault_5 : decode cX12_fault 5 = .ok (.getfield 37, 3) := by decide +kernel
theorem dX12_fault_8 : decode cX12_fault 8 = .ok (.goto 16, 3) := by decide +kernel
theorem dX12_fault_11 : decode cX12_fault 11 = .ok (.iload_n 1, 1) := by decide +kernel
theorem dX12_fault_12 : decode cX12_fault 12 = .ok (.iconst 1, 1) := by decide +kernel
theorem dX12_fault_13 : decode cX12_fault 13 = .ok (.if_icmp .ne 10, 3) := by decide +kernel
theorem dX12_fault_16 : decode cX12_fault 16 = .ok (.aload_n 0, 1) := by decide +kernel
theorem dX12_fault_17 : decode cX12_fault 17 = .ok (.getfield 41, 3) := by decide +kernel
theorem dX12_fault_20 : decode cX12_fault 20 = .ok (.goto 4, 3) := by decide +kernel
theorem dX12_fault_23 : decode cX12_fault 23 = .ok (.iconst (-1), 1) := by decide +kernel
theorem dX12_fault_24 : decode cX12_fault 24 = .ok (.ireturn, 1) := by decide +kernel
set_option maxRecDepth 20000 in
theorem ggX12_taken_X12_refuse : GoodIn wsX12_taken wsX12_refuse := goodIn_r _ [7, 8, 13, 14, 15, 16, 17, 18, 19, 20, 21, 22, 23, 24, 25, 26, 27, 28, 29, 30, 31, 32, 33, 34, 35, 36, 37, 38, 39, 40, 41, 42, 43, 44, 45, 46, 47, 48, 49, 50, 51, 52, 53, 54] (by decide +kernel) (by decide +kernel)
set_option maxRecDepth 20000 in
theorem gX12_taken_X12_refuse : GoodIn wsX12_taken (wsV RX12 91 RX12 yX12_refuse wsX12_refuse) := goodIn_app (goodIn_of _ (by decide +kernel)) ggX12_taken_X12_refuse
set_option maxRecDepth 20000 in
theorem ggX12_taken_X12_gives : GoodIn wsX12_taken wsX12_gives := goodIn_r _ [12, 8, 13, 14, 15, 16, 17, 18, 19, 20, 21, 22, 23, 24, 25, 26, 27, 28, 29, 30, 31, 32, 33, 34, 35, 36, 37, 38, 39, 40, 41, 42, 43, 44, 45, 46, 47, 48, 49, 50, 51, 52, 53, 54] (by decide +kernel) (by decide +kernel)
set_option maxRecDepth 20000 in
theorem gX12_taken_X12_gives : GoodIn wsX12_taken (wsV RX12 95 RX12 yX12_gives wsX12_gives) := goodIn_app (goodIn_of _ (by decide +kernel)) ggX12_taken_X12_gives
theorem dX12_taken_0 : decode cX12_taken 0 = .ok (.aload_n 0, 1) := by decide +kernel
theorem dX12_taken_1 : decode cX12_taken 1 = .ok (.aload_n 0, 1) := by decide +kernel
theorem dX12_taken_2 : decode cX12_taken 2 = .ok (.getfield 161, 3) := by decide +kernel
theorem dX12_taken_5 : decode cX12_taken 5 = .ok (.putfield 37, 3) := by decide +kernel
theorem dX12_taken_8 : decode cX12_taken 8 = .ok (.aload_n 0, 1) := by decide +kernel
theorem dX12_taken_9 : decode cX12_taken 9 = .ok (.getfield 161, 3) := by decide +kernel
theorem dX12_taken_12 : decode cX12_taken 12 = .ok (.ifCond .le 12, 3) := by decide +kernel
theorem dX12_taken_15 : decode cX12_taken 15 = .ok (.aload_n 0, 1) := by decide +kernel
theorem dX12_taken_16 : decode cX12_taken 16 = .ok (.bipush 9, 2) := by decide +kernel
theorem dX12_taken_18 : decode cX12_taken 18 = .ok (.invokevirtual 91, 3) := by decide +kernel
theorem dX12_taken_21 : decode cX12_taken 21 = .ok (.goto 8, 3) := by decide +kernel
theorem dX12_taken_24 : decode cX12_taken 24 = .ok (.aload_n 0, 1) := by decide +kernel
theorem dX12_taken_25 : decode cX12_taken 25 = .ok (.iload_n 1, 1) := by decide +kernel
theorem dX12_taken_26 : decode cX12_taken 26 = .ok (.invokevirtual 95, 3) := by decide +kernel
theorem dX12_taken_29 : decode cX12_taken 29 = .ok (.ireturn, 1) := by decide +kernel
theorem dX12_ruleRow_0 : decode cX12_ruleRow 0 = .ok (.bipush 16, 2) := by decide +kernel
theorem dX12_ruleRow_2 : decode cX12_ruleRow 2 = .ok (.bipush 7, 2) := by decide +kernel
theorem dX12_ruleRow_4 : decode cX12_ruleRow 4 = .ok (.iload_n 0, 1) := by decide +kernel
theorem dX12_ruleRow_5 : decode cX12_ruleRow 5 = .ok (.imul, 1) := by decide +kernel
theorem dX12_ruleRow_6 : decode cX12_ruleRow 6 = .ok (.iadd, 1) := by decide +kernel
theorem dX12_ruleRow_7 : decode cX12_ruleRow 7 = .ok (.ireturn, 1) := by decide +kernel
theorem dX12_personRow_0 : decode cX12_personRow 0 = .ok (.bipush 72, 2) := by decide +kernel
theorem dX12_personRow_2 : decode cX12_personRow 2 = .ok (.iconst 5, 1) := by decide +kernel
theorem dX12_personRow_3 : decode cX12_personRow 3 = .ok (.iload_n 0, 1) := by decide +kernel
theorem dX12_personRow_4 : decode cX12_personRow 4 = .ok (.imul, 1) := by decide +kernel
theorem dX12_personRow_5 : decode cX12_personRow 5 = .ok (.iadd, 1) := by decide +kernel
theorem dX12_personRow_6 : decode cX12_personRow 6 = .ok (.ireturn, 1) := by decide +kernel
set_option maxRecDepth 20000 in
theorem ggX12_isThere_X12_inWords : GoodIn wsX12_isThere wsX12_inWords := goodIn_r _ [5, 6, 7, 8, 9, 10, 11, 12, 13, 14, 15, 16, 17, 18, 19, 20, 21, 22, 23, 24, 25, 26, 27, 28, 29, 30, 31, 32, 33, 34, 35, 36, 37, 38, 39, 40, 41, 42, 43, 44, 45, 46, 47, 48, 49, 50, 51, 52, 53, 54, 55, 56, 57, 58, 59, 60, 4, 61, 62, 63, 80, 81, 82, 83, 84, 85, 86, 87, 88, 89, 90, 91, 92, 93, 94, 95, 96, 97, 98, 99, 100, 101, 102, 103, 104, 105, 106, 107, 108, 109, 110, 111, 112, 113, 114, 115, 116, 117, 118, 119, 120, 121] (by decide +kernel) (by decide +kernel)
set_option maxRecDepth 20000 in
theorem gX12_isThere_X12_inWords : GoodIn wsX12_isThere (wsV RX12 176 RX12 yX12_inWords wsX12_inWords) := goodIn_app (goodIn_of _ (by decide +kernel)) ggX12_isThere_X12_inWords
set_option maxRecDepth 20000 in
theorem ggX12_isThere_X12_ahead : GoodIn wsX12_isThere wsX12_ahead := goodIn_r _ [67, 7, 8, 68, 6, 69, 70, 71, 72, 73, 58, 59, 60, 4, 61, 62, 63, 74, 75, 76, 77, 78, 79, 80, 81, 82, 83, 84, 85, 86, 87, 88, 89, 90, 91, 92, 93, 94, 95, 96, 97, 98, 99, 100, 101, 102, 103, 104, 105, 106, 107, 108, 109, 110, 111, 112, 113, 114, 115, 116, 117, 118, 119, 120, 121] (by decide +kernel) (by decide +kernel)
set_option maxRecDepth 20000 in
theorem gX12_isThere_X12_ahead : GoodIn wsX12_isThere (wsV RX12 167 RX12 yX12_ahead wsX12_ahead) := goodIn_app (goodIn_of _ (by decide +kernel)) ggX12_isThere_X12_ahead
theorem dX12_isThere_0 : decode cX12_isThere 0 = .ok (.aload_n 0, 1) := by decide +kernel
theorem dX12_isThere_1 : decode cX12_isThere 1 = .ok (.ldc 184, 2) := by decide +kernel
theorem dX12_isThere_3 : decode cX12_isThere 3 = .ok (.invokevirtual 176, 3) := by decide +kernel
theorem dX12_isThere_6 : decode cX12_isThere 6 = .ok (.iload_n 1, 1) := by decide +kernel
theorem dX12_isThere_7 : decode cX12_isThere 7 = .ok (.if_icmp .eq 5, 3) := by decide +kernel
theorem dX12_isThere_10 : decode cX12_isThere 10 = .ok (.iconst 0, 1) := by decide +kernel
theorem dX12_isThere_11 : decode cX12_isThere 11 = .ok (.ireturn, 1) := by decide +kernel
theorem dX12_isThere_12 : decode cX12_isThere 12 = .ok (.aload_n 0, 1) := by decide +kernel
theorem dX12_isThere_13 : decode cX12_isThere 13 = .ok (.invokevirtual 167, 3) := by decide +kernel
theorem dX12_isThere_16 : decode cX12_isThere 16 = .ok (.iconst 1, 1) := by decide +kernel
theorem dX12_isThere_17 : decode cX12_isThere 17 = .ok (.ireturn, 1) := by decide +kernel
set_option maxRecDepth 20000 in
theorem ggX12_isTaken_X12_findHere : GoodIn wsX12_isTaken wsX12_findHere := goodIn_r _ [6, 7, 8, 9, 10, 5, 11, 12, 13, 14, 15, 16, 17, 18, 19, 20, 21, 22, 23, 24, 25, 26, 27, 28, 29, 30, 31, 32, 33, 34, 35, 36, 37, 38, 39, 40, 41, 42, 43, 44, 45, 46, 47, 48, 49, 50, 51, 52, 53, 54, 55, 56, 57, 58, 59, 60, 61] (by decide +kernel) (by decide +kernel)
set_option maxRecDepth 20000 in
theorem gX12_isTaken_X12_findHere : GoodIn wsX12_isTaken (wsV RX12 186 RX12 yX12_findHere wsX12_findHere) := goodIn_app (goodIn_of _ (by decide +kernel)) ggX12_isTaken_X12_findHere
theorem dX12_isTaken_0 : decode cX12_isTaken 0 = .ok (.aload_n 0, 1) := by decide +kernel
theorem dX12_isTaken_1 : decode cX12_isTaken 1 = .ok (.bipush 92, 2) := by decide +kernel
theorem dX12_isTaken_3 : decode cX12_isTaken 3 = .ok (.aload_n 0, 1) := by decide +kernel
theorem dX12_isTaken_4 : decode cX12_isTaken 4 = .ok (.getfield 7, 3) := by decide +kernel
theorem dX12_isTaken_7 : decode cX12_isTaken 7 = .ok (.sipush 2008, 3) := by decide +kernel
theorem dX12_isTaken_10 : decode cX12_isTaken 10 = .ok (.iaload, 1) := by decide +kernel
theorem dX12_isTaken_11 : decode cX12_isTaken 11 = .ok (.invokevirtual 186, 3) := by decide +kernel
theorem dX12_isTaken_14 : decode cX12_isTaken 14 = .ok (.iconst (-1), 1) := by decide +kernel
theorem dX12_isTaken_15 : decode cX12_isTaken 15 = .ok (.if_icmp .ne 21, 3) := by decide +kernel
theorem dX12_isTaken_18 : decode cX12_isTaken 18 = .ok (.aload_n 0, 1) := by decide +kernel
theorem dX12_isTaken_19 : decode cX12_isTaken 19 = .ok (.bipush 97, 2) := by decide +kernel
theorem dX12_isTaken_21 : decode cX12_isTaken 21 = .ok (.aload_n 0, 1) := by decide +kernel
theorem dX12_isTaken_22 : decode cX12_isTaken 22 = .ok (.getfield 7, 3) := by decide +kernel
theorem dX12_isTaken_25 : decode cX12_isTaken 25 = .ok (.sipush 2009, 3) := by decide +kernel
theorem dX12_isTaken_28 : decode cX12_isTaken 28 = .ok (.iaload, 1) := by decide +kernel
theorem dX12_isTaken_29 : decode cX12_isTaken 29 = .ok (.invokevirtual 186, 3) := by decide +kernel
theorem dX12_isTaken_32 : decode cX12_isTaken 32 = .ok (.iconst (-1), 1) := by decide +kernel
theorem dX12_isTaken_33 : decode cX12_isTaken 33 = .ok (.if_icmp .eq 5, 3) := by decide +kernel
theorem dX12_isTaken_36 : decode cX12_isTaken 36 = .ok (.iconst 1, 1) := by decide +kernel
theorem dX12_isTaken_37 : decode cX12_isTaken 37 = .ok (.ireturn, 1) := by decide +kernel
theorem dX12_isTaken_38 : decode cX12_isTaken 38 = .ok (.aload_n 0, 1) := by decide +kernel
theorem dX12_isTaken_39 : decode cX12_isTaken 39 = .ok (.bipush 103, 2) := by decide +kernel
theorem dX12_isTaken_41 : decode cX12_isTaken 41 = .ok (.aload_n 0, 1) := by decide +kernel
theorem dX12_isTaken_42 : decode cX12_isTaken 42 = .ok (.getfield 7, 3) := by decide +kernel
theorem dX12_isTaken_45 : decode cX12_isTaken 45 = .ok (.sipush 2011, 3) := by decide +kernel
theorem dX12_isTaken_48 : decode cX12_isTaken 48 = .ok (.iaload, 1) := by decide +kernel
theorem dX12_isTaken_49 : decode cX12_isTaken 49 = .ok (.invokevirtual 186, 3) := by decide +kernel
theorem dX12_isTaken_52 : decode cX12_isTaken 52 = .ok (.iconst (-1), 1) := by decide +kernel
theorem dX12_isTaken_53 : decode cX12_isTaken 53 = .ok (.if_icmp .ne 21, 3) := by decide +kernel
theorem dX12_isTaken_56 : decode cX12_isTaken 56 = .ok (.aload_n 0, 1) := by decide +kernel
theorem dX12_isTaken_57 : decode cX12_isTaken 57 = .ok (.bipush 109, 2) := by decide +kernel
theorem dX12_isTaken_59 : decode cX12_isTaken 59 = .ok (.aload_n 0, 1) := by decide +kernel
theorem dX12_isTaken_60 : decode cX12_isTaken 60 = .ok (.getfield 7, 3) := by decide +kernel
theorem dX12_isTaken_63 : decode cX12_isTaken 63 = .ok (.sipush 2012, 3) := by decide +kernel
theorem dX12_isTaken_66 : decode cX12_isTaken 66 = .ok (.iaload, 1) := by decide +kernel
theorem dX12_isTaken_67 : decode cX12_isTaken 67 = .ok (.invokevirtual 186, 3) := by decide +kernel
theorem dX12_isTaken_70 : decode cX12_isTaken 70 = .ok (.iconst (-1), 1) := by decide +kernel
theorem dX12_isTaken_71 : decode cX12_isTaken 71 = .ok (.if_icmp .eq 7, 3) := by decide +kernel
theorem dX12_isTaken_74 : decode cX12_isTaken 74 = .ok (.iconst 1, 1) := by decide +kernel
theorem dX12_isTaken_75 : decode cX12_isTaken 75 = .ok (.goto 4, 3) := by decide +kernel
theorem dX12_isTaken_78 : decode cX12_isTaken 78 = .ok (.iconst 0, 1) := by decide +kernel
theorem dX12_isTaken_79 : decode cX12_isTaken 79 = .ok (.ireturn, 1) := by decide +kernel
theorem dX12_isFull_0 : decode cX12_isFull 0 = .ok (.aload_n 0, 1) := by decide +kernel
theorem dX12_isFull_1 : decode cX12_isFull 1 = .ok (.getfield 7, 3) := by decide +kernel
theorem dX12_isFull_4 : decode cX12_isFull 4 = .ok (.sipush 2008, 3) := by decide +kernel
theorem dX12_isFull_7 : decode cX12_isFull 7 = .ok (.iload_n 1, 1) := by decide +kernel
theorem dX12_isFull_8 : decode cX12_isFull 8 = .ok (.iadd, 1) := by decide +kernel
theorem dX12_isFull_9 : decode cX12_isFull 9 = .ok (.iaload, 1) := by decide +kernel
theorem dX12_isFull_10 : decode cX12_isFull 10 = .ok (.iload_n 2, 1) := by decide +kernel
theorem dX12_isFull_11 : decode cX12_isFull 11 = .ok (.if_icmp .ne 7, 3) := by decide +kernel
theorem dX12_isFull_14 : decode cX12_isFull 14 = .ok (.iconst 1, 1) := by decide +kernel
theorem dX12_isFull_15 : decode cX12_isFull 15 = .ok (.goto 4, 3) := by decide +kernel
theorem dX12_isFull_18 : decode cX12_isFull 18 = .ok (.iconst 0, 1) := by decide +kernel
theorem dX12_isFull_19 : decode cX12_isFull 19 = .ok (.ireturn, 1) := by decide +kernel
set_option maxRecDepth 20000 in
theorem ggX12_newOne_X12_isFull : GoodIn wsX12_newOne wsX12_isFull := goodIn_r _ [7, 2, 108, 109, 110, 111, 112, 113, 114, 115, 116, 117, 118, 119, 120, 121, 122, 123, 124, 125, 126, 127, 128, 129, 130, 131, 132, 133, 134, 135, 136, 137, 138, 139, 140, 141, 142, 143, 144, 145, 146, 147, 148, 149] (by decide +kernel) (by decide +kernel)
set_option maxRecDepth 20000 in
theorem gX12_newOne_X12_isFull : GoodIn wsX12_newOne (wsV RX12 189 RX12 yX12_isFull wsX12_isFull) := goodIn_app (goodIn_of _ (by decide +kernel)) ggX12_newOne_X12_isFull
set_option maxRecDepth 20000 in
theorem ggX12_newOne_X12_fails : GoodIn wsX12_newOne wsX12_fails := goodIn_r _ [11, 12, 13, 14, 15, 108, 109, 110, 111, 112, 113, 114, 115, 116, 117, 118, 119, 120, 121, 122, 123, 124, 125, 126, 127, 128, 129, 130, 131, 132, 133, 134, 135, 136, 137, 138, 139, 140, 141, 142, 143, 144, 145, 146, 147, 148, 149] (by decide +kernel) (by decide +kernel)
set_option maxRecDepth 20000 in
theorem gX12_newOne_X12_fails : GoodIn wsX12_newOne (wsV RX12 173 RX12 yX12_fails wsX12_fails) := goodIn_app (goodIn_of _ (by decide +kernel)) ggX12_newOne_X12_fails
set_option maxRecDepth 20000 in
theorem ggX12_newOne_X12_ahead : GoodIn wsX12_newOne wsX12_ahead := goodIn_r _ [19, 20, 14, 21, 13, 22, 23, 24, 25, 26, 27, 28, 29, 6, 30, 31, 32, 33, 34, 35, 36, 37, 38, 108, 109, 110, 111, 112, 113, 114, 115, 116, 117, 118, 119, 120, 121, 122, 123, 124, 125, 126, 127, 128, 129, 130, 131, 132, 133, 134, 135, 136, 137, 138, 139, 140, 141, 142, 143, 144, 145, 146, 147, 148, 149] (by decide +kernel) (by decide +kernel)
set_option maxRecDepth 20000 in
theorem gX12_newOne_X12_ahead : GoodIn wsX12_newOne (wsV RX12 167 RX12 yX12_ahead wsX12_ahead) := goodIn_app (goodIn_of _ (by decide +kernel)) ggX12_newOne_X12_ahead
set_option maxRecDepth 20000 in
theorem ggX12_newOne_X12_isName : GoodIn wsX12_newOne wsX12_isName := goodIn_r _ [42, 13, 20, 14, 43, 44, 45, 6, 46, 47, 48, 49, 50, 51, 52, 53, 54, 55, 56, 57, 58, 59, 60, 61, 62, 63, 64, 65, 66, 67, 68, 69, 70, 71, 72, 73, 74, 75, 76, 77, 78, 79, 80, 81, 82, 83, 84, 85, 86, 87, 88, 89, 90, 91, 92, 93, 94, 95, 27, 28, 29, 30, 31, 32, 108, 109, 110, 111, 112, 113, 114, 115, 116, 117, 118, 119, 120, 121, 122, 123, 124, 125, 126, 127, 128, 129, 130, 131, 132, 133, 134, 135, 136, 137, 138, 139, 140, 141, 142, 143, 144, 145, 146, 147, 148, 149] (by decide +kernel) (by decide +kernel)
set_option maxRecDepth 20000 in
theorem gX12_newOne_X12_isName : GoodIn wsX12_newOne (wsV RX12 193 RX12 yX12_isName wsX12_isName) := goodIn_app (goodIn_of _ (by decide +kernel)) ggX12_newOne_X12_isName
set_option maxRecDepth 20000 in
theorem ggX12_newOne_X12_isTaken : GoodIn wsX12_newOne wsX12_isTaken := goodIn_r _ [99, 2, 100, 101, 102, 6, 103, 1, 104, 105, 106, 107, 14, 20, 27, 28, 29, 30, 31, 32, 108, 109, 110, 111, 112, 113, 114, 115, 116, 117, 118, 119, 120, 121, 122, 123, 124, 125, 126, 127, 128, 129, 130, 131, 132, 133, 134, 135, 136, 137, 138, 139, 140, 141, 142, 143, 144, 145, 146, 147, 148, 149] (by decide +kernel) (by decide +kernel)
set_option maxRecDepth 20000 in
theorem gX12_newOne_X12_isTaken : GoodIn wsX12_newOne (wsV RX12 197 RX12 yX12_isTaken wsX12_isTaken) := goodIn_app (goodIn_of _ (by decide +kernel)) ggX12_newOne_X12_isTaken
set_option maxRecDepth 20000 in
theorem ggX12_newOne_X12_nameHere : GoodIn wsX12_newOne wsX12_nameHere := goodIn_r _ [107, 14, 20, 27, 28, 29, 6, 30, 31, 32, 108, 109, 110, 111, 112, 113, 114, 115, 116, 117, 118, 119, 120, 121, 122, 123, 124, 125, 126, 127, 128, 129, 130, 131, 132, 133, 134, 135, 136, 137, 138, 139, 140, 141, 142, 143, 144, 145, 146, 147, 148, 149] (by decide +kernel) (by decide +kernel)
set_option maxRecDepth 20000 in
theorem gX12_newOne_X12_nameHere : GoodIn wsX12_newOne (wsV RX12 180 RX12 yX12_nameHere wsX12_nameHere) := goodIn_app (goodIn_of _ (by decide +kernel)) ggX12_newOne_X12_nameHere
theorem dX12_newOne_0 : decode cX12_newOne 0 = .ok (.aload_n 0, 1) := by decide +kernel
theorem dX12_newOne_1 : decode cX12_newOne 1 = .ok (.iload_n 1, 1) := by decide +kernel
theorem dX12_newOne_2 : decode cX12_newOne 2 = .ok (.iload_n 2, 1) := by decide +kernel
theorem dX12_newOne_3 : decode cX12_newOne 3 = .ok (.invokevirtual 189, 3) := by decide +kernel
theorem dX12_newOne_6 : decode cX12_newOne 6 = .ok (.ifCond .eq 10, 3) := by decide +kernel
theorem dX12_newOne_9 : decode cX12_newOne 9 = .ok (.aload_n 0, 1) := by decide +kernel
theorem dX12_newOne_10 : decode cX12_newOne 10 = .ok (.bipush 6, 2) := by decide +kernel
theorem dX12_newOne_12 : decode cX12_newOne 12 = .ok (.invokevirtual 173, 3) := by decide +kernel
theorem dX12_newOne_15 : decode cX12_newOne 15 = .ok (.ireturn, 1) := by decide +kernel
theorem dX12_newOne_16 : decode cX12_newOne 16 = .ok (.aload_n 0, 1) := by decide +kernel
theorem dX12_newOne_17 : decode cX12_newOne 17 = .ok (.invokevirtual 167, 3) := by decide +kernel
theorem dX12_newOne_20 : decode cX12_newOne 20 = .ok (.aload_n 0, 1) := by decide +kernel
theorem dX12_newOne_21 : decode cX12_newOne 21 = .ok (.ldc 184, 2) := by decide +kernel
theorem dX12_newOne_23 : decode cX12_newOne 23 = .ok (.invokevirtual 193, 3) := by decide +kernel
theorem dX12_newOne_26 : decode cX12_newOne 26 = .ok (.ifCond .ne 9, 3) := by decide +kernel
theorem dX12_newOne_29 : decode cX12_newOne 29 = .ok (.aload_n 0, 1) := by decide +kernel
theorem dX12_newOne_30 : decode cX12_newOne 30 = .ok (.iconst 2, 1) := by decide +kernel
theorem dX12_newOne_31 : decode cX12_newOne 31 = .ok (.invokevirtual 173, 3) := by decide +kernel
theorem dX12_newOne_34 : decode cX12_newOne 34 = .ok (.ireturn, 1) := by decide +kernel
theorem dX12_newOne_35 : decode cX12_newOne 35 = .ok (.aload_n 0, 1) := by decide +kernel
theorem dX12_newOne_36 : decode cX12_newOne 36 = .ok (.invokevirtual 197, 3) := by decide +kernel
theorem dX12_newOne_39 : decode cX12_newOne 39 = .ok (.ifCond .eq 9, 3) := by decide +kernel
theorem dX12_newOne_42 : decode cX12_newOne 42 = .ok (.aload_n 0, 1) := by decide +kernel
theorem dX12_newOne_43 : decode cX12_newOne 43 = .ok (.iconst 3, 1) := by decide +kernel
theorem dX12_newOne_44 : decode cX12_newOne 44 = .ok (.invokevirtual 173, 3) := by decide +kernel
theorem dX12_newOne_47 : decode cX12_newOne 47 = .ok (.ireturn, 1) := by decide +kernel
theorem dX12_newOne_48 : decode cX12_newOne 48 = .ok (.aload_n 0, 1) := by decide +kernel
theorem dX12_newOne_49 : decode cX12_newOne 49 = .ok (.getfield 13, 3) := by decide +kernel
theorem dX12_newOne_52 : decode cX12_newOne 52 = .ok (.bipush 92, 2) := by decide +kernel
theorem dX12_newOne_54 : decode cX12_newOne 54 = .ok (.iload_n 3, 1) := by decide +kernel
theorem dX12_newOne_55 : decode cX12_newOne 55 = .ok (.iadd, 1) := by decide +kernel
theorem dX12_newOne_56 : decode cX12_newOne 56 = .ok (.aload_n 0, 1) := by decide +kernel
theorem dX12_newOne_57 : decode cX12_newOne 57 = .ok (.getfield 7, 3) := by decide +kernel
theorem dX12_newOne_60 : decode cX12_newOne 60 = .ok (.sipush 2008, 3) := by decide +kernel
theorem dX12_newOne_63 : decode cX12_newOne 63 = .ok (.iload_n 1, 1) := by decide +kernel
theorem dX12_newOne_64 : decode cX12_newOne 64 = .ok (.iadd, 1) := by decide +kernel
theorem dX12_newOne_65 : decode cX12_newOne 65 = .ok (.iaload, 1) := by decide +kernel
theorem dX12_newOne_66 : decode cX12_newOne 66 = .ok (.iadd, 1) := by decide +kernel
theorem dX12_newOne_67 : decode cX12_newOne 67 = .ok (.aload_n 0, 1) := by decide +kernel
theorem dX12_newOne_68 : decode cX12_newOne 68 = .ok (.invokevirtual 180, 3) := by decide +kernel
theorem dX12_newOne_71 : decode cX12_newOne 71 = .ok (.lastore, 1) := by decide +kernel
theorem dX12_newOne_72 : decode cX12_newOne 72 = .ok (.aload_n 0, 1) := by decide +kernel
theorem dX12_newOne_73 : decode cX12_newOne 73 = .ok (.invokevirtual 167, 3) := by decide +kernel
theorem dX12_newOne_76 : decode cX12_newOne 76 = .ok (.iconst 1, 1) := by decide +kernel
theorem dX12_newOne_77 : decode cX12_newOne 77 = .ok (.ireturn, 1) := by decide +kernel
set_option maxRecDepth 20000 in
theorem ggX12_oldOne_X12_isName : GoodIn wsX12_oldOne wsX12_isName := goodIn_r _ [6, 7, 8, 9, 10, 11, 12, 5, 13, 14, 15, 16, 17, 18, 19, 20, 21, 22, 23, 24, 25, 26, 27, 28, 29, 30, 31, 32, 33, 34, 35, 36, 37, 38, 39, 40, 41, 42, 43, 44, 45, 46, 47, 48, 49, 50, 51, 52, 53, 54, 55, 56, 57, 58, 59, 60, 61, 62, 63, 64, 65, 66, 67, 68, 100, 101, 102, 103, 104, 105, 106, 107, 108, 109, 110, 111, 112, 113, 114, 115, 116, 117, 118, 119, 120, 121, 122, 123, 124, 125, 126, 127, 128, 129, 130, 131, 132, 133, 134, 135, 136, 137, 138, 139, 140, 141] (by decide +kernel) (by decide +kernel)
set_option maxRecDepth 20000 in
theorem gX12_oldOne_X12_isName : GoodIn wsX12_oldOne (wsV RX12 193 RX12 yX12_isName wsX12_isName) := goodIn_app (goodIn_of _ (by decide +kernel)) ggX12_oldOne_X12_isName
set_option maxRecDepth 20000 in
theorem ggX12_oldOne_X12_fails : GoodIn wsX12_oldOne wsX12_fails := goodIn_r _ [72, 73, 7, 9, 74, 100, 101, 102, 103, 104, 105, 106, 107, 108, 109, 110, 111, 112, 113, 114, 115, 116, 117, 118, 119, 120, 121, 122, 123, 124, 125, 126, 127, 128, 129, 130, 131, 132, 133, 134, 135, 136, 137, 138, 139, 140, 141] (by decide +kernel) (by decide +kernel)
set_option maxRecDepth 20000 in
theorem gX12_oldOne_X12_fails : GoodIn wsX12_oldOne (wsV RX12 173 RX12 yX12_fails wsX12_fails) := goodIn_app (goodIn_of _ (by decide +kernel)) ggX12_oldOne_X12_fails
set_option maxRecDepth 20000 in
theorem ggX12_oldOne_X12_findHere : GoodIn wsX12_oldOne wsX12_findHere := goodIn_r _ [78, 79, 80, 81, 82, 5, 83, 9, 8, 63, 64, 65, 66, 67, 68, 100, 101, 102, 103, 104, 105, 106, 107, 108, 109, 110, 111, 112, 113, 114, 115, 116, 117, 118, 119, 120, 121, 122, 123, 124, 125, 126, 127, 128, 129, 130, 131, 132, 133, 134, 135, 136, 137, 138, 139, 140, 141] (by decide +kernel) (by decide +kernel)
set_option maxRecDepth 20000 in
theorem gX12_oldOne_X12_findHere : GoodIn wsX12_oldOne (wsV RX12 186 RX12 yX12_findHere wsX12_findHere) := goodIn_app (goodIn_of _ (by decide +kernel)) ggX12_oldOne_X12_findHere
set_option maxRecDepth 20000 in
theorem ggX12_oldOne_X12_ahead : GoodIn wsX12_oldOne wsX12_ahead := goodIn_r _ [87, 8, 9, 88, 7, 89, 90, 91, 92, 93, 63, 64, 65, 5, 66, 67, 68, 94, 95, 96, 97, 98, 99, 100, 101, 102, 103, 104, 105, 106, 107, 108, 109, 110, 111, 112, 113, 114, 115, 116, 117, 118, 119, 120, 121, 122, 123, 124, 125, 126, 127, 128, 129, 130, 131, 132, 133, 134, 135, 136, 137, 138, 139, 140, 141] (by decide +kernel) (by decide +kernel)
set_option maxRecDepth 20000 in
theorem gX12_oldOne_X12_ahead : GoodIn wsX12_oldOne (wsV RX12 167 RX12 yX12_ahead wsX12_ahead) := goodIn_app (goodIn_of _ (by decide +kernel)) ggX12_oldOne_X12_ahead
theorem dX12_oldOne_0 : decode cX12_oldOne 0 = .ok (.aload_n 0, 1) := by decide +kernel
theorem dX12_oldOne_1 : decode cX12_oldOne 1 = .ok (.ldc 184, 2) := by decide +kernel
theorem dX12_oldOne_3 : decode cX12_oldOne 3 = .ok (.invokevirtual 193, 3) := by decide +kernel
theorem dX12_oldOne_6 : decode cX12_oldOne 6 = .ok (.ifCond .ne 9, 3) := by decide +kernel
theorem dX12_oldOne_9 : decode cX12_oldOne 9 = .ok (.aload_n 0, 1) := by decide +kernel
theorem dX12_oldOne_10 : decode cX12_oldOne 10 = .ok (.iconst 2, 1) := by decide +kernel
theorem dX12_oldOne_11 : decode cX12_oldOne 11 = .ok (.invokevirtual 173, 3) := by decide +kernel
theorem dX12_oldOne_14 : decode cX12_oldOne 14 = .ok (.ireturn, 1) := by decide +kernel
theorem dX12_oldOne_15 : decode cX12_oldOne 15 = .ok (.aload_n 0, 1) := by decide +kernel
theorem dX12_oldOne_16 : decode cX12_oldOne 16 = .ok (.getfield 7, 3) := by decide +kernel
theorem dX12_oldOne_19 : decode cX12_oldOne 19 = .ok (.iload_n 3, 1) := by decide +kernel
theorem dX12_oldOne_20 : decode cX12_oldOne 20 = .ok (.aload_n 0, 1) := by decide +kernel
theorem dX12_oldOne_21 : decode cX12_oldOne 21 = .ok (.iload_n 1, 1) := by decide +kernel
theorem dX12_oldOne_22 : decode cX12_oldOne 22 = .ok (.iload_n 2, 1) := by decide +kernel
theorem dX12_oldOne_23 : decode cX12_oldOne 23 = .ok (.invokevirtual 186, 3) := by decide +kernel
theorem dX12_oldOne_26 : decode cX12_oldOne 26 = .ok (.iastore, 1) := by decide +kernel
theorem dX12_oldOne_27 : decode cX12_oldOne 27 = .ok (.aload_n 0, 1) := by decide +kernel
theorem dX12_oldOne_28 : decode cX12_oldOne 28 = .ok (.getfield 7, 3) := by decide +kernel
theorem dX12_oldOne_31 : decode cX12_oldOne 31 = .ok (.iload_n 3, 1) := by decide +kernel
theorem dX12_oldOne_32 : decode cX12_oldOne 32 = .ok (.iaload, 1) := by decide +kernel
theorem dX12_oldOne_33 : decode cX12_oldOne 33 = .ok (.iconst (-1), 1) := by decide +kernel
theorem dX12_oldOne_34 : decode cX12_oldOne 34 = .ok (.if_icmp .ne 9, 3) := by decide +kernel
theorem dX12_oldOne_37 : decode cX12_oldOne 37 = .ok (.aload_n 0, 1) := by decide +kernel
theorem dX12_oldOne_38 : decode cX12_oldOne 38 = .ok (.iconst 3, 1) := by decide +kernel
theorem dX12_oldOne_39 : decode cX12_oldOne 39 = .ok (.invokevirtual 173, 3) := by decide +kernel
theorem dX12_oldOne_42 : decode cX12_oldOne 42 = .ok (.ireturn, 1) := by decide +kernel
theorem dX12_oldOne_43 : decode cX12_oldOne 43 = .ok (.aload_n 0, 1) := by decide +kernel
theorem dX12_oldOne_44 : decode cX12_oldOne 44 = .ok (.invokevirtual 167, 3) := by decide +kernel
theorem dX12_oldOne_47 : decode cX12_oldOne 47 = .ok (.iconst 1, 1) := by decide +kernel
theorem dX12_oldOne_48 : decode cX12_oldOne 48 = .ok (.ireturn, 1) := by decide +kernel
set_option maxRecDepth 20000 in
theorem ggX12_aSmell_X12_newOne : GoodIn wsX12_aSmell wsX12_newOne := goodIn_r _ [6, 7, 1, 8, 9, 10, 5, 11, 12, 13, 14, 15, 16, 17, 18, 19, 20, 21, 22, 23, 24, 25, 26, 27, 28, 29, 30, 31, 32, 33, 34, 35, 36, 37, 38, 39, 40, 41, 42, 43, 44, 45, 46, 47, 48, 49, 50, 51, 52, 53, 54, 55, 56, 57, 58, 59, 60, 61, 62, 63, 64, 65, 66, 67, 68, 69, 70, 71, 72, 73, 74, 75, 76, 77, 78, 79, 80, 81, 82, 83, 84, 85, 86, 87, 88, 89, 90, 91, 92, 93, 94, 95, 96, 97, 98, 99, 100, 101, 102, 103, 104, 105, 106, 107, 108, 109, 110, 111, 112, 113, 114, 115, 116, 117, 118, 119, 120, 121, 122, 123, 124, 125, 126, 127, 128, 129, 130, 131, 132, 133, 134, 135, 136, 137, 138, 139, 140, 141, 142, 143, 144, 145, 146, 147, 148, 149, 150, 151, 152, 153] (by decide +kernel) (by decide +kernel)
set_option maxRecDepth 20000 in
theorem gX12_aSmell_X12_newOne : GoodIn wsX12_aSmell (wsV RX12 201 RX12 yX12_newOne wsX12_newOne) := goodIn_app (goodIn_of _ (by decide +kernel)) ggX12_aSmell_X12_newOne
theorem dX12_aSmell_0 : decode cX12_aSmell 0 = .ok (.aload_n 0, 1) := by decide +kernel
theorem dX12_aSmell_1 : decode cX12_aSmell 1 = .ok (.iconst 0, 1) := by decide +kernel
theorem dX12_aSmell_2 : decode cX12_aSmell 2 = .ok (.iconst 5, 1) := by decide +kernel
theorem dX12_aSmell_3 : decode cX12_aSmell 3 = .ok (.iconst 0, 1) := by decide +kernel
theorem dX12_aSmell_4 : decode cX12_aSmell 4 = .ok (.invokevirtual 201, 3) := by decide +kernel
theorem dX12_aSmell_7 : decode cX12_aSmell 7 = .ok (.ifCond .ne 5, 3) := by decide +kernel
theorem dX12_aSmell_10 : decode cX12_aSmell 10 = .ok (.iconst 0, 1) := by decide +kernel
theorem dX12_aSmell_11 : decode cX12_aSmell 11 = .ok (.ireturn, 1) := by decide +kernel
theorem dX12_aSmell_12 : decode cX12_aSmell 12 = .ok (.aload_n 0, 1) := by decide +kernel
theorem dX12_aSmell_13 : decode cX12_aSmell 13 = .ok (.getfield 7, 3) := by decide +kernel
theorem dX12_aSmell_16 : decode cX12_aSmell 16 = .ok (.sipush 2008, 3) := by decide +kernel
theorem dX12_aSmell_19 : decode cX12_aSmell 19 = .ok (.dup2, 1) := by decide +kernel
theorem dX12_aSmell_20 : decode cX12_aSmell 20 = .ok (.iaload, 1) := by decide +kernel
theorem dX12_aSmell_21 : decode cX12_aSmell 21 = .ok (.iconst 1, 1) := by decide +kernel
theorem dX12_aSmell_22 : decode cX12_aSmell 22 = .ok (.iadd, 1) := by decide +kernel
theorem dX12_aSmell_23 : decode cX12_aSmell 23 = .ok (.iastore, 1) := by decide +kernel
theorem dX12_aSmell_24 : decode cX12_aSmell 24 = .ok (.iconst 1, 1) := by decide +kernel
theorem dX12_aSmell_25 : decode cX12_aSmell 25 = .ok (.ireturn, 1) := by decide +kernel
set_option maxRecDepth 20000 in
theorem ggX12_aCue_X12_newOne : GoodIn wsX12_aCue wsX12_newOne := goodIn_r _ [6, 7, 1, 8, 9, 10, 5, 11, 12, 13, 14, 15, 16, 17, 18, 19, 20, 21, 22, 23, 24, 25, 26, 27, 28, 29, 30, 31, 32, 33, 34, 35, 36, 37, 38, 39, 40, 41, 42, 43, 44, 45, 46, 47, 48, 49, 50, 51, 52, 53, 54, 55, 56, 57, 58, 59, 60, 61, 62, 63, 64, 65, 66, 67, 68, 69, 70, 71, 72, 73, 74, 75, 76, 77, 78, 79, 80, 81, 82, 83, 84, 85, 86, 87, 88, 89, 90, 91, 92, 93, 94, 95, 96, 97, 98, 99, 100, 101, 102, 103, 104, 105, 106, 107, 108, 109, 110, 111, 116, 117, 118, 119, 120, 121, 122, 123, 124, 125, 126, 127, 128, 129, 130, 131, 132, 133, 134, 135, 136, 137, 138, 139, 140, 141, 142, 143, 144, 145, 146, 147, 148, 149, 150, 151, 152, 153, 154, 155, 156, 157] (by decide +kernel) (by decide +kernel)
set_option maxRecDepth 20000 in
theorem gX12_aCue_X12_newOne : GoodIn wsX12_aCue (wsV RX12 201 RX12 yX12_newOne wsX12_newOne) := goodIn_app (goodIn_of _ (by decide +kernel)) ggX12_aCue_X12_newOne
set_option maxRecDepth 20000 in
theorem ggX12_aCue_X12_wantWord : GoodIn wsX12_aCue wsX12_wantWord := goodIn_r _ [115, 47, 48, 49, 5, 50, 17, 24, 18, 51, 52, 53, 54, 55, 56, 57, 58, 59, 60, 61, 62, 63, 64, 65, 66, 67, 68, 69, 70, 71, 72, 73, 74, 75, 76, 77, 78, 79, 80, 81, 82, 83, 84, 85, 86, 87, 88, 89, 90, 91, 92, 93, 94, 95, 96, 97, 98, 99, 31, 32, 33, 34, 35, 36, 12, 13, 14, 15, 16, 19, 20, 21, 22, 23, 25, 26, 27, 28, 29, 30, 37, 38, 39, 40, 41, 42, 116, 117, 118, 119, 120, 121, 122, 123, 124, 125, 126, 127, 128, 129, 130, 131, 132, 133, 134, 135, 136, 137, 138, 139, 140, 141, 142, 143, 144, 145, 146, 147, 148, 149, 150, 151, 152, 153, 154, 155, 156, 157] (by decide +kernel) (by decide +kernel)
set_option maxRecDepth 20000 in
theorem gX12_aCue_X12_wantWord : GoodIn wsX12_aCue (wsV RX12 205 RX12 yX12_wantWord wsX12_wantWord) := goodIn_app (goodIn_of _ (by decide +kernel)) ggX12_aCue_X12_wantWord
set_option maxRecDepth 20000 in
theorem ggX12_aCue_X12_inWords : GoodIn wsX12_aCue wsX12_inWords := goodIn_r _ [50, 17, 24, 18, 51, 52, 53, 54, 55, 56, 57, 58, 59, 60, 61, 62, 63, 64, 65, 66, 67, 68, 69, 70, 71, 72, 73, 74, 75, 76, 77, 78, 79, 80, 81, 82, 83, 84, 85, 86, 87, 88, 89, 90, 91, 92, 93, 94, 95, 96, 97, 98, 99, 31, 32, 33, 5, 34, 35, 36, 116, 117, 118, 119, 120, 121, 122, 123, 124, 125, 126, 127, 128, 129, 130, 131, 132, 133, 134, 135, 136, 137, 138, 139, 140, 141, 142, 143, 144, 145, 146, 147, 148, 149, 150, 151, 152, 153, 154, 155, 156, 157] (by decide +kernel) (by decide +kernel)
set_option maxRecDepth 20000 in
theorem gX12_aCue_X12_inWords : GoodIn wsX12_aCue (wsV RX12 176 RX12 yX12_inWords wsX12_inWords) := goodIn_app (goodIn_of _ (by decide +kernel)) ggX12_aCue_X12_inWords
set_option maxRecDepth 20000 in
theorem ggX12_aCue_X12_fails : GoodIn wsX12_aCue wsX12_fails := goodIn_r _ [15, 16, 17, 18, 19, 116, 117, 118, 119, 120, 121, 122, 123, 124, 125, 126, 127, 128, 129, 130, 131, 132, 133, 134, 135, 136, 137, 138, 139, 140, 141, 142, 143, 144, 145, 146, 147, 148, 149, 150, 151, 152, 153, 154, 155, 156, 157] (by decide +kernel) (by decide +kernel)
set_option maxRecDepth 20000 in
theorem gX12_aCue_X12_fails : GoodIn wsX12_aCue (wsV RX12 173 RX12 yX12_fails wsX12_fails) := goodIn_app (goodIn_of _ (by decide +kernel)) ggX12_aCue_X12_fails
set_option maxRecDepth 20000 in
theorem ggX12_aCue_X12_ahead : GoodIn wsX12_aCue wsX12_ahead := goodIn_r _ [23, 24, 18, 25, 17, 26, 27, 28, 29, 30, 31, 32, 33, 5, 34, 35, 36, 37, 38, 39, 40, 41, 42, 116, 117, 118, 119, 120, 121, 122, 123, 124, 125, 126, 127, 128, 129, 130, 131, 132, 133, 134, 135, 136, 137, 138, 139, 140, 141, 142, 143, 144, 145, 146, 147, 148, 149, 150, 151, 152, 153, 154, 155, 156, 157] (by decide +kernel) (by decide +kernel)
set_option maxRecDepth 20000 in
theorem gX12_aCue_X12_ahead : GoodIn wsX12_aCue (wsV RX12 167 RX12 yX12_ahead wsX12_ahead) := goodIn_app (goodIn_of _ (by decide +kernel)) ggX12_aCue_X12_ahead
theorem dX12_aCue_0 : decode cX12_aCue 0 = .ok (.aload_n 0, 1) := by decide +kernel
theorem dX12_aCue_1 : decode cX12_aCue 1 = .ok (.iconst 1, 1) := by decide +kernel
theorem dX12_aCue_2 : decode cX12_aCue 2 = .ok (.bipush 6, 2) := by decide +kernel
theorem dX12_aCue_4 : decode cX12_aCue 4 = .ok (.iconst 5, 1) := by decide +kernel
theorem dX12_aCue_5 : decode cX12_aCue 5 = .ok (.invokevirtual 201, 3) := by decide +kernel
theorem dX12_aCue_8 : decode cX12_aCue 8 = .ok (.ifCond .eq 14, 3) := by decide +kernel
theorem dX12_aCue_11 : decode cX12_aCue 11 = .ok (.aload_n 0, 1) := by decide +kernel
theorem dX12_aCue_12 : decode cX12_aCue 12 = .ok (.ldc 184, 2) := by decide +kernel
theorem dX12_aCue_14 : decode cX12_aCue 14 = .ok (.bipush 6, 2) := by decide +kernel
theorem dX12_aCue_16 : decode cX12_aCue 16 = .ok (.invokevirtual 205, 3) := by decide +kernel
theorem dX12_aCue_19 : decode cX12_aCue 19 = .ok (.ifCond .ne 5, 3) := by decide +kernel
theorem dX12_aCue_22 : decode cX12_aCue 22 = .ok (.iconst 0, 1) := by decide +kernel
theorem dX12_aCue_23 : decode cX12_aCue 23 = .ok (.ireturn, 1) := by decide +kernel
theorem dX12_aCue_24 : decode cX12_aCue 24 = .ok (.aload_n 0, 1) := by decide +kernel
theorem dX12_aCue_25 : decode cX12_aCue 25 = .ok (.ldc 184, 2) := by decide +kernel
theorem dX12_aCue_27 : decode cX12_aCue 27 = .ok (.invokevirtual 176, 3) := by decide +kernel
theorem dX12_aCue_30 : decode cX12_aCue 30 = .ok (.istore_n 1, 1) := by decide +kernel
theorem dX12_aCue_31 : decode cX12_aCue 31 = .ok (.iload_n 1, 1) := by decide +kernel
theorem dX12_aCue_32 : decode cX12_aCue 32 = .ok (.bipush 7, 2) := by decide +kernel
theorem dX12_aCue_34 : decode cX12_aCue 34 = .ok (.if_icmp .lt 9, 3) := by decide +kernel
theorem dX12_aCue_37 : decode cX12_aCue 37 = .ok (.iload_n 1, 1) := by decide +kernel
theorem dX12_aCue_38 : decode cX12_aCue 38 = .ok (.bipush 9, 2) := by decide +kernel
theorem dX12_aCue_40 : decode cX12_aCue 40 = .ok (.if_icmp .le 9, 3) := by decide +kernel
theorem dX12_aCue_43 : decode cX12_aCue 43 = .ok (.aload_n 0, 1) := by decide +kernel
theorem dX12_aCue_44 : decode cX12_aCue 44 = .ok (.iconst 2, 1) := by decide +kernel
theorem dX12_aCue_45 : decode cX12_aCue 45 = .ok (.invokevirtual 173, 3) := by decide +kernel
theorem dX12_aCue_48 : decode cX12_aCue 48 = .ok (.ireturn, 1) := by decide +kernel
theorem dX12_aCue_49 : decode cX12_aCue 49 = .ok (.aload_n 0, 1) := by decide +kernel
theorem dX12_aCue_50 : decode cX12_aCue 50 = .ok (.getfield 7, 3) := by decide +kernel
theorem dX12_aCue_53 : decode cX12_aCue 53 = .ok (.sipush 2018, 3) := by decide +kernel
theorem dX12_aCue_56 : decode cX12_aCue 56 = .ok (.aload_n 0, 1) := by decide +kernel
theorem dX12_aCue_57 : decode cX12_aCue 57 = .ok (.getfield 7, 3) := by decide +kernel
theorem dX12_aCue_60 : decode cX12_aCue 60 = .ok (.sipush 2009, 3) := by decide +kernel
theorem dX12_aCue_63 : decode cX12_aCue 63 = .ok (.iaload, 1) := by decide +kernel
theorem dX12_aCue_64 : decode cX12_aCue 64 = .ok (.iadd, 1) := by decide +kernel
theorem dX12_aCue_65 : decode cX12_aCue 65 = .ok (.iload_n 1, 1) := by decide +kernel
theorem dX12_aCue_66 : decode cX12_aCue 66 = .ok (.bipush 7, 2) := by decide +kernel
theorem dX12_aCue_68 : decode cX12_aCue 68 = .ok (.isub, 1) := by decide +kernel
theorem dX12_aCue_69 : decode cX12_aCue 69 = .ok (.iastore, 1) := by decide +kernel
theorem dX12_aCue_70 : decode cX12_aCue 70 = .ok (.aload_n 0, 1) := by decide +kernel
theorem dX12_aCue_71 : decode cX12_aCue 71 = .ok (.invokevirtual 167, 3) := by decide +kernel
theorem dX12_aCue_74 : decode cX12_aCue 74 = .ok (.aload_n 0, 1) := by decide +kernel
theorem dX12_aCue_75 : decode cX12_aCue 75 = .ok (.getfield 7, 3) := by decide +kernel
theorem dX12_aCue_78 : decode cX12_aCue 78 = .ok (.sipush 2009, 3) := by decide +kernel
theorem dX12_aCue_81 : decode cX12_aCue 81 = .ok (.dup2, 1) := by decide +kernel
theorem dX12_aCue_82 : decode cX12_aCue 82 = .ok (.iaload, 1) := by decide +kernel
theorem dX12_aCue_83 : decode cX12_aCue 83 = .ok (.iconst 1, 1) := by decide +kernel
theorem dX12_aCue_84 : decode cX12_aCue 84 = .ok (.iadd, 1) := by decide +kernel
theorem dX12_aCue_85 : decode cX12_aCue 85 = .ok (.iastore, 1) := by decide +kernel
theorem dX12_aCue_86 : decode cX12_aCue 86 = .ok (.iconst 1, 1) := by decide +kernel
theorem dX12_aCue_87 : decode cX12_aCue 87 = .ok (.ireturn, 1) := by decide +kernel
set_option maxRecDepth 20000 in
theorem ggX12_against_X12_isThere : GoodIn wsX12_against wsX12_isThere := goodIn_r _ [7, 8, 9, 10, 6, 11, 12, 13, 14, 15, 16, 17, 18, 19, 20, 21, 22, 23, 24, 25, 26, 27, 28, 29, 30, 31, 32, 33, 34, 35, 36, 37, 38, 39, 40, 41, 42, 43, 44, 45, 46, 47, 48, 49, 50, 51, 52, 53, 54, 55, 56, 57, 58, 59, 60, 61, 62, 63, 64, 65, 66, 67, 68, 69, 70, 71, 72, 73, 2, 74, 75, 76, 77, 78, 79, 80, 81, 82, 83, 84, 99, 100, 101, 102, 103, 104, 105, 106, 107, 108, 109, 110, 111, 112, 113, 114, 115, 116, 117, 118, 119, 120, 121, 122, 123, 124, 125, 126, 127, 128, 129, 130, 131, 132, 133, 134, 135, 136, 137, 138, 139, 140] (by decide +kernel) (by decide +kernel)
set_option maxRecDepth 20000 in
theorem gX12_against_X12_isThere : GoodIn wsX12_against (wsV RX12 209 RX12 yX12_isThere wsX12_isThere) := goodIn_app (goodIn_of _ (by decide +kernel)) ggX12_against_X12_isThere
set_option maxRecDepth 20000 in
theorem ggX12_against_X12_isSign : GoodIn wsX12_against wsX12_isSign := goodIn_r _ [88, 12, 2, 99, 100, 101, 102, 103, 104, 105, 106, 107, 108, 109, 110, 111, 112, 113, 114, 115, 116, 117, 118, 119, 120, 121, 122, 123, 124, 125, 126, 127, 128, 129, 130, 131, 132, 133, 134, 135, 136, 137, 138, 139, 140] (by decide +kernel) (by decide +kernel)
set_option maxRecDepth 20000 in
theorem gX12_against_X12_isSign : GoodIn wsX12_against (wsV RX12 170 RX12 yX12_isSign wsX12_isSign) := goodIn_app (goodIn_of _ (by decide +kernel)) ggX12_against_X12_isSign
set_option maxRecDepth 20000 in
theorem ggX12_against_X12_fails : GoodIn wsX12_against wsX12_fails := goodIn_r _ [92, 93, 12, 14, 94, 99, 100, 101, 102, 103, 104, 105, 106, 107, 108, 109, 110, 111, 112, 113, 114, 115, 116, 117, 118, 119, 120, 121, 122, 123, 124, 125, 126, 127, 128, 129, 130, 131, 132, 133, 134, 135, 136, 137, 138, 139, 140] (by decide +kernel) (by decide +kernel)
set_option maxRecDepth 20000 in
theorem gX12_against_X12_fails : GoodIn wsX12_against (wsV RX12 173 RX12 yX12_fails wsX12_fails) := goodIn_app (goodIn_of _ (by decide +kernel)) ggX12_against_X12_fails
set_option maxRecDepth 20000 in
theorem ggX12_against_X12_ahead : GoodIn wsX12_against wsX12_ahead := goodIn_r _ [73, 13, 14, 2, 12, 74, 75, 76, 77, 78, 64, 65, 66, 6, 67, 68, 69, 79, 80, 81, 82, 83, 84, 99, 100, 101, 102, 103, 104, 105, 106, 107, 108, 109, 110, 111, 112, 113, 114, 115, 116, 117, 118, 119, 120, 121, 122, 123, 124, 125, 126, 127, 128, 129, 130, 131, 132, 133, 134, 135, 136, 137, 138, 139, 140] (by decide +kernel) (by decide +kernel)
set_option maxRecDepth 20000 in
theorem gX12_against_X12_ahead : GoodIn wsX12_against (wsV RX12 167 RX12 yX12_ahead wsX12_ahead) := goodIn_app (goodIn_of _ (by decide +kernel)) ggX12_against_X12_ahead
set_option maxRecDepth 20000 in
theorem ggX12_against_X12_number : GoodIn wsX12_against wsX12_number := goodIn_r _ [98, 12, 2, 1, 89, 90, 91, 6, 92, 93, 14, 94, 70, 71, 72, 73, 13, 74, 75, 76, 77, 78, 64, 65, 66, 67, 68, 69, 79, 80, 81, 82, 83, 84, 99, 100, 101, 102, 103, 104, 105, 106, 107, 108, 109, 110, 111, 112, 113, 114, 115, 116, 117, 118, 119, 120, 121, 122, 123, 124, 125, 126, 127, 128, 129, 130, 131, 132, 133, 134, 135, 136, 137, 138, 139, 140] (by decide +kernel) (by decide +kernel)
set_option maxRecDepth 20000 in
theorem gX12_against_X12_number : GoodIn wsX12_against (wsV RX12 212 RX12 yX12_number wsX12_number) := goodIn_app (goodIn_of _ (by decide +kernel)) ggX12_against_X12_number
theorem dX12_against_0 : decode cX12_against 0 = .ok (.aload_n 0, 1) := by decide +kernel
theorem dX12_against_1 : decode cX12_against 1 = .ok (.getfield 7, 3) := by decide +kernel
theorem dX12_against_4 : decode cX12_against 4 = .ok (.iload_n 2, 1) := by decide +kernel
theorem dX12_against_5 : decode cX12_against 5 = .ok (.iconst 0, 1) := by decide +kernel
theorem dX12_against_6 : decode cX12_against 6 = .ok (.iastore, 1) := by decide +kernel
theorem dX12_against_7 : decode cX12_against 7 = .ok (.aload_n 0, 1) := by decide +kernel
theorem dX12_against_8 : decode cX12_against 8 = .ok (.iload_n 1, 1) := by decide +kernel
theorem dX12_against_9 : decode cX12_against 9 = .ok (.invokevirtual 209, 3) := by decide +kernel
theorem dX12_against_12 : decode cX12_against 12 = .ok (.ifCond .ne 5, 3) := by decide +kernel
theorem dX12_against_15 : decode cX12_against 15 = .ok (.iconst 1, 1) := by decide +kernel
theorem dX12_against_16 : decode cX12_against 16 = .ok (.ireturn, 1) := by decide +kernel
theorem dX12_against_17 : decode cX12_against 17 = .ok (.aload_n 0, 1) := by decide +kernel
theorem dX12_against_18 : decode cX12_against 18 = .ok (.bipush 60, 2) := by decide +kernel
theorem dX12_against_20 : decode cX12_against 20 = .ok (.invokevirtual 170, 3) := by decide +kernel
theorem dX12_against_23 : decode cX12_against 23 = .ok (.ifCond .ne 27, 3) := by decide +kernel
theorem dX12_against_26 : decode cX12_against 26 = .ok (.aload_n 0, 1) := by decide +kernel
theorem dX12_against_27 : decode cX12_against 27 = .ok (.bipush 62, 2) := by decide +kernel
theorem dX12_against_29 : decode cX12_against 29 = .ok (.invokevirtual 170, 3) := by decide +kernel
theorem dX12_against_32 : decode cX12_against 32 = .ok (.ifCond .ne 18, 3) := by decide +kernel
theorem dX12_against_35 : decode cX12_against 35 = .ok (.aload_n 0, 1) := by decide +kernel
theorem dX12_against_36 : decode cX12_against 36 = .ok (.bipush 61, 2) := by decide +kernel
theorem dX12_against_38 : decode cX12_against 38 = .ok (.invokevirtual 170, 3) := by decide +kernel
theorem dX12_against_41 : decode cX12_against 41 = .ok (.ifCond .ne 9, 3) := by decide +kernel
theorem dX12_against_44 : decode cX12_against 44 = .ok (.aload_n 0, 1) := by decide +kernel
theorem dX12_against_45 : decode cX12_against 45 = .ok (.iconst 2, 1) := by decide +kernel
theorem dX12_against_46 : decode cX12_against 46 = .ok (.invokevirtual 173, 3) := by decide +kernel
theorem dX12_against_49 : decode cX12_against 49 = .ok (.ireturn, 1) := by decide +kernel
theorem dX12_against_50 : decode cX12_against 50 = .ok (.aload_n 0, 1) := by decide +kernel
theorem dX12_against_51 : decode cX12_against 51 = .ok (.getfield 7, 3) := by decide +kernel
theorem dX12_against_54 : decode cX12_against 54 = .ok (.iload_n 2, 1) := by decide +kernel
theorem dX12_against_55 : decode cX12_against 55 = .ok (.aload_n 0, 1) := by decide +kernel
theorem dX12_against_56 : decode cX12_against 56 = .ok (.getfield 133, 3) := by decide +kernel
theorem dX12_against_59 : decode cX12_against 59 = .ok (.iastore, 1) := by decide +kernel
theorem dX12_against_60 : decode cX12_against 60 = .ok (.aload_n 0, 1) := by decide +kernel
theorem dX12_against_61 : decode cX12_against 61 = .ok (.invokevirtual 167, 3) := by decide +kernel
theorem dX12_against_64 : decode cX12_against 64 = .ok (.aload_n 0, 1) := by decide +kernel
theorem dX12_against_65 : decode cX12_against 65 = .ok (.iload_n 2, 1) := by decide +kernel
theorem dX12_against_66 : decode cX12_against 66 = .ok (.iconst 1, 1) := by decide +kernel
theorem dX12_against_67 : decode cX12_against 67 = .ok (.iadd, 1) := by decide +kernel
theorem dX12_against_68 : decode cX12_against 68 = .ok (.iconst 0, 1) := by decide +kernel
theorem dX12_against_69 : decode cX12_against 69 = .ok (.iload_n 3, 1) := by decide +kernel
theorem dX12_against_70 : decode cX12_against 70 = .ok (.invokevirtual 212, 3) := by decide +kernel
theorem dX12_against_73 : decode cX12_against 73 = .ok (.ireturn, 1) := by decide +kernel
set_option maxRecDepth 20000 in
theorem ggX12_aRule_X12_isFull : GoodIn wsX12_aRule wsX12_isFull := goodIn_r _ [6, 1, 127, 128, 129, 130, 131, 132, 133, 134, 135, 136, 137, 138, 139, 140, 141, 142, 143, 144, 145, 146, 147, 148, 149, 150, 151, 152, 153, 154, 155, 156, 157, 158, 159, 160, 161, 162, 163, 164, 165, 166, 167, 168] (by decide +kernel) (by decide +kernel)
set_option maxRecDepth 20000 in
theorem gX12_aRule_X12_isFull : GoodIn wsX12_aRule (wsV RX12 189 RX12 yX12_isFull wsX12_isFull) := goodIn_app (goodIn_of _ (by decide +kernel)) ggX12_aRule_X12_isFull
set_option maxRecDepth 20000 in
theorem ggX12_aRule_X12_fails : GoodIn wsX12_aRule wsX12_fails := goodIn_r _ [10, 11, 12, 13, 14, 127, 128, 129, 130, 131, 132, 133, 134, 135, 136, 137, 138, 139, 140, 141, 142, 143, 144, 145, 146, 147, 148, 149, 150, 151, 152, 153, 154, 155, 156, 157, 158, 159, 160, 161, 162, 163, 164, 165, 166, 167, 168] (by decide +kernel) (by decide +kernel)
set_option maxRecDepth 20000 in
theorem gX12_aRule_X12_fails : GoodIn wsX12_aRule (wsV RX12 173 RX12 yX12_fails wsX12_fails) := goodIn_app (goodIn_of _ (by decide +kernel)) ggX12_aRule_X12_fails
set_option maxRecDepth 20000 in
theorem ggX12_aRule_X12_ruleRow : GoodIn wsX12_aRule wsX12_ruleRow := goodIn_r _ [17] (by decide +kernel) (by decide +kernel)
set_option maxRecDepth 20000 in
theorem gX12_aRule_X12_ruleRow : GoodIn wsX12_aRule (va_wsS RX12 215 yX12_ruleRow wsX12_ruleRow) := goodIn_app (goodIn_of _ (by decide +kernel)) ggX12_aRule_X12_ruleRow
set_option maxRecDepth 20000 in
theorem ggX12_aRule_X12_ahead : GoodIn wsX12_aRule wsX12_ahead := goodIn_r _ [21, 22, 13, 23, 12, 24, 25, 26, 27, 28, 29, 30, 31, 5, 32, 33, 34, 35, 36, 37, 38, 39, 40, 127, 128, 129, 130, 131, 132, 133, 134, 135, 136, 137, 138, 139, 140, 141, 142, 143, 144, 145, 146, 147, 148, 149, 150, 151, 152, 153, 154, 155, 156, 157, 158, 159, 160, 161, 162, 163, 164, 165, 166, 167, 168] (by decide +kernel) (by decide +kernel)
set_option maxRecDepth 20000 in
theorem gX12_aRule_X12_ahead : GoodIn wsX12_aRule (wsV RX12 167 RX12 yX12_ahead wsX12_ahead) := goodIn_app (goodIn_of _ (by decide +kernel)) ggX12_aRule_X12_ahead
set_option maxRecDepth 20000 in
theorem ggX12_aRule_X12_oldOne : GoodIn wsX12_aRule wsX12_oldOne := goodIn_r _ [44, 1, 45, 46, 47, 5, 48, 12, 22, 13, 49, 50, 51, 52, 53, 54, 55, 56, 57, 58, 59, 60, 61, 62, 63, 64, 65, 66, 67, 68, 69, 70, 71, 72, 73, 74, 75, 76, 77, 78, 79, 80, 81, 82, 83, 84, 85, 86, 87, 88, 89, 90, 91, 92, 93, 94, 95, 96, 97, 98, 99, 100, 101, 29, 30, 31, 32, 33, 34, 7, 8, 9, 10, 11, 14, 102, 103, 104, 105, 106, 107, 108, 109, 110, 18, 19, 20, 21, 23, 24, 25, 26, 27, 28, 35, 36, 37, 38, 39, 40, 127, 128, 129, 130, 131, 132, 133, 134, 135, 136, 137, 138, 139, 140, 141, 142, 143, 144, 145, 146, 147, 148, 149, 150, 151, 152, 153, 154, 155, 156, 157, 158, 159, 160, 161, 162, 163, 164, 165, 166, 167, 168] (by decide +kernel) (by decide +kernel)
set_option maxRecDepth 20000 in
theorem gX12_aRule_X12_oldOne : GoodIn wsX12_aRule (wsV RX12 218 RX12 yX12_oldOne wsX12_oldOne) := goodIn_app (goodIn_of _ (by decide +kernel)) ggX12_aRule_X12_oldOne
set_option maxRecDepth 20000 in
theorem ggX12_aRule_X12_inWords : GoodIn wsX12_aRule wsX12_inWords := goodIn_r _ [52, 12, 22, 13, 53, 54, 55, 56, 57, 58, 59, 60, 61, 62, 63, 64, 65, 66, 67, 68, 69, 70, 71, 72, 73, 74, 75, 76, 77, 78, 79, 80, 81, 82, 83, 84, 85, 86, 87, 88, 89, 90, 91, 92, 93, 94, 95, 96, 97, 98, 99, 100, 101, 29, 30, 31, 5, 32, 33, 34, 127, 128, 129, 130, 131, 132, 133, 134, 135, 136, 137, 138, 139, 140, 141, 142, 143, 144, 145, 146, 147, 148, 149, 150, 151, 152, 153, 154, 155, 156, 157, 158, 159, 160, 161, 162, 163, 164, 165, 166, 167, 168] (by decide +kernel) (by decide +kernel)
set_option maxRecDepth 20000 in
theorem gX12_aRule_X12_inWords : GoodIn wsX12_aRule (wsV RX12 176 RX12 yX12_inWords wsX12_inWords) := goodIn_app (goodIn_of _ (by decide +kernel)) ggX12_aRule_X12_inWords
set_option maxRecDepth 20000 in
theorem ggX12_aRule_X12_against : GoodIn wsX12_aRule wsX12_against := goodIn_r _ [114, 1, 23, 115, 116, 117, 5, 118, 49, 50, 51, 52, 12, 22, 13, 53, 54, 55, 56, 57, 58, 59, 60, 61, 62, 63, 64, 65, 66, 67, 68, 69, 70, 71, 72, 73, 74, 75, 76, 77, 78, 79, 80, 81, 82, 83, 84, 85, 86, 87, 88, 89, 90, 91, 92, 93, 94, 95, 96, 97, 98, 99, 100, 101, 29, 30, 31, 32, 33, 34, 18, 19, 20, 21, 24, 25, 26, 27, 28, 35, 36, 37, 38, 39, 40, 119, 120, 121, 122, 7, 8, 9, 10, 11, 14, 123, 124, 125, 126, 127, 128, 129, 130, 131, 132, 133, 134, 135, 136, 137, 138, 139, 140, 141, 142, 143, 144, 145, 146, 147, 148, 149, 150, 151, 152, 153, 154, 155, 156, 157, 158, 159, 160, 161, 162, 163, 164, 165, 166, 167, 168] (by decide +kernel) (by decide +kernel)
set_option maxRecDepth 20000 in
theorem gX12_aRule_X12_against : GoodIn wsX12_aRule (wsV RX12 221 RX12 yX12_against wsX12_against) := goodIn_app (goodIn_of _ (by decide +kernel)) ggX12_aRule_X12_against
set_option maxRecDepth 20000 in
theorem ggX12_aRule_X12_isThere : GoodIn wsX12_aRule wsX12_isThere := goodIn_r _ [118, 49, 50, 51, 5, 52, 12, 22, 13, 53, 54, 55, 56, 57, 58, 59, 60, 61, 62, 63, 64, 65, 66, 67, 68, 69, 70, 71, 72, 73, 74, 75, 76, 77, 78, 79, 80, 81, 82, 83, 84, 85, 86, 87, 88, 89, 90, 91, 92, 93, 94, 95, 96, 97, 98, 99, 100, 101, 29, 30, 31, 32, 33, 34, 18, 19, 20, 21, 23, 24, 25, 26, 27, 28, 35, 36, 37, 38, 39, 40, 127, 128, 129, 130, 131, 132, 133, 134, 135, 136, 137, 138, 139, 140, 141, 142, 143, 144, 145, 146, 147, 148, 149, 150, 151, 152, 153, 154, 155, 156, 157, 158, 159, 160, 161, 162, 163, 164, 165, 166, 167, 168] (by decide +kernel) (by decide +kernel)
set_option maxRecDepth 20000 in
theorem gX12_aRule_X12_isThere : GoodIn wsX12_aRule (wsV RX12 209 RX12 yX12_isThere wsX12_isThere) := goodIn_app (goodIn_of _ (by decide +kernel)) ggX12_aRule_X12_isThere
theorem dX12_aRule_0 : decode cX12_aRule 0 = .ok (.aload_n 0, 1) := by decide +kernel
theorem dX12_aRule_1 : decode cX12_aRule 1 = .ok (.iconst 2, 1) := by decide +kernel
theorem dX12_aRule_2 : decode cX12_aRule 2 = .ok (.bipush 8, 2) := by decide +kernel
theorem dX12_aRule_4 : decode cX12_aRule 4 = .ok (.invokevirtual 189, 3) := by decide +kernel
theorem dX12_aRule_7 : decode cX12_aRule 7 = .ok (.ifCond .eq 10, 3) := by decide +kernel
theorem dX12_aRule_10 : decode cX12_aRule 10 = .ok (.aload_n 0, 1) := by decide +kernel
theorem dX12_aRule_11 : decode cX12_aRule 11 = .ok (.bipush 6, 2) := by decide +kernel
theorem dX12_aRule_13 : decode cX12_aRule 13 = .ok (.invokevirtual 173, 3) := by decide +kernel
theorem dX12_aRule_16 : decode cX12_aRule 16 = .ok (.ireturn, 1) := by decide +kernel
theorem dX12_aRule_17 : decode cX12_aRule 17 = .ok (.sipush 2008, 3) := by decide +kernel
theorem dX12_aRule_20 : decode cX12_aRule 20 = .ok (.aload_n 0, 1) := by decide +kernel
theorem dX12_aRule_21 : decode cX12_aRule 21 = .ok (.getfield 7, 3) := by decide +kernel
theorem dX12_aRule_24 : decode cX12_aRule 24 = .ok (.sipush 2010, 3) := by decide +kernel
theorem dX12_aRule_27 : decode cX12_aRule 27 = .ok (.iaload, 1) := by decide +kernel
theorem dX12_aRule_28 : decode cX12_aRule 28 = .ok (.invokestatic 215, 3) := by decide +kernel
theorem dX12_aRule_31 : decode cX12_aRule 31 = .ok (.iadd, 1) := by decide +kernel
theorem dX12_aRule_32 : decode cX12_aRule 32 = .ok (.istore_n 1, 1) := by decide +kernel
theorem dX12_aRule_33 : decode cX12_aRule 33 = .ok (.aload_n 0, 1) := by decide +kernel
theorem dX12_aRule_34 : decode cX12_aRule 34 = .ok (.invokevirtual 167, 3) := by decide +kernel
theorem dX12_aRule_37 : decode cX12_aRule 37 = .ok (.aload_n 0, 1) := by decide +kernel
theorem dX12_aRule_38 : decode cX12_aRule 38 = .ok (.bipush 97, 2) := by decide +kernel
theorem dX12_aRule_40 : decode cX12_aRule 40 = .ok (.aload_n 0, 1) := by decide +kernel
theorem dX12_aRule_41 : decode cX12_aRule 41 = .ok (.getfield 7, 3) := by decide +kernel
theorem dX12_aRule_44 : decode cX12_aRule 44 = .ok (.sipush 2009, 3) := by decide +kernel
theorem dX12_aRule_47 : decode cX12_aRule 47 = .ok (.iaload, 1) := by decide +kernel
theorem dX12_aRule_48 : decode cX12_aRule 48 = .ok (.iload_n 1, 1) := by decide +kernel
theorem dX12_aRule_49 : decode cX12_aRule 49 = .ok (.invokevirtual 218, 3) := by decide +kernel
theorem dX12_aRule_52 : decode cX12_aRule 52 = .ok (.ifCond .ne 5, 3) := by decide +kernel
theorem dX12_aRule_55 : decode cX12_aRule 55 = .ok (.iconst 0, 1) := by decide +kernel
theorem dX12_aRule_56 : decode cX12_aRule 56 = .ok (.ireturn, 1) := by decide +kernel
theorem dX12_aRule_57 : decode cX12_aRule 57 = .ok (.aload_n 0, 1) := by decide +kernel
theorem dX12_aRule_58 : decode cX12_aRule 58 = .ok (.ldc 184, 2) := by decide +kernel
theorem dX12_aRule_60 : decode cX12_aRule 60 = .ok (.invokevirtual 176, 3) := by decide +kernel
theorem dX12_aRule_63 : decode cX12_aRule 63 = .ok (.istore_n 2, 1) := by decide +kernel
theorem dX12_aRule_64 : decode cX12_aRule 64 = .ok (.aload_n 0, 1) := by decide +kernel
theorem dX12_aRule_65 : decode cX12_aRule 65 = .ok (.getfield 7, 3) := by decide +kernel
theorem dX12_aRule_68 : decode cX12_aRule 68 = .ok (.iload_n 1, 1) := by decide +kernel
theorem dX12_aRule_69 : decode cX12_aRule 69 = .ok (.iconst 1, 1) := by decide +kernel
theorem dX12_aRule_70 : decode cX12_aRule 70 = .ok (.iadd, 1) := by decide +kernel
theorem dX12_aRule_71 : decode cX12_aRule 71 = .ok (.iload_n 2, 1) := by decide +kernel
theorem dX12_aRule_72 : decode cX12_aRule 72 = .ok (.bipush 8, 2) := by decide +kernel
theorem dX12_aRule_74 : decode cX12_aRule 74 = .ok (.if_icmp .ne 7, 3) := by decide +kernel
theorem dX12_aRule_77 : decode cX12_aRule 77 = .ok (.iconst 1, 1) := by decide +kernel
theorem dX12_aRule_78 : decode cX12_aRule 78 = .ok (.goto 14, 3) := by decide +kernel
theorem dX12_aRule_81 : decode cX12_aRule 81 = .ok (.iload_n 2, 1) := by decide +kernel
theorem dX12_aRule_82 : decode cX12_aRule 82 = .ok (.bipush 9, 2) := by decide +kernel
theorem dX12_aRule_84 : decode cX12_aRule 84 = .ok (.if_icmp .ne 7, 3) := by decide +kernel
theorem dX12_aRule_87 : decode cX12_aRule 87 = .ok (.iconst 2, 1) := by decide +kernel
theorem dX12_aRule_88 : decode cX12_aRule 88 = .ok (.goto 4, 3) := by decide +kernel
theorem dX12_aRule_91 : decode cX12_aRule 91 = .ok (.iconst 0, 1) := by decide +kernel
theorem dX12_aRule_92 : decode cX12_aRule 92 = .ok (.iastore, 1) := by decide +kernel
theorem dX12_aRule_93 : decode cX12_aRule 93 = .ok (.aload_n 0, 1) := by decide +kernel
theorem dX12_aRule_94 : decode cX12_aRule 94 = .ok (.getfield 7, 3) := by decide +kernel
theorem dX12_aRule_97 : decode cX12_aRule 97 = .ok (.iload_n 1, 1) := by decide +kernel
theorem dX12_aRule_98 : decode cX12_aRule 98 = .ok (.iconst 1, 1) := by decide +kernel
theorem dX12_aRule_99 : decode cX12_aRule 99 = .ok (.iadd, 1) := by decide +kernel
theorem dX12_aRule_100 : decode cX12_aRule 100 = .ok (.iaload, 1) := by decide +kernel
theorem dX12_aRule_101 : decode cX12_aRule 101 = .ok (.ifCond .le 7, 3) := by decide +kernel
theorem dX12_aRule_104 : decode cX12_aRule 104 = .ok (.aload_n 0, 1) := by decide +kernel
theorem dX12_aRule_105 : decode cX12_aRule 105 = .ok (.invokevirtual 167, 3) := by decide +kernel
theorem dX12_aRule_108 : decode cX12_aRule 108 = .ok (.aload_n 0, 1) := by decide +kernel
theorem dX12_aRule_109 : decode cX12_aRule 109 = .ok (.bipush 10, 2) := by decide +kernel
theorem dX12_aRule_111 : decode cX12_aRule 111 = .ok (.iload_n 1, 1) := by decide +kernel
theorem dX12_aRule_112 : decode cX12_aRule 112 = .ok (.iconst 2, 1) := by decide +kernel
theorem dX12_aRule_113 : decode cX12_aRule 113 = .ok (.iadd, 1) := by decide +kernel
theorem dX12_aRule_114 : decode cX12_aRule 114 = .ok (.bipush 99, 2) := by decide +kernel
theorem dX12_aRule_116 : decode cX12_aRule 116 = .ok (.invokevirtual 221, 3) := by decide +kernel
theorem dX12_aRule_119 : decode cX12_aRule 119 = .ok (.ifCond .eq 17, 3) := by decide +kernel
theorem dX12_aRule_122 : decode cX12_aRule 122 = .ok (.aload_n 0, 1) := by decide +kernel
theorem dX12_aRule_123 : decode cX12_aRule 123 = .ok (.bipush 11, 2) := by decide +kernel
theorem dX12_aRule_125 : decode cX12_aRule 125 = .ok (.iload_n 1, 1) := by decide +kernel
theorem dX12_aRule_126 : decode cX12_aRule 126 = .ok (.iconst 4, 1) := by decide +kernel
theorem dX12_aRule_127 : decode cX12_aRule 127 = .ok (.iadd, 1) := by decide +kernel
theorem dX12_aRule_128 : decode cX12_aRule 128 = .ok (.bipush 9, 2) := by decide +kernel
theorem dX12_aRule_130 : decode cX12_aRule 130 = .ok (.invokevirtual 221, 3) := by decide +kernel
theorem dX12_aRule_133 : decode cX12_aRule 133 = .ok (.ifCond .ne 5, 3) := by decide +kernel
theorem dX12_aRule_136 : decode cX12_aRule 136 = .ok (.iconst 0, 1) := by decide +kernel
theorem dX12_aRule_137 : decode cX12_aRule 137 = .ok (.ireturn, 1) := by decide +kernel
theorem dX12_aRule_138 : decode cX12_aRule 138 = .ok (.aload_n 0, 1) := by decide +kernel
theorem dX12_aRule_139 : decode cX12_aRule 139 = .ok (.getfield 7, 3) := by decide +kernel
theorem dX12_aRule_142 : decode cX12_aRule 142 = .ok (.iload_n 1, 1) := by decide +kernel
theorem dX12_aRule_143 : decode cX12_aRule 143 = .ok (.bipush 6, 2) := by decide +kernel
theorem dX12_aRule_145 : decode cX12_aRule 145 = .ok (.iadd, 1) := by decide +kernel
theorem dX12_aRule_146 : decode cX12_aRule 146 = .ok (.iconst (-1), 1) := by decide +kernel
theorem dX12_aRule_147 : decode cX12_aRule 147 = .ok (.iastore, 1) := by decide +kernel
theorem dX12_aRule_148 : decode cX12_aRule 148 = .ok (.aload_n 0, 1) := by decide +kernel
theorem dX12_aRule_149 : decode cX12_aRule 149 = .ok (.bipush 12, 2) := by decide +kernel
theorem dX12_aRule_151 : decode cX12_aRule 151 = .ok (.invokevirtual 209, 3) := by decide +kernel
theorem dX12_aRule_154 : decode cX12_aRule 154 = .ok (.ifCond .eq 26, 3) := by decide +kernel
theorem dX12_aRule_157 : decode cX12_aRule 157 = .ok (.aload_n 0, 1) := by decide +kernel
theorem dX12_aRule_158 : decode cX12_aRule 158 = .ok (.bipush 92, 2) := by decide +kernel
theorem dX12_aRule_160 : decode cX12_aRule 160 = .ok (.aload_n 0, 1) := by decide +kernel
theorem dX12_aRule_161 : decode cX12_aRule 161 = .ok (.getfield 7, 3) := by decide +kernel
theorem dX12_aRule_164 : decode cX12_aRule 164 = .ok (.sipush 2008, 3) := by decide +kernel
theorem dX12_aRule_167 : decode cX12_aRule 167 = .ok (.iaload, 1) := by decide +kernel
theorem dX12_aRule_168 : decode cX12_aRule 168 = .ok (.iload_n 1, 1) := by decide +kernel
theorem dX12_aRule_169 : decode cX12_aRule 169 = .ok (.bipush 6, 2) := by decide +kernel
theorem dX12_aRule_171 : decode cX12_aRule 171 = .ok (.iadd, 1) := by decide +kernel
theorem dX12_aRule_172 : decode cX12_aRule 172 = .ok (.invokevirtual 218, 3) := by decide +kernel
theorem dX12_aRule_175 : decode cX12_aRule 175 = .ok (.ifCond .ne 5, 3) := by decide +kernel
theorem dX12_aRule_178 : decode cX12_aRule 178 = .ok (.iconst 0, 1) := by decide +kernel
theorem dX12_aRule_179 : decode cX12_aRule 179 = .ok (.ireturn, 1) := by decide +kernel
theorem dX12_aRule_180 : decode cX12_aRule 180 = .ok (.aload_n 0, 1) := by decide +kernel
theorem dX12_aRule_181 : decode cX12_aRule 181 = .ok (.getfield 7, 3) := by decide +kernel
theorem dX12_aRule_184 : decode cX12_aRule 184 = .ok (.sipush 2010, 3) := by decide +kernel
theorem dX12_aRule_187 : decode cX12_aRule 187 = .ok (.dup2, 1) := by decide +kernel
theorem dX12_aRule_188 : decode cX12_aRule 188 = .ok (.iaload, 1) := by decide +kernel
theorem dX12_aRule_189 : decode cX12_aRule 189 = .ok (.iconst 1, 1) := by decide +kernel
theorem dX12_aRule_190 : decode cX12_aRule 190 = .ok (.iadd, 1) := by decide +kernel
theorem dX12_aRule_191 : decode cX12_aRule 191 = .ok (.iastore, 1) := by decide +kernel
theorem dX12_aRule_192 : decode cX12_aRule 192 = .ok (.iconst 1, 1) := by decide +kernel
theorem dX12_aRule_193 : decode cX12_aRule 193 = .ok (.ireturn, 1) := by decide +kernel
set_option maxRecDepth 20000 in
theorem ggX12_smellsTo_X12_isName : GoodIn wsX12_smellsTo wsX12_isName := goodIn_r _ [6, 7, 8, 9, 10, 11, 12, 5, 13, 14, 15, 16, 17, 18, 19, 20, 21, 22, 23, 24, 25, 26, 27, 28, 29, 30, 31, 32, 33, 34, 35, 36, 37, 38, 39, 40, 41, 42, 43, 44, 45, 46, 47, 48, 49, 50, 51, 52, 53, 54, 55, 56, 57, 58, 59, 60, 61, 62, 63, 64, 65, 66, 67, 68, 100, 101, 102, 103, 104, 105, 106, 107, 108, 109, 110, 111, 112, 113, 114, 115, 116, 117, 118, 119, 120, 121, 122, 123, 124, 125, 126, 127, 128, 129, 130, 131, 132, 133, 134, 135, 136, 137, 138, 139, 140, 141] (by decide +kernel) (by decide +kernel)
set_option maxRecDepth 20000 in
theorem gX12_smellsTo_X12_isName : GoodIn wsX12_smellsTo (wsV RX12 193 RX12 yX12_isName wsX12_isName) := goodIn_app (goodIn_of _ (by decide +kernel)) ggX12_smellsTo_X12_isName
set_option maxRecDepth 20000 in
theorem ggX12_smellsTo_X12_findHere : GoodIn wsX12_smellsTo wsX12_findHere := goodIn_r _ [72, 73, 74, 75, 76, 5, 77, 9, 8, 63, 64, 65, 66, 67, 68, 100, 101, 102, 103, 104, 105, 106, 107, 108, 109, 110, 111, 112, 113, 114, 115, 116, 117, 118, 119, 120, 121, 122, 123, 124, 125, 126, 127, 128, 129, 130, 131, 132, 133, 134, 135, 136, 137, 138, 139, 140, 141] (by decide +kernel) (by decide +kernel)
set_option maxRecDepth 20000 in
theorem gX12_smellsTo_X12_findHere : GoodIn wsX12_smellsTo (wsV RX12 186 RX12 yX12_findHere wsX12_findHere) := goodIn_app (goodIn_of _ (by decide +kernel)) ggX12_smellsTo_X12_findHere
set_option maxRecDepth 20000 in
theorem ggX12_smellsTo_X12_fails : GoodIn wsX12_smellsTo wsX12_fails := goodIn_r _ [81, 82, 7, 9, 83, 100, 101, 102, 103, 104, 105, 106, 107, 108, 109, 110, 111, 112, 113, 114, 115, 116, 117, 118, 119, 120, 121, 122, 123, 124, 125, 126, 127, 128, 129, 130, 131, 132, 133, 134, 135, 136, 137, 138, 139, 140, 141] (by decide +kernel) (by decide +kernel)
set_option maxRecDepth 20000 in
theorem gX12_smellsTo_X12_fails : GoodIn wsX12_smellsTo (wsV RX12 173 RX12 yX12_fails wsX12_fails) := goodIn_app (goodIn_of _ (by decide +kernel)) ggX12_smellsTo_X12_fails
set_option maxRecDepth 20000 in
theorem ggX12_smellsTo_X12_ahead : GoodIn wsX12_smellsTo wsX12_ahead := goodIn_r _ [87, 8, 9, 88, 7, 89, 90, 91, 92, 93, 63, 64, 65, 5, 66, 67, 68, 94, 95, 96, 97, 98, 99, 100, 101, 102, 103, 104, 105, 106, 107, 108, 109, 110, 111, 112, 113, 114, 115, 116, 117, 118, 119, 120, 121, 122, 123, 124, 125, 126, 127, 128, 129, 130, 131, 132, 133, 134, 135, 136, 137, 138, 139, 140, 141] (by decide +kernel) (by decide +kernel)
set_option maxRecDepth 20000 in
theorem gX12_smellsTo_X12_ahead : GoodIn wsX12_smellsTo (wsV RX12 167 RX12 yX12_ahead wsX12_ahead) := goodIn_app (goodIn_of _ (by decide +kernel)) ggX12_smellsTo_X12_ahead
theorem dX12_smellsTo_0 : decode cX12_smellsTo 0 = .ok (.iconst 0, 1) := by decide +kernel
theorem dX12_smellsTo_1 : decode cX12_smellsTo 1 = .ok (.istore_n 2, 1) := by decide +kernel
theorem dX12_smellsTo_2 : decode cX12_smellsTo 2 = .ok (.aload_n 0, 1) := by decide +kernel
theorem dX12_smellsTo_3 : decode cX12_smellsTo 3 = .ok (.ldc 184, 2) := by decide +kernel
theorem dX12_smellsTo_5 : decode cX12_smellsTo 5 = .ok (.invokevirtual 193, 3) := by decide +kernel
theorem dX12_smellsTo_8 : decode cX12_smellsTo 8 = .ok (.ifCond .eq 57, 3) := by decide +kernel
theorem dX12_smellsTo_11 : decode cX12_smellsTo 11 = .ok (.aload_n 0, 1) := by decide +kernel
theorem dX12_smellsTo_12 : decode cX12_smellsTo 12 = .ok (.bipush 92, 2) := by decide +kernel
theorem dX12_smellsTo_14 : decode cX12_smellsTo 14 = .ok (.aload_n 0, 1) := by decide +kernel
theorem dX12_smellsTo_15 : decode cX12_smellsTo 15 = .ok (.getfield 7, 3) := by decide +kernel
theorem dX12_smellsTo_18 : decode cX12_smellsTo 18 = .ok (.sipush 2008, 3) := by decide +kernel
theorem dX12_smellsTo_21 : decode cX12_smellsTo 21 = .ok (.iaload, 1) := by decide +kernel
theorem dX12_smellsTo_22 : decode cX12_smellsTo 22 = .ok (.invokevirtual 186, 3) := by decide +kernel
theorem dX12_smellsTo_25 : decode cX12_smellsTo 25 = .ok (.istore_n 3, 1) := by decide +kernel
theorem dX12_smellsTo_26 : decode cX12_smellsTo 26 = .ok (.iload_n 3, 1) := by decide +kernel
theorem dX12_smellsTo_27 : decode cX12_smellsTo 27 = .ok (.iconst (-1), 1) := by decide +kernel
theorem dX12_smellsTo_28 : decode cX12_smellsTo 28 = .ok (.if_icmp .ne 9, 3) := by decide +kernel
theorem dX12_smellsTo_31 : decode cX12_smellsTo 31 = .ok (.aload_n 0, 1) := by decide +kernel
theorem dX12_smellsTo_32 : decode cX12_smellsTo 32 = .ok (.iconst 3, 1) := by decide +kernel
theorem dX12_smellsTo_33 : decode cX12_smellsTo 33 = .ok (.invokevirtual 173, 3) := by decide +kernel
theorem dX12_smellsTo_36 : decode cX12_smellsTo 36 = .ok (.ireturn, 1) := by decide +kernel
theorem dX12_smellsTo_37 : decode cX12_smellsTo 37 = .ok (.iload_n 2, 1) := by decide +kernel
theorem dX12_smellsTo_38 : decode cX12_smellsTo 38 = .ok (.iload_n 3, 1) := by decide +kernel
theorem dX12_smellsTo_39 : decode cX12_smellsTo 39 = .ok (.ishr, 1) := by decide +kernel
theorem dX12_smellsTo_40 : decode cX12_smellsTo 40 = .ok (.iconst 1, 1) := by decide +kernel
theorem dX12_smellsTo_41 : decode cX12_smellsTo 41 = .ok (.iand, 1) := by decide +kernel
theorem dX12_smellsTo_42 : decode cX12_smellsTo 42 = .ok (.iconst 1, 1) := by decide +kernel
theorem dX12_smellsTo_43 : decode cX12_smellsTo 43 = .ok (.if_icmp .ne 9, 3) := by decide +kernel
theorem dX12_smellsTo_46 : decode cX12_smellsTo 46 = .ok (.aload_n 0, 1) := by decide +kernel
theorem dX12_smellsTo_47 : decode cX12_smellsTo 47 = .ok (.iconst 5, 1) := by decide +kernel
theorem dX12_smellsTo_48 : decode cX12_smellsTo 48 = .ok (.invokevirtual 173, 3) := by decide +kernel
theorem dX12_smellsTo_51 : decode cX12_smellsTo 51 = .ok (.ireturn, 1) := by decide +kernel
theorem dX12_smellsTo_52 : decode cX12_smellsTo 52 = .ok (.iload_n 2, 1) := by decide +kernel
theorem dX12_smellsTo_53 : decode cX12_smellsTo 53 = .ok (.iconst 1, 1) := by decide +kernel
theorem dX12_smellsTo_54 : decode cX12_smellsTo 54 = .ok (.iload_n 3, 1) := by decide +kernel
theorem dX12_smellsTo_55 : decode cX12_smellsTo 55 = .ok (.ishl, 1) := by decide +kernel
theorem dX12_smellsTo_56 : decode cX12_smellsTo 56 = .ok (.ior, 1) := by decide +kernel
theorem dX12_smellsTo_57 : decode cX12_smellsTo 57 = .ok (.istore_n 2, 1) := by decide +kernel
theorem dX12_smellsTo_58 : decode cX12_smellsTo 58 = .ok (.aload_n 0, 1) := by decide +kernel
theorem dX12_smellsTo_59 : decode cX12_smellsTo 59 = .ok (.invokevirtual 167, 3) := by decide +kernel
theorem dX12_smellsTo_62 : decode cX12_smellsTo 62 = .ok (.goto (-60), 3) := by decide +kernel
theorem dX12_smellsTo_65 : decode cX12_smellsTo 65 = .ok (.aload_n 0, 1) := by decide +kernel
theorem dX12_smellsTo_66 : decode cX12_smellsTo 66 = .ok (.getfield 7, 3) := by decide +kernel
theorem dX12_smellsTo_69 : decode cX12_smellsTo 69 = .ok (.iload_n 1, 1) := by decide +kernel
theorem dX12_smellsTo_70 : decode cX12_smellsTo 70 = .ok (.iload_n 2, 1) := by decide +kernel
theorem dX12_smellsTo_71 : decode cX12_smellsTo 71 = .ok (.iastore, 1) := by decide +kernel
theorem dX12_smellsTo_72 : decode cX12_smellsTo 72 = .ok (.iconst 1, 1) := by decide +kernel
theorem dX12_smellsTo_73 : decode cX12_smellsTo 73 = .ok (.ireturn, 1) := by decide +kernel
set_option maxRecDepth 20000 in
theorem ggX12_aPerson_X12_personRow : GoodIn wsX12_aPerson wsX12_personRow := goodIn_r _ [5] (by decide +kernel) (by decide +kernel)
set_option maxRecDepth 20000 in
theorem gX12_aPerson_X12_personRow : GoodIn wsX12_aPerson (va_wsS RX12 224 yX12_personRow wsX12_personRow) := goodIn_app (goodIn_of _ (by decide +kernel)) ggX12_aPerson_X12_personRow
set_option maxRecDepth 20000 in
theorem ggX12_aPerson_X12_newOne : GoodIn wsX12_aPerson wsX12_newOne := goodIn_r _ [9, 10, 1, 11, 12, 13, 4, 14, 15, 16, 17, 18, 19, 20, 21, 22, 23, 24, 25, 26, 27, 28, 29, 30, 31, 32, 33, 34, 35, 36, 37, 38, 39, 40, 41, 42, 43, 44, 45, 46, 47, 48, 49, 50, 51, 52, 53, 54, 55, 56, 57, 58, 59, 60, 61, 62, 63, 64, 65, 66, 67, 68, 69, 70, 71, 72, 73, 74, 75, 76, 77, 78, 79, 80, 81, 82, 83, 84, 85, 86, 87, 88, 89, 90, 91, 92, 93, 94, 95, 96, 97, 98, 99, 100, 101, 102, 103, 104, 105, 106, 107, 108, 109, 110, 111, 112, 113, 114, 127, 128, 129, 130, 131, 132, 133, 134, 135, 136, 137, 138, 139, 140, 141, 142, 143, 144, 145, 146, 147, 148, 149, 150, 151, 152, 153, 154, 155, 156, 157, 158, 159, 160, 161, 162, 163, 164, 165, 166, 167, 168] (by decide +kernel) (by decide +kernel)
set_option maxRecDepth 20000 in
theorem gX12_aPerson_X12_newOne : GoodIn wsX12_aPerson (wsV RX12 201 RX12 yX12_newOne wsX12_newOne) := goodIn_app (goodIn_of _ (by decide +kernel)) ggX12_aPerson_X12_newOne
set_option maxRecDepth 20000 in
theorem ggX12_aPerson_X12_isThere : GoodIn wsX12_aPerson wsX12_isThere := goodIn_r _ [118, 50, 51, 52, 4, 53, 20, 27, 21, 54, 55, 56, 57, 58, 59, 60, 61, 62, 63, 64, 65, 66, 67, 68, 69, 70, 71, 72, 73, 74, 75, 76, 77, 78, 79, 80, 81, 82, 83, 84, 85, 86, 87, 88, 89, 90, 91, 92, 93, 94, 95, 96, 97, 98, 99, 100, 101, 102, 34, 35, 36, 37, 38, 39, 23, 24, 25, 26, 28, 29, 30, 31, 32, 33, 40, 41, 42, 43, 44, 45, 127, 128, 129, 130, 131, 132, 133, 134, 135, 136, 137, 138, 139, 140, 141, 142, 143, 144, 145, 146, 147, 148, 149, 150, 151, 152, 153, 154, 155, 156, 157, 158, 159, 160, 161, 162, 163, 164, 165, 166, 167, 168] (by decide +kernel) (by decide +kernel)
set_option maxRecDepth 20000 in
theorem gX12_aPerson_X12_isThere : GoodIn wsX12_aPerson (wsV RX12 209 RX12 yX12_isThere wsX12_isThere) := goodIn_app (goodIn_of _ (by decide +kernel)) ggX12_aPerson_X12_isThere
set_option maxRecDepth 20000 in
theorem ggX12_aPerson_X12_number : GoodIn wsX12_aPerson wsX12_number := goodIn_r _ [122, 20, 28, 1, 15, 16, 17, 4, 18, 19, 21, 22, 23, 24, 25, 26, 27, 29, 30, 31, 32, 33, 34, 35, 36, 37, 38, 39, 40, 41, 42, 43, 44, 45, 127, 128, 129, 130, 131, 132, 133, 134, 135, 136, 137, 138, 139, 140, 141, 142, 143, 144, 145, 146, 147, 148, 149, 150, 151, 152, 153, 154, 155, 156, 157, 158, 159, 160, 161, 162, 163, 164, 165, 166, 167, 168] (by decide +kernel) (by decide +kernel)
set_option maxRecDepth 20000 in
theorem gX12_aPerson_X12_number : GoodIn wsX12_aPerson (wsV RX12 212 RX12 yX12_number wsX12_number) := goodIn_app (goodIn_of _ (by decide +kernel)) ggX12_aPerson_X12_number
set_option maxRecDepth 20000 in
theorem ggX12_aPerson_X12_smellsTo : GoodIn wsX12_aPerson wsX12_smellsTo := goodIn_r _ [126, 1, 46, 47, 48, 4, 49, 20, 27, 21, 50, 51, 52, 53, 54, 55, 56, 57, 58, 59, 60, 61, 62, 63, 64, 65, 66, 67, 68, 69, 70, 71, 72, 73, 74, 75, 76, 77, 78, 79, 80, 81, 82, 83, 84, 85, 86, 87, 88, 89, 90, 91, 92, 93, 94, 95, 96, 97, 98, 99, 100, 101, 102, 34, 35, 36, 37, 38, 39, 107, 108, 109, 110, 10, 111, 112, 113, 114, 15, 16, 17, 18, 19, 22, 23, 24, 25, 26, 28, 29, 30, 31, 32, 33, 40, 41, 42, 43, 44, 45, 127, 128, 129, 130, 131, 132, 133, 134, 135, 136, 137, 138, 139, 140, 141, 142, 143, 144, 145, 146, 147, 148, 149, 150, 151, 152, 153, 154, 155, 156, 157, 158, 159, 160, 161, 162, 163, 164, 165, 166, 167, 168] (by decide +kernel) (by decide +kernel)
set_option maxRecDepth 20000 in
theorem gX12_aPerson_X12_smellsTo : GoodIn wsX12_aPerson (wsV RX12 227 RX12 yX12_smellsTo wsX12_smellsTo) := goodIn_app (goodIn_of _ (by decide +kernel)) ggX12_aPerson_X12_smellsTo
theorem dX12_aPerson_0 : decode cX12_aPerson 0 = .ok (.sipush 2008, 3) := by decide +kernel
theorem dX12_aPerson_3 : decode cX12_aPerson 3 = .ok (.aload_n 0, 1) := by decide +kernel
theorem dX12_aPerson_4 : decode cX12_aPerson 4 = .ok (.getfield 7, 3) := by decide +kernel
theorem dX12_aPerson_7 : decode cX12_aPerson 7 = .ok (.sipush 2011, 3) := by decide +kernel
theorem dX12_aPerson_10 : decode cX12_aPerson 10 = .ok (.iaload, 1) := by decide +kernel
theorem dX12_aPerson_11 : decode cX12_aPerson 11 = .ok (.invokestatic 224, 3) := by decide +kernel
theorem dX12_aPerson_14 : decode cX12_aPerson 14 = .ok (.iadd, 1) := by decide +kernel
theorem dX12_aPerson_15 : decode cX12_aPerson 15 = .ok (.istore_n 1, 1) := by decide +kernel
theorem dX12_aPerson_16 : decode cX12_aPerson 16 = .ok (.aload_n 0, 1) := by decide +kernel
theorem dX12_aPerson_17 : decode cX12_aPerson 17 = .ok (.iconst 3, 1) := by decide +kernel
theorem dX12_aPerson_18 : decode cX12_aPerson 18 = .ok (.bipush 6, 2) := by decide +kernel
theorem dX12_aPerson_20 : decode cX12_aPerson 20 = .ok (.bipush 11, 2) := by decide +kernel
theorem dX12_aPerson_22 : decode cX12_aPerson 22 = .ok (.invokevirtual 201, 3) := by decide +kernel
theorem dX12_aPerson_25 : decode cX12_aPerson 25 = .ok (.ifCond .ne 5, 3) := by decide +kernel
theorem dX12_aPerson_28 : decode cX12_aPerson 28 = .ok (.iconst 0, 1) := by decide +kernel
theorem dX12_aPerson_29 : decode cX12_aPerson 29 = .ok (.ireturn, 1) := by decide +kernel
theorem dX12_aPerson_30 : decode cX12_aPerson 30 = .ok (.aload_n 0, 1) := by decide +kernel
theorem dX12_aPerson_31 : decode cX12_aPerson 31 = .ok (.getfield 7, 3) := by decide +kernel
theorem dX12_aPerson_34 : decode cX12_aPerson 34 = .ok (.iload_n 1, 1) := by decide +kernel
theorem dX12_aPerson_35 : decode cX12_aPerson 35 = .ok (.iconst 3, 1) := by decide +kernel
theorem dX12_aPerson_36 : decode cX12_aPerson 36 = .ok (.iadd, 1) := by decide +kernel
theorem dX12_aPerson_37 : decode cX12_aPerson 37 = .ok (.aload_n 0, 1) := by decide +kernel
theorem dX12_aPerson_38 : decode cX12_aPerson 38 = .ok (.bipush 8, 2) := by decide +kernel
theorem dX12_aPerson_40 : decode cX12_aPerson 40 = .ok (.invokevirtual 209, 3) := by decide +kernel
theorem dX12_aPerson_43 : decode cX12_aPerson 43 = .ok (.ifCond .eq 7, 3) := by decide +kernel
theorem dX12_aPerson_46 : decode cX12_aPerson 46 = .ok (.iconst 1, 1) := by decide +kernel
theorem dX12_aPerson_47 : decode cX12_aPerson 47 = .ok (.goto 4, 3) := by decide +kernel
theorem dX12_aPerson_50 : decode cX12_aPerson 50 = .ok (.iconst 0, 1) := by decide +kernel
theorem dX12_aPerson_51 : decode cX12_aPerson 51 = .ok (.iastore, 1) := by decide +kernel
theorem dX12_aPerson_52 : decode cX12_aPerson 52 = .ok (.aload_n 0, 1) := by decide +kernel
theorem dX12_aPerson_53 : decode cX12_aPerson 53 = .ok (.bipush 10, 2) := by decide +kernel
theorem dX12_aPerson_55 : decode cX12_aPerson 55 = .ok (.invokevirtual 209, 3) := by decide +kernel
theorem dX12_aPerson_58 : decode cX12_aPerson 58 = .ok (.ifCond .eq 16, 3) := by decide +kernel
theorem dX12_aPerson_61 : decode cX12_aPerson 61 = .ok (.aload_n 0, 1) := by decide +kernel
theorem dX12_aPerson_62 : decode cX12_aPerson 62 = .ok (.iload_n 1, 1) := by decide +kernel
theorem dX12_aPerson_63 : decode cX12_aPerson 63 = .ok (.iconst 0, 1) := by decide +kernel
theorem dX12_aPerson_64 : decode cX12_aPerson 64 = .ok (.bipush 99, 2) := by decide +kernel
theorem dX12_aPerson_66 : decode cX12_aPerson 66 = .ok (.invokevirtual 212, 3) := by decide +kernel
theorem dX12_aPerson_69 : decode cX12_aPerson 69 = .ok (.ifCond .ne 5, 3) := by decide +kernel
theorem dX12_aPerson_72 : decode cX12_aPerson 72 = .ok (.iconst 0, 1) := by decide +kernel
theorem dX12_aPerson_73 : decode cX12_aPerson 73 = .ok (.ireturn, 1) := by decide +kernel
theorem dX12_aPerson_74 : decode cX12_aPerson 74 = .ok (.aload_n 0, 1) := by decide +kernel
theorem dX12_aPerson_75 : decode cX12_aPerson 75 = .ok (.bipush 12, 2) := by decide +kernel
theorem dX12_aPerson_77 : decode cX12_aPerson 77 = .ok (.invokevirtual 209, 3) := by decide +kernel
theorem dX12_aPerson_80 : decode cX12_aPerson 80 = .ok (.ifCond .eq 15, 3) := by decide +kernel
theorem dX12_aPerson_83 : decode cX12_aPerson 83 = .ok (.aload_n 0, 1) := by decide +kernel
theorem dX12_aPerson_84 : decode cX12_aPerson 84 = .ok (.iload_n 1, 1) := by decide +kernel
theorem dX12_aPerson_85 : decode cX12_aPerson 85 = .ok (.iconst 1, 1) := by decide +kernel
theorem dX12_aPerson_86 : decode cX12_aPerson 86 = .ok (.iadd, 1) := by decide +kernel
theorem dX12_aPerson_87 : decode cX12_aPerson 87 = .ok (.invokevirtual 227, 3) := by decide +kernel
theorem dX12_aPerson_90 : decode cX12_aPerson 90 = .ok (.ifCond .ne 5, 3) := by decide +kernel
theorem dX12_aPerson_93 : decode cX12_aPerson 93 = .ok (.iconst 0, 1) := by decide +kernel
theorem dX12_aPerson_94 : decode cX12_aPerson 94 = .ok (.ireturn, 1) := by decide +kernel
theorem dX12_aPerson_95 : decode cX12_aPerson 95 = .ok (.aload_n 0, 1) := by decide +kernel
theorem dX12_aPerson_96 : decode cX12_aPerson 96 = .ok (.getfield 7, 3) := by decide +kernel
theorem dX12_aPerson_99 : decode cX12_aPerson 99 = .ok (.sipush 2011, 3) := by decide +kernel
theorem dX12_aPerson_102 : decode cX12_aPerson 102 = .ok (.dup2, 1) := by decide +kernel
theorem dX12_aPerson_103 : decode cX12_aPerson 103 = .ok (.iaload, 1) := by decide +kernel
theorem dX12_aPerson_104 : decode cX12_aPerson 104 = .ok (.iconst 1, 1) := by decide +kernel
theorem dX12_aPerson_105 : decode cX12_aPerson 105 = .ok (.iadd, 1) := by decide +kernel
theorem dX12_aPerson_106 : decode cX12_aPerson 106 = .ok (.iastore, 1) := by decide +kernel
theorem dX12_aPerson_107 : decode cX12_aPerson 107 = .ok (.iconst 1, 1) := by decide +kernel
theorem dX12_aPerson_108 : decode cX12_aPerson 108 = .ok (.ireturn, 1) := by decide +kernel
set_option maxRecDepth 20000 in
theorem ggX12_aReader_X12_newOne : GoodIn wsX12_aReader wsX12_newOne := goodIn_r _ [6, 7, 1, 8, 9, 10, 5, 11, 12, 13, 14, 15, 16, 17, 18, 19, 20, 21, 22, 23, 24, 25, 26, 27, 28, 29, 30, 31, 32, 33, 34, 35, 36, 37, 38, 39, 40, 41, 42, 43, 44, 45, 46, 47, 48, 49, 50, 51, 52, 53, 54, 55, 56, 57, 58, 59, 60, 61, 62, 63, 64, 65, 66, 67, 68, 69, 70, 71, 72, 73, 74, 75, 76, 77, 78, 79, 80, 81, 82, 83, 84, 85, 86, 87, 88, 89, 90, 91, 92, 93, 94, 95, 96, 97, 98, 99, 100, 101, 102, 103, 104, 105, 106, 107, 108, 109, 110, 111, 120, 121, 122, 123, 124, 125, 126, 127, 128, 129, 130, 131, 132, 133, 134, 135, 136, 137, 138, 139, 140, 141, 142, 143, 144, 145, 146, 147, 148, 149, 150, 151, 152, 153, 154, 155, 156, 157, 158, 159, 160, 161] (by decide +kernel) (by decide +kernel)
set_option maxRecDepth 20000 in
theorem gX12_aReader_X12_newOne : GoodIn wsX12_aReader (wsV RX12 201 RX12 yX12_newOne wsX12_newOne) := goodIn_app (goodIn_of _ (by decide +kernel)) ggX12_aReader_X12_newOne
set_option maxRecDepth 20000 in
theorem ggX12_aReader_X12_wantWord : GoodIn wsX12_aReader wsX12_wantWord := goodIn_r _ [115, 47, 48, 49, 5, 50, 17, 24, 18, 51, 52, 53, 54, 55, 56, 57, 58, 59, 60, 61, 62, 63, 64, 65, 66, 67, 68, 69, 70, 71, 72, 73, 74, 75, 76, 77, 78, 79, 80, 81, 82, 83, 84, 85, 86, 87, 88, 89, 90, 91, 92, 93, 94, 95, 96, 97, 98, 99, 31, 32, 33, 34, 35, 36, 12, 13, 14, 15, 16, 19, 20, 21, 22, 23, 25, 26, 27, 28, 29, 30, 37, 38, 39, 40, 41, 42, 120, 121, 122, 123, 124, 125, 126, 127, 128, 129, 130, 131, 132, 133, 134, 135, 136, 137, 138, 139, 140, 141, 142, 143, 144, 145, 146, 147, 148, 149, 150, 151, 152, 153, 154, 155, 156, 157, 158, 159, 160, 161] (by decide +kernel) (by decide +kernel)
set_option maxRecDepth 20000 in
theorem gX12_aReader_X12_wantWord : GoodIn wsX12_aReader (wsV RX12 205 RX12 yX12_wantWord wsX12_wantWord) := goodIn_app (goodIn_of _ (by decide +kernel)) ggX12_aReader_X12_wantWord
set_option maxRecDepth 20000 in
theorem ggX12_aReader_X12_number : GoodIn wsX12_aReader wsX12_number := goodIn_r _ [119, 17, 25, 1, 12, 13, 14, 5, 15, 16, 18, 19, 20, 21, 22, 23, 24, 26, 27, 28, 29, 30, 31, 32, 33, 34, 35, 36, 37, 38, 39, 40, 41, 42, 120, 121, 122, 123, 124, 125, 126, 127, 128, 129, 130, 131, 132, 133, 134, 135, 136, 137, 138, 139, 140, 141, 142, 143, 144, 145, 146, 147, 148, 149, 150, 151, 152, 153, 154, 155, 156, 157, 158, 159, 160, 161] (by decide +kernel) (by decide +kernel)
set_option maxRecDepth 20000 in
theorem gX12_aReader_X12_number : GoodIn wsX12_aReader (wsV RX12 212 RX12 yX12_number wsX12_number) := goodIn_app (goodIn_of _ (by decide +kernel)) ggX12_aReader_X12_number
theorem dX12_aReader_0 : decode cX12_aReader 0 = .ok (.sipush 2110, 3) := by decide +kernel
theorem dX12_aReader_3 : decode cX12_aReader 3 = .ok (.iconst 2, 1) := by decide +kernel
theorem dX12_aReader_4 : decode cX12_aReader 4 = .ok (.aload_n 0, 1) := by decide +kernel
theorem dX12_aReader_5 : decode cX12_aReader 5 = .ok (.getfield 7, 3) := by decide +kernel
theorem dX12_aReader_8 : decode cX12_aReader 8 = .ok (.sipush 2012, 3) := by decide +kernel
theorem dX12_aReader_11 : decode cX12_aReader 11 = .ok (.iaload, 1) := by decide +kernel
theorem dX12_aReader_12 : decode cX12_aReader 12 = .ok (.imul, 1) := by decide +kernel
theorem dX12_aReader_13 : decode cX12_aReader 13 = .ok (.iadd, 1) := by decide +kernel
theorem dX12_aReader_14 : decode cX12_aReader 14 = .ok (.istore_n 1, 1) := by decide +kernel
theorem dX12_aReader_15 : decode cX12_aReader 15 = .ok (.aload_n 0, 1) := by decide +kernel
theorem dX12_aReader_16 : decode cX12_aReader 16 = .ok (.iconst 4, 1) := by decide +kernel
theorem dX12_aReader_17 : decode cX12_aReader 17 = .ok (.bipush 6, 2) := by decide +kernel
theorem dX12_aReader_19 : decode cX12_aReader 19 = .ok (.bipush 17, 2) := by decide +kernel
theorem dX12_aReader_21 : decode cX12_aReader 21 = .ok (.invokevirtual 201, 3) := by decide +kernel
theorem dX12_aReader_24 : decode cX12_aReader 24 = .ok (.ifCond .eq 49, 3) := by decide +kernel
theorem dX12_aReader_27 : decode cX12_aReader 27 = .ok (.aload_n 0, 1) := by decide +kernel
theorem dX12_aReader_28 : decode cX12_aReader 28 = .ok (.ldc 184, 2) := by decide +kernel
theorem dX12_aReader_30 : decode cX12_aReader 30 = .ok (.bipush 13, 2) := by decide +kernel
theorem dX12_aReader_32 : decode cX12_aReader 32 = .ok (.invokevirtual 205, 3) := by decide +kernel
theorem dX12_aReader_35 : decode cX12_aReader 35 = .ok (.ifCond .eq 38, 3) := by decide +kernel
theorem dX12_aReader_38 : decode cX12_aReader 38 = .ok (.aload_n 0, 1) := by decide +kernel
theorem dX12_aReader_39 : decode cX12_aReader 39 = .ok (.iload_n 1, 1) := by decide +kernel
theorem dX12_aReader_40 : decode cX12_aReader 40 = .ok (.iconst 0, 1) := by decide +kernel
theorem dX12_aReader_41 : decode cX12_aReader 41 = .ok (.bipush 16, 2) := by decide +kernel
theorem dX12_aReader_43 : decode cX12_aReader 43 = .ok (.invokevirtual 212, 3) := by decide +kernel
theorem dX12_aReader_46 : decode cX12_aReader 46 = .ok (.ifCond .eq 27, 3) := by decide +kernel
theorem dX12_aReader_49 : decode cX12_aReader 49 = .ok (.aload_n 0, 1) := by decide +kernel
theorem dX12_aReader_50 : decode cX12_aReader 50 = .ok (.ldc 184, 2) := by decide +kernel
theorem dX12_aReader_52 : decode cX12_aReader 52 = .ok (.bipush 14, 2) := by decide +kernel
theorem dX12_aReader_54 : decode cX12_aReader 54 = .ok (.invokevirtual 205, 3) := by decide +kernel
theorem dX12_aReader_57 : decode cX12_aReader 57 = .ok (.ifCond .eq 16, 3) := by decide +kernel
theorem dX12_aReader_60 : decode cX12_aReader 60 = .ok (.aload_n 0, 1) := by decide +kernel
theorem dX12_aReader_61 : decode cX12_aReader 61 = .ok (.iload_n 1, 1) := by decide +kernel
theorem dX12_aReader_62 : decode cX12_aReader 62 = .ok (.iconst 1, 1) := by decide +kernel
theorem dX12_aReader_63 : decode cX12_aReader 63 = .ok (.iadd, 1) := by decide +kernel
theorem dX12_aReader_64 : decode cX12_aReader 64 = .ok (.iconst 1, 1) := by decide +kernel
theorem dX12_aReader_65 : decode cX12_aReader 65 = .ok (.bipush 9, 2) := by decide +kernel
theorem dX12_aReader_67 : decode cX12_aReader 67 = .ok (.invokevirtual 212, 3) := by decide +kernel
theorem dX12_aReader_70 : decode cX12_aReader 70 = .ok (.ifCond .ne 5, 3) := by decide +kernel
theorem dX12_aReader_73 : decode cX12_aReader 73 = .ok (.iconst 0, 1) := by decide +kernel
theorem dX12_aReader_74 : decode cX12_aReader 74 = .ok (.ireturn, 1) := by decide +kernel
theorem dX12_aReader_75 : decode cX12_aReader 75 = .ok (.aload_n 0, 1) := by decide +kernel
theorem dX12_aReader_76 : decode cX12_aReader 76 = .ok (.getfield 7, 3) := by decide +kernel
theorem dX12_aReader_79 : decode cX12_aReader 79 = .ok (.sipush 2012, 3) := by decide +kernel
theorem dX12_aReader_82 : decode cX12_aReader 82 = .ok (.dup2, 1) := by decide +kernel
theorem dX12_aReader_83 : decode cX12_aReader 83 = .ok (.iaload, 1) := by decide +kernel
theorem dX12_aReader_84 : decode cX12_aReader 84 = .ok (.iconst 1, 1) := by decide +kernel
theorem dX12_aReader_85 : decode cX12_aReader 85 = .ok (.iadd, 1) := by decide +kernel
theorem dX12_aReader_86 : decode cX12_aReader 86 = .ok (.iastore, 1) := by decide +kernel
theorem dX12_aReader_87 : decode cX12_aReader 87 = .ok (.iconst 1, 1) := by decide +kernel
theorem dX12_aReader_88 : decode cX12_aReader 88 = .ok (.ireturn, 1) := by decide +kernel
set_option maxRecDepth 20000 in
theorem ggX12_aWord_X12_isFull : GoodIn wsX12_aWord wsX12_isFull := goodIn_r _ [6, 1, 108, 109, 110, 111, 112, 113, 114, 115, 116, 117, 118, 119, 120, 121, 122, 123, 124, 125, 126, 127, 128, 129, 130, 131, 132, 133, 134, 135, 136, 137, 138, 139, 140, 141, 142, 143, 144, 145, 146, 147, 148, 149] (by decide +kernel) (by decide +kernel)
set_option maxRecDepth 20000 in
theorem gX12_aWord_X12_isFull : GoodIn wsX12_aWord (wsV RX12 189 RX12 yX12_isFull wsX12_isFull) := goodIn_app (goodIn_of _ (by decide +kernel)) ggX12_aWord_X12_isFull
set_option maxRecDepth 20000 in
theorem ggX12_aWord_X12_fails : GoodIn wsX12_aWord wsX12_fails := goodIn_r _ [10, 11, 12, 13, 14, 108, 109, 110, 111, 112, 113, 114, 115, 116, 117, 118, 119, 120, 121, 122, 123, 124, 125, 126, 127, 128, 129, 130, 131, 132, 133, 134, 135, 136, 137, 138, 139, 140, 141, 142, 143, 144, 145, 146, 147, 148, 149] (by decide +kernel) (by decide +kernel)
set_option maxRecDepth 20000 in
theorem gX12_aWord_X12_fails : GoodIn wsX12_aWord (wsV RX12 173 RX12 yX12_fails wsX12_fails) := goodIn_app (goodIn_of _ (by decide +kernel)) ggX12_aWord_X12_fails
set_option maxRecDepth 20000 in
theorem ggX12_aWord_X12_ahead : GoodIn wsX12_aWord wsX12_ahead := goodIn_r _ [18, 19, 13, 20, 12, 21, 22, 23, 24, 25, 26, 27, 28, 5, 29, 30, 31, 32, 33, 34, 35, 36, 37, 108, 109, 110, 111, 112, 113, 114, 115, 116, 117, 118, 119, 120, 121, 122, 123, 124, 125, 126, 127, 128, 129, 130, 131, 132, 133, 134, 135, 136, 137, 138, 139, 140, 141, 142, 143, 144, 145, 146, 147, 148, 149] (by decide +kernel) (by decide +kernel)
set_option maxRecDepth 20000 in
theorem gX12_aWord_X12_ahead : GoodIn wsX12_aWord (wsV RX12 167 RX12 yX12_ahead wsX12_ahead) := goodIn_app (goodIn_of _ (by decide +kernel)) ggX12_aWord_X12_ahead
set_option maxRecDepth 20000 in
theorem ggX12_aWord_X12_oldOne : GoodIn wsX12_aWord wsX12_oldOne := goodIn_r _ [41, 1, 42, 43, 44, 5, 45, 12, 19, 13, 46, 47, 48, 49, 50, 51, 52, 53, 54, 55, 56, 57, 58, 59, 60, 61, 62, 63, 64, 65, 66, 67, 68, 69, 70, 71, 72, 73, 74, 75, 76, 77, 78, 79, 80, 81, 82, 83, 84, 85, 86, 87, 88, 89, 90, 91, 92, 93, 94, 95, 96, 97, 98, 26, 27, 28, 29, 30, 31, 7, 8, 9, 10, 11, 14, 99, 100, 101, 102, 103, 104, 105, 106, 107, 15, 16, 17, 18, 20, 21, 22, 23, 24, 25, 32, 33, 34, 35, 36, 37, 108, 109, 110, 111, 112, 113, 114, 115, 116, 117, 118, 119, 120, 121, 122, 123, 124, 125, 126, 127, 128, 129, 130, 131, 132, 133, 134, 135, 136, 137, 138, 139, 140, 141, 142, 143, 144, 145, 146, 147, 148, 149] (by decide +kernel) (by decide +kernel)
set_option maxRecDepth 20000 in
theorem gX12_aWord_X12_oldOne : GoodIn wsX12_aWord (wsV RX12 218 RX12 yX12_oldOne wsX12_oldOne) := goodIn_app (goodIn_of _ (by decide +kernel)) ggX12_aWord_X12_oldOne
set_option maxRecDepth 20000 in
theorem ggX12_aWord_X12_inWords : GoodIn wsX12_aWord wsX12_inWords := goodIn_r _ [49, 12, 19, 13, 50, 51, 52, 53, 54, 55, 56, 57, 58, 59, 60, 61, 62, 63, 64, 65, 66, 67, 68, 69, 70, 71, 72, 73, 74, 75, 76, 77, 78, 79, 80, 81, 82, 83, 84, 85, 86, 87, 88, 89, 90, 91, 92, 93, 94, 95, 96, 97, 98, 26, 27, 28, 5, 29, 30, 31, 108, 109, 110, 111, 112, 113, 114, 115, 116, 117, 118, 119, 120, 121, 122, 123, 124, 125, 126, 127, 128, 129, 130, 131, 132, 133, 134, 135, 136, 137, 138, 139, 140, 141, 142, 143, 144, 145, 146, 147, 148, 149] (by decide +kernel) (by decide +kernel)
set_option maxRecDepth 20000 in
theorem gX12_aWord_X12_inWords : GoodIn wsX12_aWord (wsV RX12 176 RX12 yX12_inWords wsX12_inWords) := goodIn_app (goodIn_of _ (by decide +kernel)) ggX12_aWord_X12_inWords
theorem dX12_aWord_0 : decode cX12_aWord 0 = .ok (.aload_n 0, 1) := by decide +kernel
theorem dX12_aWord_1 : decode cX12_aWord 1 = .ok (.iconst 5, 1) := by decide +kernel
theorem dX12_aWord_2 : decode cX12_aWord 2 = .ok (.bipush 10, 2) := by decide +kernel
theorem dX12_aWord_4 : decode cX12_aWord 4 = .ok (.invokevirtual 189, 3) := by decide +kernel
theorem dX12_aWord_7 : decode cX12_aWord 7 = .ok (.ifCond .eq 10, 3) := by decide +kernel
theorem dX12_aWord_10 : decode cX12_aWord 10 = .ok (.aload_n 0, 1) := by decide +kernel
theorem dX12_aWord_11 : decode cX12_aWord 11 = .ok (.bipush 6, 2) := by decide +kernel
theorem dX12_aWord_13 : decode cX12_aWord 13 = .ok (.invokevirtual 173, 3) := by decide +kernel
theorem dX12_aWord_16 : decode cX12_aWord 16 = .ok (.ireturn, 1) := by decide +kernel
theorem dX12_aWord_17 : decode cX12_aWord 17 = .ok (.sipush 2122, 3) := by decide +kernel
theorem dX12_aWord_20 : decode cX12_aWord 20 = .ok (.iconst 2, 1) := by decide +kernel
theorem dX12_aWord_21 : decode cX12_aWord 21 = .ok (.aload_n 0, 1) := by decide +kernel
theorem dX12_aWord_22 : decode cX12_aWord 22 = .ok (.getfield 7, 3) := by decide +kernel
theorem dX12_aWord_25 : decode cX12_aWord 25 = .ok (.sipush 2013, 3) := by decide +kernel
theorem dX12_aWord_28 : decode cX12_aWord 28 = .ok (.iaload, 1) := by decide +kernel
theorem dX12_aWord_29 : decode cX12_aWord 29 = .ok (.imul, 1) := by decide +kernel
theorem dX12_aWord_30 : decode cX12_aWord 30 = .ok (.iadd, 1) := by decide +kernel
theorem dX12_aWord_31 : decode cX12_aWord 31 = .ok (.istore_n 1, 1) := by decide +kernel
theorem dX12_aWord_32 : decode cX12_aWord 32 = .ok (.aload_n 0, 1) := by decide +kernel
theorem dX12_aWord_33 : decode cX12_aWord 33 = .ok (.invokevirtual 167, 3) := by decide +kernel
theorem dX12_aWord_36 : decode cX12_aWord 36 = .ok (.aload_n 0, 1) := by decide +kernel
theorem dX12_aWord_37 : decode cX12_aWord 37 = .ok (.bipush 103, 2) := by decide +kernel
theorem dX12_aWord_39 : decode cX12_aWord 39 = .ok (.aload_n 0, 1) := by decide +kernel
theorem dX12_aWord_40 : decode cX12_aWord 40 = .ok (.getfield 7, 3) := by decide +kernel
theorem dX12_aWord_43 : decode cX12_aWord 43 = .ok (.sipush 2011, 3) := by decide +kernel
theorem dX12_aWord_46 : decode cX12_aWord 46 = .ok (.iaload, 1) := by decide +kernel
theorem dX12_aWord_47 : decode cX12_aWord 47 = .ok (.iload_n 1, 1) := by decide +kernel
theorem dX12_aWord_48 : decode cX12_aWord 48 = .ok (.invokevirtual 218, 3) := by decide +kernel
theorem dX12_aWord_51 : decode cX12_aWord 51 = .ok (.ifCond .ne 5, 3) := by decide +kernel
theorem dX12_aWord_54 : decode cX12_aWord 54 = .ok (.iconst 0, 1) := by decide +kernel
theorem dX12_aWord_55 : decode cX12_aWord 55 = .ok (.ireturn, 1) := by decide +kernel
theorem dX12_aWord_56 : decode cX12_aWord 56 = .ok (.aload_n 0, 1) := by decide +kernel
theorem dX12_aWord_57 : decode cX12_aWord 57 = .ok (.ldc 184, 2) := by decide +kernel
theorem dX12_aWord_59 : decode cX12_aWord 59 = .ok (.invokevirtual 176, 3) := by decide +kernel
theorem dX12_aWord_62 : decode cX12_aWord 62 = .ok (.istore_n 2, 1) := by decide +kernel
theorem dX12_aWord_63 : decode cX12_aWord 63 = .ok (.iload_n 2, 1) := by decide +kernel
theorem dX12_aWord_64 : decode cX12_aWord 64 = .ok (.bipush 8, 2) := by decide +kernel
theorem dX12_aWord_66 : decode cX12_aWord 66 = .ok (.if_icmp .eq 15, 3) := by decide +kernel
theorem dX12_aWord_69 : decode cX12_aWord 69 = .ok (.iload_n 2, 1) := by decide +kernel
theorem dX12_aWord_70 : decode cX12_aWord 70 = .ok (.bipush 9, 2) := by decide +kernel
theorem dX12_aWord_72 : decode cX12_aWord 72 = .ok (.if_icmp .eq 9, 3) := by decide +kernel
theorem dX12_aWord_75 : decode cX12_aWord 75 = .ok (.aload_n 0, 1) := by decide +kernel
theorem dX12_aWord_76 : decode cX12_aWord 76 = .ok (.iconst 2, 1) := by decide +kernel
theorem dX12_aWord_77 : decode cX12_aWord 77 = .ok (.invokevirtual 173, 3) := by decide +kernel
theorem dX12_aWord_80 : decode cX12_aWord 80 = .ok (.ireturn, 1) := by decide +kernel
theorem dX12_aWord_81 : decode cX12_aWord 81 = .ok (.aload_n 0, 1) := by decide +kernel
theorem dX12_aWord_82 : decode cX12_aWord 82 = .ok (.getfield 7, 3) := by decide +kernel
theorem dX12_aWord_85 : decode cX12_aWord 85 = .ok (.iload_n 1, 1) := by decide +kernel
theorem dX12_aWord_86 : decode cX12_aWord 86 = .ok (.iconst 1, 1) := by decide +kernel
theorem dX12_aWord_87 : decode cX12_aWord 87 = .ok (.iadd, 1) := by decide +kernel
theorem dX12_aWord_88 : decode cX12_aWord 88 = .ok (.iload_n 2, 1) := by decide +kernel
theorem dX12_aWord_89 : decode cX12_aWord 89 = .ok (.bipush 7, 2) := by decide +kernel
theorem dX12_aWord_91 : decode cX12_aWord 91 = .ok (.isub, 1) := by decide +kernel
theorem dX12_aWord_92 : decode cX12_aWord 92 = .ok (.iastore, 1) := by decide +kernel
theorem dX12_aWord_93 : decode cX12_aWord 93 = .ok (.aload_n 0, 1) := by decide +kernel
theorem dX12_aWord_94 : decode cX12_aWord 94 = .ok (.invokevirtual 167, 3) := by decide +kernel
theorem dX12_aWord_97 : decode cX12_aWord 97 = .ok (.aload_n 0, 1) := by decide +kernel
theorem dX12_aWord_98 : decode cX12_aWord 98 = .ok (.getfield 7, 3) := by decide +kernel
theorem dX12_aWord_101 : decode cX12_aWord 101 = .ok (.sipush 2013, 3) := by decide +kernel
theorem dX12_aWord_104 : decode cX12_aWord 104 = .ok (.dup2, 1) := by decide +kernel
theorem dX12_aWord_105 : decode cX12_aWord 105 = .ok (.iaload, 1) := by decide +kernel
theorem dX12_aWord_106 : decode cX12_aWord 106 = .ok (.iconst 1, 1) := by decide +kernel
theorem dX12_aWord_107 : decode cX12_aWord 107 = .ok (.iadd, 1) := by decide +kernel
theorem dX12_aWord_108 : decode cX12_aWord 108 = .ok (.iastore, 1) := by decide +kernel
theorem dX12_aWord_109 : decode cX12_aWord 109 = .ok (.iconst 1, 1) := by decide +kernel
theorem dX12_aWord_110 : decode cX12_aWord 110 = .ok (.ireturn, 1) := by decide +kernel
set_option maxRecDepth 20000 in
theorem ggX12_courtPart_X12_inWords : GoodIn wsX12_courtPart wsX12_inWords := goodIn_r _ [5, 6, 7, 8, 9, 10, 11, 12, 13, 14, 15, 16, 17, 18, 19, 20, 21, 22, 23, 24, 25, 26, 27, 28, 29, 30, 31, 32, 33, 34, 35, 36, 37, 38, 39, 40, 41, 42, 43, 44, 45, 46, 47, 48, 49, 50, 51, 52, 53, 54, 55, 56, 57, 58, 59, 60, 4, 61, 62, 63, 174, 175, 176, 177, 178, 179, 180, 181, 182, 183, 184, 185, 186, 187, 188, 189, 190, 191, 192, 193, 194, 195, 196, 197, 198, 199, 200, 201, 202, 203, 204, 205, 206, 207, 208, 209, 210, 211, 212, 213, 214, 215] (by decide +kernel) (by decide +kernel)
set_option maxRecDepth 20000 in
theorem gX12_courtPart_X12_inWords : GoodIn wsX12_courtPart (wsV RX12 176 RX12 yX12_inWords wsX12_inWords) := goodIn_app (goodIn_of _ (by decide +kernel)) ggX12_courtPart_X12_inWords
set_option maxRecDepth 20000 in
theorem ggX12_courtPart_X12_fails : GoodIn wsX12_courtPart wsX12_fails := goodIn_r _ [67, 68, 6, 8, 69, 174, 175, 176, 177, 178, 179, 180, 181, 182, 183, 184, 185, 186, 187, 188, 189, 190, 191, 192, 193, 194, 195, 196, 197, 198, 199, 200, 201, 202, 203, 204, 205, 206, 207, 208, 209, 210, 211, 212, 213, 214, 215] (by decide +kernel) (by decide +kernel)
set_option maxRecDepth 20000 in
theorem gX12_courtPart_X12_fails : GoodIn wsX12_courtPart (wsV RX12 173 RX12 yX12_fails wsX12_fails) := goodIn_app (goodIn_of _ (by decide +kernel)) ggX12_courtPart_X12_fails
set_option maxRecDepth 20000 in
theorem ggX12_courtPart_X12_aSmell : GoodIn wsX12_courtPart wsX12_aSmell := goodIn_r _ [73, 74, 75, 76, 77, 4, 78, 79, 80, 81, 82, 83, 64, 65, 66, 67, 68, 6, 8, 69, 84, 85, 86, 87, 7, 88, 89, 90, 91, 92, 93, 58, 59, 60, 61, 62, 63, 94, 95, 96, 97, 98, 99, 100, 101, 102, 103, 1, 2, 3, 5, 9, 10, 11, 12, 13, 14, 15, 16, 17, 18, 19, 20, 21, 22, 23, 24, 25, 26, 27, 28, 29, 30, 31, 32, 33, 34, 35, 36, 37, 38, 39, 40, 41, 42, 43, 44, 45, 46, 47, 48, 49, 50, 51, 52, 53, 54, 55, 56, 57, 104, 105, 106, 107, 108, 109, 110, 111, 112, 113, 114, 115, 174, 175, 176, 177, 178, 179, 180, 181, 182, 183, 184, 185, 186, 187, 188, 189, 190, 191, 192, 193, 194, 195, 196, 197, 198, 199, 200, 201, 202, 203, 204, 205, 206, 207, 208, 209, 210, 211, 212, 213, 214, 215] (by decide +kernel) (by decide +kernel)
set_option maxRecDepth 20000 in
theorem gX12_courtPart_X12_aSmell : GoodIn wsX12_courtPart (wsV RX12 230 RX12 yX12_aSmell wsX12_aSmell) := goodIn_app (goodIn_of _ (by decide +kernel)) ggX12_courtPart_X12_aSmell
set_option maxRecDepth 20000 in
theorem ggX12_courtPart_X12_aCue : GoodIn wsX12_courtPart wsX12_aCue := goodIn_r _ [119, 74, 75, 76, 77, 4, 78, 79, 80, 81, 82, 83, 64, 65, 66, 67, 68, 6, 8, 69, 84, 85, 86, 87, 7, 88, 89, 90, 91, 92, 93, 58, 59, 60, 61, 62, 63, 94, 95, 96, 97, 98, 99, 100, 101, 102, 103, 1, 2, 3, 5, 9, 10, 11, 12, 13, 14, 15, 16, 17, 18, 19, 20, 21, 22, 23, 24, 25, 26, 27, 28, 29, 30, 31, 32, 33, 34, 35, 36, 37, 38, 39, 40, 41, 42, 43, 44, 45, 46, 47, 48, 49, 50, 51, 52, 53, 54, 55, 56, 57, 104, 105, 106, 107, 108, 109, 110, 111, 112, 113, 114, 115, 120, 121, 122, 123, 174, 175, 176, 177, 178, 179, 180, 181, 182, 183, 184, 185, 186, 187, 188, 189, 190, 191, 192, 193, 194, 195, 196, 197, 198, 199, 200, 201, 202, 203, 204, 205, 206, 207, 208, 209, 210, 211, 212, 213, 214, 215] (by decide +kernel) (by decide +kernel)
set_option maxRecDepth 20000 in
theorem gX12_courtPart_X12_aCue : GoodIn wsX12_courtPart (wsV RX12 233 RX12 yX12_aCue wsX12_aCue) := goodIn_app (goodIn_of _ (by decide +kernel)) ggX12_courtPart_X12_aCue
set_option maxRecDepth 20000 in
theorem ggX12_courtPart_X12_aRule : GoodIn wsX12_courtPart wsX12_aRule := goodIn_r _ [127, 74, 80, 81, 82, 4, 83, 64, 65, 66, 67, 68, 6, 8, 69, 128, 129, 130, 84, 85, 86, 87, 7, 88, 89, 90, 91, 92, 93, 58, 59, 60, 61, 62, 63, 94, 95, 96, 97, 98, 99, 131, 132, 133, 134, 100, 101, 102, 103, 1, 2, 3, 5, 9, 10, 11, 12, 13, 14, 15, 16, 17, 18, 19, 20, 21, 22, 23, 24, 25, 26, 27, 28, 29, 30, 31, 32, 33, 34, 35, 36, 37, 38, 39, 40, 41, 42, 43, 44, 45, 46, 47, 48, 49, 50, 51, 52, 53, 54, 55, 56, 57, 108, 109, 110, 111, 79, 112, 113, 114, 115, 135, 136, 137, 138, 139, 140, 141, 142, 143, 144, 145, 146, 147, 148, 149, 150, 174, 175, 176, 177, 178, 179, 180, 181, 182, 183, 184, 185, 186, 187, 188, 189, 190, 191, 192, 193, 194, 195, 196, 197, 198, 199, 200, 201, 202, 203, 204, 205, 206, 207, 208, 209, 210, 211, 212, 213, 214, 215] (by decide +kernel) (by decide +kernel)
set_option maxRecDepth 20000 in
theorem gX12_courtPart_X12_aRule : GoodIn wsX12_courtPart (wsV RX12 236 RX12 yX12_aRule wsX12_aRule) := goodIn_app (goodIn_of _ (by decide +kernel)) ggX12_courtPart_X12_aRule
set_option maxRecDepth 20000 in
theorem ggX12_courtPart_X12_aPerson : GoodIn wsX12_courtPart wsX12_aPerson := goodIn_r _ [154, 74, 155, 156, 4, 157, 75, 76, 77, 78, 79, 80, 81, 82, 83, 64, 65, 66, 67, 68, 6, 8, 69, 84, 85, 86, 87, 7, 88, 89, 90, 91, 92, 93, 58, 59, 60, 61, 62, 63, 94, 95, 96, 97, 98, 99, 100, 101, 102, 103, 1, 2, 3, 5, 9, 10, 11, 12, 13, 14, 15, 16, 17, 18, 19, 20, 21, 22, 23, 24, 25, 26, 27, 28, 29, 30, 31, 32, 33, 34, 35, 36, 37, 38, 39, 40, 41, 42, 43, 44, 45, 46, 47, 48, 49, 50, 51, 52, 53, 54, 55, 56, 57, 104, 105, 106, 107, 108, 109, 110, 111, 112, 113, 114, 115, 139, 140, 141, 142, 147, 148, 149, 150, 158, 159, 160, 161, 174, 175, 176, 177, 178, 179, 180, 181, 182, 183, 184, 185, 186, 187, 188, 189, 190, 191, 192, 193, 194, 195, 196, 197, 198, 199, 200, 201, 202, 203, 204, 205, 206, 207, 208, 209, 210, 211, 212, 213, 214, 215] (by decide +kernel) (by decide +kernel)
set_option maxRecDepth 20000 in
theorem gX12_courtPart_X12_aPerson : GoodIn wsX12_courtPart (wsV RX12 239 RX12 yX12_aPerson wsX12_aPerson) := goodIn_app (goodIn_of _ (by decide +kernel)) ggX12_courtPart_X12_aPerson
set_option maxRecDepth 20000 in
theorem ggX12_courtPart_X12_aReader : GoodIn wsX12_courtPart wsX12_aReader := goodIn_r _ [165, 74, 75, 76, 77, 4, 78, 79, 80, 81, 82, 83, 64, 65, 66, 67, 68, 6, 8, 69, 84, 85, 86, 87, 7, 88, 89, 90, 91, 92, 93, 58, 59, 60, 61, 62, 63, 94, 95, 96, 97, 98, 99, 100, 101, 102, 103, 1, 2, 3, 5, 9, 10, 11, 12, 13, 14, 15, 16, 17, 18, 19, 20, 21, 22, 23, 24, 25, 26, 27, 28, 29, 30, 31, 32, 33, 34, 35, 36, 37, 38, 39, 40, 41, 42, 43, 44, 45, 46, 47, 48, 49, 50, 51, 52, 53, 54, 55, 56, 57, 104, 105, 106, 107, 108, 109, 110, 111, 112, 113, 114, 115, 120, 121, 122, 123, 147, 148, 149, 150, 174, 175, 176, 177, 178, 179, 180, 181, 182, 183, 184, 185, 186, 187, 188, 189, 190, 191, 192, 193, 194, 195, 196, 197, 198, 199, 200, 201, 202, 203, 204, 205, 206, 207, 208, 209, 210, 211, 212, 213, 214, 215] (by decide +kernel) (by decide +kernel)
set_option maxRecDepth 20000 in
theorem gX12_courtPart_X12_aReader : GoodIn wsX12_courtPart (wsV RX12 242 RX12 yX12_aReader wsX12_aReader) := goodIn_app (goodIn_of _ (by decide +kernel)) ggX12_courtPart_X12_aReader
set_option maxRecDepth 20000 in
theorem ggX12_courtPart_X12_aWord : GoodIn wsX12_courtPart wsX12_aWord := goodIn_r _ [169, 74, 80, 81, 82, 4, 83, 64, 65, 66, 67, 68, 6, 8, 69, 84, 85, 86, 87, 7, 88, 89, 90, 91, 92, 93, 58, 59, 60, 61, 62, 63, 94, 95, 96, 97, 98, 99, 131, 132, 133, 134, 100, 101, 102, 103, 1, 2, 3, 5, 9, 10, 11, 12, 13, 14, 15, 16, 17, 18, 19, 20, 21, 22, 23, 24, 25, 26, 27, 28, 29, 30, 31, 32, 33, 34, 35, 36, 37, 38, 39, 40, 41, 42, 43, 44, 45, 46, 47, 48, 49, 50, 51, 52, 53, 54, 55, 56, 57, 108, 109, 110, 111, 79, 112, 113, 114, 115, 174, 175, 176, 177, 178, 179, 180, 181, 182, 183, 184, 185, 186, 187, 188, 189, 190, 191, 192, 193, 194, 195, 196, 197, 198, 199, 200, 201, 202, 203, 204, 205, 206, 207, 208, 209, 210, 211, 212, 213, 214, 215] (by decide +kernel) (by decide +kernel)
set_option maxRecDepth 20000 in
theorem gX12_courtPart_X12_aWord : GoodIn wsX12_courtPart (wsV RX12 245 RX12 yX12_aWord wsX12_aWord) := goodIn_app (goodIn_of _ (by decide +kernel)) ggX12_courtPart_X12_aWord
set_option maxRecDepth 20000 in
theorem ggX12_courtPart_X12_wantSign : GoodIn wsX12_courtPart wsX12_wantSign := goodIn_r _ [173, 143, 144, 145, 4, 146, 6, 88, 64, 65, 66, 67, 68, 8, 69, 84, 85, 86, 87, 7, 89, 90, 91, 92, 93, 58, 59, 60, 61, 62, 63, 94, 95, 96, 97, 98, 99, 174, 175, 176, 177, 178, 179, 180, 181, 182, 183, 184, 185, 186, 187, 188, 189, 190, 191, 192, 193, 194, 195, 196, 197, 198, 199, 200, 201, 202, 203, 204, 205, 206, 207, 208, 209, 210, 211, 212, 213, 214, 215] (by decide +kernel) (by decide +kernel)
set_option maxRecDepth 20000 in
theorem gX12_courtPart_X12_wantSign : GoodIn wsX12_courtPart (wsV RX12 248 RX12 yX12_wantSign wsX12_wantSign) := goodIn_app (goodIn_of _ (by decide +kernel)) ggX12_courtPart_X12_wantSign
theorem dX12_courtPart_0 : decode cX12_courtPart 0 = .ok (.aload_n 0, 1) := by decide +kernel
theorem dX12_courtPart_1 : decode cX12_courtPart 1 = .ok (.ldc 184, 2) := by decide +kernel
theorem dX12_courtPart_3 : decode cX12_courtPart 3 = .ok (.invokevirtual 176, 3) := by decide +kernel
theorem dX12_courtPart_6 : decode cX12_courtPart 6 = .ok (.istore_n 1, 1) := by decide +kernel
theorem dX12_courtPart_7 : decode cX12_courtPart 7 = .ok (.iload_n 1, 1) := by decide +kernel
theorem dX12_courtPart_8 : decode cX12_courtPart 8 = .ok (.ifCond .lt 8, 3) := by decide +kernel
theorem dX12_courtPart_11 : decode cX12_courtPart 11 = .ok (.iload_n 1, 1) := by decide +kernel
theorem dX12_courtPart_12 : decode cX12_courtPart 12 = .ok (.iconst 5, 1) := by decide +kernel
theorem dX12_courtPart_13 : decode cX12_courtPart 13 = .ok (.if_icmp .le 9, 3) := by decide +kernel
theorem dX12_courtPart_16 : decode cX12_courtPart 16 = .ok (.aload_n 0, 1) := by decide +kernel
theorem dX12_courtPart_17 : decode cX12_courtPart 17 = .ok (.iconst 2, 1) := by decide +kernel
theorem dX12_courtPart_18 : decode cX12_courtPart 18 = .ok (.invokevirtual 173, 3) := by decide +kernel
theorem dX12_courtPart_21 : decode cX12_courtPart 21 = .ok (.ireturn, 1) := by decide +kernel
theorem dX12_courtPart_22 : decode cX12_courtPart 22 = .ok (.iload_n 1, 1) := by decide +kernel
theorem dX12_courtPart_23 : decode cX12_courtPart 23 = .ok (.tableswitch 73 0 4 #[33, 41, 49, 57, 65], 33) := by decide +kernel
theorem dX12_courtPart_56 : decode cX12_courtPart 56 = .ok (.aload_n 0, 1) := by decide +kernel
theorem dX12_courtPart_57 : decode cX12_courtPart 57 = .ok (.invokevirtual 230, 3) := by decide +kernel
theorem dX12_courtPart_60 : decode cX12_courtPart 60 = .ok (.istore_n 2, 1) := by decide +kernel
theorem dX12_courtPart_61 : decode cX12_courtPart 61 = .ok (.goto 40, 3) := by decide +kernel
theorem dX12_courtPart_64 : decode cX12_courtPart 64 = .ok (.aload_n 0, 1) := by decide +kernel
theorem dX12_courtPart_65 : decode cX12_courtPart 65 = .ok (.invokevirtual 233, 3) := by decide +kernel
theorem dX12_courtPart_68 : decode cX12_courtPart 68 = .ok (.istore_n 2, 1) := by decide +kernel
theorem dX12_courtPart_69 : decode cX12_courtPart 69 = .ok (.goto 32, 3) := by decide +kernel
theorem dX12_courtPart_72 : decode cX12_courtPart 72 = .ok (.aload_n 0, 1) := by decide +kernel
theorem dX12_courtPart_73 : decode cX12_courtPart 73 = .ok (.invokevirtual 236, 3) := by decide +kernel
theorem dX12_courtPart_76 : decode cX12_courtPart 76 = .ok (.istore_n 2, 1) := by decide +kernel
theorem dX12_courtPart_77 : decode cX12_courtPart 77 = .ok (.goto 24, 3) := by decide +kernel
theorem dX12_courtPart_80 : decode cX12_courtPart 80 = .ok (.aload_n 0, 1) := by decide +kernel
theorem dX12_courtPart_81 : decode cX12_courtPart 81 = .ok (.invokevirtual 239, 3) := by decide +kernel
theorem dX12_courtPart_84 : decode cX12_courtPart 84 = .ok (.istore_n 2, 1) := by decide +kernel
theorem dX12_courtPart_85 : decode cX12_courtPart 85 = .ok (.goto 16, 3) := by decide +kernel
theorem dX12_courtPart_88 : decode cX12_courtPart 88 = .ok (.aload_n 0, 1) := by decide +kernel
theorem dX12_courtPart_89 : decode cX12_courtPart 89 = .ok (.invokevirtual 242, 3) := by decide +kernel
theorem dX12_courtPart_92 : decode cX12_courtPart 92 = .ok (.istore_n 2, 1) := by decide +kernel
theorem dX12_courtPart_93 : decode cX12_courtPart 93 = .ok (.goto 8, 3) := by decide +kernel
theorem dX12_courtPart_96 : decode cX12_courtPart 96 = .ok (.aload_n 0, 1) := by decide +kernel
theorem dX12_courtPart_97 : decode cX12_courtPart 97 = .ok (.invokevirtual 245, 3) := by decide +kernel
theorem dX12_courtPart_100 : decode cX12_courtPart 100 = .ok (.istore_n 2, 1) := by decide +kernel
theorem dX12_courtPart_101 : decode cX12_courtPart 101 = .ok (.iload_n 2, 1) := by decide +kernel
theorem dX12_courtPart_102 : decode cX12_courtPart 102 = .ok (.ifCond .eq 16, 3) := by decide +kernel
theorem dX12_courtPart_105 : decode cX12_courtPart 105 = .ok (.aload_n 0, 1) := by decide +kernel
theorem dX12_courtPart_106 : decode cX12_courtPart 106 = .ok (.bipush 59, 2) := by decide +kernel
theorem dX12_courtPart_108 : decode cX12_courtPart 108 = .ok (.invokevirtual 248, 3) := by decide +kernel
theorem dX12_courtPart_111 : decode cX12_courtPart 111 = .ok (.ifCond .eq 7, 3) := by decide +kernel
theorem dX12_courtPart_114 : decode cX12_courtPart 114 = .ok (.iconst 1, 1) := by decide +kernel
theorem dX12_courtPart_115 : decode cX12_courtPart 115 = .ok (.goto 4, 3) := by decide +kernel
theorem dX12_courtPart_118 : decode cX12_courtPart 118 = .ok (.iconst 0, 1) := by decide +kernel
theorem dX12_courtPart_119 : decode cX12_courtPart 119 = .ok (.ireturn, 1) := by decide +kernel
set_option maxRecDepth 20000 in
theorem ggX12_court_X12_begins : GoodIn wsX12_court wsX12_begins := goodIn_r _ [9, 10, 11, 12, 13, 2, 14, 15, 16, 17, 18, 19, 8, 20, 21, 22, 1, 23, 24, 25, 26, 27, 28, 29, 30, 31, 32, 33, 34, 35, 36, 37, 203, 204, 205, 206, 207, 208, 209, 210, 211, 212, 213, 214, 215, 216, 217, 218, 219, 220, 221, 222, 223, 224, 225, 226, 227, 228, 229, 230, 231, 232, 233, 234, 235, 236, 237, 238, 239, 240, 241, 242, 243, 244] (by decide +kernel) (by decide +kernel)
set_option maxRecDepth 20000 in
theorem gX12_court_X12_begins : GoodIn wsX12_court (wsV RX12 251 RX12 yX12_begins wsX12_begins) := goodIn_app (goodIn_of _ (by decide +kernel)) ggX12_court_X12_begins
set_option maxRecDepth 20000 in
theorem ggX12_court_X12_refuse : GoodIn wsX12_court wsX12_refuse := goodIn_r _ [41, 42, 203, 204, 205, 206, 207, 208, 209, 210, 211, 212, 213, 214, 215, 216, 217, 218, 219, 220, 221, 222, 223, 224, 225, 226, 227, 228, 229, 230, 231, 232, 233, 234, 235, 236, 237, 238, 239, 240, 241, 242, 243, 244] (by decide +kernel) (by decide +kernel)
set_option maxRecDepth 20000 in
theorem gX12_court_X12_refuse : GoodIn wsX12_court (wsV RX12 91 RX12 yX12_refuse wsX12_refuse) := goodIn_app (goodIn_of _ (by decide +kernel)) ggX12_court_X12_refuse
set_option maxRecDepth 20000 in
theorem ggX12_court_X12_plain : GoodIn wsX12_court wsX12_plain := goodIn_r _ [46, 3, 203, 204, 205, 206, 207, 208, 209, 210, 211, 212, 213, 214, 215, 216, 217, 218, 219, 220, 221, 222, 223, 224, 225, 226, 227, 228, 229, 230, 231, 232, 233, 234, 235, 236, 237, 238, 239, 240, 241, 242, 243, 244] (by decide +kernel) (by decide +kernel)
set_option maxRecDepth 20000 in
theorem gX12_court_X12_plain : GoodIn wsX12_court (wsV RX12 81 RX12 yX12_plain wsX12_plain) := goodIn_app (goodIn_of _ (by decide +kernel)) ggX12_court_X12_plain
set_option maxRecDepth 20000 in
theorem ggX12_court_X12_courtPart : GoodIn wsX12_court wsX12_courtPart := goodIn_r _ [50, 51, 52, 53, 8, 54, 1, 15, 21, 55, 56, 57, 58, 59, 60, 61, 62, 63, 64, 65, 66, 67, 68, 69, 70, 71, 72, 73, 74, 75, 76, 77, 78, 79, 80, 81, 82, 83, 84, 85, 86, 87, 88, 89, 90, 91, 92, 93, 94, 95, 96, 97, 98, 99, 100, 101, 102, 103, 28, 29, 30, 31, 11, 12, 104, 105, 106, 107, 2, 14, 108, 109, 110, 111, 3, 112, 113, 114, 115, 4, 116, 117, 118, 119, 17, 18, 19, 20, 22, 23, 24, 25, 26, 27, 32, 33, 34, 35, 36, 37, 120, 121, 122, 123, 124, 125, 126, 127, 128, 129, 130, 131, 132, 133, 134, 135, 136, 137, 138, 139, 140, 141, 142, 143, 144, 145, 146, 147, 148, 149, 150, 151, 152, 153, 154, 155, 156, 157, 158, 159, 160, 161, 162, 163, 164, 165, 166, 167, 168, 169, 170, 171, 172, 173, 174, 175, 176, 177, 178, 179, 180, 181, 182, 183, 184, 185, 186, 187, 188, 189, 190, 191, 192, 193, 203, 204, 205, 206, 207, 208, 209, 210, 211, 212, 213, 214, 215, 216, 217, 218, 219, 220, 221, 222, 223, 224, 225, 226, 227, 228, 229, 230, 231, 232, 233, 234, 235, 236, 237, 238, 239, 240, 241, 242, 243, 244] (by decide +kernel) (by decide +kernel)
set_option maxRecDepth 20000 in
theorem gX12_court_X12_courtPart : GoodIn wsX12_court (wsV RX12 254 RX12 yX12_courtPart wsX12_courtPart) := goodIn_app (goodIn_of _ (by decide +kernel)) ggX12_court_X12_courtPart
set_option maxRecDepth 20000 in
theorem ggX12_court_X12_taken : GoodIn wsX12_court wsX12_taken := goodIn_r _ [197, 2, 198, 38, 39, 40, 8, 41, 42, 199, 200, 201, 202, 203, 204, 205, 206, 207, 208, 209, 210, 211, 212, 213, 214, 215, 216, 217, 218, 219, 220, 221, 222, 223, 224, 225, 226, 227, 228, 229, 230, 231, 232, 233, 234, 235, 236, 237, 238, 239, 240, 241, 242, 243, 244] (by decide +kernel) (by decide +kernel)
set_option maxRecDepth 20000 in
theorem gX12_court_X12_taken : GoodIn wsX12_court (wsV RX12 257 RX12 yX12_taken wsX12_taken) := goodIn_app (goodIn_of _ (by decide +kernel)) ggX12_court_X12_taken
theorem dX12_court_0 : decode cX12_court 0 = .ok (.aload_n 0, 1) := by decide +kernel
theorem dX12_court_1 : decode cX12_court 1 = .ok (.iload_n 1, 1) := by decide +kernel
theorem dX12_court_2 : decode cX12_court 2 = .ok (.sipush 900, 3) := by decide +kernel
theorem dX12_court_5 : decode cX12_court 5 = .ok (.invokevirtual 251, 3) := by decide +kernel
theorem dX12_court_8 : decode cX12_court 8 = .ok (.ifCond .ne 9, 3) := by decide +kernel
theorem dX12_court_11 : decode cX12_court 11 = .ok (.aload_n 0, 1) := by decide +kernel
theorem dX12_court_12 : decode cX12_court 12 = .ok (.iconst 1, 1) := by decide +kernel
theorem dX12_court_13 : decode cX12_court 13 = .ok (.invokevirtual 91, 3) := by decide +kernel
theorem dX12_court_16 : decode cX12_court 16 = .ok (.ireturn, 1) := by decide +kernel
theorem dX12_court_17 : decode cX12_court 17 = .ok (.aload_n 0, 1) := by decide +kernel
theorem dX12_court_18 : decode cX12_court 18 = .ok (.sipush 2008, 3) := by decide +kernel
theorem dX12_court_21 : decode cX12_court 21 = .ok (.invokevirtual 81, 3) := by decide +kernel
theorem dX12_court_24 : decode cX12_court 24 = .ok (.iconst 1, 1) := by decide +kernel
theorem dX12_court_25 : decode cX12_court 25 = .ok (.istore_n 2, 1) := by decide +kernel
theorem dX12_court_26 : decode cX12_court 26 = .ok (.iload_n 2, 1) := by decide +kernel
theorem dX12_court_27 : decode cX12_court 27 = .ok (.ifCond .eq 18, 3) := by decide +kernel
theorem dX12_court_30 : decode cX12_court 30 = .ok (.aload_n 0, 1) := by decide +kernel
theorem dX12_court_31 : decode cX12_court 31 = .ok (.getfield 136, 3) := by decide +kernel
theorem dX12_court_34 : decode cX12_court 34 = .ok (.ifCond .eq 11, 3) := by decide +kernel
theorem dX12_court_37 : decode cX12_court 37 = .ok (.aload_n 0, 1) := by decide +kernel
theorem dX12_court_38 : decode cX12_court 38 = .ok (.invokevirtual 254, 3) := by decide +kernel
theorem dX12_court_41 : decode cX12_court 41 = .ok (.istore_n 2, 1) := by decide +kernel
theorem dX12_court_42 : decode cX12_court 42 = .ok (.goto (-16), 3) := by decide +kernel
theorem dX12_court_45 : decode cX12_court 45 = .ok (.aload_n 0, 1) := by decide +kernel
theorem dX12_court_46 : decode cX12_court 46 = .ok (.getfield 161, 3) := by decide +kernel
theorem dX12_court_49 : decode cX12_court 49 = .ok (.ifCond .ne 63, 3) := by decide +kernel
theorem dX12_court_52 : decode cX12_court 52 = .ok (.iconst 0, 1) := by decide +kernel
theorem dX12_court_53 : decode cX12_court 53 = .ok (.istore_n 3, 1) := by decide +kernel
theorem dX12_court_54 : decode cX12_court 54 = .ok (.iload_n 3, 1) := by decide +kernel
theorem dX12_court_55 : decode cX12_court 55 = .ok (.sipush 502, 3) := by decide +kernel
theorem dX12_court_58 : decode cX12_court 58 = .ok (.if_icmp .ge 25, 3) := by decide +kernel
theorem dX12_court_61 : decode cX12_court 61 = .ok (.aload_n 0, 1) := by decide +kernel
theorem dX12_court_62 : decode cX12_court 62 = .ok (.getfield 7, 3) := by decide +kernel
theorem dX12_court_65 : decode cX12_court 65 = .ok (.iload_n 3, 1) := by decide +kernel
theorem dX12_court_66 : decode cX12_court 66 = .ok (.aload_n 0, 1) := by decide +kernel
theorem dX12_court_67 : decode cX12_court 67 = .ok (.getfield 7, 3) := by decide +kernel
theorem dX12_court_70 : decode cX12_court 70 = .ok (.sipush 2008, 3) := by decide +kernel
theorem dX12_court_73 : decode cX12_court 73 = .ok (.iload_n 3, 1) := by decide +kernel
theorem dX12_court_74 : decode cX12_court 74 = .ok (.iadd, 1) := by decide +kernel
theorem dX12_court_75 : decode cX12_court 75 = .ok (.iaload, 1) := by decide +kernel
theorem dX12_court_76 : decode cX12_court 76 = .ok (.iastore, 1) := by decide +kernel
theorem dX12_court_77 : decode cX12_court 77 = .ok (.iinc 3 1, 3) := by decide +kernel
theorem dX12_court_80 : decode cX12_court 80 = .ok (.goto (-26), 3) := by decide +kernel
theorem dX12_court_83 : decode cX12_court 83 = .ok (.iconst 0, 1) := by decide +kernel
theorem dX12_court_84 : decode cX12_court 84 = .ok (.istore_n 3, 1) := by decide +kernel
theorem dX12_court_85 : decode cX12_court 85 = .ok (.iload_n 3, 1) := by decide +kernel
theorem dX12_court_86 : decode cX12_court 86 = .ok (.bipush 23, 2) := by decide +kernel
theorem dX12_court_88 : decode cX12_court 88 = .ok (.if_icmp .ge 24, 3) := by decide +kernel
theorem dX12_court_91 : decode cX12_court 91 = .ok (.aload_n 0, 1) := by decide +kernel
theorem dX12_court_92 : decode cX12_court 92 = .ok (.getfield 13, 3) := by decide +kernel
theorem dX12_court_95 : decode cX12_court 95 = .ok (.iload_n 3, 1) := by decide +kernel
theorem dX12_court_96 : decode cX12_court 96 = .ok (.aload_n 0, 1) := by decide +kernel
theorem dX12_court_97 : decode cX12_court 97 = .ok (.getfield 13, 3) := by decide +kernel
theorem dX12_court_100 : decode cX12_court 100 = .ok (.bipush 92, 2) := by decide +kernel
theorem dX12_court_102 : decode cX12_court 102 = .ok (.iload_n 3, 1) := by decide +kernel
theorem dX12_court_103 : decode cX12_court 103 = .ok (.iadd, 1) := by decide +kernel
theorem dX12_court_104 : decode cX12_court 104 = .ok (.laload, 1) := by decide +kernel
theorem dX12_court_105 : decode cX12_court 105 = .ok (.lastore, 1) := by decide +kernel
theorem dX12_court_106 : decode cX12_court 106 = .ok (.iinc 3 1, 3) := by decide +kernel
theorem dX12_court_109 : decode cX12_court 109 = .ok (.goto (-24), 3) := by decide +kernel
theorem dX12_court_112 : decode cX12_court 112 = .ok (.aload_n 0, 1) := by decide +kernel
theorem dX12_court_113 : decode cX12_court 113 = .ok (.aload_n 0, 1) := by decide +kernel
theorem dX12_court_114 : decode cX12_court 114 = .ok (.getfield 7, 3) := by decide +kernel
theorem dX12_court_117 : decode cX12_court 117 = .ok (.iconst 3, 1) := by decide +kernel
theorem dX12_court_118 : decode cX12_court 118 = .ok (.iaload, 1) := by decide +kernel
theorem dX12_court_119 : decode cX12_court 119 = .ok (.invokevirtual 257, 3) := by decide +kernel
theorem dX12_court_122 : decode cX12_court 122 = .ok (.ireturn, 1) := by decide +kernel
set_option maxRecDepth 20000 in
theorem ggX12_personTo_X12_oldOne : GoodIn wsX12_personTo wsX12_oldOne := goodIn_r _ [6, 1, 7, 8, 9, 5, 10, 11, 12, 13, 14, 15, 16, 17, 18, 19, 20, 21, 22, 23, 24, 25, 26, 27, 28, 29, 30, 31, 32, 33, 34, 35, 36, 37, 38, 39, 40, 41, 42, 43, 44, 45, 46, 47, 48, 49, 50, 51, 52, 53, 54, 55, 56, 57, 58, 59, 60, 61, 62, 63, 64, 65, 66, 67, 68, 69, 70, 71, 72, 73, 74, 75, 76, 77, 78, 79, 80, 81, 82, 83, 84, 85, 86, 87, 88, 89, 90, 91, 92, 93, 94, 95, 96, 97, 98, 99, 100, 101, 102, 103, 104, 105, 106, 107, 108, 109, 110, 111, 112, 113, 114, 115, 116, 117, 118, 119, 120, 121, 122, 123, 124, 125, 126, 127, 128, 129, 130, 131, 132, 133, 134, 135, 136, 137, 138, 139, 140, 141, 142, 143, 144, 145] (by decide +kernel) (by decide +kernel)
set_option maxRecDepth 20000 in
theorem gX12_personTo_X12_oldOne : GoodIn wsX12_personTo (wsV RX12 218 RX12 yX12_oldOne wsX12_oldOne) := goodIn_app (goodIn_of _ (by decide +kernel)) ggX12_personTo_X12_oldOne
theorem dX12_personTo_0 : decode cX12_personTo 0 = .ok (.aload_n 0, 1) := by decide +kernel
theorem dX12_personTo_1 : decode cX12_personTo 1 = .ok (.bipush 11, 2) := by decide +kernel
theorem dX12_personTo_3 : decode cX12_personTo 3 = .ok (.aload_n 0, 1) := by decide +kernel
theorem dX12_personTo_4 : decode cX12_personTo 4 = .ok (.getfield 7, 3) := by decide +kernel
theorem dX12_personTo_7 : decode cX12_personTo 7 = .ok (.iconst 3, 1) := by decide +kernel
theorem dX12_personTo_8 : decode cX12_personTo 8 = .ok (.iaload, 1) := by decide +kernel
theorem dX12_personTo_9 : decode cX12_personTo 9 = .ok (.iload_n 1, 1) := by decide +kernel
theorem dX12_personTo_10 : decode cX12_personTo 10 = .ok (.invokevirtual 218, 3) := by decide +kernel
theorem dX12_personTo_13 : decode cX12_personTo 13 = .ok (.ireturn, 1) := by decide +kernel
set_option maxRecDepth 20000 in
theorem ggX12_smellTo_X12_oldOne : GoodIn wsX12_smellTo wsX12_oldOne := goodIn_r _ [6, 1, 7, 8, 9, 5, 10, 11, 12, 13, 14, 15, 16, 17, 18, 19, 20, 21, 22, 23, 24, 25, 26, 27, 28, 29, 30, 31, 32, 33, 34, 35, 36, 37, 38, 39, 40, 41, 42, 43, 44, 45, 46, 47, 48, 49, 50, 51, 52, 53, 54, 55, 56, 57, 58, 59, 60, 61, 62, 63, 64, 65, 66, 67, 68, 69, 70, 71, 72, 73, 74, 75, 76, 77, 78, 79, 80, 81, 82, 83, 84, 85, 86, 87, 88, 89, 90, 91, 92, 93, 94, 95, 96, 97, 98, 99, 100, 101, 102, 103, 104, 105, 106, 107, 108, 109, 110, 111, 112, 113, 114, 115, 116, 117, 118, 119, 120, 121, 122, 123, 124, 125, 126, 127, 128, 129, 130, 131, 132, 133, 134, 135, 136, 137, 138, 139, 140, 141, 142, 143, 144, 145] (by decide +kernel) (by decide +kernel)
set_option maxRecDepth 20000 in
theorem gX12_smellTo_X12_oldOne : GoodIn wsX12_smellTo (wsV RX12 218 RX12 yX12_oldOne wsX12_oldOne) := goodIn_app (goodIn_of _ (by decide +kernel)) ggX12_smellTo_X12_oldOne
theorem dX12_smellTo_0 : decode cX12_smellTo 0 = .ok (.aload_n 0, 1) := by decide +kernel
theorem dX12_smellTo_1 : decode cX12_smellTo 1 = .ok (.iconst 0, 1) := by decide +kernel
theorem dX12_smellTo_2 : decode cX12_smellTo 2 = .ok (.aload_n 0, 1) := by decide +kernel
theorem dX12_smellTo_3 : decode cX12_smellTo 3 = .ok (.getfield 7, 3) := by decide +kernel
theorem dX12_smellTo_6 : decode cX12_smellTo 6 = .ok (.iconst 0, 1) := by decide +kernel
theorem dX12_smellTo_7 : decode cX12_smellTo 7 = .ok (.iaload, 1) := by decide +kernel
theorem dX12_smellTo_8 : decode cX12_smellTo 8 = .ok (.iload_n 1, 1) := by decide +kernel
theorem dX12_smellTo_9 : decode cX12_smellTo 9 = .ok (.invokevirtual 218, 3) := by decide +kernel
theorem dX12_smellTo_12 : decode cX12_smellTo 12 = .ok (.ireturn, 1) := by decide +kernel
set_option maxRecDepth 20000 in
theorem ggX12_test_X12_inWords : GoodIn wsX12_test wsX12_inWords := goodIn_r _ [7, 8, 9, 10, 11, 12, 13, 14, 15, 16, 17, 18, 19, 20, 21, 22, 23, 24, 25, 26, 27, 28, 29, 30, 31, 32, 33, 34, 35, 36, 37, 38, 39, 40, 41, 42, 43, 44, 45, 46, 47, 48, 49, 50, 51, 52, 53, 54, 55, 56, 57, 58, 59, 60, 61, 62, 6, 63, 64, 65, 116, 117, 118, 119, 120, 121, 122, 123, 124, 125, 126, 127, 128, 129, 130, 131, 132, 133, 134, 135, 136, 137, 138, 139, 140, 141, 142, 143, 144, 145, 146, 147, 148, 149, 150, 151, 152, 153, 154, 155, 156, 157] (by decide +kernel) (by decide +kernel)
set_option maxRecDepth 20000 in
theorem gX12_test_X12_inWords : GoodIn wsX12_test (wsV RX12 176 RX12 yX12_inWords wsX12_inWords) := goodIn_app (goodIn_of _ (by decide +kernel)) ggX12_test_X12_inWords
set_option maxRecDepth 20000 in
theorem ggX12_test_X12_fails : GoodIn wsX12_test wsX12_fails := goodIn_r _ [69, 70, 8, 10, 71, 116, 117, 118, 119, 120, 121, 122, 123, 124, 125, 126, 127, 128, 129, 130, 131, 132, 133, 134, 135, 136, 137, 138, 139, 140, 141, 142, 143, 144, 145, 146, 147, 148, 149, 150, 151, 152, 153, 154, 155, 156, 157] (by decide +kernel) (by decide +kernel)
set_option maxRecDepth 20000 in
theorem gX12_test_X12_fails : GoodIn wsX12_test (wsV RX12 173 RX12 yX12_fails wsX12_fails) := goodIn_app (goodIn_of _ (by decide +kernel)) ggX12_test_X12_fails
set_option maxRecDepth 20000 in
theorem ggX12_test_X12_ahead : GoodIn wsX12_test wsX12_ahead := goodIn_r _ [75, 9, 10, 2, 8, 76, 77, 78, 79, 80, 60, 61, 62, 6, 63, 64, 65, 81, 82, 83, 84, 85, 86, 116, 117, 118, 119, 120, 121, 122, 123, 124, 125, 126, 127, 128, 129, 130, 131, 132, 133, 134, 135, 136, 137, 138, 139, 140, 141, 142, 143, 144, 145, 146, 147, 148, 149, 150, 151, 152, 153, 154, 155, 156, 157] (by decide +kernel) (by decide +kernel)
set_option maxRecDepth 20000 in
theorem gX12_test_X12_ahead : GoodIn wsX12_test (wsV RX12 167 RX12 yX12_ahead wsX12_ahead) := goodIn_app (goodIn_of _ (by decide +kernel)) ggX12_test_X12_ahead
set_option maxRecDepth 20000 in
theorem ggX12_test_X12_personTo : GoodIn wsX12_test wsX12_personTo := goodIn_r _ [90, 1, 91, 92, 93, 6, 94, 95, 96, 97, 98, 8, 9, 10, 3, 4, 5, 7, 11, 12, 13, 14, 15, 16, 17, 18, 19, 20, 21, 22, 23, 24, 25, 26, 27, 28, 29, 30, 31, 32, 33, 34, 35, 36, 37, 38, 39, 40, 41, 42, 43, 44, 45, 46, 47, 48, 49, 50, 51, 52, 53, 54, 55, 56, 57, 58, 59, 60, 61, 62, 63, 64, 65, 66, 67, 68, 69, 70, 71, 99, 100, 101, 102, 103, 104, 105, 106, 107, 72, 73, 74, 75, 2, 76, 77, 78, 79, 80, 81, 82, 83, 84, 85, 86, 116, 117, 118, 119, 120, 121, 122, 123, 124, 125, 126, 127, 128, 129, 130, 131, 132, 133, 134, 135, 136, 137, 138, 139, 140, 141, 142, 143, 144, 145, 146, 147, 148, 149, 150, 151, 152, 153, 154, 155, 156, 157] (by decide +kernel) (by decide +kernel)
set_option maxRecDepth 20000 in
theorem gX12_test_X12_personTo : GoodIn wsX12_test (wsV RX12 260 RX12 yX12_personTo wsX12_personTo) := goodIn_app (goodIn_of _ (by decide +kernel)) ggX12_test_X12_personTo
set_option maxRecDepth 20000 in
theorem ggX12_test_X12_oldOne : GoodIn wsX12_test wsX12_oldOne := goodIn_r _ [94, 1, 95, 96, 97, 6, 98, 8, 9, 10, 3, 4, 5, 7, 11, 12, 13, 14, 15, 16, 17, 18, 19, 20, 21, 22, 23, 24, 25, 26, 27, 28, 29, 30, 31, 32, 33, 34, 35, 36, 37, 38, 39, 40, 41, 42, 43, 44, 45, 46, 47, 48, 49, 50, 51, 52, 53, 54, 55, 56, 57, 58, 59, 60, 61, 62, 63, 64, 65, 66, 67, 68, 69, 70, 71, 99, 100, 101, 102, 103, 104, 105, 106, 107, 72, 73, 74, 75, 2, 76, 77, 78, 79, 80, 81, 82, 83, 84, 85, 86, 116, 117, 118, 119, 120, 121, 122, 123, 124, 125, 126, 127, 128, 129, 130, 131, 132, 133, 134, 135, 136, 137, 138, 139, 140, 141, 142, 143, 144, 145, 146, 147, 148, 149, 150, 151, 152, 153, 154, 155, 156, 157] (by decide +kernel) (by decide +kernel)
set_option maxRecDepth 20000 in
theorem gX12_test_X12_oldOne : GoodIn wsX12_test (wsV RX12 218 RX12 yX12_oldOne wsX12_oldOne) := goodIn_app (goodIn_of _ (by decide +kernel)) ggX12_test_X12_oldOne
set_option maxRecDepth 20000 in
theorem ggX12_test_X12_isSign : GoodIn wsX12_test wsX12_isSign := goodIn_r _ [111, 8, 2, 116, 117, 118, 119, 120, 121, 122, 123, 124, 125, 126, 127, 128, 129, 130, 131, 132, 133, 134, 135, 136, 137, 138, 139, 140, 141, 142, 143, 144, 145, 146, 147, 148, 149, 150, 151, 152, 153, 154, 155, 156, 157] (by decide +kernel) (by decide +kernel)
set_option maxRecDepth 20000 in
theorem gX12_test_X12_isSign : GoodIn wsX12_test (wsV RX12 170 RX12 yX12_isSign wsX12_isSign) := goodIn_app (goodIn_of _ (by decide +kernel)) ggX12_test_X12_isSign
set_option maxRecDepth 20000 in
theorem ggX12_test_X12_number : GoodIn wsX12_test wsX12_number := goodIn_r _ [115, 8, 2, 1, 66, 67, 68, 6, 69, 70, 10, 71, 72, 73, 74, 75, 9, 76, 77, 78, 79, 80, 60, 61, 62, 63, 64, 65, 81, 82, 83, 84, 85, 86, 116, 117, 118, 119, 120, 121, 122, 123, 124, 125, 126, 127, 128, 129, 130, 131, 132, 133, 134, 135, 136, 137, 138, 139, 140, 141, 142, 143, 144, 145, 146, 147, 148, 149, 150, 151, 152, 153, 154, 155, 156, 157] (by decide +kernel) (by decide +kernel)
set_option maxRecDepth 20000 in
theorem gX12_test_X12_number : GoodIn wsX12_test (wsV RX12 212 RX12 yX12_number wsX12_number) := goodIn_app (goodIn_of _ (by decide +kernel)) ggX12_test_X12_number
theorem dX12_test_0 : decode cX12_test 0 = .ok (.aload_n 0, 1) := by decide +kernel
theorem dX12_test_1 : decode cX12_test 1 = .ok (.ldc 184, 2) := by decide +kernel
theorem dX12_test_3 : decode cX12_test 3 = .ok (.invokevirtual 176, 3) := by decide +kernel
theorem dX12_test_6 : decode cX12_test 6 = .ok (.istore_n 2, 1) := by decide +kernel
theorem dX12_test_7 : decode cX12_test 7 = .ok (.iload_n 2, 1) := by decide +kernel
theorem dX12_test_8 : decode cX12_test 8 = .ok (.bipush 11, 2) := by decide +kernel
theorem dX12_test_10 : decode cX12_test 10 = .ok (.if_icmp .eq 15, 3) := by decide +kernel
theorem dX12_test_13 : decode cX12_test 13 = .ok (.iload_n 2, 1) := by decide +kernel
theorem dX12_test_14 : decode cX12_test 14 = .ok (.bipush 26, 2) := by decide +kernel
theorem dX12_test_16 : decode cX12_test 16 = .ok (.if_icmp .ge 9, 3) := by decide +kernel
theorem dX12_test_19 : decode cX12_test 19 = .ok (.aload_n 0, 1) := by decide +kernel
theorem dX12_test_20 : decode cX12_test 20 = .ok (.iconst 2, 1) := by decide +kernel
theorem dX12_test_21 : decode cX12_test 21 = .ok (.invokevirtual 173, 3) := by decide +kernel
theorem dX12_test_24 : decode cX12_test 24 = .ok (.ireturn, 1) := by decide +kernel
theorem dX12_test_25 : decode cX12_test 25 = .ok (.aload_n 0, 1) := by decide +kernel
theorem dX12_test_26 : decode cX12_test 26 = .ok (.getfield 7, 3) := by decide +kernel
theorem dX12_test_29 : decode cX12_test 29 = .ok (.iload_n 1, 1) := by decide +kernel
theorem dX12_test_30 : decode cX12_test 30 = .ok (.sipush 2200, 3) := by decide +kernel
theorem dX12_test_33 : decode cX12_test 33 = .ok (.iload_n 2, 1) := by decide +kernel
theorem dX12_test_34 : decode cX12_test 34 = .ok (.iadd, 1) := by decide +kernel
theorem dX12_test_35 : decode cX12_test 35 = .ok (.iastore, 1) := by decide +kernel
theorem dX12_test_36 : decode cX12_test 36 = .ok (.aload_n 0, 1) := by decide +kernel
theorem dX12_test_37 : decode cX12_test 37 = .ok (.invokevirtual 167, 3) := by decide +kernel
theorem dX12_test_40 : decode cX12_test 40 = .ok (.iload_n 2, 1) := by decide +kernel
theorem dX12_test_41 : decode cX12_test 41 = .ok (.bipush 26, 2) := by decide +kernel
theorem dX12_test_43 : decode cX12_test 43 = .ok (.if_icmp .ne 36, 3) := by decide +kernel
theorem dX12_test_46 : decode cX12_test 46 = .ok (.aload_n 0, 1) := by decide +kernel
theorem dX12_test_47 : decode cX12_test 47 = .ok (.iload_n 1, 1) := by decide +kernel
theorem dX12_test_48 : decode cX12_test 48 = .ok (.iconst 1, 1) := by decide +kernel
theorem dX12_test_49 : decode cX12_test 49 = .ok (.iadd, 1) := by decide +kernel
theorem dX12_test_50 : decode cX12_test 50 = .ok (.invokevirtual 260, 3) := by decide +kernel
theorem dX12_test_53 : decode cX12_test 53 = .ok (.ifCond .eq 24, 3) := by decide +kernel
theorem dX12_test_56 : decode cX12_test 56 = .ok (.aload_n 0, 1) := by decide +kernel
theorem dX12_test_57 : decode cX12_test 57 = .ok (.iconst 5, 1) := by decide +kernel
theorem dX12_test_58 : decode cX12_test 58 = .ok (.aload_n 0, 1) := by decide +kernel
theorem dX12_test_59 : decode cX12_test 59 = .ok (.getfield 7, 3) := by decide +kernel
theorem dX12_test_62 : decode cX12_test 62 = .ok (.iconst 1, 1) := by decide +kernel
theorem dX12_test_63 : decode cX12_test 63 = .ok (.iaload, 1) := by decide +kernel
theorem dX12_test_64 : decode cX12_test 64 = .ok (.iload_n 1, 1) := by decide +kernel
theorem dX12_test_65 : decode cX12_test 65 = .ok (.iconst 2, 1) := by decide +kernel
theorem dX12_test_66 : decode cX12_test 66 = .ok (.iadd, 1) := by decide +kernel
theorem dX12_test_67 : decode cX12_test 67 = .ok (.invokevirtual 218, 3) := by decide +kernel
theorem dX12_test_70 : decode cX12_test 70 = .ok (.ifCond .eq 7, 3) := by decide +kernel
theorem dX12_test_73 : decode cX12_test 73 = .ok (.iconst 1, 1) := by decide +kernel
theorem dX12_test_74 : decode cX12_test 74 = .ok (.goto 4, 3) := by decide +kernel
theorem dX12_test_77 : decode cX12_test 77 = .ok (.iconst 0, 1) := by decide +kernel
theorem dX12_test_78 : decode cX12_test 78 = .ok (.ireturn, 1) := by decide +kernel
theorem dX12_test_79 : decode cX12_test 79 = .ok (.iload_n 2, 1) := by decide +kernel
theorem dX12_test_80 : decode cX12_test 80 = .ok (.bipush 11, 2) := by decide +kernel
theorem dX12_test_82 : decode cX12_test 82 = .ok (.if_icmp .eq 11, 3) := by decide +kernel
theorem dX12_test_85 : decode cX12_test 85 = .ok (.aload_n 0, 1) := by decide +kernel
theorem dX12_test_86 : decode cX12_test 86 = .ok (.iload_n 1, 1) := by decide +kernel
theorem dX12_test_87 : decode cX12_test 87 = .ok (.iconst 1, 1) := by decide +kernel
theorem dX12_test_88 : decode cX12_test 88 = .ok (.iadd, 1) := by decide +kernel
theorem dX12_test_89 : decode cX12_test 89 = .ok (.invokevirtual 260, 3) := by decide +kernel
theorem dX12_test_92 : decode cX12_test 92 = .ok (.ireturn, 1) := by decide +kernel
theorem dX12_test_93 : decode cX12_test 93 = .ok (.aload_n 0, 1) := by decide +kernel
theorem dX12_test_94 : decode cX12_test 94 = .ok (.bipush 60, 2) := by decide +kernel
theorem dX12_test_96 : decode cX12_test 96 = .ok (.invokevirtual 170, 3) := by decide +kernel
theorem dX12_test_99 : decode cX12_test 99 = .ok (.ifCond .ne 27, 3) := by decide +kernel
theorem dX12_test_102 : decode cX12_test 102 = .ok (.aload_n 0, 1) := by decide +kernel
theorem dX12_test_103 : decode cX12_test 103 = .ok (.bipush 62, 2) := by decide +kernel
theorem dX12_test_105 : decode cX12_test 105 = .ok (.invokevirtual 170, 3) := by decide +kernel
theorem dX12_test_108 : decode cX12_test 108 = .ok (.ifCond .ne 18, 3) := by decide +kernel
theorem dX12_test_111 : decode cX12_test 111 = .ok (.aload_n 0, 1) := by decide +kernel
theorem dX12_test_112 : decode cX12_test 112 = .ok (.bipush 61, 2) := by decide +kernel
theorem dX12_test_114 : decode cX12_test 114 = .ok (.invokevirtual 170, 3) := by decide +kernel
theorem dX12_test_117 : decode cX12_test 117 = .ok (.ifCond .ne 9, 3) := by decide +kernel
theorem dX12_test_120 : decode cX12_test 120 = .ok (.aload_n 0, 1) := by decide +kernel
theorem dX12_test_121 : decode cX12_test 121 = .ok (.iconst 2, 1) := by decide +kernel
theorem dX12_test_122 : decode cX12_test 122 = .ok (.invokevirtual 173, 3) := by decide +kernel
theorem dX12_test_125 : decode cX12_test 125 = .ok (.ireturn, 1) := by decide +kernel
theorem dX12_test_126 : decode cX12_test 126 = .ok (.aload_n 0, 1) := by decide +kernel
theorem dX12_test_127 : decode cX12_test 127 = .ok (.getfield 7, 3) := by decide +kernel
theorem dX12_test_130 : decode cX12_test 130 = .ok (.iload_n 1, 1) := by decide +kernel
theorem dX12_test_131 : decode cX12_test 131 = .ok (.iconst 5, 1) := by decide +kernel
theorem dX12_test_132 : decode cX12_test 132 = .ok (.iadd, 1) := by decide +kernel
theorem dX12_test_133 : decode cX12_test 133 = .ok (.aload_n 0, 1) := by decide +kernel
theorem dX12_test_134 : decode cX12_test 134 = .ok (.getfield 133, 3) := by decide +kernel
theorem dX12_test_137 : decode cX12_test 137 = .ok (.iastore, 1) := by decide +kernel
theorem dX12_test_138 : decode cX12_test 138 = .ok (.aload_n 0, 1) := by decide +kernel
theorem dX12_test_139 : decode cX12_test 139 = .ok (.invokevirtual 167, 3) := by decide +kernel
theorem dX12_test_142 : decode cX12_test 142 = .ok (.aload_n 0, 1) := by decide +kernel
theorem dX12_test_143 : decode cX12_test 143 = .ok (.iload_n 1, 1) := by decide +kernel
theorem dX12_test_144 : decode cX12_test 144 = .ok (.iconst 2, 1) := by decide +kernel
theorem dX12_test_145 : decode cX12_test 145 = .ok (.iadd, 1) := by decide +kernel
theorem dX12_test_146 : decode cX12_test 146 = .ok (.iconst 0, 1) := by decide +kernel
theorem dX12_test_147 : decode cX12_test 147 = .ok (.bipush 9, 2) := by decide +kernel
theorem dX12_test_149 : decode cX12_test 149 = .ok (.invokevirtual 212, 3) := by decide +kernel
theorem dX12_test_152 : decode cX12_test 152 = .ok (.ireturn, 1) := by decide +kernel
set_option maxRecDepth 20000 in
theorem ggX12_weekOrder_X12_personTo : GoodIn wsX12_weekOrder wsX12_personTo := goodIn_r _ [5, 6, 7, 8, 9, 4, 10, 11, 12, 13, 14, 15, 16, 17, 18, 19, 20, 21, 22, 23, 24, 25, 26, 27, 28, 29, 30, 31, 32, 33, 34, 35, 36, 37, 38, 39, 40, 41, 42, 43, 44, 45, 46, 47, 48, 49, 50, 51, 52, 53, 54, 55, 56, 57, 58, 59, 60, 61, 62, 63, 64, 65, 66, 67, 68, 69, 70, 71, 72, 73, 74, 75, 76, 77, 78, 79, 80, 81, 82, 83, 84, 85, 86, 87, 88, 89, 90, 91, 92, 93, 94, 95, 96, 97, 98, 99, 100, 101, 102, 103, 104, 105, 106, 107, 124, 125, 126, 127, 128, 129, 130, 131, 132, 133, 134, 135, 136, 137, 138, 139, 140, 141, 142, 143, 144, 145, 146, 147, 148, 149, 150, 151, 152, 153, 154, 155, 156, 157, 158, 159, 160, 161, 162, 163, 164, 165] (by decide +kernel) (by decide +kernel)
set_option maxRecDepth 20000 in
theorem gX12_weekOrder_X12_personTo : GoodIn wsX12_weekOrder (wsV RX12 260 RX12 yX12_personTo wsX12_personTo) := goodIn_app (goodIn_of _ (by decide +kernel)) ggX12_weekOrder_X12_personTo
set_option maxRecDepth 20000 in
theorem ggX12_weekOrder_X12_number : GoodIn wsX12_weekOrder wsX12_number := goodIn_r _ [111, 15, 96, 6, 77, 78, 79, 4, 80, 81, 17, 82, 92, 93, 94, 95, 16, 97, 98, 99, 100, 101, 71, 72, 73, 74, 75, 76, 102, 103, 104, 105, 106, 107, 124, 125, 126, 127, 128, 129, 130, 131, 132, 133, 134, 135, 136, 137, 138, 139, 140, 141, 142, 143, 144, 145, 146, 147, 148, 149, 150, 151, 152, 153, 154, 155, 156, 157, 158, 159, 160, 161, 162, 163, 164, 165] (by decide +kernel) (by decide +kernel)
set_option maxRecDepth 20000 in
theorem gX12_weekOrder_X12_number : GoodIn wsX12_weekOrder (wsV RX12 212 RX12 yX12_number wsX12_number) := goodIn_app (goodIn_of _ (by decide +kernel)) ggX12_weekOrder_X12_number
set_option maxRecDepth 20000 in
theorem ggX12_weekOrder_X12_smellTo : GoodIn wsX12_weekOrder wsX12_smellTo := goodIn_r _ [115, 6, 7, 8, 9, 4, 10, 11, 12, 13, 14, 15, 16, 17, 18, 19, 20, 21, 22, 23, 24, 25, 26, 27, 28, 29, 30, 31, 32, 33, 34, 35, 36, 37, 38, 39, 40, 41, 42, 43, 44, 45, 46, 47, 48, 49, 50, 51, 52, 53, 54, 55, 56, 57, 58, 59, 60, 61, 62, 63, 64, 65, 66, 67, 68, 69, 70, 71, 72, 73, 74, 75, 76, 77, 78, 79, 80, 81, 82, 83, 84, 85, 86, 87, 88, 89, 90, 91, 92, 93, 94, 95, 96, 97, 98, 99, 100, 101, 102, 103, 104, 105, 106, 107, 124, 125, 126, 127, 128, 129, 130, 131, 132, 133, 134, 135, 136, 137, 138, 139, 140, 141, 142, 143, 144, 145, 146, 147, 148, 149, 150, 151, 152, 153, 154, 155, 156, 157, 158, 159, 160, 161, 162, 163, 164, 165] (by decide +kernel) (by decide +kernel)
set_option maxRecDepth 20000 in
theorem gX12_weekOrder_X12_smellTo : GoodIn wsX12_weekOrder (wsV RX12 263 RX12 yX12_smellTo wsX12_smellTo) := goodIn_app (goodIn_of _ (by decide +kernel)) ggX12_weekOrder_X12_smellTo
set_option maxRecDepth 20000 in
theorem ggX12_weekOrder_X12_test : GoodIn wsX12_weekOrder wsX12_test := goodIn_r _ [119, 6, 96, 18, 19, 20, 4, 21, 15, 16, 17, 22, 23, 24, 25, 26, 27, 28, 29, 30, 31, 32, 33, 34, 35, 36, 37, 38, 39, 40, 41, 42, 43, 44, 45, 46, 47, 48, 49, 50, 51, 52, 53, 54, 55, 56, 57, 58, 59, 60, 61, 62, 63, 64, 65, 66, 67, 68, 69, 70, 71, 72, 73, 74, 75, 76, 77, 78, 79, 80, 81, 82, 92, 93, 94, 95, 97, 98, 99, 100, 101, 102, 103, 104, 105, 106, 107, 1, 2, 3, 5, 7, 8, 9, 10, 11, 12, 13, 14, 83, 84, 85, 86, 87, 88, 89, 90, 91, 120, 121, 122, 123, 108, 109, 110, 111, 124, 125, 126, 127, 128, 129, 130, 131, 132, 133, 134, 135, 136, 137, 138, 139, 140, 141, 142, 143, 144, 145, 146, 147, 148, 149, 150, 151, 152, 153, 154, 155, 156, 157, 158, 159, 160, 161, 162, 163, 164, 165] (by decide +kernel) (by decide +kernel)
set_option maxRecDepth 20000 in
theorem gX12_weekOrder_X12_test : GoodIn wsX12_weekOrder (wsV RX12 266 RX12 yX12_test wsX12_test) := goodIn_app (goodIn_of _ (by decide +kernel)) ggX12_weekOrder_X12_test
theorem dX12_weekOrder_0 : decode cX12_weekOrder 0 = .ok (.iload_n 1, 1) := by decide +kernel
theorem dX12_weekOrder_1 : decode cX12_weekOrder 1 = .ok (.tableswitch 131 15 23 #[51, 131, 59, 88, 88, 131, 131, 125, 114], 51) := by decide +kernel
theorem dX12_weekOrder_52 : decode cX12_weekOrder 52 = .ok (.aload_n 0, 1) := by decide +kernel
theorem dX12_weekOrder_53 : decode cX12_weekOrder 53 = .ok (.iload_n 2, 1) := by decide +kernel
theorem dX12_weekOrder_54 : decode cX12_weekOrder 54 = .ok (.iconst 1, 1) := by decide +kernel
theorem dX12_weekOrder_55 : decode cX12_weekOrder 55 = .ok (.iadd, 1) := by decide +kernel
theorem dX12_weekOrder_56 : decode cX12_weekOrder 56 = .ok (.invokevirtual 260, 3) := by decide +kernel
theorem dX12_weekOrder_59 : decode cX12_weekOrder 59 = .ok (.ireturn, 1) := by decide +kernel
theorem dX12_weekOrder_60 : decode cX12_weekOrder 60 = .ok (.aload_n 0, 1) := by decide +kernel
theorem dX12_weekOrder_61 : decode cX12_weekOrder 61 = .ok (.iload_n 2, 1) := by decide +kernel
theorem dX12_weekOrder_62 : decode cX12_weekOrder 62 = .ok (.iconst 1, 1) := by decide +kernel
theorem dX12_weekOrder_63 : decode cX12_weekOrder 63 = .ok (.iadd, 1) := by decide +kernel
theorem dX12_weekOrder_64 : decode cX12_weekOrder 64 = .ok (.invokevirtual 260, 3) := by decide +kernel
theorem dX12_weekOrder_67 : decode cX12_weekOrder 67 = .ok (.ifCond .eq 20, 3) := by decide +kernel
theorem dX12_weekOrder_70 : decode cX12_weekOrder 70 = .ok (.aload_n 0, 1) := by decide +kernel
theorem dX12_weekOrder_71 : decode cX12_weekOrder 71 = .ok (.iload_n 2, 1) := by decide +kernel
theorem dX12_weekOrder_72 : decode cX12_weekOrder 72 = .ok (.iconst 2, 1) := by decide +kernel
theorem dX12_weekOrder_73 : decode cX12_weekOrder 73 = .ok (.iadd, 1) := by decide +kernel
theorem dX12_weekOrder_74 : decode cX12_weekOrder 74 = .ok (.iconst 1, 1) := by decide +kernel
theorem dX12_weekOrder_75 : decode cX12_weekOrder 75 = .ok (.bipush 9, 2) := by decide +kernel
theorem dX12_weekOrder_77 : decode cX12_weekOrder 77 = .ok (.invokevirtual 212, 3) := by decide +kernel
theorem dX12_weekOrder_80 : decode cX12_weekOrder 80 = .ok (.ifCond .eq 7, 3) := by decide +kernel
theorem dX12_weekOrder_83 : decode cX12_weekOrder 83 = .ok (.iconst 1, 1) := by decide +kernel
theorem dX12_weekOrder_84 : decode cX12_weekOrder 84 = .ok (.goto 4, 3) := by decide +kernel
theorem dX12_weekOrder_87 : decode cX12_weekOrder 87 = .ok (.iconst 0, 1) := by decide +kernel
theorem dX12_weekOrder_88 : decode cX12_weekOrder 88 = .ok (.ireturn, 1) := by decide +kernel
theorem dX12_weekOrder_89 : decode cX12_weekOrder 89 = .ok (.aload_n 0, 1) := by decide +kernel
theorem dX12_weekOrder_90 : decode cX12_weekOrder 90 = .ok (.iload_n 2, 1) := by decide +kernel
theorem dX12_weekOrder_91 : decode cX12_weekOrder 91 = .ok (.iconst 1, 1) := by decide +kernel
theorem dX12_weekOrder_92 : decode cX12_weekOrder 92 = .ok (.iadd, 1) := by decide +kernel
theorem dX12_weekOrder_93 : decode cX12_weekOrder 93 = .ok (.invokevirtual 260, 3) := by decide +kernel
theorem dX12_weekOrder_96 : decode cX12_weekOrder 96 = .ok (.ifCond .eq 17, 3) := by decide +kernel
theorem dX12_weekOrder_99 : decode cX12_weekOrder 99 = .ok (.aload_n 0, 1) := by decide +kernel
theorem dX12_weekOrder_100 : decode cX12_weekOrder 100 = .ok (.iload_n 2, 1) := by decide +kernel
theorem dX12_weekOrder_101 : decode cX12_weekOrder 101 = .ok (.iconst 2, 1) := by decide +kernel
theorem dX12_weekOrder_102 : decode cX12_weekOrder 102 = .ok (.iadd, 1) := by decide +kernel
theorem dX12_weekOrder_103 : decode cX12_weekOrder 103 = .ok (.invokevirtual 263, 3) := by decide +kernel
theorem dX12_weekOrder_106 : decode cX12_weekOrder 106 = .ok (.ifCond .eq 7, 3) := by decide +kernel
theorem dX12_weekOrder_109 : decode cX12_weekOrder 109 = .ok (.iconst 1, 1) := by decide +kernel
theorem dX12_weekOrder_110 : decode cX12_weekOrder 110 = .ok (.goto 4, 3) := by decide +kernel
theorem dX12_weekOrder_113 : decode cX12_weekOrder 113 = .ok (.iconst 0, 1) := by decide +kernel
theorem dX12_weekOrder_114 : decode cX12_weekOrder 114 = .ok (.ireturn, 1) := by decide +kernel
theorem dX12_weekOrder_115 : decode cX12_weekOrder 115 = .ok (.aload_n 0, 1) := by decide +kernel
theorem dX12_weekOrder_116 : decode cX12_weekOrder 116 = .ok (.iload_n 2, 1) := by decide +kernel
theorem dX12_weekOrder_117 : decode cX12_weekOrder 117 = .ok (.iconst 1, 1) := by decide +kernel
theorem dX12_weekOrder_118 : decode cX12_weekOrder 118 = .ok (.iadd, 1) := by decide +kernel
theorem dX12_weekOrder_119 : decode cX12_weekOrder 119 = .ok (.iconst 1, 1) := by decide +kernel
theorem dX12_weekOrder_120 : decode cX12_weekOrder 120 = .ok (.bipush 99, 2) := by decide +kernel
theorem dX12_weekOrder_122 : decode cX12_weekOrder 122 = .ok (.invokevirtual 212, 3) := by decide +kernel
theorem dX12_weekOrder_125 : decode cX12_weekOrder 125 = .ok (.ireturn, 1) := by decide +kernel
theorem dX12_weekOrder_126 : decode cX12_weekOrder 126 = .ok (.aload_n 0, 1) := by decide +kernel
theorem dX12_weekOrder_127 : decode cX12_weekOrder 127 = .ok (.iload_n 2, 1) := by decide +kernel
theorem dX12_weekOrder_128 : decode cX12_weekOrder 128 = .ok (.invokevirtual 266, 3) := by decide +kernel
theorem dX12_weekOrder_131 : decode cX12_weekOrder 131 = .ok (.ireturn, 1) := by decide +kernel
theorem dX12_weekOrder_132 : decode cX12_weekOrder 132 = .ok (.iconst 1, 1) := by decide +kernel
theorem dX12_weekOrder_133 : decode cX12_weekOrder 133 = .ok (.ireturn, 1) := by decide +kernel
set_option maxRecDepth 20000 in
theorem ggX12_weekStep_X12_inWords : GoodIn wsX12_weekStep wsX12_inWords := goodIn_r _ [9, 10, 11, 12, 13, 14, 15, 16, 17, 18, 19, 20, 21, 22, 23, 24, 25, 26, 27, 28, 29, 30, 31, 32, 33, 34, 35, 36, 37, 38, 39, 40, 41, 42, 43, 44, 45, 46, 47, 48, 49, 50, 51, 52, 53, 54, 55, 56, 57, 58, 59, 60, 61, 62, 63, 64, 8, 65, 66, 67, 135, 136, 137, 138, 139, 140, 141, 142, 143, 144, 145, 146, 147, 148, 149, 150, 151, 152, 153, 154, 155, 156, 157, 158, 159, 160, 161, 162, 163, 164, 165, 166, 167, 168, 169, 170, 171, 172, 173, 174, 175, 176] (by decide +kernel) (by decide +kernel)
set_option maxRecDepth 20000 in
theorem gX12_weekStep_X12_inWords : GoodIn wsX12_weekStep (wsV RX12 176 RX12 yX12_inWords wsX12_inWords) := goodIn_app (goodIn_of _ (by decide +kernel)) ggX12_weekStep_X12_inWords
set_option maxRecDepth 20000 in
theorem ggX12_weekStep_X12_fails : GoodIn wsX12_weekStep wsX12_fails := goodIn_r _ [71, 72, 10, 12, 73, 135, 136, 137, 138, 139, 140, 141, 142, 143, 144, 145, 146, 147, 148, 149, 150, 151, 152, 153, 154, 155, 156, 157, 158, 159, 160, 161, 162, 163, 164, 165, 166, 167, 168, 169, 170, 171, 172, 173, 174, 175, 176] (by decide +kernel) (by decide +kernel)
set_option maxRecDepth 20000 in
theorem gX12_weekStep_X12_fails : GoodIn wsX12_weekStep (wsV RX12 173 RX12 yX12_fails wsX12_fails) := goodIn_app (goodIn_of _ (by decide +kernel)) ggX12_weekStep_X12_fails
set_option maxRecDepth 20000 in
theorem ggX12_weekStep_X12_ahead : GoodIn wsX12_weekStep wsX12_ahead := goodIn_r _ [77, 11, 12, 78, 10, 79, 80, 81, 82, 83, 62, 63, 64, 8, 65, 66, 67, 84, 85, 86, 87, 88, 89, 135, 136, 137, 138, 139, 140, 141, 142, 143, 144, 145, 146, 147, 148, 149, 150, 151, 152, 153, 154, 155, 156, 157, 158, 159, 160, 161, 162, 163, 164, 165, 166, 167, 168, 169, 170, 171, 172, 173, 174, 175, 176] (by decide +kernel) (by decide +kernel)
set_option maxRecDepth 20000 in
theorem gX12_weekStep_X12_ahead : GoodIn wsX12_weekStep (wsV RX12 167 RX12 yX12_ahead wsX12_ahead) := goodIn_app (goodIn_of _ (by decide +kernel)) ggX12_weekStep_X12_ahead
set_option maxRecDepth 20000 in
theorem ggX12_weekStep_X12_weekOrder : GoodIn wsX12_weekStep wsX12_weekOrder := goodIn_r _ [93, 94, 95, 96, 8, 97, 1, 98, 99, 100, 101, 102, 103, 104, 105, 10, 11, 12, 5, 6, 7, 9, 13, 14, 15, 16, 17, 18, 19, 20, 21, 22, 23, 24, 25, 26, 27, 28, 29, 30, 31, 32, 33, 34, 35, 36, 37, 38, 39, 40, 41, 42, 43, 44, 45, 46, 47, 48, 49, 50, 51, 52, 53, 54, 55, 56, 57, 58, 59, 60, 61, 62, 63, 64, 65, 66, 67, 68, 69, 70, 71, 72, 73, 106, 107, 108, 109, 110, 111, 112, 113, 114, 74, 75, 76, 77, 78, 79, 80, 81, 82, 83, 84, 85, 86, 87, 88, 89, 115, 116, 117, 118, 119, 120, 121, 122, 123, 124, 125, 126, 127, 128, 129, 130, 135, 136, 137, 138, 139, 140, 141, 142, 143, 144, 145, 146, 147, 148, 149, 150, 151, 152, 153, 154, 155, 156, 157, 158, 159, 160, 161, 162, 163, 164, 165, 166, 167, 168, 169, 170, 171, 172, 173, 174, 175, 176] (by decide +kernel) (by decide +kernel)
set_option maxRecDepth 20000 in
theorem gX12_weekStep_X12_weekOrder : GoodIn wsX12_weekStep (wsV RX12 275 RX12 yX12_weekOrder wsX12_weekOrder) := goodIn_app (goodIn_of _ (by decide +kernel)) ggX12_weekStep_X12_weekOrder
set_option maxRecDepth 20000 in
theorem ggX12_weekStep_X12_wantSign : GoodIn wsX12_weekStep wsX12_wantSign := goodIn_r _ [134, 127, 128, 129, 8, 130, 10, 78, 68, 69, 70, 71, 72, 12, 73, 74, 75, 76, 77, 11, 79, 80, 81, 82, 83, 62, 63, 64, 65, 66, 67, 84, 85, 86, 87, 88, 89, 135, 136, 137, 138, 139, 140, 141, 142, 143, 144, 145, 146, 147, 148, 149, 150, 151, 152, 153, 154, 155, 156, 157, 158, 159, 160, 161, 162, 163, 164, 165, 166, 167, 168, 169, 170, 171, 172, 173, 174, 175, 176] (by decide +kernel) (by decide +kernel)
set_option maxRecDepth 20000 in
theorem gX12_weekStep_X12_wantSign : GoodIn wsX12_weekStep (wsV RX12 248 RX12 yX12_wantSign wsX12_wantSign) := goodIn_app (goodIn_of _ (by decide +kernel)) ggX12_weekStep_X12_wantSign
theorem dX12_weekStep_0 : decode cX12_weekStep 0 = .ok (.aload_n 0, 1) := by decide +kernel
theorem dX12_weekStep_1 : decode cX12_weekStep 1 = .ok (.ldc 184, 2) := by decide +kernel
theorem dX12_weekStep_3 : decode cX12_weekStep 3 = .ok (.invokevirtual 176, 3) := by decide +kernel
theorem dX12_weekStep_6 : decode cX12_weekStep 6 = .ok (.istore_n 1, 1) := by decide +kernel
theorem dX12_weekStep_7 : decode cX12_weekStep 7 = .ok (.aload_n 0, 1) := by decide +kernel
theorem dX12_weekStep_8 : decode cX12_weekStep 8 = .ok (.getfield 7, 3) := by decide +kernel
theorem dX12_weekStep_11 : decode cX12_weekStep 11 = .ok (.sipush 2016, 3) := by decide +kernel
theorem dX12_weekStep_14 : decode cX12_weekStep 14 = .ok (.iaload, 1) := by decide +kernel
theorem dX12_weekStep_15 : decode cX12_weekStep 15 = .ok (.istore_n 2, 1) := by decide +kernel
theorem dX12_weekStep_16 : decode cX12_weekStep 16 = .ok (.sipush 2142, 3) := by decide +kernel
theorem dX12_weekStep_19 : decode cX12_weekStep 19 = .ok (.bipush 6, 2) := by decide +kernel
theorem dX12_weekStep_21 : decode cX12_weekStep 21 = .ok (.iload_n 2, 1) := by decide +kernel
theorem dX12_weekStep_22 : decode cX12_weekStep 22 = .ok (.imul, 1) := by decide +kernel
theorem dX12_weekStep_23 : decode cX12_weekStep 23 = .ok (.iadd, 1) := by decide +kernel
theorem dX12_weekStep_24 : decode cX12_weekStep 24 = .ok (.istore_n 3, 1) := by decide +kernel
theorem dX12_weekStep_25 : decode cX12_weekStep 25 = .ok (.iload_n 1, 1) := by decide +kernel
theorem dX12_weekStep_26 : decode cX12_weekStep 26 = .ok (.bipush 22, 2) := by decide +kernel
theorem dX12_weekStep_28 : decode cX12_weekStep 28 = .ok (.if_icmp .eq 9, 3) := by decide +kernel
theorem dX12_weekStep_31 : decode cX12_weekStep 31 = .ok (.iload_n 1, 1) := by decide +kernel
theorem dX12_weekStep_32 : decode cX12_weekStep 32 = .ok (.bipush 23, 2) := by decide +kernel
theorem dX12_weekStep_34 : decode cX12_weekStep 34 = .ok (.if_icmp .ne 7, 3) := by decide +kernel
theorem dX12_weekStep_37 : decode cX12_weekStep 37 = .ok (.iconst 1, 1) := by decide +kernel
theorem dX12_weekStep_38 : decode cX12_weekStep 38 = .ok (.goto 4, 3) := by decide +kernel
theorem dX12_weekStep_41 : decode cX12_weekStep 41 = .ok (.iconst 0, 1) := by decide +kernel
theorem dX12_weekStep_42 : decode cX12_weekStep 42 = .ok (.istore 4, 2) := by decide +kernel
theorem dX12_weekStep_44 : decode cX12_weekStep 44 = .ok (.iload_n 1, 1) := by decide +kernel
theorem dX12_weekStep_45 : decode cX12_weekStep 45 = .ok (.bipush 15, 2) := by decide +kernel
theorem dX12_weekStep_47 : decode cX12_weekStep 47 = .ok (.if_icmp .lt 22, 3) := by decide +kernel
theorem dX12_weekStep_50 : decode cX12_weekStep 50 = .ok (.iload_n 1, 1) := by decide +kernel
theorem dX12_weekStep_51 : decode cX12_weekStep 51 = .ok (.bipush 25, 2) := by decide +kernel
theorem dX12_weekStep_53 : decode cX12_weekStep 53 = .ok (.if_icmp .gt 16, 3) := by decide +kernel
theorem dX12_weekStep_56 : decode cX12_weekStep 56 = .ok (.iload_n 1, 1) := by decide +kernel
theorem dX12_weekStep_57 : decode cX12_weekStep 57 = .ok (.bipush 24, 2) := by decide +kernel
theorem dX12_weekStep_59 : decode cX12_weekStep 59 = .ok (.if_icmp .ne 16, 3) := by decide +kernel
theorem dX12_weekStep_62 : decode cX12_weekStep 62 = .ok (.aload_n 0, 1) := by decide +kernel
theorem dX12_weekStep_63 : decode cX12_weekStep 63 = .ok (.getfield 269, 3) := by decide +kernel
theorem dX12_weekStep_66 : decode cX12_weekStep 66 = .ok (.ifCond .ne 9, 3) := by decide +kernel
theorem dX12_weekStep_69 : decode cX12_weekStep 69 = .ok (.aload_n 0, 1) := by decide +kernel
theorem dX12_weekStep_70 : decode cX12_weekStep 70 = .ok (.iconst 2, 1) := by decide +kernel
theorem dX12_weekStep_71 : decode cX12_weekStep 71 = .ok (.invokevirtual 173, 3) := by decide +kernel
theorem dX12_weekStep_74 : decode cX12_weekStep 74 = .ok (.ireturn, 1) := by decide +kernel
theorem dX12_weekStep_75 : decode cX12_weekStep 75 = .ok (.iload_n 1, 1) := by decide +kernel
theorem dX12_weekStep_76 : decode cX12_weekStep 76 = .ok (.bipush 24, 2) := by decide +kernel
theorem dX12_weekStep_78 : decode cX12_weekStep 78 = .ok (.if_icmp .eq 19, 3) := by decide +kernel
theorem dX12_weekStep_81 : decode cX12_weekStep 81 = .ok (.aload_n 0, 1) := by decide +kernel
theorem dX12_weekStep_82 : decode cX12_weekStep 82 = .ok (.getfield 272, 3) := by decide +kernel
theorem dX12_weekStep_85 : decode cX12_weekStep 85 = .ok (.bipush 30, 2) := by decide +kernel
theorem dX12_weekStep_87 : decode cX12_weekStep 87 = .ok (.if_icmp .ne 10, 3) := by decide +kernel
theorem dX12_weekStep_90 : decode cX12_weekStep 90 = .ok (.aload_n 0, 1) := by decide +kernel
theorem dX12_weekStep_91 : decode cX12_weekStep 91 = .ok (.bipush 6, 2) := by decide +kernel
theorem dX12_weekStep_93 : decode cX12_weekStep 93 = .ok (.invokevirtual 173, 3) := by decide +kernel
theorem dX12_weekStep_96 : decode cX12_weekStep 96 = .ok (.ireturn, 1) := by decide +kernel
theorem dX12_weekStep_97 : decode cX12_weekStep 97 = .ok (.iload 4, 2) := by decide +kernel
theorem dX12_weekStep_99 : decode cX12_weekStep 99 = .ok (.ifCond .eq 18, 3) := by decide +kernel
theorem dX12_weekStep_102 : decode cX12_weekStep 102 = .ok (.aload_n 0, 1) := by decide +kernel
theorem dX12_weekStep_103 : decode cX12_weekStep 103 = .ok (.getfield 269, 3) := by decide +kernel
theorem dX12_weekStep_106 : decode cX12_weekStep 106 = .ok (.iconst 3, 1) := by decide +kernel
theorem dX12_weekStep_107 : decode cX12_weekStep 107 = .ok (.if_icmp .ne 10, 3) := by decide +kernel
theorem dX12_weekStep_110 : decode cX12_weekStep 110 = .ok (.aload_n 0, 1) := by decide +kernel
theorem dX12_weekStep_111 : decode cX12_weekStep 111 = .ok (.bipush 7, 2) := by decide +kernel
theorem dX12_weekStep_113 : decode cX12_weekStep 113 = .ok (.invokevirtual 173, 3) := by decide +kernel
theorem dX12_weekStep_116 : decode cX12_weekStep 116 = .ok (.ireturn, 1) := by decide +kernel
theorem dX12_weekStep_117 : decode cX12_weekStep 117 = .ok (.aload_n 0, 1) := by decide +kernel
theorem dX12_weekStep_118 : decode cX12_weekStep 118 = .ok (.dup, 1) := by decide +kernel
theorem dX12_weekStep_119 : decode cX12_weekStep 119 = .ok (.getfield 272, 3) := by decide +kernel
theorem dX12_weekStep_122 : decode cX12_weekStep 122 = .ok (.iload_n 1, 1) := by decide +kernel
theorem dX12_weekStep_123 : decode cX12_weekStep 123 = .ok (.bipush 24, 2) := by decide +kernel
theorem dX12_weekStep_125 : decode cX12_weekStep 125 = .ok (.if_icmp .ne 7, 3) := by decide +kernel
theorem dX12_weekStep_128 : decode cX12_weekStep 128 = .ok (.iconst 0, 1) := by decide +kernel
theorem dX12_weekStep_129 : decode cX12_weekStep 129 = .ok (.goto 4, 3) := by decide +kernel
theorem dX12_weekStep_132 : decode cX12_weekStep 132 = .ok (.iconst 1, 1) := by decide +kernel
theorem dX12_weekStep_133 : decode cX12_weekStep 133 = .ok (.iadd, 1) := by decide +kernel
theorem dX12_weekStep_134 : decode cX12_weekStep 134 = .ok (.putfield 272, 3) := by decide +kernel
theorem dX12_weekStep_137 : decode cX12_weekStep 137 = .ok (.aload_n 0, 1) := by decide +kernel
theorem dX12_weekStep_138 : decode cX12_weekStep 138 = .ok (.getfield 7, 3) := by decide +kernel
theorem dX12_weekStep_141 : decode cX12_weekStep 141 = .ok (.iload_n 3, 1) := by decide +kernel
theorem dX12_weekStep_142 : decode cX12_weekStep 142 = .ok (.iload_n 1, 1) := by decide +kernel
theorem dX12_weekStep_143 : decode cX12_weekStep 143 = .ok (.iastore, 1) := by decide +kernel
theorem dX12_weekStep_144 : decode cX12_weekStep 144 = .ok (.iconst 1, 1) := by decide +kernel
theorem dX12_weekStep_145 : decode cX12_weekStep 145 = .ok (.istore 5, 2) := by decide +kernel
theorem dX12_weekStep_147 : decode cX12_weekStep 147 = .ok (.iload 5, 2) := by decide +kernel
theorem dX12_weekStep_149 : decode cX12_weekStep 149 = .ok (.bipush 6, 2) := by decide +kernel
theorem dX12_weekStep_151 : decode cX12_weekStep 151 = .ok (.if_icmp .ge 19, 3) := by decide +kernel
theorem dX12_weekStep_154 : decode cX12_weekStep 154 = .ok (.aload_n 0, 1) := by decide +kernel
theorem dX12_weekStep_155 : decode cX12_weekStep 155 = .ok (.getfield 7, 3) := by decide +kernel
theorem dX12_weekStep_158 : decode cX12_weekStep 158 = .ok (.iload_n 3, 1) := by decide +kernel
theorem dX12_weekStep_159 : decode cX12_weekStep 159 = .ok (.iload 5, 2) := by decide +kernel
theorem dX12_weekStep_161 : decode cX12_weekStep 161 = .ok (.iadd, 1) := by decide +kernel
theorem dX12_weekStep_162 : decode cX12_weekStep 162 = .ok (.iconst 0, 1) := by decide +kernel
theorem dX12_weekStep_163 : decode cX12_weekStep 163 = .ok (.iastore, 1) := by decide +kernel
theorem dX12_weekStep_164 : decode cX12_weekStep 164 = .ok (.iinc 5 1, 3) := by decide +kernel
theorem dX12_weekStep_167 : decode cX12_weekStep 167 = .ok (.goto (-20), 3) := by decide +kernel
theorem dX12_weekStep_170 : decode cX12_weekStep 170 = .ok (.aload_n 0, 1) := by decide +kernel
theorem dX12_weekStep_171 : decode cX12_weekStep 171 = .ok (.getfield 7, 3) := by decide +kernel
theorem dX12_weekStep_174 : decode cX12_weekStep 174 = .ok (.sipush 2016, 3) := by decide +kernel
theorem dX12_weekStep_177 : decode cX12_weekStep 177 = .ok (.dup2, 1) := by decide +kernel
theorem dX12_weekStep_178 : decode cX12_weekStep 178 = .ok (.iaload, 1) := by decide +kernel
theorem dX12_weekStep_179 : decode cX12_weekStep 179 = .ok (.iconst 1, 1) := by decide +kernel
theorem dX12_weekStep_180 : decode cX12_weekStep 180 = .ok (.iadd, 1) := by decide +kernel
theorem dX12_weekStep_181 : decode cX12_weekStep 181 = .ok (.iastore, 1) := by decide +kernel
theorem dX12_weekStep_182 : decode cX12_weekStep 182 = .ok (.aload_n 0, 1) := by decide +kernel
theorem dX12_weekStep_183 : decode cX12_weekStep 183 = .ok (.invokevirtual 167, 3) := by decide +kernel
theorem dX12_weekStep_186 : decode cX12_weekStep 186 = .ok (.aload_n 0, 1) := by decide +kernel
theorem dX12_weekStep_187 : decode cX12_weekStep 187 = .ok (.iload_n 1, 1) := by decide +kernel
theorem dX12_weekStep_188 : decode cX12_weekStep 188 = .ok (.iload_n 3, 1) := by decide +kernel
theorem dX12_weekStep_189 : decode cX12_weekStep 189 = .ok (.invokevirtual 275, 3) := by decide +kernel
theorem dX12_weekStep_192 : decode cX12_weekStep 192 = .ok (.ifCond .ne 5, 3) := by decide +kernel
theorem dX12_weekStep_195 : decode cX12_weekStep 195 = .ok (.iconst 0, 1) := by decide +kernel
theorem dX12_weekStep_196 : decode cX12_weekStep 196 = .ok (.ireturn, 1) := by decide +kernel
theorem dX12_weekStep_197 : decode cX12_weekStep 197 = .ok (.iload 4, 2) := by decide +kernel
theorem dX12_weekStep_199 : decode cX12_weekStep 199 = .ok (.ifCond .eq 23, 3) := by decide +kernel
theorem dX12_weekStep_202 : decode cX12_weekStep 202 = .ok (.aload_n 0, 1) := by decide +kernel
theorem dX12_weekStep_203 : decode cX12_weekStep 203 = .ok (.getfield 44, 3) := by decide +kernel
theorem dX12_weekStep_206 : decode cX12_weekStep 206 = .ok (.aload_n 0, 1) := by decide +kernel
theorem dX12_weekStep_207 : decode cX12_weekStep 207 = .ok (.getfield 269, 3) := by decide +kernel
theorem dX12_weekStep_210 : decode cX12_weekStep 210 = .ok (.iload_n 2, 1) := by decide +kernel
theorem dX12_weekStep_211 : decode cX12_weekStep 211 = .ok (.iastore, 1) := by decide +kernel
theorem dX12_weekStep_212 : decode cX12_weekStep 212 = .ok (.aload_n 0, 1) := by decide +kernel
theorem dX12_weekStep_213 : decode cX12_weekStep 213 = .ok (.dup, 1) := by decide +kernel
theorem dX12_weekStep_214 : decode cX12_weekStep 214 = .ok (.getfield 269, 3) := by decide +kernel
theorem dX12_weekStep_217 : decode cX12_weekStep 217 = .ok (.iconst 1, 1) := by decide +kernel
theorem dX12_weekStep_218 : decode cX12_weekStep 218 = .ok (.iadd, 1) := by decide +kernel
theorem dX12_weekStep_219 : decode cX12_weekStep 219 = .ok (.putfield 269, 3) := by decide +kernel
theorem dX12_weekStep_222 : decode cX12_weekStep 222 = .ok (.iload_n 1, 1) := by decide +kernel
theorem dX12_weekStep_223 : decode cX12_weekStep 223 = .ok (.bipush 24, 2) := by decide +kernel
theorem dX12_weekStep_225 : decode cX12_weekStep 225 = .ok (.if_icmp .ne 54, 3) := by decide +kernel
theorem dX12_weekStep_228 : decode cX12_weekStep 228 = .ok (.aload_n 0, 1) := by decide +kernel
theorem dX12_weekStep_229 : decode cX12_weekStep 229 = .ok (.dup, 1) := by decide +kernel
theorem dX12_weekStep_230 : decode cX12_weekStep 230 = .ok (.getfield 269, 3) := by decide +kernel
theorem dX12_weekStep_233 : decode cX12_weekStep 233 = .ok (.iconst 1, 1) := by decide +kernel
theorem dX12_weekStep_234 : decode cX12_weekStep 234 = .ok (.isub, 1) := by decide +kernel
theorem dX12_weekStep_235 : decode cX12_weekStep 235 = .ok (.putfield 269, 3) := by decide +kernel
theorem dX12_weekStep_238 : decode cX12_weekStep 238 = .ok (.aload_n 0, 1) := by decide +kernel
theorem dX12_weekStep_239 : decode cX12_weekStep 239 = .ok (.getfield 7, 3) := by decide +kernel
theorem dX12_weekStep_242 : decode cX12_weekStep 242 = .ok (.iload_n 3, 1) := by decide +kernel
theorem dX12_weekStep_243 : decode cX12_weekStep 243 = .ok (.iconst 4, 1) := by decide +kernel
theorem dX12_weekStep_244 : decode cX12_weekStep 244 = .ok (.iadd, 1) := by decide +kernel
theorem dX12_weekStep_245 : decode cX12_weekStep 245 = .ok (.aload_n 0, 1) := by decide +kernel
theorem dX12_weekStep_246 : decode cX12_weekStep 246 = .ok (.getfield 44, 3) := by decide +kernel
theorem dX12_weekStep_249 : decode cX12_weekStep 249 = .ok (.aload_n 0, 1) := by decide +kernel
theorem dX12_weekStep_250 : decode cX12_weekStep 250 = .ok (.getfield 269, 3) := by decide +kernel
theorem dX12_weekStep_253 : decode cX12_weekStep 253 = .ok (.iaload, 1) := by decide +kernel
theorem dX12_weekStep_254 : decode cX12_weekStep 254 = .ok (.iastore, 1) := by decide +kernel
theorem dX12_weekStep_255 : decode cX12_weekStep 255 = .ok (.aload_n 0, 1) := by decide +kernel
theorem dX12_weekStep_256 : decode cX12_weekStep 256 = .ok (.getfield 7, 3) := by decide +kernel
theorem dX12_weekStep_259 : decode cX12_weekStep 259 = .ok (.sipush 2142, 3) := by decide +kernel
theorem dX12_weekStep_262 : decode cX12_weekStep 262 = .ok (.bipush 6, 2) := by decide +kernel
theorem dX12_weekStep_264 : decode cX12_weekStep 264 = .ok (.aload_n 0, 1) := by decide +kernel
theorem dX12_weekStep_265 : decode cX12_weekStep 265 = .ok (.getfield 44, 3) := by decide +kernel
theorem dX12_weekStep_268 : decode cX12_weekStep 268 = .ok (.aload_n 0, 1) := by decide +kernel
theorem dX12_weekStep_269 : decode cX12_weekStep 269 = .ok (.getfield 269, 3) := by decide +kernel
theorem dX12_weekStep_272 : decode cX12_weekStep 272 = .ok (.iaload, 1) := by decide +kernel
theorem dX12_weekStep_273 : decode cX12_weekStep 273 = .ok (.imul, 1) := by decide +kernel
theorem dX12_weekStep_274 : decode cX12_weekStep 274 = .ok (.iadd, 1) := by decide +kernel
theorem dX12_weekStep_275 : decode cX12_weekStep 275 = .ok (.iconst 4, 1) := by decide +kernel
theorem dX12_weekStep_276 : decode cX12_weekStep 276 = .ok (.iadd, 1) := by decide +kernel
theorem dX12_weekStep_277 : decode cX12_weekStep 277 = .ok (.iload_n 2, 1) := by decide +kernel
theorem dX12_weekStep_278 : decode cX12_weekStep 278 = .ok (.iastore, 1) := by decide +kernel
theorem dX12_weekStep_279 : decode cX12_weekStep 279 = .ok (.aload_n 0, 1) := by decide +kernel
theorem dX12_weekStep_280 : decode cX12_weekStep 280 = .ok (.bipush 59, 2) := by decide +kernel
theorem dX12_weekStep_282 : decode cX12_weekStep 282 = .ok (.invokevirtual 248, 3) := by decide +kernel
theorem dX12_weekStep_285 : decode cX12_weekStep 285 = .ok (.ireturn, 1) := by decide +kernel
set_option maxRecDepth 20000 in
theorem ggX12_weeks_X12_begins : GoodIn wsX12_weeks wsX12_begins := goodIn_r _ [10, 11, 12, 13, 14, 5, 15, 16, 17, 18, 19, 20, 9, 21, 22, 23, 4, 24, 25, 26, 27, 28, 29, 30, 31, 32, 33, 34, 35, 36, 37, 38, 160, 161, 162, 163, 164, 165, 166, 167, 168, 169, 170, 171, 172, 173, 174, 175, 176, 177, 178, 179, 180, 181, 182, 183, 184, 185, 186, 187, 188, 189, 190, 191, 192, 193, 194, 195, 196, 197, 198, 199, 200, 201] (by decide +kernel) (by decide +kernel)
set_option maxRecDepth 20000 in
theorem gX12_weeks_X12_begins : GoodIn wsX12_weeks (wsV RX12 251 RX12 yX12_begins wsX12_begins) := goodIn_app (goodIn_of _ (by decide +kernel)) ggX12_weeks_X12_begins
set_option maxRecDepth 20000 in
theorem ggX12_weeks_X12_refuse : GoodIn wsX12_weeks wsX12_refuse := goodIn_r _ [42, 43, 160, 161, 162, 163, 164, 165, 166, 167, 168, 169, 170, 171, 172, 173, 174, 175, 176, 177, 178, 179, 180, 181, 182, 183, 184, 185, 186, 187, 188, 189, 190, 191, 192, 193, 194, 195, 196, 197, 198, 199, 200, 201] (by decide +kernel) (by decide +kernel)
set_option maxRecDepth 20000 in
theorem gX12_weeks_X12_refuse : GoodIn wsX12_weeks (wsV RX12 91 RX12 yX12_refuse wsX12_refuse) := goodIn_app (goodIn_of _ (by decide +kernel)) ggX12_weeks_X12_refuse
set_option maxRecDepth 20000 in
theorem ggX12_weeks_X12_weekStep : GoodIn wsX12_weeks wsX12_weekStep := goodIn_r _ [47, 1, 2, 3, 48, 49, 50, 51, 9, 52, 4, 16, 22, 53, 54, 55, 56, 57, 58, 59, 60, 61, 62, 63, 64, 65, 66, 67, 68, 69, 70, 71, 72, 73, 74, 75, 76, 77, 78, 79, 80, 81, 82, 83, 84, 85, 86, 87, 88, 89, 90, 91, 92, 93, 94, 95, 96, 97, 98, 99, 100, 101, 29, 30, 31, 32, 12, 13, 102, 103, 104, 105, 5, 15, 18, 19, 20, 21, 23, 24, 25, 26, 27, 28, 33, 34, 35, 36, 37, 38, 106, 107, 108, 109, 110, 111, 112, 113, 114, 115, 116, 117, 118, 119, 120, 121, 122, 123, 124, 125, 126, 127, 128, 129, 130, 131, 132, 133, 134, 135, 136, 137, 138, 139, 140, 141, 142, 143, 144, 145, 146, 147, 148, 149, 150, 160, 161, 162, 163, 164, 165, 166, 167, 168, 169, 170, 171, 172, 173, 174, 175, 176, 177, 178, 179, 180, 181, 182, 183, 184, 185, 186, 187, 188, 189, 190, 191, 192, 193, 194, 195, 196, 197, 198, 199, 200, 201] (by decide +kernel) (by decide +kernel)
set_option maxRecDepth 20000 in
theorem gX12_weeks_X12_weekStep : GoodIn wsX12_weeks (wsV RX12 278 RX12 yX12_weekStep wsX12_weekStep) := goodIn_app (goodIn_of _ (by decide +kernel)) ggX12_weeks_X12_weekStep
set_option maxRecDepth 20000 in
theorem ggX12_weeks_X12_fails : GoodIn wsX12_weeks wsX12_fails := goodIn_r _ [105, 5, 4, 22, 15, 160, 161, 162, 163, 164, 165, 166, 167, 168, 169, 170, 171, 172, 173, 174, 175, 176, 177, 178, 179, 180, 181, 182, 183, 184, 185, 186, 187, 188, 189, 190, 191, 192, 193, 194, 195, 196, 197, 198, 199, 200, 201] (by decide +kernel) (by decide +kernel)
set_option maxRecDepth 20000 in
theorem gX12_weeks_X12_fails : GoodIn wsX12_weeks (wsV RX12 173 RX12 yX12_fails wsX12_fails) := goodIn_app (goodIn_of _ (by decide +kernel)) ggX12_weeks_X12_fails
set_option maxRecDepth 20000 in
theorem ggX12_weeks_X12_taken : GoodIn wsX12_weeks wsX12_taken := goodIn_r _ [154, 5, 155, 39, 40, 41, 9, 42, 43, 156, 157, 158, 159, 160, 161, 162, 163, 164, 165, 166, 167, 168, 169, 170, 171, 172, 173, 174, 175, 176, 177, 178, 179, 180, 181, 182, 183, 184, 185, 186, 187, 188, 189, 190, 191, 192, 193, 194, 195, 196, 197, 198, 199, 200, 201] (by decide +kernel) (by decide +kernel)
set_option maxRecDepth 20000 in
theorem gX12_weeks_X12_taken : GoodIn wsX12_weeks (wsV RX12 257 RX12 yX12_taken wsX12_taken) := goodIn_app (goodIn_of _ (by decide +kernel)) ggX12_weeks_X12_taken
theorem dX12_weeks_0 : decode cX12_weeks 0 = .ok (.aload_n 0, 1) := by decide +kernel
theorem dX12_weeks_1 : decode cX12_weeks 1 = .ok (.iload_n 1, 1) := by decide +kernel
theorem dX12_weeks_2 : decode cX12_weeks 2 = .ok (.sipush 300, 3) := by decide +kernel
theorem dX12_weeks_5 : decode cX12_weeks 5 = .ok (.invokevirtual 251, 3) := by decide +kernel
theorem dX12_weeks_8 : decode cX12_weeks 8 = .ok (.ifCond .ne 9, 3) := by decide +kernel
theorem dX12_weeks_11 : decode cX12_weeks 11 = .ok (.aload_n 0, 1) := by decide +kernel
theorem dX12_weeks_12 : decode cX12_weeks 12 = .ok (.iconst 1, 1) := by decide +kernel
theorem dX12_weeks_13 : decode cX12_weeks 13 = .ok (.invokevirtual 91, 3) := by decide +kernel
theorem dX12_weeks_16 : decode cX12_weeks 16 = .ok (.ireturn, 1) := by decide +kernel
theorem dX12_weeks_17 : decode cX12_weeks 17 = .ok (.aload_n 0, 1) := by decide +kernel
theorem dX12_weeks_18 : decode cX12_weeks 18 = .ok (.getfield 7, 3) := by decide +kernel
theorem dX12_weeks_21 : decode cX12_weeks 21 = .ok (.sipush 2016, 3) := by decide +kernel
theorem dX12_weeks_24 : decode cX12_weeks 24 = .ok (.iconst 0, 1) := by decide +kernel
theorem dX12_weeks_25 : decode cX12_weeks 25 = .ok (.iastore, 1) := by decide +kernel
theorem dX12_weeks_26 : decode cX12_weeks 26 = .ok (.aload_n 0, 1) := by decide +kernel
theorem dX12_weeks_27 : decode cX12_weeks 27 = .ok (.iconst 0, 1) := by decide +kernel
theorem dX12_weeks_28 : decode cX12_weeks 28 = .ok (.putfield 269, 3) := by decide +kernel
theorem dX12_weeks_31 : decode cX12_weeks 31 = .ok (.aload_n 0, 1) := by decide +kernel
theorem dX12_weeks_32 : decode cX12_weeks 32 = .ok (.iconst 0, 1) := by decide +kernel
theorem dX12_weeks_33 : decode cX12_weeks 33 = .ok (.putfield 272, 3) := by decide +kernel
theorem dX12_weeks_36 : decode cX12_weeks 36 = .ok (.iconst 1, 1) := by decide +kernel
theorem dX12_weeks_37 : decode cX12_weeks 37 = .ok (.istore_n 2, 1) := by decide +kernel
theorem dX12_weeks_38 : decode cX12_weeks 38 = .ok (.iload_n 2, 1) := by decide +kernel
theorem dX12_weeks_39 : decode cX12_weeks 39 = .ok (.ifCond .eq 18, 3) := by decide +kernel
theorem dX12_weeks_42 : decode cX12_weeks 42 = .ok (.aload_n 0, 1) := by decide +kernel
theorem dX12_weeks_43 : decode cX12_weeks 43 = .ok (.getfield 136, 3) := by decide +kernel
theorem dX12_weeks_46 : decode cX12_weeks 46 = .ok (.ifCond .eq 11, 3) := by decide +kernel
theorem dX12_weeks_49 : decode cX12_weeks 49 = .ok (.aload_n 0, 1) := by decide +kernel
theorem dX12_weeks_50 : decode cX12_weeks 50 = .ok (.invokevirtual 278, 3) := by decide +kernel
theorem dX12_weeks_53 : decode cX12_weeks 53 = .ok (.istore_n 2, 1) := by decide +kernel
theorem dX12_weeks_54 : decode cX12_weeks 54 = .ok (.goto (-16), 3) := by decide +kernel
theorem dX12_weeks_57 : decode cX12_weeks 57 = .ok (.aload_n 0, 1) := by decide +kernel
theorem dX12_weeks_58 : decode cX12_weeks 58 = .ok (.getfield 161, 3) := by decide +kernel
theorem dX12_weeks_61 : decode cX12_weeks 61 = .ok (.ifCond .ne 16, 3) := by decide +kernel
theorem dX12_weeks_64 : decode cX12_weeks 64 = .ok (.aload_n 0, 1) := by decide +kernel
theorem dX12_weeks_65 : decode cX12_weeks 65 = .ok (.getfield 269, 3) := by decide +kernel
theorem dX12_weeks_68 : decode cX12_weeks 68 = .ok (.ifCond .le 9, 3) := by decide +kernel
theorem dX12_weeks_71 : decode cX12_weeks 71 = .ok (.aload_n 0, 1) := by decide +kernel
theorem dX12_weeks_72 : decode cX12_weeks 72 = .ok (.iconst 2, 1) := by decide +kernel
theorem dX12_weeks_73 : decode cX12_weeks 73 = .ok (.invokevirtual 173, 3) := by decide +kernel
theorem dX12_weeks_76 : decode cX12_weeks 76 = .ok (.pop, 1) := by decide +kernel
theorem dX12_weeks_77 : decode cX12_weeks 77 = .ok (.aload_n 0, 1) := by decide +kernel
theorem dX12_weeks_78 : decode cX12_weeks 78 = .ok (.getfield 161, 3) := by decide +kernel
theorem dX12_weeks_81 : decode cX12_weeks 81 = .ok (.ifCond .ne 51, 3) := by decide +kernel
theorem dX12_weeks_84 : decode cX12_weeks 84 = .ok (.aload_n 0, 1) := by decide +kernel
theorem dX12_weeks_85 : decode cX12_weeks 85 = .ok (.getfield 7, 3) := by decide +kernel
theorem dX12_weeks_88 : decode cX12_weeks 88 = .ok (.bipush 8, 2) := by decide +kernel
theorem dX12_weeks_90 : decode cX12_weeks 90 = .ok (.aload_n 0, 1) := by decide +kernel
theorem dX12_weeks_91 : decode cX12_weeks 91 = .ok (.getfield 7, 3) := by decide +kernel
theorem dX12_weeks_94 : decode cX12_weeks 94 = .ok (.sipush 2016, 3) := by decide +kernel
theorem dX12_weeks_97 : decode cX12_weeks 97 = .ok (.iaload, 1) := by decide +kernel
theorem dX12_weeks_98 : decode cX12_weeks 98 = .ok (.iastore, 1) := by decide +kernel
theorem dX12_weeks_99 : decode cX12_weeks 99 = .ok (.sipush 134, 3) := by decide +kernel
theorem dX12_weeks_102 : decode cX12_weeks 102 = .ok (.istore_n 3, 1) := by decide +kernel
theorem dX12_weeks_103 : decode cX12_weeks 103 = .ok (.iload_n 3, 1) := by decide +kernel
theorem dX12_weeks_104 : decode cX12_weeks 104 = .ok (.sipush 494, 3) := by decide +kernel
theorem dX12_weeks_107 : decode cX12_weeks 107 = .ok (.if_icmp .ge 25, 3) := by decide +kernel
theorem dX12_weeks_110 : decode cX12_weeks 110 = .ok (.aload_n 0, 1) := by decide +kernel
theorem dX12_weeks_111 : decode cX12_weeks 111 = .ok (.getfield 7, 3) := by decide +kernel
theorem dX12_weeks_114 : decode cX12_weeks 114 = .ok (.iload_n 3, 1) := by decide +kernel
theorem dX12_weeks_115 : decode cX12_weeks 115 = .ok (.aload_n 0, 1) := by decide +kernel
theorem dX12_weeks_116 : decode cX12_weeks 116 = .ok (.getfield 7, 3) := by decide +kernel
theorem dX12_weeks_119 : decode cX12_weeks 119 = .ok (.sipush 2008, 3) := by decide +kernel
theorem dX12_weeks_122 : decode cX12_weeks 122 = .ok (.iload_n 3, 1) := by decide +kernel
theorem dX12_weeks_123 : decode cX12_weeks 123 = .ok (.iadd, 1) := by decide +kernel
theorem dX12_weeks_124 : decode cX12_weeks 124 = .ok (.iaload, 1) := by decide +kernel
theorem dX12_weeks_125 : decode cX12_weeks 125 = .ok (.iastore, 1) := by decide +kernel
theorem dX12_weeks_126 : decode cX12_weeks 126 = .ok (.iinc 3 1, 3) := by decide +kernel
theorem dX12_weeks_129 : decode cX12_weeks 129 = .ok (.goto (-26), 3) := by decide +kernel
theorem dX12_weeks_132 : decode cX12_weeks 132 = .ok (.aload_n 0, 1) := by decide +kernel
theorem dX12_weeks_133 : decode cX12_weeks 133 = .ok (.aload_n 0, 1) := by decide +kernel
theorem dX12_weeks_134 : decode cX12_weeks 134 = .ok (.getfield 272, 3) := by decide +kernel
theorem dX12_weeks_137 : decode cX12_weeks 137 = .ok (.invokevirtual 257, 3) := by decide +kernel
theorem dX12_weeks_140 : decode cX12_weeks 140 = .ok (.ireturn, 1) := by decide +kernel
theorem dX12_isSmell_0 : decode cX12_isSmell 0 = .ok (.iload_n 1, 1) := by decide +kernel
theorem dX12_isSmell_1 : decode cX12_isSmell 1 = .ok (.ifCond .lt 17, 3) := by decide +kernel
theorem dX12_isSmell_4 : decode cX12_isSmell 4 = .ok (.iload_n 1, 1) := by decide +kernel
theorem dX12_isSmell_5 : decode cX12_isSmell 5 = .ok (.aload_n 0, 1) := by decide +kernel
theorem dX12_isSmell_6 : decode cX12_isSmell 6 = .ok (.getfield 7, 3) := by decide +kernel
theorem dX12_isSmell_9 : decode cX12_isSmell 9 = .ok (.iconst 0, 1) := by decide +kernel
theorem dX12_isSmell_10 : decode cX12_isSmell 10 = .ok (.iaload, 1) := by decide +kernel
theorem dX12_isSmell_11 : decode cX12_isSmell 11 = .ok (.if_icmp .ge 7, 3) := by decide +kernel
theorem dX12_isSmell_14 : decode cX12_isSmell 14 = .ok (.iconst 1, 1) := by decide +kernel
theorem dX12_isSmell_15 : decode cX12_isSmell 15 = .ok (.goto 4, 3) := by decide +kernel
theorem dX12_isSmell_18 : decode cX12_isSmell 18 = .ok (.iconst 0, 1) := by decide +kernel
theorem dX12_isSmell_19 : decode cX12_isSmell 19 = .ok (.ireturn, 1) := by decide +kernel
theorem dX12_isCue_0 : decode cX12_isCue 0 = .ok (.iload_n 1, 1) := by decide +kernel
theorem dX12_isCue_1 : decode cX12_isCue 1 = .ok (.ifCond .lt 17, 3) := by decide +kernel
theorem dX12_isCue_4 : decode cX12_isCue 4 = .ok (.iload_n 1, 1) := by decide +kernel
theorem dX12_isCue_5 : decode cX12_isCue 5 = .ok (.aload_n 0, 1) := by decide +kernel
theorem dX12_isCue_6 : decode cX12_isCue 6 = .ok (.getfield 7, 3) := by decide +kernel
theorem dX12_isCue_9 : decode cX12_isCue 9 = .ok (.iconst 1, 1) := by decide +kernel
theorem dX12_isCue_10 : decode cX12_isCue 10 = .ok (.iaload, 1) := by decide +kernel
theorem dX12_isCue_11 : decode cX12_isCue 11 = .ok (.if_icmp .ge 7, 3) := by decide +kernel
theorem dX12_isCue_14 : decode cX12_isCue 14 = .ok (.iconst 1, 1) := by decide +kernel
theorem dX12_isCue_15 : decode cX12_isCue 15 = .ok (.goto 4, 3) := by decide +kernel
theorem dX12_isCue_18 : decode cX12_isCue 18 = .ok (.iconst 0, 1) := by decide +kernel
theorem dX12_isCue_19 : decode cX12_isCue 19 = .ok (.ireturn, 1) := by decide +kernel
theorem dX12_isRule_0 : decode cX12_isRule 0 = .ok (.iload_n 1, 1) := by decide +kernel
theorem dX12_isRule_1 : decode cX12_isRule 1 = .ok (.ifCond .lt 17, 3) := by decide +kernel
theorem dX12_isRule_4 : decode cX12_isRule 4 = .ok (.iload_n 1, 1) := by decide +kernel
theorem dX12_isRule_5 : decode cX12_isRule 5 = .ok (.aload_n 0, 1) := by decide +kernel
theorem dX12_isRule_6 : decode cX12_isRule 6 = .ok (.getfield 7, 3) := by decide +kernel
theorem dX12_isRule_9 : decode cX12_isRule 9 = .ok (.iconst 2, 1) := by decide +kernel
theorem dX12_isRule_10 : decode cX12_isRule 10 = .ok (.iaload, 1) := by decide +kernel
theorem dX12_isRule_11 : decode cX12_isRule 11 = .ok (.if_icmp .ge 7, 3) := by decide +kernel
theorem dX12_isRule_14 : decode cX12_isRule 14 = .ok (.iconst 1, 1) := by decide +kernel
theorem dX12_isRule_15 : decode cX12_isRule 15 = .ok (.goto 4, 3) := by decide +kernel
theorem dX12_isRule_18 : decode cX12_isRule 18 = .ok (.iconst 0, 1) := by decide +kernel
theorem dX12_isRule_19 : decode cX12_isRule 19 = .ok (.ireturn, 1) := by decide +kernel
theorem dX12_isPerson_0 : decode cX12_isPerson 0 = .ok (.lload_n 1, 1) := by decide +kernel
theorem dX12_isPerson_1 : decode cX12_isPerson 1 = .ok (.lconst 0, 1) := by decide +kernel
theorem dX12_isPerson_2 : decode cX12_isPerson 2 = .ok (.lcmp, 1) := by decide +kernel
theorem dX12_isPerson_3 : decode cX12_isPerson 3 = .ok (.ifCond .lt 19, 3) := by decide +kernel
theorem dX12_isPerson_6 : decode cX12_isPerson 6 = .ok (.lload_n 1, 1) := by decide +kernel
theorem dX12_isPerson_7 : decode cX12_isPerson 7 = .ok (.aload_n 0, 1) := by decide +kernel
theorem dX12_isPerson_8 : decode cX12_isPerson 8 = .ok (.getfield 7, 3) := by decide +kernel
theorem dX12_isPerson_11 : decode cX12_isPerson 11 = .ok (.iconst 3, 1) := by decide +kernel
theorem dX12_isPerson_12 : decode cX12_isPerson 12 = .ok (.iaload, 1) := by decide +kernel
theorem dX12_isPerson_13 : decode cX12_isPerson 13 = .ok (.i2l, 1) := by decide +kernel
theorem dX12_isPerson_14 : decode cX12_isPerson 14 = .ok (.lcmp, 1) := by decide +kernel
theorem dX12_isPerson_15 : decode cX12_isPerson 15 = .ok (.ifCond .ge 7, 3) := by decide +kernel
theorem dX12_isPerson_18 : decode cX12_isPerson 18 = .ok (.iconst 1, 1) := by decide +kernel
theorem dX12_isPerson_19 : decode cX12_isPerson 19 = .ok (.goto 4, 3) := by decide +kernel
theorem dX12_isPerson_22 : decode cX12_isPerson 22 = .ok (.iconst 0, 1) := by decide +kernel
theorem dX12_isPerson_23 : decode cX12_isPerson 23 = .ok (.ireturn, 1) := by decide +kernel
theorem dX12_isReader_0 : decode cX12_isReader 0 = .ok (.iload_n 1, 1) := by decide +kernel
theorem dX12_isReader_1 : decode cX12_isReader 1 = .ok (.ifCond .lt 17, 3) := by decide +kernel
theorem dX12_isReader_4 : decode cX12_isReader 4 = .ok (.iload_n 1, 1) := by decide +kernel
theorem dX12_isReader_5 : decode cX12_isReader 5 = .ok (.aload_n 0, 1) := by decide +kernel
theorem dX12_isReader_6 : decode cX12_isReader 6 = .ok (.getfield 7, 3) := by decide +kernel
theorem dX12_isReader_9 : decode cX12_isReader 9 = .ok (.iconst 4, 1) := by decide +kernel
theorem dX12_isReader_10 : decode cX12_isReader 10 = .ok (.iaload, 1) := by decide +kernel
theorem dX12_isReader_11 : decode cX12_isReader 11 = .ok (.if_icmp .ge 7, 3) := by decide +kernel
theorem dX12_isReader_14 : decode cX12_isReader 14 = .ok (.iconst 1, 1) := by decide +kernel
theorem dX12_isReader_15 : decode cX12_isReader 15 = .ok (.goto 4, 3) := by decide +kernel
theorem dX12_isReader_18 : decode cX12_isReader 18 = .ok (.iconst 0, 1) := by decide +kernel
theorem dX12_isReader_19 : decode cX12_isReader 19 = .ok (.ireturn, 1) := by decide +kernel
theorem dX12_isIn_0 : decode cX12_isIn 0 = .ok (.iload_n 1, 1) := by decide +kernel
theorem dX12_isIn_1 : decode cX12_isIn 1 = .ok (.iload_n 2, 1) := by decide +kernel
theorem dX12_isIn_2 : decode cX12_isIn 2 = .ok (.ishr, 1) := by decide +kernel
theorem dX12_isIn_3 : decode cX12_isIn 3 = .ok (.iconst 1, 1) := by decide +kernel
theorem dX12_isIn_4 : decode cX12_isIn 4 = .ok (.iand, 1) := by decide +kernel
theorem dX12_isIn_5 : decode cX12_isIn 5 = .ok (.iconst 1, 1) := by decide +kernel
theorem dX12_isIn_6 : decode cX12_isIn 6 = .ok (.if_icmp .ne 7, 3) := by decide +kernel
theorem dX12_isIn_9 : decode cX12_isIn 9 = .ok (.iconst 1, 1) := by decide +kernel
theorem dX12_isIn_10 : decode cX12_isIn 10 = .ok (.goto 4, 3) := by decide +kernel
theorem dX12_isIn_13 : decode cX12_isIn 13 = .ok (.iconst 0, 1) := by decide +kernel
theorem dX12_isIn_14 : decode cX12_isIn 14 = .ok (.ireturn, 1) := by decide +kernel
theorem dX12_bits_0 : decode cX12_bits 0 = .ok (.iconst 0, 1) := by decide +kernel
theorem dX12_bits_1 : decode cX12_bits 1 = .ok (.istore_n 1, 1) := by decide +kernel
theorem dX12_bits_2 : decode cX12_bits 2 = .ok (.iload_n 0, 1) := by decide +kernel
theorem dX12_bits_3 : decode cX12_bits 3 = .ok (.istore_n 2, 1) := by decide +kernel
theorem dX12_bits_4 : decode cX12_bits 4 = .ok (.iload_n 2, 1) := by decide +kernel
theorem dX12_bits_5 : decode cX12_bits 5 = .ok (.ifCond .eq 15, 3) := by decide +kernel
theorem dX12_bits_8 : decode cX12_bits 8 = .ok (.iinc 1 1, 3) := by decide +kernel
theorem dX12_bits_11 : decode cX12_bits 11 = .ok (.iload_n 2, 1) := by decide +kernel
theorem dX12_bits_12 : decode cX12_bits 12 = .ok (.iload_n 2, 1) := by decide +kernel
theorem dX12_bits_13 : decode cX12_bits 13 = .ok (.iconst 1, 1) := by decide +kernel
theorem dX12_bits_14 : decode cX12_bits 14 = .ok (.isub, 1) := by decide +kernel
theorem dX12_bits_15 : decode cX12_bits 15 = .ok (.iand, 1) := by decide +kernel
theorem dX12_bits_16 : decode cX12_bits 16 = .ok (.istore_n 2, 1) := by decide +kernel
theorem dX12_bits_17 : decode cX12_bits 17 = .ok (.goto (-13), 3) := by decide +kernel
theorem dX12_bits_20 : decode cX12_bits 20 = .ok (.iload_n 1, 1) := by decide +kernel
theorem dX12_bits_21 : decode cX12_bits 21 = .ok (.ireturn, 1) := by decide +kernel
set_option maxRecDepth 20000 in
theorem ggX12_personOf_X12_personRow : GoodIn wsX12_personOf wsX12_personRow := goodIn_r _ [5] (by decide +kernel) (by decide +kernel)
set_option maxRecDepth 20000 in
theorem gX12_personOf_X12_personRow : GoodIn wsX12_personOf (va_wsS RX12 224 yX12_personRow wsX12_personRow) := goodIn_app (goodIn_of _ (by decide +kernel)) ggX12_personOf_X12_personRow
theorem dX12_personOf_0 : decode cX12_personOf 0 = .ok (.aload_n 0, 1) := by decide +kernel
theorem dX12_personOf_1 : decode cX12_personOf 1 = .ok (.getfield 7, 3) := by decide +kernel
theorem dX12_personOf_4 : decode cX12_personOf 4 = .ok (.iload_n 1, 1) := by decide +kernel
theorem dX12_personOf_5 : decode cX12_personOf 5 = .ok (.invokestatic 224, 3) := by decide +kernel
theorem dX12_personOf_8 : decode cX12_personOf 8 = .ok (.iload_n 2, 1) := by decide +kernel
theorem dX12_personOf_9 : decode cX12_personOf 9 = .ok (.iadd, 1) := by decide +kernel
theorem dX12_personOf_10 : decode cX12_personOf 10 = .ok (.iaload, 1) := by decide +kernel
theorem dX12_personOf_11 : decode cX12_personOf 11 = .ok (.ireturn, 1) := by decide +kernel
set_option maxRecDepth 20000 in
theorem ggX12_ruleOf_X12_ruleRow : GoodIn wsX12_ruleOf wsX12_ruleRow := goodIn_r _ [5] (by decide +kernel) (by decide +kernel)
set_option maxRecDepth 20000 in
theorem gX12_ruleOf_X12_ruleRow : GoodIn wsX12_ruleOf (va_wsS RX12 215 yX12_ruleRow wsX12_ruleRow) := goodIn_app (goodIn_of _ (by decide +kernel)) ggX12_ruleOf_X12_ruleRow
theorem dX12_ruleOf_0 : decode cX12_ruleOf 0 = .ok (.aload_n 0, 1) := by decide +kernel
theorem dX12_ruleOf_1 : decode cX12_ruleOf 1 = .ok (.getfield 7, 3) := by decide +kernel
theorem dX12_ruleOf_4 : decode cX12_ruleOf 4 = .ok (.iload_n 1, 1) := by decide +kernel
theorem dX12_ruleOf_5 : decode cX12_ruleOf 5 = .ok (.invokestatic 215, 3) := by decide +kernel
theorem dX12_ruleOf_8 : decode cX12_ruleOf 8 = .ok (.iload_n 2, 1) := by decide +kernel
theorem dX12_ruleOf_9 : decode cX12_ruleOf 9 = .ok (.iadd, 1) := by decide +kernel
theorem dX12_ruleOf_10 : decode cX12_ruleOf 10 = .ok (.iaload, 1) := by decide +kernel
theorem dX12_ruleOf_11 : decode cX12_ruleOf 11 = .ok (.ireturn, 1) := by decide +kernel
theorem dX12_votesOf_0 : decode cX12_votesOf 0 = .ok (.aload_n 0, 1) := by decide +kernel
theorem dX12_votesOf_1 : decode cX12_votesOf 1 = .ok (.getfield 7, 3) := by decide +kernel
theorem dX12_votesOf_4 : decode cX12_votesOf 4 = .ok (.bipush 102, 2) := by decide +kernel
theorem dX12_votesOf_6 : decode cX12_votesOf 6 = .ok (.iconst 2, 1) := by decide +kernel
theorem dX12_votesOf_7 : decode cX12_votesOf 7 = .ok (.iload_n 1, 1) := by decide +kernel
theorem dX12_votesOf_8 : decode cX12_votesOf 8 = .ok (.imul, 1) := by decide +kernel
theorem dX12_votesOf_9 : decode cX12_votesOf 9 = .ok (.iadd, 1) := by decide +kernel
theorem dX12_votesOf_10 : decode cX12_votesOf 10 = .ok (.iconst 1, 1) := by decide +kernel
theorem dX12_votesOf_11 : decode cX12_votesOf 11 = .ok (.iadd, 1) := by decide +kernel
theorem dX12_votesOf_12 : decode cX12_votesOf 12 = .ok (.iaload, 1) := by decide +kernel
theorem dX12_votesOf_13 : decode cX12_votesOf 13 = .ok (.ireturn, 1) := by decide +kernel
theorem dX12_slipOf_0 : decode cX12_slipOf 0 = .ok (.aload_n 0, 1) := by decide +kernel
theorem dX12_slipOf_1 : decode cX12_slipOf 1 = .ok (.getfield 7, 3) := by decide +kernel
theorem dX12_slipOf_4 : decode cX12_slipOf 4 = .ok (.bipush 102, 2) := by decide +kernel
theorem dX12_slipOf_6 : decode cX12_slipOf 6 = .ok (.iconst 2, 1) := by decide +kernel
theorem dX12_slipOf_7 : decode cX12_slipOf 7 = .ok (.iload_n 1, 1) := by decide +kernel
theorem dX12_slipOf_8 : decode cX12_slipOf 8 = .ok (.imul, 1) := by decide +kernel
theorem dX12_slipOf_9 : decode cX12_slipOf 9 = .ok (.iadd, 1) := by decide +kernel
theorem dX12_slipOf_10 : decode cX12_slipOf 10 = .ok (.iaload, 1) := by decide +kernel
theorem dX12_slipOf_11 : decode cX12_slipOf 11 = .ok (.ireturn, 1) := by decide +kernel
set_option maxRecDepth 20000 in
theorem ggX12_peopleThat_X12_personOf : GoodIn wsX12_peopleThat wsX12_personOf := goodIn_r _ [6, 1, 7, 8, 5, 9, 10, 11, 12, 13, 14, 15, 16, 17, 18, 19, 20, 21, 22, 23, 24, 25, 26, 27, 28, 29, 30, 31, 32, 33, 34, 35, 36, 37, 38, 39, 40, 41, 42, 43, 44, 45, 46, 47, 48, 49, 50, 51] (by decide +kernel) (by decide +kernel)
set_option maxRecDepth 20000 in
theorem gX12_peopleThat_X12_personOf : GoodIn wsX12_peopleThat (wsV RX12 281 RX12 yX12_personOf wsX12_personOf) := goodIn_app (goodIn_of _ (by decide +kernel)) ggX12_peopleThat_X12_personOf
theorem dX12_peopleThat_0 : decode cX12_peopleThat 0 = .ok (.iconst 0, 1) := by decide +kernel
theorem dX12_peopleThat_1 : decode cX12_peopleThat 1 = .ok (.istore_n 2, 1) := by decide +kernel
theorem dX12_peopleThat_2 : decode cX12_peopleThat 2 = .ok (.iconst 0, 1) := by decide +kernel
theorem dX12_peopleThat_3 : decode cX12_peopleThat 3 = .ok (.istore_n 3, 1) := by decide +kernel
theorem dX12_peopleThat_4 : decode cX12_peopleThat 4 = .ok (.iload_n 3, 1) := by decide +kernel
theorem dX12_peopleThat_5 : decode cX12_peopleThat 5 = .ok (.aload_n 0, 1) := by decide +kernel
theorem dX12_peopleThat_6 : decode cX12_peopleThat 6 = .ok (.getfield 7, 3) := by decide +kernel
theorem dX12_peopleThat_9 : decode cX12_peopleThat 9 = .ok (.iconst 3, 1) := by decide +kernel
theorem dX12_peopleThat_10 : decode cX12_peopleThat 10 = .ok (.iaload, 1) := by decide +kernel
theorem dX12_peopleThat_11 : decode cX12_peopleThat 11 = .ok (.if_icmp .ge 64, 3) := by decide +kernel
theorem dX12_peopleThat_14 : decode cX12_peopleThat 14 = .ok (.iload_n 1, 1) := by decide +kernel
theorem dX12_peopleThat_15 : decode cX12_peopleThat 15 = .ok (.iconst 3, 1) := by decide +kernel
theorem dX12_peopleThat_16 : decode cX12_peopleThat 16 = .ok (.if_icmp .ne 21, 3) := by decide +kernel
theorem dX12_peopleThat_19 : decode cX12_peopleThat 19 = .ok (.aload_n 0, 1) := by decide +kernel
theorem dX12_peopleThat_20 : decode cX12_peopleThat 20 = .ok (.iload_n 3, 1) := by decide +kernel
theorem dX12_peopleThat_21 : decode cX12_peopleThat 21 = .ok (.iconst 3, 1) := by decide +kernel
theorem dX12_peopleThat_22 : decode cX12_peopleThat 22 = .ok (.invokevirtual 281, 3) := by decide +kernel
theorem dX12_peopleThat_25 : decode cX12_peopleThat 25 = .ok (.iconst 1, 1) := by decide +kernel
theorem dX12_peopleThat_26 : decode cX12_peopleThat 26 = .ok (.if_icmp .ne 7, 3) := by decide +kernel
theorem dX12_peopleThat_29 : decode cX12_peopleThat 29 = .ok (.iconst 1, 1) := by decide +kernel
theorem dX12_peopleThat_30 : decode cX12_peopleThat 30 = .ok (.goto 22, 3) := by decide +kernel
theorem dX12_peopleThat_33 : decode cX12_peopleThat 33 = .ok (.iconst 0, 1) := by decide +kernel
theorem dX12_peopleThat_34 : decode cX12_peopleThat 34 = .ok (.goto 18, 3) := by decide +kernel
theorem dX12_peopleThat_37 : decode cX12_peopleThat 37 = .ok (.aload_n 0, 1) := by decide +kernel
theorem dX12_peopleThat_38 : decode cX12_peopleThat 38 = .ok (.iload_n 3, 1) := by decide +kernel
theorem dX12_peopleThat_39 : decode cX12_peopleThat 39 = .ok (.iconst 2, 1) := by decide +kernel
theorem dX12_peopleThat_40 : decode cX12_peopleThat 40 = .ok (.invokevirtual 281, 3) := by decide +kernel
theorem dX12_peopleThat_43 : decode cX12_peopleThat 43 = .ok (.iload_n 1, 1) := by decide +kernel
theorem dX12_peopleThat_44 : decode cX12_peopleThat 44 = .ok (.if_icmp .ne 7, 3) := by decide +kernel
theorem dX12_peopleThat_47 : decode cX12_peopleThat 47 = .ok (.iconst 1, 1) := by decide +kernel
theorem dX12_peopleThat_48 : decode cX12_peopleThat 48 = .ok (.goto 4, 3) := by decide +kernel
theorem dX12_peopleThat_51 : decode cX12_peopleThat 51 = .ok (.iconst 0, 1) := by decide +kernel
theorem dX12_peopleThat_52 : decode cX12_peopleThat 52 = .ok (.istore 4, 2) := by decide +kernel
theorem dX12_peopleThat_54 : decode cX12_peopleThat 54 = .ok (.iload_n 2, 1) := by decide +kernel
theorem dX12_peopleThat_55 : decode cX12_peopleThat 55 = .ok (.iload 4, 2) := by decide +kernel
theorem dX12_peopleThat_57 : decode cX12_peopleThat 57 = .ok (.ifCond .eq 9, 3) := by decide +kernel
theorem dX12_peopleThat_60 : decode cX12_peopleThat 60 = .ok (.iconst 1, 1) := by decide +kernel
theorem dX12_peopleThat_61 : decode cX12_peopleThat 61 = .ok (.iload_n 3, 1) := by decide +kernel
theorem dX12_peopleThat_62 : decode cX12_peopleThat 62 = .ok (.ishl, 1) := by decide +kernel
theorem dX12_peopleThat_63 : decode cX12_peopleThat 63 = .ok (.goto 4, 3) := by decide +kernel
theorem dX12_peopleThat_66 : decode cX12_peopleThat 66 = .ok (.iconst 0, 1) := by decide +kernel
theorem dX12_peopleThat_67 : decode cX12_peopleThat 67 = .ok (.ior, 1) := by decide +kernel
theorem dX12_peopleThat_68 : decode cX12_peopleThat 68 = .ok (.istore_n 2, 1) := by decide +kernel
theorem dX12_peopleThat_69 : decode cX12_peopleThat 69 = .ok (.iinc 3 1, 3) := by decide +kernel
theorem dX12_peopleThat_72 : decode cX12_peopleThat 72 = .ok (.goto (-68), 3) := by decide +kernel
theorem dX12_peopleThat_75 : decode cX12_peopleThat 75 = .ok (.iload_n 2, 1) := by decide +kernel
theorem dX12_peopleThat_76 : decode cX12_peopleThat 76 = .ok (.ireturn, 1) := by decide +kernel
set_option maxRecDepth 20000 in
theorem ggX12_allVotes_X12_votesOf : GoodIn wsX12_allVotes wsX12_votesOf := goodIn_r _ [6, 1, 7, 8, 9, 10, 11, 12, 13, 14, 15, 16, 17, 18, 19, 20, 21, 22, 23, 24, 25, 26, 27, 28, 29, 30, 31, 32, 33, 34, 35, 36, 37, 38, 39, 40, 41, 42, 43, 44, 45, 46, 47, 48] (by decide +kernel) (by decide +kernel)
set_option maxRecDepth 20000 in
theorem gX12_allVotes_X12_votesOf : GoodIn wsX12_allVotes (wsV RX12 284 RX12 yX12_votesOf wsX12_votesOf) := goodIn_app (goodIn_of _ (by decide +kernel)) ggX12_allVotes_X12_votesOf
theorem dX12_allVotes_0 : decode cX12_allVotes 0 = .ok (.iconst 0, 1) := by decide +kernel
theorem dX12_allVotes_1 : decode cX12_allVotes 1 = .ok (.istore_n 1, 1) := by decide +kernel
theorem dX12_allVotes_2 : decode cX12_allVotes 2 = .ok (.iconst 0, 1) := by decide +kernel
theorem dX12_allVotes_3 : decode cX12_allVotes 3 = .ok (.istore_n 2, 1) := by decide +kernel
theorem dX12_allVotes_4 : decode cX12_allVotes 4 = .ok (.iload_n 2, 1) := by decide +kernel
theorem dX12_allVotes_5 : decode cX12_allVotes 5 = .ok (.aload_n 0, 1) := by decide +kernel
theorem dX12_allVotes_6 : decode cX12_allVotes 6 = .ok (.getfield 7, 3) := by decide +kernel
theorem dX12_allVotes_9 : decode cX12_allVotes 9 = .ok (.iconst 4, 1) := by decide +kernel
theorem dX12_allVotes_10 : decode cX12_allVotes 10 = .ok (.iaload, 1) := by decide +kernel
theorem dX12_allVotes_11 : decode cX12_allVotes 11 = .ok (.if_icmp .ge 17, 3) := by decide +kernel
theorem dX12_allVotes_14 : decode cX12_allVotes 14 = .ok (.iload_n 1, 1) := by decide +kernel
theorem dX12_allVotes_15 : decode cX12_allVotes 15 = .ok (.aload_n 0, 1) := by decide +kernel
theorem dX12_allVotes_16 : decode cX12_allVotes 16 = .ok (.iload_n 2, 1) := by decide +kernel
theorem dX12_allVotes_17 : decode cX12_allVotes 17 = .ok (.invokevirtual 284, 3) := by decide +kernel
theorem dX12_allVotes_20 : decode cX12_allVotes 20 = .ok (.iadd, 1) := by decide +kernel
theorem dX12_allVotes_21 : decode cX12_allVotes 21 = .ok (.istore_n 1, 1) := by decide +kernel
theorem dX12_allVotes_22 : decode cX12_allVotes 22 = .ok (.iinc 2 1, 3) := by decide +kernel
theorem dX12_allVotes_25 : decode cX12_allVotes 25 = .ok (.goto (-21), 3) := by decide +kernel
theorem dX12_allVotes_28 : decode cX12_allVotes 28 = .ok (.iload_n 1, 1) := by decide +kernel
theorem dX12_allVotes_29 : decode cX12_allVotes 29 = .ok (.ireturn, 1) := by decide +kernel
set_option maxRecDepth 20000 in
theorem ggX12_told_X12_refuse : GoodIn wsX12_told wsX12_refuse := goodIn_r _ [6, 7, 31, 32, 33, 34, 35, 36, 37, 38, 39, 40, 41, 42, 43, 44, 45, 46, 47, 48, 49, 50, 51, 52, 53, 54, 55, 56, 57, 58, 59, 60, 61, 62, 63, 64, 65, 66, 67, 68, 69, 70, 71, 72] (by decide +kernel) (by decide +kernel)
set_option maxRecDepth 20000 in
theorem gX12_told_X12_refuse : GoodIn wsX12_told (wsV RX12 91 RX12 yX12_refuse wsX12_refuse) := goodIn_app (goodIn_of _ (by decide +kernel)) ggX12_told_X12_refuse
set_option maxRecDepth 20000 in
theorem ggX12_told_X12_gives : GoodIn wsX12_told wsX12_gives := goodIn_r _ [11, 7, 31, 32, 33, 34, 35, 36, 37, 38, 39, 40, 41, 42, 43, 44, 45, 46, 47, 48, 49, 50, 51, 52, 53, 54, 55, 56, 57, 58, 59, 60, 61, 62, 63, 64, 65, 66, 67, 68, 69, 70, 71, 72] (by decide +kernel) (by decide +kernel)
set_option maxRecDepth 20000 in
theorem gX12_told_X12_gives : GoodIn wsX12_told (wsV RX12 95 RX12 yX12_gives wsX12_gives) := goodIn_app (goodIn_of _ (by decide +kernel)) ggX12_told_X12_gives
set_option maxRecDepth 20000 in
theorem ggX12_told_X12_allVotes : GoodIn wsX12_told wsX12_allVotes := goodIn_r _ [15, 1, 16, 17, 18, 5, 19, 31, 32, 33, 34, 35, 36, 37, 38, 39, 40, 41, 42, 43, 44, 45, 46, 47, 48, 49, 50, 51, 52, 53, 54, 55, 56, 57, 58, 59, 60, 61, 62, 63, 64, 65, 66, 67, 68, 69, 70, 71, 72] (by decide +kernel) (by decide +kernel)
set_option maxRecDepth 20000 in
theorem gX12_told_X12_allVotes : GoodIn wsX12_told (wsV RX12 287 RX12 yX12_allVotes wsX12_allVotes) := goodIn_app (goodIn_of _ (by decide +kernel)) ggX12_told_X12_allVotes
set_option maxRecDepth 20000 in
theorem ggX12_told_X12_peopleThat : GoodIn wsX12_told wsX12_peopleThat := goodIn_r _ [23, 1, 24, 25, 26, 5, 27, 28, 29, 30, 31, 32, 33, 34, 35, 36, 37, 38, 39, 40, 41, 42, 43, 44, 45, 46, 47, 48, 49, 50, 51, 52, 53, 54, 55, 56, 57, 58, 59, 60, 61, 62, 63, 64, 65, 66, 67, 68, 69, 70, 71, 72] (by decide +kernel) (by decide +kernel)
set_option maxRecDepth 20000 in
theorem gX12_told_X12_peopleThat : GoodIn wsX12_told (wsV RX12 290 RX12 yX12_peopleThat wsX12_peopleThat) := goodIn_app (goodIn_of _ (by decide +kernel)) ggX12_told_X12_peopleThat
theorem dX12_told_0 : decode cX12_told 0 = .ok (.iload_n 1, 1) := by decide +kernel
theorem dX12_told_1 : decode cX12_told 1 = .ok (.ifCond .lt 9, 3) := by decide +kernel
theorem dX12_told_4 : decode cX12_told 4 = .ok (.iload_n 1, 1) := by decide +kernel
theorem dX12_told_5 : decode cX12_told 5 = .ok (.bipush 12, 2) := by decide +kernel
theorem dX12_told_7 : decode cX12_told 7 = .ok (.if_icmp .le 9, 3) := by decide +kernel
theorem dX12_told_10 : decode cX12_told 10 = .ok (.aload_n 0, 1) := by decide +kernel
theorem dX12_told_11 : decode cX12_told 11 = .ok (.iconst 1, 1) := by decide +kernel
theorem dX12_told_12 : decode cX12_told 12 = .ok (.invokevirtual 91, 3) := by decide +kernel
theorem dX12_told_15 : decode cX12_told 15 = .ok (.ireturn, 1) := by decide +kernel
theorem dX12_told_16 : decode cX12_told 16 = .ok (.iload_n 1, 1) := by decide +kernel
theorem dX12_told_17 : decode cX12_told 17 = .ok (.bipush 8, 2) := by decide +kernel
theorem dX12_told_19 : decode cX12_told 19 = .ok (.if_icmp .ge 14, 3) := by decide +kernel
theorem dX12_told_22 : decode cX12_told 22 = .ok (.aload_n 0, 1) := by decide +kernel
theorem dX12_told_23 : decode cX12_told 23 = .ok (.aload_n 0, 1) := by decide +kernel
theorem dX12_told_24 : decode cX12_told 24 = .ok (.getfield 7, 3) := by decide +kernel
theorem dX12_told_27 : decode cX12_told 27 = .ok (.iload_n 1, 1) := by decide +kernel
theorem dX12_told_28 : decode cX12_told 28 = .ok (.iaload, 1) := by decide +kernel
theorem dX12_told_29 : decode cX12_told 29 = .ok (.invokevirtual 95, 3) := by decide +kernel
theorem dX12_told_32 : decode cX12_told 32 = .ok (.ireturn, 1) := by decide +kernel
theorem dX12_told_33 : decode cX12_told 33 = .ok (.aload_n 0, 1) := by decide +kernel
theorem dX12_told_34 : decode cX12_told 34 = .ok (.iload_n 1, 1) := by decide +kernel
theorem dX12_told_35 : decode cX12_told 35 = .ok (.bipush 12, 2) := by decide +kernel
theorem dX12_told_37 : decode cX12_told 37 = .ok (.if_icmp .ne 10, 3) := by decide +kernel
theorem dX12_told_40 : decode cX12_told 40 = .ok (.aload_n 0, 1) := by decide +kernel
theorem dX12_told_41 : decode cX12_told 41 = .ok (.invokevirtual 287, 3) := by decide +kernel
theorem dX12_told_44 : decode cX12_told 44 = .ok (.goto 11, 3) := by decide +kernel
theorem dX12_told_47 : decode cX12_told 47 = .ok (.aload_n 0, 1) := by decide +kernel
theorem dX12_told_48 : decode cX12_told 48 = .ok (.iload_n 1, 1) := by decide +kernel
theorem dX12_told_49 : decode cX12_told 49 = .ok (.bipush 8, 2) := by decide +kernel
theorem dX12_told_51 : decode cX12_told 51 = .ok (.isub, 1) := by decide +kernel
theorem dX12_told_52 : decode cX12_told 52 = .ok (.invokevirtual 290, 3) := by decide +kernel
theorem dX12_told_55 : decode cX12_told 55 = .ok (.invokevirtual 95, 3) := by decide +kernel
theorem dX12_told_58 : decode cX12_told 58 = .ok (.ireturn, 1) := by decide +kernel
set_option maxRecDepth 20000 in
theorem ggX12_sense_X12_isCue : GoodIn wsX12_sense wsX12_isCue := goodIn_r _ [6, 1, 16, 17, 18, 19, 20, 21, 22, 23, 24, 25, 26, 27, 28, 29, 30, 31, 32, 33, 34, 35, 36, 37, 38, 39, 40, 41, 42, 43, 44, 45, 46, 47, 48, 49, 50, 51, 52, 53, 54, 55, 56, 57] (by decide +kernel) (by decide +kernel)
set_option maxRecDepth 20000 in
theorem gX12_sense_X12_isCue : GoodIn wsX12_sense (wsV RX12 293 RX12 yX12_isCue wsX12_isCue) := goodIn_app (goodIn_of _ (by decide +kernel)) ggX12_sense_X12_isCue
set_option maxRecDepth 20000 in
theorem ggX12_sense_X12_gives : GoodIn wsX12_sense wsX12_gives := goodIn_r _ [10, 11, 16, 17, 18, 19, 20, 21, 22, 23, 24, 25, 26, 27, 28, 29, 30, 31, 32, 33, 34, 35, 36, 37, 38, 39, 40, 41, 42, 43, 44, 45, 46, 47, 48, 49, 50, 51, 52, 53, 54, 55, 56, 57] (by decide +kernel) (by decide +kernel)
set_option maxRecDepth 20000 in
theorem gX12_sense_X12_gives : GoodIn wsX12_sense (wsV RX12 95 RX12 yX12_gives wsX12_gives) := goodIn_app (goodIn_of _ (by decide +kernel)) ggX12_sense_X12_gives
set_option maxRecDepth 20000 in
theorem ggX12_sense_X12_refuse : GoodIn wsX12_sense wsX12_refuse := goodIn_r _ [15, 11, 16, 17, 18, 19, 20, 21, 22, 23, 24, 25, 26, 27, 28, 29, 30, 31, 32, 33, 34, 35, 36, 37, 38, 39, 40, 41, 42, 43, 44, 45, 46, 47, 48, 49, 50, 51, 52, 53, 54, 55, 56, 57] (by decide +kernel) (by decide +kernel)
set_option maxRecDepth 20000 in
theorem gX12_sense_X12_refuse : GoodIn wsX12_sense (wsV RX12 91 RX12 yX12_refuse wsX12_refuse) := goodIn_app (goodIn_of _ (by decide +kernel)) ggX12_sense_X12_refuse
theorem dX12_sense_0 : decode cX12_sense 0 = .ok (.aload_n 0, 1) := by decide +kernel
theorem dX12_sense_1 : decode cX12_sense 1 = .ok (.iload_n 1, 1) := by decide +kernel
theorem dX12_sense_2 : decode cX12_sense 2 = .ok (.invokevirtual 293, 3) := by decide +kernel
theorem dX12_sense_5 : decode cX12_sense 5 = .ok (.ifCond .eq 19, 3) := by decide +kernel
theorem dX12_sense_8 : decode cX12_sense 8 = .ok (.aload_n 0, 1) := by decide +kernel
theorem dX12_sense_9 : decode cX12_sense 9 = .ok (.aload_n 0, 1) := by decide +kernel
theorem dX12_sense_10 : decode cX12_sense 10 = .ok (.getfield 7, 3) := by decide +kernel
theorem dX12_sense_13 : decode cX12_sense 13 = .ok (.bipush 10, 2) := by decide +kernel
theorem dX12_sense_15 : decode cX12_sense 15 = .ok (.iload_n 1, 1) := by decide +kernel
theorem dX12_sense_16 : decode cX12_sense 16 = .ok (.iadd, 1) := by decide +kernel
theorem dX12_sense_17 : decode cX12_sense 17 = .ok (.iaload, 1) := by decide +kernel
theorem dX12_sense_18 : decode cX12_sense 18 = .ok (.invokevirtual 95, 3) := by decide +kernel
theorem dX12_sense_21 : decode cX12_sense 21 = .ok (.goto 8, 3) := by decide +kernel
theorem dX12_sense_24 : decode cX12_sense 24 = .ok (.aload_n 0, 1) := by decide +kernel
theorem dX12_sense_25 : decode cX12_sense 25 = .ok (.iconst 1, 1) := by decide +kernel
theorem dX12_sense_26 : decode cX12_sense 26 = .ok (.invokevirtual 91, 3) := by decide +kernel
theorem dX12_sense_29 : decode cX12_sense 29 = .ok (.ireturn, 1) := by decide +kernel
set_option maxRecDepth 20000 in
theorem ggX12_rule_X12_isRule : GoodIn wsX12_rule wsX12_isRule := goodIn_r _ [5, 6, 27, 28, 29, 30, 31, 32, 33, 34, 35, 36, 37, 38, 39, 40, 41, 42, 43, 44, 45, 46, 47, 48, 49, 50, 51, 52, 53, 54, 55, 56, 57, 58, 59, 60, 61, 62, 63, 64, 65, 66, 67, 68] (by decide +kernel) (by decide +kernel)
set_option maxRecDepth 20000 in
theorem gX12_rule_X12_isRule : GoodIn wsX12_rule (wsV RX12 296 RX12 yX12_isRule wsX12_isRule) := goodIn_app (goodIn_of _ (by decide +kernel)) ggX12_rule_X12_isRule
set_option maxRecDepth 20000 in
theorem ggX12_rule_X12_refuse : GoodIn wsX12_rule wsX12_refuse := goodIn_r _ [10, 11, 27, 28, 29, 30, 31, 32, 33, 34, 35, 36, 37, 38, 39, 40, 41, 42, 43, 44, 45, 46, 47, 48, 49, 50, 51, 52, 53, 54, 55, 56, 57, 58, 59, 60, 61, 62, 63, 64, 65, 66, 67, 68] (by decide +kernel) (by decide +kernel)
set_option maxRecDepth 20000 in
theorem gX12_rule_X12_refuse : GoodIn wsX12_rule (wsV RX12 91 RX12 yX12_refuse wsX12_refuse) := goodIn_app (goodIn_of _ (by decide +kernel)) ggX12_rule_X12_refuse
set_option maxRecDepth 20000 in
theorem ggX12_rule_X12_ruleOf : GoodIn wsX12_rule wsX12_ruleOf := goodIn_r _ [15, 6, 16, 17, 4, 18, 27, 28, 29, 30, 31, 32, 33, 34, 35, 36, 37, 38, 39, 40, 41, 42, 43, 44, 45, 46, 47, 48, 49, 50, 51, 52, 53, 54, 55, 56, 57, 58, 59, 60, 61, 62, 63, 64, 65, 66, 67, 68] (by decide +kernel) (by decide +kernel)
set_option maxRecDepth 20000 in
theorem gX12_rule_X12_ruleOf : GoodIn wsX12_rule (wsV RX12 299 RX12 yX12_ruleOf wsX12_ruleOf) := goodIn_app (goodIn_of _ (by decide +kernel)) ggX12_rule_X12_ruleOf
set_option maxRecDepth 20000 in
theorem ggX12_rule_X12_gives : GoodIn wsX12_rule wsX12_gives := goodIn_r _ [22, 11, 27, 28, 29, 30, 31, 32, 33, 34, 35, 36, 37, 38, 39, 40, 41, 42, 43, 44, 45, 46, 47, 48, 49, 50, 51, 52, 53, 54, 55, 56, 57, 58, 59, 60, 61, 62, 63, 64, 65, 66, 67, 68] (by decide +kernel) (by decide +kernel)
set_option maxRecDepth 20000 in
theorem gX12_rule_X12_gives : GoodIn wsX12_rule (wsV RX12 95 RX12 yX12_gives wsX12_gives) := goodIn_app (goodIn_of _ (by decide +kernel)) ggX12_rule_X12_gives
set_option maxRecDepth 20000 in
theorem ggX12_rule_X12_orNone : GoodIn wsX12_rule wsX12_orNone := goodIn_r _ [26, 7, 8, 9, 4, 10, 11, 19, 20, 21, 22, 27, 28, 29, 30, 31, 32, 33, 34, 35, 36, 37, 38, 39, 40, 41, 42, 43, 44, 45, 46, 47, 48, 49, 50, 51, 52, 53, 54, 55, 56, 57, 58, 59, 60, 61, 62, 63, 64, 65, 66, 67, 68] (by decide +kernel) (by decide +kernel)
set_option maxRecDepth 20000 in
theorem gX12_rule_X12_orNone : GoodIn wsX12_rule (wsV RX12 302 RX12 yX12_orNone wsX12_orNone) := goodIn_app (goodIn_of _ (by decide +kernel)) ggX12_rule_X12_orNone
theorem dX12_rule_0 : decode cX12_rule 0 = .ok (.aload_n 0, 1) := by decide +kernel
theorem dX12_rule_1 : decode cX12_rule 1 = .ok (.iload_n 1, 1) := by decide +kernel
theorem dX12_rule_2 : decode cX12_rule 2 = .ok (.invokevirtual 296, 3) := by decide +kernel
theorem dX12_rule_5 : decode cX12_rule 5 = .ok (.ifCond .eq 12, 3) := by decide +kernel
theorem dX12_rule_8 : decode cX12_rule 8 = .ok (.iload_n 2, 1) := by decide +kernel
theorem dX12_rule_9 : decode cX12_rule 9 = .ok (.ifCond .lt 8, 3) := by decide +kernel
theorem dX12_rule_12 : decode cX12_rule 12 = .ok (.iload_n 2, 1) := by decide +kernel
theorem dX12_rule_13 : decode cX12_rule 13 = .ok (.iconst 4, 1) := by decide +kernel
theorem dX12_rule_14 : decode cX12_rule 14 = .ok (.if_icmp .le 9, 3) := by decide +kernel
theorem dX12_rule_17 : decode cX12_rule 17 = .ok (.aload_n 0, 1) := by decide +kernel
theorem dX12_rule_18 : decode cX12_rule 18 = .ok (.iconst 1, 1) := by decide +kernel
theorem dX12_rule_19 : decode cX12_rule 19 = .ok (.invokevirtual 91, 3) := by decide +kernel
theorem dX12_rule_22 : decode cX12_rule 22 = .ok (.ireturn, 1) := by decide +kernel
theorem dX12_rule_23 : decode cX12_rule 23 = .ok (.iload_n 2, 1) := by decide +kernel
theorem dX12_rule_24 : decode cX12_rule 24 = .ok (.tableswitch 101 0 3 #[32, 32, 43, 72], 32) := by decide +kernel
theorem dX12_rule_56 : decode cX12_rule 56 = .ok (.aload_n 0, 1) := by decide +kernel
theorem dX12_rule_57 : decode cX12_rule 57 = .ok (.aload_n 0, 1) := by decide +kernel
theorem dX12_rule_58 : decode cX12_rule 58 = .ok (.iload_n 1, 1) := by decide +kernel
theorem dX12_rule_59 : decode cX12_rule 59 = .ok (.iload_n 2, 1) := by decide +kernel
theorem dX12_rule_60 : decode cX12_rule 60 = .ok (.invokevirtual 299, 3) := by decide +kernel
theorem dX12_rule_63 : decode cX12_rule 63 = .ok (.invokevirtual 95, 3) := by decide +kernel
theorem dX12_rule_66 : decode cX12_rule 66 = .ok (.ireturn, 1) := by decide +kernel
theorem dX12_rule_67 : decode cX12_rule 67 = .ok (.aload_n 0, 1) := by decide +kernel
theorem dX12_rule_68 : decode cX12_rule 68 = .ok (.iload_n 1, 1) := by decide +kernel
theorem dX12_rule_69 : decode cX12_rule 69 = .ok (.iconst 2, 1) := by decide +kernel
theorem dX12_rule_70 : decode cX12_rule 70 = .ok (.invokevirtual 299, 3) := by decide +kernel
theorem dX12_rule_73 : decode cX12_rule 73 = .ok (.ifCond .ne 12, 3) := by decide +kernel
theorem dX12_rule_76 : decode cX12_rule 76 = .ok (.aload_n 0, 1) := by decide +kernel
theorem dX12_rule_77 : decode cX12_rule 77 = .ok (.bipush 6, 2) := by decide +kernel
theorem dX12_rule_79 : decode cX12_rule 79 = .ok (.invokevirtual 91, 3) := by decide +kernel
theorem dX12_rule_82 : decode cX12_rule 82 = .ok (.goto 13, 3) := by decide +kernel
theorem dX12_rule_85 : decode cX12_rule 85 = .ok (.aload_n 0, 1) := by decide +kernel
theorem dX12_rule_86 : decode cX12_rule 86 = .ok (.aload_n 0, 1) := by decide +kernel
theorem dX12_rule_87 : decode cX12_rule 87 = .ok (.iload_n 1, 1) := by decide +kernel
theorem dX12_rule_88 : decode cX12_rule 88 = .ok (.iconst 3, 1) := by decide +kernel
theorem dX12_rule_89 : decode cX12_rule 89 = .ok (.invokevirtual 299, 3) := by decide +kernel
theorem dX12_rule_92 : decode cX12_rule 92 = .ok (.invokevirtual 95, 3) := by decide +kernel
theorem dX12_rule_95 : decode cX12_rule 95 = .ok (.ireturn, 1) := by decide +kernel
theorem dX12_rule_96 : decode cX12_rule 96 = .ok (.aload_n 0, 1) := by decide +kernel
theorem dX12_rule_97 : decode cX12_rule 97 = .ok (.iload_n 1, 1) := by decide +kernel
theorem dX12_rule_98 : decode cX12_rule 98 = .ok (.iconst 4, 1) := by decide +kernel
theorem dX12_rule_99 : decode cX12_rule 99 = .ok (.invokevirtual 299, 3) := by decide +kernel
theorem dX12_rule_102 : decode cX12_rule 102 = .ok (.ifCond .ne 12, 3) := by decide +kernel
theorem dX12_rule_105 : decode cX12_rule 105 = .ok (.aload_n 0, 1) := by decide +kernel
theorem dX12_rule_106 : decode cX12_rule 106 = .ok (.bipush 6, 2) := by decide +kernel
theorem dX12_rule_108 : decode cX12_rule 108 = .ok (.invokevirtual 91, 3) := by decide +kernel
theorem dX12_rule_111 : decode cX12_rule 111 = .ok (.goto 13, 3) := by decide +kernel
theorem dX12_rule_114 : decode cX12_rule 114 = .ok (.aload_n 0, 1) := by decide +kernel
theorem dX12_rule_115 : decode cX12_rule 115 = .ok (.aload_n 0, 1) := by decide +kernel
theorem dX12_rule_116 : decode cX12_rule 116 = .ok (.iload_n 1, 1) := by decide +kernel
theorem dX12_rule_117 : decode cX12_rule 117 = .ok (.iconst 5, 1) := by decide +kernel
theorem dX12_rule_118 : decode cX12_rule 118 = .ok (.invokevirtual 299, 3) := by decide +kernel
theorem dX12_rule_121 : decode cX12_rule 121 = .ok (.invokevirtual 95, 3) := by decide +kernel
theorem dX12_rule_124 : decode cX12_rule 124 = .ok (.ireturn, 1) := by decide +kernel
theorem dX12_rule_125 : decode cX12_rule 125 = .ok (.aload_n 0, 1) := by decide +kernel
theorem dX12_rule_126 : decode cX12_rule 126 = .ok (.aload_n 0, 1) := by decide +kernel
theorem dX12_rule_127 : decode cX12_rule 127 = .ok (.iload_n 1, 1) := by decide +kernel
theorem dX12_rule_128 : decode cX12_rule 128 = .ok (.bipush 6, 2) := by decide +kernel
theorem dX12_rule_130 : decode cX12_rule 130 = .ok (.invokevirtual 299, 3) := by decide +kernel
theorem dX12_rule_133 : decode cX12_rule 133 = .ok (.invokevirtual 302, 3) := by decide +kernel
theorem dX12_rule_136 : decode cX12_rule 136 = .ok (.ireturn, 1) := by decide +kernel
set_option maxRecDepth 20000 in
theorem ggX12_person_X12_isPerson : GoodIn wsX12_person wsX12_isPerson := goodIn_r _ [5, 6, 23, 24, 25, 26, 27, 28, 29, 30, 31, 32, 33, 34, 35, 36, 37, 38, 39, 40, 41, 42, 43, 44, 45, 46, 47, 48, 49, 50, 51, 52, 53, 54, 55, 56, 57, 58, 59, 60, 61, 62, 63, 64] (by decide +kernel) (by decide +kernel)
set_option maxRecDepth 20000 in
theorem gX12_person_X12_isPerson : GoodIn wsX12_person (wsV RX12 305 RX12 yX12_isPerson wsX12_isPerson) := goodIn_app (goodIn_of _ (by decide +kernel)) ggX12_person_X12_isPerson
set_option maxRecDepth 20000 in
theorem ggX12_person_X12_refuse : GoodIn wsX12_person wsX12_refuse := goodIn_r _ [10, 11, 23, 24, 25, 26, 27, 28, 29, 30, 31, 32, 33, 34, 35, 36, 37, 38, 39, 40, 41, 42, 43, 44, 45, 46, 47, 48, 49, 50, 51, 52, 53, 54, 55, 56, 57, 58, 59, 60, 61, 62, 63, 64] (by decide +kernel) (by decide +kernel)
set_option maxRecDepth 20000 in
theorem gX12_person_X12_refuse : GoodIn wsX12_person (wsV RX12 91 RX12 yX12_refuse wsX12_refuse) := goodIn_app (goodIn_of _ (by decide +kernel)) ggX12_person_X12_refuse
set_option maxRecDepth 20000 in
theorem ggX12_person_X12_personOf : GoodIn wsX12_person wsX12_personOf := goodIn_r _ [15, 6, 16, 17, 4, 18, 23, 24, 25, 26, 27, 28, 29, 30, 31, 32, 33, 34, 35, 36, 37, 38, 39, 40, 41, 42, 43, 44, 45, 46, 47, 48, 49, 50, 51, 52, 53, 54, 55, 56, 57, 58, 59, 60, 61, 62, 63, 64] (by decide +kernel) (by decide +kernel)
set_option maxRecDepth 20000 in
theorem gX12_person_X12_personOf : GoodIn wsX12_person (wsV RX12 281 RX12 yX12_personOf wsX12_personOf) := goodIn_app (goodIn_of _ (by decide +kernel)) ggX12_person_X12_personOf
set_option maxRecDepth 20000 in
theorem ggX12_person_X12_gives : GoodIn wsX12_person wsX12_gives := goodIn_r _ [22, 11, 23, 24, 25, 26, 27, 28, 29, 30, 31, 32, 33, 34, 35, 36, 37, 38, 39, 40, 41, 42, 43, 44, 45, 46, 47, 48, 49, 50, 51, 52, 53, 54, 55, 56, 57, 58, 59, 60, 61, 62, 63, 64] (by decide +kernel) (by decide +kernel)
set_option maxRecDepth 20000 in
theorem gX12_person_X12_gives : GoodIn wsX12_person (wsV RX12 95 RX12 yX12_gives wsX12_gives) := goodIn_app (goodIn_of _ (by decide +kernel)) ggX12_person_X12_gives
theorem dX12_person_0 : decode cX12_person 0 = .ok (.aload_n 0, 1) := by decide +kernel
theorem dX12_person_1 : decode cX12_person 1 = .ok (.iload_n 1, 1) := by decide +kernel
theorem dX12_person_2 : decode cX12_person 2 = .ok (.i2l, 1) := by decide +kernel
theorem dX12_person_3 : decode cX12_person 3 = .ok (.invokevirtual 305, 3) := by decide +kernel
theorem dX12_person_6 : decode cX12_person 6 = .ok (.ifCond .eq 12, 3) := by decide +kernel
theorem dX12_person_9 : decode cX12_person 9 = .ok (.iload_n 2, 1) := by decide +kernel
theorem dX12_person_10 : decode cX12_person 10 = .ok (.ifCond .lt 8, 3) := by decide +kernel
theorem dX12_person_13 : decode cX12_person 13 = .ok (.iload_n 2, 1) := by decide +kernel
theorem dX12_person_14 : decode cX12_person 14 = .ok (.iconst 4, 1) := by decide +kernel
theorem dX12_person_15 : decode cX12_person 15 = .ok (.if_icmp .le 9, 3) := by decide +kernel
theorem dX12_person_18 : decode cX12_person 18 = .ok (.aload_n 0, 1) := by decide +kernel
theorem dX12_person_19 : decode cX12_person 19 = .ok (.iconst 1, 1) := by decide +kernel
theorem dX12_person_20 : decode cX12_person 20 = .ok (.invokevirtual 91, 3) := by decide +kernel
theorem dX12_person_23 : decode cX12_person 23 = .ok (.ireturn, 1) := by decide +kernel
theorem dX12_person_24 : decode cX12_person 24 = .ok (.aload_n 0, 1) := by decide +kernel
theorem dX12_person_25 : decode cX12_person 25 = .ok (.aload_n 0, 1) := by decide +kernel
theorem dX12_person_26 : decode cX12_person 26 = .ok (.iload_n 1, 1) := by decide +kernel
theorem dX12_person_27 : decode cX12_person 27 = .ok (.iload_n 2, 1) := by decide +kernel
theorem dX12_person_28 : decode cX12_person 28 = .ok (.invokevirtual 281, 3) := by decide +kernel
theorem dX12_person_31 : decode cX12_person 31 = .ok (.invokevirtual 95, 3) := by decide +kernel
theorem dX12_person_34 : decode cX12_person 34 = .ok (.ireturn, 1) := by decide +kernel
set_option maxRecDepth 20000 in
theorem ggX12_reader_X12_isReader : GoodIn wsX12_reader wsX12_isReader := goodIn_r _ [5, 6, 24, 25, 26, 27, 28, 29, 30, 31, 32, 33, 34, 35, 36, 37, 38, 39, 40, 41, 42, 43, 44, 45, 46, 47, 48, 49, 50, 51, 52, 53, 54, 55, 56, 57, 58, 59, 60, 61, 62, 63, 64, 65] (by decide +kernel) (by decide +kernel)
set_option maxRecDepth 20000 in
theorem gX12_reader_X12_isReader : GoodIn wsX12_reader (wsV RX12 309 RX12 yX12_isReader wsX12_isReader) := goodIn_app (goodIn_of _ (by decide +kernel)) ggX12_reader_X12_isReader
set_option maxRecDepth 20000 in
theorem ggX12_reader_X12_refuse : GoodIn wsX12_reader wsX12_refuse := goodIn_r _ [10, 11, 24, 25, 26, 27, 28, 29, 30, 31, 32, 33, 34, 35, 36, 37, 38, 39, 40, 41, 42, 43, 44, 45, 46, 47, 48, 49, 50, 51, 52, 53, 54, 55, 56, 57, 58, 59, 60, 61, 62, 63, 64, 65] (by decide +kernel) (by decide +kernel)
set_option maxRecDepth 20000 in
theorem gX12_reader_X12_refuse : GoodIn wsX12_reader (wsV RX12 91 RX12 yX12_refuse wsX12_refuse) := goodIn_app (goodIn_of _ (by decide +kernel)) ggX12_reader_X12_refuse
set_option maxRecDepth 20000 in
theorem ggX12_reader_X12_slipOf : GoodIn wsX12_reader wsX12_slipOf := goodIn_r _ [15, 6, 24, 25, 26, 27, 28, 29, 30, 31, 32, 33, 34, 35, 36, 37, 38, 39, 40, 41, 42, 43, 44, 45, 46, 47, 48, 49, 50, 51, 52, 53, 54, 55, 56, 57, 58, 59, 60, 61, 62, 63, 64, 65] (by decide +kernel) (by decide +kernel)
set_option maxRecDepth 20000 in
theorem gX12_reader_X12_slipOf : GoodIn wsX12_reader (wsV RX12 312 RX12 yX12_slipOf wsX12_slipOf) := goodIn_app (goodIn_of _ (by decide +kernel)) ggX12_reader_X12_slipOf
set_option maxRecDepth 20000 in
theorem ggX12_reader_X12_votesOf : GoodIn wsX12_reader wsX12_votesOf := goodIn_r _ [19, 6, 24, 25, 26, 27, 28, 29, 30, 31, 32, 33, 34, 35, 36, 37, 38, 39, 40, 41, 42, 43, 44, 45, 46, 47, 48, 49, 50, 51, 52, 53, 54, 55, 56, 57, 58, 59, 60, 61, 62, 63, 64, 65] (by decide +kernel) (by decide +kernel)
set_option maxRecDepth 20000 in
theorem gX12_reader_X12_votesOf : GoodIn wsX12_reader (wsV RX12 284 RX12 yX12_votesOf wsX12_votesOf) := goodIn_app (goodIn_of _ (by decide +kernel)) ggX12_reader_X12_votesOf
set_option maxRecDepth 20000 in
theorem ggX12_reader_X12_gives : GoodIn wsX12_reader wsX12_gives := goodIn_r _ [23, 11, 24, 25, 26, 27, 28, 29, 30, 31, 32, 33, 34, 35, 36, 37, 38, 39, 40, 41, 42, 43, 44, 45, 46, 47, 48, 49, 50, 51, 52, 53, 54, 55, 56, 57, 58, 59, 60, 61, 62, 63, 64, 65] (by decide +kernel) (by decide +kernel)
set_option maxRecDepth 20000 in
theorem gX12_reader_X12_gives : GoodIn wsX12_reader (wsV RX12 95 RX12 yX12_gives wsX12_gives) := goodIn_app (goodIn_of _ (by decide +kernel)) ggX12_reader_X12_gives
theorem dX12_reader_0 : decode cX12_reader 0 = .ok (.aload_n 0, 1) := by decide +kernel
theorem dX12_reader_1 : decode cX12_reader 1 = .ok (.iload_n 1, 1) := by decide +kernel
theorem dX12_reader_2 : decode cX12_reader 2 = .ok (.invokevirtual 309, 3) := by decide +kernel
theorem dX12_reader_5 : decode cX12_reader 5 = .ok (.ifCond .eq 12, 3) := by decide +kernel
theorem dX12_reader_8 : decode cX12_reader 8 = .ok (.iload_n 2, 1) := by decide +kernel
theorem dX12_reader_9 : decode cX12_reader 9 = .ok (.ifCond .lt 8, 3) := by decide +kernel
theorem dX12_reader_12 : decode cX12_reader 12 = .ok (.iload_n 2, 1) := by decide +kernel
theorem dX12_reader_13 : decode cX12_reader 13 = .ok (.iconst 1, 1) := by decide +kernel
theorem dX12_reader_14 : decode cX12_reader 14 = .ok (.if_icmp .le 9, 3) := by decide +kernel
theorem dX12_reader_17 : decode cX12_reader 17 = .ok (.aload_n 0, 1) := by decide +kernel
theorem dX12_reader_18 : decode cX12_reader 18 = .ok (.iconst 1, 1) := by decide +kernel
theorem dX12_reader_19 : decode cX12_reader 19 = .ok (.invokevirtual 91, 3) := by decide +kernel
theorem dX12_reader_22 : decode cX12_reader 22 = .ok (.ireturn, 1) := by decide +kernel
theorem dX12_reader_23 : decode cX12_reader 23 = .ok (.aload_n 0, 1) := by decide +kernel
theorem dX12_reader_24 : decode cX12_reader 24 = .ok (.iload_n 2, 1) := by decide +kernel
theorem dX12_reader_25 : decode cX12_reader 25 = .ok (.ifCond .ne 11, 3) := by decide +kernel
theorem dX12_reader_28 : decode cX12_reader 28 = .ok (.aload_n 0, 1) := by decide +kernel
theorem dX12_reader_29 : decode cX12_reader 29 = .ok (.iload_n 1, 1) := by decide +kernel
theorem dX12_reader_30 : decode cX12_reader 30 = .ok (.invokevirtual 312, 3) := by decide +kernel
theorem dX12_reader_33 : decode cX12_reader 33 = .ok (.goto 8, 3) := by decide +kernel
theorem dX12_reader_36 : decode cX12_reader 36 = .ok (.aload_n 0, 1) := by decide +kernel
theorem dX12_reader_37 : decode cX12_reader 37 = .ok (.iload_n 1, 1) := by decide +kernel
theorem dX12_reader_38 : decode cX12_reader 38 = .ok (.invokevirtual 284, 3) := by decide +kernel
theorem dX12_reader_41 : decode cX12_reader 41 = .ok (.invokevirtual 95, 3) := by decide +kernel
theorem dX12_reader_44 : decode cX12_reader 44 = .ok (.ireturn, 1) := by decide +kernel
set_option maxRecDepth 20000 in
theorem ggX12_word_X12_refuse : GoodIn wsX12_word wsX12_refuse := goodIn_r _ [6, 7, 12, 13, 14, 15, 16, 17, 18, 19, 20, 21, 22, 23, 24, 25, 26, 27, 28, 29, 30, 31, 32, 33, 34, 35, 36, 37, 38, 39, 40, 41, 42, 43, 44, 45, 46, 47, 48, 49, 50, 51, 52, 53] (by decide +kernel) (by decide +kernel)
set_option maxRecDepth 20000 in
theorem gX12_word_X12_refuse : GoodIn wsX12_word (wsV RX12 91 RX12 yX12_refuse wsX12_refuse) := goodIn_app (goodIn_of _ (by decide +kernel)) ggX12_word_X12_refuse
set_option maxRecDepth 20000 in
theorem ggX12_word_X12_gives : GoodIn wsX12_word wsX12_gives := goodIn_r _ [11, 7, 12, 13, 14, 15, 16, 17, 18, 19, 20, 21, 22, 23, 24, 25, 26, 27, 28, 29, 30, 31, 32, 33, 34, 35, 36, 37, 38, 39, 40, 41, 42, 43, 44, 45, 46, 47, 48, 49, 50, 51, 52, 53] (by decide +kernel) (by decide +kernel)
set_option maxRecDepth 20000 in
theorem gX12_word_X12_gives : GoodIn wsX12_word (wsV RX12 95 RX12 yX12_gives wsX12_gives) := goodIn_app (goodIn_of _ (by decide +kernel)) ggX12_word_X12_gives
theorem dX12_word_0 : decode cX12_word 0 = .ok (.iload_n 1, 1) := by decide +kernel
theorem dX12_word_1 : decode cX12_word 1 = .ok (.ifCond .lt 22, 3) := by decide +kernel
theorem dX12_word_4 : decode cX12_word 4 = .ok (.iload_n 1, 1) := by decide +kernel
theorem dX12_word_5 : decode cX12_word 5 = .ok (.aload_n 0, 1) := by decide +kernel
theorem dX12_word_6 : decode cX12_word 6 = .ok (.getfield 7, 3) := by decide +kernel
theorem dX12_word_9 : decode cX12_word 9 = .ok (.iconst 5, 1) := by decide +kernel
theorem dX12_word_10 : decode cX12_word 10 = .ok (.iaload, 1) := by decide +kernel
theorem dX12_word_11 : decode cX12_word 11 = .ok (.if_icmp .ge 12, 3) := by decide +kernel
theorem dX12_word_14 : decode cX12_word 14 = .ok (.iload_n 2, 1) := by decide +kernel
theorem dX12_word_15 : decode cX12_word 15 = .ok (.ifCond .lt 8, 3) := by decide +kernel
theorem dX12_word_18 : decode cX12_word 18 = .ok (.iload_n 2, 1) := by decide +kernel
theorem dX12_word_19 : decode cX12_word 19 = .ok (.iconst 1, 1) := by decide +kernel
theorem dX12_word_20 : decode cX12_word 20 = .ok (.if_icmp .le 9, 3) := by decide +kernel
theorem dX12_word_23 : decode cX12_word 23 = .ok (.aload_n 0, 1) := by decide +kernel
theorem dX12_word_24 : decode cX12_word 24 = .ok (.iconst 1, 1) := by decide +kernel
theorem dX12_word_25 : decode cX12_word 25 = .ok (.invokevirtual 91, 3) := by decide +kernel
theorem dX12_word_28 : decode cX12_word 28 = .ok (.ireturn, 1) := by decide +kernel
theorem dX12_word_29 : decode cX12_word 29 = .ok (.aload_n 0, 1) := by decide +kernel
theorem dX12_word_30 : decode cX12_word 30 = .ok (.aload_n 0, 1) := by decide +kernel
theorem dX12_word_31 : decode cX12_word 31 = .ok (.getfield 7, 3) := by decide +kernel
theorem dX12_word_34 : decode cX12_word 34 = .ok (.bipush 114, 2) := by decide +kernel
theorem dX12_word_36 : decode cX12_word 36 = .ok (.iconst 2, 1) := by decide +kernel
theorem dX12_word_37 : decode cX12_word 37 = .ok (.iload_n 1, 1) := by decide +kernel
theorem dX12_word_38 : decode cX12_word 38 = .ok (.imul, 1) := by decide +kernel
theorem dX12_word_39 : decode cX12_word 39 = .ok (.iadd, 1) := by decide +kernel
theorem dX12_word_40 : decode cX12_word 40 = .ok (.iload_n 2, 1) := by decide +kernel
theorem dX12_word_41 : decode cX12_word 41 = .ok (.iadd, 1) := by decide +kernel
theorem dX12_word_42 : decode cX12_word 42 = .ok (.iaload, 1) := by decide +kernel
theorem dX12_word_43 : decode cX12_word 43 = .ok (.invokevirtual 95, 3) := by decide +kernel
theorem dX12_word_46 : decode cX12_word 46 = .ok (.ireturn, 1) := by decide +kernel
theorem dX12_isSo_0 : decode cX12_isSo 0 = .ok (.iload_n 0, 1) := by decide +kernel
theorem dX12_isSo_1 : decode cX12_isSo 1 = .ok (.ifCond .eq 36, 3) := by decide +kernel
theorem dX12_isSo_4 : decode cX12_isSo 4 = .ok (.iload_n 0, 1) := by decide +kernel
theorem dX12_isSo_5 : decode cX12_isSo 5 = .ok (.bipush 60, 2) := by decide +kernel
theorem dX12_isSo_7 : decode cX12_isSo 7 = .ok (.if_icmp .ne 11, 3) := by decide +kernel
theorem dX12_isSo_10 : decode cX12_isSo 10 = .ok (.iload_n 1, 1) := by decide +kernel
theorem dX12_isSo_11 : decode cX12_isSo 11 = .ok (.iload_n 2, 1) := by decide +kernel
theorem dX12_isSo_12 : decode cX12_isSo 12 = .ok (.if_icmp .ge 29, 3) := by decide +kernel
theorem dX12_isSo_15 : decode cX12_isSo 15 = .ok (.goto 22, 3) := by decide +kernel
theorem dX12_isSo_18 : decode cX12_isSo 18 = .ok (.iload_n 0, 1) := by decide +kernel
theorem dX12_isSo_19 : decode cX12_isSo 19 = .ok (.bipush 62, 2) := by decide +kernel
theorem dX12_isSo_21 : decode cX12_isSo 21 = .ok (.if_icmp .ne 11, 3) := by decide +kernel
theorem dX12_isSo_24 : decode cX12_isSo 24 = .ok (.iload_n 1, 1) := by decide +kernel
theorem dX12_isSo_25 : decode cX12_isSo 25 = .ok (.iload_n 2, 1) := by decide +kernel
theorem dX12_isSo_26 : decode cX12_isSo 26 = .ok (.if_icmp .le 15, 3) := by decide +kernel
theorem dX12_isSo_29 : decode cX12_isSo 29 = .ok (.goto 8, 3) := by decide +kernel
theorem dX12_isSo_32 : decode cX12_isSo 32 = .ok (.iload_n 1, 1) := by decide +kernel
theorem dX12_isSo_33 : decode cX12_isSo 33 = .ok (.iload_n 2, 1) := by decide +kernel
theorem dX12_isSo_34 : decode cX12_isSo 34 = .ok (.if_icmp .ne 7, 3) := by decide +kernel
theorem dX12_isSo_37 : decode cX12_isSo 37 = .ok (.iconst 1, 1) := by decide +kernel
theorem dX12_isSo_38 : decode cX12_isSo 38 = .ok (.goto 4, 3) := by decide +kernel
theorem dX12_isSo_41 : decode cX12_isSo 41 = .ok (.iconst 0, 1) := by decide +kernel
theorem dX12_isSo_42 : decode cX12_isSo 42 = .ok (.ireturn, 1) := by decide +kernel
set_option maxRecDepth 20000 in
theorem ggX12_doesBear_X12_ruleOf : GoodIn wsX12_doesBear wsX12_ruleOf := goodIn_r _ [5, 6, 7, 8, 4, 9, 17, 18, 19, 20, 21, 22, 23, 24, 25, 26, 27, 28, 29, 30, 31, 32, 33, 34, 35, 36, 37, 38, 39, 40, 41, 42, 43, 44, 45, 46, 47, 48, 49, 50, 51, 52, 53, 54, 55, 56, 57, 58] (by decide +kernel) (by decide +kernel)
set_option maxRecDepth 20000 in
theorem gX12_doesBear_X12_ruleOf : GoodIn wsX12_doesBear (wsV RX12 299 RX12 yX12_ruleOf wsX12_ruleOf) := goodIn_app (goodIn_of _ (by decide +kernel)) ggX12_doesBear_X12_ruleOf
set_option maxRecDepth 20000 in
theorem ggX12_doesBear_X12_isIn : GoodIn wsX12_doesBear wsX12_isIn := goodIn_r _ [13] (by decide +kernel) (by decide +kernel)
set_option maxRecDepth 20000 in
theorem gX12_doesBear_X12_isIn : GoodIn wsX12_doesBear (wsV RX12 315 RX12 yX12_isIn wsX12_isIn) := goodIn_app (goodIn_of _ (by decide +kernel)) ggX12_doesBear_X12_isIn
set_option maxRecDepth 20000 in
theorem ggX12_doesBear_X12_isSo : GoodIn wsX12_doesBear wsX12_isSo := goodIn_r _ [16] (by decide +kernel) (by decide +kernel)
set_option maxRecDepth 20000 in
theorem gX12_doesBear_X12_isSo : GoodIn wsX12_doesBear (va_wsS RX12 318 yX12_isSo wsX12_isSo) := goodIn_app (goodIn_of _ (by decide +kernel)) ggX12_doesBear_X12_isSo
theorem dX12_doesBear_0 : decode cX12_doesBear 0 = .ok (.aload_n 0, 1) := by decide +kernel
theorem dX12_doesBear_1 : decode cX12_doesBear 1 = .ok (.iload_n 1, 1) := by decide +kernel
theorem dX12_doesBear_2 : decode cX12_doesBear 2 = .ok (.iconst 1, 1) := by decide +kernel
theorem dX12_doesBear_3 : decode cX12_doesBear 3 = .ok (.invokevirtual 299, 3) := by decide +kernel
theorem dX12_doesBear_6 : decode cX12_doesBear 6 = .ok (.istore 6, 2) := by decide +kernel
theorem dX12_doesBear_8 : decode cX12_doesBear 8 = .ok (.aload_n 0, 1) := by decide +kernel
theorem dX12_doesBear_9 : decode cX12_doesBear 9 = .ok (.iload_n 1, 1) := by decide +kernel
theorem dX12_doesBear_10 : decode cX12_doesBear 10 = .ok (.bipush 6, 2) := by decide +kernel
theorem dX12_doesBear_12 : decode cX12_doesBear 12 = .ok (.invokevirtual 299, 3) := by decide +kernel
theorem dX12_doesBear_15 : decode cX12_doesBear 15 = .ok (.istore 7, 2) := by decide +kernel
theorem dX12_doesBear_17 : decode cX12_doesBear 17 = .ok (.iload 6, 2) := by decide +kernel
theorem dX12_doesBear_19 : decode cX12_doesBear 19 = .ok (.ifCond .eq 13, 3) := by decide +kernel
theorem dX12_doesBear_22 : decode cX12_doesBear 22 = .ok (.iload 6, 2) := by decide +kernel
theorem dX12_doesBear_24 : decode cX12_doesBear 24 = .ok (.iconst 2, 1) := by decide +kernel
theorem dX12_doesBear_25 : decode cX12_doesBear 25 = .ok (.iload_n 2, 1) := by decide +kernel
theorem dX12_doesBear_26 : decode cX12_doesBear 26 = .ok (.isub, 1) := by decide +kernel
theorem dX12_doesBear_27 : decode cX12_doesBear 27 = .ok (.if_icmp .eq 5, 3) := by decide +kernel
theorem dX12_doesBear_30 : decode cX12_doesBear 30 = .ok (.iconst 0, 1) := by decide +kernel
theorem dX12_doesBear_31 : decode cX12_doesBear 31 = .ok (.ireturn, 1) := by decide +kernel
theorem dX12_doesBear_32 : decode cX12_doesBear 32 = .ok (.iload 7, 2) := by decide +kernel
theorem dX12_doesBear_34 : decode cX12_doesBear 34 = .ok (.iconst (-1), 1) := by decide +kernel
theorem dX12_doesBear_35 : decode cX12_doesBear 35 = .ok (.if_icmp .eq 16, 3) := by decide +kernel
theorem dX12_doesBear_38 : decode cX12_doesBear 38 = .ok (.aload_n 0, 1) := by decide +kernel
theorem dX12_doesBear_39 : decode cX12_doesBear 39 = .ok (.iload 5, 2) := by decide +kernel
theorem dX12_doesBear_41 : decode cX12_doesBear 41 = .ok (.iload 7, 2) := by decide +kernel
theorem dX12_doesBear_43 : decode cX12_doesBear 43 = .ok (.invokevirtual 315, 3) := by decide +kernel
theorem dX12_doesBear_46 : decode cX12_doesBear 46 = .ok (.ifCond .ne 5, 3) := by decide +kernel
theorem dX12_doesBear_49 : decode cX12_doesBear 49 = .ok (.iconst 0, 1) := by decide +kernel
theorem dX12_doesBear_50 : decode cX12_doesBear 50 = .ok (.ireturn, 1) := by decide +kernel
theorem dX12_doesBear_51 : decode cX12_doesBear 51 = .ok (.aload_n 0, 1) := by decide +kernel
theorem dX12_doesBear_52 : decode cX12_doesBear 52 = .ok (.iload_n 1, 1) := by decide +kernel
theorem dX12_doesBear_53 : decode cX12_doesBear 53 = .ok (.iconst 2, 1) := by decide +kernel
theorem dX12_doesBear_54 : decode cX12_doesBear 54 = .ok (.invokevirtual 299, 3) := by decide +kernel
theorem dX12_doesBear_57 : decode cX12_doesBear 57 = .ok (.iload_n 3, 1) := by decide +kernel
theorem dX12_doesBear_58 : decode cX12_doesBear 58 = .ok (.aload_n 0, 1) := by decide +kernel
theorem dX12_doesBear_59 : decode cX12_doesBear 59 = .ok (.iload_n 1, 1) := by decide +kernel
theorem dX12_doesBear_60 : decode cX12_doesBear 60 = .ok (.iconst 3, 1) := by decide +kernel
theorem dX12_doesBear_61 : decode cX12_doesBear 61 = .ok (.invokevirtual 299, 3) := by decide +kernel
theorem dX12_doesBear_64 : decode cX12_doesBear 64 = .ok (.invokestatic 318, 3) := by decide +kernel
theorem dX12_doesBear_67 : decode cX12_doesBear 67 = .ok (.ifCond .eq 27, 3) := by decide +kernel
theorem dX12_doesBear_70 : decode cX12_doesBear 70 = .ok (.aload_n 0, 1) := by decide +kernel
theorem dX12_doesBear_71 : decode cX12_doesBear 71 = .ok (.iload_n 1, 1) := by decide +kernel
theorem dX12_doesBear_72 : decode cX12_doesBear 72 = .ok (.iconst 4, 1) := by decide +kernel
theorem dX12_doesBear_73 : decode cX12_doesBear 73 = .ok (.invokevirtual 299, 3) := by decide +kernel
theorem dX12_doesBear_76 : decode cX12_doesBear 76 = .ok (.iload 4, 2) := by decide +kernel
theorem dX12_doesBear_78 : decode cX12_doesBear 78 = .ok (.aload_n 0, 1) := by decide +kernel
theorem dX12_doesBear_79 : decode cX12_doesBear 79 = .ok (.iload_n 1, 1) := by decide +kernel
theorem dX12_doesBear_80 : decode cX12_doesBear 80 = .ok (.iconst 5, 1) := by decide +kernel
theorem dX12_doesBear_81 : decode cX12_doesBear 81 = .ok (.invokevirtual 299, 3) := by decide +kernel
theorem dX12_doesBear_84 : decode cX12_doesBear 84 = .ok (.invokestatic 318, 3) := by decide +kernel
theorem dX12_doesBear_87 : decode cX12_doesBear 87 = .ok (.ifCond .eq 7, 3) := by decide +kernel
theorem dX12_doesBear_90 : decode cX12_doesBear 90 = .ok (.iconst 1, 1) := by decide +kernel
theorem dX12_doesBear_91 : decode cX12_doesBear 91 = .ok (.goto 4, 3) := by decide +kernel
theorem dX12_doesBear_94 : decode cX12_doesBear 94 = .ok (.iconst 0, 1) := by decide +kernel
theorem dX12_doesBear_95 : decode cX12_doesBear 95 = .ok (.ireturn, 1) := by decide +kernel
set_option maxRecDepth 20000 in
theorem ggX12_firstOf_X12_doesBear : GoodIn wsX12_firstOf wsX12_doesBear := goodIn_r _ [6, 7, 8, 9, 5, 10, 1, 11, 12, 13, 14, 15, 16, 17, 18, 19, 20, 21, 22, 23, 24, 25, 26, 27, 28, 29, 30, 31, 32, 33, 34, 35, 36, 37, 38, 39, 40, 41, 42, 43, 44, 45, 46, 47, 48, 49, 50, 51, 52, 53, 54, 55, 56, 57, 58, 59, 60, 61, 62] (by decide +kernel) (by decide +kernel)
set_option maxRecDepth 20000 in
theorem gX12_firstOf_X12_doesBear : GoodIn wsX12_firstOf (wsV RX12 321 RX12 yX12_doesBear wsX12_doesBear) := goodIn_app (goodIn_of _ (by decide +kernel)) ggX12_firstOf_X12_doesBear
theorem dX12_firstOf_0 : decode cX12_firstOf 0 = .ok (.iconst 0, 1) := by decide +kernel
theorem dX12_firstOf_1 : decode cX12_firstOf 1 = .ok (.istore 5, 2) := by decide +kernel
theorem dX12_firstOf_3 : decode cX12_firstOf 3 = .ok (.iload 5, 2) := by decide +kernel
theorem dX12_firstOf_5 : decode cX12_firstOf 5 = .ok (.aload_n 0, 1) := by decide +kernel
theorem dX12_firstOf_6 : decode cX12_firstOf 6 = .ok (.getfield 7, 3) := by decide +kernel
theorem dX12_firstOf_9 : decode cX12_firstOf 9 = .ok (.iconst 2, 1) := by decide +kernel
theorem dX12_firstOf_10 : decode cX12_firstOf 10 = .ok (.iaload, 1) := by decide +kernel
theorem dX12_firstOf_11 : decode cX12_firstOf 11 = .ok (.if_icmp .ge 26, 3) := by decide +kernel
theorem dX12_firstOf_14 : decode cX12_firstOf 14 = .ok (.aload_n 0, 1) := by decide +kernel
theorem dX12_firstOf_15 : decode cX12_firstOf 15 = .ok (.iload 5, 2) := by decide +kernel
theorem dX12_firstOf_17 : decode cX12_firstOf 17 = .ok (.iload_n 1, 1) := by decide +kernel
theorem dX12_firstOf_18 : decode cX12_firstOf 18 = .ok (.iload_n 2, 1) := by decide +kernel
theorem dX12_firstOf_19 : decode cX12_firstOf 19 = .ok (.iload_n 3, 1) := by decide +kernel
theorem dX12_firstOf_20 : decode cX12_firstOf 20 = .ok (.iload 4, 2) := by decide +kernel
theorem dX12_firstOf_22 : decode cX12_firstOf 22 = .ok (.invokevirtual 321, 3) := by decide +kernel
theorem dX12_firstOf_25 : decode cX12_firstOf 25 = .ok (.ifCond .eq 6, 3) := by decide +kernel
theorem dX12_firstOf_28 : decode cX12_firstOf 28 = .ok (.iload 5, 2) := by decide +kernel
theorem dX12_firstOf_30 : decode cX12_firstOf 30 = .ok (.ireturn, 1) := by decide +kernel
theorem dX12_firstOf_31 : decode cX12_firstOf 31 = .ok (.iinc 5 1, 3) := by decide +kernel
theorem dX12_firstOf_34 : decode cX12_firstOf 34 = .ok (.goto (-31), 3) := by decide +kernel
theorem dX12_firstOf_37 : decode cX12_firstOf 37 = .ok (.iconst (-1), 1) := by decide +kernel
theorem dX12_firstOf_38 : decode cX12_firstOf 38 = .ok (.ireturn, 1) := by decide +kernel
set_option maxRecDepth 20000 in
theorem ggX12_cueOf_X12_firstOf : GoodIn wsX12_cueOf wsX12_firstOf := goodIn_r _ [5, 6, 7, 8, 9, 4, 10, 11, 12, 13, 14, 15, 16, 17, 18, 19, 20, 21, 22, 23, 24, 25, 26, 27, 28, 29, 30, 31, 32, 33, 34, 35, 36, 37, 38, 39, 40, 41, 42, 43, 44, 45, 46, 47, 48, 49, 50, 51, 52, 53, 54, 55, 56, 57, 58, 59, 60, 61, 62, 63, 64, 65, 66] (by decide +kernel) (by decide +kernel)
set_option maxRecDepth 20000 in
theorem gX12_cueOf_X12_firstOf : GoodIn wsX12_cueOf (wsV RX12 325 RX12 yX12_firstOf wsX12_firstOf) := goodIn_app (goodIn_of _ (by decide +kernel)) ggX12_cueOf_X12_firstOf
set_option maxRecDepth 20000 in
theorem ggX12_cueOf_X12_ruleOf : GoodIn wsX12_cueOf wsX12_ruleOf := goodIn_r _ [14, 6, 15, 16, 4, 17, 25, 26, 27, 28, 29, 30, 31, 32, 33, 34, 35, 36, 37, 38, 39, 40, 41, 42, 43, 44, 45, 46, 47, 48, 49, 50, 51, 52, 53, 54, 55, 56, 57, 58, 59, 60, 61, 62, 63, 64, 65, 66] (by decide +kernel) (by decide +kernel)
set_option maxRecDepth 20000 in
theorem gX12_cueOf_X12_ruleOf : GoodIn wsX12_cueOf (wsV RX12 299 RX12 yX12_ruleOf wsX12_ruleOf) := goodIn_app (goodIn_of _ (by decide +kernel)) ggX12_cueOf_X12_ruleOf
theorem dX12_cueOf_0 : decode cX12_cueOf 0 = .ok (.aload_n 0, 1) := by decide +kernel
theorem dX12_cueOf_1 : decode cX12_cueOf 1 = .ok (.iload_n 1, 1) := by decide +kernel
theorem dX12_cueOf_2 : decode cX12_cueOf 2 = .ok (.iload_n 2, 1) := by decide +kernel
theorem dX12_cueOf_3 : decode cX12_cueOf 3 = .ok (.iload_n 3, 1) := by decide +kernel
theorem dX12_cueOf_4 : decode cX12_cueOf 4 = .ok (.iload 4, 2) := by decide +kernel
theorem dX12_cueOf_6 : decode cX12_cueOf 6 = .ok (.invokevirtual 325, 3) := by decide +kernel
theorem dX12_cueOf_9 : decode cX12_cueOf 9 = .ok (.istore 5, 2) := by decide +kernel
theorem dX12_cueOf_11 : decode cX12_cueOf 11 = .ok (.iload 5, 2) := by decide +kernel
theorem dX12_cueOf_13 : decode cX12_cueOf 13 = .ok (.iconst (-1), 1) := by decide +kernel
theorem dX12_cueOf_14 : decode cX12_cueOf 14 = .ok (.if_icmp .ne 7, 3) := by decide +kernel
theorem dX12_cueOf_17 : decode cX12_cueOf 17 = .ok (.iconst (-1), 1) := by decide +kernel
theorem dX12_cueOf_18 : decode cX12_cueOf 18 = .ok (.goto 10, 3) := by decide +kernel
theorem dX12_cueOf_21 : decode cX12_cueOf 21 = .ok (.aload_n 0, 1) := by decide +kernel
theorem dX12_cueOf_22 : decode cX12_cueOf 22 = .ok (.iload 5, 2) := by decide +kernel
theorem dX12_cueOf_24 : decode cX12_cueOf 24 = .ok (.iconst 0, 1) := by decide +kernel
theorem dX12_cueOf_25 : decode cX12_cueOf 25 = .ok (.invokevirtual 299, 3) := by decide +kernel
theorem dX12_cueOf_28 : decode cX12_cueOf 28 = .ok (.ireturn, 1) := by decide +kernel
set_option maxRecDepth 20000 in
theorem ggX12_ruleFor_X12_personOf : GoodIn wsX12_ruleFor wsX12_personOf := goodIn_r _ [5, 6, 7, 8, 4, 9, 32, 33, 34, 35, 36, 37, 38, 39, 40, 41, 42, 43, 44, 45, 46, 47, 48, 49, 50, 51, 52, 53, 54, 55, 56, 57, 58, 59, 60, 61, 62, 63, 64, 65, 66, 67, 68, 69, 70, 71, 72, 73] (by decide +kernel) (by decide +kernel)
set_option maxRecDepth 20000 in
theorem gX12_ruleFor_X12_personOf : GoodIn wsX12_ruleFor (wsV RX12 281 RX12 yX12_personOf wsX12_personOf) := goodIn_app (goodIn_of _ (by decide +kernel)) ggX12_ruleFor_X12_personOf
set_option maxRecDepth 20000 in
theorem ggX12_ruleFor_X12_firstOf : GoodIn wsX12_ruleFor wsX12_firstOf := goodIn_r _ [13, 6, 14, 15, 16, 4, 17, 18, 19, 20, 21, 22, 23, 24, 25, 26, 27, 28, 29, 30, 31, 32, 33, 34, 35, 36, 37, 38, 39, 40, 41, 42, 43, 44, 45, 46, 47, 48, 49, 50, 51, 52, 53, 54, 55, 56, 57, 58, 59, 60, 61, 62, 63, 64, 65, 66, 67, 68, 69, 70, 71, 72, 73] (by decide +kernel) (by decide +kernel)
set_option maxRecDepth 20000 in
theorem gX12_ruleFor_X12_firstOf : GoodIn wsX12_ruleFor (wsV RX12 325 RX12 yX12_firstOf wsX12_firstOf) := goodIn_app (goodIn_of _ (by decide +kernel)) ggX12_ruleFor_X12_firstOf
theorem dX12_ruleFor_0 : decode cX12_ruleFor 0 = .ok (.aload_n 0, 1) := by decide +kernel
theorem dX12_ruleFor_1 : decode cX12_ruleFor 1 = .ok (.aload_n 0, 1) := by decide +kernel
theorem dX12_ruleFor_2 : decode cX12_ruleFor 2 = .ok (.iload_n 1, 1) := by decide +kernel
theorem dX12_ruleFor_3 : decode cX12_ruleFor 3 = .ok (.iconst 3, 1) := by decide +kernel
theorem dX12_ruleFor_4 : decode cX12_ruleFor 4 = .ok (.invokevirtual 281, 3) := by decide +kernel
theorem dX12_ruleFor_7 : decode cX12_ruleFor 7 = .ok (.aload_n 0, 1) := by decide +kernel
theorem dX12_ruleFor_8 : decode cX12_ruleFor 8 = .ok (.iload_n 1, 1) := by decide +kernel
theorem dX12_ruleFor_9 : decode cX12_ruleFor 9 = .ok (.iconst 0, 1) := by decide +kernel
theorem dX12_ruleFor_10 : decode cX12_ruleFor 10 = .ok (.invokevirtual 281, 3) := by decide +kernel
theorem dX12_ruleFor_13 : decode cX12_ruleFor 13 = .ok (.iload_n 2, 1) := by decide +kernel
theorem dX12_ruleFor_14 : decode cX12_ruleFor 14 = .ok (.aload_n 0, 1) := by decide +kernel
theorem dX12_ruleFor_15 : decode cX12_ruleFor 15 = .ok (.iload_n 1, 1) := by decide +kernel
theorem dX12_ruleFor_16 : decode cX12_ruleFor 16 = .ok (.iconst 1, 1) := by decide +kernel
theorem dX12_ruleFor_17 : decode cX12_ruleFor 17 = .ok (.invokevirtual 281, 3) := by decide +kernel
theorem dX12_ruleFor_20 : decode cX12_ruleFor 20 = .ok (.invokevirtual 325, 3) := by decide +kernel
theorem dX12_ruleFor_23 : decode cX12_ruleFor 23 = .ok (.ireturn, 1) := by decide +kernel
set_option maxRecDepth 20000 in
theorem ggX12_cueFor_X12_ruleFor : GoodIn wsX12_cueFor wsX12_ruleFor := goodIn_r _ [5, 6, 7, 8, 4, 9, 10, 11, 12, 13, 14, 15, 16, 17, 18, 19, 20, 21, 22, 23, 24, 25, 26, 27, 28, 29, 30, 31, 32, 33, 34, 35, 36, 37, 38, 39, 40, 41, 42, 43, 44, 45, 46, 47, 48, 49, 50, 51, 52, 53, 54, 55, 56, 57, 58, 59, 60, 61, 62, 63, 64, 65, 66, 67, 68, 69, 70, 71, 72, 73, 74, 75, 76, 77] (by decide +kernel) (by decide +kernel)
set_option maxRecDepth 20000 in
theorem gX12_cueFor_X12_ruleFor : GoodIn wsX12_cueFor (wsV RX12 329 RX12 yX12_ruleFor wsX12_ruleFor) := goodIn_app (goodIn_of _ (by decide +kernel)) ggX12_cueFor_X12_ruleFor
set_option maxRecDepth 20000 in
theorem ggX12_cueFor_X12_ruleOf : GoodIn wsX12_cueFor wsX12_ruleOf := goodIn_r _ [25, 10, 26, 27, 4, 28, 36, 37, 38, 39, 40, 41, 42, 43, 44, 45, 46, 47, 48, 49, 50, 51, 52, 53, 54, 55, 56, 57, 58, 59, 60, 61, 62, 63, 64, 65, 66, 67, 68, 69, 70, 71, 72, 73, 74, 75, 76, 77] (by decide +kernel) (by decide +kernel)
set_option maxRecDepth 20000 in
theorem gX12_cueFor_X12_ruleOf : GoodIn wsX12_cueFor (wsV RX12 299 RX12 yX12_ruleOf wsX12_ruleOf) := goodIn_app (goodIn_of _ (by decide +kernel)) ggX12_cueFor_X12_ruleOf
theorem dX12_cueFor_0 : decode cX12_cueFor 0 = .ok (.aload_n 0, 1) := by decide +kernel
theorem dX12_cueFor_1 : decode cX12_cueFor 1 = .ok (.iload_n 1, 1) := by decide +kernel
theorem dX12_cueFor_2 : decode cX12_cueFor 2 = .ok (.iload_n 2, 1) := by decide +kernel
theorem dX12_cueFor_3 : decode cX12_cueFor 3 = .ok (.invokevirtual 329, 3) := by decide +kernel
theorem dX12_cueFor_6 : decode cX12_cueFor 6 = .ok (.istore_n 3, 1) := by decide +kernel
theorem dX12_cueFor_7 : decode cX12_cueFor 7 = .ok (.iload_n 3, 1) := by decide +kernel
theorem dX12_cueFor_8 : decode cX12_cueFor 8 = .ok (.iconst (-1), 1) := by decide +kernel
theorem dX12_cueFor_9 : decode cX12_cueFor 9 = .ok (.if_icmp .ne 7, 3) := by decide +kernel
theorem dX12_cueFor_12 : decode cX12_cueFor 12 = .ok (.iconst (-1), 1) := by decide +kernel
theorem dX12_cueFor_13 : decode cX12_cueFor 13 = .ok (.goto 9, 3) := by decide +kernel
theorem dX12_cueFor_16 : decode cX12_cueFor 16 = .ok (.aload_n 0, 1) := by decide +kernel
theorem dX12_cueFor_17 : decode cX12_cueFor 17 = .ok (.iload_n 3, 1) := by decide +kernel
theorem dX12_cueFor_18 : decode cX12_cueFor 18 = .ok (.iconst 0, 1) := by decide +kernel
theorem dX12_cueFor_19 : decode cX12_cueFor 19 = .ok (.invokevirtual 299, 3) := by decide +kernel
theorem dX12_cueFor_22 : decode cX12_cueFor 22 = .ok (.ireturn, 1) := by decide +kernel
set_option maxRecDepth 20000 in
theorem ggX12_senseFor_X12_cueFor : GoodIn wsX12_senseFor wsX12_cueFor := goodIn_r _ [6, 7, 8, 9, 5, 10, 11, 12, 13, 14, 1, 15, 16, 17, 18, 19, 20, 21, 22, 23, 24, 25, 26, 27, 28, 29, 30, 31, 32, 33, 34, 35, 36, 37, 38, 39, 40, 41, 42, 43, 44, 45, 46, 47, 48, 49, 50, 51, 52, 53, 54, 55, 56, 57, 58, 59, 60, 61, 62, 63, 64, 65, 66, 67, 68, 69, 70, 71, 72, 73, 74, 75, 76, 77, 78, 79, 80, 81] (by decide +kernel) (by decide +kernel)
set_option maxRecDepth 20000 in
theorem gX12_senseFor_X12_cueFor : GoodIn wsX12_senseFor (wsV RX12 332 RX12 yX12_cueFor wsX12_cueFor) := goodIn_app (goodIn_of _ (by decide +kernel)) ggX12_senseFor_X12_cueFor
theorem dX12_senseFor_0 : decode cX12_senseFor 0 = .ok (.aload_n 0, 1) := by decide +kernel
theorem dX12_senseFor_1 : decode cX12_senseFor 1 = .ok (.iload_n 1, 1) := by decide +kernel
theorem dX12_senseFor_2 : decode cX12_senseFor 2 = .ok (.iload_n 2, 1) := by decide +kernel
theorem dX12_senseFor_3 : decode cX12_senseFor 3 = .ok (.invokevirtual 332, 3) := by decide +kernel
theorem dX12_senseFor_6 : decode cX12_senseFor 6 = .ok (.istore_n 3, 1) := by decide +kernel
theorem dX12_senseFor_7 : decode cX12_senseFor 7 = .ok (.iload_n 3, 1) := by decide +kernel
theorem dX12_senseFor_8 : decode cX12_senseFor 8 = .ok (.iconst (-1), 1) := by decide +kernel
theorem dX12_senseFor_9 : decode cX12_senseFor 9 = .ok (.if_icmp .ne 7, 3) := by decide +kernel
theorem dX12_senseFor_12 : decode cX12_senseFor 12 = .ok (.iconst 0, 1) := by decide +kernel
theorem dX12_senseFor_13 : decode cX12_senseFor 13 = .ok (.goto 12, 3) := by decide +kernel
theorem dX12_senseFor_16 : decode cX12_senseFor 16 = .ok (.aload_n 0, 1) := by decide +kernel
theorem dX12_senseFor_17 : decode cX12_senseFor 17 = .ok (.getfield 7, 3) := by decide +kernel
theorem dX12_senseFor_20 : decode cX12_senseFor 20 = .ok (.bipush 10, 2) := by decide +kernel
theorem dX12_senseFor_22 : decode cX12_senseFor 22 = .ok (.iload_n 3, 1) := by decide +kernel
theorem dX12_senseFor_23 : decode cX12_senseFor 23 = .ok (.iadd, 1) := by decide +kernel
theorem dX12_senseFor_24 : decode cX12_senseFor 24 = .ok (.iaload, 1) := by decide +kernel
theorem dX12_senseFor_25 : decode cX12_senseFor 25 = .ok (.ireturn, 1) := by decide +kernel
set_option maxRecDepth 20000 in
theorem ggX12_cue_X12_isPerson : GoodIn wsX12_cue wsX12_isPerson := goodIn_r _ [6, 1, 57, 58, 59, 60, 61, 62, 63, 64, 65, 66, 67, 68, 69, 70, 71, 72, 73, 74, 75, 76, 77, 78, 79, 80, 81, 82, 83, 84, 85, 86, 87, 88, 89, 90, 91, 92, 93, 94, 95, 96, 97, 98] (by decide +kernel) (by decide +kernel)
set_option maxRecDepth 20000 in
theorem gX12_cue_X12_isPerson : GoodIn wsX12_cue (wsV RX12 305 RX12 yX12_isPerson wsX12_isPerson) := goodIn_app (goodIn_of _ (by decide +kernel)) ggX12_cue_X12_isPerson
set_option maxRecDepth 20000 in
theorem ggX12_cue_X12_cueFor : GoodIn wsX12_cue wsX12_cueFor := goodIn_r _ [10, 11, 12, 13, 5, 14, 15, 16, 17, 18, 1, 19, 20, 21, 22, 23, 24, 25, 26, 27, 28, 29, 30, 31, 32, 33, 34, 35, 36, 37, 38, 39, 40, 41, 42, 43, 57, 58, 59, 60, 61, 62, 63, 64, 65, 66, 67, 68, 69, 70, 71, 72, 73, 74, 75, 76, 77, 78, 79, 80, 81, 82, 83, 84, 85, 86, 87, 88, 89, 90, 91, 92, 93, 94, 95, 96, 97, 98] (by decide +kernel) (by decide +kernel)
set_option maxRecDepth 20000 in
theorem gX12_cue_X12_cueFor : GoodIn wsX12_cue (wsV RX12 332 RX12 yX12_cueFor wsX12_cueFor) := goodIn_app (goodIn_of _ (by decide +kernel)) ggX12_cue_X12_cueFor
set_option maxRecDepth 20000 in
theorem ggX12_cue_X12_orNone : GoodIn wsX12_cue wsX12_orNone := goodIn_r _ [47, 48, 49, 50, 5, 51, 52, 53, 54, 55, 56, 57, 58, 59, 60, 61, 62, 63, 64, 65, 66, 67, 68, 69, 70, 71, 72, 73, 74, 75, 76, 77, 78, 79, 80, 81, 82, 83, 84, 85, 86, 87, 88, 89, 90, 91, 92, 93, 94, 95, 96, 97, 98] (by decide +kernel) (by decide +kernel)
set_option maxRecDepth 20000 in
theorem gX12_cue_X12_orNone : GoodIn wsX12_cue (wsV RX12 302 RX12 yX12_orNone wsX12_orNone) := goodIn_app (goodIn_of _ (by decide +kernel)) ggX12_cue_X12_orNone
set_option maxRecDepth 20000 in
theorem ggX12_cue_X12_refuse : GoodIn wsX12_cue wsX12_refuse := goodIn_r _ [51, 52, 57, 58, 59, 60, 61, 62, 63, 64, 65, 66, 67, 68, 69, 70, 71, 72, 73, 74, 75, 76, 77, 78, 79, 80, 81, 82, 83, 84, 85, 86, 87, 88, 89, 90, 91, 92, 93, 94, 95, 96, 97, 98] (by decide +kernel) (by decide +kernel)
set_option maxRecDepth 20000 in
theorem gX12_cue_X12_refuse : GoodIn wsX12_cue (wsV RX12 91 RX12 yX12_refuse wsX12_refuse) := goodIn_app (goodIn_of _ (by decide +kernel)) ggX12_cue_X12_refuse
theorem dX12_cue_0 : decode cX12_cue 0 = .ok (.aload_n 0, 1) := by decide +kernel
theorem dX12_cue_1 : decode cX12_cue 1 = .ok (.iload_n 1, 1) := by decide +kernel
theorem dX12_cue_2 : decode cX12_cue 2 = .ok (.i2l, 1) := by decide +kernel
theorem dX12_cue_3 : decode cX12_cue 3 = .ok (.invokevirtual 305, 3) := by decide +kernel
theorem dX12_cue_6 : decode cX12_cue 6 = .ok (.ifCond .eq 22, 3) := by decide +kernel
theorem dX12_cue_9 : decode cX12_cue 9 = .ok (.aload_n 0, 1) := by decide +kernel
theorem dX12_cue_10 : decode cX12_cue 10 = .ok (.aload_n 0, 1) := by decide +kernel
theorem dX12_cue_11 : decode cX12_cue 11 = .ok (.iload_n 1, 1) := by decide +kernel
theorem dX12_cue_12 : decode cX12_cue 12 = .ok (.aload_n 0, 1) := by decide +kernel
theorem dX12_cue_13 : decode cX12_cue 13 = .ok (.getfield 7, 3) := by decide +kernel
theorem dX12_cue_16 : decode cX12_cue 16 = .ok (.bipush 6, 2) := by decide +kernel
theorem dX12_cue_18 : decode cX12_cue 18 = .ok (.iaload, 1) := by decide +kernel
theorem dX12_cue_19 : decode cX12_cue 19 = .ok (.invokevirtual 332, 3) := by decide +kernel
theorem dX12_cue_22 : decode cX12_cue 22 = .ok (.invokevirtual 302, 3) := by decide +kernel
theorem dX12_cue_25 : decode cX12_cue 25 = .ok (.goto 8, 3) := by decide +kernel
theorem dX12_cue_28 : decode cX12_cue 28 = .ok (.aload_n 0, 1) := by decide +kernel
theorem dX12_cue_29 : decode cX12_cue 29 = .ok (.iconst 1, 1) := by decide +kernel
theorem dX12_cue_30 : decode cX12_cue 30 = .ok (.invokevirtual 91, 3) := by decide +kernel
theorem dX12_cue_33 : decode cX12_cue 33 = .ok (.ireturn, 1) := by decide +kernel
set_option maxRecDepth 20000 in
theorem ggX12_cueAt_X12_isPerson : GoodIn wsX12_cueAt wsX12_isPerson := goodIn_r _ [6, 7, 61, 62, 63, 64, 65, 66, 67, 68, 69, 70, 71, 72, 73, 74, 75, 76, 77, 78, 79, 80, 81, 82, 83, 84, 85, 86, 87, 88, 89, 90, 91, 92, 93, 94, 95, 96, 97, 98, 99, 100, 101, 102] (by decide +kernel) (by decide +kernel)
set_option maxRecDepth 20000 in
theorem gX12_cueAt_X12_isPerson : GoodIn wsX12_cueAt (wsV RX12 305 RX12 yX12_isPerson wsX12_isPerson) := goodIn_app (goodIn_of _ (by decide +kernel)) ggX12_cueAt_X12_isPerson
set_option maxRecDepth 20000 in
theorem ggX12_cueAt_X12_isFrom : GoodIn wsX12_cueAt wsX12_isFrom := goodIn_r _ [10] (by decide +kernel) (by decide +kernel)
set_option maxRecDepth 20000 in
theorem gX12_cueAt_X12_isFrom : GoodIn wsX12_cueAt (va_wsS RX12 337 yX12_isFrom wsX12_isFrom) := goodIn_app (goodIn_of _ (by decide +kernel)) ggX12_cueAt_X12_isFrom
set_option maxRecDepth 20000 in
theorem ggX12_cueAt_X12_cueFor : GoodIn wsX12_cueAt wsX12_cueFor := goodIn_r _ [14, 15, 16, 17, 5, 18, 19, 20, 21, 22, 7, 23, 24, 25, 26, 27, 28, 29, 30, 31, 32, 33, 34, 35, 36, 37, 38, 39, 40, 41, 42, 43, 44, 45, 46, 47, 61, 62, 63, 64, 65, 66, 67, 68, 69, 70, 71, 72, 73, 74, 75, 76, 77, 78, 79, 80, 81, 82, 83, 84, 85, 86, 87, 88, 89, 90, 91, 92, 93, 94, 95, 96, 97, 98, 99, 100, 101, 102] (by decide +kernel) (by decide +kernel)
set_option maxRecDepth 20000 in
theorem gX12_cueAt_X12_cueFor : GoodIn wsX12_cueAt (wsV RX12 332 RX12 yX12_cueFor wsX12_cueFor) := goodIn_app (goodIn_of _ (by decide +kernel)) ggX12_cueAt_X12_cueFor
set_option maxRecDepth 20000 in
theorem ggX12_cueAt_X12_orNone : GoodIn wsX12_cueAt wsX12_orNone := goodIn_r _ [51, 52, 53, 54, 5, 55, 56, 57, 58, 59, 60, 61, 62, 63, 64, 65, 66, 67, 68, 69, 70, 71, 72, 73, 74, 75, 76, 77, 78, 79, 80, 81, 82, 83, 84, 85, 86, 87, 88, 89, 90, 91, 92, 93, 94, 95, 96, 97, 98, 99, 100, 101, 102] (by decide +kernel) (by decide +kernel)
set_option maxRecDepth 20000 in
theorem gX12_cueAt_X12_orNone : GoodIn wsX12_cueAt (wsV RX12 302 RX12 yX12_orNone wsX12_orNone) := goodIn_app (goodIn_of _ (by decide +kernel)) ggX12_cueAt_X12_orNone
set_option maxRecDepth 20000 in
theorem ggX12_cueAt_X12_refuse : GoodIn wsX12_cueAt wsX12_refuse := goodIn_r _ [55, 56, 61, 62, 63, 64, 65, 66, 67, 68, 69, 70, 71, 72, 73, 74, 75, 76, 77, 78, 79, 80, 81, 82, 83, 84, 85, 86, 87, 88, 89, 90, 91, 92, 93, 94, 95, 96, 97, 98, 99, 100, 101, 102] (by decide +kernel) (by decide +kernel)
set_option maxRecDepth 20000 in
theorem gX12_cueAt_X12_refuse : GoodIn wsX12_cueAt (wsV RX12 91 RX12 yX12_refuse wsX12_refuse) := goodIn_app (goodIn_of _ (by decide +kernel)) ggX12_cueAt_X12_refuse
theorem dX12_cueAt_0 : decode cX12_cueAt 0 = .ok (.aload_n 0, 1) := by decide +kernel
theorem dX12_cueAt_1 : decode cX12_cueAt 1 = .ok (.iload_n 1, 1) := by decide +kernel
theorem dX12_cueAt_2 : decode cX12_cueAt 2 = .ok (.i2l, 1) := by decide +kernel
theorem dX12_cueAt_3 : decode cX12_cueAt 3 = .ok (.invokevirtual 305, 3) := by decide +kernel
theorem dX12_cueAt_6 : decode cX12_cueAt 6 = .ok (.ifCond .eq 28, 3) := by decide +kernel
theorem dX12_cueAt_9 : decode cX12_cueAt 9 = .ok (.iload_n 2, 1) := by decide +kernel
theorem dX12_cueAt_10 : decode cX12_cueAt 10 = .ok (.i2l, 1) := by decide +kernel
theorem dX12_cueAt_11 : decode cX12_cueAt 11 = .ok (.lconst 0, 1) := by decide +kernel
theorem dX12_cueAt_12 : decode cX12_cueAt 12 = .ok (.ldc2_w 335, 3) := by decide +kernel
theorem dX12_cueAt_15 : decode cX12_cueAt 15 = .ok (.invokestatic 337, 3) := by decide +kernel
theorem dX12_cueAt_18 : decode cX12_cueAt 18 = .ok (.ifCond .eq 16, 3) := by decide +kernel
theorem dX12_cueAt_21 : decode cX12_cueAt 21 = .ok (.aload_n 0, 1) := by decide +kernel
theorem dX12_cueAt_22 : decode cX12_cueAt 22 = .ok (.aload_n 0, 1) := by decide +kernel
theorem dX12_cueAt_23 : decode cX12_cueAt 23 = .ok (.iload_n 1, 1) := by decide +kernel
theorem dX12_cueAt_24 : decode cX12_cueAt 24 = .ok (.iload_n 2, 1) := by decide +kernel
theorem dX12_cueAt_25 : decode cX12_cueAt 25 = .ok (.invokevirtual 332, 3) := by decide +kernel
theorem dX12_cueAt_28 : decode cX12_cueAt 28 = .ok (.invokevirtual 302, 3) := by decide +kernel
theorem dX12_cueAt_31 : decode cX12_cueAt 31 = .ok (.goto 8, 3) := by decide +kernel
theorem dX12_cueAt_34 : decode cX12_cueAt 34 = .ok (.aload_n 0, 1) := by decide +kernel
theorem dX12_cueAt_35 : decode cX12_cueAt 35 = .ok (.iconst 1, 1) := by decide +kernel
theorem dX12_cueAt_36 : decode cX12_cueAt 36 = .ok (.invokevirtual 91, 3) := by decide +kernel
theorem dX12_cueAt_39 : decode cX12_cueAt 39 = .ok (.ireturn, 1) := by decide +kernel
set_option maxRecDepth 20000 in
theorem ggX12_bears_X12_isPerson : GoodIn wsX12_bears wsX12_isPerson := goodIn_r _ [6, 1, 53, 54, 55, 56, 57, 58, 59, 60, 61, 62, 63, 64, 65, 66, 67, 68, 69, 70, 71, 72, 73, 74, 75, 76, 77, 78, 79, 80, 81, 82, 83, 84, 85, 86, 87, 88, 89, 90, 91, 92, 93, 94] (by decide +kernel) (by decide +kernel)
set_option maxRecDepth 20000 in
theorem gX12_bears_X12_isPerson : GoodIn wsX12_bears (wsV RX12 305 RX12 yX12_isPerson wsX12_isPerson) := goodIn_app (goodIn_of _ (by decide +kernel)) ggX12_bears_X12_isPerson
set_option maxRecDepth 20000 in
theorem ggX12_bears_X12_ruleFor : GoodIn wsX12_bears wsX12_ruleFor := goodIn_r _ [10, 11, 12, 13, 5, 14, 1, 15, 16, 17, 18, 19, 20, 21, 22, 23, 24, 25, 26, 27, 28, 29, 30, 31, 32, 33, 34, 35, 36, 37, 38, 39, 53, 54, 55, 56, 57, 58, 59, 60, 61, 62, 63, 64, 65, 66, 67, 68, 69, 70, 71, 72, 73, 74, 75, 76, 77, 78, 79, 80, 81, 82, 83, 84, 85, 86, 87, 88, 89, 90, 91, 92, 93, 94] (by decide +kernel) (by decide +kernel)
set_option maxRecDepth 20000 in
theorem gX12_bears_X12_ruleFor : GoodIn wsX12_bears (wsV RX12 329 RX12 yX12_ruleFor wsX12_ruleFor) := goodIn_app (goodIn_of _ (by decide +kernel)) ggX12_bears_X12_ruleFor
set_option maxRecDepth 20000 in
theorem ggX12_bears_X12_orNone : GoodIn wsX12_bears wsX12_orNone := goodIn_r _ [43, 44, 45, 46, 5, 47, 48, 49, 50, 51, 52, 53, 54, 55, 56, 57, 58, 59, 60, 61, 62, 63, 64, 65, 66, 67, 68, 69, 70, 71, 72, 73, 74, 75, 76, 77, 78, 79, 80, 81, 82, 83, 84, 85, 86, 87, 88, 89, 90, 91, 92, 93, 94] (by decide +kernel) (by decide +kernel)
set_option maxRecDepth 20000 in
theorem gX12_bears_X12_orNone : GoodIn wsX12_bears (wsV RX12 302 RX12 yX12_orNone wsX12_orNone) := goodIn_app (goodIn_of _ (by decide +kernel)) ggX12_bears_X12_orNone
set_option maxRecDepth 20000 in
theorem ggX12_bears_X12_refuse : GoodIn wsX12_bears wsX12_refuse := goodIn_r _ [47, 48, 53, 54, 55, 56, 57, 58, 59, 60, 61, 62, 63, 64, 65, 66, 67, 68, 69, 70, 71, 72, 73, 74, 75, 76, 77, 78, 79, 80, 81, 82, 83, 84, 85, 86, 87, 88, 89, 90, 91, 92, 93, 94] (by decide +kernel) (by decide +kernel)
set_option maxRecDepth 20000 in
theorem gX12_bears_X12_refuse : GoodIn wsX12_bears (wsV RX12 91 RX12 yX12_refuse wsX12_refuse) := goodIn_app (goodIn_of _ (by decide +kernel)) ggX12_bears_X12_refuse
theorem dX12_bears_0 : decode cX12_bears 0 = .ok (.aload_n 0, 1) := by decide +kernel
theorem dX12_bears_1 : decode cX12_bears 1 = .ok (.iload_n 1, 1) := by decide +kernel
theorem dX12_bears_2 : decode cX12_bears 2 = .ok (.i2l, 1) := by decide +kernel
theorem dX12_bears_3 : decode cX12_bears 3 = .ok (.invokevirtual 305, 3) := by decide +kernel
theorem dX12_bears_6 : decode cX12_bears 6 = .ok (.ifCond .eq 22, 3) := by decide +kernel
theorem dX12_bears_9 : decode cX12_bears 9 = .ok (.aload_n 0, 1) := by decide +kernel
theorem dX12_bears_10 : decode cX12_bears 10 = .ok (.aload_n 0, 1) := by decide +kernel
theorem dX12_bears_11 : decode cX12_bears 11 = .ok (.iload_n 1, 1) := by decide +kernel
theorem dX12_bears_12 : decode cX12_bears 12 = .ok (.aload_n 0, 1) := by decide +kernel
theorem dX12_bears_13 : decode cX12_bears 13 = .ok (.getfield 7, 3) := by decide +kernel
theorem dX12_bears_16 : decode cX12_bears 16 = .ok (.bipush 6, 2) := by decide +kernel
theorem dX12_bears_18 : decode cX12_bears 18 = .ok (.iaload, 1) := by decide +kernel
theorem dX12_bears_19 : decode cX12_bears 19 = .ok (.invokevirtual 329, 3) := by decide +kernel
theorem dX12_bears_22 : decode cX12_bears 22 = .ok (.invokevirtual 302, 3) := by decide +kernel
theorem dX12_bears_25 : decode cX12_bears 25 = .ok (.goto 8, 3) := by decide +kernel
theorem dX12_bears_28 : decode cX12_bears 28 = .ok (.aload_n 0, 1) := by decide +kernel
theorem dX12_bears_29 : decode cX12_bears 29 = .ok (.iconst 1, 1) := by decide +kernel
theorem dX12_bears_30 : decode cX12_bears 30 = .ok (.invokevirtual 91, 3) := by decide +kernel
theorem dX12_bears_33 : decode cX12_bears 33 = .ok (.ireturn, 1) := by decide +kernel
set_option maxRecDepth 20000 in
theorem ggX12_bearing_X12_isPerson : GoodIn wsX12_bearing wsX12_isPerson := goodIn_r _ [6, 1, 41, 42, 43, 44, 45, 46, 47, 48, 49, 50, 51, 52, 53, 54, 55, 56, 57, 58, 59, 60, 61, 62, 63, 64, 65, 66, 67, 68, 69, 70, 71, 72, 73, 74, 75, 76, 77, 78, 79, 80, 81, 82] (by decide +kernel) (by decide +kernel)
set_option maxRecDepth 20000 in
theorem gX12_bearing_X12_isPerson : GoodIn wsX12_bearing (wsV RX12 305 RX12 yX12_isPerson wsX12_isPerson) := goodIn_app (goodIn_of _ (by decide +kernel)) ggX12_bearing_X12_isPerson
set_option maxRecDepth 20000 in
theorem ggX12_bearing_X12_refuse : GoodIn wsX12_bearing wsX12_refuse := goodIn_r _ [10, 11, 41, 42, 43, 44, 45, 46, 47, 48, 49, 50, 51, 52, 53, 54, 55, 56, 57, 58, 59, 60, 61, 62, 63, 64, 65, 66, 67, 68, 69, 70, 71, 72, 73, 74, 75, 76, 77, 78, 79, 80, 81, 82] (by decide +kernel) (by decide +kernel)
set_option maxRecDepth 20000 in
theorem gX12_bearing_X12_refuse : GoodIn wsX12_bearing (wsV RX12 91 RX12 yX12_refuse wsX12_refuse) := goodIn_app (goodIn_of _ (by decide +kernel)) ggX12_bearing_X12_refuse
set_option maxRecDepth 20000 in
theorem ggX12_bearing_X12_personOf : GoodIn wsX12_bearing wsX12_personOf := goodIn_r _ [15, 1, 16, 17, 5, 18, 41, 42, 43, 44, 45, 46, 47, 48, 49, 50, 51, 52, 53, 54, 55, 56, 57, 58, 59, 60, 61, 62, 63, 64, 65, 66, 67, 68, 69, 70, 71, 72, 73, 74, 75, 76, 77, 78, 79, 80, 81, 82] (by decide +kernel) (by decide +kernel)
set_option maxRecDepth 20000 in
theorem gX12_bearing_X12_personOf : GoodIn wsX12_bearing (wsV RX12 281 RX12 yX12_personOf wsX12_personOf) := goodIn_app (goodIn_of _ (by decide +kernel)) ggX12_bearing_X12_personOf
set_option maxRecDepth 20000 in
theorem ggX12_bearing_X12_doesBear : GoodIn wsX12_bearing wsX12_doesBear := goodIn_r _ [22, 23, 24, 25, 5, 26, 1, 27, 28, 29, 30, 31, 32, 33, 34, 35, 36, 41, 42, 43, 44, 45, 46, 47, 48, 49, 50, 51, 52, 53, 54, 55, 56, 57, 58, 59, 60, 61, 62, 63, 64, 65, 66, 67, 68, 69, 70, 71, 72, 73, 74, 75, 76, 77, 78, 79, 80, 81, 82] (by decide +kernel) (by decide +kernel)
set_option maxRecDepth 20000 in
theorem gX12_bearing_X12_doesBear : GoodIn wsX12_bearing (wsV RX12 321 RX12 yX12_doesBear wsX12_doesBear) := goodIn_app (goodIn_of _ (by decide +kernel)) ggX12_bearing_X12_doesBear
set_option maxRecDepth 20000 in
theorem ggX12_bearing_X12_gives : GoodIn wsX12_bearing wsX12_gives := goodIn_r _ [40, 11, 41, 42, 43, 44, 45, 46, 47, 48, 49, 50, 51, 52, 53, 54, 55, 56, 57, 58, 59, 60, 61, 62, 63, 64, 65, 66, 67, 68, 69, 70, 71, 72, 73, 74, 75, 76, 77, 78, 79, 80, 81, 82] (by decide +kernel) (by decide +kernel)
set_option maxRecDepth 20000 in
theorem gX12_bearing_X12_gives : GoodIn wsX12_bearing (wsV RX12 95 RX12 yX12_gives wsX12_gives) := goodIn_app (goodIn_of _ (by decide +kernel)) ggX12_bearing_X12_gives
theorem dX12_bearing_0 : decode cX12_bearing 0 = .ok (.aload_n 0, 1) := by decide +kernel
theorem dX12_bearing_1 : decode cX12_bearing 1 = .ok (.iload_n 1, 1) := by decide +kernel
theorem dX12_bearing_2 : decode cX12_bearing 2 = .ok (.i2l, 1) := by decide +kernel
theorem dX12_bearing_3 : decode cX12_bearing 3 = .ok (.invokevirtual 305, 3) := by decide +kernel
theorem dX12_bearing_6 : decode cX12_bearing 6 = .ok (.ifCond .ne 9, 3) := by decide +kernel
theorem dX12_bearing_9 : decode cX12_bearing 9 = .ok (.aload_n 0, 1) := by decide +kernel
theorem dX12_bearing_10 : decode cX12_bearing 10 = .ok (.iconst 1, 1) := by decide +kernel
theorem dX12_bearing_11 : decode cX12_bearing 11 = .ok (.invokevirtual 91, 3) := by decide +kernel
theorem dX12_bearing_14 : decode cX12_bearing 14 = .ok (.ireturn, 1) := by decide +kernel
theorem dX12_bearing_15 : decode cX12_bearing 15 = .ok (.iconst 0, 1) := by decide +kernel
theorem dX12_bearing_16 : decode cX12_bearing 16 = .ok (.istore_n 2, 1) := by decide +kernel
theorem dX12_bearing_17 : decode cX12_bearing 17 = .ok (.iconst 0, 1) := by decide +kernel
theorem dX12_bearing_18 : decode cX12_bearing 18 = .ok (.istore_n 3, 1) := by decide +kernel
theorem dX12_bearing_19 : decode cX12_bearing 19 = .ok (.iload_n 3, 1) := by decide +kernel
theorem dX12_bearing_20 : decode cX12_bearing 20 = .ok (.aload_n 0, 1) := by decide +kernel
theorem dX12_bearing_21 : decode cX12_bearing 21 = .ok (.getfield 7, 3) := by decide +kernel
theorem dX12_bearing_24 : decode cX12_bearing 24 = .ok (.iconst 2, 1) := by decide +kernel
theorem dX12_bearing_25 : decode cX12_bearing 25 = .ok (.iaload, 1) := by decide +kernel
theorem dX12_bearing_26 : decode cX12_bearing 26 = .ok (.if_icmp .ge 48, 3) := by decide +kernel
theorem dX12_bearing_29 : decode cX12_bearing 29 = .ok (.aload_n 0, 1) := by decide +kernel
theorem dX12_bearing_30 : decode cX12_bearing 30 = .ok (.iload_n 3, 1) := by decide +kernel
theorem dX12_bearing_31 : decode cX12_bearing 31 = .ok (.aload_n 0, 1) := by decide +kernel
theorem dX12_bearing_32 : decode cX12_bearing 32 = .ok (.iload_n 1, 1) := by decide +kernel
theorem dX12_bearing_33 : decode cX12_bearing 33 = .ok (.iconst 3, 1) := by decide +kernel
theorem dX12_bearing_34 : decode cX12_bearing 34 = .ok (.invokevirtual 281, 3) := by decide +kernel
theorem dX12_bearing_37 : decode cX12_bearing 37 = .ok (.aload_n 0, 1) := by decide +kernel
theorem dX12_bearing_38 : decode cX12_bearing 38 = .ok (.iload_n 1, 1) := by decide +kernel
theorem dX12_bearing_39 : decode cX12_bearing 39 = .ok (.iconst 0, 1) := by decide +kernel
theorem dX12_bearing_40 : decode cX12_bearing 40 = .ok (.invokevirtual 281, 3) := by decide +kernel
theorem dX12_bearing_43 : decode cX12_bearing 43 = .ok (.aload_n 0, 1) := by decide +kernel
theorem dX12_bearing_44 : decode cX12_bearing 44 = .ok (.getfield 7, 3) := by decide +kernel
theorem dX12_bearing_47 : decode cX12_bearing 47 = .ok (.bipush 6, 2) := by decide +kernel
theorem dX12_bearing_49 : decode cX12_bearing 49 = .ok (.iaload, 1) := by decide +kernel
theorem dX12_bearing_50 : decode cX12_bearing 50 = .ok (.aload_n 0, 1) := by decide +kernel
theorem dX12_bearing_51 : decode cX12_bearing 51 = .ok (.iload_n 1, 1) := by decide +kernel
theorem dX12_bearing_52 : decode cX12_bearing 52 = .ok (.iconst 1, 1) := by decide +kernel
theorem dX12_bearing_53 : decode cX12_bearing 53 = .ok (.invokevirtual 281, 3) := by decide +kernel
theorem dX12_bearing_56 : decode cX12_bearing 56 = .ok (.invokevirtual 321, 3) := by decide +kernel
theorem dX12_bearing_59 : decode cX12_bearing 59 = .ok (.ifCond .eq 9, 3) := by decide +kernel
theorem dX12_bearing_62 : decode cX12_bearing 62 = .ok (.iload_n 2, 1) := by decide +kernel
theorem dX12_bearing_63 : decode cX12_bearing 63 = .ok (.iconst 1, 1) := by decide +kernel
theorem dX12_bearing_64 : decode cX12_bearing 64 = .ok (.iload_n 3, 1) := by decide +kernel
theorem dX12_bearing_65 : decode cX12_bearing 65 = .ok (.ishl, 1) := by decide +kernel
theorem dX12_bearing_66 : decode cX12_bearing 66 = .ok (.ior, 1) := by decide +kernel
theorem dX12_bearing_67 : decode cX12_bearing 67 = .ok (.istore_n 2, 1) := by decide +kernel
theorem dX12_bearing_68 : decode cX12_bearing 68 = .ok (.iinc 3 1, 3) := by decide +kernel
theorem dX12_bearing_71 : decode cX12_bearing 71 = .ok (.goto (-52), 3) := by decide +kernel
theorem dX12_bearing_74 : decode cX12_bearing 74 = .ok (.aload_n 0, 1) := by decide +kernel
theorem dX12_bearing_75 : decode cX12_bearing 75 = .ok (.iload_n 2, 1) := by decide +kernel
theorem dX12_bearing_76 : decode cX12_bearing 76 = .ok (.invokevirtual 95, 3) := by decide +kernel
theorem dX12_bearing_79 : decode cX12_bearing 79 = .ok (.ireturn, 1) := by decide +kernel
set_option maxRecDepth 20000 in
theorem ggX12_shown_X12_isCue : GoodIn wsX12_shown wsX12_isCue := goodIn_r _ [6, 1, 53, 54, 55, 56, 57, 58, 59, 60, 61, 62, 63, 64, 65, 66, 67, 68, 69, 70, 71, 72, 73, 74, 75, 76, 77, 78, 79, 80, 81, 82, 83, 84, 85, 86, 87, 88, 89, 90, 91, 92, 93, 94] (by decide +kernel) (by decide +kernel)
set_option maxRecDepth 20000 in
theorem gX12_shown_X12_isCue : GoodIn wsX12_shown (wsV RX12 293 RX12 yX12_isCue wsX12_isCue) := goodIn_app (goodIn_of _ (by decide +kernel)) ggX12_shown_X12_isCue
set_option maxRecDepth 20000 in
theorem ggX12_shown_X12_refuse : GoodIn wsX12_shown wsX12_refuse := goodIn_r _ [10, 11, 53, 54, 55, 56, 57, 58, 59, 60, 61, 62, 63, 64, 65, 66, 67, 68, 69, 70, 71, 72, 73, 74, 75, 76, 77, 78, 79, 80, 81, 82, 83, 84, 85, 86, 87, 88, 89, 90, 91, 92, 93, 94] (by decide +kernel) (by decide +kernel)
set_option maxRecDepth 20000 in
theorem gX12_shown_X12_refuse : GoodIn wsX12_shown (wsV RX12 91 RX12 yX12_refuse wsX12_refuse) := goodIn_app (goodIn_of _ (by decide +kernel)) ggX12_shown_X12_refuse
set_option maxRecDepth 20000 in
theorem ggX12_shown_X12_cueFor : GoodIn wsX12_shown wsX12_cueFor := goodIn_r _ [15, 16, 17, 18, 5, 19, 20, 21, 22, 23, 1, 24, 25, 26, 27, 28, 29, 30, 31, 32, 33, 34, 35, 36, 37, 38, 39, 40, 41, 42, 43, 44, 45, 46, 47, 48, 53, 54, 55, 56, 57, 58, 59, 60, 61, 62, 63, 64, 65, 66, 67, 68, 69, 70, 71, 72, 73, 74, 75, 76, 77, 78, 79, 80, 81, 82, 83, 84, 85, 86, 87, 88, 89, 90, 91, 92, 93, 94] (by decide +kernel) (by decide +kernel)
set_option maxRecDepth 20000 in
theorem gX12_shown_X12_cueFor : GoodIn wsX12_shown (wsV RX12 332 RX12 yX12_cueFor wsX12_cueFor) := goodIn_app (goodIn_of _ (by decide +kernel)) ggX12_shown_X12_cueFor
set_option maxRecDepth 20000 in
theorem ggX12_shown_X12_gives : GoodIn wsX12_shown wsX12_gives := goodIn_r _ [52, 11, 53, 54, 55, 56, 57, 58, 59, 60, 61, 62, 63, 64, 65, 66, 67, 68, 69, 70, 71, 72, 73, 74, 75, 76, 77, 78, 79, 80, 81, 82, 83, 84, 85, 86, 87, 88, 89, 90, 91, 92, 93, 94] (by decide +kernel) (by decide +kernel)
set_option maxRecDepth 20000 in
theorem gX12_shown_X12_gives : GoodIn wsX12_shown (wsV RX12 95 RX12 yX12_gives wsX12_gives) := goodIn_app (goodIn_of _ (by decide +kernel)) ggX12_shown_X12_gives
theorem dX12_shown_0 : decode cX12_shown 0 = .ok (.aload_n 0, 1) := by decide +kernel
theorem dX12_shown_1 : decode cX12_shown 1 = .ok (.iload_n 1, 1) := by decide +kernel
theorem dX12_shown_2 : decode cX12_shown 2 = .ok (.invokevirtual 293, 3) := by decide +kernel
theorem dX12_shown_5 : decode cX12_shown 5 = .ok (.ifCond .ne 9, 3) := by decide +kernel
theorem dX12_shown_8 : decode cX12_shown 8 = .ok (.aload_n 0, 1) := by decide +kernel
theorem dX12_shown_9 : decode cX12_shown 9 = .ok (.iconst 1, 1) := by decide +kernel
theorem dX12_shown_10 : decode cX12_shown 10 = .ok (.invokevirtual 91, 3) := by decide +kernel
theorem dX12_shown_13 : decode cX12_shown 13 = .ok (.ireturn, 1) := by decide +kernel
theorem dX12_shown_14 : decode cX12_shown 14 = .ok (.iconst 0, 1) := by decide +kernel
theorem dX12_shown_15 : decode cX12_shown 15 = .ok (.istore_n 2, 1) := by decide +kernel
theorem dX12_shown_16 : decode cX12_shown 16 = .ok (.iconst 0, 1) := by decide +kernel
theorem dX12_shown_17 : decode cX12_shown 17 = .ok (.istore_n 3, 1) := by decide +kernel
theorem dX12_shown_18 : decode cX12_shown 18 = .ok (.iload_n 3, 1) := by decide +kernel
theorem dX12_shown_19 : decode cX12_shown 19 = .ok (.aload_n 0, 1) := by decide +kernel
theorem dX12_shown_20 : decode cX12_shown 20 = .ok (.getfield 7, 3) := by decide +kernel
theorem dX12_shown_23 : decode cX12_shown 23 = .ok (.iconst 3, 1) := by decide +kernel
theorem dX12_shown_24 : decode cX12_shown 24 = .ok (.iaload, 1) := by decide +kernel
theorem dX12_shown_25 : decode cX12_shown 25 = .ok (.if_icmp .ge 35, 3) := by decide +kernel
theorem dX12_shown_28 : decode cX12_shown 28 = .ok (.iload_n 2, 1) := by decide +kernel
theorem dX12_shown_29 : decode cX12_shown 29 = .ok (.aload_n 0, 1) := by decide +kernel
theorem dX12_shown_30 : decode cX12_shown 30 = .ok (.iload_n 3, 1) := by decide +kernel
theorem dX12_shown_31 : decode cX12_shown 31 = .ok (.aload_n 0, 1) := by decide +kernel
theorem dX12_shown_32 : decode cX12_shown 32 = .ok (.getfield 7, 3) := by decide +kernel
theorem dX12_shown_35 : decode cX12_shown 35 = .ok (.bipush 6, 2) := by decide +kernel
theorem dX12_shown_37 : decode cX12_shown 37 = .ok (.iaload, 1) := by decide +kernel
theorem dX12_shown_38 : decode cX12_shown 38 = .ok (.invokevirtual 332, 3) := by decide +kernel
theorem dX12_shown_41 : decode cX12_shown 41 = .ok (.iload_n 1, 1) := by decide +kernel
theorem dX12_shown_42 : decode cX12_shown 42 = .ok (.if_icmp .ne 9, 3) := by decide +kernel
theorem dX12_shown_45 : decode cX12_shown 45 = .ok (.iconst 1, 1) := by decide +kernel
theorem dX12_shown_46 : decode cX12_shown 46 = .ok (.iload_n 3, 1) := by decide +kernel
theorem dX12_shown_47 : decode cX12_shown 47 = .ok (.ishl, 1) := by decide +kernel
theorem dX12_shown_48 : decode cX12_shown 48 = .ok (.goto 4, 3) := by decide +kernel
theorem dX12_shown_51 : decode cX12_shown 51 = .ok (.iconst 0, 1) := by decide +kernel
theorem dX12_shown_52 : decode cX12_shown 52 = .ok (.ior, 1) := by decide +kernel
theorem dX12_shown_53 : decode cX12_shown 53 = .ok (.istore_n 2, 1) := by decide +kernel
theorem dX12_shown_54 : decode cX12_shown 54 = .ok (.iinc 3 1, 3) := by decide +kernel
theorem dX12_shown_57 : decode cX12_shown 57 = .ok (.goto (-39), 3) := by decide +kernel
theorem dX12_shown_60 : decode cX12_shown 60 = .ok (.aload_n 0, 1) := by decide +kernel
theorem dX12_shown_61 : decode cX12_shown 61 = .ok (.iload_n 2, 1) := by decide +kernel
theorem dX12_shown_62 : decode cX12_shown 62 = .ok (.invokevirtual 95, 3) := by decide +kernel
theorem dX12_shown_65 : decode cX12_shown 65 = .ok (.ireturn, 1) := by decide +kernel
set_option maxRecDepth 20000 in
theorem ggX12_sits_X12_cueFor : GoodIn wsX12_sits wsX12_cueFor := goodIn_r _ [10, 11, 12, 13, 9, 14, 15, 16, 17, 18, 1, 19, 20, 21, 22, 23, 24, 25, 26, 27, 28, 29, 30, 31, 32, 33, 34, 35, 36, 37, 38, 39, 40, 41, 42, 43, 44, 45, 46, 47, 48, 49, 50, 51, 52, 53, 54, 55, 56, 57, 58, 59, 60, 61, 62, 63, 64, 65, 66, 67, 68, 69, 70, 71, 72, 73, 74, 75, 76, 77, 78, 79, 80, 81, 82, 83, 84, 85] (by decide +kernel) (by decide +kernel)
set_option maxRecDepth 20000 in
theorem gX12_sits_X12_cueFor : GoodIn wsX12_sits (wsV RX12 332 RX12 yX12_cueFor wsX12_cueFor) := goodIn_app (goodIn_of _ (by decide +kernel)) ggX12_sits_X12_cueFor
set_option maxRecDepth 20000 in
theorem ggX12_sits_X12_personRow : GoodIn wsX12_sits wsX12_personRow := goodIn_r _ [21] (by decide +kernel) (by decide +kernel)
set_option maxRecDepth 20000 in
theorem gX12_sits_X12_personRow : GoodIn wsX12_sits (va_wsS RX12 224 yX12_personRow wsX12_personRow) := goodIn_app (goodIn_of _ (by decide +kernel)) ggX12_sits_X12_personRow
theorem dX12_sits_0 : decode cX12_sits 0 = .ok (.aload_n 0, 1) := by decide +kernel
theorem dX12_sits_1 : decode cX12_sits 1 = .ok (.iload_n 1, 1) := by decide +kernel
theorem dX12_sits_2 : decode cX12_sits 2 = .ok (.aload_n 0, 1) := by decide +kernel
theorem dX12_sits_3 : decode cX12_sits 3 = .ok (.getfield 7, 3) := by decide +kernel
theorem dX12_sits_6 : decode cX12_sits 6 = .ok (.bipush 6, 2) := by decide +kernel
theorem dX12_sits_8 : decode cX12_sits 8 = .ok (.iaload, 1) := by decide +kernel
theorem dX12_sits_9 : decode cX12_sits 9 = .ok (.invokevirtual 332, 3) := by decide +kernel
theorem dX12_sits_12 : decode cX12_sits 12 = .ok (.istore_n 2, 1) := by decide +kernel
theorem dX12_sits_13 : decode cX12_sits 13 = .ok (.aload_n 0, 1) := by decide +kernel
theorem dX12_sits_14 : decode cX12_sits 14 = .ok (.getfield 7, 3) := by decide +kernel
theorem dX12_sits_17 : decode cX12_sits 17 = .ok (.bipush 6, 2) := by decide +kernel
theorem dX12_sits_19 : decode cX12_sits 19 = .ok (.bipush 9, 2) := by decide +kernel
theorem dX12_sits_21 : decode cX12_sits 21 = .ok (.aload_n 0, 1) := by decide +kernel
theorem dX12_sits_22 : decode cX12_sits 22 = .ok (.getfield 7, 3) := by decide +kernel
theorem dX12_sits_25 : decode cX12_sits 25 = .ok (.bipush 6, 2) := by decide +kernel
theorem dX12_sits_27 : decode cX12_sits 27 = .ok (.iaload, 1) := by decide +kernel
theorem dX12_sits_28 : decode cX12_sits 28 = .ok (.iconst 1, 1) := by decide +kernel
theorem dX12_sits_29 : decode cX12_sits 29 = .ok (.iadd, 1) := by decide +kernel
theorem dX12_sits_30 : decode cX12_sits 30 = .ok (.invokestatic 146, 3) := by decide +kernel
theorem dX12_sits_33 : decode cX12_sits 33 = .ok (.iastore, 1) := by decide +kernel
theorem dX12_sits_34 : decode cX12_sits 34 = .ok (.aload_n 0, 1) := by decide +kernel
theorem dX12_sits_35 : decode cX12_sits 35 = .ok (.getfield 7, 3) := by decide +kernel
theorem dX12_sits_38 : decode cX12_sits 38 = .ok (.bipush 7, 2) := by decide +kernel
theorem dX12_sits_40 : decode cX12_sits 40 = .ok (.dup2, 1) := by decide +kernel
theorem dX12_sits_41 : decode cX12_sits 41 = .ok (.iaload, 1) := by decide +kernel
theorem dX12_sits_42 : decode cX12_sits 42 = .ok (.iconst 1, 1) := by decide +kernel
theorem dX12_sits_43 : decode cX12_sits 43 = .ok (.iadd, 1) := by decide +kernel
theorem dX12_sits_44 : decode cX12_sits 44 = .ok (.iastore, 1) := by decide +kernel
theorem dX12_sits_45 : decode cX12_sits 45 = .ok (.aload_n 0, 1) := by decide +kernel
theorem dX12_sits_46 : decode cX12_sits 46 = .ok (.getfield 7, 3) := by decide +kernel
theorem dX12_sits_49 : decode cX12_sits 49 = .ok (.iload_n 1, 1) := by decide +kernel
theorem dX12_sits_50 : decode cX12_sits 50 = .ok (.invokestatic 224, 3) := by decide +kernel
theorem dX12_sits_53 : decode cX12_sits 53 = .ok (.iconst 4, 1) := by decide +kernel
theorem dX12_sits_54 : decode cX12_sits 54 = .ok (.iadd, 1) := by decide +kernel
theorem dX12_sits_55 : decode cX12_sits 55 = .ok (.dup2, 1) := by decide +kernel
theorem dX12_sits_56 : decode cX12_sits 56 = .ok (.iaload, 1) := by decide +kernel
theorem dX12_sits_57 : decode cX12_sits 57 = .ok (.iconst 1, 1) := by decide +kernel
theorem dX12_sits_58 : decode cX12_sits 58 = .ok (.iadd, 1) := by decide +kernel
theorem dX12_sits_59 : decode cX12_sits 59 = .ok (.iastore, 1) := by decide +kernel
theorem dX12_sits_60 : decode cX12_sits 60 = .ok (.iload_n 2, 1) := by decide +kernel
theorem dX12_sits_61 : decode cX12_sits 61 = .ok (.ireturn, 1) := by decide +kernel
set_option maxRecDepth 20000 in
theorem ggX12_sit_X12_isPerson : GoodIn wsX12_sit wsX12_isPerson := goodIn_r _ [6, 1, 61, 62, 63, 64, 65, 66, 67, 68, 69, 70, 71, 72, 73, 74, 75, 76, 77, 78, 79, 80, 81, 82, 83, 84, 85, 86, 87, 88, 89, 90, 91, 92, 93, 94, 95, 96, 97, 98, 99, 100, 101, 102] (by decide +kernel) (by decide +kernel)
set_option maxRecDepth 20000 in
theorem gX12_sit_X12_isPerson : GoodIn wsX12_sit (wsV RX12 305 RX12 yX12_isPerson wsX12_isPerson) := goodIn_app (goodIn_of _ (by decide +kernel)) ggX12_sit_X12_isPerson
set_option maxRecDepth 20000 in
theorem ggX12_sit_X12_refuse : GoodIn wsX12_sit wsX12_refuse := goodIn_r _ [10, 11, 61, 62, 63, 64, 65, 66, 67, 68, 69, 70, 71, 72, 73, 74, 75, 76, 77, 78, 79, 80, 81, 82, 83, 84, 85, 86, 87, 88, 89, 90, 91, 92, 93, 94, 95, 96, 97, 98, 99, 100, 101, 102] (by decide +kernel) (by decide +kernel)
set_option maxRecDepth 20000 in
theorem gX12_sit_X12_refuse : GoodIn wsX12_sit (wsV RX12 91 RX12 yX12_refuse wsX12_refuse) := goodIn_app (goodIn_of _ (by decide +kernel)) ggX12_sit_X12_refuse
set_option maxRecDepth 20000 in
theorem ggX12_sit_X12_sits : GoodIn wsX12_sit wsX12_sits := goodIn_r _ [15, 1, 16, 17, 18, 19, 20, 21, 22, 5, 23, 24, 25, 26, 27, 28, 29, 30, 31, 32, 33, 34, 35, 36, 37, 38, 39, 40, 41, 42, 43, 44, 45, 46, 47, 48, 49, 50, 51, 52, 53, 54, 55, 56, 61, 62, 63, 64, 65, 66, 67, 68, 69, 70, 71, 72, 73, 74, 75, 76, 77, 78, 79, 80, 81, 82, 83, 84, 85, 86, 87, 88, 89, 90, 91, 92, 93, 94, 95, 96, 97, 98, 99, 100, 101, 102] (by decide +kernel) (by decide +kernel)
set_option maxRecDepth 20000 in
theorem gX12_sit_X12_sits : GoodIn wsX12_sit (wsV RX12 341 RX12 yX12_sits wsX12_sits) := goodIn_app (goodIn_of _ (by decide +kernel)) ggX12_sit_X12_sits
set_option maxRecDepth 20000 in
theorem ggX12_sit_X12_gives : GoodIn wsX12_sit wsX12_gives := goodIn_r _ [60, 11, 61, 62, 63, 64, 65, 66, 67, 68, 69, 70, 71, 72, 73, 74, 75, 76, 77, 78, 79, 80, 81, 82, 83, 84, 85, 86, 87, 88, 89, 90, 91, 92, 93, 94, 95, 96, 97, 98, 99, 100, 101, 102] (by decide +kernel) (by decide +kernel)
set_option maxRecDepth 20000 in
theorem gX12_sit_X12_gives : GoodIn wsX12_sit (wsV RX12 95 RX12 yX12_gives wsX12_gives) := goodIn_app (goodIn_of _ (by decide +kernel)) ggX12_sit_X12_gives
theorem dX12_sit_0 : decode cX12_sit 0 = .ok (.aload_n 0, 1) := by decide +kernel
theorem dX12_sit_1 : decode cX12_sit 1 = .ok (.iload_n 1, 1) := by decide +kernel
theorem dX12_sit_2 : decode cX12_sit 2 = .ok (.i2l, 1) := by decide +kernel
theorem dX12_sit_3 : decode cX12_sit 3 = .ok (.invokevirtual 305, 3) := by decide +kernel
theorem dX12_sit_6 : decode cX12_sit 6 = .ok (.ifCond .ne 9, 3) := by decide +kernel
theorem dX12_sit_9 : decode cX12_sit 9 = .ok (.aload_n 0, 1) := by decide +kernel
theorem dX12_sit_10 : decode cX12_sit 10 = .ok (.iconst 1, 1) := by decide +kernel
theorem dX12_sit_11 : decode cX12_sit 11 = .ok (.invokevirtual 91, 3) := by decide +kernel
theorem dX12_sit_14 : decode cX12_sit 14 = .ok (.ireturn, 1) := by decide +kernel
theorem dX12_sit_15 : decode cX12_sit 15 = .ok (.aload_n 0, 1) := by decide +kernel
theorem dX12_sit_16 : decode cX12_sit 16 = .ok (.getfield 7, 3) := by decide +kernel
theorem dX12_sit_19 : decode cX12_sit 19 = .ok (.bipush 7, 2) := by decide +kernel
theorem dX12_sit_21 : decode cX12_sit 21 = .ok (.iaload, 1) := by decide +kernel
theorem dX12_sit_22 : decode cX12_sit 22 = .ok (.sipush 9999, 3) := by decide +kernel
theorem dX12_sit_25 : decode cX12_sit 25 = .ok (.if_icmp .ne 9, 3) := by decide +kernel
theorem dX12_sit_28 : decode cX12_sit 28 = .ok (.aload_n 0, 1) := by decide +kernel
theorem dX12_sit_29 : decode cX12_sit 29 = .ok (.iconst 4, 1) := by decide +kernel
theorem dX12_sit_30 : decode cX12_sit 30 = .ok (.invokevirtual 91, 3) := by decide +kernel
theorem dX12_sit_33 : decode cX12_sit 33 = .ok (.ireturn, 1) := by decide +kernel
theorem dX12_sit_34 : decode cX12_sit 34 = .ok (.aload_n 0, 1) := by decide +kernel
theorem dX12_sit_35 : decode cX12_sit 35 = .ok (.iload_n 1, 1) := by decide +kernel
theorem dX12_sit_36 : decode cX12_sit 36 = .ok (.invokevirtual 341, 3) := by decide +kernel
theorem dX12_sit_39 : decode cX12_sit 39 = .ok (.istore_n 2, 1) := by decide +kernel
theorem dX12_sit_40 : decode cX12_sit 40 = .ok (.aload_n 0, 1) := by decide +kernel
theorem dX12_sit_41 : decode cX12_sit 41 = .ok (.iload_n 2, 1) := by decide +kernel
theorem dX12_sit_42 : decode cX12_sit 42 = .ok (.iconst (-1), 1) := by decide +kernel
theorem dX12_sit_43 : decode cX12_sit 43 = .ok (.if_icmp .ne 12, 3) := by decide +kernel
theorem dX12_sit_46 : decode cX12_sit 46 = .ok (.aload_n 0, 1) := by decide +kernel
theorem dX12_sit_47 : decode cX12_sit 47 = .ok (.getfield 7, 3) := by decide +kernel
theorem dX12_sit_50 : decode cX12_sit 50 = .ok (.iconst 1, 1) := by decide +kernel
theorem dX12_sit_51 : decode cX12_sit 51 = .ok (.iaload, 1) := by decide +kernel
theorem dX12_sit_52 : decode cX12_sit 52 = .ok (.goto 4, 3) := by decide +kernel
theorem dX12_sit_55 : decode cX12_sit 55 = .ok (.iload_n 2, 1) := by decide +kernel
theorem dX12_sit_56 : decode cX12_sit 56 = .ok (.invokevirtual 95, 3) := by decide +kernel
theorem dX12_sit_59 : decode cX12_sit 59 = .ok (.ireturn, 1) := by decide +kernel
set_option maxRecDepth 20000 in
theorem ggX12_terms_X12_peopleThat : GoodIn wsX12_terms wsX12_peopleThat := goodIn_r _ [6, 1, 7, 8, 9, 5, 10, 11, 12, 13, 52, 53, 54, 55, 56, 57, 58, 59, 60, 61, 62, 63, 64, 65, 66, 67, 68, 69, 70, 71, 72, 73, 74, 75, 76, 77, 78, 79, 80, 81, 82, 83, 84, 85, 86, 87, 88, 89, 90, 91, 92, 93] (by decide +kernel) (by decide +kernel)
set_option maxRecDepth 20000 in
theorem gX12_terms_X12_peopleThat : GoodIn wsX12_terms (wsV RX12 290 RX12 yX12_peopleThat wsX12_peopleThat) := goodIn_app (goodIn_of _ (by decide +kernel)) ggX12_terms_X12_peopleThat
set_option maxRecDepth 20000 in
theorem ggX12_terms_X12_isIn : GoodIn wsX12_terms wsX12_isIn := goodIn_r _ [17] (by decide +kernel) (by decide +kernel)
set_option maxRecDepth 20000 in
theorem gX12_terms_X12_isIn : GoodIn wsX12_terms (wsV RX12 315 RX12 yX12_isIn wsX12_isIn) := goodIn_app (goodIn_of _ (by decide +kernel)) ggX12_terms_X12_isIn
set_option maxRecDepth 20000 in
theorem ggX12_terms_X12_sits : GoodIn wsX12_terms wsX12_sits := goodIn_r _ [21, 1, 22, 23, 24, 25, 26, 27, 28, 5, 29, 30, 31, 32, 33, 7, 8, 9, 10, 11, 12, 13, 34, 35, 36, 37, 38, 39, 40, 41, 42, 43, 44, 45, 46, 47, 48, 14, 15, 16, 17, 49, 50, 51, 52, 53, 54, 55, 56, 57, 58, 59, 60, 61, 62, 63, 64, 65, 66, 67, 68, 69, 70, 71, 72, 73, 74, 75, 76, 77, 78, 79, 80, 81, 82, 83, 84, 85, 86, 87, 88, 89, 90, 91, 92, 93] (by decide +kernel) (by decide +kernel)
set_option maxRecDepth 20000 in
theorem gX12_terms_X12_sits : GoodIn wsX12_terms (wsV RX12 341 RX12 yX12_sits wsX12_sits) := goodIn_app (goodIn_of _ (by decide +kernel)) ggX12_terms_X12_sits
set_option maxRecDepth 20000 in
theorem ggX12_terms_X12_personRow : GoodIn wsX12_terms wsX12_personRow := goodIn_r _ [13] (by decide +kernel) (by decide +kernel)
set_option maxRecDepth 20000 in
theorem gX12_terms_X12_personRow : GoodIn wsX12_terms (va_wsS RX12 224 yX12_personRow wsX12_personRow) := goodIn_app (goodIn_of _ (by decide +kernel)) ggX12_terms_X12_personRow
theorem dX12_terms_0 : decode cX12_terms 0 = .ok (.aload_n 0, 1) := by decide +kernel
theorem dX12_terms_1 : decode cX12_terms 1 = .ok (.iconst 0, 1) := by decide +kernel
theorem dX12_terms_2 : decode cX12_terms 2 = .ok (.invokevirtual 290, 3) := by decide +kernel
theorem dX12_terms_5 : decode cX12_terms 5 = .ok (.istore_n 1, 1) := by decide +kernel
theorem dX12_terms_6 : decode cX12_terms 6 = .ok (.iconst 0, 1) := by decide +kernel
theorem dX12_terms_7 : decode cX12_terms 7 = .ok (.istore_n 2, 1) := by decide +kernel
theorem dX12_terms_8 : decode cX12_terms 8 = .ok (.iconst 0, 1) := by decide +kernel
theorem dX12_terms_9 : decode cX12_terms 9 = .ok (.istore_n 3, 1) := by decide +kernel
theorem dX12_terms_10 : decode cX12_terms 10 = .ok (.iload_n 3, 1) := by decide +kernel
theorem dX12_terms_11 : decode cX12_terms 11 = .ok (.aload_n 0, 1) := by decide +kernel
theorem dX12_terms_12 : decode cX12_terms 12 = .ok (.getfield 7, 3) := by decide +kernel
theorem dX12_terms_15 : decode cX12_terms 15 = .ok (.iconst 3, 1) := by decide +kernel
theorem dX12_terms_16 : decode cX12_terms 16 = .ok (.iaload, 1) := by decide +kernel
theorem dX12_terms_17 : decode cX12_terms 17 = .ok (.if_icmp .ge 90, 3) := by decide +kernel
theorem dX12_terms_20 : decode cX12_terms 20 = .ok (.aload_n 0, 1) := by decide +kernel
theorem dX12_terms_21 : decode cX12_terms 21 = .ok (.iload_n 1, 1) := by decide +kernel
theorem dX12_terms_22 : decode cX12_terms 22 = .ok (.iload_n 3, 1) := by decide +kernel
theorem dX12_terms_23 : decode cX12_terms 23 = .ok (.invokevirtual 315, 3) := by decide +kernel
theorem dX12_terms_26 : decode cX12_terms 26 = .ok (.ifCond .ne 6, 3) := by decide +kernel
theorem dX12_terms_29 : decode cX12_terms 29 = .ok (.goto 72, 3) := by decide +kernel
theorem dX12_terms_32 : decode cX12_terms 32 = .ok (.aload_n 0, 1) := by decide +kernel
theorem dX12_terms_33 : decode cX12_terms 33 = .ok (.iload_n 3, 1) := by decide +kernel
theorem dX12_terms_34 : decode cX12_terms 34 = .ok (.invokevirtual 341, 3) := by decide +kernel
theorem dX12_terms_37 : decode cX12_terms 37 = .ok (.istore 4, 2) := by decide +kernel
theorem dX12_terms_39 : decode cX12_terms 39 = .ok (.iload 4, 2) := by decide +kernel
theorem dX12_terms_41 : decode cX12_terms 41 = .ok (.iconst (-1), 1) := by decide +kernel
theorem dX12_terms_42 : decode cX12_terms 42 = .ok (.if_icmp .ne 7, 3) := by decide +kernel
theorem dX12_terms_45 : decode cX12_terms 45 = .ok (.iconst 0, 1) := by decide +kernel
theorem dX12_terms_46 : decode cX12_terms 46 = .ok (.goto 13, 3) := by decide +kernel
theorem dX12_terms_49 : decode cX12_terms 49 = .ok (.aload_n 0, 1) := by decide +kernel
theorem dX12_terms_50 : decode cX12_terms 50 = .ok (.getfield 7, 3) := by decide +kernel
theorem dX12_terms_53 : decode cX12_terms 53 = .ok (.bipush 10, 2) := by decide +kernel
theorem dX12_terms_55 : decode cX12_terms 55 = .ok (.iload 4, 2) := by decide +kernel
theorem dX12_terms_57 : decode cX12_terms 57 = .ok (.iadd, 1) := by decide +kernel
theorem dX12_terms_58 : decode cX12_terms 58 = .ok (.iaload, 1) := by decide +kernel
theorem dX12_terms_59 : decode cX12_terms 59 = .ok (.istore 5, 2) := by decide +kernel
theorem dX12_terms_61 : decode cX12_terms 61 = .ok (.aload_n 0, 1) := by decide +kernel
theorem dX12_terms_62 : decode cX12_terms 62 = .ok (.getfield 7, 3) := by decide +kernel
theorem dX12_terms_65 : decode cX12_terms 65 = .ok (.iload_n 3, 1) := by decide +kernel
theorem dX12_terms_66 : decode cX12_terms 66 = .ok (.invokestatic 224, 3) := by decide +kernel
theorem dX12_terms_69 : decode cX12_terms 69 = .ok (.iconst 2, 1) := by decide +kernel
theorem dX12_terms_70 : decode cX12_terms 70 = .ok (.iadd, 1) := by decide +kernel
theorem dX12_terms_71 : decode cX12_terms 71 = .ok (.iload 5, 2) := by decide +kernel
theorem dX12_terms_73 : decode cX12_terms 73 = .ok (.ifCond .ne 7, 3) := by decide +kernel
theorem dX12_terms_76 : decode cX12_terms 76 = .ok (.iconst 0, 1) := by decide +kernel
theorem dX12_terms_77 : decode cX12_terms 77 = .ok (.goto 7, 3) := by decide +kernel
theorem dX12_terms_80 : decode cX12_terms 80 = .ok (.iconst 3, 1) := by decide +kernel
theorem dX12_terms_81 : decode cX12_terms 81 = .ok (.iload 5, 2) := by decide +kernel
theorem dX12_terms_83 : decode cX12_terms 83 = .ok (.isub, 1) := by decide +kernel
theorem dX12_terms_84 : decode cX12_terms 84 = .ok (.iastore, 1) := by decide +kernel
theorem dX12_terms_85 : decode cX12_terms 85 = .ok (.iload_n 2, 1) := by decide +kernel
theorem dX12_terms_86 : decode cX12_terms 86 = .ok (.iload 5, 2) := by decide +kernel
theorem dX12_terms_88 : decode cX12_terms 88 = .ok (.iconst 2, 1) := by decide +kernel
theorem dX12_terms_89 : decode cX12_terms 89 = .ok (.if_icmp .ne 9, 3) := by decide +kernel
theorem dX12_terms_92 : decode cX12_terms 92 = .ok (.iconst 1, 1) := by decide +kernel
theorem dX12_terms_93 : decode cX12_terms 93 = .ok (.iload_n 3, 1) := by decide +kernel
theorem dX12_terms_94 : decode cX12_terms 94 = .ok (.ishl, 1) := by decide +kernel
theorem dX12_terms_95 : decode cX12_terms 95 = .ok (.goto 4, 3) := by decide +kernel
theorem dX12_terms_98 : decode cX12_terms 98 = .ok (.iconst 0, 1) := by decide +kernel
theorem dX12_terms_99 : decode cX12_terms 99 = .ok (.ior, 1) := by decide +kernel
theorem dX12_terms_100 : decode cX12_terms 100 = .ok (.istore_n 2, 1) := by decide +kernel
theorem dX12_terms_101 : decode cX12_terms 101 = .ok (.iinc 3 1, 3) := by decide +kernel
theorem dX12_terms_104 : decode cX12_terms 104 = .ok (.goto (-94), 3) := by decide +kernel
theorem dX12_terms_107 : decode cX12_terms 107 = .ok (.iload_n 2, 1) := by decide +kernel
theorem dX12_terms_108 : decode cX12_terms 108 = .ok (.ireturn, 1) := by decide +kernel
set_option maxRecDepth 20000 in
theorem ggX12_isTooMuch_X12_peopleThat : GoodIn wsX12_isTooMuch wsX12_peopleThat := goodIn_r _ [6, 1, 7, 8, 9, 5, 10, 11, 12, 13, 17, 18, 19, 20, 21, 22, 23, 24, 25, 26, 27, 28, 29, 30, 31, 32, 33, 34, 35, 36, 37, 38, 39, 40, 41, 42, 43, 44, 45, 46, 47, 48, 49, 50, 51, 52, 53, 54, 55, 56, 57, 58] (by decide +kernel) (by decide +kernel)
set_option maxRecDepth 20000 in
theorem gX12_isTooMuch_X12_peopleThat : GoodIn wsX12_isTooMuch (wsV RX12 290 RX12 yX12_peopleThat wsX12_peopleThat) := goodIn_app (goodIn_of _ (by decide +kernel)) ggX12_isTooMuch_X12_peopleThat
set_option maxRecDepth 20000 in
theorem ggX12_isTooMuch_X12_bits : GoodIn wsX12_isTooMuch wsX12_bits := goodIn_r _ [16] (by decide +kernel) (by decide +kernel)
set_option maxRecDepth 20000 in
theorem gX12_isTooMuch_X12_bits : GoodIn wsX12_isTooMuch (va_wsS RX12 344 yX12_bits wsX12_bits) := goodIn_app (goodIn_of _ (by decide +kernel)) ggX12_isTooMuch_X12_bits
theorem dX12_isTooMuch_0 : decode cX12_isTooMuch 0 = .ok (.aload_n 0, 1) := by decide +kernel
theorem dX12_isTooMuch_1 : decode cX12_isTooMuch 1 = .ok (.getfield 7, 3) := by decide +kernel
theorem dX12_isTooMuch_4 : decode cX12_isTooMuch 4 = .ok (.bipush 7, 2) := by decide +kernel
theorem dX12_isTooMuch_6 : decode cX12_isTooMuch 6 = .ok (.iaload, 1) := by decide +kernel
theorem dX12_isTooMuch_7 : decode cX12_isTooMuch 7 = .ok (.aload_n 0, 1) := by decide +kernel
theorem dX12_isTooMuch_8 : decode cX12_isTooMuch 8 = .ok (.iconst 0, 1) := by decide +kernel
theorem dX12_isTooMuch_9 : decode cX12_isTooMuch 9 = .ok (.invokevirtual 290, 3) := by decide +kernel
theorem dX12_isTooMuch_12 : decode cX12_isTooMuch 12 = .ok (.invokestatic 344, 3) := by decide +kernel
theorem dX12_isTooMuch_15 : decode cX12_isTooMuch 15 = .ok (.iadd, 1) := by decide +kernel
theorem dX12_isTooMuch_16 : decode cX12_isTooMuch 16 = .ok (.sipush 9999, 3) := by decide +kernel
theorem dX12_isTooMuch_19 : decode cX12_isTooMuch 19 = .ok (.if_icmp .le 7, 3) := by decide +kernel
theorem dX12_isTooMuch_22 : decode cX12_isTooMuch 22 = .ok (.iconst 1, 1) := by decide +kernel
theorem dX12_isTooMuch_23 : decode cX12_isTooMuch 23 = .ok (.goto 4, 3) := by decide +kernel
theorem dX12_isTooMuch_26 : decode cX12_isTooMuch 26 = .ok (.iconst 0, 1) := by decide +kernel
theorem dX12_isTooMuch_27 : decode cX12_isTooMuch 27 = .ok (.ireturn, 1) := by decide +kernel
set_option maxRecDepth 20000 in
theorem ggX12_term_X12_isTooMuch : GoodIn wsX12_term wsX12_isTooMuch := goodIn_r _ [5, 6, 7, 8, 9, 4, 10, 11, 12, 13, 14, 15, 16, 17, 18, 19, 20, 72, 73, 74, 75, 76, 77, 78, 79, 80, 81, 82, 83, 84, 85, 86, 87, 88, 89, 90, 91, 92, 93, 94, 95, 96, 97, 98, 99, 100, 101, 102, 103, 104, 105, 106, 107, 108, 109, 110, 111, 112, 113] (by decide +kernel) (by decide +kernel)
set_option maxRecDepth 20000 in
theorem gX12_term_X12_isTooMuch : GoodIn wsX12_term (wsV RX12 347 RX12 yX12_isTooMuch wsX12_isTooMuch) := goodIn_app (goodIn_of _ (by decide +kernel)) ggX12_term_X12_isTooMuch
set_option maxRecDepth 20000 in
theorem ggX12_term_X12_refuse : GoodIn wsX12_term wsX12_refuse := goodIn_r _ [24, 25, 72, 73, 74, 75, 76, 77, 78, 79, 80, 81, 82, 83, 84, 85, 86, 87, 88, 89, 90, 91, 92, 93, 94, 95, 96, 97, 98, 99, 100, 101, 102, 103, 104, 105, 106, 107, 108, 109, 110, 111, 112, 113] (by decide +kernel) (by decide +kernel)
set_option maxRecDepth 20000 in
theorem gX12_term_X12_refuse : GoodIn wsX12_term (wsV RX12 91 RX12 yX12_refuse wsX12_refuse) := goodIn_app (goodIn_of _ (by decide +kernel)) ggX12_term_X12_refuse
set_option maxRecDepth 20000 in
theorem ggX12_term_X12_peopleThat : GoodIn wsX12_term wsX12_peopleThat := goodIn_r _ [10, 6, 11, 12, 13, 4, 14, 15, 16, 17, 72, 73, 74, 75, 76, 77, 78, 79, 80, 81, 82, 83, 84, 85, 86, 87, 88, 89, 90, 91, 92, 93, 94, 95, 96, 97, 98, 99, 100, 101, 102, 103, 104, 105, 106, 107, 108, 109, 110, 111, 112, 113] (by decide +kernel) (by decide +kernel)
set_option maxRecDepth 20000 in
theorem gX12_term_X12_peopleThat : GoodIn wsX12_term (wsV RX12 290 RX12 yX12_peopleThat wsX12_peopleThat) := goodIn_app (goodIn_of _ (by decide +kernel)) ggX12_term_X12_peopleThat
set_option maxRecDepth 20000 in
theorem ggX12_term_X12_terms : GoodIn wsX12_term wsX12_terms := goodIn_r _ [29, 6, 7, 8, 9, 4, 10, 11, 12, 13, 14, 15, 16, 17, 30, 31, 32, 33, 34, 35, 36, 37, 38, 39, 40, 41, 42, 43, 44, 45, 46, 47, 48, 49, 50, 51, 52, 53, 54, 55, 56, 57, 58, 59, 60, 61, 62, 63, 64, 65, 66, 67, 72, 73, 74, 75, 76, 77, 78, 79, 80, 81, 82, 83, 84, 85, 86, 87, 88, 89, 90, 91, 92, 93, 94, 95, 96, 97, 98, 99, 100, 101, 102, 103, 104, 105, 106, 107, 108, 109, 110, 111, 112, 113] (by decide +kernel) (by decide +kernel)
set_option maxRecDepth 20000 in
theorem gX12_term_X12_terms : GoodIn wsX12_term (wsV RX12 350 RX12 yX12_terms wsX12_terms) := goodIn_app (goodIn_of _ (by decide +kernel)) ggX12_term_X12_terms
set_option maxRecDepth 20000 in
theorem ggX12_term_X12_gives : GoodIn wsX12_term wsX12_gives := goodIn_r _ [71, 25, 72, 73, 74, 75, 76, 77, 78, 79, 80, 81, 82, 83, 84, 85, 86, 87, 88, 89, 90, 91, 92, 93, 94, 95, 96, 97, 98, 99, 100, 101, 102, 103, 104, 105, 106, 107, 108, 109, 110, 111, 112, 113] (by decide +kernel) (by decide +kernel)
set_option maxRecDepth 20000 in
theorem gX12_term_X12_gives : GoodIn wsX12_term (wsV RX12 95 RX12 yX12_gives wsX12_gives) := goodIn_app (goodIn_of _ (by decide +kernel)) ggX12_term_X12_gives
theorem dX12_term_0 : decode cX12_term 0 = .ok (.aload_n 0, 1) := by decide +kernel
theorem dX12_term_1 : decode cX12_term 1 = .ok (.invokevirtual 347, 3) := by decide +kernel
theorem dX12_term_4 : decode cX12_term 4 = .ok (.ifCond .eq 9, 3) := by decide +kernel
theorem dX12_term_7 : decode cX12_term 7 = .ok (.aload_n 0, 1) := by decide +kernel
theorem dX12_term_8 : decode cX12_term 8 = .ok (.iconst 4, 1) := by decide +kernel
theorem dX12_term_9 : decode cX12_term 9 = .ok (.invokevirtual 91, 3) := by decide +kernel
theorem dX12_term_12 : decode cX12_term 12 = .ok (.ireturn, 1) := by decide +kernel
theorem dX12_term_13 : decode cX12_term 13 = .ok (.aload_n 0, 1) := by decide +kernel
theorem dX12_term_14 : decode cX12_term 14 = .ok (.iconst 0, 1) := by decide +kernel
theorem dX12_term_15 : decode cX12_term 15 = .ok (.invokevirtual 290, 3) := by decide +kernel
theorem dX12_term_18 : decode cX12_term 18 = .ok (.ifCond .ne 12, 3) := by decide +kernel
theorem dX12_term_21 : decode cX12_term 21 = .ok (.aload_n 0, 1) := by decide +kernel
theorem dX12_term_22 : decode cX12_term 22 = .ok (.bipush 7, 2) := by decide +kernel
theorem dX12_term_24 : decode cX12_term 24 = .ok (.invokevirtual 91, 3) := by decide +kernel
theorem dX12_term_27 : decode cX12_term 27 = .ok (.goto 11, 3) := by decide +kernel
theorem dX12_term_30 : decode cX12_term 30 = .ok (.aload_n 0, 1) := by decide +kernel
theorem dX12_term_31 : decode cX12_term 31 = .ok (.aload_n 0, 1) := by decide +kernel
theorem dX12_term_32 : decode cX12_term 32 = .ok (.invokevirtual 350, 3) := by decide +kernel
theorem dX12_term_35 : decode cX12_term 35 = .ok (.invokevirtual 95, 3) := by decide +kernel
theorem dX12_term_38 : decode cX12_term 38 = .ok (.ireturn, 1) := by decide +kernel
set_option maxRecDepth 20000 in
theorem ggX12_meals_X12_personRow : GoodIn wsX12_meals wsX12_personRow := goodIn_r _ [9] (by decide +kernel) (by decide +kernel)
set_option maxRecDepth 20000 in
theorem gX12_meals_X12_personRow : GoodIn wsX12_meals (va_wsS RX12 224 yX12_personRow wsX12_personRow) := goodIn_app (goodIn_of _ (by decide +kernel)) ggX12_meals_X12_personRow
theorem dX12_meals_0 : decode cX12_meals 0 = .ok (.iload_n 1, 1) := by decide +kernel
theorem dX12_meals_1 : decode cX12_meals 1 = .ok (.invokestatic 224, 3) := by decide +kernel
theorem dX12_meals_4 : decode cX12_meals 4 = .ok (.istore_n 3, 1) := by decide +kernel
theorem dX12_meals_5 : decode cX12_meals 5 = .ok (.aload_n 0, 1) := by decide +kernel
theorem dX12_meals_6 : decode cX12_meals 6 = .ok (.getfield 7, 3) := by decide +kernel
theorem dX12_meals_9 : decode cX12_meals 9 = .ok (.iload_n 3, 1) := by decide +kernel
theorem dX12_meals_10 : decode cX12_meals 10 = .ok (.iaload, 1) := by decide +kernel
theorem dX12_meals_11 : decode cX12_meals 11 = .ok (.bipush 99, 2) := by decide +kernel
theorem dX12_meals_13 : decode cX12_meals 13 = .ok (.if_icmp .ne 5, 3) := by decide +kernel
theorem dX12_meals_16 : decode cX12_meals 16 = .ok (.iconst 0, 1) := by decide +kernel
theorem dX12_meals_17 : decode cX12_meals 17 = .ok (.ireturn, 1) := by decide +kernel
theorem dX12_meals_18 : decode cX12_meals 18 = .ok (.aload_n 0, 1) := by decide +kernel
theorem dX12_meals_19 : decode cX12_meals 19 = .ok (.getfield 7, 3) := by decide +kernel
theorem dX12_meals_22 : decode cX12_meals 22 = .ok (.iload_n 3, 1) := by decide +kernel
theorem dX12_meals_23 : decode cX12_meals 23 = .ok (.bipush 99, 2) := by decide +kernel
theorem dX12_meals_25 : decode cX12_meals 25 = .ok (.aload_n 0, 1) := by decide +kernel
theorem dX12_meals_26 : decode cX12_meals 26 = .ok (.getfield 7, 3) := by decide +kernel
theorem dX12_meals_29 : decode cX12_meals 29 = .ok (.iload_n 3, 1) := by decide +kernel
theorem dX12_meals_30 : decode cX12_meals 30 = .ok (.iaload, 1) := by decide +kernel
theorem dX12_meals_31 : decode cX12_meals 31 = .ok (.iload_n 2, 1) := by decide +kernel
theorem dX12_meals_32 : decode cX12_meals 32 = .ok (.iadd, 1) := by decide +kernel
theorem dX12_meals_33 : decode cX12_meals 33 = .ok (.invokestatic 146, 3) := by decide +kernel
theorem dX12_meals_36 : decode cX12_meals 36 = .ok (.iastore, 1) := by decide +kernel
theorem dX12_meals_37 : decode cX12_meals 37 = .ok (.iconst 1, 1) := by decide +kernel
theorem dX12_meals_38 : decode cX12_meals 38 = .ok (.ireturn, 1) := by decide +kernel
set_option maxRecDepth 20000 in
theorem ggX12_meal_X12_isPerson : GoodIn wsX12_meal wsX12_isPerson := goodIn_r _ [6, 7, 35, 36, 37, 38, 39, 40, 41, 42, 43, 44, 45, 46, 47, 48, 49, 50, 51, 52, 53, 54, 55, 56, 57, 58, 59, 60, 61, 62, 63, 64, 65, 66, 67, 68, 69, 70, 71, 72, 73, 74, 75, 76] (by decide +kernel) (by decide +kernel)
set_option maxRecDepth 20000 in
theorem gX12_meal_X12_isPerson : GoodIn wsX12_meal (wsV RX12 305 RX12 yX12_isPerson wsX12_isPerson) := goodIn_app (goodIn_of _ (by decide +kernel)) ggX12_meal_X12_isPerson
set_option maxRecDepth 20000 in
theorem ggX12_meal_X12_isFrom : GoodIn wsX12_meal wsX12_isFrom := goodIn_r _ [10] (by decide +kernel) (by decide +kernel)
set_option maxRecDepth 20000 in
theorem gX12_meal_X12_isFrom : GoodIn wsX12_meal (va_wsS RX12 337 yX12_isFrom wsX12_isFrom) := goodIn_app (goodIn_of _ (by decide +kernel)) ggX12_meal_X12_isFrom
set_option maxRecDepth 20000 in
theorem ggX12_meal_X12_refuse : GoodIn wsX12_meal wsX12_refuse := goodIn_r _ [14, 15, 35, 36, 37, 38, 39, 40, 41, 42, 43, 44, 45, 46, 47, 48, 49, 50, 51, 52, 53, 54, 55, 56, 57, 58, 59, 60, 61, 62, 63, 64, 65, 66, 67, 68, 69, 70, 71, 72, 73, 74, 75, 76] (by decide +kernel) (by decide +kernel)
set_option maxRecDepth 20000 in
theorem gX12_meal_X12_refuse : GoodIn wsX12_meal (wsV RX12 91 RX12 yX12_refuse wsX12_refuse) := goodIn_app (goodIn_of _ (by decide +kernel)) ggX12_meal_X12_refuse
set_option maxRecDepth 20000 in
theorem ggX12_meal_X12_meals : GoodIn wsX12_meal wsX12_meals := goodIn_r _ [19, 7, 20, 21, 22, 23, 24, 25, 5, 26, 35, 36, 37, 38, 39, 40, 41, 42, 43, 44, 45, 46, 47, 48, 49, 50, 51, 52, 53, 54, 55, 56, 57, 58, 59, 60, 61, 62, 63, 64, 65, 66, 67, 68, 69, 70, 71, 72, 73, 74, 75, 76] (by decide +kernel) (by decide +kernel)
set_option maxRecDepth 20000 in
theorem gX12_meal_X12_meals : GoodIn wsX12_meal (wsV RX12 355 RX12 yX12_meals wsX12_meals) := goodIn_app (goodIn_of _ (by decide +kernel)) ggX12_meal_X12_meals
set_option maxRecDepth 20000 in
theorem ggX12_meal_X12_personOf : GoodIn wsX12_meal wsX12_personOf := goodIn_r _ [30, 7, 24, 25, 5, 26, 35, 36, 37, 38, 39, 40, 41, 42, 43, 44, 45, 46, 47, 48, 49, 50, 51, 52, 53, 54, 55, 56, 57, 58, 59, 60, 61, 62, 63, 64, 65, 66, 67, 68, 69, 70, 71, 72, 73, 74, 75, 76] (by decide +kernel) (by decide +kernel)
set_option maxRecDepth 20000 in
theorem gX12_meal_X12_personOf : GoodIn wsX12_meal (wsV RX12 281 RX12 yX12_personOf wsX12_personOf) := goodIn_app (goodIn_of _ (by decide +kernel)) ggX12_meal_X12_personOf
set_option maxRecDepth 20000 in
theorem ggX12_meal_X12_gives : GoodIn wsX12_meal wsX12_gives := goodIn_r _ [34, 15, 35, 36, 37, 38, 39, 40, 41, 42, 43, 44, 45, 46, 47, 48, 49, 50, 51, 52, 53, 54, 55, 56, 57, 58, 59, 60, 61, 62, 63, 64, 65, 66, 67, 68, 69, 70, 71, 72, 73, 74, 75, 76] (by decide +kernel) (by decide +kernel)
set_option maxRecDepth 20000 in
theorem gX12_meal_X12_gives : GoodIn wsX12_meal (wsV RX12 95 RX12 yX12_gives wsX12_gives) := goodIn_app (goodIn_of _ (by decide +kernel)) ggX12_meal_X12_gives
theorem dX12_meal_0 : decode cX12_meal 0 = .ok (.aload_n 0, 1) := by decide +kernel
theorem dX12_meal_1 : decode cX12_meal 1 = .ok (.iload_n 1, 1) := by decide +kernel
theorem dX12_meal_2 : decode cX12_meal 2 = .ok (.i2l, 1) := by decide +kernel
theorem dX12_meal_3 : decode cX12_meal 3 = .ok (.invokevirtual 305, 3) := by decide +kernel
theorem dX12_meal_6 : decode cX12_meal 6 = .ok (.ifCond .eq 15, 3) := by decide +kernel
theorem dX12_meal_9 : decode cX12_meal 9 = .ok (.iload_n 2, 1) := by decide +kernel
theorem dX12_meal_10 : decode cX12_meal 10 = .ok (.i2l, 1) := by decide +kernel
theorem dX12_meal_11 : decode cX12_meal 11 = .ok (.lconst 1, 1) := by decide +kernel
theorem dX12_meal_12 : decode cX12_meal 12 = .ok (.ldc2_w 353, 3) := by decide +kernel
theorem dX12_meal_15 : decode cX12_meal 15 = .ok (.invokestatic 337, 3) := by decide +kernel
theorem dX12_meal_18 : decode cX12_meal 18 = .ok (.ifCond .ne 9, 3) := by decide +kernel
theorem dX12_meal_21 : decode cX12_meal 21 = .ok (.aload_n 0, 1) := by decide +kernel
theorem dX12_meal_22 : decode cX12_meal 22 = .ok (.iconst 1, 1) := by decide +kernel
theorem dX12_meal_23 : decode cX12_meal 23 = .ok (.invokevirtual 91, 3) := by decide +kernel
theorem dX12_meal_26 : decode cX12_meal 26 = .ok (.ireturn, 1) := by decide +kernel
theorem dX12_meal_27 : decode cX12_meal 27 = .ok (.aload_n 0, 1) := by decide +kernel
theorem dX12_meal_28 : decode cX12_meal 28 = .ok (.iload_n 1, 1) := by decide +kernel
theorem dX12_meal_29 : decode cX12_meal 29 = .ok (.iload_n 2, 1) := by decide +kernel
theorem dX12_meal_30 : decode cX12_meal 30 = .ok (.invokevirtual 355, 3) := by decide +kernel
theorem dX12_meal_33 : decode cX12_meal 33 = .ok (.ifCond .eq 16, 3) := by decide +kernel
theorem dX12_meal_36 : decode cX12_meal 36 = .ok (.aload_n 0, 1) := by decide +kernel
theorem dX12_meal_37 : decode cX12_meal 37 = .ok (.aload_n 0, 1) := by decide +kernel
theorem dX12_meal_38 : decode cX12_meal 38 = .ok (.iload_n 1, 1) := by decide +kernel
theorem dX12_meal_39 : decode cX12_meal 39 = .ok (.iconst 0, 1) := by decide +kernel
theorem dX12_meal_40 : decode cX12_meal 40 = .ok (.invokevirtual 281, 3) := by decide +kernel
theorem dX12_meal_43 : decode cX12_meal 43 = .ok (.invokevirtual 95, 3) := by decide +kernel
theorem dX12_meal_46 : decode cX12_meal 46 = .ok (.goto 9, 3) := by decide +kernel
theorem dX12_meal_49 : decode cX12_meal 49 = .ok (.aload_n 0, 1) := by decide +kernel
theorem dX12_meal_50 : decode cX12_meal 50 = .ok (.bipush 7, 2) := by decide +kernel
theorem dX12_meal_52 : decode cX12_meal 52 = .ok (.invokevirtual 91, 3) := by decide +kernel
theorem dX12_meal_55 : decode cX12_meal 55 = .ok (.ireturn, 1) := by decide +kernel
set_option maxRecDepth 20000 in
theorem ggX12_scents_X12_personOf : GoodIn wsX12_scents wsX12_personOf := goodIn_r _ [6, 1, 7, 8, 5, 9, 14, 15, 16, 17, 18, 19, 20, 21, 22, 23, 24, 25, 26, 27, 28, 29, 30, 31, 32, 33, 34, 35, 36, 37, 38, 39, 40, 41, 42, 43, 44, 45, 46, 47, 48, 49, 50, 51, 52, 53, 54, 55] (by decide +kernel) (by decide +kernel)
set_option maxRecDepth 20000 in
theorem gX12_scents_X12_personOf : GoodIn wsX12_scents (wsV RX12 281 RX12 yX12_personOf wsX12_personOf) := goodIn_app (goodIn_of _ (by decide +kernel)) ggX12_scents_X12_personOf
set_option maxRecDepth 20000 in
theorem ggX12_scents_X12_isIn : GoodIn wsX12_scents wsX12_isIn := goodIn_r _ [13] (by decide +kernel) (by decide +kernel)
set_option maxRecDepth 20000 in
theorem gX12_scents_X12_isIn : GoodIn wsX12_scents (wsV RX12 315 RX12 yX12_isIn wsX12_isIn) := goodIn_app (goodIn_of _ (by decide +kernel)) ggX12_scents_X12_isIn
set_option maxRecDepth 20000 in
theorem ggX12_scents_X12_personRow : GoodIn wsX12_scents wsX12_personRow := goodIn_r _ [9] (by decide +kernel) (by decide +kernel)
set_option maxRecDepth 20000 in
theorem gX12_scents_X12_personRow : GoodIn wsX12_scents (va_wsS RX12 224 yX12_personRow wsX12_personRow) := goodIn_app (goodIn_of _ (by decide +kernel)) ggX12_scents_X12_personRow
theorem dX12_scents_0 : decode cX12_scents 0 = .ok (.aload_n 0, 1) := by decide +kernel
theorem dX12_scents_1 : decode cX12_scents 1 = .ok (.aload_n 0, 1) := by decide +kernel
theorem dX12_scents_2 : decode cX12_scents 2 = .ok (.iload_n 1, 1) := by decide +kernel
theorem dX12_scents_3 : decode cX12_scents 3 = .ok (.iconst 1, 1) := by decide +kernel
theorem dX12_scents_4 : decode cX12_scents 4 = .ok (.invokevirtual 281, 3) := by decide +kernel
theorem dX12_scents_7 : decode cX12_scents 7 = .ok (.iload_n 2, 1) := by decide +kernel
theorem dX12_scents_8 : decode cX12_scents 8 = .ok (.invokevirtual 315, 3) := by decide +kernel
theorem dX12_scents_11 : decode cX12_scents 11 = .ok (.iload_n 3, 1) := by decide +kernel
theorem dX12_scents_12 : decode cX12_scents 12 = .ok (.if_icmp .ne 5, 3) := by decide +kernel
theorem dX12_scents_15 : decode cX12_scents 15 = .ok (.iconst 0, 1) := by decide +kernel
theorem dX12_scents_16 : decode cX12_scents 16 = .ok (.ireturn, 1) := by decide +kernel
theorem dX12_scents_17 : decode cX12_scents 17 = .ok (.aload_n 0, 1) := by decide +kernel
theorem dX12_scents_18 : decode cX12_scents 18 = .ok (.getfield 7, 3) := by decide +kernel
theorem dX12_scents_21 : decode cX12_scents 21 = .ok (.iload_n 1, 1) := by decide +kernel
theorem dX12_scents_22 : decode cX12_scents 22 = .ok (.invokestatic 224, 3) := by decide +kernel
theorem dX12_scents_25 : decode cX12_scents 25 = .ok (.iconst 1, 1) := by decide +kernel
theorem dX12_scents_26 : decode cX12_scents 26 = .ok (.iadd, 1) := by decide +kernel
theorem dX12_scents_27 : decode cX12_scents 27 = .ok (.dup2, 1) := by decide +kernel
theorem dX12_scents_28 : decode cX12_scents 28 = .ok (.iaload, 1) := by decide +kernel
theorem dX12_scents_29 : decode cX12_scents 29 = .ok (.iconst 1, 1) := by decide +kernel
theorem dX12_scents_30 : decode cX12_scents 30 = .ok (.iload_n 2, 1) := by decide +kernel
theorem dX12_scents_31 : decode cX12_scents 31 = .ok (.ishl, 1) := by decide +kernel
theorem dX12_scents_32 : decode cX12_scents 32 = .ok (.ixor, 1) := by decide +kernel
theorem dX12_scents_33 : decode cX12_scents 33 = .ok (.iastore, 1) := by decide +kernel
theorem dX12_scents_34 : decode cX12_scents 34 = .ok (.iconst 1, 1) := by decide +kernel
theorem dX12_scents_35 : decode cX12_scents 35 = .ok (.ireturn, 1) := by decide +kernel
set_option maxRecDepth 20000 in
theorem ggX12_scent_X12_isPerson : GoodIn wsX12_scent wsX12_isPerson := goodIn_r _ [5, 6, 31, 32, 33, 34, 35, 36, 37, 38, 39, 40, 41, 42, 43, 44, 45, 46, 47, 48, 49, 50, 51, 52, 53, 54, 55, 56, 57, 58, 59, 60, 61, 62, 63, 64, 65, 66, 67, 68, 69, 70, 71, 72] (by decide +kernel) (by decide +kernel)
set_option maxRecDepth 20000 in
theorem gX12_scent_X12_isPerson : GoodIn wsX12_scent (wsV RX12 305 RX12 yX12_isPerson wsX12_isPerson) := goodIn_app (goodIn_of _ (by decide +kernel)) ggX12_scent_X12_isPerson
set_option maxRecDepth 20000 in
theorem ggX12_scent_X12_isSmell : GoodIn wsX12_scent wsX12_isSmell := goodIn_r _ [10, 6, 31, 32, 33, 34, 35, 36, 37, 38, 39, 40, 41, 42, 43, 44, 45, 46, 47, 48, 49, 50, 51, 52, 53, 54, 55, 56, 57, 58, 59, 60, 61, 62, 63, 64, 65, 66, 67, 68, 69, 70, 71, 72] (by decide +kernel) (by decide +kernel)
set_option maxRecDepth 20000 in
theorem gX12_scent_X12_isSmell : GoodIn wsX12_scent (wsV RX12 358 RX12 yX12_isSmell wsX12_isSmell) := goodIn_app (goodIn_of _ (by decide +kernel)) ggX12_scent_X12_isSmell
set_option maxRecDepth 20000 in
theorem ggX12_scent_X12_is : GoodIn wsX12_scent wsX12_is := goodIn_r _ [14, 15, 31, 32, 33, 34, 35, 36, 37, 38, 39, 40, 41, 42, 43, 44, 45, 46, 47, 48, 49, 50, 51, 52, 53, 54, 55, 56, 57, 58, 59, 60, 61, 62, 63, 64, 65, 66, 67, 68, 69, 70, 71, 72] (by decide +kernel) (by decide +kernel)
set_option maxRecDepth 20000 in
theorem gX12_scent_X12_is : GoodIn wsX12_scent (wsV RX12 98 RX12 yX12_is wsX12_is) := goodIn_app (goodIn_of _ (by decide +kernel)) ggX12_scent_X12_is
set_option maxRecDepth 20000 in
theorem ggX12_scent_X12_scents : GoodIn wsX12_scent wsX12_scents := goodIn_r _ [19, 6, 20, 21, 22, 4, 23, 24, 25, 26, 27, 28, 29, 30, 31, 32, 33, 34, 35, 36, 37, 38, 39, 40, 41, 42, 43, 44, 45, 46, 47, 48, 49, 50, 51, 52, 53, 54, 55, 56, 57, 58, 59, 60, 61, 62, 63, 64, 65, 66, 67, 68, 69, 70, 71, 72] (by decide +kernel) (by decide +kernel)
set_option maxRecDepth 20000 in
theorem gX12_scent_X12_scents : GoodIn wsX12_scent (wsV RX12 361 RX12 yX12_scents wsX12_scents) := goodIn_app (goodIn_of _ (by decide +kernel)) ggX12_scent_X12_scents
theorem dX12_scent_0 : decode cX12_scent 0 = .ok (.aload_n 0, 1) := by decide +kernel
theorem dX12_scent_1 : decode cX12_scent 1 = .ok (.iload_n 1, 1) := by decide +kernel
theorem dX12_scent_2 : decode cX12_scent 2 = .ok (.i2l, 1) := by decide +kernel
theorem dX12_scent_3 : decode cX12_scent 3 = .ok (.invokevirtual 305, 3) := by decide +kernel
theorem dX12_scent_6 : decode cX12_scent 6 = .ok (.ifCond .eq 11, 3) := by decide +kernel
theorem dX12_scent_9 : decode cX12_scent 9 = .ok (.aload_n 0, 1) := by decide +kernel
theorem dX12_scent_10 : decode cX12_scent 10 = .ok (.iload_n 2, 1) := by decide +kernel
theorem dX12_scent_11 : decode cX12_scent 11 = .ok (.invokevirtual 358, 3) := by decide +kernel
theorem dX12_scent_14 : decode cX12_scent 14 = .ok (.ifCond .ne 9, 3) := by decide +kernel
theorem dX12_scent_17 : decode cX12_scent 17 = .ok (.aload_n 0, 1) := by decide +kernel
theorem dX12_scent_18 : decode cX12_scent 18 = .ok (.iconst 1, 1) := by decide +kernel
theorem dX12_scent_19 : decode cX12_scent 19 = .ok (.invokevirtual 98, 3) := by decide +kernel
theorem dX12_scent_22 : decode cX12_scent 22 = .ok (.ireturn, 1) := by decide +kernel
theorem dX12_scent_23 : decode cX12_scent 23 = .ok (.aload_n 0, 1) := by decide +kernel
theorem dX12_scent_24 : decode cX12_scent 24 = .ok (.aload_n 0, 1) := by decide +kernel
theorem dX12_scent_25 : decode cX12_scent 25 = .ok (.iload_n 1, 1) := by decide +kernel
theorem dX12_scent_26 : decode cX12_scent 26 = .ok (.iload_n 2, 1) := by decide +kernel
theorem dX12_scent_27 : decode cX12_scent 27 = .ok (.iload_n 3, 1) := by decide +kernel
theorem dX12_scent_28 : decode cX12_scent 28 = .ok (.invokevirtual 361, 3) := by decide +kernel
theorem dX12_scent_31 : decode cX12_scent 31 = .ok (.ifCond .eq 7, 3) := by decide +kernel
theorem dX12_scent_34 : decode cX12_scent 34 = .ok (.iconst 0, 1) := by decide +kernel
theorem dX12_scent_35 : decode cX12_scent 35 = .ok (.goto 5, 3) := by decide +kernel
theorem dX12_scent_38 : decode cX12_scent 38 = .ok (.bipush 7, 2) := by decide +kernel
theorem dX12_scent_40 : decode cX12_scent 40 = .ok (.invokevirtual 98, 3) := by decide +kernel
theorem dX12_scent_43 : decode cX12_scent 43 = .ok (.ireturn, 1) := by decide +kernel
theorem dX12_nights_0 : decode cX12_nights 0 = .ok (.aload_n 0, 1) := by decide +kernel
theorem dX12_nights_1 : decode cX12_nights 1 = .ok (.getfield 7, 3) := by decide +kernel
theorem dX12_nights_4 : decode cX12_nights 4 = .ok (.bipush 6, 2) := by decide +kernel
theorem dX12_nights_6 : decode cX12_nights 6 = .ok (.iaload, 1) := by decide +kernel
theorem dX12_nights_7 : decode cX12_nights 7 = .ok (.ifCond .le 7, 3) := by decide +kernel
theorem dX12_nights_10 : decode cX12_nights 10 = .ok (.iconst 1, 1) := by decide +kernel
theorem dX12_nights_11 : decode cX12_nights 11 = .ok (.goto 4, 3) := by decide +kernel
theorem dX12_nights_14 : decode cX12_nights 14 = .ok (.iconst 0, 1) := by decide +kernel
theorem dX12_nights_15 : decode cX12_nights 15 = .ok (.istore_n 1, 1) := by decide +kernel
theorem dX12_nights_16 : decode cX12_nights 16 = .ok (.aload_n 0, 1) := by decide +kernel
theorem dX12_nights_17 : decode cX12_nights 17 = .ok (.getfield 7, 3) := by decide +kernel
theorem dX12_nights_20 : decode cX12_nights 20 = .ok (.bipush 6, 2) := by decide +kernel
theorem dX12_nights_22 : decode cX12_nights 22 = .ok (.iconst 0, 1) := by decide +kernel
theorem dX12_nights_23 : decode cX12_nights 23 = .ok (.iastore, 1) := by decide +kernel
theorem dX12_nights_24 : decode cX12_nights 24 = .ok (.iload_n 1, 1) := by decide +kernel
theorem dX12_nights_25 : decode cX12_nights 25 = .ok (.ireturn, 1) := by decide +kernel
set_option maxRecDepth 20000 in
theorem ggX12_night_X12_nights : GoodIn wsX12_night wsX12_nights := goodIn_r _ [6, 1, 16, 17, 18, 19, 20, 21, 22, 23, 24, 25, 26, 27, 28, 29, 30, 31, 32, 33, 34, 35, 36, 37, 38, 39, 40, 41, 42, 43, 44, 45, 46, 47, 48, 49, 50, 51, 52, 53, 54, 55, 56, 57] (by decide +kernel) (by decide +kernel)
set_option maxRecDepth 20000 in
theorem gX12_night_X12_nights : GoodIn wsX12_night (wsV RX12 365 RX12 yX12_nights wsX12_nights) := goodIn_app (goodIn_of _ (by decide +kernel)) ggX12_night_X12_nights
set_option maxRecDepth 20000 in
theorem ggX12_night_X12_gives : GoodIn wsX12_night wsX12_gives := goodIn_r _ [10, 11, 16, 17, 18, 19, 20, 21, 22, 23, 24, 25, 26, 27, 28, 29, 30, 31, 32, 33, 34, 35, 36, 37, 38, 39, 40, 41, 42, 43, 44, 45, 46, 47, 48, 49, 50, 51, 52, 53, 54, 55, 56, 57] (by decide +kernel) (by decide +kernel)
set_option maxRecDepth 20000 in
theorem gX12_night_X12_gives : GoodIn wsX12_night (wsV RX12 95 RX12 yX12_gives wsX12_gives) := goodIn_app (goodIn_of _ (by decide +kernel)) ggX12_night_X12_gives
set_option maxRecDepth 20000 in
theorem ggX12_night_X12_refuse : GoodIn wsX12_night wsX12_refuse := goodIn_r _ [15, 11, 16, 17, 18, 19, 20, 21, 22, 23, 24, 25, 26, 27, 28, 29, 30, 31, 32, 33, 34, 35, 36, 37, 38, 39, 40, 41, 42, 43, 44, 45, 46, 47, 48, 49, 50, 51, 52, 53, 54, 55, 56, 57] (by decide +kernel) (by decide +kernel)
set_option maxRecDepth 20000 in
theorem gX12_night_X12_refuse : GoodIn wsX12_night (wsV RX12 91 RX12 yX12_refuse wsX12_refuse) := goodIn_app (goodIn_of _ (by decide +kernel)) ggX12_night_X12_refuse
theorem dX12_night_0 : decode cX12_night 0 = .ok (.aload_n 0, 1) := by decide +kernel
theorem dX12_night_1 : decode cX12_night 1 = .ok (.getfield 7, 3) := by decide +kernel
theorem dX12_night_4 : decode cX12_night 4 = .ok (.bipush 6, 2) := by decide +kernel
theorem dX12_night_6 : decode cX12_night 6 = .ok (.iaload, 1) := by decide +kernel
theorem dX12_night_7 : decode cX12_night 7 = .ok (.istore_n 1, 1) := by decide +kernel
theorem dX12_night_8 : decode cX12_night 8 = .ok (.aload_n 0, 1) := by decide +kernel
theorem dX12_night_9 : decode cX12_night 9 = .ok (.invokevirtual 365, 3) := by decide +kernel
theorem dX12_night_12 : decode cX12_night 12 = .ok (.ifCond .eq 11, 3) := by decide +kernel
theorem dX12_night_15 : decode cX12_night 15 = .ok (.aload_n 0, 1) := by decide +kernel
theorem dX12_night_16 : decode cX12_night 16 = .ok (.iload_n 1, 1) := by decide +kernel
theorem dX12_night_17 : decode cX12_night 17 = .ok (.invokevirtual 95, 3) := by decide +kernel
theorem dX12_night_20 : decode cX12_night 20 = .ok (.goto 9, 3) := by decide +kernel
theorem dX12_night_23 : decode cX12_night 23 = .ok (.aload_n 0, 1) := by decide +kernel
theorem dX12_night_24 : decode cX12_night 24 = .ok (.bipush 7, 2) := by decide +kernel
theorem dX12_night_26 : decode cX12_night 26 = .ok (.invokevirtual 91, 3) := by decide +kernel
theorem dX12_night_29 : decode cX12_night 29 = .ok (.ireturn, 1) := by decide +kernel
set_option maxRecDepth 20000 in
theorem ggX12_appeal_X12_isPerson : GoodIn wsX12_appeal wsX12_isPerson := goodIn_r _ [6, 1, 23, 24, 25, 26, 27, 28, 29, 30, 31, 32, 33, 34, 35, 36, 37, 38, 39, 40, 41, 42, 43, 44, 45, 46, 47, 48, 49, 50, 51, 52, 53, 54, 55, 56, 57, 58, 59, 60, 61, 62, 63, 64] (by decide +kernel) (by decide +kernel)
set_option maxRecDepth 20000 in
theorem gX12_appeal_X12_isPerson : GoodIn wsX12_appeal (wsV RX12 305 RX12 yX12_isPerson wsX12_isPerson) := goodIn_app (goodIn_of _ (by decide +kernel)) ggX12_appeal_X12_isPerson
set_option maxRecDepth 20000 in
theorem ggX12_appeal_X12_refuse : GoodIn wsX12_appeal wsX12_refuse := goodIn_r _ [10, 11, 23, 24, 25, 26, 27, 28, 29, 30, 31, 32, 33, 34, 35, 36, 37, 38, 39, 40, 41, 42, 43, 44, 45, 46, 47, 48, 49, 50, 51, 52, 53, 54, 55, 56, 57, 58, 59, 60, 61, 62, 63, 64] (by decide +kernel) (by decide +kernel)
set_option maxRecDepth 20000 in
theorem gX12_appeal_X12_refuse : GoodIn wsX12_appeal (wsV RX12 91 RX12 yX12_refuse wsX12_refuse) := goodIn_app (goodIn_of _ (by decide +kernel)) ggX12_appeal_X12_refuse
set_option maxRecDepth 20000 in
theorem ggX12_appeal_X12_personOf : GoodIn wsX12_appeal wsX12_personOf := goodIn_r _ [15, 1, 16, 17, 5, 18, 23, 24, 25, 26, 27, 28, 29, 30, 31, 32, 33, 34, 35, 36, 37, 38, 39, 40, 41, 42, 43, 44, 45, 46, 47, 48, 49, 50, 51, 52, 53, 54, 55, 56, 57, 58, 59, 60, 61, 62, 63, 64] (by decide +kernel) (by decide +kernel)
set_option maxRecDepth 20000 in
theorem gX12_appeal_X12_personOf : GoodIn wsX12_appeal (wsV RX12 281 RX12 yX12_personOf wsX12_personOf) := goodIn_app (goodIn_of _ (by decide +kernel)) ggX12_appeal_X12_personOf
set_option maxRecDepth 20000 in
theorem ggX12_appeal_X12_personRow : GoodIn wsX12_appeal wsX12_personRow := goodIn_r _ [18] (by decide +kernel) (by decide +kernel)
set_option maxRecDepth 20000 in
theorem gX12_appeal_X12_personRow : GoodIn wsX12_appeal (va_wsS RX12 224 yX12_personRow wsX12_personRow) := goodIn_app (goodIn_of _ (by decide +kernel)) ggX12_appeal_X12_personRow
set_option maxRecDepth 20000 in
theorem ggX12_appeal_X12_gives : GoodIn wsX12_appeal wsX12_gives := goodIn_r _ [22, 11, 23, 24, 25, 26, 27, 28, 29, 30, 31, 32, 33, 34, 35, 36, 37, 38, 39, 40, 41, 42, 43, 44, 45, 46, 47, 48, 49, 50, 51, 52, 53, 54, 55, 56, 57, 58, 59, 60, 61, 62, 63, 64] (by decide +kernel) (by decide +kernel)
set_option maxRecDepth 20000 in
theorem gX12_appeal_X12_gives : GoodIn wsX12_appeal (wsV RX12 95 RX12 yX12_gives wsX12_gives) := goodIn_app (goodIn_of _ (by decide +kernel)) ggX12_appeal_X12_gives
theorem dX12_appeal_0 : decode cX12_appeal 0 = .ok (.aload_n 0, 1) := by decide +kernel
theorem dX12_appeal_1 : decode cX12_appeal 1 = .ok (.iload_n 1, 1) := by decide +kernel
theorem dX12_appeal_2 : decode cX12_appeal 2 = .ok (.i2l, 1) := by decide +kernel
theorem dX12_appeal_3 : decode cX12_appeal 3 = .ok (.invokevirtual 305, 3) := by decide +kernel
theorem dX12_appeal_6 : decode cX12_appeal 6 = .ok (.ifCond .ne 9, 3) := by decide +kernel
theorem dX12_appeal_9 : decode cX12_appeal 9 = .ok (.aload_n 0, 1) := by decide +kernel
theorem dX12_appeal_10 : decode cX12_appeal 10 = .ok (.iconst 1, 1) := by decide +kernel
theorem dX12_appeal_11 : decode cX12_appeal 11 = .ok (.invokevirtual 91, 3) := by decide +kernel
theorem dX12_appeal_14 : decode cX12_appeal 14 = .ok (.ireturn, 1) := by decide +kernel
theorem dX12_appeal_15 : decode cX12_appeal 15 = .ok (.aload_n 0, 1) := by decide +kernel
theorem dX12_appeal_16 : decode cX12_appeal 16 = .ok (.iload_n 1, 1) := by decide +kernel
theorem dX12_appeal_17 : decode cX12_appeal 17 = .ok (.iconst 2, 1) := by decide +kernel
theorem dX12_appeal_18 : decode cX12_appeal 18 = .ok (.invokevirtual 281, 3) := by decide +kernel
theorem dX12_appeal_21 : decode cX12_appeal 21 = .ok (.istore_n 2, 1) := by decide +kernel
theorem dX12_appeal_22 : decode cX12_appeal 22 = .ok (.iload_n 2, 1) := by decide +kernel
theorem dX12_appeal_23 : decode cX12_appeal 23 = .ok (.ifCond .ne 10, 3) := by decide +kernel
theorem dX12_appeal_26 : decode cX12_appeal 26 = .ok (.aload_n 0, 1) := by decide +kernel
theorem dX12_appeal_27 : decode cX12_appeal 27 = .ok (.bipush 7, 2) := by decide +kernel
theorem dX12_appeal_29 : decode cX12_appeal 29 = .ok (.invokevirtual 91, 3) := by decide +kernel
theorem dX12_appeal_32 : decode cX12_appeal 32 = .ok (.ireturn, 1) := by decide +kernel
theorem dX12_appeal_33 : decode cX12_appeal 33 = .ok (.aload_n 0, 1) := by decide +kernel
theorem dX12_appeal_34 : decode cX12_appeal 34 = .ok (.getfield 7, 3) := by decide +kernel
theorem dX12_appeal_37 : decode cX12_appeal 37 = .ok (.iload_n 1, 1) := by decide +kernel
theorem dX12_appeal_38 : decode cX12_appeal 38 = .ok (.invokestatic 224, 3) := by decide +kernel
theorem dX12_appeal_41 : decode cX12_appeal 41 = .ok (.iconst 2, 1) := by decide +kernel
theorem dX12_appeal_42 : decode cX12_appeal 42 = .ok (.iadd, 1) := by decide +kernel
theorem dX12_appeal_43 : decode cX12_appeal 43 = .ok (.iconst 0, 1) := by decide +kernel
theorem dX12_appeal_44 : decode cX12_appeal 44 = .ok (.iastore, 1) := by decide +kernel
theorem dX12_appeal_45 : decode cX12_appeal 45 = .ok (.aload_n 0, 1) := by decide +kernel
theorem dX12_appeal_46 : decode cX12_appeal 46 = .ok (.iload_n 2, 1) := by decide +kernel
theorem dX12_appeal_47 : decode cX12_appeal 47 = .ok (.invokevirtual 95, 3) := by decide +kernel
theorem dX12_appeal_50 : decode cX12_appeal 50 = .ok (.ireturn, 1) := by decide +kernel
set_option maxRecDepth 20000 in
theorem ggX12_blame_X12_isPerson : GoodIn wsX12_blame wsX12_isPerson := goodIn_r _ [6, 1, 19, 20, 21, 22, 23, 24, 25, 26, 27, 28, 29, 30, 31, 32, 33, 34, 35, 36, 37, 38, 39, 40, 41, 42, 43, 44, 45, 46, 47, 48, 49, 50, 51, 52, 53, 54, 55, 56, 57, 58, 59, 60] (by decide +kernel) (by decide +kernel)
set_option maxRecDepth 20000 in
theorem gX12_blame_X12_isPerson : GoodIn wsX12_blame (wsV RX12 305 RX12 yX12_isPerson wsX12_isPerson) := goodIn_app (goodIn_of _ (by decide +kernel)) ggX12_blame_X12_isPerson
set_option maxRecDepth 20000 in
theorem ggX12_blame_X12_is : GoodIn wsX12_blame wsX12_is := goodIn_r _ [10, 11, 19, 20, 21, 22, 23, 24, 25, 26, 27, 28, 29, 30, 31, 32, 33, 34, 35, 36, 37, 38, 39, 40, 41, 42, 43, 44, 45, 46, 47, 48, 49, 50, 51, 52, 53, 54, 55, 56, 57, 58, 59, 60] (by decide +kernel) (by decide +kernel)
set_option maxRecDepth 20000 in
theorem gX12_blame_X12_is : GoodIn wsX12_blame (wsV RX12 98 RX12 yX12_is wsX12_is) := goodIn_app (goodIn_of _ (by decide +kernel)) ggX12_blame_X12_is
set_option maxRecDepth 20000 in
theorem ggX12_blame_X12_personOf : GoodIn wsX12_blame wsX12_personOf := goodIn_r _ [15, 1, 16, 17, 5, 18, 19, 20, 21, 22, 23, 24, 25, 26, 27, 28, 29, 30, 31, 32, 33, 34, 35, 36, 37, 38, 39, 40, 41, 42, 43, 44, 45, 46, 47, 48, 49, 50, 51, 52, 53, 54, 55, 56, 57, 58, 59, 60] (by decide +kernel) (by decide +kernel)
set_option maxRecDepth 20000 in
theorem gX12_blame_X12_personOf : GoodIn wsX12_blame (wsV RX12 281 RX12 yX12_personOf wsX12_personOf) := goodIn_app (goodIn_of _ (by decide +kernel)) ggX12_blame_X12_personOf
set_option maxRecDepth 20000 in
theorem ggX12_blame_X12_personRow : GoodIn wsX12_blame wsX12_personRow := goodIn_r _ [18] (by decide +kernel) (by decide +kernel)
set_option maxRecDepth 20000 in
theorem gX12_blame_X12_personRow : GoodIn wsX12_blame (va_wsS RX12 224 yX12_personRow wsX12_personRow) := goodIn_app (goodIn_of _ (by decide +kernel)) ggX12_blame_X12_personRow
theorem dX12_blame_0 : decode cX12_blame 0 = .ok (.aload_n 0, 1) := by decide +kernel
theorem dX12_blame_1 : decode cX12_blame 1 = .ok (.iload_n 1, 1) := by decide +kernel
theorem dX12_blame_2 : decode cX12_blame 2 = .ok (.i2l, 1) := by decide +kernel
theorem dX12_blame_3 : decode cX12_blame 3 = .ok (.invokevirtual 305, 3) := by decide +kernel
theorem dX12_blame_6 : decode cX12_blame 6 = .ok (.ifCond .ne 9, 3) := by decide +kernel
theorem dX12_blame_9 : decode cX12_blame 9 = .ok (.aload_n 0, 1) := by decide +kernel
theorem dX12_blame_10 : decode cX12_blame 10 = .ok (.iconst 1, 1) := by decide +kernel
theorem dX12_blame_11 : decode cX12_blame 11 = .ok (.invokevirtual 98, 3) := by decide +kernel
theorem dX12_blame_14 : decode cX12_blame 14 = .ok (.ireturn, 1) := by decide +kernel
theorem dX12_blame_15 : decode cX12_blame 15 = .ok (.iload_n 2, 1) := by decide +kernel
theorem dX12_blame_16 : decode cX12_blame 16 = .ok (.ifCond .eq 7, 3) := by decide +kernel
theorem dX12_blame_19 : decode cX12_blame 19 = .ok (.iconst 1, 1) := by decide +kernel
theorem dX12_blame_20 : decode cX12_blame 20 = .ok (.goto 4, 3) := by decide +kernel
theorem dX12_blame_23 : decode cX12_blame 23 = .ok (.iconst 0, 1) := by decide +kernel
theorem dX12_blame_24 : decode cX12_blame 24 = .ok (.istore_n 3, 1) := by decide +kernel
theorem dX12_blame_25 : decode cX12_blame 25 = .ok (.aload_n 0, 1) := by decide +kernel
theorem dX12_blame_26 : decode cX12_blame 26 = .ok (.iload_n 1, 1) := by decide +kernel
theorem dX12_blame_27 : decode cX12_blame 27 = .ok (.iconst 3, 1) := by decide +kernel
theorem dX12_blame_28 : decode cX12_blame 28 = .ok (.invokevirtual 281, 3) := by decide +kernel
theorem dX12_blame_31 : decode cX12_blame 31 = .ok (.iload_n 3, 1) := by decide +kernel
theorem dX12_blame_32 : decode cX12_blame 32 = .ok (.if_icmp .ne 10, 3) := by decide +kernel
theorem dX12_blame_35 : decode cX12_blame 35 = .ok (.aload_n 0, 1) := by decide +kernel
theorem dX12_blame_36 : decode cX12_blame 36 = .ok (.bipush 7, 2) := by decide +kernel
theorem dX12_blame_38 : decode cX12_blame 38 = .ok (.invokevirtual 98, 3) := by decide +kernel
theorem dX12_blame_41 : decode cX12_blame 41 = .ok (.ireturn, 1) := by decide +kernel
theorem dX12_blame_42 : decode cX12_blame 42 = .ok (.aload_n 0, 1) := by decide +kernel
theorem dX12_blame_43 : decode cX12_blame 43 = .ok (.getfield 7, 3) := by decide +kernel
theorem dX12_blame_46 : decode cX12_blame 46 = .ok (.iload_n 1, 1) := by decide +kernel
theorem dX12_blame_47 : decode cX12_blame 47 = .ok (.invokestatic 224, 3) := by decide +kernel
theorem dX12_blame_50 : decode cX12_blame 50 = .ok (.iconst 3, 1) := by decide +kernel
theorem dX12_blame_51 : decode cX12_blame 51 = .ok (.iadd, 1) := by decide +kernel
theorem dX12_blame_52 : decode cX12_blame 52 = .ok (.iload_n 3, 1) := by decide +kernel
theorem dX12_blame_53 : decode cX12_blame 53 = .ok (.iastore, 1) := by decide +kernel
theorem dX12_blame_54 : decode cX12_blame 54 = .ok (.aload_n 0, 1) := by decide +kernel
theorem dX12_blame_55 : decode cX12_blame 55 = .ok (.iconst 0, 1) := by decide +kernel
theorem dX12_blame_56 : decode cX12_blame 56 = .ok (.invokevirtual 98, 3) := by decide +kernel
theorem dX12_blame_59 : decode cX12_blame 59 = .ok (.ireturn, 1) := by decide +kernel
set_option maxRecDepth 20000 in
theorem ggX12_reread_X12_isCue : GoodIn wsX12_reread wsX12_isCue := goodIn_r _ [7, 2, 16, 17, 18, 19, 20, 21, 22, 23, 24, 25, 26, 27, 28, 29, 30, 31, 32, 33, 34, 35, 36, 37, 38, 39, 40, 41, 42, 43, 44, 45, 46, 47, 48, 49, 50, 51, 52, 53, 54, 55, 56, 57] (by decide +kernel) (by decide +kernel)
set_option maxRecDepth 20000 in
theorem gX12_reread_X12_isCue : GoodIn wsX12_reread (wsV RX12 293 RX12 yX12_isCue wsX12_isCue) := goodIn_app (goodIn_of _ (by decide +kernel)) ggX12_reread_X12_isCue
set_option maxRecDepth 20000 in
theorem ggX12_reread_X12_isFrom : GoodIn wsX12_reread wsX12_isFrom := goodIn_r _ [10] (by decide +kernel) (by decide +kernel)
set_option maxRecDepth 20000 in
theorem gX12_reread_X12_isFrom : GoodIn wsX12_reread (va_wsS RX12 337 yX12_isFrom wsX12_isFrom) := goodIn_app (goodIn_of _ (by decide +kernel)) ggX12_reread_X12_isFrom
set_option maxRecDepth 20000 in
theorem ggX12_reread_X12_is : GoodIn wsX12_reread wsX12_is := goodIn_r _ [14, 15, 16, 17, 18, 19, 20, 21, 22, 23, 24, 25, 26, 27, 28, 29, 30, 31, 32, 33, 34, 35, 36, 37, 38, 39, 40, 41, 42, 43, 44, 45, 46, 47, 48, 49, 50, 51, 52, 53, 54, 55, 56, 57] (by decide +kernel) (by decide +kernel)
set_option maxRecDepth 20000 in
theorem gX12_reread_X12_is : GoodIn wsX12_reread (wsV RX12 98 RX12 yX12_is wsX12_is) := goodIn_app (goodIn_of _ (by decide +kernel)) ggX12_reread_X12_is
theorem dX12_reread_0 : decode cX12_reread 0 = .ok (.aload_n 0, 1) := by decide +kernel
theorem dX12_reread_1 : decode cX12_reread 1 = .ok (.iload_n 1, 1) := by decide +kernel
theorem dX12_reread_2 : decode cX12_reread 2 = .ok (.invokevirtual 293, 3) := by decide +kernel
theorem dX12_reread_5 : decode cX12_reread 5 = .ok (.ifCond .eq 15, 3) := by decide +kernel
theorem dX12_reread_8 : decode cX12_reread 8 = .ok (.iload_n 2, 1) := by decide +kernel
theorem dX12_reread_9 : decode cX12_reread 9 = .ok (.i2l, 1) := by decide +kernel
theorem dX12_reread_10 : decode cX12_reread 10 = .ok (.lconst 0, 1) := by decide +kernel
theorem dX12_reread_11 : decode cX12_reread 11 = .ok (.ldc2_w 368, 3) := by decide +kernel
theorem dX12_reread_14 : decode cX12_reread 14 = .ok (.invokestatic 337, 3) := by decide +kernel
theorem dX12_reread_17 : decode cX12_reread 17 = .ok (.ifCond .ne 9, 3) := by decide +kernel
theorem dX12_reread_20 : decode cX12_reread 20 = .ok (.aload_n 0, 1) := by decide +kernel
theorem dX12_reread_21 : decode cX12_reread 21 = .ok (.iconst 1, 1) := by decide +kernel
theorem dX12_reread_22 : decode cX12_reread 22 = .ok (.invokevirtual 98, 3) := by decide +kernel
theorem dX12_reread_25 : decode cX12_reread 25 = .ok (.ireturn, 1) := by decide +kernel
theorem dX12_reread_26 : decode cX12_reread 26 = .ok (.aload_n 0, 1) := by decide +kernel
theorem dX12_reread_27 : decode cX12_reread 27 = .ok (.getfield 7, 3) := by decide +kernel
theorem dX12_reread_30 : decode cX12_reread 30 = .ok (.bipush 10, 2) := by decide +kernel
theorem dX12_reread_32 : decode cX12_reread 32 = .ok (.iload_n 1, 1) := by decide +kernel
theorem dX12_reread_33 : decode cX12_reread 33 = .ok (.iadd, 1) := by decide +kernel
theorem dX12_reread_34 : decode cX12_reread 34 = .ok (.iload_n 2, 1) := by decide +kernel
theorem dX12_reread_35 : decode cX12_reread 35 = .ok (.iastore, 1) := by decide +kernel
theorem dX12_reread_36 : decode cX12_reread 36 = .ok (.aload_n 0, 1) := by decide +kernel
theorem dX12_reread_37 : decode cX12_reread 37 = .ok (.iconst 0, 1) := by decide +kernel
theorem dX12_reread_38 : decode cX12_reread 38 = .ok (.invokevirtual 98, 3) := by decide +kernel
theorem dX12_reread_41 : decode cX12_reread 41 = .ok (.ireturn, 1) := by decide +kernel
set_option maxRecDepth 20000 in
theorem ggX12_enact_X12_isCue : GoodIn wsX12_enact wsX12_isCue := goodIn_r _ [7, 2, 27, 28, 29, 30, 31, 32, 33, 34, 35, 36, 37, 38, 39, 40, 41, 42, 43, 44, 45, 46, 47, 48, 49, 50, 51, 52, 53, 54, 55, 56, 57, 58, 59, 60, 61, 62, 63, 64, 65, 66, 67, 68] (by decide +kernel) (by decide +kernel)
set_option maxRecDepth 20000 in
theorem gX12_enact_X12_isCue : GoodIn wsX12_enact (wsV RX12 293 RX12 yX12_isCue wsX12_isCue) := goodIn_app (goodIn_of _ (by decide +kernel)) ggX12_enact_X12_isCue
set_option maxRecDepth 20000 in
theorem ggX12_enact_X12_isFrom : GoodIn wsX12_enact wsX12_isFrom := goodIn_r _ [10] (by decide +kernel) (by decide +kernel)
set_option maxRecDepth 20000 in
theorem gX12_enact_X12_isFrom : GoodIn wsX12_enact (va_wsS RX12 337 yX12_isFrom wsX12_isFrom) := goodIn_app (goodIn_of _ (by decide +kernel)) ggX12_enact_X12_isFrom
set_option maxRecDepth 20000 in
theorem ggX12_enact_X12_isSmell : GoodIn wsX12_enact wsX12_isSmell := goodIn_r _ [14, 2, 27, 28, 29, 30, 31, 32, 33, 34, 35, 36, 37, 38, 39, 40, 41, 42, 43, 44, 45, 46, 47, 48, 49, 50, 51, 52, 53, 54, 55, 56, 57, 58, 59, 60, 61, 62, 63, 64, 65, 66, 67, 68] (by decide +kernel) (by decide +kernel)
set_option maxRecDepth 20000 in
theorem gX12_enact_X12_isSmell : GoodIn wsX12_enact (wsV RX12 358 RX12 yX12_isSmell wsX12_isSmell) := goodIn_app (goodIn_of _ (by decide +kernel)) ggX12_enact_X12_isSmell
set_option maxRecDepth 20000 in
theorem ggX12_enact_X12_refuse : GoodIn wsX12_enact wsX12_refuse := goodIn_r _ [18, 19, 27, 28, 29, 30, 31, 32, 33, 34, 35, 36, 37, 38, 39, 40, 41, 42, 43, 44, 45, 46, 47, 48, 49, 50, 51, 52, 53, 54, 55, 56, 57, 58, 59, 60, 61, 62, 63, 64, 65, 66, 67, 68] (by decide +kernel) (by decide +kernel)
set_option maxRecDepth 20000 in
theorem gX12_enact_X12_refuse : GoodIn wsX12_enact (wsV RX12 91 RX12 yX12_refuse wsX12_refuse) := goodIn_app (goodIn_of _ (by decide +kernel)) ggX12_enact_X12_refuse
set_option maxRecDepth 20000 in
theorem ggX12_enact_X12_ruleRow : GoodIn wsX12_enact wsX12_ruleRow := goodIn_r _ [22] (by decide +kernel) (by decide +kernel)
set_option maxRecDepth 20000 in
theorem gX12_enact_X12_ruleRow : GoodIn wsX12_enact (va_wsS RX12 215 yX12_ruleRow wsX12_ruleRow) := goodIn_app (goodIn_of _ (by decide +kernel)) ggX12_enact_X12_ruleRow
set_option maxRecDepth 20000 in
theorem ggX12_enact_X12_gives : GoodIn wsX12_enact wsX12_gives := goodIn_r _ [26, 19, 27, 28, 29, 30, 31, 32, 33, 34, 35, 36, 37, 38, 39, 40, 41, 42, 43, 44, 45, 46, 47, 48, 49, 50, 51, 52, 53, 54, 55, 56, 57, 58, 59, 60, 61, 62, 63, 64, 65, 66, 67, 68] (by decide +kernel) (by decide +kernel)
set_option maxRecDepth 20000 in
theorem gX12_enact_X12_gives : GoodIn wsX12_enact (wsV RX12 95 RX12 yX12_gives wsX12_gives) := goodIn_app (goodIn_of _ (by decide +kernel)) ggX12_enact_X12_gives
theorem dX12_enact_0 : decode cX12_enact 0 = .ok (.aload_n 0, 1) := by decide +kernel
theorem dX12_enact_1 : decode cX12_enact 1 = .ok (.iload_n 1, 1) := by decide +kernel
theorem dX12_enact_2 : decode cX12_enact 2 = .ok (.invokevirtual 293, 3) := by decide +kernel
theorem dX12_enact_5 : decode cX12_enact 5 = .ok (.ifCond .eq 28, 3) := by decide +kernel
theorem dX12_enact_8 : decode cX12_enact 8 = .ok (.iload_n 2, 1) := by decide +kernel
theorem dX12_enact_9 : decode cX12_enact 9 = .ok (.i2l, 1) := by decide +kernel
theorem dX12_enact_10 : decode cX12_enact 10 = .ok (.lconst 0, 1) := by decide +kernel
theorem dX12_enact_11 : decode cX12_enact 11 = .ok (.ldc2_w 368, 3) := by decide +kernel
theorem dX12_enact_14 : decode cX12_enact 14 = .ok (.invokestatic 337, 3) := by decide +kernel
theorem dX12_enact_17 : decode cX12_enact 17 = .ok (.ifCond .eq 16, 3) := by decide +kernel
theorem dX12_enact_20 : decode cX12_enact 20 = .ok (.iload_n 3, 1) := by decide +kernel
theorem dX12_enact_21 : decode cX12_enact 21 = .ok (.iconst 5, 1) := by decide +kernel
theorem dX12_enact_22 : decode cX12_enact 22 = .ok (.if_icmp .eq 17, 3) := by decide +kernel
theorem dX12_enact_25 : decode cX12_enact 25 = .ok (.aload_n 0, 1) := by decide +kernel
theorem dX12_enact_26 : decode cX12_enact 26 = .ok (.iload_n 3, 1) := by decide +kernel
theorem dX12_enact_27 : decode cX12_enact 27 = .ok (.invokevirtual 358, 3) := by decide +kernel
theorem dX12_enact_30 : decode cX12_enact 30 = .ok (.ifCond .ne 9, 3) := by decide +kernel
theorem dX12_enact_33 : decode cX12_enact 33 = .ok (.aload_n 0, 1) := by decide +kernel
theorem dX12_enact_34 : decode cX12_enact 34 = .ok (.iconst 1, 1) := by decide +kernel
theorem dX12_enact_35 : decode cX12_enact 35 = .ok (.invokevirtual 91, 3) := by decide +kernel
theorem dX12_enact_38 : decode cX12_enact 38 = .ok (.ireturn, 1) := by decide +kernel
theorem dX12_enact_39 : decode cX12_enact 39 = .ok (.aload_n 0, 1) := by decide +kernel
theorem dX12_enact_40 : decode cX12_enact 40 = .ok (.getfield 7, 3) := by decide +kernel
theorem dX12_enact_43 : decode cX12_enact 43 = .ok (.iconst 2, 1) := by decide +kernel
theorem dX12_enact_44 : decode cX12_enact 44 = .ok (.iaload, 1) := by decide +kernel
theorem dX12_enact_45 : decode cX12_enact 45 = .ok (.istore 4, 2) := by decide +kernel
theorem dX12_enact_47 : decode cX12_enact 47 = .ok (.iload 4, 2) := by decide +kernel
theorem dX12_enact_49 : decode cX12_enact 49 = .ok (.bipush 8, 2) := by decide +kernel
theorem dX12_enact_51 : decode cX12_enact 51 = .ok (.if_icmp .ne 9, 3) := by decide +kernel
theorem dX12_enact_54 : decode cX12_enact 54 = .ok (.aload_n 0, 1) := by decide +kernel
theorem dX12_enact_55 : decode cX12_enact 55 = .ok (.iconst 4, 1) := by decide +kernel
theorem dX12_enact_56 : decode cX12_enact 56 = .ok (.invokevirtual 91, 3) := by decide +kernel
theorem dX12_enact_59 : decode cX12_enact 59 = .ok (.ireturn, 1) := by decide +kernel
theorem dX12_enact_60 : decode cX12_enact 60 = .ok (.aload_n 0, 1) := by decide +kernel
theorem dX12_enact_61 : decode cX12_enact 61 = .ok (.getfield 7, 3) := by decide +kernel
theorem dX12_enact_64 : decode cX12_enact 64 = .ok (.iconst 2, 1) := by decide +kernel
theorem dX12_enact_65 : decode cX12_enact 65 = .ok (.dup2, 1) := by decide +kernel
theorem dX12_enact_66 : decode cX12_enact 66 = .ok (.iaload, 1) := by decide +kernel
theorem dX12_enact_67 : decode cX12_enact 67 = .ok (.iconst 1, 1) := by decide +kernel
theorem dX12_enact_68 : decode cX12_enact 68 = .ok (.iadd, 1) := by decide +kernel
theorem dX12_enact_69 : decode cX12_enact 69 = .ok (.iastore, 1) := by decide +kernel
theorem dX12_enact_70 : decode cX12_enact 70 = .ok (.iconst 0, 1) := by decide +kernel
theorem dX12_enact_71 : decode cX12_enact 71 = .ok (.istore 5, 2) := by decide +kernel
theorem dX12_enact_73 : decode cX12_enact 73 = .ok (.iload 5, 2) := by decide +kernel
theorem dX12_enact_75 : decode cX12_enact 75 = .ok (.bipush 7, 2) := by decide +kernel
theorem dX12_enact_77 : decode cX12_enact 77 = .ok (.if_icmp .ge 23, 3) := by decide +kernel
theorem dX12_enact_80 : decode cX12_enact 80 = .ok (.aload_n 0, 1) := by decide +kernel
theorem dX12_enact_81 : decode cX12_enact 81 = .ok (.getfield 7, 3) := by decide +kernel
theorem dX12_enact_84 : decode cX12_enact 84 = .ok (.iload 4, 2) := by decide +kernel
theorem dX12_enact_86 : decode cX12_enact 86 = .ok (.invokestatic 215, 3) := by decide +kernel
theorem dX12_enact_89 : decode cX12_enact 89 = .ok (.iload 5, 2) := by decide +kernel
theorem dX12_enact_91 : decode cX12_enact 91 = .ok (.iadd, 1) := by decide +kernel
theorem dX12_enact_92 : decode cX12_enact 92 = .ok (.iconst 0, 1) := by decide +kernel
theorem dX12_enact_93 : decode cX12_enact 93 = .ok (.iastore, 1) := by decide +kernel
theorem dX12_enact_94 : decode cX12_enact 94 = .ok (.iinc 5 1, 3) := by decide +kernel
theorem dX12_enact_97 : decode cX12_enact 97 = .ok (.goto (-24), 3) := by decide +kernel
theorem dX12_enact_100 : decode cX12_enact 100 = .ok (.aload_n 0, 1) := by decide +kernel
theorem dX12_enact_101 : decode cX12_enact 101 = .ok (.getfield 7, 3) := by decide +kernel
theorem dX12_enact_104 : decode cX12_enact 104 = .ok (.iload 4, 2) := by decide +kernel
theorem dX12_enact_106 : decode cX12_enact 106 = .ok (.invokestatic 215, 3) := by decide +kernel
theorem dX12_enact_109 : decode cX12_enact 109 = .ok (.iload_n 1, 1) := by decide +kernel
theorem dX12_enact_110 : decode cX12_enact 110 = .ok (.iastore, 1) := by decide +kernel
theorem dX12_enact_111 : decode cX12_enact 111 = .ok (.aload_n 0, 1) := by decide +kernel
theorem dX12_enact_112 : decode cX12_enact 112 = .ok (.getfield 7, 3) := by decide +kernel
theorem dX12_enact_115 : decode cX12_enact 115 = .ok (.iload 4, 2) := by decide +kernel
theorem dX12_enact_117 : decode cX12_enact 117 = .ok (.invokestatic 215, 3) := by decide +kernel
theorem dX12_enact_120 : decode cX12_enact 120 = .ok (.iconst 1, 1) := by decide +kernel
theorem dX12_enact_121 : decode cX12_enact 121 = .ok (.iadd, 1) := by decide +kernel
theorem dX12_enact_122 : decode cX12_enact 122 = .ok (.iload_n 2, 1) := by decide +kernel
theorem dX12_enact_123 : decode cX12_enact 123 = .ok (.iastore, 1) := by decide +kernel
theorem dX12_enact_124 : decode cX12_enact 124 = .ok (.aload_n 0, 1) := by decide +kernel
theorem dX12_enact_125 : decode cX12_enact 125 = .ok (.getfield 7, 3) := by decide +kernel
theorem dX12_enact_128 : decode cX12_enact 128 = .ok (.iload 4, 2) := by decide +kernel
theorem dX12_enact_130 : decode cX12_enact 130 = .ok (.invokestatic 215, 3) := by decide +kernel
theorem dX12_enact_133 : decode cX12_enact 133 = .ok (.bipush 6, 2) := by decide +kernel
theorem dX12_enact_135 : decode cX12_enact 135 = .ok (.iadd, 1) := by decide +kernel
theorem dX12_enact_136 : decode cX12_enact 136 = .ok (.iload_n 3, 1) := by decide +kernel
theorem dX12_enact_137 : decode cX12_enact 137 = .ok (.iconst 5, 1) := by decide +kernel
theorem dX12_enact_138 : decode cX12_enact 138 = .ok (.if_icmp .ne 7, 3) := by decide +kernel
theorem dX12_enact_141 : decode cX12_enact 141 = .ok (.iconst (-1), 1) := by decide +kernel
theorem dX12_enact_142 : decode cX12_enact 142 = .ok (.goto 4, 3) := by decide +kernel
theorem dX12_enact_145 : decode cX12_enact 145 = .ok (.iload_n 3, 1) := by decide +kernel
theorem dX12_enact_146 : decode cX12_enact 146 = .ok (.iastore, 1) := by decide +kernel
theorem dX12_enact_147 : decode cX12_enact 147 = .ok (.aload_n 0, 1) := by decide +kernel
theorem dX12_enact_148 : decode cX12_enact 148 = .ok (.iload 4, 2) := by decide +kernel
theorem dX12_enact_150 : decode cX12_enact 150 = .ok (.invokevirtual 95, 3) := by decide +kernel
theorem dX12_enact_153 : decode cX12_enact 153 = .ok (.ireturn, 1) := by decide +kernel
set_option maxRecDepth 20000 in
theorem ggX12_repeal_X12_isRule : GoodIn wsX12_repeal wsX12_isRule := goodIn_r _ [6, 1, 19, 20, 21, 22, 23, 24, 25, 26, 27, 28, 29, 30, 31, 32, 33, 34, 35, 36, 37, 38, 39, 40, 41, 42, 43, 44, 45, 46, 47, 48, 49, 50, 51, 52, 53, 54, 55, 56, 57, 58, 59, 60] (by decide +kernel) (by decide +kernel)
set_option maxRecDepth 20000 in
theorem gX12_repeal_X12_isRule : GoodIn wsX12_repeal (wsV RX12 296 RX12 yX12_isRule wsX12_isRule) := goodIn_app (goodIn_of _ (by decide +kernel)) ggX12_repeal_X12_isRule
set_option maxRecDepth 20000 in
theorem ggX12_repeal_X12_refuse : GoodIn wsX12_repeal wsX12_refuse := goodIn_r _ [10, 11, 19, 20, 21, 22, 23, 24, 25, 26, 27, 28, 29, 30, 31, 32, 33, 34, 35, 36, 37, 38, 39, 40, 41, 42, 43, 44, 45, 46, 47, 48, 49, 50, 51, 52, 53, 54, 55, 56, 57, 58, 59, 60] (by decide +kernel) (by decide +kernel)
set_option maxRecDepth 20000 in
theorem gX12_repeal_X12_refuse : GoodIn wsX12_repeal (wsV RX12 91 RX12 yX12_refuse wsX12_refuse) := goodIn_app (goodIn_of _ (by decide +kernel)) ggX12_repeal_X12_refuse
set_option maxRecDepth 20000 in
theorem ggX12_repeal_X12_ruleRow : GoodIn wsX12_repeal wsX12_ruleRow := goodIn_r _ [14] (by decide +kernel) (by decide +kernel)
set_option maxRecDepth 20000 in
theorem gX12_repeal_X12_ruleRow : GoodIn wsX12_repeal (va_wsS RX12 215 yX12_ruleRow wsX12_ruleRow) := goodIn_app (goodIn_of _ (by decide +kernel)) ggX12_repeal_X12_ruleRow
set_option maxRecDepth 20000 in
theorem ggX12_repeal_X12_gives : GoodIn wsX12_repeal wsX12_gives := goodIn_r _ [18, 11, 19, 20, 21, 22, 23, 24, 25, 26, 27, 28, 29, 30, 31, 32, 33, 34, 35, 36, 37, 38, 39, 40, 41, 42, 43, 44, 45, 46, 47, 48, 49, 50, 51, 52, 53, 54, 55, 56, 57, 58, 59, 60] (by decide +kernel) (by decide +kernel)
set_option maxRecDepth 20000 in
theorem gX12_repeal_X12_gives : GoodIn wsX12_repeal (wsV RX12 95 RX12 yX12_gives wsX12_gives) := goodIn_app (goodIn_of _ (by decide +kernel)) ggX12_repeal_X12_gives
theorem dX12_repeal_0 : decode cX12_repeal 0 = .ok (.aload_n 0, 1) := by decide +kernel
theorem dX12_repeal_1 : decode cX12_repeal 1 = .ok (.iload_n 1, 1) := by decide +kernel
theorem dX12_repeal_2 : decode cX12_repeal 2 = .ok (.invokevirtual 296, 3) := by decide +kernel
theorem dX12_repeal_5 : decode cX12_repeal 5 = .ok (.ifCond .ne 9, 3) := by decide +kernel
theorem dX12_repeal_8 : decode cX12_repeal 8 = .ok (.aload_n 0, 1) := by decide +kernel
theorem dX12_repeal_9 : decode cX12_repeal 9 = .ok (.iconst 1, 1) := by decide +kernel
theorem dX12_repeal_10 : decode cX12_repeal 10 = .ok (.invokevirtual 91, 3) := by decide +kernel
theorem dX12_repeal_13 : decode cX12_repeal 13 = .ok (.ireturn, 1) := by decide +kernel
theorem dX12_repeal_14 : decode cX12_repeal 14 = .ok (.aload_n 0, 1) := by decide +kernel
theorem dX12_repeal_15 : decode cX12_repeal 15 = .ok (.getfield 7, 3) := by decide +kernel
theorem dX12_repeal_18 : decode cX12_repeal 18 = .ok (.iconst 2, 1) := by decide +kernel
theorem dX12_repeal_19 : decode cX12_repeal 19 = .ok (.dup2, 1) := by decide +kernel
theorem dX12_repeal_20 : decode cX12_repeal 20 = .ok (.iaload, 1) := by decide +kernel
theorem dX12_repeal_21 : decode cX12_repeal 21 = .ok (.iconst 1, 1) := by decide +kernel
theorem dX12_repeal_22 : decode cX12_repeal 22 = .ok (.isub, 1) := by decide +kernel
theorem dX12_repeal_23 : decode cX12_repeal 23 = .ok (.iastore, 1) := by decide +kernel
theorem dX12_repeal_24 : decode cX12_repeal 24 = .ok (.iload_n 1, 1) := by decide +kernel
theorem dX12_repeal_25 : decode cX12_repeal 25 = .ok (.invokestatic 215, 3) := by decide +kernel
theorem dX12_repeal_28 : decode cX12_repeal 28 = .ok (.istore_n 2, 1) := by decide +kernel
theorem dX12_repeal_29 : decode cX12_repeal 29 = .ok (.iload_n 2, 1) := by decide +kernel
theorem dX12_repeal_30 : decode cX12_repeal 30 = .ok (.aload_n 0, 1) := by decide +kernel
theorem dX12_repeal_31 : decode cX12_repeal 31 = .ok (.getfield 7, 3) := by decide +kernel
theorem dX12_repeal_34 : decode cX12_repeal 34 = .ok (.iconst 2, 1) := by decide +kernel
theorem dX12_repeal_35 : decode cX12_repeal 35 = .ok (.iaload, 1) := by decide +kernel
theorem dX12_repeal_36 : decode cX12_repeal 36 = .ok (.invokestatic 215, 3) := by decide +kernel
theorem dX12_repeal_39 : decode cX12_repeal 39 = .ok (.if_icmp .ge 24, 3) := by decide +kernel
theorem dX12_repeal_42 : decode cX12_repeal 42 = .ok (.aload_n 0, 1) := by decide +kernel
theorem dX12_repeal_43 : decode cX12_repeal 43 = .ok (.getfield 7, 3) := by decide +kernel
theorem dX12_repeal_46 : decode cX12_repeal 46 = .ok (.iload_n 2, 1) := by decide +kernel
theorem dX12_repeal_47 : decode cX12_repeal 47 = .ok (.aload_n 0, 1) := by decide +kernel
theorem dX12_repeal_48 : decode cX12_repeal 48 = .ok (.getfield 7, 3) := by decide +kernel
theorem dX12_repeal_51 : decode cX12_repeal 51 = .ok (.iload_n 2, 1) := by decide +kernel
theorem dX12_repeal_52 : decode cX12_repeal 52 = .ok (.bipush 7, 2) := by decide +kernel
theorem dX12_repeal_54 : decode cX12_repeal 54 = .ok (.iadd, 1) := by decide +kernel
theorem dX12_repeal_55 : decode cX12_repeal 55 = .ok (.iaload, 1) := by decide +kernel
theorem dX12_repeal_56 : decode cX12_repeal 56 = .ok (.iastore, 1) := by decide +kernel
theorem dX12_repeal_57 : decode cX12_repeal 57 = .ok (.iinc 2 1, 3) := by decide +kernel
theorem dX12_repeal_60 : decode cX12_repeal 60 = .ok (.goto (-31), 3) := by decide +kernel
theorem dX12_repeal_63 : decode cX12_repeal 63 = .ok (.aload_n 0, 1) := by decide +kernel
theorem dX12_repeal_64 : decode cX12_repeal 64 = .ok (.aload_n 0, 1) := by decide +kernel
theorem dX12_repeal_65 : decode cX12_repeal 65 = .ok (.getfield 7, 3) := by decide +kernel
theorem dX12_repeal_68 : decode cX12_repeal 68 = .ok (.iconst 2, 1) := by decide +kernel
theorem dX12_repeal_69 : decode cX12_repeal 69 = .ok (.iaload, 1) := by decide +kernel
theorem dX12_repeal_70 : decode cX12_repeal 70 = .ok (.invokevirtual 95, 3) := by decide +kernel
theorem dX12_repeal_73 : decode cX12_repeal 73 = .ok (.ireturn, 1) := by decide +kernel
set_option maxRecDepth 20000 in
theorem ggX12_strain_X12_isReader : GoodIn wsX12_strain wsX12_isReader := goodIn_r _ [7, 2, 16, 17, 18, 19, 20, 21, 22, 23, 24, 25, 26, 27, 28, 29, 30, 31, 32, 33, 34, 35, 36, 37, 38, 39, 40, 41, 42, 43, 44, 45, 46, 47, 48, 49, 50, 51, 52, 53, 54, 55, 56, 57] (by decide +kernel) (by decide +kernel)
set_option maxRecDepth 20000 in
theorem gX12_strain_X12_isReader : GoodIn wsX12_strain (wsV RX12 309 RX12 yX12_isReader wsX12_isReader) := goodIn_app (goodIn_of _ (by decide +kernel)) ggX12_strain_X12_isReader
set_option maxRecDepth 20000 in
theorem ggX12_strain_X12_isFrom : GoodIn wsX12_strain wsX12_isFrom := goodIn_r _ [10] (by decide +kernel) (by decide +kernel)
set_option maxRecDepth 20000 in
theorem gX12_strain_X12_isFrom : GoodIn wsX12_strain (va_wsS RX12 337 yX12_isFrom wsX12_isFrom) := goodIn_app (goodIn_of _ (by decide +kernel)) ggX12_strain_X12_isFrom
set_option maxRecDepth 20000 in
theorem ggX12_strain_X12_is : GoodIn wsX12_strain wsX12_is := goodIn_r _ [14, 15, 16, 17, 18, 19, 20, 21, 22, 23, 24, 25, 26, 27, 28, 29, 30, 31, 32, 33, 34, 35, 36, 37, 38, 39, 40, 41, 42, 43, 44, 45, 46, 47, 48, 49, 50, 51, 52, 53, 54, 55, 56, 57] (by decide +kernel) (by decide +kernel)
set_option maxRecDepth 20000 in
theorem gX12_strain_X12_is : GoodIn wsX12_strain (wsV RX12 98 RX12 yX12_is wsX12_is) := goodIn_app (goodIn_of _ (by decide +kernel)) ggX12_strain_X12_is
theorem dX12_strain_0 : decode cX12_strain 0 = .ok (.aload_n 0, 1) := by decide +kernel
theorem dX12_strain_1 : decode cX12_strain 1 = .ok (.iload_n 1, 1) := by decide +kernel
theorem dX12_strain_2 : decode cX12_strain 2 = .ok (.invokevirtual 309, 3) := by decide +kernel
theorem dX12_strain_5 : decode cX12_strain 5 = .ok (.ifCond .eq 15, 3) := by decide +kernel
theorem dX12_strain_8 : decode cX12_strain 8 = .ok (.iload_n 2, 1) := by decide +kernel
theorem dX12_strain_9 : decode cX12_strain 9 = .ok (.i2l, 1) := by decide +kernel
theorem dX12_strain_10 : decode cX12_strain 10 = .ok (.lconst 0, 1) := by decide +kernel
theorem dX12_strain_11 : decode cX12_strain 11 = .ok (.ldc2_w 370, 3) := by decide +kernel
theorem dX12_strain_14 : decode cX12_strain 14 = .ok (.invokestatic 337, 3) := by decide +kernel
theorem dX12_strain_17 : decode cX12_strain 17 = .ok (.ifCond .ne 9, 3) := by decide +kernel
theorem dX12_strain_20 : decode cX12_strain 20 = .ok (.aload_n 0, 1) := by decide +kernel
theorem dX12_strain_21 : decode cX12_strain 21 = .ok (.iconst 1, 1) := by decide +kernel
theorem dX12_strain_22 : decode cX12_strain 22 = .ok (.invokevirtual 98, 3) := by decide +kernel
theorem dX12_strain_25 : decode cX12_strain 25 = .ok (.ireturn, 1) := by decide +kernel
theorem dX12_strain_26 : decode cX12_strain 26 = .ok (.aload_n 0, 1) := by decide +kernel
theorem dX12_strain_27 : decode cX12_strain 27 = .ok (.getfield 7, 3) := by decide +kernel
theorem dX12_strain_30 : decode cX12_strain 30 = .ok (.bipush 102, 2) := by decide +kernel
theorem dX12_strain_32 : decode cX12_strain 32 = .ok (.iconst 2, 1) := by decide +kernel
theorem dX12_strain_33 : decode cX12_strain 33 = .ok (.iload_n 1, 1) := by decide +kernel
theorem dX12_strain_34 : decode cX12_strain 34 = .ok (.imul, 1) := by decide +kernel
theorem dX12_strain_35 : decode cX12_strain 35 = .ok (.iadd, 1) := by decide +kernel
theorem dX12_strain_36 : decode cX12_strain 36 = .ok (.iload_n 2, 1) := by decide +kernel
theorem dX12_strain_37 : decode cX12_strain 37 = .ok (.iastore, 1) := by decide +kernel
theorem dX12_strain_38 : decode cX12_strain 38 = .ok (.aload_n 0, 1) := by decide +kernel
theorem dX12_strain_39 : decode cX12_strain 39 = .ok (.iconst 0, 1) := by decide +kernel
theorem dX12_strain_40 : decode cX12_strain 40 = .ok (.invokevirtual 98, 3) := by decide +kernel
theorem dX12_strain_43 : decode cX12_strain 43 = .ok (.ireturn, 1) := by decide +kernel
theorem dX12_levelAt_0 : decode cX12_levelAt 0 = .ok (.sipush 3012, 3) := by decide +kernel
theorem dX12_levelAt_3 : decode cX12_levelAt 3 = .ok (.sipush 134, 3) := by decide +kernel
theorem dX12_levelAt_6 : decode cX12_levelAt 6 = .ok (.iload_n 0, 1) := by decide +kernel
theorem dX12_levelAt_7 : decode cX12_levelAt 7 = .ok (.imul, 1) := by decide +kernel
theorem dX12_levelAt_8 : decode cX12_levelAt 8 = .ok (.iadd, 1) := by decide +kernel
theorem dX12_levelAt_9 : decode cX12_levelAt 9 = .ok (.ireturn, 1) := by decide +kernel
theorem dX12_keeps_0 : decode cX12_keeps 0 = .ok (.iconst 0, 1) := by decide +kernel
theorem dX12_keeps_1 : decode cX12_keeps 1 = .ok (.istore_n 2, 1) := by decide +kernel
theorem dX12_keeps_2 : decode cX12_keeps 2 = .ok (.iload_n 2, 1) := by decide +kernel
theorem dX12_keeps_3 : decode cX12_keeps 3 = .ok (.sipush 134, 3) := by decide +kernel
theorem dX12_keeps_6 : decode cX12_keeps 6 = .ok (.if_icmp .ge 23, 3) := by decide +kernel
theorem dX12_keeps_9 : decode cX12_keeps 9 = .ok (.aload_n 0, 1) := by decide +kernel
theorem dX12_keeps_10 : decode cX12_keeps 10 = .ok (.getfield 7, 3) := by decide +kernel
theorem dX12_keeps_13 : decode cX12_keeps 13 = .ok (.iload_n 1, 1) := by decide +kernel
theorem dX12_keeps_14 : decode cX12_keeps 14 = .ok (.iload_n 2, 1) := by decide +kernel
theorem dX12_keeps_15 : decode cX12_keeps 15 = .ok (.iadd, 1) := by decide +kernel
theorem dX12_keeps_16 : decode cX12_keeps 16 = .ok (.aload_n 0, 1) := by decide +kernel
theorem dX12_keeps_17 : decode cX12_keeps 17 = .ok (.getfield 7, 3) := by decide +kernel
theorem dX12_keeps_20 : decode cX12_keeps 20 = .ok (.iload_n 2, 1) := by decide +kernel
theorem dX12_keeps_21 : decode cX12_keeps 21 = .ok (.iaload, 1) := by decide +kernel
theorem dX12_keeps_22 : decode cX12_keeps 22 = .ok (.iastore, 1) := by decide +kernel
theorem dX12_keeps_23 : decode cX12_keeps 23 = .ok (.iinc 2 1, 3) := by decide +kernel
theorem dX12_keeps_26 : decode cX12_keeps 26 = .ok (.goto (-24), 3) := by decide +kernel
theorem dX12_keeps_29 : decode cX12_keeps 29 = .ok (.return_, 1) := by decide +kernel
theorem dX12_restores_0 : decode cX12_restores 0 = .ok (.iconst 0, 1) := by decide +kernel
theorem dX12_restores_1 : decode cX12_restores 1 = .ok (.istore_n 2, 1) := by decide +kernel
theorem dX12_restores_2 : decode cX12_restores 2 = .ok (.iload_n 2, 1) := by decide +kernel
theorem dX12_restores_3 : decode cX12_restores 3 = .ok (.sipush 134, 3) := by decide +kernel
theorem dX12_restores_6 : decode cX12_restores 6 = .ok (.if_icmp .ge 23, 3) := by decide +kernel
theorem dX12_restores_9 : decode cX12_restores 9 = .ok (.aload_n 0, 1) := by decide +kernel
theorem dX12_restores_10 : decode cX12_restores 10 = .ok (.getfield 7, 3) := by decide +kernel
theorem dX12_restores_13 : decode cX12_restores 13 = .ok (.iload_n 2, 1) := by decide +kernel
theorem dX12_restores_14 : decode cX12_restores 14 = .ok (.aload_n 0, 1) := by decide +kernel
theorem dX12_restores_15 : decode cX12_restores 15 = .ok (.getfield 7, 3) := by decide +kernel
theorem dX12_restores_18 : decode cX12_restores 18 = .ok (.iload_n 1, 1) := by decide +kernel
theorem dX12_restores_19 : decode cX12_restores 19 = .ok (.iload_n 2, 1) := by decide +kernel
theorem dX12_restores_20 : decode cX12_restores 20 = .ok (.iadd, 1) := by decide +kernel
theorem dX12_restores_21 : decode cX12_restores 21 = .ok (.iaload, 1) := by decide +kernel
theorem dX12_restores_22 : decode cX12_restores 22 = .ok (.iastore, 1) := by decide +kernel
theorem dX12_restores_23 : decode cX12_restores 23 = .ok (.iinc 2 1, 3) := by decide +kernel
theorem dX12_restores_26 : decode cX12_restores 26 = .ok (.goto (-24), 3) := by decide +kernel
theorem dX12_restores_29 : decode cX12_restores 29 = .ok (.return_, 1) := by decide +kernel
set_option maxRecDepth 20000 in
theorem ggX12_freeIn_X12_isFrom : GoodIn wsX12_freeIn wsX12_isFrom := goodIn_r _ [5] (by decide +kernel) (by decide +kernel)
set_option maxRecDepth 20000 in
theorem gX12_freeIn_X12_isFrom : GoodIn wsX12_freeIn (va_wsS RX12 337 yX12_isFrom wsX12_isFrom) := goodIn_app (goodIn_of _ (by decide +kernel)) ggX12_freeIn_X12_isFrom
set_option maxRecDepth 20000 in
theorem ggX12_freeIn_X12_refuse : GoodIn wsX12_freeIn wsX12_refuse := goodIn_r _ [9, 10, 77, 78, 79, 80, 81, 82, 83, 84, 85, 86, 87, 88, 89, 90, 91, 92, 93, 94, 95, 96, 97, 98, 99, 100, 101, 102, 103, 104, 105, 106, 107, 108, 109, 110, 111, 112, 113, 114, 115, 116, 117, 118] (by decide +kernel) (by decide +kernel)
set_option maxRecDepth 20000 in
theorem gX12_freeIn_X12_refuse : GoodIn wsX12_freeIn (wsV RX12 91 RX12 yX12_refuse wsX12_refuse) := goodIn_app (goodIn_of _ (by decide +kernel)) ggX12_freeIn_X12_refuse
set_option maxRecDepth 20000 in
theorem ggX12_freeIn_X12_keeps : GoodIn wsX12_freeIn wsX12_keeps := goodIn_r _ [14, 15, 77, 78, 79, 80, 81, 82, 83, 84, 85, 86, 87, 88, 89, 90, 91, 92, 93, 94, 95, 96, 97, 98, 99, 100, 101, 102, 103, 104, 105, 106, 107, 108, 109, 110, 111, 112, 113, 114, 115, 116, 117, 118] (by decide +kernel) (by decide +kernel)
set_option maxRecDepth 20000 in
theorem gX12_freeIn_X12_keeps : GoodIn wsX12_freeIn (wsV RX12 374 RX12 yX12_keeps wsX12_keeps) := goodIn_app (goodIn_of _ (by decide +kernel)) ggX12_freeIn_X12_keeps
set_option maxRecDepth 20000 in
theorem ggX12_freeIn_X12_terms : GoodIn wsX12_freeIn wsX12_terms := goodIn_r _ [19, 15, 20, 21, 22, 4, 23, 24, 25, 26, 27, 28, 29, 30, 31, 32, 33, 34, 35, 36, 37, 38, 39, 40, 41, 42, 43, 44, 45, 46, 47, 48, 49, 50, 51, 52, 53, 54, 55, 56, 57, 58, 59, 60, 61, 62, 63, 64, 65, 66, 67, 68, 77, 78, 79, 80, 81, 82, 83, 84, 85, 86, 87, 88, 89, 90, 91, 92, 93, 94, 95, 96, 97, 98, 99, 100, 101, 102, 103, 104, 105, 106, 107, 108, 109, 110, 111, 112, 113, 114, 115, 116, 117, 118] (by decide +kernel) (by decide +kernel)
set_option maxRecDepth 20000 in
theorem gX12_freeIn_X12_terms : GoodIn wsX12_freeIn (wsV RX12 350 RX12 yX12_terms wsX12_terms) := goodIn_app (goodIn_of _ (by decide +kernel)) ggX12_freeIn_X12_terms
set_option maxRecDepth 20000 in
theorem ggX12_freeIn_X12_peopleThat : GoodIn wsX12_freeIn wsX12_peopleThat := goodIn_r _ [23, 15, 24, 25, 26, 4, 27, 28, 29, 30, 77, 78, 79, 80, 81, 82, 83, 84, 85, 86, 87, 88, 89, 90, 91, 92, 93, 94, 95, 96, 97, 98, 99, 100, 101, 102, 103, 104, 105, 106, 107, 108, 109, 110, 111, 112, 113, 114, 115, 116, 117, 118] (by decide +kernel) (by decide +kernel)
set_option maxRecDepth 20000 in
theorem gX12_freeIn_X12_peopleThat : GoodIn wsX12_freeIn (wsV RX12 290 RX12 yX12_peopleThat wsX12_peopleThat) := goodIn_app (goodIn_of _ (by decide +kernel)) ggX12_freeIn_X12_peopleThat
set_option maxRecDepth 20000 in
theorem ggX12_freeIn_X12_restores : GoodIn wsX12_freeIn wsX12_restores := goodIn_r _ [72, 15, 77, 78, 79, 80, 81, 82, 83, 84, 85, 86, 87, 88, 89, 90, 91, 92, 93, 94, 95, 96, 97, 98, 99, 100, 101, 102, 103, 104, 105, 106, 107, 108, 109, 110, 111, 112, 113, 114, 115, 116, 117, 118] (by decide +kernel) (by decide +kernel)
set_option maxRecDepth 20000 in
theorem gX12_freeIn_X12_restores : GoodIn wsX12_freeIn (wsV RX12 377 RX12 yX12_restores wsX12_restores) := goodIn_app (goodIn_of _ (by decide +kernel)) ggX12_freeIn_X12_restores
set_option maxRecDepth 20000 in
theorem ggX12_freeIn_X12_gives : GoodIn wsX12_freeIn wsX12_gives := goodIn_r _ [76, 10, 77, 78, 79, 80, 81, 82, 83, 84, 85, 86, 87, 88, 89, 90, 91, 92, 93, 94, 95, 96, 97, 98, 99, 100, 101, 102, 103, 104, 105, 106, 107, 108, 109, 110, 111, 112, 113, 114, 115, 116, 117, 118] (by decide +kernel) (by decide +kernel)
set_option maxRecDepth 20000 in
theorem gX12_freeIn_X12_gives : GoodIn wsX12_freeIn (wsV RX12 95 RX12 yX12_gives wsX12_gives) := goodIn_app (goodIn_of _ (by decide +kernel)) ggX12_freeIn_X12_gives
theorem dX12_freeIn_0 : decode cX12_freeIn 0 = .ok (.iload_n 1, 1) := by decide +kernel
theorem dX12_freeIn_1 : decode cX12_freeIn 1 = .ok (.i2l, 1) := by decide +kernel
theorem dX12_freeIn_2 : decode cX12_freeIn 2 = .ok (.lconst 0, 1) := by decide +kernel
theorem dX12_freeIn_3 : decode cX12_freeIn 3 = .ok (.ldc2_w 372, 3) := by decide +kernel
theorem dX12_freeIn_6 : decode cX12_freeIn 6 = .ok (.invokestatic 337, 3) := by decide +kernel
theorem dX12_freeIn_9 : decode cX12_freeIn 9 = .ok (.ifCond .ne 9, 3) := by decide +kernel
theorem dX12_freeIn_12 : decode cX12_freeIn 12 = .ok (.aload_n 0, 1) := by decide +kernel
theorem dX12_freeIn_13 : decode cX12_freeIn 13 = .ok (.iconst 1, 1) := by decide +kernel
theorem dX12_freeIn_14 : decode cX12_freeIn 14 = .ok (.invokevirtual 91, 3) := by decide +kernel
theorem dX12_freeIn_17 : decode cX12_freeIn 17 = .ok (.ireturn, 1) := by decide +kernel
theorem dX12_freeIn_18 : decode cX12_freeIn 18 = .ok (.aload_n 0, 1) := by decide +kernel
theorem dX12_freeIn_19 : decode cX12_freeIn 19 = .ok (.sipush 3012, 3) := by decide +kernel
theorem dX12_freeIn_22 : decode cX12_freeIn 22 = .ok (.invokevirtual 374, 3) := by decide +kernel
theorem dX12_freeIn_25 : decode cX12_freeIn 25 = .ok (.iconst 0, 1) := by decide +kernel
theorem dX12_freeIn_26 : decode cX12_freeIn 26 = .ok (.istore_n 2, 1) := by decide +kernel
theorem dX12_freeIn_27 : decode cX12_freeIn 27 = .ok (.iload_n 2, 1) := by decide +kernel
theorem dX12_freeIn_28 : decode cX12_freeIn 28 = .ok (.iload_n 1, 1) := by decide +kernel
theorem dX12_freeIn_29 : decode cX12_freeIn 29 = .ok (.if_icmp .ge 14, 3) := by decide +kernel
theorem dX12_freeIn_32 : decode cX12_freeIn 32 = .ok (.aload_n 0, 1) := by decide +kernel
theorem dX12_freeIn_33 : decode cX12_freeIn 33 = .ok (.invokevirtual 350, 3) := by decide +kernel
theorem dX12_freeIn_36 : decode cX12_freeIn 36 = .ok (.pop, 1) := by decide +kernel
theorem dX12_freeIn_37 : decode cX12_freeIn 37 = .ok (.iinc 2 1, 3) := by decide +kernel
theorem dX12_freeIn_40 : decode cX12_freeIn 40 = .ok (.goto (-13), 3) := by decide +kernel
theorem dX12_freeIn_43 : decode cX12_freeIn 43 = .ok (.aload_n 0, 1) := by decide +kernel
theorem dX12_freeIn_44 : decode cX12_freeIn 44 = .ok (.iconst 1, 1) := by decide +kernel
theorem dX12_freeIn_45 : decode cX12_freeIn 45 = .ok (.invokevirtual 290, 3) := by decide +kernel
theorem dX12_freeIn_48 : decode cX12_freeIn 48 = .ok (.istore_n 2, 1) := by decide +kernel
theorem dX12_freeIn_49 : decode cX12_freeIn 49 = .ok (.aload_n 0, 1) := by decide +kernel
theorem dX12_freeIn_50 : decode cX12_freeIn 50 = .ok (.sipush 3012, 3) := by decide +kernel
theorem dX12_freeIn_53 : decode cX12_freeIn 53 = .ok (.invokevirtual 377, 3) := by decide +kernel
theorem dX12_freeIn_56 : decode cX12_freeIn 56 = .ok (.aload_n 0, 1) := by decide +kernel
theorem dX12_freeIn_57 : decode cX12_freeIn 57 = .ok (.iload_n 2, 1) := by decide +kernel
theorem dX12_freeIn_58 : decode cX12_freeIn 58 = .ok (.invokevirtual 95, 3) := by decide +kernel
theorem dX12_freeIn_61 : decode cX12_freeIn 61 = .ok (.ireturn, 1) := by decide +kernel
set_option maxRecDepth 20000 in
theorem ggX12_judgedIn_X12_isPerson : GoodIn wsX12_judgedIn wsX12_isPerson := goodIn_r _ [5, 6, 77, 78, 79, 80, 81, 82, 83, 84, 85, 86, 87, 88, 89, 90, 91, 92, 93, 94, 95, 96, 97, 98, 99, 100, 101, 102, 103, 104, 105, 106, 107, 108, 109, 110, 111, 112, 113, 114, 115, 116, 117, 118] (by decide +kernel) (by decide +kernel)
set_option maxRecDepth 20000 in
theorem gX12_judgedIn_X12_isPerson : GoodIn wsX12_judgedIn (wsV RX12 305 RX12 yX12_isPerson wsX12_isPerson) := goodIn_app (goodIn_of _ (by decide +kernel)) ggX12_judgedIn_X12_isPerson
set_option maxRecDepth 20000 in
theorem ggX12_judgedIn_X12_refuse : GoodIn wsX12_judgedIn wsX12_refuse := goodIn_r _ [10, 11, 77, 78, 79, 80, 81, 82, 83, 84, 85, 86, 87, 88, 89, 90, 91, 92, 93, 94, 95, 96, 97, 98, 99, 100, 101, 102, 103, 104, 105, 106, 107, 108, 109, 110, 111, 112, 113, 114, 115, 116, 117, 118] (by decide +kernel) (by decide +kernel)
set_option maxRecDepth 20000 in
theorem gX12_judgedIn_X12_refuse : GoodIn wsX12_judgedIn (wsV RX12 91 RX12 yX12_refuse wsX12_refuse) := goodIn_app (goodIn_of _ (by decide +kernel)) ggX12_judgedIn_X12_refuse
set_option maxRecDepth 20000 in
theorem ggX12_judgedIn_X12_personOf : GoodIn wsX12_judgedIn wsX12_personOf := goodIn_r _ [15, 6, 16, 17, 4, 18, 77, 78, 79, 80, 81, 82, 83, 84, 85, 86, 87, 88, 89, 90, 91, 92, 93, 94, 95, 96, 97, 98, 99, 100, 101, 102, 103, 104, 105, 106, 107, 108, 109, 110, 111, 112, 113, 114, 115, 116, 117, 118] (by decide +kernel) (by decide +kernel)
set_option maxRecDepth 20000 in
theorem gX12_judgedIn_X12_personOf : GoodIn wsX12_judgedIn (wsV RX12 281 RX12 yX12_personOf wsX12_personOf) := goodIn_app (goodIn_of _ (by decide +kernel)) ggX12_judgedIn_X12_personOf
set_option maxRecDepth 20000 in
theorem ggX12_judgedIn_X12_keeps : GoodIn wsX12_judgedIn wsX12_keeps := goodIn_r _ [22, 6, 77, 78, 79, 80, 81, 82, 83, 84, 85, 86, 87, 88, 89, 90, 91, 92, 93, 94, 95, 96, 97, 98, 99, 100, 101, 102, 103, 104, 105, 106, 107, 108, 109, 110, 111, 112, 113, 114, 115, 116, 117, 118] (by decide +kernel) (by decide +kernel)
set_option maxRecDepth 20000 in
theorem gX12_judgedIn_X12_keeps : GoodIn wsX12_judgedIn (wsV RX12 374 RX12 yX12_keeps wsX12_keeps) := goodIn_app (goodIn_of _ (by decide +kernel)) ggX12_judgedIn_X12_keeps
set_option maxRecDepth 20000 in
theorem ggX12_judgedIn_X12_terms : GoodIn wsX12_judgedIn wsX12_terms := goodIn_r _ [26, 6, 27, 28, 29, 4, 30, 12, 13, 14, 15, 16, 17, 18, 31, 32, 33, 34, 35, 36, 37, 38, 39, 40, 41, 42, 43, 44, 45, 46, 47, 48, 49, 50, 51, 52, 53, 54, 55, 56, 57, 58, 59, 60, 61, 62, 63, 64, 65, 66, 67, 68, 77, 78, 79, 80, 81, 82, 83, 84, 85, 86, 87, 88, 89, 90, 91, 92, 93, 94, 95, 96, 97, 98, 99, 100, 101, 102, 103, 104, 105, 106, 107, 108, 109, 110, 111, 112, 113, 114, 115, 116, 117, 118] (by decide +kernel) (by decide +kernel)
set_option maxRecDepth 20000 in
theorem gX12_judgedIn_X12_terms : GoodIn wsX12_judgedIn (wsV RX12 350 RX12 yX12_terms wsX12_terms) := goodIn_app (goodIn_of _ (by decide +kernel)) ggX12_judgedIn_X12_terms
set_option maxRecDepth 20000 in
theorem ggX12_judgedIn_X12_restores : GoodIn wsX12_judgedIn wsX12_restores := goodIn_r _ [72, 6, 77, 78, 79, 80, 81, 82, 83, 84, 85, 86, 87, 88, 89, 90, 91, 92, 93, 94, 95, 96, 97, 98, 99, 100, 101, 102, 103, 104, 105, 106, 107, 108, 109, 110, 111, 112, 113, 114, 115, 116, 117, 118] (by decide +kernel) (by decide +kernel)
set_option maxRecDepth 20000 in
theorem gX12_judgedIn_X12_restores : GoodIn wsX12_judgedIn (wsV RX12 377 RX12 yX12_restores wsX12_restores) := goodIn_app (goodIn_of _ (by decide +kernel)) ggX12_judgedIn_X12_restores
set_option maxRecDepth 20000 in
theorem ggX12_judgedIn_X12_gives : GoodIn wsX12_judgedIn wsX12_gives := goodIn_r _ [76, 11, 77, 78, 79, 80, 81, 82, 83, 84, 85, 86, 87, 88, 89, 90, 91, 92, 93, 94, 95, 96, 97, 98, 99, 100, 101, 102, 103, 104, 105, 106, 107, 108, 109, 110, 111, 112, 113, 114, 115, 116, 117, 118] (by decide +kernel) (by decide +kernel)
set_option maxRecDepth 20000 in
theorem gX12_judgedIn_X12_gives : GoodIn wsX12_judgedIn (wsV RX12 95 RX12 yX12_gives wsX12_gives) := goodIn_app (goodIn_of _ (by decide +kernel)) ggX12_judgedIn_X12_gives
theorem dX12_judgedIn_0 : decode cX12_judgedIn 0 = .ok (.aload_n 0, 1) := by decide +kernel
theorem dX12_judgedIn_1 : decode cX12_judgedIn 1 = .ok (.iload_n 1, 1) := by decide +kernel
theorem dX12_judgedIn_2 : decode cX12_judgedIn 2 = .ok (.i2l, 1) := by decide +kernel
theorem dX12_judgedIn_3 : decode cX12_judgedIn 3 = .ok (.invokevirtual 305, 3) := by decide +kernel
theorem dX12_judgedIn_6 : decode cX12_judgedIn 6 = .ok (.ifCond .ne 9, 3) := by decide +kernel
theorem dX12_judgedIn_9 : decode cX12_judgedIn 9 = .ok (.aload_n 0, 1) := by decide +kernel
theorem dX12_judgedIn_10 : decode cX12_judgedIn 10 = .ok (.iconst 1, 1) := by decide +kernel
theorem dX12_judgedIn_11 : decode cX12_judgedIn 11 = .ok (.invokevirtual 91, 3) := by decide +kernel
theorem dX12_judgedIn_14 : decode cX12_judgedIn 14 = .ok (.ireturn, 1) := by decide +kernel
theorem dX12_judgedIn_15 : decode cX12_judgedIn 15 = .ok (.aload_n 0, 1) := by decide +kernel
theorem dX12_judgedIn_16 : decode cX12_judgedIn 16 = .ok (.iload_n 1, 1) := by decide +kernel
theorem dX12_judgedIn_17 : decode cX12_judgedIn 17 = .ok (.iconst 2, 1) := by decide +kernel
theorem dX12_judgedIn_18 : decode cX12_judgedIn 18 = .ok (.invokevirtual 281, 3) := by decide +kernel
theorem dX12_judgedIn_21 : decode cX12_judgedIn 21 = .ok (.ifCond .eq 10, 3) := by decide +kernel
theorem dX12_judgedIn_24 : decode cX12_judgedIn 24 = .ok (.aload_n 0, 1) := by decide +kernel
theorem dX12_judgedIn_25 : decode cX12_judgedIn 25 = .ok (.bipush 7, 2) := by decide +kernel
theorem dX12_judgedIn_27 : decode cX12_judgedIn 27 = .ok (.invokevirtual 91, 3) := by decide +kernel
theorem dX12_judgedIn_30 : decode cX12_judgedIn 30 = .ok (.ireturn, 1) := by decide +kernel
theorem dX12_judgedIn_31 : decode cX12_judgedIn 31 = .ok (.aload_n 0, 1) := by decide +kernel
theorem dX12_judgedIn_32 : decode cX12_judgedIn 32 = .ok (.sipush 3012, 3) := by decide +kernel
theorem dX12_judgedIn_35 : decode cX12_judgedIn 35 = .ok (.invokevirtual 374, 3) := by decide +kernel
theorem dX12_judgedIn_38 : decode cX12_judgedIn 38 = .ok (.iconst 0, 1) := by decide +kernel
theorem dX12_judgedIn_39 : decode cX12_judgedIn 39 = .ok (.istore_n 2, 1) := by decide +kernel
theorem dX12_judgedIn_40 : decode cX12_judgedIn 40 = .ok (.iload_n 2, 1) := by decide +kernel
theorem dX12_judgedIn_41 : decode cX12_judgedIn 41 = .ok (.bipush 40, 2) := by decide +kernel
theorem dX12_judgedIn_43 : decode cX12_judgedIn 43 = .ok (.if_icmp .ge 23, 3) := by decide +kernel
theorem dX12_judgedIn_46 : decode cX12_judgedIn 46 = .ok (.aload_n 0, 1) := by decide +kernel
theorem dX12_judgedIn_47 : decode cX12_judgedIn 47 = .ok (.iload_n 1, 1) := by decide +kernel
theorem dX12_judgedIn_48 : decode cX12_judgedIn 48 = .ok (.iconst 2, 1) := by decide +kernel
theorem dX12_judgedIn_49 : decode cX12_judgedIn 49 = .ok (.invokevirtual 281, 3) := by decide +kernel
theorem dX12_judgedIn_52 : decode cX12_judgedIn 52 = .ok (.ifCond .ne 14, 3) := by decide +kernel
theorem dX12_judgedIn_55 : decode cX12_judgedIn 55 = .ok (.aload_n 0, 1) := by decide +kernel
theorem dX12_judgedIn_56 : decode cX12_judgedIn 56 = .ok (.invokevirtual 350, 3) := by decide +kernel
theorem dX12_judgedIn_59 : decode cX12_judgedIn 59 = .ok (.pop, 1) := by decide +kernel
theorem dX12_judgedIn_60 : decode cX12_judgedIn 60 = .ok (.iinc 2 1, 3) := by decide +kernel
theorem dX12_judgedIn_63 : decode cX12_judgedIn 63 = .ok (.goto (-23), 3) := by decide +kernel
theorem dX12_judgedIn_66 : decode cX12_judgedIn 66 = .ok (.aload_n 0, 1) := by decide +kernel
theorem dX12_judgedIn_67 : decode cX12_judgedIn 67 = .ok (.iload_n 1, 1) := by decide +kernel
theorem dX12_judgedIn_68 : decode cX12_judgedIn 68 = .ok (.iconst 2, 1) := by decide +kernel
theorem dX12_judgedIn_69 : decode cX12_judgedIn 69 = .ok (.invokevirtual 281, 3) := by decide +kernel
theorem dX12_judgedIn_72 : decode cX12_judgedIn 72 = .ok (.ifCond .eq 7, 3) := by decide +kernel
theorem dX12_judgedIn_75 : decode cX12_judgedIn 75 = .ok (.iconst 1, 1) := by decide +kernel
theorem dX12_judgedIn_76 : decode cX12_judgedIn 76 = .ok (.goto 4, 3) := by decide +kernel
theorem dX12_judgedIn_79 : decode cX12_judgedIn 79 = .ok (.iconst 0, 1) := by decide +kernel
theorem dX12_judgedIn_80 : decode cX12_judgedIn 80 = .ok (.istore_n 3, 1) := by decide +kernel
theorem dX12_judgedIn_81 : decode cX12_judgedIn 81 = .ok (.aload_n 0, 1) := by decide +kernel
theorem dX12_judgedIn_82 : decode cX12_judgedIn 82 = .ok (.sipush 3012, 3) := by decide +kernel
theorem dX12_judgedIn_85 : decode cX12_judgedIn 85 = .ok (.invokevirtual 377, 3) := by decide +kernel
theorem dX12_judgedIn_88 : decode cX12_judgedIn 88 = .ok (.iload_n 3, 1) := by decide +kernel
theorem dX12_judgedIn_89 : decode cX12_judgedIn 89 = .ok (.ifCond .eq 11, 3) := by decide +kernel
theorem dX12_judgedIn_92 : decode cX12_judgedIn 92 = .ok (.aload_n 0, 1) := by decide +kernel
theorem dX12_judgedIn_93 : decode cX12_judgedIn 93 = .ok (.iload_n 2, 1) := by decide +kernel
theorem dX12_judgedIn_94 : decode cX12_judgedIn 94 = .ok (.invokevirtual 95, 3) := by decide +kernel
theorem dX12_judgedIn_97 : decode cX12_judgedIn 97 = .ok (.goto 9, 3) := by decide +kernel
theorem dX12_judgedIn_100 : decode cX12_judgedIn 100 = .ok (.aload_n 0, 1) := by decide +kernel
theorem dX12_judgedIn_101 : decode cX12_judgedIn 101 = .ok (.bipush 6, 2) := by decide +kernel
theorem dX12_judgedIn_103 : decode cX12_judgedIn 103 = .ok (.invokevirtual 91, 3) := by decide +kernel
theorem dX12_judgedIn_106 : decode cX12_judgedIn 106 = .ok (.ireturn, 1) := by decide +kernel
set_option maxRecDepth 20000 in
theorem ggX12_wrongSeen_X12_isTray : GoodIn wsX12_wrongSeen wsX12_isTray := goodIn_r _ [9] (by decide +kernel) (by decide +kernel)
set_option maxRecDepth 20000 in
theorem gX12_wrongSeen_X12_isTray : GoodIn wsX12_wrongSeen (va_wsS RX12 102 yX12_isTray wsX12_isTray) := goodIn_app (goodIn_of _ (by decide +kernel)) ggX12_wrongSeen_X12_isTray
set_option maxRecDepth 20000 in
theorem ggX12_wrongSeen_X12_isFrom : GoodIn wsX12_wrongSeen wsX12_isFrom := goodIn_r _ [12] (by decide +kernel) (by decide +kernel)
set_option maxRecDepth 20000 in
theorem gX12_wrongSeen_X12_isFrom : GoodIn wsX12_wrongSeen (va_wsS RX12 337 yX12_isFrom wsX12_isFrom) := goodIn_app (goodIn_of _ (by decide +kernel)) ggX12_wrongSeen_X12_isFrom
set_option maxRecDepth 20000 in
theorem ggX12_wrongSeen_X12_isPerson : GoodIn wsX12_wrongSeen wsX12_isPerson := goodIn_r _ [16, 5, 17, 18, 19, 20, 21, 22, 23, 24, 25, 26, 27, 28, 29, 30, 31, 32, 33, 34, 35, 36, 37, 38, 39, 40, 41, 42, 43, 44, 45, 46, 47, 48, 49, 50, 51, 52, 53, 54, 55, 56, 57, 58] (by decide +kernel) (by decide +kernel)
set_option maxRecDepth 20000 in
theorem gX12_wrongSeen_X12_isPerson : GoodIn wsX12_wrongSeen (wsV RX12 305 RX12 yX12_isPerson wsX12_isPerson) := goodIn_app (goodIn_of _ (by decide +kernel)) ggX12_wrongSeen_X12_isPerson
theorem dX12_wrongSeen_0 : decode cX12_wrongSeen 0 = .ok (.iload_n 1, 1) := by decide +kernel
theorem dX12_wrongSeen_1 : decode cX12_wrongSeen 1 = .ok (.invokestatic 102, 3) := by decide +kernel
theorem dX12_wrongSeen_4 : decode cX12_wrongSeen 4 = .ok (.ifCond .eq 15, 3) := by decide +kernel
theorem dX12_wrongSeen_7 : decode cX12_wrongSeen 7 = .ok (.iload_n 2, 1) := by decide +kernel
theorem dX12_wrongSeen_8 : decode cX12_wrongSeen 8 = .ok (.i2l, 1) := by decide +kernel
theorem dX12_wrongSeen_9 : decode cX12_wrongSeen 9 = .ok (.lconst 0, 1) := by decide +kernel
theorem dX12_wrongSeen_10 : decode cX12_wrongSeen 10 = .ok (.ldc2_w 380, 3) := by decide +kernel
theorem dX12_wrongSeen_13 : decode cX12_wrongSeen 13 = .ok (.invokestatic 337, 3) := by decide +kernel
theorem dX12_wrongSeen_16 : decode cX12_wrongSeen 16 = .ok (.ifCond .ne 5, 3) := by decide +kernel
theorem dX12_wrongSeen_19 : decode cX12_wrongSeen 19 = .ok (.iconst 1, 1) := by decide +kernel
theorem dX12_wrongSeen_20 : decode cX12_wrongSeen 20 = .ok (.ireturn, 1) := by decide +kernel
theorem dX12_wrongSeen_21 : decode cX12_wrongSeen 21 = .ok (.aload_n 0, 1) := by decide +kernel
theorem dX12_wrongSeen_22 : decode cX12_wrongSeen 22 = .ok (.getfield 24, 3) := by decide +kernel
theorem dX12_wrongSeen_25 : decode cX12_wrongSeen 25 = .ok (.iload_n 1, 1) := by decide +kernel
theorem dX12_wrongSeen_26 : decode cX12_wrongSeen 26 = .ok (.iaload, 1) := by decide +kernel
theorem dX12_wrongSeen_27 : decode cX12_wrongSeen 27 = .ok (.iconst (-1), 1) := by decide +kernel
theorem dX12_wrongSeen_28 : decode cX12_wrongSeen 28 = .ok (.if_icmp .ne 5, 3) := by decide +kernel
theorem dX12_wrongSeen_31 : decode cX12_wrongSeen 31 = .ok (.iconst 2, 1) := by decide +kernel
theorem dX12_wrongSeen_32 : decode cX12_wrongSeen 32 = .ok (.ireturn, 1) := by decide +kernel
theorem dX12_wrongSeen_33 : decode cX12_wrongSeen 33 = .ok (.aload_n 0, 1) := by decide +kernel
theorem dX12_wrongSeen_34 : decode cX12_wrongSeen 34 = .ok (.getfield 24, 3) := by decide +kernel
theorem dX12_wrongSeen_37 : decode cX12_wrongSeen 37 = .ok (.iload_n 1, 1) := by decide +kernel
theorem dX12_wrongSeen_38 : decode cX12_wrongSeen 38 = .ok (.iaload, 1) := by decide +kernel
theorem dX12_wrongSeen_39 : decode cX12_wrongSeen 39 = .ok (.iconst 3, 1) := by decide +kernel
theorem dX12_wrongSeen_40 : decode cX12_wrongSeen 40 = .ok (.iload_n 2, 1) := by decide +kernel
theorem dX12_wrongSeen_41 : decode cX12_wrongSeen 41 = .ok (.imul, 1) := by decide +kernel
theorem dX12_wrongSeen_42 : decode cX12_wrongSeen 42 = .ok (.if_icmp .ge 5, 3) := by decide +kernel
theorem dX12_wrongSeen_45 : decode cX12_wrongSeen 45 = .ok (.iconst 3, 1) := by decide +kernel
theorem dX12_wrongSeen_46 : decode cX12_wrongSeen 46 = .ok (.ireturn, 1) := by decide +kernel
theorem dX12_wrongSeen_47 : decode cX12_wrongSeen 47 = .ok (.iconst 0, 1) := by decide +kernel
theorem dX12_wrongSeen_48 : decode cX12_wrongSeen 48 = .ok (.istore_n 3, 1) := by decide +kernel
theorem dX12_wrongSeen_49 : decode cX12_wrongSeen 49 = .ok (.iload_n 3, 1) := by decide +kernel
theorem dX12_wrongSeen_50 : decode cX12_wrongSeen 50 = .ok (.iload_n 2, 1) := by decide +kernel
theorem dX12_wrongSeen_51 : decode cX12_wrongSeen 51 = .ok (.if_icmp .ge 77, 3) := by decide +kernel
theorem dX12_wrongSeen_54 : decode cX12_wrongSeen 54 = .ok (.bipush 60, 2) := by decide +kernel
theorem dX12_wrongSeen_56 : decode cX12_wrongSeen 56 = .ok (.iload_n 1, 1) := by decide +kernel
theorem dX12_wrongSeen_57 : decode cX12_wrongSeen 57 = .ok (.imul, 1) := by decide +kernel
theorem dX12_wrongSeen_58 : decode cX12_wrongSeen 58 = .ok (.iconst 3, 1) := by decide +kernel
theorem dX12_wrongSeen_59 : decode cX12_wrongSeen 59 = .ok (.iload_n 3, 1) := by decide +kernel
theorem dX12_wrongSeen_60 : decode cX12_wrongSeen 60 = .ok (.imul, 1) := by decide +kernel
theorem dX12_wrongSeen_61 : decode cX12_wrongSeen 61 = .ok (.iadd, 1) := by decide +kernel
theorem dX12_wrongSeen_62 : decode cX12_wrongSeen 62 = .ok (.istore 4, 2) := by decide +kernel
theorem dX12_wrongSeen_64 : decode cX12_wrongSeen 64 = .ok (.aload_n 0, 1) := by decide +kernel
theorem dX12_wrongSeen_65 : decode cX12_wrongSeen 65 = .ok (.aload_n 0, 1) := by decide +kernel
theorem dX12_wrongSeen_66 : decode cX12_wrongSeen 66 = .ok (.getfield 27, 3) := by decide +kernel
theorem dX12_wrongSeen_69 : decode cX12_wrongSeen 69 = .ok (.iload 4, 2) := by decide +kernel
theorem dX12_wrongSeen_71 : decode cX12_wrongSeen 71 = .ok (.laload, 1) := by decide +kernel
theorem dX12_wrongSeen_72 : decode cX12_wrongSeen 72 = .ok (.invokevirtual 305, 3) := by decide +kernel
theorem dX12_wrongSeen_75 : decode cX12_wrongSeen 75 = .ok (.ifCond .eq 45, 3) := by decide +kernel
theorem dX12_wrongSeen_78 : decode cX12_wrongSeen 78 = .ok (.aload_n 0, 1) := by decide +kernel
theorem dX12_wrongSeen_79 : decode cX12_wrongSeen 79 = .ok (.getfield 27, 3) := by decide +kernel
theorem dX12_wrongSeen_82 : decode cX12_wrongSeen 82 = .ok (.iload 4, 2) := by decide +kernel
theorem dX12_wrongSeen_84 : decode cX12_wrongSeen 84 = .ok (.iconst 1, 1) := by decide +kernel
theorem dX12_wrongSeen_85 : decode cX12_wrongSeen 85 = .ok (.iadd, 1) := by decide +kernel
theorem dX12_wrongSeen_86 : decode cX12_wrongSeen 86 = .ok (.laload, 1) := by decide +kernel
theorem dX12_wrongSeen_87 : decode cX12_wrongSeen 87 = .ok (.lconst 0, 1) := by decide +kernel
theorem dX12_wrongSeen_88 : decode cX12_wrongSeen 88 = .ok (.ldc2_w 335, 3) := by decide +kernel
theorem dX12_wrongSeen_91 : decode cX12_wrongSeen 91 = .ok (.invokestatic 337, 3) := by decide +kernel
theorem dX12_wrongSeen_94 : decode cX12_wrongSeen 94 = .ok (.ifCond .eq 26, 3) := by decide +kernel
theorem dX12_wrongSeen_97 : decode cX12_wrongSeen 97 = .ok (.aload_n 0, 1) := by decide +kernel
theorem dX12_wrongSeen_98 : decode cX12_wrongSeen 98 = .ok (.getfield 27, 3) := by decide +kernel
theorem dX12_wrongSeen_101 : decode cX12_wrongSeen 101 = .ok (.iload 4, 2) := by decide +kernel
theorem dX12_wrongSeen_103 : decode cX12_wrongSeen 103 = .ok (.iconst 2, 1) := by decide +kernel
theorem dX12_wrongSeen_104 : decode cX12_wrongSeen 104 = .ok (.iadd, 1) := by decide +kernel
theorem dX12_wrongSeen_105 : decode cX12_wrongSeen 105 = .ok (.laload, 1) := by decide +kernel
theorem dX12_wrongSeen_106 : decode cX12_wrongSeen 106 = .ok (.lconst 0, 1) := by decide +kernel
theorem dX12_wrongSeen_107 : decode cX12_wrongSeen 107 = .ok (.aload_n 0, 1) := by decide +kernel
theorem dX12_wrongSeen_108 : decode cX12_wrongSeen 108 = .ok (.getfield 7, 3) := by decide +kernel
theorem dX12_wrongSeen_111 : decode cX12_wrongSeen 111 = .ok (.iconst 1, 1) := by decide +kernel
theorem dX12_wrongSeen_112 : decode cX12_wrongSeen 112 = .ok (.iaload, 1) := by decide +kernel
theorem dX12_wrongSeen_113 : decode cX12_wrongSeen 113 = .ok (.i2l, 1) := by decide +kernel
theorem dX12_wrongSeen_114 : decode cX12_wrongSeen 114 = .ok (.invokestatic 337, 3) := by decide +kernel
theorem dX12_wrongSeen_117 : decode cX12_wrongSeen 117 = .ok (.ifCond .ne 5, 3) := by decide +kernel
theorem dX12_wrongSeen_120 : decode cX12_wrongSeen 120 = .ok (.iconst 5, 1) := by decide +kernel
theorem dX12_wrongSeen_121 : decode cX12_wrongSeen 121 = .ok (.ireturn, 1) := by decide +kernel
theorem dX12_wrongSeen_122 : decode cX12_wrongSeen 122 = .ok (.iinc 3 1, 3) := by decide +kernel
theorem dX12_wrongSeen_125 : decode cX12_wrongSeen 125 = .ok (.goto (-76), 3) := by decide +kernel
theorem dX12_wrongSeen_128 : decode cX12_wrongSeen 128 = .ok (.iconst 0, 1) := by decide +kernel
theorem dX12_wrongSeen_129 : decode cX12_wrongSeen 129 = .ok (.ireturn, 1) := by decide +kernel
set_option maxRecDepth 20000 in
theorem ggX12_wouldShow_X12_personOf : GoodIn wsX12_wouldShow wsX12_personOf := goodIn_r _ [6, 1, 7, 8, 5, 9, 36, 37, 38, 39, 40, 41, 42, 43, 44, 45, 46, 47, 48, 49, 50, 51, 52, 53, 54, 55, 56, 57, 58, 59, 60, 61, 62, 63, 64, 65, 66, 67, 68, 69, 70, 71, 72, 73, 74, 75, 76, 77] (by decide +kernel) (by decide +kernel)
set_option maxRecDepth 20000 in
theorem gX12_wouldShow_X12_personOf : GoodIn wsX12_wouldShow (wsV RX12 281 RX12 yX12_personOf wsX12_personOf) := goodIn_app (goodIn_of _ (by decide +kernel)) ggX12_wouldShow_X12_personOf
set_option maxRecDepth 20000 in
theorem ggX12_wouldShow_X12_cueOf : GoodIn wsX12_wouldShow wsX12_cueOf := goodIn_r _ [13, 14, 15, 16, 5, 17, 1, 18, 19, 20, 21, 22, 23, 24, 25, 26, 27, 28, 29, 30, 31, 32, 33, 34, 35, 36, 37, 38, 39, 40, 41, 42, 43, 44, 45, 46, 47, 48, 49, 50, 51, 52, 53, 54, 55, 56, 57, 58, 59, 60, 61, 62, 63, 64, 65, 66, 67, 68, 69, 70, 71, 72, 73, 74, 75, 76, 77] (by decide +kernel) (by decide +kernel)
set_option maxRecDepth 20000 in
theorem gX12_wouldShow_X12_cueOf : GoodIn wsX12_wouldShow (wsV RX12 382 RX12 yX12_cueOf wsX12_cueOf) := goodIn_app (goodIn_of _ (by decide +kernel)) ggX12_wouldShow_X12_cueOf
theorem dX12_wouldShow_0 : decode cX12_wouldShow 0 = .ok (.aload_n 0, 1) := by decide +kernel
theorem dX12_wouldShow_1 : decode cX12_wouldShow 1 = .ok (.iload_n 1, 1) := by decide +kernel
theorem dX12_wouldShow_2 : decode cX12_wouldShow 2 = .ok (.iload_n 2, 1) := by decide +kernel
theorem dX12_wouldShow_3 : decode cX12_wouldShow 3 = .ok (.ishr, 1) := by decide +kernel
theorem dX12_wouldShow_4 : decode cX12_wouldShow 4 = .ok (.iconst 1, 1) := by decide +kernel
theorem dX12_wouldShow_5 : decode cX12_wouldShow 5 = .ok (.iand, 1) := by decide +kernel
theorem dX12_wouldShow_6 : decode cX12_wouldShow 6 = .ok (.aload_n 0, 1) := by decide +kernel
theorem dX12_wouldShow_7 : decode cX12_wouldShow 7 = .ok (.iload_n 2, 1) := by decide +kernel
theorem dX12_wouldShow_8 : decode cX12_wouldShow 8 = .ok (.iconst 0, 1) := by decide +kernel
theorem dX12_wouldShow_9 : decode cX12_wouldShow 9 = .ok (.invokevirtual 281, 3) := by decide +kernel
theorem dX12_wouldShow_12 : decode cX12_wouldShow 12 = .ok (.iload_n 3, 1) := by decide +kernel
theorem dX12_wouldShow_13 : decode cX12_wouldShow 13 = .ok (.aload_n 0, 1) := by decide +kernel
theorem dX12_wouldShow_14 : decode cX12_wouldShow 14 = .ok (.iload_n 2, 1) := by decide +kernel
theorem dX12_wouldShow_15 : decode cX12_wouldShow 15 = .ok (.iconst 1, 1) := by decide +kernel
theorem dX12_wouldShow_16 : decode cX12_wouldShow 16 = .ok (.invokevirtual 281, 3) := by decide +kernel
theorem dX12_wouldShow_19 : decode cX12_wouldShow 19 = .ok (.invokevirtual 382, 3) := by decide +kernel
theorem dX12_wouldShow_22 : decode cX12_wouldShow 22 = .ok (.istore 4, 2) := by decide +kernel
theorem dX12_wouldShow_24 : decode cX12_wouldShow 24 = .ok (.iload 4, 2) := by decide +kernel
theorem dX12_wouldShow_26 : decode cX12_wouldShow 26 = .ok (.iconst (-1), 1) := by decide +kernel
theorem dX12_wouldShow_27 : decode cX12_wouldShow 27 = .ok (.if_icmp .ne 12, 3) := by decide +kernel
theorem dX12_wouldShow_30 : decode cX12_wouldShow 30 = .ok (.aload_n 0, 1) := by decide +kernel
theorem dX12_wouldShow_31 : decode cX12_wouldShow 31 = .ok (.getfield 7, 3) := by decide +kernel
theorem dX12_wouldShow_34 : decode cX12_wouldShow 34 = .ok (.iconst 1, 1) := by decide +kernel
theorem dX12_wouldShow_35 : decode cX12_wouldShow 35 = .ok (.iaload, 1) := by decide +kernel
theorem dX12_wouldShow_36 : decode cX12_wouldShow 36 = .ok (.goto 5, 3) := by decide +kernel
theorem dX12_wouldShow_39 : decode cX12_wouldShow 39 = .ok (.iload 4, 2) := by decide +kernel
theorem dX12_wouldShow_41 : decode cX12_wouldShow 41 = .ok (.ireturn, 1) := by decide +kernel
set_option maxRecDepth 20000 in
theorem ggX12_doesFit_X12_wouldShow : GoodIn wsX12_doesFit wsX12_wouldShow := goodIn_r _ [6, 7, 8, 9, 10, 5, 11, 12, 13, 14, 15, 16, 17, 18, 19, 20, 21, 22, 23, 24, 25, 26, 27, 28, 29, 30, 31, 32, 33, 34, 35, 36, 37, 38, 39, 40, 41, 42, 43, 44, 45, 46, 47, 48, 49, 50, 51, 52, 53, 54, 55, 56, 57, 58, 59, 60, 61, 62, 63, 64, 65, 66, 67, 68, 69, 70, 71, 72, 73, 74, 75, 76, 77, 78, 79, 80, 81, 82] (by decide +kernel) (by decide +kernel)
set_option maxRecDepth 20000 in
theorem gX12_doesFit_X12_wouldShow : GoodIn wsX12_doesFit (wsV RX12 385 RX12 yX12_wouldShow wsX12_wouldShow) := goodIn_app (goodIn_of _ (by decide +kernel)) ggX12_doesFit_X12_wouldShow
theorem dX12_doesFit_0 : decode cX12_doesFit 0 = .ok (.iconst 0, 1) := by decide +kernel
theorem dX12_doesFit_1 : decode cX12_doesFit 1 = .ok (.istore 4, 2) := by decide +kernel
theorem dX12_doesFit_3 : decode cX12_doesFit 3 = .ok (.iload 4, 2) := by decide +kernel
theorem dX12_doesFit_5 : decode cX12_doesFit 5 = .ok (.iload_n 3, 1) := by decide +kernel
theorem dX12_doesFit_6 : decode cX12_doesFit 6 = .ok (.if_icmp .ge 59, 3) := by decide +kernel
theorem dX12_doesFit_9 : decode cX12_doesFit 9 = .ok (.bipush 60, 2) := by decide +kernel
theorem dX12_doesFit_11 : decode cX12_doesFit 11 = .ok (.iload_n 2, 1) := by decide +kernel
theorem dX12_doesFit_12 : decode cX12_doesFit 12 = .ok (.imul, 1) := by decide +kernel
theorem dX12_doesFit_13 : decode cX12_doesFit 13 = .ok (.iconst 3, 1) := by decide +kernel
theorem dX12_doesFit_14 : decode cX12_doesFit 14 = .ok (.iload 4, 2) := by decide +kernel
theorem dX12_doesFit_16 : decode cX12_doesFit 16 = .ok (.imul, 1) := by decide +kernel
theorem dX12_doesFit_17 : decode cX12_doesFit 17 = .ok (.iadd, 1) := by decide +kernel
theorem dX12_doesFit_18 : decode cX12_doesFit 18 = .ok (.istore 5, 2) := by decide +kernel
theorem dX12_doesFit_20 : decode cX12_doesFit 20 = .ok (.aload_n 0, 1) := by decide +kernel
theorem dX12_doesFit_21 : decode cX12_doesFit 21 = .ok (.iload_n 1, 1) := by decide +kernel
theorem dX12_doesFit_22 : decode cX12_doesFit 22 = .ok (.aload_n 0, 1) := by decide +kernel
theorem dX12_doesFit_23 : decode cX12_doesFit 23 = .ok (.getfield 27, 3) := by decide +kernel
theorem dX12_doesFit_26 : decode cX12_doesFit 26 = .ok (.iload 5, 2) := by decide +kernel
theorem dX12_doesFit_28 : decode cX12_doesFit 28 = .ok (.laload, 1) := by decide +kernel
theorem dX12_doesFit_29 : decode cX12_doesFit 29 = .ok (.l2i, 1) := by decide +kernel
theorem dX12_doesFit_30 : decode cX12_doesFit 30 = .ok (.aload_n 0, 1) := by decide +kernel
theorem dX12_doesFit_31 : decode cX12_doesFit 31 = .ok (.getfield 27, 3) := by decide +kernel
theorem dX12_doesFit_34 : decode cX12_doesFit 34 = .ok (.iload 5, 2) := by decide +kernel
theorem dX12_doesFit_36 : decode cX12_doesFit 36 = .ok (.iconst 1, 1) := by decide +kernel
theorem dX12_doesFit_37 : decode cX12_doesFit 37 = .ok (.iadd, 1) := by decide +kernel
theorem dX12_doesFit_38 : decode cX12_doesFit 38 = .ok (.laload, 1) := by decide +kernel
theorem dX12_doesFit_39 : decode cX12_doesFit 39 = .ok (.l2i, 1) := by decide +kernel
theorem dX12_doesFit_40 : decode cX12_doesFit 40 = .ok (.invokevirtual 385, 3) := by decide +kernel
theorem dX12_doesFit_43 : decode cX12_doesFit 43 = .ok (.i2l, 1) := by decide +kernel
theorem dX12_doesFit_44 : decode cX12_doesFit 44 = .ok (.aload_n 0, 1) := by decide +kernel
theorem dX12_doesFit_45 : decode cX12_doesFit 45 = .ok (.getfield 27, 3) := by decide +kernel
theorem dX12_doesFit_48 : decode cX12_doesFit 48 = .ok (.iload 5, 2) := by decide +kernel
theorem dX12_doesFit_50 : decode cX12_doesFit 50 = .ok (.iconst 2, 1) := by decide +kernel
theorem dX12_doesFit_51 : decode cX12_doesFit 51 = .ok (.iadd, 1) := by decide +kernel
theorem dX12_doesFit_52 : decode cX12_doesFit 52 = .ok (.laload, 1) := by decide +kernel
theorem dX12_doesFit_53 : decode cX12_doesFit 53 = .ok (.lcmp, 1) := by decide +kernel
theorem dX12_doesFit_54 : decode cX12_doesFit 54 = .ok (.ifCond .eq 5, 3) := by decide +kernel
theorem dX12_doesFit_57 : decode cX12_doesFit 57 = .ok (.iconst 0, 1) := by decide +kernel
theorem dX12_doesFit_58 : decode cX12_doesFit 58 = .ok (.ireturn, 1) := by decide +kernel
theorem dX12_doesFit_59 : decode cX12_doesFit 59 = .ok (.iinc 4 1, 3) := by decide +kernel
theorem dX12_doesFit_62 : decode cX12_doesFit 62 = .ok (.goto (-59), 3) := by decide +kernel
theorem dX12_doesFit_65 : decode cX12_doesFit 65 = .ok (.iconst 1, 1) := by decide +kernel
theorem dX12_doesFit_66 : decode cX12_doesFit 66 = .ok (.ireturn, 1) := by decide +kernel
set_option maxRecDepth 20000 in
theorem ggX12_laysFits_X12_doesFit : GoodIn wsX12_laysFits wsX12_doesFit := goodIn_r _ [8, 9, 10, 11, 12, 7, 13, 2, 14, 15, 16, 17, 18, 19, 20, 21, 22, 23, 24, 25, 26, 27, 28, 29, 30, 31, 32, 33, 34, 35, 36, 37, 38, 39, 40, 41, 42, 43, 44, 45, 46, 47, 48, 49, 50, 51, 52, 53, 54, 55, 56, 57, 58, 59, 60, 61, 62, 63, 64, 65, 66, 67, 68, 69, 70, 71, 72, 73, 74, 75, 76, 77, 78, 79, 80, 81, 82, 83, 84, 85, 86, 87, 88] (by decide +kernel) (by decide +kernel)
set_option maxRecDepth 20000 in
theorem gX12_laysFits_X12_doesFit : GoodIn wsX12_laysFits (wsV RX12 392 RX12 yX12_doesFit wsX12_doesFit) := goodIn_app (goodIn_of _ (by decide +kernel)) ggX12_laysFits_X12_doesFit
theorem dX12_laysFits_0 : decode cX12_laysFits 0 = .ok (.aload_n 0, 1) := by decide +kernel
theorem dX12_laysFits_1 : decode cX12_laysFits 1 = .ok (.iconst 0, 1) := by decide +kernel
theorem dX12_laysFits_2 : decode cX12_laysFits 2 = .ok (.putfield 389, 3) := by decide +kernel
theorem dX12_laysFits_5 : decode cX12_laysFits 5 = .ok (.iconst 0, 1) := by decide +kernel
theorem dX12_laysFits_6 : decode cX12_laysFits 6 = .ok (.istore_n 3, 1) := by decide +kernel
theorem dX12_laysFits_7 : decode cX12_laysFits 7 = .ok (.iload_n 3, 1) := by decide +kernel
theorem dX12_laysFits_8 : decode cX12_laysFits 8 = .ok (.iconst 1, 1) := by decide +kernel
theorem dX12_laysFits_9 : decode cX12_laysFits 9 = .ok (.aload_n 0, 1) := by decide +kernel
theorem dX12_laysFits_10 : decode cX12_laysFits 10 = .ok (.getfield 7, 3) := by decide +kernel
theorem dX12_laysFits_13 : decode cX12_laysFits 13 = .ok (.iconst 3, 1) := by decide +kernel
theorem dX12_laysFits_14 : decode cX12_laysFits 14 = .ok (.iaload, 1) := by decide +kernel
theorem dX12_laysFits_15 : decode cX12_laysFits 15 = .ok (.ishl, 1) := by decide +kernel
theorem dX12_laysFits_16 : decode cX12_laysFits 16 = .ok (.if_icmp .ge 45, 3) := by decide +kernel
theorem dX12_laysFits_19 : decode cX12_laysFits 19 = .ok (.aload_n 0, 1) := by decide +kernel
theorem dX12_laysFits_20 : decode cX12_laysFits 20 = .ok (.getfield 47, 3) := by decide +kernel
theorem dX12_laysFits_23 : decode cX12_laysFits 23 = .ok (.iload_n 3, 1) := by decide +kernel
theorem dX12_laysFits_24 : decode cX12_laysFits 24 = .ok (.aload_n 0, 1) := by decide +kernel
theorem dX12_laysFits_25 : decode cX12_laysFits 25 = .ok (.iload_n 3, 1) := by decide +kernel
theorem dX12_laysFits_26 : decode cX12_laysFits 26 = .ok (.iload_n 1, 1) := by decide +kernel
theorem dX12_laysFits_27 : decode cX12_laysFits 27 = .ok (.iload_n 2, 1) := by decide +kernel
theorem dX12_laysFits_28 : decode cX12_laysFits 28 = .ok (.invokevirtual 392, 3) := by decide +kernel
theorem dX12_laysFits_31 : decode cX12_laysFits 31 = .ok (.bastore, 1) := by decide +kernel
theorem dX12_laysFits_32 : decode cX12_laysFits 32 = .ok (.aload_n 0, 1) := by decide +kernel
theorem dX12_laysFits_33 : decode cX12_laysFits 33 = .ok (.dup, 1) := by decide +kernel
theorem dX12_laysFits_34 : decode cX12_laysFits 34 = .ok (.getfield 389, 3) := by decide +kernel
theorem dX12_laysFits_37 : decode cX12_laysFits 37 = .ok (.aload_n 0, 1) := by decide +kernel
theorem dX12_laysFits_38 : decode cX12_laysFits 38 = .ok (.getfield 47, 3) := by decide +kernel
theorem dX12_laysFits_41 : decode cX12_laysFits 41 = .ok (.iload_n 3, 1) := by decide +kernel
theorem dX12_laysFits_42 : decode cX12_laysFits 42 = .ok (.baload, 1) := by decide +kernel
theorem dX12_laysFits_43 : decode cX12_laysFits 43 = .ok (.ifCond .eq 7, 3) := by decide +kernel
theorem dX12_laysFits_46 : decode cX12_laysFits 46 = .ok (.iconst 1, 1) := by decide +kernel
theorem dX12_laysFits_47 : decode cX12_laysFits 47 = .ok (.goto 4, 3) := by decide +kernel
theorem dX12_laysFits_50 : decode cX12_laysFits 50 = .ok (.iconst 0, 1) := by decide +kernel
theorem dX12_laysFits_51 : decode cX12_laysFits 51 = .ok (.iadd, 1) := by decide +kernel
theorem dX12_laysFits_52 : decode cX12_laysFits 52 = .ok (.putfield 389, 3) := by decide +kernel
theorem dX12_laysFits_55 : decode cX12_laysFits 55 = .ok (.iinc 3 1, 3) := by decide +kernel
theorem dX12_laysFits_58 : decode cX12_laysFits 58 = .ok (.goto (-51), 3) := by decide +kernel
theorem dX12_laysFits_61 : decode cX12_laysFits 61 = .ok (.return_, 1) := by decide +kernel
set_option maxRecDepth 20000 in
theorem ggX12_guiltyIn_X12_isIn : GoodIn wsX12_guiltyIn wsX12_isIn := goodIn_r _ [7] (by decide +kernel) (by decide +kernel)
set_option maxRecDepth 20000 in
theorem gX12_guiltyIn_X12_isIn : GoodIn wsX12_guiltyIn (wsV RX12 315 RX12 yX12_isIn wsX12_isIn) := goodIn_app (goodIn_of _ (by decide +kernel)) ggX12_guiltyIn_X12_isIn
theorem dX12_guiltyIn_0 : decode cX12_guiltyIn 0 = .ok (.iconst 0, 1) := by decide +kernel
theorem dX12_guiltyIn_1 : decode cX12_guiltyIn 1 = .ok (.istore_n 2, 1) := by decide +kernel
theorem dX12_guiltyIn_2 : decode cX12_guiltyIn 2 = .ok (.iconst 0, 1) := by decide +kernel
theorem dX12_guiltyIn_3 : decode cX12_guiltyIn 3 = .ok (.istore_n 3, 1) := by decide +kernel
theorem dX12_guiltyIn_4 : decode cX12_guiltyIn 4 = .ok (.iload_n 3, 1) := by decide +kernel
theorem dX12_guiltyIn_5 : decode cX12_guiltyIn 5 = .ok (.iconst 1, 1) := by decide +kernel
theorem dX12_guiltyIn_6 : decode cX12_guiltyIn 6 = .ok (.aload_n 0, 1) := by decide +kernel
theorem dX12_guiltyIn_7 : decode cX12_guiltyIn 7 = .ok (.getfield 7, 3) := by decide +kernel
theorem dX12_guiltyIn_10 : decode cX12_guiltyIn 10 = .ok (.iconst 3, 1) := by decide +kernel
theorem dX12_guiltyIn_11 : decode cX12_guiltyIn 11 = .ok (.iaload, 1) := by decide +kernel
theorem dX12_guiltyIn_12 : decode cX12_guiltyIn 12 = .ok (.ishl, 1) := by decide +kernel
theorem dX12_guiltyIn_13 : decode cX12_guiltyIn 13 = .ok (.if_icmp .ge 35, 3) := by decide +kernel
theorem dX12_guiltyIn_16 : decode cX12_guiltyIn 16 = .ok (.iload_n 2, 1) := by decide +kernel
theorem dX12_guiltyIn_17 : decode cX12_guiltyIn 17 = .ok (.aload_n 0, 1) := by decide +kernel
theorem dX12_guiltyIn_18 : decode cX12_guiltyIn 18 = .ok (.getfield 47, 3) := by decide +kernel
theorem dX12_guiltyIn_21 : decode cX12_guiltyIn 21 = .ok (.iload_n 3, 1) := by decide +kernel
theorem dX12_guiltyIn_22 : decode cX12_guiltyIn 22 = .ok (.baload, 1) := by decide +kernel
theorem dX12_guiltyIn_23 : decode cX12_guiltyIn 23 = .ok (.ifCond .eq 16, 3) := by decide +kernel
theorem dX12_guiltyIn_26 : decode cX12_guiltyIn 26 = .ok (.aload_n 0, 1) := by decide +kernel
theorem dX12_guiltyIn_27 : decode cX12_guiltyIn 27 = .ok (.iload_n 3, 1) := by decide +kernel
theorem dX12_guiltyIn_28 : decode cX12_guiltyIn 28 = .ok (.iload_n 1, 1) := by decide +kernel
theorem dX12_guiltyIn_29 : decode cX12_guiltyIn 29 = .ok (.invokevirtual 315, 3) := by decide +kernel
theorem dX12_guiltyIn_32 : decode cX12_guiltyIn 32 = .ok (.ifCond .eq 7, 3) := by decide +kernel
theorem dX12_guiltyIn_35 : decode cX12_guiltyIn 35 = .ok (.iconst 1, 1) := by decide +kernel
theorem dX12_guiltyIn_36 : decode cX12_guiltyIn 36 = .ok (.goto 4, 3) := by decide +kernel
theorem dX12_guiltyIn_39 : decode cX12_guiltyIn 39 = .ok (.iconst 0, 1) := by decide +kernel
theorem dX12_guiltyIn_40 : decode cX12_guiltyIn 40 = .ok (.iadd, 1) := by decide +kernel
theorem dX12_guiltyIn_41 : decode cX12_guiltyIn 41 = .ok (.istore_n 2, 1) := by decide +kernel
theorem dX12_guiltyIn_42 : decode cX12_guiltyIn 42 = .ok (.iinc 3 1, 3) := by decide +kernel
theorem dX12_guiltyIn_45 : decode cX12_guiltyIn 45 = .ok (.goto (-41), 3) := by decide +kernel
theorem dX12_guiltyIn_48 : decode cX12_guiltyIn 48 = .ok (.iload_n 2, 1) := by decide +kernel
theorem dX12_guiltyIn_49 : decode cX12_guiltyIn 49 = .ok (.ireturn, 1) := by decide +kernel
set_option maxRecDepth 20000 in
theorem ggX12_fits_X12_wrongSeen : GoodIn wsX12_fits wsX12_wrongSeen := goodIn_r _ [6, 7, 8, 9, 10, 11, 12, 13, 5, 14, 15, 16, 17, 18, 19, 20, 21, 77, 78, 79, 80, 81, 82, 83, 84, 85, 86, 87, 88, 89, 90, 91, 92, 93, 94, 95, 96, 97, 98, 99, 100, 101, 102, 103, 104, 105, 106, 107, 108, 109, 110, 111, 112, 113, 114, 115, 116, 117, 118] (by decide +kernel) (by decide +kernel)
set_option maxRecDepth 20000 in
theorem gX12_fits_X12_wrongSeen : GoodIn wsX12_fits (wsV RX12 395 RX12 yX12_wrongSeen wsX12_wrongSeen) := goodIn_app (goodIn_of _ (by decide +kernel)) ggX12_fits_X12_wrongSeen
set_option maxRecDepth 20000 in
theorem ggX12_fits_X12_refuse : GoodIn wsX12_fits wsX12_refuse := goodIn_r _ [25, 26, 77, 78, 79, 80, 81, 82, 83, 84, 85, 86, 87, 88, 89, 90, 91, 92, 93, 94, 95, 96, 97, 98, 99, 100, 101, 102, 103, 104, 105, 106, 107, 108, 109, 110, 111, 112, 113, 114, 115, 116, 117, 118] (by decide +kernel) (by decide +kernel)
set_option maxRecDepth 20000 in
theorem gX12_fits_X12_refuse : GoodIn wsX12_fits (wsV RX12 91 RX12 yX12_refuse wsX12_refuse) := goodIn_app (goodIn_of _ (by decide +kernel)) ggX12_fits_X12_refuse
set_option maxRecDepth 20000 in
theorem ggX12_fits_X12_laysFits : GoodIn wsX12_fits wsX12_laysFits := goodIn_r _ [30, 1, 11, 31, 32, 33, 34, 5, 35, 9, 36, 37, 38, 39, 40, 41, 42, 43, 44, 45, 46, 47, 48, 49, 50, 51, 52, 53, 54, 55, 56, 57, 58, 59, 60, 61, 62, 63, 64, 65, 66, 67, 68, 69, 70, 71, 72, 77, 78, 79, 80, 81, 82, 83, 84, 85, 86, 87, 88, 89, 90, 91, 92, 93, 94, 95, 96, 97, 98, 99, 100, 101, 102, 103, 104, 105, 106, 107, 108, 109, 110, 111, 112, 113, 114, 115, 116, 117, 118] (by decide +kernel) (by decide +kernel)
set_option maxRecDepth 20000 in
theorem gX12_fits_X12_laysFits : GoodIn wsX12_fits (wsV RX12 398 RX12 yX12_laysFits wsX12_laysFits) := goodIn_app (goodIn_of _ (by decide +kernel)) ggX12_fits_X12_laysFits
set_option maxRecDepth 20000 in
theorem ggX12_fits_X12_gives : GoodIn wsX12_fits wsX12_gives := goodIn_r _ [76, 26, 77, 78, 79, 80, 81, 82, 83, 84, 85, 86, 87, 88, 89, 90, 91, 92, 93, 94, 95, 96, 97, 98, 99, 100, 101, 102, 103, 104, 105, 106, 107, 108, 109, 110, 111, 112, 113, 114, 115, 116, 117, 118] (by decide +kernel) (by decide +kernel)
set_option maxRecDepth 20000 in
theorem gX12_fits_X12_gives : GoodIn wsX12_fits (wsV RX12 95 RX12 yX12_gives wsX12_gives) := goodIn_app (goodIn_of _ (by decide +kernel)) ggX12_fits_X12_gives
theorem dX12_fits_0 : decode cX12_fits 0 = .ok (.aload_n 0, 1) := by decide +kernel
theorem dX12_fits_1 : decode cX12_fits 1 = .ok (.iload_n 1, 1) := by decide +kernel
theorem dX12_fits_2 : decode cX12_fits 2 = .ok (.iload_n 2, 1) := by decide +kernel
theorem dX12_fits_3 : decode cX12_fits 3 = .ok (.invokevirtual 395, 3) := by decide +kernel
theorem dX12_fits_6 : decode cX12_fits 6 = .ok (.istore_n 3, 1) := by decide +kernel
theorem dX12_fits_7 : decode cX12_fits 7 = .ok (.iload_n 3, 1) := by decide +kernel
theorem dX12_fits_8 : decode cX12_fits 8 = .ok (.ifCond .le 9, 3) := by decide +kernel
theorem dX12_fits_11 : decode cX12_fits 11 = .ok (.aload_n 0, 1) := by decide +kernel
theorem dX12_fits_12 : decode cX12_fits 12 = .ok (.iload_n 3, 1) := by decide +kernel
theorem dX12_fits_13 : decode cX12_fits 13 = .ok (.invokevirtual 91, 3) := by decide +kernel
theorem dX12_fits_16 : decode cX12_fits 16 = .ok (.ireturn, 1) := by decide +kernel
theorem dX12_fits_17 : decode cX12_fits 17 = .ok (.aload_n 0, 1) := by decide +kernel
theorem dX12_fits_18 : decode cX12_fits 18 = .ok (.iload_n 1, 1) := by decide +kernel
theorem dX12_fits_19 : decode cX12_fits 19 = .ok (.iload_n 2, 1) := by decide +kernel
theorem dX12_fits_20 : decode cX12_fits 20 = .ok (.invokevirtual 398, 3) := by decide +kernel
theorem dX12_fits_23 : decode cX12_fits 23 = .ok (.aload_n 0, 1) := by decide +kernel
theorem dX12_fits_24 : decode cX12_fits 24 = .ok (.aload_n 0, 1) := by decide +kernel
theorem dX12_fits_25 : decode cX12_fits 25 = .ok (.getfield 389, 3) := by decide +kernel
theorem dX12_fits_28 : decode cX12_fits 28 = .ok (.invokevirtual 95, 3) := by decide +kernel
theorem dX12_fits_31 : decode cX12_fits 31 = .ok (.ireturn, 1) := by decide +kernel
set_option maxRecDepth 20000 in
theorem ggX12_sure_X12_isPerson : GoodIn wsX12_sure wsX12_isPerson := goodIn_r _ [6, 7, 81, 82, 83, 84, 85, 86, 87, 88, 89, 90, 91, 92, 93, 94, 95, 96, 97, 98, 99, 100, 101, 102, 103, 104, 105, 106, 107, 108, 109, 110, 111, 112, 113, 114, 115, 116, 117, 118, 119, 120, 121, 122] (by decide +kernel) (by decide +kernel)
set_option maxRecDepth 20000 in
theorem gX12_sure_X12_isPerson : GoodIn wsX12_sure (wsV RX12 305 RX12 yX12_isPerson wsX12_isPerson) := goodIn_app (goodIn_of _ (by decide +kernel)) ggX12_sure_X12_isPerson
set_option maxRecDepth 20000 in
theorem ggX12_sure_X12_wrongSeen : GoodIn wsX12_sure wsX12_wrongSeen := goodIn_r _ [11, 12, 13, 14, 15, 7, 16, 17, 5, 18, 19, 20, 21, 2, 3, 4, 6, 81, 82, 83, 84, 85, 86, 87, 88, 89, 90, 91, 92, 93, 94, 95, 96, 97, 98, 99, 100, 101, 102, 103, 104, 105, 106, 107, 108, 109, 110, 111, 112, 113, 114, 115, 116, 117, 118, 119, 120, 121, 122] (by decide +kernel) (by decide +kernel)
set_option maxRecDepth 20000 in
theorem gX12_sure_X12_wrongSeen : GoodIn wsX12_sure (wsV RX12 395 RX12 yX12_wrongSeen wsX12_wrongSeen) := goodIn_app (goodIn_of _ (by decide +kernel)) ggX12_sure_X12_wrongSeen
set_option maxRecDepth 20000 in
theorem ggX12_sure_X12_refuse : GoodIn wsX12_sure wsX12_refuse := goodIn_r _ [25, 26, 81, 82, 83, 84, 85, 86, 87, 88, 89, 90, 91, 92, 93, 94, 95, 96, 97, 98, 99, 100, 101, 102, 103, 104, 105, 106, 107, 108, 109, 110, 111, 112, 113, 114, 115, 116, 117, 118, 119, 120, 121, 122] (by decide +kernel) (by decide +kernel)
set_option maxRecDepth 20000 in
theorem gX12_sure_X12_refuse : GoodIn wsX12_sure (wsV RX12 91 RX12 yX12_refuse wsX12_refuse) := goodIn_app (goodIn_of _ (by decide +kernel)) ggX12_sure_X12_refuse
set_option maxRecDepth 20000 in
theorem ggX12_sure_X12_laysFits : GoodIn wsX12_sure wsX12_laysFits := goodIn_r _ [30, 1, 7, 31, 32, 33, 34, 5, 35, 14, 36, 37, 38, 39, 40, 41, 42, 43, 44, 45, 46, 47, 48, 49, 50, 51, 52, 53, 54, 55, 56, 57, 58, 59, 60, 61, 62, 63, 64, 65, 66, 67, 68, 69, 70, 71, 72, 81, 82, 83, 84, 85, 86, 87, 88, 89, 90, 91, 92, 93, 94, 95, 96, 97, 98, 99, 100, 101, 102, 103, 104, 105, 106, 107, 108, 109, 110, 111, 112, 113, 114, 115, 116, 117, 118, 119, 120, 121, 122] (by decide +kernel) (by decide +kernel)
set_option maxRecDepth 20000 in
theorem gX12_sure_X12_laysFits : GoodIn wsX12_sure (wsV RX12 398 RX12 yX12_laysFits wsX12_laysFits) := goodIn_app (goodIn_of _ (by decide +kernel)) ggX12_sure_X12_laysFits
set_option maxRecDepth 20000 in
theorem ggX12_sure_X12_guiltyIn : GoodIn wsX12_sure wsX12_guiltyIn := goodIn_r _ [76, 7, 31, 66, 67, 68, 5, 69, 81, 82, 83, 84, 85, 86, 87, 88, 89, 90, 91, 92, 93, 94, 95, 96, 97, 98, 99, 100, 101, 102, 103, 104, 105, 106, 107, 108, 109, 110, 111, 112, 113, 114, 115, 116, 117, 118, 119, 120, 121, 122] (by decide +kernel) (by decide +kernel)
set_option maxRecDepth 20000 in
theorem gX12_sure_X12_guiltyIn : GoodIn wsX12_sure (wsV RX12 402 RX12 yX12_guiltyIn wsX12_guiltyIn) := goodIn_app (goodIn_of _ (by decide +kernel)) ggX12_sure_X12_guiltyIn
set_option maxRecDepth 20000 in
theorem ggX12_sure_X12_gives : GoodIn wsX12_sure wsX12_gives := goodIn_r _ [80, 26, 81, 82, 83, 84, 85, 86, 87, 88, 89, 90, 91, 92, 93, 94, 95, 96, 97, 98, 99, 100, 101, 102, 103, 104, 105, 106, 107, 108, 109, 110, 111, 112, 113, 114, 115, 116, 117, 118, 119, 120, 121, 122] (by decide +kernel) (by decide +kernel)
set_option maxRecDepth 20000 in
theorem gX12_sure_X12_gives : GoodIn wsX12_sure (wsV RX12 95 RX12 yX12_gives wsX12_gives) := goodIn_app (goodIn_of _ (by decide +kernel)) ggX12_sure_X12_gives
theorem dX12_sure_0 : decode cX12_sure 0 = .ok (.aload_n 0, 1) := by decide +kernel
theorem dX12_sure_1 : decode cX12_sure 1 = .ok (.iload_n 1, 1) := by decide +kernel
theorem dX12_sure_2 : decode cX12_sure 2 = .ok (.i2l, 1) := by decide +kernel
theorem dX12_sure_3 : decode cX12_sure 3 = .ok (.invokevirtual 305, 3) := by decide +kernel
theorem dX12_sure_6 : decode cX12_sure 6 = .ok (.ifCond .eq 12, 3) := by decide +kernel
theorem dX12_sure_9 : decode cX12_sure 9 = .ok (.aload_n 0, 1) := by decide +kernel
theorem dX12_sure_10 : decode cX12_sure 10 = .ok (.iload_n 2, 1) := by decide +kernel
theorem dX12_sure_11 : decode cX12_sure 11 = .ok (.iload_n 3, 1) := by decide +kernel
theorem dX12_sure_12 : decode cX12_sure 12 = .ok (.invokevirtual 395, 3) := by decide +kernel
theorem dX12_sure_15 : decode cX12_sure 15 = .ok (.goto 4, 3) := by decide +kernel
theorem dX12_sure_18 : decode cX12_sure 18 = .ok (.iconst 1, 1) := by decide +kernel
theorem dX12_sure_19 : decode cX12_sure 19 = .ok (.istore 4, 2) := by decide +kernel
theorem dX12_sure_21 : decode cX12_sure 21 = .ok (.iload 4, 2) := by decide +kernel
theorem dX12_sure_23 : decode cX12_sure 23 = .ok (.ifCond .le 10, 3) := by decide +kernel
theorem dX12_sure_26 : decode cX12_sure 26 = .ok (.aload_n 0, 1) := by decide +kernel
theorem dX12_sure_27 : decode cX12_sure 27 = .ok (.iload 4, 2) := by decide +kernel
theorem dX12_sure_29 : decode cX12_sure 29 = .ok (.invokevirtual 91, 3) := by decide +kernel
theorem dX12_sure_32 : decode cX12_sure 32 = .ok (.ireturn, 1) := by decide +kernel
theorem dX12_sure_33 : decode cX12_sure 33 = .ok (.aload_n 0, 1) := by decide +kernel
theorem dX12_sure_34 : decode cX12_sure 34 = .ok (.iload_n 2, 1) := by decide +kernel
theorem dX12_sure_35 : decode cX12_sure 35 = .ok (.iload_n 3, 1) := by decide +kernel
theorem dX12_sure_36 : decode cX12_sure 36 = .ok (.invokevirtual 398, 3) := by decide +kernel
theorem dX12_sure_39 : decode cX12_sure 39 = .ok (.aload_n 0, 1) := by decide +kernel
theorem dX12_sure_40 : decode cX12_sure 40 = .ok (.iload_n 1, 1) := by decide +kernel
theorem dX12_sure_41 : decode cX12_sure 41 = .ok (.invokevirtual 402, 3) := by decide +kernel
theorem dX12_sure_44 : decode cX12_sure 44 = .ok (.istore 5, 2) := by decide +kernel
theorem dX12_sure_46 : decode cX12_sure 46 = .ok (.aload_n 0, 1) := by decide +kernel
theorem dX12_sure_47 : decode cX12_sure 47 = .ok (.getfield 389, 3) := by decide +kernel
theorem dX12_sure_50 : decode cX12_sure 50 = .ok (.ifCond .eq 17, 3) := by decide +kernel
theorem dX12_sure_53 : decode cX12_sure 53 = .ok (.iload 5, 2) := by decide +kernel
theorem dX12_sure_55 : decode cX12_sure 55 = .ok (.ifCond .le 19, 3) := by decide +kernel
theorem dX12_sure_58 : decode cX12_sure 58 = .ok (.iload 5, 2) := by decide +kernel
theorem dX12_sure_60 : decode cX12_sure 60 = .ok (.aload_n 0, 1) := by decide +kernel
theorem dX12_sure_61 : decode cX12_sure 61 = .ok (.getfield 389, 3) := by decide +kernel
theorem dX12_sure_64 : decode cX12_sure 64 = .ok (.if_icmp .ge 10, 3) := by decide +kernel
theorem dX12_sure_67 : decode cX12_sure 67 = .ok (.aload_n 0, 1) := by decide +kernel
theorem dX12_sure_68 : decode cX12_sure 68 = .ok (.bipush 6, 2) := by decide +kernel
theorem dX12_sure_70 : decode cX12_sure 70 = .ok (.invokevirtual 91, 3) := by decide +kernel
theorem dX12_sure_73 : decode cX12_sure 73 = .ok (.ireturn, 1) := by decide +kernel
theorem dX12_sure_74 : decode cX12_sure 74 = .ok (.aload_n 0, 1) := by decide +kernel
theorem dX12_sure_75 : decode cX12_sure 75 = .ok (.iload 5, 2) := by decide +kernel
theorem dX12_sure_77 : decode cX12_sure 77 = .ok (.ifCond .le 7, 3) := by decide +kernel
theorem dX12_sure_80 : decode cX12_sure 80 = .ok (.iconst 1, 1) := by decide +kernel
theorem dX12_sure_81 : decode cX12_sure 81 = .ok (.goto 4, 3) := by decide +kernel
theorem dX12_sure_84 : decode cX12_sure 84 = .ok (.iconst 0, 1) := by decide +kernel
theorem dX12_sure_85 : decode cX12_sure 85 = .ok (.invokevirtual 95, 3) := by decide +kernel
theorem dX12_sure_88 : decode cX12_sure 88 = .ok (.ireturn, 1) := by decide +kernel
set_option maxRecDepth 20000 in
theorem ggX12_odds_X12_isPerson : GoodIn wsX12_odds wsX12_isPerson := goodIn_r _ [6, 7, 83, 84, 85, 86, 87, 88, 89, 90, 91, 92, 93, 94, 95, 96, 97, 98, 99, 100, 101, 102, 103, 104, 105, 106, 107, 108, 109, 110, 111, 112, 113, 114, 115, 116, 117, 118, 119, 120, 121, 122, 123, 124] (by decide +kernel) (by decide +kernel)
set_option maxRecDepth 20000 in
theorem gX12_odds_X12_isPerson : GoodIn wsX12_odds (wsV RX12 305 RX12 yX12_isPerson wsX12_isPerson) := goodIn_app (goodIn_of _ (by decide +kernel)) ggX12_odds_X12_isPerson
set_option maxRecDepth 20000 in
theorem ggX12_odds_X12_wrongSeen : GoodIn wsX12_odds wsX12_wrongSeen := goodIn_r _ [11, 12, 13, 14, 15, 7, 16, 17, 5, 18, 19, 20, 21, 2, 3, 4, 6, 83, 84, 85, 86, 87, 88, 89, 90, 91, 92, 93, 94, 95, 96, 97, 98, 99, 100, 101, 102, 103, 104, 105, 106, 107, 108, 109, 110, 111, 112, 113, 114, 115, 116, 117, 118, 119, 120, 121, 122, 123, 124] (by decide +kernel) (by decide +kernel)
set_option maxRecDepth 20000 in
theorem gX12_odds_X12_wrongSeen : GoodIn wsX12_odds (wsV RX12 395 RX12 yX12_wrongSeen wsX12_wrongSeen) := goodIn_app (goodIn_of _ (by decide +kernel)) ggX12_odds_X12_wrongSeen
set_option maxRecDepth 20000 in
theorem ggX12_odds_X12_is : GoodIn wsX12_odds wsX12_is := goodIn_r _ [25, 26, 83, 84, 85, 86, 87, 88, 89, 90, 91, 92, 93, 94, 95, 96, 97, 98, 99, 100, 101, 102, 103, 104, 105, 106, 107, 108, 109, 110, 111, 112, 113, 114, 115, 116, 117, 118, 119, 120, 121, 122, 123, 124] (by decide +kernel) (by decide +kernel)
set_option maxRecDepth 20000 in
theorem gX12_odds_X12_is : GoodIn wsX12_odds (wsV RX12 98 RX12 yX12_is wsX12_is) := goodIn_app (goodIn_of _ (by decide +kernel)) ggX12_odds_X12_is
set_option maxRecDepth 20000 in
theorem ggX12_odds_X12_laysFits : GoodIn wsX12_odds wsX12_laysFits := goodIn_r _ [30, 1, 7, 31, 32, 33, 34, 5, 35, 14, 36, 37, 38, 39, 40, 41, 42, 43, 44, 45, 46, 47, 48, 49, 50, 51, 52, 53, 54, 55, 56, 57, 58, 59, 60, 61, 62, 63, 64, 65, 66, 67, 68, 69, 70, 71, 72, 83, 84, 85, 86, 87, 88, 89, 90, 91, 92, 93, 94, 95, 96, 97, 98, 99, 100, 101, 102, 103, 104, 105, 106, 107, 108, 109, 110, 111, 112, 113, 114, 115, 116, 117, 118, 119, 120, 121, 122, 123, 124] (by decide +kernel) (by decide +kernel)
set_option maxRecDepth 20000 in
theorem gX12_odds_X12_laysFits : GoodIn wsX12_odds (wsV RX12 398 RX12 yX12_laysFits wsX12_laysFits) := goodIn_app (goodIn_of _ (by decide +kernel)) ggX12_odds_X12_laysFits
set_option maxRecDepth 20000 in
theorem ggX12_odds_X12_guiltyIn : GoodIn wsX12_odds wsX12_guiltyIn := goodIn_r _ [76, 7, 31, 66, 67, 68, 5, 69, 83, 84, 85, 86, 87, 88, 89, 90, 91, 92, 93, 94, 95, 96, 97, 98, 99, 100, 101, 102, 103, 104, 105, 106, 107, 108, 109, 110, 111, 112, 113, 114, 115, 116, 117, 118, 119, 120, 121, 122, 123, 124] (by decide +kernel) (by decide +kernel)
set_option maxRecDepth 20000 in
theorem gX12_odds_X12_guiltyIn : GoodIn wsX12_odds (wsV RX12 402 RX12 yX12_guiltyIn wsX12_guiltyIn) := goodIn_app (goodIn_of _ (by decide +kernel)) ggX12_odds_X12_guiltyIn
set_option maxRecDepth 20000 in
theorem ggX12_odds_X12_tellsBy : GoodIn wsX12_odds wsX12_tellsBy := goodIn_r _ [80, 81, 82, 22, 23, 24, 5, 25, 26, 83, 84, 85, 86, 87, 88, 89, 90, 91, 92, 93, 94, 95, 96, 97, 98, 99, 100, 101, 102, 103, 104, 105, 106, 107, 108, 109, 110, 111, 112, 113, 114, 115, 116, 117, 118, 119, 120, 121, 122, 123, 124] (by decide +kernel) (by decide +kernel)
set_option maxRecDepth 20000 in
theorem gX12_odds_X12_tellsBy : GoodIn wsX12_odds (wsV RX12 405 RX12 yX12_tellsBy wsX12_tellsBy) := goodIn_app (goodIn_of _ (by decide +kernel)) ggX12_odds_X12_tellsBy
theorem dX12_odds_0 : decode cX12_odds 0 = .ok (.aload_n 0, 1) := by decide +kernel
theorem dX12_odds_1 : decode cX12_odds 1 = .ok (.iload_n 1, 1) := by decide +kernel
theorem dX12_odds_2 : decode cX12_odds 2 = .ok (.i2l, 1) := by decide +kernel
theorem dX12_odds_3 : decode cX12_odds 3 = .ok (.invokevirtual 305, 3) := by decide +kernel
theorem dX12_odds_6 : decode cX12_odds 6 = .ok (.ifCond .eq 12, 3) := by decide +kernel
theorem dX12_odds_9 : decode cX12_odds 9 = .ok (.aload_n 0, 1) := by decide +kernel
theorem dX12_odds_10 : decode cX12_odds 10 = .ok (.iload_n 2, 1) := by decide +kernel
theorem dX12_odds_11 : decode cX12_odds 11 = .ok (.iload_n 3, 1) := by decide +kernel
theorem dX12_odds_12 : decode cX12_odds 12 = .ok (.invokevirtual 395, 3) := by decide +kernel
theorem dX12_odds_15 : decode cX12_odds 15 = .ok (.goto 4, 3) := by decide +kernel
theorem dX12_odds_18 : decode cX12_odds 18 = .ok (.iconst 1, 1) := by decide +kernel
theorem dX12_odds_19 : decode cX12_odds 19 = .ok (.istore 4, 2) := by decide +kernel
theorem dX12_odds_21 : decode cX12_odds 21 = .ok (.iload 4, 2) := by decide +kernel
theorem dX12_odds_23 : decode cX12_odds 23 = .ok (.ifCond .le 10, 3) := by decide +kernel
theorem dX12_odds_26 : decode cX12_odds 26 = .ok (.aload_n 0, 1) := by decide +kernel
theorem dX12_odds_27 : decode cX12_odds 27 = .ok (.iload 4, 2) := by decide +kernel
theorem dX12_odds_29 : decode cX12_odds 29 = .ok (.invokevirtual 98, 3) := by decide +kernel
theorem dX12_odds_32 : decode cX12_odds 32 = .ok (.ireturn, 1) := by decide +kernel
theorem dX12_odds_33 : decode cX12_odds 33 = .ok (.aload_n 0, 1) := by decide +kernel
theorem dX12_odds_34 : decode cX12_odds 34 = .ok (.iload_n 2, 1) := by decide +kernel
theorem dX12_odds_35 : decode cX12_odds 35 = .ok (.iload_n 3, 1) := by decide +kernel
theorem dX12_odds_36 : decode cX12_odds 36 = .ok (.invokevirtual 398, 3) := by decide +kernel
theorem dX12_odds_39 : decode cX12_odds 39 = .ok (.aload_n 0, 1) := by decide +kernel
theorem dX12_odds_40 : decode cX12_odds 40 = .ok (.getfield 389, 3) := by decide +kernel
theorem dX12_odds_43 : decode cX12_odds 43 = .ok (.ifCond .ne 12, 3) := by decide +kernel
theorem dX12_odds_46 : decode cX12_odds 46 = .ok (.aload_n 0, 1) := by decide +kernel
theorem dX12_odds_47 : decode cX12_odds 47 = .ok (.bipush 6, 2) := by decide +kernel
theorem dX12_odds_49 : decode cX12_odds 49 = .ok (.invokevirtual 98, 3) := by decide +kernel
theorem dX12_odds_52 : decode cX12_odds 52 = .ok (.goto 18, 3) := by decide +kernel
theorem dX12_odds_55 : decode cX12_odds 55 = .ok (.aload_n 0, 1) := by decide +kernel
theorem dX12_odds_56 : decode cX12_odds 56 = .ok (.aload_n 0, 1) := by decide +kernel
theorem dX12_odds_57 : decode cX12_odds 57 = .ok (.iload_n 1, 1) := by decide +kernel
theorem dX12_odds_58 : decode cX12_odds 58 = .ok (.invokevirtual 402, 3) := by decide +kernel
theorem dX12_odds_61 : decode cX12_odds 61 = .ok (.i2l, 1) := by decide +kernel
theorem dX12_odds_62 : decode cX12_odds 62 = .ok (.aload_n 0, 1) := by decide +kernel
theorem dX12_odds_63 : decode cX12_odds 63 = .ok (.getfield 389, 3) := by decide +kernel
theorem dX12_odds_66 : decode cX12_odds 66 = .ok (.i2l, 1) := by decide +kernel
theorem dX12_odds_67 : decode cX12_odds 67 = .ok (.invokevirtual 405, 3) := by decide +kernel
theorem dX12_odds_70 : decode cX12_odds 70 = .ok (.ireturn, 1) := by decide +kernel
set_option maxRecDepth 20000 in
theorem ggX12_mostAlike_X12_wouldShow : GoodIn wsX12_mostAlike wsX12_wouldShow := goodIn_r _ [12, 2, 13, 14, 15, 11, 16, 17, 18, 19, 20, 21, 22, 23, 24, 25, 26, 27, 28, 29, 30, 31, 32, 33, 34, 35, 36, 37, 38, 39, 40, 41, 42, 43, 44, 45, 46, 47, 48, 49, 50, 51, 52, 53, 54, 55, 56, 57, 58, 59, 60, 61, 62, 63, 64, 65, 66, 67, 68, 69, 70, 71, 72, 73, 74, 75, 76, 77, 78, 79, 80, 81, 82, 83, 84, 85, 86, 87] (by decide +kernel) (by decide +kernel)
set_option maxRecDepth 20000 in
theorem gX12_mostAlike_X12_wouldShow : GoodIn wsX12_mostAlike (wsV RX12 385 RX12 yX12_wouldShow wsX12_wouldShow) := goodIn_app (goodIn_of _ (by decide +kernel)) ggX12_mostAlike_X12_wouldShow
theorem dX12_mostAlike_0 : decode cX12_mostAlike 0 = .ok (.iconst 0, 1) := by decide +kernel
theorem dX12_mostAlike_1 : decode cX12_mostAlike 1 = .ok (.istore_n 3, 1) := by decide +kernel
theorem dX12_mostAlike_2 : decode cX12_mostAlike 2 = .ok (.iconst 0, 1) := by decide +kernel
theorem dX12_mostAlike_3 : decode cX12_mostAlike 3 = .ok (.istore 4, 2) := by decide +kernel
theorem dX12_mostAlike_5 : decode cX12_mostAlike 5 = .ok (.iload 4, 2) := by decide +kernel
theorem dX12_mostAlike_7 : decode cX12_mostAlike 7 = .ok (.bipush 7, 2) := by decide +kernel
theorem dX12_mostAlike_9 : decode cX12_mostAlike 9 = .ok (.if_icmp .ge 17, 3) := by decide +kernel
theorem dX12_mostAlike_12 : decode cX12_mostAlike 12 = .ok (.aload_n 0, 1) := by decide +kernel
theorem dX12_mostAlike_13 : decode cX12_mostAlike 13 = .ok (.getfield 51, 3) := by decide +kernel
theorem dX12_mostAlike_16 : decode cX12_mostAlike 16 = .ok (.iload 4, 2) := by decide +kernel
theorem dX12_mostAlike_18 : decode cX12_mostAlike 18 = .ok (.iconst 0, 1) := by decide +kernel
theorem dX12_mostAlike_19 : decode cX12_mostAlike 19 = .ok (.iastore, 1) := by decide +kernel
theorem dX12_mostAlike_20 : decode cX12_mostAlike 20 = .ok (.iinc 4 1, 3) := by decide +kernel
theorem dX12_mostAlike_23 : decode cX12_mostAlike 23 = .ok (.goto (-18), 3) := by decide +kernel
theorem dX12_mostAlike_26 : decode cX12_mostAlike 26 = .ok (.iconst 0, 1) := by decide +kernel
theorem dX12_mostAlike_27 : decode cX12_mostAlike 27 = .ok (.istore 4, 2) := by decide +kernel
theorem dX12_mostAlike_29 : decode cX12_mostAlike 29 = .ok (.iload 4, 2) := by decide +kernel
theorem dX12_mostAlike_31 : decode cX12_mostAlike 31 = .ok (.iconst 1, 1) := by decide +kernel
theorem dX12_mostAlike_32 : decode cX12_mostAlike 32 = .ok (.aload_n 0, 1) := by decide +kernel
theorem dX12_mostAlike_33 : decode cX12_mostAlike 33 = .ok (.getfield 7, 3) := by decide +kernel
theorem dX12_mostAlike_36 : decode cX12_mostAlike 36 = .ok (.iconst 3, 1) := by decide +kernel
theorem dX12_mostAlike_37 : decode cX12_mostAlike 37 = .ok (.iaload, 1) := by decide +kernel
theorem dX12_mostAlike_38 : decode cX12_mostAlike 38 = .ok (.ishl, 1) := by decide +kernel
theorem dX12_mostAlike_39 : decode cX12_mostAlike 39 = .ok (.if_icmp .ge 55, 3) := by decide +kernel
theorem dX12_mostAlike_42 : decode cX12_mostAlike 42 = .ok (.aload_n 0, 1) := by decide +kernel
theorem dX12_mostAlike_43 : decode cX12_mostAlike 43 = .ok (.getfield 47, 3) := by decide +kernel
theorem dX12_mostAlike_46 : decode cX12_mostAlike 46 = .ok (.iload 4, 2) := by decide +kernel
theorem dX12_mostAlike_48 : decode cX12_mostAlike 48 = .ok (.baload, 1) := by decide +kernel
theorem dX12_mostAlike_49 : decode cX12_mostAlike 49 = .ok (.ifCond .ne 6, 3) := by decide +kernel
theorem dX12_mostAlike_52 : decode cX12_mostAlike 52 = .ok (.goto 36, 3) := by decide +kernel
theorem dX12_mostAlike_55 : decode cX12_mostAlike 55 = .ok (.aload_n 0, 1) := by decide +kernel
theorem dX12_mostAlike_56 : decode cX12_mostAlike 56 = .ok (.iload 4, 2) := by decide +kernel
theorem dX12_mostAlike_58 : decode cX12_mostAlike 58 = .ok (.iload_n 1, 1) := by decide +kernel
theorem dX12_mostAlike_59 : decode cX12_mostAlike 59 = .ok (.iload_n 2, 1) := by decide +kernel
theorem dX12_mostAlike_60 : decode cX12_mostAlike 60 = .ok (.invokevirtual 385, 3) := by decide +kernel
theorem dX12_mostAlike_63 : decode cX12_mostAlike 63 = .ok (.istore 5, 2) := by decide +kernel
theorem dX12_mostAlike_65 : decode cX12_mostAlike 65 = .ok (.aload_n 0, 1) := by decide +kernel
theorem dX12_mostAlike_66 : decode cX12_mostAlike 66 = .ok (.getfield 51, 3) := by decide +kernel
theorem dX12_mostAlike_69 : decode cX12_mostAlike 69 = .ok (.iload 5, 2) := by decide +kernel
theorem dX12_mostAlike_71 : decode cX12_mostAlike 71 = .ok (.dup2, 1) := by decide +kernel
theorem dX12_mostAlike_72 : decode cX12_mostAlike 72 = .ok (.iaload, 1) := by decide +kernel
theorem dX12_mostAlike_73 : decode cX12_mostAlike 73 = .ok (.iconst 1, 1) := by decide +kernel
theorem dX12_mostAlike_74 : decode cX12_mostAlike 74 = .ok (.iadd, 1) := by decide +kernel
theorem dX12_mostAlike_75 : decode cX12_mostAlike 75 = .ok (.iastore, 1) := by decide +kernel
theorem dX12_mostAlike_76 : decode cX12_mostAlike 76 = .ok (.iload_n 3, 1) := by decide +kernel
theorem dX12_mostAlike_77 : decode cX12_mostAlike 77 = .ok (.aload_n 0, 1) := by decide +kernel
theorem dX12_mostAlike_78 : decode cX12_mostAlike 78 = .ok (.getfield 51, 3) := by decide +kernel
theorem dX12_mostAlike_81 : decode cX12_mostAlike 81 = .ok (.iload 5, 2) := by decide +kernel
theorem dX12_mostAlike_83 : decode cX12_mostAlike 83 = .ok (.iaload, 1) := by decide +kernel
theorem dX12_mostAlike_84 : decode cX12_mostAlike 84 = .ok (.invokestatic 409, 3) := by decide +kernel
theorem dX12_mostAlike_87 : decode cX12_mostAlike 87 = .ok (.istore_n 3, 1) := by decide +kernel
theorem dX12_mostAlike_88 : decode cX12_mostAlike 88 = .ok (.iinc 4 1, 3) := by decide +kernel
theorem dX12_mostAlike_91 : decode cX12_mostAlike 91 = .ok (.goto (-62), 3) := by decide +kernel
theorem dX12_mostAlike_94 : decode cX12_mostAlike 94 = .ok (.iload_n 3, 1) := by decide +kernel
theorem dX12_mostAlike_95 : decode cX12_mostAlike 95 = .ok (.ireturn, 1) := by decide +kernel
set_option maxRecDepth 20000 in
theorem ggX12_ask_X12_wrongSeen : GoodIn wsX12_ask wsX12_wrongSeen := goodIn_r _ [8, 9, 10, 11, 12, 3, 13, 14, 7, 15, 16, 17, 18, 19, 20, 21, 22, 87, 88, 89, 90, 91, 92, 93, 94, 95, 96, 97, 98, 99, 100, 101, 102, 103, 104, 105, 106, 107, 108, 109, 110, 111, 112, 113, 114, 115, 116, 117, 118, 119, 120, 121, 122, 123, 124, 125, 126, 127, 128] (by decide +kernel) (by decide +kernel)
set_option maxRecDepth 20000 in
theorem gX12_ask_X12_wrongSeen : GoodIn wsX12_ask (wsV RX12 395 RX12 yX12_wrongSeen wsX12_wrongSeen) := goodIn_app (goodIn_of _ (by decide +kernel)) ggX12_ask_X12_wrongSeen
set_option maxRecDepth 20000 in
theorem ggX12_ask_X12_refuse : GoodIn wsX12_ask wsX12_refuse := goodIn_r _ [26, 27, 87, 88, 89, 90, 91, 92, 93, 94, 95, 96, 97, 98, 99, 100, 101, 102, 103, 104, 105, 106, 107, 108, 109, 110, 111, 112, 113, 114, 115, 116, 117, 118, 119, 120, 121, 122, 123, 124, 125, 126, 127, 128] (by decide +kernel) (by decide +kernel)
set_option maxRecDepth 20000 in
theorem gX12_ask_X12_refuse : GoodIn wsX12_ask (wsV RX12 91 RX12 yX12_refuse wsX12_refuse) := goodIn_app (goodIn_of _ (by decide +kernel)) ggX12_ask_X12_refuse
set_option maxRecDepth 20000 in
theorem ggX12_ask_X12_laysFits : GoodIn wsX12_ask wsX12_laysFits := goodIn_r _ [31, 1, 3, 32, 33, 34, 35, 7, 36, 11, 37, 38, 39, 40, 41, 42, 43, 44, 45, 46, 47, 48, 49, 50, 51, 52, 53, 54, 55, 56, 57, 58, 59, 60, 61, 62, 63, 64, 65, 66, 67, 68, 69, 70, 71, 72, 73, 87, 88, 89, 90, 91, 92, 93, 94, 95, 96, 97, 98, 99, 100, 101, 102, 103, 104, 105, 106, 107, 108, 109, 110, 111, 112, 113, 114, 115, 116, 117, 118, 119, 120, 121, 122, 123, 124, 125, 126, 127, 128] (by decide +kernel) (by decide +kernel)
set_option maxRecDepth 20000 in
theorem gX12_ask_X12_laysFits : GoodIn wsX12_ask (wsV RX12 398 RX12 yX12_laysFits wsX12_laysFits) := goodIn_app (goodIn_of _ (by decide +kernel)) ggX12_ask_X12_laysFits
set_option maxRecDepth 20000 in
theorem ggX12_ask_X12_mostAlike : GoodIn wsX12_ask wsX12_mostAlike := goodIn_r _ [77, 78, 3, 32, 79, 80, 81, 82, 37, 38, 39, 7, 40, 41, 42, 43, 44, 45, 46, 47, 48, 49, 50, 51, 52, 53, 54, 55, 56, 57, 58, 59, 60, 61, 62, 63, 64, 65, 66, 67, 68, 69, 70, 71, 72, 73, 87, 88, 89, 90, 91, 92, 93, 94, 95, 96, 97, 98, 99, 100, 101, 102, 103, 104, 105, 106, 107, 108, 109, 110, 111, 112, 113, 114, 115, 116, 117, 118, 119, 120, 121, 122, 123, 124, 125, 126, 127, 128] (by decide +kernel) (by decide +kernel)
set_option maxRecDepth 20000 in
theorem gX12_ask_X12_mostAlike : GoodIn wsX12_ask (wsV RX12 413 RX12 yX12_mostAlike wsX12_mostAlike) := goodIn_app (goodIn_of _ (by decide +kernel)) ggX12_ask_X12_mostAlike
set_option maxRecDepth 20000 in
theorem ggX12_ask_X12_gives : GoodIn wsX12_ask wsX12_gives := goodIn_r _ [86, 27, 87, 88, 89, 90, 91, 92, 93, 94, 95, 96, 97, 98, 99, 100, 101, 102, 103, 104, 105, 106, 107, 108, 109, 110, 111, 112, 113, 114, 115, 116, 117, 118, 119, 120, 121, 122, 123, 124, 125, 126, 127, 128] (by decide +kernel) (by decide +kernel)
set_option maxRecDepth 20000 in
theorem gX12_ask_X12_gives : GoodIn wsX12_ask (wsV RX12 95 RX12 yX12_gives wsX12_gives) := goodIn_app (goodIn_of _ (by decide +kernel)) ggX12_ask_X12_gives
theorem dX12_ask_0 : decode cX12_ask 0 = .ok (.iload_n 3, 1) := by decide +kernel
theorem dX12_ask_1 : decode cX12_ask 1 = .ok (.ifCond .lt 8, 3) := by decide +kernel
theorem dX12_ask_4 : decode cX12_ask 4 = .ok (.iload_n 3, 1) := by decide +kernel
theorem dX12_ask_5 : decode cX12_ask 5 = .ok (.iconst 1, 1) := by decide +kernel
theorem dX12_ask_6 : decode cX12_ask 6 = .ok (.if_icmp .le 7, 3) := by decide +kernel
theorem dX12_ask_9 : decode cX12_ask 9 = .ok (.iconst 1, 1) := by decide +kernel
theorem dX12_ask_10 : decode cX12_ask 10 = .ok (.goto 9, 3) := by decide +kernel
theorem dX12_ask_13 : decode cX12_ask 13 = .ok (.aload_n 0, 1) := by decide +kernel
theorem dX12_ask_14 : decode cX12_ask 14 = .ok (.iload_n 1, 1) := by decide +kernel
theorem dX12_ask_15 : decode cX12_ask 15 = .ok (.iload_n 2, 1) := by decide +kernel
theorem dX12_ask_16 : decode cX12_ask 16 = .ok (.invokevirtual 395, 3) := by decide +kernel
theorem dX12_ask_19 : decode cX12_ask 19 = .ok (.istore 4, 2) := by decide +kernel
theorem dX12_ask_21 : decode cX12_ask 21 = .ok (.iload 4, 2) := by decide +kernel
theorem dX12_ask_23 : decode cX12_ask 23 = .ok (.ifCond .le 10, 3) := by decide +kernel
theorem dX12_ask_26 : decode cX12_ask 26 = .ok (.aload_n 0, 1) := by decide +kernel
theorem dX12_ask_27 : decode cX12_ask 27 = .ok (.iload 4, 2) := by decide +kernel
theorem dX12_ask_29 : decode cX12_ask 29 = .ok (.invokevirtual 91, 3) := by decide +kernel
theorem dX12_ask_32 : decode cX12_ask 32 = .ok (.ireturn, 1) := by decide +kernel
theorem dX12_ask_33 : decode cX12_ask 33 = .ok (.aload_n 0, 1) := by decide +kernel
theorem dX12_ask_34 : decode cX12_ask 34 = .ok (.iload_n 1, 1) := by decide +kernel
theorem dX12_ask_35 : decode cX12_ask 35 = .ok (.iload_n 2, 1) := by decide +kernel
theorem dX12_ask_36 : decode cX12_ask 36 = .ok (.invokevirtual 398, 3) := by decide +kernel
theorem dX12_ask_39 : decode cX12_ask 39 = .ok (.aload_n 0, 1) := by decide +kernel
theorem dX12_ask_40 : decode cX12_ask 40 = .ok (.getfield 389, 3) := by decide +kernel
theorem dX12_ask_43 : decode cX12_ask 43 = .ok (.iconst 2, 1) := by decide +kernel
theorem dX12_ask_44 : decode cX12_ask 44 = .ok (.if_icmp .ge 10, 3) := by decide +kernel
theorem dX12_ask_47 : decode cX12_ask 47 = .ok (.aload_n 0, 1) := by decide +kernel
theorem dX12_ask_48 : decode cX12_ask 48 = .ok (.bipush 6, 2) := by decide +kernel
theorem dX12_ask_50 : decode cX12_ask 50 = .ok (.invokevirtual 91, 3) := by decide +kernel
theorem dX12_ask_53 : decode cX12_ask 53 = .ok (.ireturn, 1) := by decide +kernel
theorem dX12_ask_54 : decode cX12_ask 54 = .ok (.ldc_w 412, 3) := by decide +kernel
theorem dX12_ask_57 : decode cX12_ask 57 = .ok (.istore 5, 2) := by decide +kernel
theorem dX12_ask_59 : decode cX12_ask 59 = .ok (.iconst 0, 1) := by decide +kernel
theorem dX12_ask_60 : decode cX12_ask 60 = .ok (.istore 6, 2) := by decide +kernel
theorem dX12_ask_62 : decode cX12_ask 62 = .ok (.iconst 0, 1) := by decide +kernel
theorem dX12_ask_63 : decode cX12_ask 63 = .ok (.istore 7, 2) := by decide +kernel
theorem dX12_ask_65 : decode cX12_ask 65 = .ok (.iload 7, 2) := by decide +kernel
theorem dX12_ask_67 : decode cX12_ask 67 = .ok (.bipush 10, 2) := by decide +kernel
theorem dX12_ask_69 : decode cX12_ask 69 = .ok (.aload_n 0, 1) := by decide +kernel
theorem dX12_ask_70 : decode cX12_ask 70 = .ok (.getfield 7, 3) := by decide +kernel
theorem dX12_ask_73 : decode cX12_ask 73 = .ok (.iconst 3, 1) := by decide +kernel
theorem dX12_ask_74 : decode cX12_ask 74 = .ok (.iaload, 1) := by decide +kernel
theorem dX12_ask_75 : decode cX12_ask 75 = .ok (.imul, 1) := by decide +kernel
theorem dX12_ask_76 : decode cX12_ask 76 = .ok (.if_icmp .ge 43, 3) := by decide +kernel
theorem dX12_ask_79 : decode cX12_ask 79 = .ok (.aload_n 0, 1) := by decide +kernel
theorem dX12_ask_80 : decode cX12_ask 80 = .ok (.iload 7, 2) := by decide +kernel
theorem dX12_ask_82 : decode cX12_ask 82 = .ok (.bipush 10, 2) := by decide +kernel
theorem dX12_ask_84 : decode cX12_ask 84 = .ok (.idiv, 1) := by decide +kernel
theorem dX12_ask_85 : decode cX12_ask 85 = .ok (.iload 7, 2) := by decide +kernel
theorem dX12_ask_87 : decode cX12_ask 87 = .ok (.bipush 10, 2) := by decide +kernel
theorem dX12_ask_89 : decode cX12_ask 89 = .ok (.irem, 1) := by decide +kernel
theorem dX12_ask_90 : decode cX12_ask 90 = .ok (.invokevirtual 413, 3) := by decide +kernel
theorem dX12_ask_93 : decode cX12_ask 93 = .ok (.istore 8, 2) := by decide +kernel
theorem dX12_ask_95 : decode cX12_ask 95 = .ok (.iload 8, 2) := by decide +kernel
theorem dX12_ask_97 : decode cX12_ask 97 = .ok (.iload 5, 2) := by decide +kernel
theorem dX12_ask_99 : decode cX12_ask 99 = .ok (.if_icmp .lt 6, 3) := by decide +kernel
theorem dX12_ask_102 : decode cX12_ask 102 = .ok (.goto 11, 3) := by decide +kernel
theorem dX12_ask_105 : decode cX12_ask 105 = .ok (.iload 8, 2) := by decide +kernel
theorem dX12_ask_107 : decode cX12_ask 107 = .ok (.istore 5, 2) := by decide +kernel
theorem dX12_ask_109 : decode cX12_ask 109 = .ok (.iload 7, 2) := by decide +kernel
theorem dX12_ask_111 : decode cX12_ask 111 = .ok (.istore 6, 2) := by decide +kernel
theorem dX12_ask_113 : decode cX12_ask 113 = .ok (.iinc 7 1, 3) := by decide +kernel
theorem dX12_ask_116 : decode cX12_ask 116 = .ok (.goto (-51), 3) := by decide +kernel
theorem dX12_ask_119 : decode cX12_ask 119 = .ok (.aload_n 0, 1) := by decide +kernel
theorem dX12_ask_120 : decode cX12_ask 120 = .ok (.iload_n 3, 1) := by decide +kernel
theorem dX12_ask_121 : decode cX12_ask 121 = .ok (.ifCond .ne 11, 3) := by decide +kernel
theorem dX12_ask_124 : decode cX12_ask 124 = .ok (.iload 6, 2) := by decide +kernel
theorem dX12_ask_126 : decode cX12_ask 126 = .ok (.bipush 10, 2) := by decide +kernel
theorem dX12_ask_128 : decode cX12_ask 128 = .ok (.idiv, 1) := by decide +kernel
theorem dX12_ask_129 : decode cX12_ask 129 = .ok (.goto 8, 3) := by decide +kernel
theorem dX12_ask_132 : decode cX12_ask 132 = .ok (.iload 6, 2) := by decide +kernel
theorem dX12_ask_134 : decode cX12_ask 134 = .ok (.bipush 10, 2) := by decide +kernel
theorem dX12_ask_136 : decode cX12_ask 136 = .ok (.irem, 1) := by decide +kernel
theorem dX12_ask_137 : decode cX12_ask 137 = .ok (.invokevirtual 95, 3) := by decide +kernel
theorem dX12_ask_140 : decode cX12_ask 140 = .ok (.ireturn, 1) := by decide +kernel
set_option maxRecDepth 20000 in
theorem ggX12_laysLeast_X12_personOf : GoodIn wsX12_laysLeast wsX12_personOf := goodIn_r _ [10, 3, 11, 12, 9, 13, 43, 44, 45, 46, 47, 48, 49, 50, 51, 52, 53, 54, 55, 56, 57, 58, 59, 60, 61, 62, 63, 64, 65, 66, 67, 68, 69, 70, 71, 72, 73, 74, 75, 76, 77, 78, 79, 80, 81, 82, 83, 84] (by decide +kernel) (by decide +kernel)
set_option maxRecDepth 20000 in
theorem gX12_laysLeast_X12_personOf : GoodIn wsX12_laysLeast (wsV RX12 281 RX12 yX12_personOf wsX12_personOf) := goodIn_app (goodIn_of _ (by decide +kernel)) ggX12_laysLeast_X12_personOf
set_option maxRecDepth 20000 in
theorem ggX12_laysLeast_X12_bits : GoodIn wsX12_laysLeast wsX12_bits := goodIn_r _ [16] (by decide +kernel) (by decide +kernel)
set_option maxRecDepth 20000 in
theorem gX12_laysLeast_X12_bits : GoodIn wsX12_laysLeast (va_wsS RX12 344 yX12_bits wsX12_bits) := goodIn_app (goodIn_of _ (by decide +kernel)) ggX12_laysLeast_X12_bits
set_option maxRecDepth 20000 in
theorem ggX12_laysLeast_X12_cueOf : GoodIn wsX12_laysLeast wsX12_cueOf := goodIn_r _ [20, 21, 22, 23, 9, 24, 3, 25, 26, 27, 28, 29, 30, 31, 32, 33, 34, 35, 36, 37, 38, 39, 40, 41, 42, 43, 44, 45, 46, 47, 48, 49, 50, 51, 52, 53, 54, 55, 56, 57, 58, 59, 60, 61, 62, 63, 64, 65, 66, 67, 68, 69, 70, 71, 72, 73, 74, 75, 76, 77, 78, 79, 80, 81, 82, 83, 84] (by decide +kernel) (by decide +kernel)
set_option maxRecDepth 20000 in
theorem gX12_laysLeast_X12_cueOf : GoodIn wsX12_laysLeast (wsV RX12 382 RX12 yX12_cueOf wsX12_cueOf) := goodIn_app (goodIn_of _ (by decide +kernel)) ggX12_laysLeast_X12_cueOf
theorem dX12_laysLeast_0 : decode cX12_laysLeast 0 = .ok (.aload_n 0, 1) := by decide +kernel
theorem dX12_laysLeast_1 : decode cX12_laysLeast 1 = .ok (.ldc_w 412, 3) := by decide +kernel
theorem dX12_laysLeast_4 : decode cX12_laysLeast 4 = .ok (.putfield 416, 3) := by decide +kernel
theorem dX12_laysLeast_7 : decode cX12_laysLeast 7 = .ok (.iconst 0, 1) := by decide +kernel
theorem dX12_laysLeast_8 : decode cX12_laysLeast 8 = .ok (.istore_n 3, 1) := by decide +kernel
theorem dX12_laysLeast_9 : decode cX12_laysLeast 9 = .ok (.iload_n 3, 1) := by decide +kernel
theorem dX12_laysLeast_10 : decode cX12_laysLeast 10 = .ok (.bipush 20, 2) := by decide +kernel
theorem dX12_laysLeast_12 : decode cX12_laysLeast 12 = .ok (.if_icmp .gt 118, 3) := by decide +kernel
theorem dX12_laysLeast_15 : decode cX12_laysLeast 15 = .ok (.aload_n 0, 1) := by decide +kernel
theorem dX12_laysLeast_16 : decode cX12_laysLeast 16 = .ok (.iload_n 1, 1) := by decide +kernel
theorem dX12_laysLeast_17 : decode cX12_laysLeast 17 = .ok (.iconst 0, 1) := by decide +kernel
theorem dX12_laysLeast_18 : decode cX12_laysLeast 18 = .ok (.invokevirtual 281, 3) := by decide +kernel
theorem dX12_laysLeast_21 : decode cX12_laysLeast 21 = .ok (.iload_n 3, 1) := by decide +kernel
theorem dX12_laysLeast_22 : decode cX12_laysLeast 22 = .ok (.iadd, 1) := by decide +kernel
theorem dX12_laysLeast_23 : decode cX12_laysLeast 23 = .ok (.istore 4, 2) := by decide +kernel
theorem dX12_laysLeast_25 : decode cX12_laysLeast 25 = .ok (.iconst 0, 1) := by decide +kernel
theorem dX12_laysLeast_26 : decode cX12_laysLeast 26 = .ok (.istore 5, 2) := by decide +kernel
theorem dX12_laysLeast_28 : decode cX12_laysLeast 28 = .ok (.iload 5, 2) := by decide +kernel
theorem dX12_laysLeast_30 : decode cX12_laysLeast 30 = .ok (.iconst 1, 1) := by decide +kernel
theorem dX12_laysLeast_31 : decode cX12_laysLeast 31 = .ok (.aload_n 0, 1) := by decide +kernel
theorem dX12_laysLeast_32 : decode cX12_laysLeast 32 = .ok (.getfield 7, 3) := by decide +kernel
theorem dX12_laysLeast_35 : decode cX12_laysLeast 35 = .ok (.iconst 0, 1) := by decide +kernel
theorem dX12_laysLeast_36 : decode cX12_laysLeast 36 = .ok (.iaload, 1) := by decide +kernel
theorem dX12_laysLeast_37 : decode cX12_laysLeast 37 = .ok (.ishl, 1) := by decide +kernel
theorem dX12_laysLeast_38 : decode cX12_laysLeast 38 = .ok (.if_icmp .ge 86, 3) := by decide +kernel
theorem dX12_laysLeast_41 : decode cX12_laysLeast 41 = .ok (.iload 4, 2) := by decide +kernel
theorem dX12_laysLeast_43 : decode cX12_laysLeast 43 = .ok (.bipush 99, 2) := by decide +kernel
theorem dX12_laysLeast_45 : decode cX12_laysLeast 45 = .ok (.if_icmp .gt 79, 3) := by decide +kernel
theorem dX12_laysLeast_48 : decode cX12_laysLeast 48 = .ok (.iload_n 3, 1) := by decide +kernel
theorem dX12_laysLeast_49 : decode cX12_laysLeast 49 = .ok (.iload 5, 2) := by decide +kernel
theorem dX12_laysLeast_51 : decode cX12_laysLeast 51 = .ok (.aload_n 0, 1) := by decide +kernel
theorem dX12_laysLeast_52 : decode cX12_laysLeast 52 = .ok (.iload_n 1, 1) := by decide +kernel
theorem dX12_laysLeast_53 : decode cX12_laysLeast 53 = .ok (.iconst 1, 1) := by decide +kernel
theorem dX12_laysLeast_54 : decode cX12_laysLeast 54 = .ok (.invokevirtual 281, 3) := by decide +kernel
theorem dX12_laysLeast_57 : decode cX12_laysLeast 57 = .ok (.ixor, 1) := by decide +kernel
theorem dX12_laysLeast_58 : decode cX12_laysLeast 58 = .ok (.invokestatic 344, 3) := by decide +kernel
theorem dX12_laysLeast_61 : decode cX12_laysLeast 61 = .ok (.iadd, 1) := by decide +kernel
theorem dX12_laysLeast_62 : decode cX12_laysLeast 62 = .ok (.istore 6, 2) := by decide +kernel
theorem dX12_laysLeast_64 : decode cX12_laysLeast 64 = .ok (.iload 6, 2) := by decide +kernel
theorem dX12_laysLeast_66 : decode cX12_laysLeast 66 = .ok (.aload_n 0, 1) := by decide +kernel
theorem dX12_laysLeast_67 : decode cX12_laysLeast 67 = .ok (.getfield 416, 3) := by decide +kernel
theorem dX12_laysLeast_70 : decode cX12_laysLeast 70 = .ok (.if_icmp .ge 48, 3) := by decide +kernel
theorem dX12_laysLeast_73 : decode cX12_laysLeast 73 = .ok (.aload_n 0, 1) := by decide +kernel
theorem dX12_laysLeast_74 : decode cX12_laysLeast 74 = .ok (.aload_n 0, 1) := by decide +kernel
theorem dX12_laysLeast_75 : decode cX12_laysLeast 75 = .ok (.iload_n 1, 1) := by decide +kernel
theorem dX12_laysLeast_76 : decode cX12_laysLeast 76 = .ok (.iconst 3, 1) := by decide +kernel
theorem dX12_laysLeast_77 : decode cX12_laysLeast 77 = .ok (.invokevirtual 281, 3) := by decide +kernel
theorem dX12_laysLeast_80 : decode cX12_laysLeast 80 = .ok (.iload 4, 2) := by decide +kernel
theorem dX12_laysLeast_82 : decode cX12_laysLeast 82 = .ok (.aload_n 0, 1) := by decide +kernel
theorem dX12_laysLeast_83 : decode cX12_laysLeast 83 = .ok (.getfield 7, 3) := by decide +kernel
theorem dX12_laysLeast_86 : decode cX12_laysLeast 86 = .ok (.bipush 6, 2) := by decide +kernel
theorem dX12_laysLeast_88 : decode cX12_laysLeast 88 = .ok (.iaload, 1) := by decide +kernel
theorem dX12_laysLeast_89 : decode cX12_laysLeast 89 = .ok (.iload 5, 2) := by decide +kernel
theorem dX12_laysLeast_91 : decode cX12_laysLeast 91 = .ok (.invokevirtual 382, 3) := by decide +kernel
theorem dX12_laysLeast_94 : decode cX12_laysLeast 94 = .ok (.iload_n 2, 1) := by decide +kernel
theorem dX12_laysLeast_95 : decode cX12_laysLeast 95 = .ok (.if_icmp .eq 6, 3) := by decide +kernel
theorem dX12_laysLeast_98 : decode cX12_laysLeast 98 = .ok (.goto 20, 3) := by decide +kernel
theorem dX12_laysLeast_101 : decode cX12_laysLeast 101 = .ok (.aload_n 0, 1) := by decide +kernel
theorem dX12_laysLeast_102 : decode cX12_laysLeast 102 = .ok (.iload 6, 2) := by decide +kernel
theorem dX12_laysLeast_104 : decode cX12_laysLeast 104 = .ok (.putfield 416, 3) := by decide +kernel
theorem dX12_laysLeast_107 : decode cX12_laysLeast 107 = .ok (.aload_n 0, 1) := by decide +kernel
theorem dX12_laysLeast_108 : decode cX12_laysLeast 108 = .ok (.iload_n 3, 1) := by decide +kernel
theorem dX12_laysLeast_109 : decode cX12_laysLeast 109 = .ok (.putfield 419, 3) := by decide +kernel
theorem dX12_laysLeast_112 : decode cX12_laysLeast 112 = .ok (.aload_n 0, 1) := by decide +kernel
theorem dX12_laysLeast_113 : decode cX12_laysLeast 113 = .ok (.iload 5, 2) := by decide +kernel
theorem dX12_laysLeast_115 : decode cX12_laysLeast 115 = .ok (.putfield 422, 3) := by decide +kernel
theorem dX12_laysLeast_118 : decode cX12_laysLeast 118 = .ok (.iinc 5 1, 3) := by decide +kernel
theorem dX12_laysLeast_121 : decode cX12_laysLeast 121 = .ok (.goto (-93), 3) := by decide +kernel
theorem dX12_laysLeast_124 : decode cX12_laysLeast 124 = .ok (.iinc 3 1, 3) := by decide +kernel
theorem dX12_laysLeast_127 : decode cX12_laysLeast 127 = .ok (.goto (-118), 3) := by decide +kernel
theorem dX12_laysLeast_130 : decode cX12_laysLeast 130 = .ok (.return_, 1) := by decide +kernel
set_option maxRecDepth 20000 in
theorem ggX12_least_X12_isPerson : GoodIn wsX12_least wsX12_isPerson := goodIn_r _ [7, 8, 64, 65, 66, 67, 68, 69, 70, 71, 72, 73, 74, 75, 76, 77, 78, 79, 80, 81, 82, 83, 84, 85, 86, 87, 88, 89, 90, 91, 92, 93, 94, 95, 96, 97, 98, 99, 100, 101, 102, 103, 104, 105] (by decide +kernel) (by decide +kernel)
set_option maxRecDepth 20000 in
theorem gX12_least_X12_isPerson : GoodIn wsX12_least (wsV RX12 305 RX12 yX12_isPerson wsX12_isPerson) := goodIn_app (goodIn_of _ (by decide +kernel)) ggX12_least_X12_isPerson
set_option maxRecDepth 20000 in
theorem ggX12_least_X12_isCue : GoodIn wsX12_least wsX12_isCue := goodIn_r _ [12, 8, 64, 65, 66, 67, 68, 69, 70, 71, 72, 73, 74, 75, 76, 77, 78, 79, 80, 81, 82, 83, 84, 85, 86, 87, 88, 89, 90, 91, 92, 93, 94, 95, 96, 97, 98, 99, 100, 101, 102, 103, 104, 105] (by decide +kernel) (by decide +kernel)
set_option maxRecDepth 20000 in
theorem gX12_least_X12_isCue : GoodIn wsX12_least (wsV RX12 293 RX12 yX12_isCue wsX12_isCue) := goodIn_app (goodIn_of _ (by decide +kernel)) ggX12_least_X12_isCue
set_option maxRecDepth 20000 in
theorem ggX12_least_X12_refuse : GoodIn wsX12_least wsX12_refuse := goodIn_r _ [16, 17, 64, 65, 66, 67, 68, 69, 70, 71, 72, 73, 74, 75, 76, 77, 78, 79, 80, 81, 82, 83, 84, 85, 86, 87, 88, 89, 90, 91, 92, 93, 94, 95, 96, 97, 98, 99, 100, 101, 102, 103, 104, 105] (by decide +kernel) (by decide +kernel)
set_option maxRecDepth 20000 in
theorem gX12_least_X12_refuse : GoodIn wsX12_least (wsV RX12 91 RX12 yX12_refuse wsX12_refuse) := goodIn_app (goodIn_of _ (by decide +kernel)) ggX12_least_X12_refuse
set_option maxRecDepth 20000 in
theorem ggX12_least_X12_laysLeast : GoodIn wsX12_least wsX12_laysLeast := goodIn_r _ [21, 2, 1, 8, 22, 23, 24, 25, 26, 6, 27, 28, 29, 30, 31, 32, 33, 34, 35, 36, 37, 38, 39, 40, 41, 42, 43, 44, 45, 46, 47, 48, 49, 50, 51, 52, 53, 54, 55, 56, 57, 58, 59, 64, 65, 66, 67, 68, 69, 70, 71, 72, 73, 74, 75, 76, 77, 78, 79, 80, 81, 82, 83, 84, 85, 86, 87, 88, 89, 90, 91, 92, 93, 94, 95, 96, 97, 98, 99, 100, 101, 102, 103, 104, 105] (by decide +kernel) (by decide +kernel)
set_option maxRecDepth 20000 in
theorem gX12_least_X12_laysLeast : GoodIn wsX12_least (wsV RX12 425 RX12 yX12_laysLeast wsX12_laysLeast) := goodIn_app (goodIn_of _ (by decide +kernel)) ggX12_least_X12_laysLeast
set_option maxRecDepth 20000 in
theorem ggX12_least_X12_gives : GoodIn wsX12_least wsX12_gives := goodIn_r _ [63, 17, 64, 65, 66, 67, 68, 69, 70, 71, 72, 73, 74, 75, 76, 77, 78, 79, 80, 81, 82, 83, 84, 85, 86, 87, 88, 89, 90, 91, 92, 93, 94, 95, 96, 97, 98, 99, 100, 101, 102, 103, 104, 105] (by decide +kernel) (by decide +kernel)
set_option maxRecDepth 20000 in
theorem gX12_least_X12_gives : GoodIn wsX12_least (wsV RX12 95 RX12 yX12_gives wsX12_gives) := goodIn_app (goodIn_of _ (by decide +kernel)) ggX12_least_X12_gives
theorem dX12_least_0 : decode cX12_least 0 = .ok (.aload_n 0, 1) := by decide +kernel
theorem dX12_least_1 : decode cX12_least 1 = .ok (.iload_n 1, 1) := by decide +kernel
theorem dX12_least_2 : decode cX12_least 2 = .ok (.i2l, 1) := by decide +kernel
theorem dX12_least_3 : decode cX12_least 3 = .ok (.invokevirtual 305, 3) := by decide +kernel
theorem dX12_least_6 : decode cX12_least 6 = .ok (.ifCond .eq 11, 3) := by decide +kernel
theorem dX12_least_9 : decode cX12_least 9 = .ok (.aload_n 0, 1) := by decide +kernel
theorem dX12_least_10 : decode cX12_least 10 = .ok (.iload_n 2, 1) := by decide +kernel
theorem dX12_least_11 : decode cX12_least 11 = .ok (.invokevirtual 293, 3) := by decide +kernel
theorem dX12_least_14 : decode cX12_least 14 = .ok (.ifCond .ne 9, 3) := by decide +kernel
theorem dX12_least_17 : decode cX12_least 17 = .ok (.aload_n 0, 1) := by decide +kernel
theorem dX12_least_18 : decode cX12_least 18 = .ok (.iconst 1, 1) := by decide +kernel
theorem dX12_least_19 : decode cX12_least 19 = .ok (.invokevirtual 91, 3) := by decide +kernel
theorem dX12_least_22 : decode cX12_least 22 = .ok (.ireturn, 1) := by decide +kernel
theorem dX12_least_23 : decode cX12_least 23 = .ok (.aload_n 0, 1) := by decide +kernel
theorem dX12_least_24 : decode cX12_least 24 = .ok (.iload_n 1, 1) := by decide +kernel
theorem dX12_least_25 : decode cX12_least 25 = .ok (.iload_n 2, 1) := by decide +kernel
theorem dX12_least_26 : decode cX12_least 26 = .ok (.invokevirtual 425, 3) := by decide +kernel
theorem dX12_least_29 : decode cX12_least 29 = .ok (.aload_n 0, 1) := by decide +kernel
theorem dX12_least_30 : decode cX12_least 30 = .ok (.getfield 416, 3) := by decide +kernel
theorem dX12_least_33 : decode cX12_least 33 = .ok (.ldc_w 412, 3) := by decide +kernel
theorem dX12_least_36 : decode cX12_least 36 = .ok (.if_icmp .ne 12, 3) := by decide +kernel
theorem dX12_least_39 : decode cX12_least 39 = .ok (.aload_n 0, 1) := by decide +kernel
theorem dX12_least_40 : decode cX12_least 40 = .ok (.bipush 6, 2) := by decide +kernel
theorem dX12_least_42 : decode cX12_least 42 = .ok (.invokevirtual 91, 3) := by decide +kernel
theorem dX12_least_45 : decode cX12_least 45 = .ok (.goto 11, 3) := by decide +kernel
theorem dX12_least_48 : decode cX12_least 48 = .ok (.aload_n 0, 1) := by decide +kernel
theorem dX12_least_49 : decode cX12_least 49 = .ok (.aload_n 0, 1) := by decide +kernel
theorem dX12_least_50 : decode cX12_least 50 = .ok (.getfield 416, 3) := by decide +kernel
theorem dX12_least_53 : decode cX12_least 53 = .ok (.invokevirtual 95, 3) := by decide +kernel
theorem dX12_least_56 : decode cX12_least 56 = .ok (.ireturn, 1) := by decide +kernel
set_option maxRecDepth 20000 in
theorem ggX12_leastBy_X12_isPerson : GoodIn wsX12_leastBy wsX12_isPerson := goodIn_r _ [9, 10, 64, 65, 66, 67, 68, 69, 70, 71, 72, 73, 74, 75, 76, 77, 78, 79, 80, 81, 82, 83, 84, 85, 86, 87, 88, 89, 90, 91, 92, 93, 94, 95, 96, 97, 98, 99, 100, 101, 102, 103, 104, 105] (by decide +kernel) (by decide +kernel)
set_option maxRecDepth 20000 in
theorem gX12_leastBy_X12_isPerson : GoodIn wsX12_leastBy (wsV RX12 305 RX12 yX12_isPerson wsX12_isPerson) := goodIn_app (goodIn_of _ (by decide +kernel)) ggX12_leastBy_X12_isPerson
set_option maxRecDepth 20000 in
theorem ggX12_leastBy_X12_isCue : GoodIn wsX12_leastBy wsX12_isCue := goodIn_r _ [14, 10, 64, 65, 66, 67, 68, 69, 70, 71, 72, 73, 74, 75, 76, 77, 78, 79, 80, 81, 82, 83, 84, 85, 86, 87, 88, 89, 90, 91, 92, 93, 94, 95, 96, 97, 98, 99, 100, 101, 102, 103, 104, 105] (by decide +kernel) (by decide +kernel)
set_option maxRecDepth 20000 in
theorem gX12_leastBy_X12_isCue : GoodIn wsX12_leastBy (wsV RX12 293 RX12 yX12_isCue wsX12_isCue) := goodIn_app (goodIn_of _ (by decide +kernel)) ggX12_leastBy_X12_isCue
set_option maxRecDepth 20000 in
theorem ggX12_leastBy_X12_refuse : GoodIn wsX12_leastBy wsX12_refuse := goodIn_r _ [18, 19, 64, 65, 66, 67, 68, 69, 70, 71, 72, 73, 74, 75, 76, 77, 78, 79, 80, 81, 82, 83, 84, 85, 86, 87, 88, 89, 90, 91, 92, 93, 94, 95, 96, 97, 98, 99, 100, 101, 102, 103, 104, 105] (by decide +kernel) (by decide +kernel)
set_option maxRecDepth 20000 in
theorem gX12_leastBy_X12_refuse : GoodIn wsX12_leastBy (wsV RX12 91 RX12 yX12_refuse wsX12_refuse) := goodIn_app (goodIn_of _ (by decide +kernel)) ggX12_leastBy_X12_refuse
set_option maxRecDepth 20000 in
theorem ggX12_leastBy_X12_laysLeast : GoodIn wsX12_leastBy wsX12_laysLeast := goodIn_r _ [23, 2, 1, 10, 3, 4, 24, 25, 26, 8, 27, 28, 29, 30, 31, 32, 33, 34, 35, 36, 37, 38, 39, 40, 41, 42, 43, 44, 45, 46, 47, 48, 49, 50, 51, 52, 53, 54, 55, 56, 57, 58, 59, 64, 65, 66, 67, 68, 69, 70, 71, 72, 73, 74, 75, 76, 77, 78, 79, 80, 81, 82, 83, 84, 85, 86, 87, 88, 89, 90, 91, 92, 93, 94, 95, 96, 97, 98, 99, 100, 101, 102, 103, 104, 105] (by decide +kernel) (by decide +kernel)
set_option maxRecDepth 20000 in
theorem gX12_leastBy_X12_laysLeast : GoodIn wsX12_leastBy (wsV RX12 425 RX12 yX12_laysLeast wsX12_laysLeast) := goodIn_app (goodIn_of _ (by decide +kernel)) ggX12_leastBy_X12_laysLeast
set_option maxRecDepth 20000 in
theorem ggX12_leastBy_X12_gives : GoodIn wsX12_leastBy wsX12_gives := goodIn_r _ [63, 19, 64, 65, 66, 67, 68, 69, 70, 71, 72, 73, 74, 75, 76, 77, 78, 79, 80, 81, 82, 83, 84, 85, 86, 87, 88, 89, 90, 91, 92, 93, 94, 95, 96, 97, 98, 99, 100, 101, 102, 103, 104, 105] (by decide +kernel) (by decide +kernel)
set_option maxRecDepth 20000 in
theorem gX12_leastBy_X12_gives : GoodIn wsX12_leastBy (wsV RX12 95 RX12 yX12_gives wsX12_gives) := goodIn_app (goodIn_of _ (by decide +kernel)) ggX12_leastBy_X12_gives
theorem dX12_leastBy_0 : decode cX12_leastBy 0 = .ok (.aload_n 0, 1) := by decide +kernel
theorem dX12_leastBy_1 : decode cX12_leastBy 1 = .ok (.iload_n 1, 1) := by decide +kernel
theorem dX12_leastBy_2 : decode cX12_leastBy 2 = .ok (.i2l, 1) := by decide +kernel
theorem dX12_leastBy_3 : decode cX12_leastBy 3 = .ok (.invokevirtual 305, 3) := by decide +kernel
theorem dX12_leastBy_6 : decode cX12_leastBy 6 = .ok (.ifCond .eq 20, 3) := by decide +kernel
theorem dX12_leastBy_9 : decode cX12_leastBy 9 = .ok (.aload_n 0, 1) := by decide +kernel
theorem dX12_leastBy_10 : decode cX12_leastBy 10 = .ok (.iload_n 2, 1) := by decide +kernel
theorem dX12_leastBy_11 : decode cX12_leastBy 11 = .ok (.invokevirtual 293, 3) := by decide +kernel
theorem dX12_leastBy_14 : decode cX12_leastBy 14 = .ok (.ifCond .eq 12, 3) := by decide +kernel
theorem dX12_leastBy_17 : decode cX12_leastBy 17 = .ok (.iload_n 3, 1) := by decide +kernel
theorem dX12_leastBy_18 : decode cX12_leastBy 18 = .ok (.ifCond .lt 8, 3) := by decide +kernel
theorem dX12_leastBy_21 : decode cX12_leastBy 21 = .ok (.iload_n 3, 1) := by decide +kernel
theorem dX12_leastBy_22 : decode cX12_leastBy 22 = .ok (.iconst 1, 1) := by decide +kernel
theorem dX12_leastBy_23 : decode cX12_leastBy 23 = .ok (.if_icmp .le 9, 3) := by decide +kernel
theorem dX12_leastBy_26 : decode cX12_leastBy 26 = .ok (.aload_n 0, 1) := by decide +kernel
theorem dX12_leastBy_27 : decode cX12_leastBy 27 = .ok (.iconst 1, 1) := by decide +kernel
theorem dX12_leastBy_28 : decode cX12_leastBy 28 = .ok (.invokevirtual 91, 3) := by decide +kernel
theorem dX12_leastBy_31 : decode cX12_leastBy 31 = .ok (.ireturn, 1) := by decide +kernel
theorem dX12_leastBy_32 : decode cX12_leastBy 32 = .ok (.aload_n 0, 1) := by decide +kernel
theorem dX12_leastBy_33 : decode cX12_leastBy 33 = .ok (.iload_n 1, 1) := by decide +kernel
theorem dX12_leastBy_34 : decode cX12_leastBy 34 = .ok (.iload_n 2, 1) := by decide +kernel
theorem dX12_leastBy_35 : decode cX12_leastBy 35 = .ok (.invokevirtual 425, 3) := by decide +kernel
theorem dX12_leastBy_38 : decode cX12_leastBy 38 = .ok (.aload_n 0, 1) := by decide +kernel
theorem dX12_leastBy_39 : decode cX12_leastBy 39 = .ok (.getfield 416, 3) := by decide +kernel
theorem dX12_leastBy_42 : decode cX12_leastBy 42 = .ok (.ldc_w 412, 3) := by decide +kernel
theorem dX12_leastBy_45 : decode cX12_leastBy 45 = .ok (.if_icmp .ne 10, 3) := by decide +kernel
theorem dX12_leastBy_48 : decode cX12_leastBy 48 = .ok (.aload_n 0, 1) := by decide +kernel
theorem dX12_leastBy_49 : decode cX12_leastBy 49 = .ok (.bipush 6, 2) := by decide +kernel
theorem dX12_leastBy_51 : decode cX12_leastBy 51 = .ok (.invokevirtual 91, 3) := by decide +kernel
theorem dX12_leastBy_54 : decode cX12_leastBy 54 = .ok (.ireturn, 1) := by decide +kernel
theorem dX12_leastBy_55 : decode cX12_leastBy 55 = .ok (.aload_n 0, 1) := by decide +kernel
theorem dX12_leastBy_56 : decode cX12_leastBy 56 = .ok (.iload_n 3, 1) := by decide +kernel
theorem dX12_leastBy_57 : decode cX12_leastBy 57 = .ok (.ifCond .ne 10, 3) := by decide +kernel
theorem dX12_leastBy_60 : decode cX12_leastBy 60 = .ok (.aload_n 0, 1) := by decide +kernel
theorem dX12_leastBy_61 : decode cX12_leastBy 61 = .ok (.getfield 419, 3) := by decide +kernel
theorem dX12_leastBy_64 : decode cX12_leastBy 64 = .ok (.goto 7, 3) := by decide +kernel
theorem dX12_leastBy_67 : decode cX12_leastBy 67 = .ok (.aload_n 0, 1) := by decide +kernel
theorem dX12_leastBy_68 : decode cX12_leastBy 68 = .ok (.getfield 422, 3) := by decide +kernel
theorem dX12_leastBy_71 : decode cX12_leastBy 71 = .ok (.invokevirtual 95, 3) := by decide +kernel
theorem dX12_leastBy_74 : decode cX12_leastBy 74 = .ok (.ireturn, 1) := by decide +kernel
set_option maxRecDepth 20000 in
theorem ggX12_laysWorlds_X12_firstOf : GoodIn wsX12_laysWorlds wsX12_firstOf := goodIn_r _ [8, 3, 9, 10, 11, 7, 12, 13, 14, 15, 16, 17, 18, 19, 20, 21, 22, 23, 24, 25, 26, 27, 28, 29, 30, 31, 32, 33, 34, 35, 36, 37, 38, 39, 40, 41, 42, 43, 44, 45, 46, 47, 48, 49, 50, 51, 52, 53, 54, 55, 56, 57, 58, 59, 60, 61, 62, 63, 64, 65, 66, 67, 68] (by decide +kernel) (by decide +kernel)
set_option maxRecDepth 20000 in
theorem gX12_laysWorlds_X12_firstOf : GoodIn wsX12_laysWorlds (wsV RX12 325 RX12 yX12_firstOf wsX12_firstOf) := goodIn_app (goodIn_of _ (by decide +kernel)) ggX12_laysWorlds_X12_firstOf
theorem dX12_laysWorlds_0 : decode cX12_laysWorlds 0 = .ok (.iconst 0, 1) := by decide +kernel
theorem dX12_laysWorlds_1 : decode cX12_laysWorlds 1 = .ok (.istore_n 1, 1) := by decide +kernel
theorem dX12_laysWorlds_2 : decode cX12_laysWorlds 2 = .ok (.iload_n 1, 1) := by decide +kernel
theorem dX12_laysWorlds_3 : decode cX12_laysWorlds 3 = .ok (.bipush 8, 2) := by decide +kernel
theorem dX12_laysWorlds_5 : decode cX12_laysWorlds 5 = .ok (.if_icmp .gt 23, 3) := by decide +kernel
theorem dX12_laysWorlds_8 : decode cX12_laysWorlds 8 = .ok (.aload_n 0, 1) := by decide +kernel
theorem dX12_laysWorlds_9 : decode cX12_laysWorlds 9 = .ok (.getfield 54, 3) := by decide +kernel
theorem dX12_laysWorlds_12 : decode cX12_laysWorlds 12 = .ok (.iload_n 1, 1) := by decide +kernel
theorem dX12_laysWorlds_13 : decode cX12_laysWorlds 13 = .ok (.iconst 0, 1) := by decide +kernel
theorem dX12_laysWorlds_14 : decode cX12_laysWorlds 14 = .ok (.iastore, 1) := by decide +kernel
theorem dX12_laysWorlds_15 : decode cX12_laysWorlds 15 = .ok (.aload_n 0, 1) := by decide +kernel
theorem dX12_laysWorlds_16 : decode cX12_laysWorlds 16 = .ok (.getfield 57, 3) := by decide +kernel
theorem dX12_laysWorlds_19 : decode cX12_laysWorlds 19 = .ok (.iload_n 1, 1) := by decide +kernel
theorem dX12_laysWorlds_20 : decode cX12_laysWorlds 20 = .ok (.iconst 0, 1) := by decide +kernel
theorem dX12_laysWorlds_21 : decode cX12_laysWorlds 21 = .ok (.iastore, 1) := by decide +kernel
theorem dX12_laysWorlds_22 : decode cX12_laysWorlds 22 = .ok (.iinc 1 1, 3) := by decide +kernel
theorem dX12_laysWorlds_25 : decode cX12_laysWorlds 25 = .ok (.goto (-23), 3) := by decide +kernel
theorem dX12_laysWorlds_28 : decode cX12_laysWorlds 28 = .ok (.iconst 0, 1) := by decide +kernel
theorem dX12_laysWorlds_29 : decode cX12_laysWorlds 29 = .ok (.istore_n 1, 1) := by decide +kernel
theorem dX12_laysWorlds_30 : decode cX12_laysWorlds 30 = .ok (.iload_n 1, 1) := by decide +kernel
theorem dX12_laysWorlds_31 : decode cX12_laysWorlds 31 = .ok (.iconst 1, 1) := by decide +kernel
theorem dX12_laysWorlds_32 : decode cX12_laysWorlds 32 = .ok (.aload_n 0, 1) := by decide +kernel
theorem dX12_laysWorlds_33 : decode cX12_laysWorlds 33 = .ok (.getfield 7, 3) := by decide +kernel
theorem dX12_laysWorlds_36 : decode cX12_laysWorlds 36 = .ok (.iconst 0, 1) := by decide +kernel
theorem dX12_laysWorlds_37 : decode cX12_laysWorlds 37 = .ok (.iaload, 1) := by decide +kernel
theorem dX12_laysWorlds_38 : decode cX12_laysWorlds 38 = .ok (.ishl, 1) := by decide +kernel
theorem dX12_laysWorlds_39 : decode cX12_laysWorlds 39 = .ok (.if_icmp .ge 73, 3) := by decide +kernel
theorem dX12_laysWorlds_42 : decode cX12_laysWorlds 42 = .ok (.iconst 0, 1) := by decide +kernel
theorem dX12_laysWorlds_43 : decode cX12_laysWorlds 43 = .ok (.istore_n 2, 1) := by decide +kernel
theorem dX12_laysWorlds_44 : decode cX12_laysWorlds 44 = .ok (.iload_n 2, 1) := by decide +kernel
theorem dX12_laysWorlds_45 : decode cX12_laysWorlds 45 = .ok (.sipush 420, 3) := by decide +kernel
theorem dX12_laysWorlds_48 : decode cX12_laysWorlds 48 = .ok (.if_icmp .ge 58, 3) := by decide +kernel
theorem dX12_laysWorlds_51 : decode cX12_laysWorlds 51 = .ok (.aload_n 0, 1) := by decide +kernel
theorem dX12_laysWorlds_52 : decode cX12_laysWorlds 52 = .ok (.iload_n 2, 1) := by decide +kernel
theorem dX12_laysWorlds_53 : decode cX12_laysWorlds 53 = .ok (.iconst 2, 1) := by decide +kernel
theorem dX12_laysWorlds_54 : decode cX12_laysWorlds 54 = .ok (.irem, 1) := by decide +kernel
theorem dX12_laysWorlds_55 : decode cX12_laysWorlds 55 = .ok (.iload_n 2, 1) := by decide +kernel
theorem dX12_laysWorlds_56 : decode cX12_laysWorlds 56 = .ok (.bipush 20, 2) := by decide +kernel
theorem dX12_laysWorlds_58 : decode cX12_laysWorlds 58 = .ok (.idiv, 1) := by decide +kernel
theorem dX12_laysWorlds_59 : decode cX12_laysWorlds 59 = .ok (.iload_n 2, 1) := by decide +kernel
theorem dX12_laysWorlds_60 : decode cX12_laysWorlds 60 = .ok (.iconst 2, 1) := by decide +kernel
theorem dX12_laysWorlds_61 : decode cX12_laysWorlds 61 = .ok (.idiv, 1) := by decide +kernel
theorem dX12_laysWorlds_62 : decode cX12_laysWorlds 62 = .ok (.bipush 10, 2) := by decide +kernel
theorem dX12_laysWorlds_64 : decode cX12_laysWorlds 64 = .ok (.irem, 1) := by decide +kernel
theorem dX12_laysWorlds_65 : decode cX12_laysWorlds 65 = .ok (.iload_n 1, 1) := by decide +kernel
theorem dX12_laysWorlds_66 : decode cX12_laysWorlds 66 = .ok (.invokevirtual 325, 3) := by decide +kernel
theorem dX12_laysWorlds_69 : decode cX12_laysWorlds 69 = .ok (.istore_n 3, 1) := by decide +kernel
theorem dX12_laysWorlds_70 : decode cX12_laysWorlds 70 = .ok (.iload_n 3, 1) := by decide +kernel
theorem dX12_laysWorlds_71 : decode cX12_laysWorlds 71 = .ok (.iconst (-1), 1) := by decide +kernel
theorem dX12_laysWorlds_72 : decode cX12_laysWorlds 72 = .ok (.if_icmp .ne 6, 3) := by decide +kernel
theorem dX12_laysWorlds_75 : decode cX12_laysWorlds 75 = .ok (.bipush 8, 2) := by decide +kernel
theorem dX12_laysWorlds_77 : decode cX12_laysWorlds 77 = .ok (.istore_n 3, 1) := by decide +kernel
theorem dX12_laysWorlds_78 : decode cX12_laysWorlds 78 = .ok (.aload_n 0, 1) := by decide +kernel
theorem dX12_laysWorlds_79 : decode cX12_laysWorlds 79 = .ok (.getfield 54, 3) := by decide +kernel
theorem dX12_laysWorlds_82 : decode cX12_laysWorlds 82 = .ok (.iload_n 3, 1) := by decide +kernel
theorem dX12_laysWorlds_83 : decode cX12_laysWorlds 83 = .ok (.dup2, 1) := by decide +kernel
theorem dX12_laysWorlds_84 : decode cX12_laysWorlds 84 = .ok (.iaload, 1) := by decide +kernel
theorem dX12_laysWorlds_85 : decode cX12_laysWorlds 85 = .ok (.iconst 1, 1) := by decide +kernel
theorem dX12_laysWorlds_86 : decode cX12_laysWorlds 86 = .ok (.iadd, 1) := by decide +kernel
theorem dX12_laysWorlds_87 : decode cX12_laysWorlds 87 = .ok (.iastore, 1) := by decide +kernel
theorem dX12_laysWorlds_88 : decode cX12_laysWorlds 88 = .ok (.aload_n 0, 1) := by decide +kernel
theorem dX12_laysWorlds_89 : decode cX12_laysWorlds 89 = .ok (.getfield 57, 3) := by decide +kernel
theorem dX12_laysWorlds_92 : decode cX12_laysWorlds 92 = .ok (.iload_n 3, 1) := by decide +kernel
theorem dX12_laysWorlds_93 : decode cX12_laysWorlds 93 = .ok (.dup2, 1) := by decide +kernel
theorem dX12_laysWorlds_94 : decode cX12_laysWorlds 94 = .ok (.iaload, 1) := by decide +kernel
theorem dX12_laysWorlds_95 : decode cX12_laysWorlds 95 = .ok (.iload_n 2, 1) := by decide +kernel
theorem dX12_laysWorlds_96 : decode cX12_laysWorlds 96 = .ok (.iconst 2, 1) := by decide +kernel
theorem dX12_laysWorlds_97 : decode cX12_laysWorlds 97 = .ok (.irem, 1) := by decide +kernel
theorem dX12_laysWorlds_98 : decode cX12_laysWorlds 98 = .ok (.iadd, 1) := by decide +kernel
theorem dX12_laysWorlds_99 : decode cX12_laysWorlds 99 = .ok (.iastore, 1) := by decide +kernel
theorem dX12_laysWorlds_100 : decode cX12_laysWorlds 100 = .ok (.iinc 2 1, 3) := by decide +kernel
theorem dX12_laysWorlds_103 : decode cX12_laysWorlds 103 = .ok (.goto (-59), 3) := by decide +kernel
theorem dX12_laysWorlds_106 : decode cX12_laysWorlds 106 = .ok (.iinc 1 1, 3) := by decide +kernel
theorem dX12_laysWorlds_109 : decode cX12_laysWorlds 109 = .ok (.goto (-79), 3) := by decide +kernel
theorem dX12_laysWorlds_112 : decode cX12_laysWorlds 112 = .ok (.return_, 1) := by decide +kernel
set_option maxRecDepth 20000 in
theorem ggX12_reach_X12_isRule : GoodIn wsX12_reach wsX12_isRule := goodIn_r _ [6, 7, 44, 45, 46, 47, 48, 49, 50, 51, 52, 53, 54, 55, 56, 57, 58, 59, 60, 61, 62, 63, 64, 65, 66, 67, 68, 69, 70, 71, 72, 73, 74, 75, 76, 77, 78, 79, 80, 81, 82, 83, 84, 85] (by decide +kernel) (by decide +kernel)
set_option maxRecDepth 20000 in
theorem gX12_reach_X12_isRule : GoodIn wsX12_reach (wsV RX12 296 RX12 yX12_isRule wsX12_isRule) := goodIn_app (goodIn_of _ (by decide +kernel)) ggX12_reach_X12_isRule
set_option maxRecDepth 20000 in
theorem ggX12_reach_X12_refuse : GoodIn wsX12_reach wsX12_refuse := goodIn_r _ [11, 12, 44, 45, 46, 47, 48, 49, 50, 51, 52, 53, 54, 55, 56, 57, 58, 59, 60, 61, 62, 63, 64, 65, 66, 67, 68, 69, 70, 71, 72, 73, 74, 75, 76, 77, 78, 79, 80, 81, 82, 83, 84, 85] (by decide +kernel) (by decide +kernel)
set_option maxRecDepth 20000 in
theorem gX12_reach_X12_refuse : GoodIn wsX12_reach (wsV RX12 91 RX12 yX12_refuse wsX12_refuse) := goodIn_app (goodIn_of _ (by decide +kernel)) ggX12_reach_X12_refuse
set_option maxRecDepth 20000 in
theorem ggX12_reach_X12_laysWorlds : GoodIn wsX12_reach wsX12_laysWorlds := goodIn_r _ [16, 1, 17, 7, 18, 19, 20, 5, 21, 22, 23, 24, 25, 26, 27, 28, 29, 30, 31, 32, 33, 34, 35, 36, 37, 38, 39, 44, 45, 46, 47, 48, 49, 50, 51, 52, 53, 54, 55, 56, 57, 58, 59, 60, 61, 62, 63, 64, 65, 66, 67, 68, 69, 70, 71, 72, 73, 74, 75, 76, 77, 78, 79, 80, 81, 82, 83, 84, 85] (by decide +kernel) (by decide +kernel)
set_option maxRecDepth 20000 in
theorem gX12_reach_X12_laysWorlds : GoodIn wsX12_reach (wsV RX12 428 RX12 yX12_laysWorlds wsX12_laysWorlds) := goodIn_app (goodIn_of _ (by decide +kernel)) ggX12_reach_X12_laysWorlds
set_option maxRecDepth 20000 in
theorem ggX12_reach_X12_gives : GoodIn wsX12_reach wsX12_gives := goodIn_r _ [43, 12, 44, 45, 46, 47, 48, 49, 50, 51, 52, 53, 54, 55, 56, 57, 58, 59, 60, 61, 62, 63, 64, 65, 66, 67, 68, 69, 70, 71, 72, 73, 74, 75, 76, 77, 78, 79, 80, 81, 82, 83, 84, 85] (by decide +kernel) (by decide +kernel)
set_option maxRecDepth 20000 in
theorem gX12_reach_X12_gives : GoodIn wsX12_reach (wsV RX12 95 RX12 yX12_gives wsX12_gives) := goodIn_app (goodIn_of _ (by decide +kernel)) ggX12_reach_X12_gives
theorem dX12_reach_0 : decode cX12_reach 0 = .ok (.aload_n 0, 1) := by decide +kernel
theorem dX12_reach_1 : decode cX12_reach 1 = .ok (.iload_n 1, 1) := by decide +kernel
theorem dX12_reach_2 : decode cX12_reach 2 = .ok (.invokevirtual 296, 3) := by decide +kernel
theorem dX12_reach_5 : decode cX12_reach 5 = .ok (.ifCond .ne 9, 3) := by decide +kernel
theorem dX12_reach_8 : decode cX12_reach 8 = .ok (.aload_n 0, 1) := by decide +kernel
theorem dX12_reach_9 : decode cX12_reach 9 = .ok (.iconst 1, 1) := by decide +kernel
theorem dX12_reach_10 : decode cX12_reach 10 = .ok (.invokevirtual 91, 3) := by decide +kernel
theorem dX12_reach_13 : decode cX12_reach 13 = .ok (.ireturn, 1) := by decide +kernel
theorem dX12_reach_14 : decode cX12_reach 14 = .ok (.aload_n 0, 1) := by decide +kernel
theorem dX12_reach_15 : decode cX12_reach 15 = .ok (.invokevirtual 428, 3) := by decide +kernel
theorem dX12_reach_18 : decode cX12_reach 18 = .ok (.aload_n 0, 1) := by decide +kernel
theorem dX12_reach_19 : decode cX12_reach 19 = .ok (.aload_n 0, 1) := by decide +kernel
theorem dX12_reach_20 : decode cX12_reach 20 = .ok (.getfield 54, 3) := by decide +kernel
theorem dX12_reach_23 : decode cX12_reach 23 = .ok (.iload_n 1, 1) := by decide +kernel
theorem dX12_reach_24 : decode cX12_reach 24 = .ok (.iaload, 1) := by decide +kernel
theorem dX12_reach_25 : decode cX12_reach 25 = .ok (.invokevirtual 95, 3) := by decide +kernel
theorem dX12_reach_28 : decode cX12_reach 28 = .ok (.ireturn, 1) := by decide +kernel
set_option maxRecDepth 20000 in
theorem ggX12_idle_X12_laysWorlds : GoodIn wsX12_idle wsX12_laysWorlds := goodIn_r _ [7, 2, 8, 1, 9, 10, 11, 6, 12, 13, 14, 15, 16, 17, 18, 19, 20, 21, 22, 23, 24, 25, 26, 27, 28, 29, 30, 36, 37, 38, 39, 40, 41, 42, 43, 44, 45, 46, 47, 48, 49, 50, 51, 52, 53, 54, 55, 56, 57, 58, 59, 60, 61, 62, 63, 64, 65, 66, 67, 68, 69, 70, 71, 72, 73, 74, 75, 76, 77] (by decide +kernel) (by decide +kernel)
set_option maxRecDepth 20000 in
theorem gX12_idle_X12_laysWorlds : GoodIn wsX12_idle (wsV RX12 428 RX12 yX12_laysWorlds wsX12_laysWorlds) := goodIn_app (goodIn_of _ (by decide +kernel)) ggX12_idle_X12_laysWorlds
set_option maxRecDepth 20000 in
theorem ggX12_idle_X12_gives : GoodIn wsX12_idle wsX12_gives := goodIn_r _ [34, 35, 36, 37, 38, 39, 40, 41, 42, 43, 44, 45, 46, 47, 48, 49, 50, 51, 52, 53, 54, 55, 56, 57, 58, 59, 60, 61, 62, 63, 64, 65, 66, 67, 68, 69, 70, 71, 72, 73, 74, 75, 76, 77] (by decide +kernel) (by decide +kernel)
set_option maxRecDepth 20000 in
theorem gX12_idle_X12_gives : GoodIn wsX12_idle (wsV RX12 95 RX12 yX12_gives wsX12_gives) := goodIn_app (goodIn_of _ (by decide +kernel)) ggX12_idle_X12_gives
theorem dX12_idle_0 : decode cX12_idle 0 = .ok (.aload_n 0, 1) := by decide +kernel
theorem dX12_idle_1 : decode cX12_idle 1 = .ok (.invokevirtual 428, 3) := by decide +kernel
theorem dX12_idle_4 : decode cX12_idle 4 = .ok (.iconst 0, 1) := by decide +kernel
theorem dX12_idle_5 : decode cX12_idle 5 = .ok (.istore_n 1, 1) := by decide +kernel
theorem dX12_idle_6 : decode cX12_idle 6 = .ok (.iconst 0, 1) := by decide +kernel
theorem dX12_idle_7 : decode cX12_idle 7 = .ok (.istore_n 2, 1) := by decide +kernel
theorem dX12_idle_8 : decode cX12_idle 8 = .ok (.iload_n 2, 1) := by decide +kernel
theorem dX12_idle_9 : decode cX12_idle 9 = .ok (.aload_n 0, 1) := by decide +kernel
theorem dX12_idle_10 : decode cX12_idle 10 = .ok (.getfield 7, 3) := by decide +kernel
theorem dX12_idle_13 : decode cX12_idle 13 = .ok (.iconst 2, 1) := by decide +kernel
theorem dX12_idle_14 : decode cX12_idle 14 = .ok (.iaload, 1) := by decide +kernel
theorem dX12_idle_15 : decode cX12_idle 15 = .ok (.if_icmp .ge 28, 3) := by decide +kernel
theorem dX12_idle_18 : decode cX12_idle 18 = .ok (.iload_n 1, 1) := by decide +kernel
theorem dX12_idle_19 : decode cX12_idle 19 = .ok (.aload_n 0, 1) := by decide +kernel
theorem dX12_idle_20 : decode cX12_idle 20 = .ok (.getfield 54, 3) := by decide +kernel
theorem dX12_idle_23 : decode cX12_idle 23 = .ok (.iload_n 2, 1) := by decide +kernel
theorem dX12_idle_24 : decode cX12_idle 24 = .ok (.iaload, 1) := by decide +kernel
theorem dX12_idle_25 : decode cX12_idle 25 = .ok (.ifCond .ne 9, 3) := by decide +kernel
theorem dX12_idle_28 : decode cX12_idle 28 = .ok (.iconst 1, 1) := by decide +kernel
theorem dX12_idle_29 : decode cX12_idle 29 = .ok (.iload_n 2, 1) := by decide +kernel
theorem dX12_idle_30 : decode cX12_idle 30 = .ok (.ishl, 1) := by decide +kernel
theorem dX12_idle_31 : decode cX12_idle 31 = .ok (.goto 4, 3) := by decide +kernel
theorem dX12_idle_34 : decode cX12_idle 34 = .ok (.iconst 0, 1) := by decide +kernel
theorem dX12_idle_35 : decode cX12_idle 35 = .ok (.ior, 1) := by decide +kernel
theorem dX12_idle_36 : decode cX12_idle 36 = .ok (.istore_n 1, 1) := by decide +kernel
theorem dX12_idle_37 : decode cX12_idle 37 = .ok (.iinc 2 1, 3) := by decide +kernel
theorem dX12_idle_40 : decode cX12_idle 40 = .ok (.goto (-32), 3) := by decide +kernel
theorem dX12_idle_43 : decode cX12_idle 43 = .ok (.aload_n 0, 1) := by decide +kernel
theorem dX12_idle_44 : decode cX12_idle 44 = .ok (.iload_n 1, 1) := by decide +kernel
theorem dX12_idle_45 : decode cX12_idle 45 = .ok (.invokevirtual 95, 3) := by decide +kernel
theorem dX12_idle_48 : decode cX12_idle 48 = .ok (.ireturn, 1) := by decide +kernel
set_option maxRecDepth 20000 in
theorem ggX12_tells_X12_isCue : GoodIn wsX12_tells wsX12_isCue := goodIn_r _ [8, 1, 46, 47, 48, 49, 50, 51, 52, 53, 54, 55, 56, 57, 58, 59, 60, 61, 62, 63, 64, 65, 66, 67, 68, 69, 70, 71, 72, 73, 74, 75, 76, 77, 78, 79, 80, 81, 82, 83, 84, 85, 86, 87] (by decide +kernel) (by decide +kernel)
set_option maxRecDepth 20000 in
theorem gX12_tells_X12_isCue : GoodIn wsX12_tells (wsV RX12 293 RX12 yX12_isCue wsX12_isCue) := goodIn_app (goodIn_of _ (by decide +kernel)) ggX12_tells_X12_isCue
set_option maxRecDepth 20000 in
theorem ggX12_tells_X12_is : GoodIn wsX12_tells wsX12_is := goodIn_r _ [12, 13, 46, 47, 48, 49, 50, 51, 52, 53, 54, 55, 56, 57, 58, 59, 60, 61, 62, 63, 64, 65, 66, 67, 68, 69, 70, 71, 72, 73, 74, 75, 76, 77, 78, 79, 80, 81, 82, 83, 84, 85, 86, 87] (by decide +kernel) (by decide +kernel)
set_option maxRecDepth 20000 in
theorem gX12_tells_X12_is : GoodIn wsX12_tells (wsV RX12 98 RX12 yX12_is wsX12_is) := goodIn_app (goodIn_of _ (by decide +kernel)) ggX12_tells_X12_is
set_option maxRecDepth 20000 in
theorem ggX12_tells_X12_laysWorlds : GoodIn wsX12_tells wsX12_laysWorlds := goodIn_r _ [17, 2, 3, 1, 18, 19, 20, 7, 21, 22, 23, 24, 25, 26, 27, 28, 29, 30, 31, 32, 33, 34, 35, 36, 37, 38, 39, 46, 47, 48, 49, 50, 51, 52, 53, 54, 55, 56, 57, 58, 59, 60, 61, 62, 63, 64, 65, 66, 67, 68, 69, 70, 71, 72, 73, 74, 75, 76, 77, 78, 79, 80, 81, 82, 83, 84, 85, 86, 87] (by decide +kernel) (by decide +kernel)
set_option maxRecDepth 20000 in
theorem gX12_tells_X12_laysWorlds : GoodIn wsX12_tells (wsV RX12 428 RX12 yX12_laysWorlds wsX12_laysWorlds) := goodIn_app (goodIn_of _ (by decide +kernel)) ggX12_tells_X12_laysWorlds
set_option maxRecDepth 20000 in
theorem ggX12_tells_X12_ruleOf : GoodIn wsX12_tells wsX12_ruleOf := goodIn_r _ [29, 1, 30, 31, 7, 32, 46, 47, 48, 49, 50, 51, 52, 53, 54, 55, 56, 57, 58, 59, 60, 61, 62, 63, 64, 65, 66, 67, 68, 69, 70, 71, 72, 73, 74, 75, 76, 77, 78, 79, 80, 81, 82, 83, 84, 85, 86, 87] (by decide +kernel) (by decide +kernel)
set_option maxRecDepth 20000 in
theorem gX12_tells_X12_ruleOf : GoodIn wsX12_tells (wsV RX12 299 RX12 yX12_ruleOf wsX12_ruleOf) := goodIn_app (goodIn_of _ (by decide +kernel)) ggX12_tells_X12_ruleOf
set_option maxRecDepth 20000 in
theorem ggX12_tells_X12_tellsBy : GoodIn wsX12_tells wsX12_tellsBy := goodIn_r _ [43, 44, 45, 9, 10, 11, 7, 12, 13, 46, 47, 48, 49, 50, 51, 52, 53, 54, 55, 56, 57, 58, 59, 60, 61, 62, 63, 64, 65, 66, 67, 68, 69, 70, 71, 72, 73, 74, 75, 76, 77, 78, 79, 80, 81, 82, 83, 84, 85, 86, 87] (by decide +kernel) (by decide +kernel)
set_option maxRecDepth 20000 in
theorem gX12_tells_X12_tellsBy : GoodIn wsX12_tells (wsV RX12 405 RX12 yX12_tellsBy wsX12_tellsBy) := goodIn_app (goodIn_of _ (by decide +kernel)) ggX12_tells_X12_tellsBy
theorem dX12_tells_0 : decode cX12_tells 0 = .ok (.aload_n 0, 1) := by decide +kernel
theorem dX12_tells_1 : decode cX12_tells 1 = .ok (.iload_n 1, 1) := by decide +kernel
theorem dX12_tells_2 : decode cX12_tells 2 = .ok (.invokevirtual 293, 3) := by decide +kernel
theorem dX12_tells_5 : decode cX12_tells 5 = .ok (.ifCond .ne 9, 3) := by decide +kernel
theorem dX12_tells_8 : decode cX12_tells 8 = .ok (.aload_n 0, 1) := by decide +kernel
theorem dX12_tells_9 : decode cX12_tells 9 = .ok (.iconst 1, 1) := by decide +kernel
theorem dX12_tells_10 : decode cX12_tells 10 = .ok (.invokevirtual 98, 3) := by decide +kernel
theorem dX12_tells_13 : decode cX12_tells 13 = .ok (.ireturn, 1) := by decide +kernel
theorem dX12_tells_14 : decode cX12_tells 14 = .ok (.aload_n 0, 1) := by decide +kernel
theorem dX12_tells_15 : decode cX12_tells 15 = .ok (.invokevirtual 428, 3) := by decide +kernel
theorem dX12_tells_18 : decode cX12_tells 18 = .ok (.iconst 0, 1) := by decide +kernel
theorem dX12_tells_19 : decode cX12_tells 19 = .ok (.istore_n 2, 1) := by decide +kernel
theorem dX12_tells_20 : decode cX12_tells 20 = .ok (.iconst 0, 1) := by decide +kernel
theorem dX12_tells_21 : decode cX12_tells 21 = .ok (.istore_n 3, 1) := by decide +kernel
theorem dX12_tells_22 : decode cX12_tells 22 = .ok (.iconst 0, 1) := by decide +kernel
theorem dX12_tells_23 : decode cX12_tells 23 = .ok (.istore 4, 2) := by decide +kernel
theorem dX12_tells_25 : decode cX12_tells 25 = .ok (.iload 4, 2) := by decide +kernel
theorem dX12_tells_27 : decode cX12_tells 27 = .ok (.aload_n 0, 1) := by decide +kernel
theorem dX12_tells_28 : decode cX12_tells 28 = .ok (.getfield 7, 3) := by decide +kernel
theorem dX12_tells_31 : decode cX12_tells 31 = .ok (.iconst 2, 1) := by decide +kernel
theorem dX12_tells_32 : decode cX12_tells 32 = .ok (.iaload, 1) := by decide +kernel
theorem dX12_tells_33 : decode cX12_tells 33 = .ok (.if_icmp .ge 43, 3) := by decide +kernel
theorem dX12_tells_36 : decode cX12_tells 36 = .ok (.aload_n 0, 1) := by decide +kernel
theorem dX12_tells_37 : decode cX12_tells 37 = .ok (.iload 4, 2) := by decide +kernel
theorem dX12_tells_39 : decode cX12_tells 39 = .ok (.iconst 0, 1) := by decide +kernel
theorem dX12_tells_40 : decode cX12_tells 40 = .ok (.invokevirtual 299, 3) := by decide +kernel
theorem dX12_tells_43 : decode cX12_tells 43 = .ok (.iload_n 1, 1) := by decide +kernel
theorem dX12_tells_44 : decode cX12_tells 44 = .ok (.if_icmp .eq 6, 3) := by decide +kernel
theorem dX12_tells_47 : decode cX12_tells 47 = .ok (.goto 23, 3) := by decide +kernel
theorem dX12_tells_50 : decode cX12_tells 50 = .ok (.iload_n 2, 1) := by decide +kernel
theorem dX12_tells_51 : decode cX12_tells 51 = .ok (.aload_n 0, 1) := by decide +kernel
theorem dX12_tells_52 : decode cX12_tells 52 = .ok (.getfield 54, 3) := by decide +kernel
theorem dX12_tells_55 : decode cX12_tells 55 = .ok (.iload 4, 2) := by decide +kernel
theorem dX12_tells_57 : decode cX12_tells 57 = .ok (.iaload, 1) := by decide +kernel
theorem dX12_tells_58 : decode cX12_tells 58 = .ok (.iadd, 1) := by decide +kernel
theorem dX12_tells_59 : decode cX12_tells 59 = .ok (.istore_n 2, 1) := by decide +kernel
theorem dX12_tells_60 : decode cX12_tells 60 = .ok (.iload_n 3, 1) := by decide +kernel
theorem dX12_tells_61 : decode cX12_tells 61 = .ok (.aload_n 0, 1) := by decide +kernel
theorem dX12_tells_62 : decode cX12_tells 62 = .ok (.getfield 57, 3) := by decide +kernel
theorem dX12_tells_65 : decode cX12_tells 65 = .ok (.iload 4, 2) := by decide +kernel
theorem dX12_tells_67 : decode cX12_tells 67 = .ok (.iaload, 1) := by decide +kernel
theorem dX12_tells_68 : decode cX12_tells 68 = .ok (.iadd, 1) := by decide +kernel
theorem dX12_tells_69 : decode cX12_tells 69 = .ok (.istore_n 3, 1) := by decide +kernel
theorem dX12_tells_70 : decode cX12_tells 70 = .ok (.iinc 4 1, 3) := by decide +kernel
theorem dX12_tells_73 : decode cX12_tells 73 = .ok (.goto (-48), 3) := by decide +kernel
theorem dX12_tells_76 : decode cX12_tells 76 = .ok (.iload_n 2, 1) := by decide +kernel
theorem dX12_tells_77 : decode cX12_tells 77 = .ok (.ifCond .ne 12, 3) := by decide +kernel
theorem dX12_tells_80 : decode cX12_tells 80 = .ok (.aload_n 0, 1) := by decide +kernel
theorem dX12_tells_81 : decode cX12_tells 81 = .ok (.bipush 6, 2) := by decide +kernel
theorem dX12_tells_83 : decode cX12_tells 83 = .ok (.invokevirtual 98, 3) := by decide +kernel
theorem dX12_tells_86 : decode cX12_tells 86 = .ok (.goto 11, 3) := by decide +kernel
theorem dX12_tells_89 : decode cX12_tells 89 = .ok (.aload_n 0, 1) := by decide +kernel
theorem dX12_tells_90 : decode cX12_tells 90 = .ok (.iload_n 3, 1) := by decide +kernel
theorem dX12_tells_91 : decode cX12_tells 91 = .ok (.i2l, 1) := by decide +kernel
theorem dX12_tells_92 : decode cX12_tells 92 = .ok (.iload_n 2, 1) := by decide +kernel
theorem dX12_tells_93 : decode cX12_tells 93 = .ok (.i2l, 1) := by decide +kernel
theorem dX12_tells_94 : decode cX12_tells 94 = .ok (.invokevirtual 405, 3) := by decide +kernel
theorem dX12_tells_97 : decode cX12_tells 97 = .ok (.ireturn, 1) := by decide +kernel
set_option maxRecDepth 20000 in
theorem ggX12_mute_X12_laysWorlds : GoodIn wsX12_mute wsX12_laysWorlds := goodIn_r _ [6, 1, 7, 8, 9, 10, 11, 5, 12, 13, 14, 15, 16, 17, 18, 19, 20, 21, 22, 23, 24, 25, 26, 27, 28, 29, 30, 36, 37, 38, 39, 40, 41, 42, 43, 44, 45, 46, 47, 48, 49, 50, 51, 52, 53, 54, 55, 56, 57, 58, 59, 60, 61, 62, 63, 64, 65, 66, 67, 68, 69, 70, 71, 72, 73, 74, 75, 76, 77] (by decide +kernel) (by decide +kernel)
set_option maxRecDepth 20000 in
theorem gX12_mute_X12_laysWorlds : GoodIn wsX12_mute (wsV RX12 428 RX12 yX12_laysWorlds wsX12_laysWorlds) := goodIn_app (goodIn_of _ (by decide +kernel)) ggX12_mute_X12_laysWorlds
set_option maxRecDepth 20000 in
theorem ggX12_mute_X12_gives : GoodIn wsX12_mute wsX12_gives := goodIn_r _ [34, 35, 36, 37, 38, 39, 40, 41, 42, 43, 44, 45, 46, 47, 48, 49, 50, 51, 52, 53, 54, 55, 56, 57, 58, 59, 60, 61, 62, 63, 64, 65, 66, 67, 68, 69, 70, 71, 72, 73, 74, 75, 76, 77] (by decide +kernel) (by decide +kernel)
set_option maxRecDepth 20000 in
theorem gX12_mute_X12_gives : GoodIn wsX12_mute (wsV RX12 95 RX12 yX12_gives wsX12_gives) := goodIn_app (goodIn_of _ (by decide +kernel)) ggX12_mute_X12_gives
theorem dX12_mute_0 : decode cX12_mute 0 = .ok (.aload_n 0, 1) := by decide +kernel
theorem dX12_mute_1 : decode cX12_mute 1 = .ok (.invokevirtual 428, 3) := by decide +kernel
theorem dX12_mute_4 : decode cX12_mute 4 = .ok (.aload_n 0, 1) := by decide +kernel
theorem dX12_mute_5 : decode cX12_mute 5 = .ok (.aload_n 0, 1) := by decide +kernel
theorem dX12_mute_6 : decode cX12_mute 6 = .ok (.getfield 54, 3) := by decide +kernel
theorem dX12_mute_9 : decode cX12_mute 9 = .ok (.bipush 8, 2) := by decide +kernel
theorem dX12_mute_11 : decode cX12_mute 11 = .ok (.iaload, 1) := by decide +kernel
theorem dX12_mute_12 : decode cX12_mute 12 = .ok (.invokevirtual 95, 3) := by decide +kernel
theorem dX12_mute_15 : decode cX12_mute 15 = .ok (.ireturn, 1) := by decide +kernel
set_option maxRecDepth 20000 in
theorem ggX12_rightOf_X12_isIn : GoodIn wsX12_rightOf wsX12_isIn := goodIn_r _ [6] (by decide +kernel) (by decide +kernel)
set_option maxRecDepth 20000 in
theorem gX12_rightOf_X12_isIn : GoodIn wsX12_rightOf (wsV RX12 315 RX12 yX12_isIn wsX12_isIn) := goodIn_app (goodIn_of _ (by decide +kernel)) ggX12_rightOf_X12_isIn
set_option maxRecDepth 20000 in
theorem ggX12_rightOf_X12_slipOf : GoodIn wsX12_rightOf wsX12_slipOf := goodIn_r _ [10, 1, 15, 16, 17, 18, 19, 20, 21, 22, 23, 24, 25, 26, 27, 28, 29, 30, 31, 32, 33, 34, 35, 36, 37, 38, 39, 40, 41, 42, 43, 44, 45, 46, 47, 48, 49, 50, 51, 52, 53, 54, 55, 56] (by decide +kernel) (by decide +kernel)
set_option maxRecDepth 20000 in
theorem gX12_rightOf_X12_slipOf : GoodIn wsX12_rightOf (wsV RX12 312 RX12 yX12_slipOf wsX12_slipOf) := goodIn_app (goodIn_of _ (by decide +kernel)) ggX12_rightOf_X12_slipOf
set_option maxRecDepth 20000 in
theorem ggX12_rightOf_X12_votesOf : GoodIn wsX12_rightOf wsX12_votesOf := goodIn_r _ [14, 1, 15, 16, 17, 18, 19, 20, 21, 22, 23, 24, 25, 26, 27, 28, 29, 30, 31, 32, 33, 34, 35, 36, 37, 38, 39, 40, 41, 42, 43, 44, 45, 46, 47, 48, 49, 50, 51, 52, 53, 54, 55, 56] (by decide +kernel) (by decide +kernel)
set_option maxRecDepth 20000 in
theorem gX12_rightOf_X12_votesOf : GoodIn wsX12_rightOf (wsV RX12 284 RX12 yX12_votesOf wsX12_votesOf) := goodIn_app (goodIn_of _ (by decide +kernel)) ggX12_rightOf_X12_votesOf
theorem dX12_rightOf_0 : decode cX12_rightOf 0 = .ok (.lconst 0, 1) := by decide +kernel
theorem dX12_rightOf_1 : decode cX12_rightOf 1 = .ok (.lstore_n 2, 1) := by decide +kernel
theorem dX12_rightOf_2 : decode cX12_rightOf 2 = .ok (.iconst 0, 1) := by decide +kernel
theorem dX12_rightOf_3 : decode cX12_rightOf 3 = .ok (.istore 4, 2) := by decide +kernel
theorem dX12_rightOf_5 : decode cX12_rightOf 5 = .ok (.iload 4, 2) := by decide +kernel
theorem dX12_rightOf_7 : decode cX12_rightOf 7 = .ok (.iconst 1, 1) := by decide +kernel
theorem dX12_rightOf_8 : decode cX12_rightOf 8 = .ok (.aload_n 0, 1) := by decide +kernel
theorem dX12_rightOf_9 : decode cX12_rightOf 9 = .ok (.getfield 7, 3) := by decide +kernel
theorem dX12_rightOf_12 : decode cX12_rightOf 12 = .ok (.iconst 4, 1) := by decide +kernel
theorem dX12_rightOf_13 : decode cX12_rightOf 13 = .ok (.iaload, 1) := by decide +kernel
theorem dX12_rightOf_14 : decode cX12_rightOf 14 = .ok (.ishl, 1) := by decide +kernel
theorem dX12_rightOf_15 : decode cX12_rightOf 15 = .ok (.if_icmp .ge 140, 3) := by decide +kernel
theorem dX12_rightOf_18 : decode cX12_rightOf 18 = .ok (.iload 4, 2) := by decide +kernel
theorem dX12_rightOf_20 : decode cX12_rightOf 20 = .ok (.iload_n 1, 1) := by decide +kernel
theorem dX12_rightOf_21 : decode cX12_rightOf 21 = .ok (.iconst (-1), 1) := by decide +kernel
theorem dX12_rightOf_22 : decode cX12_rightOf 22 = .ok (.ixor, 1) := by decide +kernel
theorem dX12_rightOf_23 : decode cX12_rightOf 23 = .ok (.iand, 1) := by decide +kernel
theorem dX12_rightOf_24 : decode cX12_rightOf 24 = .ok (.ifCond .eq 6, 3) := by decide +kernel
theorem dX12_rightOf_27 : decode cX12_rightOf 27 = .ok (.goto 122, 3) := by decide +kernel
theorem dX12_rightOf_30 : decode cX12_rightOf 30 = .ok (.lconst 1, 1) := by decide +kernel
theorem dX12_rightOf_31 : decode cX12_rightOf 31 = .ok (.lstore 5, 2) := by decide +kernel
theorem dX12_rightOf_33 : decode cX12_rightOf 33 = .ok (.iconst 0, 1) := by decide +kernel
theorem dX12_rightOf_34 : decode cX12_rightOf 34 = .ok (.istore 7, 2) := by decide +kernel
theorem dX12_rightOf_36 : decode cX12_rightOf 36 = .ok (.iconst 0, 1) := by decide +kernel
theorem dX12_rightOf_37 : decode cX12_rightOf 37 = .ok (.istore 8, 2) := by decide +kernel
theorem dX12_rightOf_39 : decode cX12_rightOf 39 = .ok (.iload 8, 2) := by decide +kernel
theorem dX12_rightOf_41 : decode cX12_rightOf 41 = .ok (.aload_n 0, 1) := by decide +kernel
theorem dX12_rightOf_42 : decode cX12_rightOf 42 = .ok (.getfield 7, 3) := by decide +kernel
theorem dX12_rightOf_45 : decode cX12_rightOf 45 = .ok (.iconst 4, 1) := by decide +kernel
theorem dX12_rightOf_46 : decode cX12_rightOf 46 = .ok (.iaload, 1) := by decide +kernel
theorem dX12_rightOf_47 : decode cX12_rightOf 47 = .ok (.if_icmp .ge 88, 3) := by decide +kernel
theorem dX12_rightOf_50 : decode cX12_rightOf 50 = .ok (.aload_n 0, 1) := by decide +kernel
theorem dX12_rightOf_51 : decode cX12_rightOf 51 = .ok (.iload_n 1, 1) := by decide +kernel
theorem dX12_rightOf_52 : decode cX12_rightOf 52 = .ok (.iload 8, 2) := by decide +kernel
theorem dX12_rightOf_54 : decode cX12_rightOf 54 = .ok (.invokevirtual 315, 3) := by decide +kernel
theorem dX12_rightOf_57 : decode cX12_rightOf 57 = .ok (.ifCond .ne 6, 3) := by decide +kernel
theorem dX12_rightOf_60 : decode cX12_rightOf 60 = .ok (.goto 69, 3) := by decide +kernel
theorem dX12_rightOf_63 : decode cX12_rightOf 63 = .ok (.aload_n 0, 1) := by decide +kernel
theorem dX12_rightOf_64 : decode cX12_rightOf 64 = .ok (.iload 4, 2) := by decide +kernel
theorem dX12_rightOf_66 : decode cX12_rightOf 66 = .ok (.iload 8, 2) := by decide +kernel
theorem dX12_rightOf_68 : decode cX12_rightOf 68 = .ok (.invokevirtual 315, 3) := by decide +kernel
theorem dX12_rightOf_71 : decode cX12_rightOf 71 = .ok (.istore 9, 2) := by decide +kernel
theorem dX12_rightOf_73 : decode cX12_rightOf 73 = .ok (.lload 5, 2) := by decide +kernel
theorem dX12_rightOf_75 : decode cX12_rightOf 75 = .ok (.iload 9, 2) := by decide +kernel
theorem dX12_rightOf_77 : decode cX12_rightOf 77 = .ok (.ifCond .eq 16, 3) := by decide +kernel
theorem dX12_rightOf_80 : decode cX12_rightOf 80 = .ok (.bipush 16, 2) := by decide +kernel
theorem dX12_rightOf_82 : decode cX12_rightOf 82 = .ok (.aload_n 0, 1) := by decide +kernel
theorem dX12_rightOf_83 : decode cX12_rightOf 83 = .ok (.iload 8, 2) := by decide +kernel
theorem dX12_rightOf_85 : decode cX12_rightOf 85 = .ok (.invokevirtual 312, 3) := by decide +kernel
theorem dX12_rightOf_88 : decode cX12_rightOf 88 = .ok (.isub, 1) := by decide +kernel
theorem dX12_rightOf_89 : decode cX12_rightOf 89 = .ok (.i2l, 1) := by decide +kernel
theorem dX12_rightOf_90 : decode cX12_rightOf 90 = .ok (.goto 10, 3) := by decide +kernel
theorem dX12_rightOf_93 : decode cX12_rightOf 93 = .ok (.aload_n 0, 1) := by decide +kernel
theorem dX12_rightOf_94 : decode cX12_rightOf 94 = .ok (.iload 8, 2) := by decide +kernel
theorem dX12_rightOf_96 : decode cX12_rightOf 96 = .ok (.invokevirtual 312, 3) := by decide +kernel
theorem dX12_rightOf_99 : decode cX12_rightOf 99 = .ok (.i2l, 1) := by decide +kernel
theorem dX12_rightOf_100 : decode cX12_rightOf 100 = .ok (.lmul, 1) := by decide +kernel
theorem dX12_rightOf_101 : decode cX12_rightOf 101 = .ok (.lstore 5, 2) := by decide +kernel
theorem dX12_rightOf_103 : decode cX12_rightOf 103 = .ok (.iload 7, 2) := by decide +kernel
theorem dX12_rightOf_105 : decode cX12_rightOf 105 = .ok (.iload 9, 2) := by decide +kernel
theorem dX12_rightOf_107 : decode cX12_rightOf 107 = .ok (.ifCond .eq 12, 3) := by decide +kernel
theorem dX12_rightOf_110 : decode cX12_rightOf 110 = .ok (.aload_n 0, 1) := by decide +kernel
theorem dX12_rightOf_111 : decode cX12_rightOf 111 = .ok (.iload 8, 2) := by decide +kernel
theorem dX12_rightOf_113 : decode cX12_rightOf 113 = .ok (.invokevirtual 284, 3) := by decide +kernel
theorem dX12_rightOf_116 : decode cX12_rightOf 116 = .ok (.goto 10, 3) := by decide +kernel
theorem dX12_rightOf_119 : decode cX12_rightOf 119 = .ok (.aload_n 0, 1) := by decide +kernel
theorem dX12_rightOf_120 : decode cX12_rightOf 120 = .ok (.iload 8, 2) := by decide +kernel
theorem dX12_rightOf_122 : decode cX12_rightOf 122 = .ok (.invokevirtual 284, 3) := by decide +kernel
theorem dX12_rightOf_125 : decode cX12_rightOf 125 = .ok (.ineg, 1) := by decide +kernel
theorem dX12_rightOf_126 : decode cX12_rightOf 126 = .ok (.iadd, 1) := by decide +kernel
theorem dX12_rightOf_127 : decode cX12_rightOf 127 = .ok (.istore 7, 2) := by decide +kernel
theorem dX12_rightOf_129 : decode cX12_rightOf 129 = .ok (.iinc 8 1, 3) := by decide +kernel
theorem dX12_rightOf_132 : decode cX12_rightOf 132 = .ok (.goto (-93), 3) := by decide +kernel
theorem dX12_rightOf_135 : decode cX12_rightOf 135 = .ok (.lload_n 2, 1) := by decide +kernel
theorem dX12_rightOf_136 : decode cX12_rightOf 136 = .ok (.iload 7, 2) := by decide +kernel
theorem dX12_rightOf_138 : decode cX12_rightOf 138 = .ok (.ifCond .le 8, 3) := by decide +kernel
theorem dX12_rightOf_141 : decode cX12_rightOf 141 = .ok (.lload 5, 2) := by decide +kernel
theorem dX12_rightOf_143 : decode cX12_rightOf 143 = .ok (.goto 4, 3) := by decide +kernel
theorem dX12_rightOf_146 : decode cX12_rightOf 146 = .ok (.lconst 0, 1) := by decide +kernel
theorem dX12_rightOf_147 : decode cX12_rightOf 147 = .ok (.ladd, 1) := by decide +kernel
theorem dX12_rightOf_148 : decode cX12_rightOf 148 = .ok (.lstore_n 2, 1) := by decide +kernel
theorem dX12_rightOf_149 : decode cX12_rightOf 149 = .ok (.iinc 4 1, 3) := by decide +kernel
theorem dX12_rightOf_152 : decode cX12_rightOf 152 = .ok (.goto (-147), 3) := by decide +kernel
theorem dX12_rightOf_155 : decode cX12_rightOf 155 = .ok (.lload_n 2, 1) := by decide +kernel
theorem dX12_rightOf_156 : decode cX12_rightOf 156 = .ok (.lreturn, 1) := by decide +kernel
set_option maxRecDepth 20000 in
theorem ggX12_verdict_X12_isFrom : GoodIn wsX12_verdict wsX12_isFrom := goodIn_r _ [5] (by decide +kernel) (by decide +kernel)
set_option maxRecDepth 20000 in
theorem gX12_verdict_X12_isFrom : GoodIn wsX12_verdict (va_wsS RX12 337 yX12_isFrom wsX12_isFrom) := goodIn_app (goodIn_of _ (by decide +kernel)) ggX12_verdict_X12_isFrom
set_option maxRecDepth 20000 in
theorem ggX12_verdict_X12_is : GoodIn wsX12_verdict wsX12_is := goodIn_r _ [9, 10, 36, 37, 38, 39, 40, 41, 42, 43, 44, 45, 46, 47, 48, 49, 50, 51, 52, 53, 54, 55, 56, 57, 58, 59, 60, 61, 62, 63, 64, 65, 66, 67, 68, 69, 70, 71, 72, 73, 74, 75, 76, 77] (by decide +kernel) (by decide +kernel)
set_option maxRecDepth 20000 in
theorem gX12_verdict_X12_is : GoodIn wsX12_verdict (wsV RX12 98 RX12 yX12_is wsX12_is) := goodIn_app (goodIn_of _ (by decide +kernel)) ggX12_verdict_X12_is
set_option maxRecDepth 20000 in
theorem ggX12_verdict_X12_rightOf : GoodIn wsX12_verdict wsX12_rightOf := goodIn_r _ [14, 1, 15, 16, 17, 4, 18, 19, 20, 21, 22, 23, 24, 25, 26, 36, 37, 38, 39, 40, 41, 42, 43, 44, 45, 46, 47, 48, 49, 50, 51, 52, 53, 54, 55, 56, 57, 58, 59, 60, 61, 62, 63, 64, 65, 66, 67, 68, 69, 70, 71, 72, 73, 74, 75, 76, 77] (by decide +kernel) (by decide +kernel)
set_option maxRecDepth 20000 in
theorem gX12_verdict_X12_rightOf : GoodIn wsX12_verdict (wsV RX12 431 RX12 yX12_rightOf wsX12_rightOf) := goodIn_app (goodIn_of _ (by decide +kernel)) ggX12_verdict_X12_rightOf
set_option maxRecDepth 20000 in
theorem ggX12_verdict_X12_bits : GoodIn wsX12_verdict wsX12_bits := goodIn_r _ [29] (by decide +kernel) (by decide +kernel)
set_option maxRecDepth 20000 in
theorem gX12_verdict_X12_bits : GoodIn wsX12_verdict (va_wsS RX12 344 yX12_bits wsX12_bits) := goodIn_app (goodIn_of _ (by decide +kernel)) ggX12_verdict_X12_bits
set_option maxRecDepth 20000 in
theorem ggX12_verdict_X12_tellsBy : GoodIn wsX12_verdict wsX12_tellsBy := goodIn_r _ [33, 34, 35, 6, 7, 8, 4, 9, 10, 36, 37, 38, 39, 40, 41, 42, 43, 44, 45, 46, 47, 48, 49, 50, 51, 52, 53, 54, 55, 56, 57, 58, 59, 60, 61, 62, 63, 64, 65, 66, 67, 68, 69, 70, 71, 72, 73, 74, 75, 76, 77] (by decide +kernel) (by decide +kernel)
set_option maxRecDepth 20000 in
theorem gX12_verdict_X12_tellsBy : GoodIn wsX12_verdict (wsV RX12 405 RX12 yX12_tellsBy wsX12_tellsBy) := goodIn_app (goodIn_of _ (by decide +kernel)) ggX12_verdict_X12_tellsBy
theorem dX12_verdict_0 : decode cX12_verdict 0 = .ok (.iload_n 1, 1) := by decide +kernel
theorem dX12_verdict_1 : decode cX12_verdict 1 = .ok (.i2l, 1) := by decide +kernel
theorem dX12_verdict_2 : decode cX12_verdict 2 = .ok (.lconst 1, 1) := by decide +kernel
theorem dX12_verdict_3 : decode cX12_verdict 3 = .ok (.lconst 1, 1) := by decide +kernel
theorem dX12_verdict_4 : decode cX12_verdict 4 = .ok (.aload_n 0, 1) := by decide +kernel
theorem dX12_verdict_5 : decode cX12_verdict 5 = .ok (.getfield 7, 3) := by decide +kernel
theorem dX12_verdict_8 : decode cX12_verdict 8 = .ok (.iconst 4, 1) := by decide +kernel
theorem dX12_verdict_9 : decode cX12_verdict 9 = .ok (.iaload, 1) := by decide +kernel
theorem dX12_verdict_10 : decode cX12_verdict 10 = .ok (.lshl, 1) := by decide +kernel
theorem dX12_verdict_11 : decode cX12_verdict 11 = .ok (.lconst 1, 1) := by decide +kernel
theorem dX12_verdict_12 : decode cX12_verdict 12 = .ok (.lsub, 1) := by decide +kernel
theorem dX12_verdict_13 : decode cX12_verdict 13 = .ok (.invokestatic 337, 3) := by decide +kernel
theorem dX12_verdict_16 : decode cX12_verdict 16 = .ok (.ifCond .ne 9, 3) := by decide +kernel
theorem dX12_verdict_19 : decode cX12_verdict 19 = .ok (.aload_n 0, 1) := by decide +kernel
theorem dX12_verdict_20 : decode cX12_verdict 20 = .ok (.iconst 1, 1) := by decide +kernel
theorem dX12_verdict_21 : decode cX12_verdict 21 = .ok (.invokevirtual 98, 3) := by decide +kernel
theorem dX12_verdict_24 : decode cX12_verdict 24 = .ok (.ireturn, 1) := by decide +kernel
theorem dX12_verdict_25 : decode cX12_verdict 25 = .ok (.aload_n 0, 1) := by decide +kernel
theorem dX12_verdict_26 : decode cX12_verdict 26 = .ok (.aload_n 0, 1) := by decide +kernel
theorem dX12_verdict_27 : decode cX12_verdict 27 = .ok (.iload_n 1, 1) := by decide +kernel
theorem dX12_verdict_28 : decode cX12_verdict 28 = .ok (.invokevirtual 431, 3) := by decide +kernel
theorem dX12_verdict_31 : decode cX12_verdict 31 = .ok (.lconst 1, 1) := by decide +kernel
theorem dX12_verdict_32 : decode cX12_verdict 32 = .ok (.iconst 4, 1) := by decide +kernel
theorem dX12_verdict_33 : decode cX12_verdict 33 = .ok (.iload_n 1, 1) := by decide +kernel
theorem dX12_verdict_34 : decode cX12_verdict 34 = .ok (.invokestatic 344, 3) := by decide +kernel
theorem dX12_verdict_37 : decode cX12_verdict 37 = .ok (.imul, 1) := by decide +kernel
theorem dX12_verdict_38 : decode cX12_verdict 38 = .ok (.lshl, 1) := by decide +kernel
theorem dX12_verdict_39 : decode cX12_verdict 39 = .ok (.invokevirtual 405, 3) := by decide +kernel
theorem dX12_verdict_42 : decode cX12_verdict 42 = .ok (.ireturn, 1) := by decide +kernel
set_option maxRecDepth 20000 in
theorem ggX12_sworn_X12_isFrom : GoodIn wsX12_sworn wsX12_isFrom := goodIn_r _ [7] (by decide +kernel) (by decide +kernel)
set_option maxRecDepth 20000 in
theorem gX12_sworn_X12_isFrom : GoodIn wsX12_sworn (va_wsS RX12 337 yX12_isFrom wsX12_isFrom) := goodIn_app (goodIn_of _ (by decide +kernel)) ggX12_sworn_X12_isFrom
set_option maxRecDepth 20000 in
theorem ggX12_sworn_X12_refuse : GoodIn wsX12_sworn wsX12_refuse := goodIn_r _ [11, 12, 40, 41, 42, 43, 44, 45, 46, 47, 48, 49, 50, 51, 52, 53, 54, 55, 56, 57, 58, 59, 60, 61, 62, 63, 64, 65, 66, 67, 68, 69, 70, 71, 72, 73, 74, 75, 76, 77, 78, 79, 80, 81] (by decide +kernel) (by decide +kernel)
set_option maxRecDepth 20000 in
theorem gX12_sworn_X12_refuse : GoodIn wsX12_sworn (wsV RX12 91 RX12 yX12_refuse wsX12_refuse) := goodIn_app (goodIn_of _ (by decide +kernel)) ggX12_sworn_X12_refuse
set_option maxRecDepth 20000 in
theorem ggX12_sworn_X12_bits : GoodIn wsX12_sworn wsX12_bits := goodIn_r _ [15] (by decide +kernel) (by decide +kernel)
set_option maxRecDepth 20000 in
theorem gX12_sworn_X12_bits : GoodIn wsX12_sworn (va_wsS RX12 344 yX12_bits wsX12_bits) := goodIn_app (goodIn_of _ (by decide +kernel)) ggX12_sworn_X12_bits
set_option maxRecDepth 20000 in
theorem ggX12_sworn_X12_rightOf : GoodIn wsX12_sworn wsX12_rightOf := goodIn_r _ [19, 3, 20, 21, 22, 6, 23, 24, 25, 26, 27, 28, 29, 30, 31, 40, 41, 42, 43, 44, 45, 46, 47, 48, 49, 50, 51, 52, 53, 54, 55, 56, 57, 58, 59, 60, 61, 62, 63, 64, 65, 66, 67, 68, 69, 70, 71, 72, 73, 74, 75, 76, 77, 78, 79, 80, 81] (by decide +kernel) (by decide +kernel)
set_option maxRecDepth 20000 in
theorem gX12_sworn_X12_rightOf : GoodIn wsX12_sworn (wsV RX12 431 RX12 yX12_rightOf wsX12_rightOf) := goodIn_app (goodIn_of _ (by decide +kernel)) ggX12_sworn_X12_rightOf
set_option maxRecDepth 20000 in
theorem ggX12_sworn_X12_orNone : GoodIn wsX12_sworn wsX12_orNone := goodIn_r _ [35, 8, 9, 10, 6, 11, 12, 36, 37, 38, 39, 40, 41, 42, 43, 44, 45, 46, 47, 48, 49, 50, 51, 52, 53, 54, 55, 56, 57, 58, 59, 60, 61, 62, 63, 64, 65, 66, 67, 68, 69, 70, 71, 72, 73, 74, 75, 76, 77, 78, 79, 80, 81] (by decide +kernel) (by decide +kernel)
set_option maxRecDepth 20000 in
theorem gX12_sworn_X12_orNone : GoodIn wsX12_sworn (wsV RX12 302 RX12 yX12_orNone wsX12_orNone) := goodIn_app (goodIn_of _ (by decide +kernel)) ggX12_sworn_X12_orNone
theorem dX12_sworn_0 : decode cX12_sworn 0 = .ok (.iload_n 1, 1) := by decide +kernel
theorem dX12_sworn_1 : decode cX12_sworn 1 = .ok (.i2l, 1) := by decide +kernel
theorem dX12_sworn_2 : decode cX12_sworn 2 = .ok (.lconst 1, 1) := by decide +kernel
theorem dX12_sworn_3 : decode cX12_sworn 3 = .ok (.ldc2_w 435, 3) := by decide +kernel
theorem dX12_sworn_6 : decode cX12_sworn 6 = .ok (.invokestatic 337, 3) := by decide +kernel
theorem dX12_sworn_9 : decode cX12_sworn 9 = .ok (.ifCond .ne 9, 3) := by decide +kernel
theorem dX12_sworn_12 : decode cX12_sworn 12 = .ok (.aload_n 0, 1) := by decide +kernel
theorem dX12_sworn_13 : decode cX12_sworn 13 = .ok (.iconst 1, 1) := by decide +kernel
theorem dX12_sworn_14 : decode cX12_sworn 14 = .ok (.invokevirtual 91, 3) := by decide +kernel
theorem dX12_sworn_17 : decode cX12_sworn 17 = .ok (.ireturn, 1) := by decide +kernel
theorem dX12_sworn_18 : decode cX12_sworn 18 = .ok (.iconst (-1), 1) := by decide +kernel
theorem dX12_sworn_19 : decode cX12_sworn 19 = .ok (.istore_n 2, 1) := by decide +kernel
theorem dX12_sworn_20 : decode cX12_sworn 20 = .ok (.ldc2_w 113, 3) := by decide +kernel
theorem dX12_sworn_23 : decode cX12_sworn 23 = .ok (.lstore_n 3, 1) := by decide +kernel
theorem dX12_sworn_24 : decode cX12_sworn 24 = .ok (.iconst 1, 1) := by decide +kernel
theorem dX12_sworn_25 : decode cX12_sworn 25 = .ok (.istore 5, 2) := by decide +kernel
theorem dX12_sworn_27 : decode cX12_sworn 27 = .ok (.iload 5, 2) := by decide +kernel
theorem dX12_sworn_29 : decode cX12_sworn 29 = .ok (.iconst 1, 1) := by decide +kernel
theorem dX12_sworn_30 : decode cX12_sworn 30 = .ok (.aload_n 0, 1) := by decide +kernel
theorem dX12_sworn_31 : decode cX12_sworn 31 = .ok (.getfield 7, 3) := by decide +kernel
theorem dX12_sworn_34 : decode cX12_sworn 34 = .ok (.iconst 4, 1) := by decide +kernel
theorem dX12_sworn_35 : decode cX12_sworn 35 = .ok (.iaload, 1) := by decide +kernel
theorem dX12_sworn_36 : decode cX12_sworn 36 = .ok (.ishl, 1) := by decide +kernel
theorem dX12_sworn_37 : decode cX12_sworn 37 = .ok (.if_icmp .ge 45, 3) := by decide +kernel
theorem dX12_sworn_40 : decode cX12_sworn 40 = .ok (.iload 5, 2) := by decide +kernel
theorem dX12_sworn_42 : decode cX12_sworn 42 = .ok (.invokestatic 344, 3) := by decide +kernel
theorem dX12_sworn_45 : decode cX12_sworn 45 = .ok (.iload_n 1, 1) := by decide +kernel
theorem dX12_sworn_46 : decode cX12_sworn 46 = .ok (.if_icmp .eq 6, 3) := by decide +kernel
theorem dX12_sworn_49 : decode cX12_sworn 49 = .ok (.goto 27, 3) := by decide +kernel
theorem dX12_sworn_52 : decode cX12_sworn 52 = .ok (.aload_n 0, 1) := by decide +kernel
theorem dX12_sworn_53 : decode cX12_sworn 53 = .ok (.iload 5, 2) := by decide +kernel
theorem dX12_sworn_55 : decode cX12_sworn 55 = .ok (.invokevirtual 431, 3) := by decide +kernel
theorem dX12_sworn_58 : decode cX12_sworn 58 = .ok (.lstore 6, 2) := by decide +kernel
theorem dX12_sworn_60 : decode cX12_sworn 60 = .ok (.lload 6, 2) := by decide +kernel
theorem dX12_sworn_62 : decode cX12_sworn 62 = .ok (.lload_n 3, 1) := by decide +kernel
theorem dX12_sworn_63 : decode cX12_sworn 63 = .ok (.lcmp, 1) := by decide +kernel
theorem dX12_sworn_64 : decode cX12_sworn 64 = .ok (.ifCond .gt 6, 3) := by decide +kernel
theorem dX12_sworn_67 : decode cX12_sworn 67 = .ok (.goto 9, 3) := by decide +kernel
theorem dX12_sworn_70 : decode cX12_sworn 70 = .ok (.lload 6, 2) := by decide +kernel
theorem dX12_sworn_72 : decode cX12_sworn 72 = .ok (.lstore_n 3, 1) := by decide +kernel
theorem dX12_sworn_73 : decode cX12_sworn 73 = .ok (.iload 5, 2) := by decide +kernel
theorem dX12_sworn_75 : decode cX12_sworn 75 = .ok (.istore_n 2, 1) := by decide +kernel
theorem dX12_sworn_76 : decode cX12_sworn 76 = .ok (.iinc 5 1, 3) := by decide +kernel
theorem dX12_sworn_79 : decode cX12_sworn 79 = .ok (.goto (-52), 3) := by decide +kernel
theorem dX12_sworn_82 : decode cX12_sworn 82 = .ok (.aload_n 0, 1) := by decide +kernel
theorem dX12_sworn_83 : decode cX12_sworn 83 = .ok (.iload_n 2, 1) := by decide +kernel
theorem dX12_sworn_84 : decode cX12_sworn 84 = .ok (.invokevirtual 302, 3) := by decide +kernel
theorem dX12_sworn_87 : decode cX12_sworn 87 = .ok (.ireturn, 1) := by decide +kernel
theorem dX12_orders_0 : decode cX12_orders 0 = .ok (.lconst 1, 1) := by decide +kernel
theorem dX12_orders_1 : decode cX12_orders 1 = .ok (.lstore_n 1, 1) := by decide +kernel
theorem dX12_orders_2 : decode cX12_orders 2 = .ok (.iconst 2, 1) := by decide +kernel
theorem dX12_orders_3 : decode cX12_orders 3 = .ok (.istore_n 3, 1) := by decide +kernel
theorem dX12_orders_4 : decode cX12_orders 4 = .ok (.iload_n 3, 1) := by decide +kernel
theorem dX12_orders_5 : decode cX12_orders 5 = .ok (.iload_n 0, 1) := by decide +kernel
theorem dX12_orders_6 : decode cX12_orders 6 = .ok (.if_icmp .gt 14, 3) := by decide +kernel
theorem dX12_orders_9 : decode cX12_orders 9 = .ok (.lload_n 1, 1) := by decide +kernel
theorem dX12_orders_10 : decode cX12_orders 10 = .ok (.iload_n 3, 1) := by decide +kernel
theorem dX12_orders_11 : decode cX12_orders 11 = .ok (.i2l, 1) := by decide +kernel
theorem dX12_orders_12 : decode cX12_orders 12 = .ok (.lmul, 1) := by decide +kernel
theorem dX12_orders_13 : decode cX12_orders 13 = .ok (.lstore_n 1, 1) := by decide +kernel
theorem dX12_orders_14 : decode cX12_orders 14 = .ok (.iinc 3 1, 3) := by decide +kernel
theorem dX12_orders_17 : decode cX12_orders 17 = .ok (.goto (-13), 3) := by decide +kernel
theorem dX12_orders_20 : decode cX12_orders 20 = .ok (.lload_n 1, 1) := by decide +kernel
theorem dX12_orders_21 : decode cX12_orders 21 = .ok (.lreturn, 1) := by decide +kernel
set_option maxRecDepth 20000 in
theorem ggX12_power_X12_isReader : GoodIn wsX12_power wsX12_isReader := goodIn_r _ [6, 1, 36, 37, 38, 39, 40, 41, 42, 43, 44, 45, 46, 47, 48, 49, 50, 51, 52, 53, 54, 55, 56, 57, 58, 59, 60, 61, 62, 63, 64, 65, 66, 67, 68, 69, 70, 71, 72, 73, 74, 75, 76, 77] (by decide +kernel) (by decide +kernel)
set_option maxRecDepth 20000 in
theorem gX12_power_X12_isReader : GoodIn wsX12_power (wsV RX12 309 RX12 yX12_isReader wsX12_isReader) := goodIn_app (goodIn_of _ (by decide +kernel)) ggX12_power_X12_isReader
set_option maxRecDepth 20000 in
theorem ggX12_power_X12_is : GoodIn wsX12_power wsX12_is := goodIn_r _ [10, 11, 36, 37, 38, 39, 40, 41, 42, 43, 44, 45, 46, 47, 48, 49, 50, 51, 52, 53, 54, 55, 56, 57, 58, 59, 60, 61, 62, 63, 64, 65, 66, 67, 68, 69, 70, 71, 72, 73, 74, 75, 76, 77] (by decide +kernel) (by decide +kernel)
set_option maxRecDepth 20000 in
theorem gX12_power_X12_is : GoodIn wsX12_power (wsV RX12 98 RX12 yX12_is wsX12_is) := goodIn_app (goodIn_of _ (by decide +kernel)) ggX12_power_X12_is
set_option maxRecDepth 20000 in
theorem ggX12_power_X12_isIn : GoodIn wsX12_power wsX12_isIn := goodIn_r _ [15] (by decide +kernel) (by decide +kernel)
set_option maxRecDepth 20000 in
theorem gX12_power_X12_isIn : GoodIn wsX12_power (wsV RX12 315 RX12 yX12_isIn wsX12_isIn) := goodIn_app (goodIn_of _ (by decide +kernel)) ggX12_power_X12_isIn
set_option maxRecDepth 20000 in
theorem ggX12_power_X12_votesOf : GoodIn wsX12_power wsX12_votesOf := goodIn_r _ [19, 1, 36, 37, 38, 39, 40, 41, 42, 43, 44, 45, 46, 47, 48, 49, 50, 51, 52, 53, 54, 55, 56, 57, 58, 59, 60, 61, 62, 63, 64, 65, 66, 67, 68, 69, 70, 71, 72, 73, 74, 75, 76, 77] (by decide +kernel) (by decide +kernel)
set_option maxRecDepth 20000 in
theorem gX12_power_X12_votesOf : GoodIn wsX12_power (wsV RX12 284 RX12 yX12_votesOf wsX12_votesOf) := goodIn_app (goodIn_of _ (by decide +kernel)) ggX12_power_X12_votesOf
set_option maxRecDepth 20000 in
theorem ggX12_power_X12_allVotes : GoodIn wsX12_power wsX12_allVotes := goodIn_r _ [23, 1, 16, 17, 18, 5, 19, 36, 37, 38, 39, 40, 41, 42, 43, 44, 45, 46, 47, 48, 49, 50, 51, 52, 53, 54, 55, 56, 57, 58, 59, 60, 61, 62, 63, 64, 65, 66, 67, 68, 69, 70, 71, 72, 73, 74, 75, 76, 77] (by decide +kernel) (by decide +kernel)
set_option maxRecDepth 20000 in
theorem gX12_power_X12_allVotes : GoodIn wsX12_power (wsV RX12 287 RX12 yX12_allVotes wsX12_allVotes) := goodIn_app (goodIn_of _ (by decide +kernel)) ggX12_power_X12_allVotes
set_option maxRecDepth 20000 in
theorem ggX12_power_X12_bits : GoodIn wsX12_power wsX12_bits := goodIn_r _ [26] (by decide +kernel) (by decide +kernel)
set_option maxRecDepth 20000 in
theorem gX12_power_X12_bits : GoodIn wsX12_power (va_wsS RX12 344 yX12_bits wsX12_bits) := goodIn_app (goodIn_of _ (by decide +kernel)) ggX12_power_X12_bits
set_option maxRecDepth 20000 in
theorem ggX12_power_X12_orders : GoodIn wsX12_power wsX12_orders := goodIn_r _ [29] (by decide +kernel) (by decide +kernel)
set_option maxRecDepth 20000 in
theorem gX12_power_X12_orders : GoodIn wsX12_power (va_wsS RX12 437 yX12_orders wsX12_orders) := goodIn_app (goodIn_of _ (by decide +kernel)) ggX12_power_X12_orders
set_option maxRecDepth 20000 in
theorem ggX12_power_X12_tellsBy : GoodIn wsX12_power wsX12_tellsBy := goodIn_r _ [33, 34, 35, 7, 8, 9, 5, 10, 11, 36, 37, 38, 39, 40, 41, 42, 43, 44, 45, 46, 47, 48, 49, 50, 51, 52, 53, 54, 55, 56, 57, 58, 59, 60, 61, 62, 63, 64, 65, 66, 67, 68, 69, 70, 71, 72, 73, 74, 75, 76, 77] (by decide +kernel) (by decide +kernel)
set_option maxRecDepth 20000 in
theorem gX12_power_X12_tellsBy : GoodIn wsX12_power (wsV RX12 405 RX12 yX12_tellsBy wsX12_tellsBy) := goodIn_app (goodIn_of _ (by decide +kernel)) ggX12_power_X12_tellsBy
theorem dX12_power_0 : decode cX12_power 0 = .ok (.aload_n 0, 1) := by decide +kernel
theorem dX12_power_1 : decode cX12_power 1 = .ok (.iload_n 1, 1) := by decide +kernel
theorem dX12_power_2 : decode cX12_power 2 = .ok (.invokevirtual 309, 3) := by decide +kernel
theorem dX12_power_5 : decode cX12_power 5 = .ok (.ifCond .ne 9, 3) := by decide +kernel
theorem dX12_power_8 : decode cX12_power 8 = .ok (.aload_n 0, 1) := by decide +kernel
theorem dX12_power_9 : decode cX12_power 9 = .ok (.iconst 1, 1) := by decide +kernel
theorem dX12_power_10 : decode cX12_power 10 = .ok (.invokevirtual 98, 3) := by decide +kernel
theorem dX12_power_13 : decode cX12_power 13 = .ok (.ireturn, 1) := by decide +kernel
theorem dX12_power_14 : decode cX12_power 14 = .ok (.aload_n 0, 1) := by decide +kernel
theorem dX12_power_15 : decode cX12_power 15 = .ok (.getfield 7, 3) := by decide +kernel
theorem dX12_power_18 : decode cX12_power 18 = .ok (.iconst 4, 1) := by decide +kernel
theorem dX12_power_19 : decode cX12_power 19 = .ok (.iaload, 1) := by decide +kernel
theorem dX12_power_20 : decode cX12_power 20 = .ok (.istore_n 2, 1) := by decide +kernel
theorem dX12_power_21 : decode cX12_power 21 = .ok (.lconst 0, 1) := by decide +kernel
theorem dX12_power_22 : decode cX12_power 22 = .ok (.lstore_n 3, 1) := by decide +kernel
theorem dX12_power_23 : decode cX12_power 23 = .ok (.iconst 0, 1) := by decide +kernel
theorem dX12_power_24 : decode cX12_power 24 = .ok (.istore 5, 2) := by decide +kernel
theorem dX12_power_26 : decode cX12_power 26 = .ok (.iload 5, 2) := by decide +kernel
theorem dX12_power_28 : decode cX12_power 28 = .ok (.iconst 1, 1) := by decide +kernel
theorem dX12_power_29 : decode cX12_power 29 = .ok (.iload_n 2, 1) := by decide +kernel
theorem dX12_power_30 : decode cX12_power 30 = .ok (.ishl, 1) := by decide +kernel
theorem dX12_power_31 : decode cX12_power 31 = .ok (.if_icmp .ge 134, 3) := by decide +kernel
theorem dX12_power_34 : decode cX12_power 34 = .ok (.aload_n 0, 1) := by decide +kernel
theorem dX12_power_35 : decode cX12_power 35 = .ok (.iload 5, 2) := by decide +kernel
theorem dX12_power_37 : decode cX12_power 37 = .ok (.iload_n 1, 1) := by decide +kernel
theorem dX12_power_38 : decode cX12_power 38 = .ok (.invokevirtual 315, 3) := by decide +kernel
theorem dX12_power_41 : decode cX12_power 41 = .ok (.ifCond .eq 6, 3) := by decide +kernel
theorem dX12_power_44 : decode cX12_power 44 = .ok (.goto 115, 3) := by decide +kernel
theorem dX12_power_47 : decode cX12_power 47 = .ok (.iconst 0, 1) := by decide +kernel
theorem dX12_power_48 : decode cX12_power 48 = .ok (.istore 6, 2) := by decide +kernel
theorem dX12_power_50 : decode cX12_power 50 = .ok (.iconst 0, 1) := by decide +kernel
theorem dX12_power_51 : decode cX12_power 51 = .ok (.istore 7, 2) := by decide +kernel
theorem dX12_power_53 : decode cX12_power 53 = .ok (.iload 7, 2) := by decide +kernel
theorem dX12_power_55 : decode cX12_power 55 = .ok (.iload_n 2, 1) := by decide +kernel
theorem dX12_power_56 : decode cX12_power 56 = .ok (.if_icmp .ge 35, 3) := by decide +kernel
theorem dX12_power_59 : decode cX12_power 59 = .ok (.iload 6, 2) := by decide +kernel
theorem dX12_power_61 : decode cX12_power 61 = .ok (.aload_n 0, 1) := by decide +kernel
theorem dX12_power_62 : decode cX12_power 62 = .ok (.iload 5, 2) := by decide +kernel
theorem dX12_power_64 : decode cX12_power 64 = .ok (.iload 7, 2) := by decide +kernel
theorem dX12_power_66 : decode cX12_power 66 = .ok (.invokevirtual 315, 3) := by decide +kernel
theorem dX12_power_69 : decode cX12_power 69 = .ok (.ifCond .eq 12, 3) := by decide +kernel
theorem dX12_power_72 : decode cX12_power 72 = .ok (.aload_n 0, 1) := by decide +kernel
theorem dX12_power_73 : decode cX12_power 73 = .ok (.iload 7, 2) := by decide +kernel
theorem dX12_power_75 : decode cX12_power 75 = .ok (.invokevirtual 284, 3) := by decide +kernel
theorem dX12_power_78 : decode cX12_power 78 = .ok (.goto 4, 3) := by decide +kernel
theorem dX12_power_81 : decode cX12_power 81 = .ok (.iconst 0, 1) := by decide +kernel
theorem dX12_power_82 : decode cX12_power 82 = .ok (.iadd, 1) := by decide +kernel
theorem dX12_power_83 : decode cX12_power 83 = .ok (.istore 6, 2) := by decide +kernel
theorem dX12_power_85 : decode cX12_power 85 = .ok (.iinc 7 1, 3) := by decide +kernel
theorem dX12_power_88 : decode cX12_power 88 = .ok (.goto (-35), 3) := by decide +kernel
theorem dX12_power_91 : decode cX12_power 91 = .ok (.iconst 2, 1) := by decide +kernel
theorem dX12_power_92 : decode cX12_power 92 = .ok (.iload 6, 2) := by decide +kernel
theorem dX12_power_94 : decode cX12_power 94 = .ok (.imul, 1) := by decide +kernel
theorem dX12_power_95 : decode cX12_power 95 = .ok (.aload_n 0, 1) := by decide +kernel
theorem dX12_power_96 : decode cX12_power 96 = .ok (.invokevirtual 287, 3) := by decide +kernel
theorem dX12_power_99 : decode cX12_power 99 = .ok (.if_icmp .gt 24, 3) := by decide +kernel
theorem dX12_power_102 : decode cX12_power 102 = .ok (.iconst 2, 1) := by decide +kernel
theorem dX12_power_103 : decode cX12_power 103 = .ok (.iload 6, 2) := by decide +kernel
theorem dX12_power_105 : decode cX12_power 105 = .ok (.aload_n 0, 1) := by decide +kernel
theorem dX12_power_106 : decode cX12_power 106 = .ok (.iload_n 1, 1) := by decide +kernel
theorem dX12_power_107 : decode cX12_power 107 = .ok (.invokevirtual 284, 3) := by decide +kernel
theorem dX12_power_110 : decode cX12_power 110 = .ok (.iadd, 1) := by decide +kernel
theorem dX12_power_111 : decode cX12_power 111 = .ok (.imul, 1) := by decide +kernel
theorem dX12_power_112 : decode cX12_power 112 = .ok (.aload_n 0, 1) := by decide +kernel
theorem dX12_power_113 : decode cX12_power 113 = .ok (.invokevirtual 287, 3) := by decide +kernel
theorem dX12_power_116 : decode cX12_power 116 = .ok (.if_icmp .le 7, 3) := by decide +kernel
theorem dX12_power_119 : decode cX12_power 119 = .ok (.iconst 1, 1) := by decide +kernel
theorem dX12_power_120 : decode cX12_power 120 = .ok (.goto 4, 3) := by decide +kernel
theorem dX12_power_123 : decode cX12_power 123 = .ok (.iconst 0, 1) := by decide +kernel
theorem dX12_power_124 : decode cX12_power 124 = .ok (.istore 7, 2) := by decide +kernel
theorem dX12_power_126 : decode cX12_power 126 = .ok (.lload_n 3, 1) := by decide +kernel
theorem dX12_power_127 : decode cX12_power 127 = .ok (.iload 7, 2) := by decide +kernel
theorem dX12_power_129 : decode cX12_power 129 = .ok (.ifCond .eq 27, 3) := by decide +kernel
theorem dX12_power_132 : decode cX12_power 132 = .ok (.iload 5, 2) := by decide +kernel
theorem dX12_power_134 : decode cX12_power 134 = .ok (.invokestatic 344, 3) := by decide +kernel
theorem dX12_power_137 : decode cX12_power 137 = .ok (.invokestatic 437, 3) := by decide +kernel
theorem dX12_power_140 : decode cX12_power 140 = .ok (.iload_n 2, 1) := by decide +kernel
theorem dX12_power_141 : decode cX12_power 141 = .ok (.iconst 1, 1) := by decide +kernel
theorem dX12_power_142 : decode cX12_power 142 = .ok (.isub, 1) := by decide +kernel
theorem dX12_power_143 : decode cX12_power 143 = .ok (.iload 5, 2) := by decide +kernel
theorem dX12_power_145 : decode cX12_power 145 = .ok (.invokestatic 344, 3) := by decide +kernel
theorem dX12_power_148 : decode cX12_power 148 = .ok (.isub, 1) := by decide +kernel
theorem dX12_power_149 : decode cX12_power 149 = .ok (.invokestatic 437, 3) := by decide +kernel
theorem dX12_power_152 : decode cX12_power 152 = .ok (.lmul, 1) := by decide +kernel
theorem dX12_power_153 : decode cX12_power 153 = .ok (.goto 4, 3) := by decide +kernel
theorem dX12_power_156 : decode cX12_power 156 = .ok (.lconst 0, 1) := by decide +kernel
theorem dX12_power_157 : decode cX12_power 157 = .ok (.ladd, 1) := by decide +kernel
theorem dX12_power_158 : decode cX12_power 158 = .ok (.lstore_n 3, 1) := by decide +kernel
theorem dX12_power_159 : decode cX12_power 159 = .ok (.iinc 5 1, 3) := by decide +kernel
theorem dX12_power_162 : decode cX12_power 162 = .ok (.goto (-136), 3) := by decide +kernel
theorem dX12_power_165 : decode cX12_power 165 = .ok (.aload_n 0, 1) := by decide +kernel
theorem dX12_power_166 : decode cX12_power 166 = .ok (.lload_n 3, 1) := by decide +kernel
theorem dX12_power_167 : decode cX12_power 167 = .ok (.iload_n 2, 1) := by decide +kernel
theorem dX12_power_168 : decode cX12_power 168 = .ok (.invokestatic 437, 3) := by decide +kernel
theorem dX12_power_171 : decode cX12_power 171 = .ok (.invokevirtual 405, 3) := by decide +kernel
theorem dX12_power_174 : decode cX12_power 174 = .ok (.ireturn, 1) := by decide +kernel
theorem dX12_wordOf_0 : decode cX12_wordOf 0 = .ok (.aload_n 0, 1) := by decide +kernel
theorem dX12_wordOf_1 : decode cX12_wordOf 1 = .ok (.getfield 7, 3) := by decide +kernel
theorem dX12_wordOf_4 : decode cX12_wordOf 4 = .ok (.bipush 114, 2) := by decide +kernel
theorem dX12_wordOf_6 : decode cX12_wordOf 6 = .ok (.iconst 2, 1) := by decide +kernel
theorem dX12_wordOf_7 : decode cX12_wordOf 7 = .ok (.iload_n 1, 1) := by decide +kernel
theorem dX12_wordOf_8 : decode cX12_wordOf 8 = .ok (.imul, 1) := by decide +kernel
theorem dX12_wordOf_9 : decode cX12_wordOf 9 = .ok (.iadd, 1) := by decide +kernel
theorem dX12_wordOf_10 : decode cX12_wordOf 10 = .ok (.iload_n 2, 1) := by decide +kernel
theorem dX12_wordOf_11 : decode cX12_wordOf 11 = .ok (.iadd, 1) := by decide +kernel
theorem dX12_wordOf_12 : decode cX12_wordOf 12 = .ok (.iaload, 1) := by decide +kernel
theorem dX12_wordOf_13 : decode cX12_wordOf 13 = .ok (.ireturn, 1) := by decide +kernel
set_option maxRecDepth 20000 in
theorem ggX12_clashing_X12_wordOf : GoodIn wsX12_clashing wsX12_wordOf := goodIn_r _ [6, 1, 48, 49, 50, 51, 52, 53, 54, 55, 56, 57, 58, 59, 60, 61, 62, 63, 64, 65, 66, 67, 68, 69, 70, 71, 72, 73, 74, 75, 76, 77, 78, 79, 80, 81, 82, 83, 84, 85, 86, 87, 88, 89] (by decide +kernel) (by decide +kernel)
set_option maxRecDepth 20000 in
theorem gX12_clashing_X12_wordOf : GoodIn wsX12_clashing (wsV RX12 440 RX12 yX12_wordOf wsX12_wordOf) := goodIn_app (goodIn_of _ (by decide +kernel)) ggX12_clashing_X12_wordOf
set_option maxRecDepth 20000 in
theorem ggX12_clashing_X12_senseFor : GoodIn wsX12_clashing wsX12_senseFor := goodIn_r _ [10, 1, 11, 12, 13, 5, 14, 15, 16, 17, 18, 19, 20, 21, 22, 23, 24, 25, 26, 27, 28, 29, 30, 31, 32, 33, 34, 35, 36, 37, 38, 39, 40, 41, 42, 43, 44, 45, 46, 47, 48, 49, 50, 51, 52, 53, 54, 55, 56, 57, 58, 59, 60, 61, 62, 63, 64, 65, 66, 67, 68, 69, 70, 71, 72, 73, 74, 75, 76, 77, 78, 79, 80, 81, 82, 83, 84, 85, 86, 87, 88, 89] (by decide +kernel) (by decide +kernel)
set_option maxRecDepth 20000 in
theorem gX12_clashing_X12_senseFor : GoodIn wsX12_clashing (wsV RX12 443 RX12 yX12_senseFor wsX12_senseFor) := goodIn_app (goodIn_of _ (by decide +kernel)) ggX12_clashing_X12_senseFor
theorem dX12_clashing_0 : decode cX12_clashing 0 = .ok (.iconst 0, 1) := by decide +kernel
theorem dX12_clashing_1 : decode cX12_clashing 1 = .ok (.istore_n 1, 1) := by decide +kernel
theorem dX12_clashing_2 : decode cX12_clashing 2 = .ok (.iconst 0, 1) := by decide +kernel
theorem dX12_clashing_3 : decode cX12_clashing 3 = .ok (.istore_n 2, 1) := by decide +kernel
theorem dX12_clashing_4 : decode cX12_clashing 4 = .ok (.iload_n 2, 1) := by decide +kernel
theorem dX12_clashing_5 : decode cX12_clashing 5 = .ok (.aload_n 0, 1) := by decide +kernel
theorem dX12_clashing_6 : decode cX12_clashing 6 = .ok (.getfield 7, 3) := by decide +kernel
theorem dX12_clashing_9 : decode cX12_clashing 9 = .ok (.iconst 5, 1) := by decide +kernel
theorem dX12_clashing_10 : decode cX12_clashing 10 = .ok (.iaload, 1) := by decide +kernel
theorem dX12_clashing_11 : decode cX12_clashing 11 = .ok (.if_icmp .ge 47, 3) := by decide +kernel
theorem dX12_clashing_14 : decode cX12_clashing 14 = .ok (.iload_n 1, 1) := by decide +kernel
theorem dX12_clashing_15 : decode cX12_clashing 15 = .ok (.aload_n 0, 1) := by decide +kernel
theorem dX12_clashing_16 : decode cX12_clashing 16 = .ok (.aload_n 0, 1) := by decide +kernel
theorem dX12_clashing_17 : decode cX12_clashing 17 = .ok (.iload_n 2, 1) := by decide +kernel
theorem dX12_clashing_18 : decode cX12_clashing 18 = .ok (.iconst 0, 1) := by decide +kernel
theorem dX12_clashing_19 : decode cX12_clashing 19 = .ok (.invokevirtual 440, 3) := by decide +kernel
theorem dX12_clashing_22 : decode cX12_clashing 22 = .ok (.aload_n 0, 1) := by decide +kernel
theorem dX12_clashing_23 : decode cX12_clashing 23 = .ok (.getfield 7, 3) := by decide +kernel
theorem dX12_clashing_26 : decode cX12_clashing 26 = .ok (.bipush 6, 2) := by decide +kernel
theorem dX12_clashing_28 : decode cX12_clashing 28 = .ok (.iaload, 1) := by decide +kernel
theorem dX12_clashing_29 : decode cX12_clashing 29 = .ok (.invokevirtual 443, 3) := by decide +kernel
theorem dX12_clashing_32 : decode cX12_clashing 32 = .ok (.iconst 3, 1) := by decide +kernel
theorem dX12_clashing_33 : decode cX12_clashing 33 = .ok (.aload_n 0, 1) := by decide +kernel
theorem dX12_clashing_34 : decode cX12_clashing 34 = .ok (.iload_n 2, 1) := by decide +kernel
theorem dX12_clashing_35 : decode cX12_clashing 35 = .ok (.iconst 1, 1) := by decide +kernel
theorem dX12_clashing_36 : decode cX12_clashing 36 = .ok (.invokevirtual 440, 3) := by decide +kernel
theorem dX12_clashing_39 : decode cX12_clashing 39 = .ok (.isub, 1) := by decide +kernel
theorem dX12_clashing_40 : decode cX12_clashing 40 = .ok (.if_icmp .ne 9, 3) := by decide +kernel
theorem dX12_clashing_43 : decode cX12_clashing 43 = .ok (.iconst 1, 1) := by decide +kernel
theorem dX12_clashing_44 : decode cX12_clashing 44 = .ok (.iload_n 2, 1) := by decide +kernel
theorem dX12_clashing_45 : decode cX12_clashing 45 = .ok (.ishl, 1) := by decide +kernel
theorem dX12_clashing_46 : decode cX12_clashing 46 = .ok (.goto 4, 3) := by decide +kernel
theorem dX12_clashing_49 : decode cX12_clashing 49 = .ok (.iconst 0, 1) := by decide +kernel
theorem dX12_clashing_50 : decode cX12_clashing 50 = .ok (.ior, 1) := by decide +kernel
theorem dX12_clashing_51 : decode cX12_clashing 51 = .ok (.istore_n 1, 1) := by decide +kernel
theorem dX12_clashing_52 : decode cX12_clashing 52 = .ok (.iinc 2 1, 3) := by decide +kernel
theorem dX12_clashing_55 : decode cX12_clashing 55 = .ok (.goto (-51), 3) := by decide +kernel
theorem dX12_clashing_58 : decode cX12_clashing 58 = .ok (.iload_n 1, 1) := by decide +kernel
theorem dX12_clashing_59 : decode cX12_clashing 59 = .ok (.ireturn, 1) := by decide +kernel
set_option maxRecDepth 20000 in
theorem ggX12_clash_X12_clashing : GoodIn wsX12_clash wsX12_clashing := goodIn_r _ [5, 6, 7, 8, 9, 4, 10, 11, 12, 13, 14, 15, 16, 17, 18, 19, 20, 21, 22, 23, 24, 25, 26, 27, 28, 29, 30, 31, 32, 33, 34, 35, 36, 37, 38, 39, 40, 41, 42, 43, 44, 45, 46, 47, 48, 49, 50, 51, 57, 58, 59, 60, 61, 62, 63, 64, 65, 66, 67, 68, 69, 70, 71, 72, 73, 74, 75, 76, 77, 78, 79, 80, 81, 82, 83, 84, 85, 86, 87, 88, 89, 90, 91, 92, 93, 94, 95, 96, 97, 98] (by decide +kernel) (by decide +kernel)
set_option maxRecDepth 20000 in
theorem gX12_clash_X12_clashing : GoodIn wsX12_clash (wsV RX12 446 RX12 yX12_clashing wsX12_clashing) := goodIn_app (goodIn_of _ (by decide +kernel)) ggX12_clash_X12_clashing
set_option maxRecDepth 20000 in
theorem ggX12_clash_X12_gives : GoodIn wsX12_clash wsX12_gives := goodIn_r _ [55, 56, 57, 58, 59, 60, 61, 62, 63, 64, 65, 66, 67, 68, 69, 70, 71, 72, 73, 74, 75, 76, 77, 78, 79, 80, 81, 82, 83, 84, 85, 86, 87, 88, 89, 90, 91, 92, 93, 94, 95, 96, 97, 98] (by decide +kernel) (by decide +kernel)
set_option maxRecDepth 20000 in
theorem gX12_clash_X12_gives : GoodIn wsX12_clash (wsV RX12 95 RX12 yX12_gives wsX12_gives) := goodIn_app (goodIn_of _ (by decide +kernel)) ggX12_clash_X12_gives
theorem dX12_clash_0 : decode cX12_clash 0 = .ok (.aload_n 0, 1) := by decide +kernel
theorem dX12_clash_1 : decode cX12_clash 1 = .ok (.aload_n 0, 1) := by decide +kernel
theorem dX12_clash_2 : decode cX12_clash 2 = .ok (.invokevirtual 446, 3) := by decide +kernel
theorem dX12_clash_5 : decode cX12_clash 5 = .ok (.invokevirtual 95, 3) := by decide +kernel
theorem dX12_clash_8 : decode cX12_clash 8 = .ok (.ireturn, 1) := by decide +kernel
set_option maxRecDepth 20000 in
theorem ggX12_areUnlike_X12_isIn : GoodIn wsX12_areUnlike wsX12_isIn := goodIn_r _ [6] (by decide +kernel) (by decide +kernel)
set_option maxRecDepth 20000 in
theorem gX12_areUnlike_X12_isIn : GoodIn wsX12_areUnlike (wsV RX12 315 RX12 yX12_isIn wsX12_isIn) := goodIn_app (goodIn_of _ (by decide +kernel)) ggX12_areUnlike_X12_isIn
set_option maxRecDepth 20000 in
theorem ggX12_areUnlike_X12_wordOf : GoodIn wsX12_areUnlike wsX12_wordOf := goodIn_r _ [10, 1, 11, 12, 13, 14, 15, 16, 17, 18, 19, 20, 21, 22, 23, 24, 25, 26, 27, 28, 29, 30, 31, 32, 33, 34, 35, 36, 37, 38, 39, 40, 41, 42, 43, 44, 45, 46, 47, 48, 49, 50, 51, 52] (by decide +kernel) (by decide +kernel)
set_option maxRecDepth 20000 in
theorem gX12_areUnlike_X12_wordOf : GoodIn wsX12_areUnlike (wsV RX12 440 RX12 yX12_wordOf wsX12_wordOf) := goodIn_app (goodIn_of _ (by decide +kernel)) ggX12_areUnlike_X12_wordOf
theorem dX12_areUnlike_0 : decode cX12_areUnlike 0 = .ok (.iconst 0, 1) := by decide +kernel
theorem dX12_areUnlike_1 : decode cX12_areUnlike 1 = .ok (.istore_n 2, 1) := by decide +kernel
theorem dX12_areUnlike_2 : decode cX12_areUnlike 2 = .ok (.iload_n 2, 1) := by decide +kernel
theorem dX12_areUnlike_3 : decode cX12_areUnlike 3 = .ok (.aload_n 0, 1) := by decide +kernel
theorem dX12_areUnlike_4 : decode cX12_areUnlike 4 = .ok (.getfield 7, 3) := by decide +kernel
theorem dX12_areUnlike_7 : decode cX12_areUnlike 7 = .ok (.iconst 5, 1) := by decide +kernel
theorem dX12_areUnlike_8 : decode cX12_areUnlike 8 = .ok (.iaload, 1) := by decide +kernel
theorem dX12_areUnlike_9 : decode cX12_areUnlike 9 = .ok (.if_icmp .ge 79, 3) := by decide +kernel
theorem dX12_areUnlike_12 : decode cX12_areUnlike 12 = .ok (.iload_n 2, 1) := by decide +kernel
theorem dX12_areUnlike_13 : decode cX12_areUnlike 13 = .ok (.iconst 1, 1) := by decide +kernel
theorem dX12_areUnlike_14 : decode cX12_areUnlike 14 = .ok (.iadd, 1) := by decide +kernel
theorem dX12_areUnlike_15 : decode cX12_areUnlike 15 = .ok (.istore_n 3, 1) := by decide +kernel
theorem dX12_areUnlike_16 : decode cX12_areUnlike 16 = .ok (.iload_n 3, 1) := by decide +kernel
theorem dX12_areUnlike_17 : decode cX12_areUnlike 17 = .ok (.aload_n 0, 1) := by decide +kernel
theorem dX12_areUnlike_18 : decode cX12_areUnlike 18 = .ok (.getfield 7, 3) := by decide +kernel
theorem dX12_areUnlike_21 : decode cX12_areUnlike 21 = .ok (.iconst 5, 1) := by decide +kernel
theorem dX12_areUnlike_22 : decode cX12_areUnlike 22 = .ok (.iaload, 1) := by decide +kernel
theorem dX12_areUnlike_23 : decode cX12_areUnlike 23 = .ok (.if_icmp .ge 59, 3) := by decide +kernel
theorem dX12_areUnlike_26 : decode cX12_areUnlike 26 = .ok (.aload_n 0, 1) := by decide +kernel
theorem dX12_areUnlike_27 : decode cX12_areUnlike 27 = .ok (.iload_n 1, 1) := by decide +kernel
theorem dX12_areUnlike_28 : decode cX12_areUnlike 28 = .ok (.iload_n 2, 1) := by decide +kernel
theorem dX12_areUnlike_29 : decode cX12_areUnlike 29 = .ok (.invokevirtual 315, 3) := by decide +kernel
theorem dX12_areUnlike_32 : decode cX12_areUnlike 32 = .ok (.ifCond .eq 44, 3) := by decide +kernel
theorem dX12_areUnlike_35 : decode cX12_areUnlike 35 = .ok (.aload_n 0, 1) := by decide +kernel
theorem dX12_areUnlike_36 : decode cX12_areUnlike 36 = .ok (.iload_n 1, 1) := by decide +kernel
theorem dX12_areUnlike_37 : decode cX12_areUnlike 37 = .ok (.iload_n 3, 1) := by decide +kernel
theorem dX12_areUnlike_38 : decode cX12_areUnlike 38 = .ok (.invokevirtual 315, 3) := by decide +kernel
theorem dX12_areUnlike_41 : decode cX12_areUnlike 41 = .ok (.ifCond .eq 35, 3) := by decide +kernel
theorem dX12_areUnlike_44 : decode cX12_areUnlike 44 = .ok (.aload_n 0, 1) := by decide +kernel
theorem dX12_areUnlike_45 : decode cX12_areUnlike 45 = .ok (.iload_n 2, 1) := by decide +kernel
theorem dX12_areUnlike_46 : decode cX12_areUnlike 46 = .ok (.iconst 0, 1) := by decide +kernel
theorem dX12_areUnlike_47 : decode cX12_areUnlike 47 = .ok (.invokevirtual 440, 3) := by decide +kernel
theorem dX12_areUnlike_50 : decode cX12_areUnlike 50 = .ok (.aload_n 0, 1) := by decide +kernel
theorem dX12_areUnlike_51 : decode cX12_areUnlike 51 = .ok (.iload_n 3, 1) := by decide +kernel
theorem dX12_areUnlike_52 : decode cX12_areUnlike 52 = .ok (.iconst 0, 1) := by decide +kernel
theorem dX12_areUnlike_53 : decode cX12_areUnlike 53 = .ok (.invokevirtual 440, 3) := by decide +kernel
theorem dX12_areUnlike_56 : decode cX12_areUnlike 56 = .ok (.if_icmp .ne 20, 3) := by decide +kernel
theorem dX12_areUnlike_59 : decode cX12_areUnlike 59 = .ok (.aload_n 0, 1) := by decide +kernel
theorem dX12_areUnlike_60 : decode cX12_areUnlike 60 = .ok (.iload_n 2, 1) := by decide +kernel
theorem dX12_areUnlike_61 : decode cX12_areUnlike 61 = .ok (.iconst 1, 1) := by decide +kernel
theorem dX12_areUnlike_62 : decode cX12_areUnlike 62 = .ok (.invokevirtual 440, 3) := by decide +kernel
theorem dX12_areUnlike_65 : decode cX12_areUnlike 65 = .ok (.aload_n 0, 1) := by decide +kernel
theorem dX12_areUnlike_66 : decode cX12_areUnlike 66 = .ok (.iload_n 3, 1) := by decide +kernel
theorem dX12_areUnlike_67 : decode cX12_areUnlike 67 = .ok (.iconst 1, 1) := by decide +kernel
theorem dX12_areUnlike_68 : decode cX12_areUnlike 68 = .ok (.invokevirtual 440, 3) := by decide +kernel
theorem dX12_areUnlike_71 : decode cX12_areUnlike 71 = .ok (.if_icmp .eq 5, 3) := by decide +kernel
theorem dX12_areUnlike_74 : decode cX12_areUnlike 74 = .ok (.iconst 1, 1) := by decide +kernel
theorem dX12_areUnlike_75 : decode cX12_areUnlike 75 = .ok (.ireturn, 1) := by decide +kernel
theorem dX12_areUnlike_76 : decode cX12_areUnlike 76 = .ok (.iinc 3 1, 3) := by decide +kernel
theorem dX12_areUnlike_79 : decode cX12_areUnlike 79 = .ok (.goto (-63), 3) := by decide +kernel
theorem dX12_areUnlike_82 : decode cX12_areUnlike 82 = .ok (.iinc 2 1, 3) := by decide +kernel
theorem dX12_areUnlike_85 : decode cX12_areUnlike 85 = .ok (.goto (-83), 3) := by decide +kernel
theorem dX12_areUnlike_88 : decode cX12_areUnlike 88 = .ok (.iconst 0, 1) := by decide +kernel
theorem dX12_areUnlike_89 : decode cX12_areUnlike 89 = .ok (.ireturn, 1) := by decide +kernel
set_option maxRecDepth 20000 in
theorem ggX12_striking_X12_bits : GoodIn wsX12_striking wsX12_bits := goodIn_r _ [5] (by decide +kernel) (by decide +kernel)
set_option maxRecDepth 20000 in
theorem gX12_striking_X12_bits : GoodIn wsX12_striking (va_wsS RX12 344 yX12_bits wsX12_bits) := goodIn_app (goodIn_of _ (by decide +kernel)) ggX12_striking_X12_bits
set_option maxRecDepth 20000 in
theorem ggX12_striking_X12_clashing : GoodIn wsX12_striking wsX12_clashing := goodIn_r _ [9, 1, 10, 11, 12, 4, 13, 14, 15, 16, 17, 18, 19, 20, 21, 22, 23, 24, 25, 26, 27, 28, 29, 30, 31, 32, 33, 34, 35, 36, 37, 38, 39, 40, 41, 42, 43, 44, 45, 46, 47, 48, 49, 50, 51, 52, 53, 54, 59, 60, 61, 62, 63, 64, 65, 66, 67, 68, 69, 70, 71, 72, 73, 74, 75, 76, 77, 78, 79, 80, 81, 82, 83, 84, 85, 86, 87, 88, 89, 90, 91, 92, 93, 94, 95, 96, 97, 98, 99, 100] (by decide +kernel) (by decide +kernel)
set_option maxRecDepth 20000 in
theorem gX12_striking_X12_clashing : GoodIn wsX12_striking (wsV RX12 446 RX12 yX12_clashing wsX12_clashing) := goodIn_app (goodIn_of _ (by decide +kernel)) ggX12_striking_X12_clashing
set_option maxRecDepth 20000 in
theorem ggX12_striking_X12_areUnlike : GoodIn wsX12_striking wsX12_areUnlike := goodIn_r _ [58, 1, 48, 49, 50, 4, 51, 10, 11, 12, 13, 59, 60, 61, 62, 63, 64, 65, 66, 67, 68, 69, 70, 71, 72, 73, 74, 75, 76, 77, 78, 79, 80, 81, 82, 83, 84, 85, 86, 87, 88, 89, 90, 91, 92, 93, 94, 95, 96, 97, 98, 99, 100] (by decide +kernel) (by decide +kernel)
set_option maxRecDepth 20000 in
theorem gX12_striking_X12_areUnlike : GoodIn wsX12_striking (wsV RX12 449 RX12 yX12_areUnlike wsX12_areUnlike) := goodIn_app (goodIn_of _ (by decide +kernel)) ggX12_striking_X12_areUnlike
theorem dX12_striking_0 : decode cX12_striking 0 = .ok (.iconst 1, 1) := by decide +kernel
theorem dX12_striking_1 : decode cX12_striking 1 = .ok (.aload_n 0, 1) := by decide +kernel
theorem dX12_striking_2 : decode cX12_striking 2 = .ok (.getfield 7, 3) := by decide +kernel
theorem dX12_striking_5 : decode cX12_striking 5 = .ok (.iconst 5, 1) := by decide +kernel
theorem dX12_striking_6 : decode cX12_striking 6 = .ok (.iaload, 1) := by decide +kernel
theorem dX12_striking_7 : decode cX12_striking 7 = .ok (.ishl, 1) := by decide +kernel
theorem dX12_striking_8 : decode cX12_striking 8 = .ok (.iconst 1, 1) := by decide +kernel
theorem dX12_striking_9 : decode cX12_striking 9 = .ok (.isub, 1) := by decide +kernel
theorem dX12_striking_10 : decode cX12_striking 10 = .ok (.istore_n 1, 1) := by decide +kernel
theorem dX12_striking_11 : decode cX12_striking 11 = .ok (.iload_n 1, 1) := by decide +kernel
theorem dX12_striking_12 : decode cX12_striking 12 = .ok (.istore_n 2, 1) := by decide +kernel
theorem dX12_striking_13 : decode cX12_striking 13 = .ok (.iconst 0, 1) := by decide +kernel
theorem dX12_striking_14 : decode cX12_striking 14 = .ok (.istore_n 3, 1) := by decide +kernel
theorem dX12_striking_15 : decode cX12_striking 15 = .ok (.iload_n 3, 1) := by decide +kernel
theorem dX12_striking_16 : decode cX12_striking 16 = .ok (.iload_n 1, 1) := by decide +kernel
theorem dX12_striking_17 : decode cX12_striking 17 = .ok (.if_icmp .gt 64, 3) := by decide +kernel
theorem dX12_striking_20 : decode cX12_striking 20 = .ok (.iload_n 3, 1) := by decide +kernel
theorem dX12_striking_21 : decode cX12_striking 21 = .ok (.invokestatic 344, 3) := by decide +kernel
theorem dX12_striking_24 : decode cX12_striking 24 = .ok (.iload_n 2, 1) := by decide +kernel
theorem dX12_striking_25 : decode cX12_striking 25 = .ok (.invokestatic 344, 3) := by decide +kernel
theorem dX12_striking_28 : decode cX12_striking 28 = .ok (.if_icmp .gt 47, 3) := by decide +kernel
theorem dX12_striking_31 : decode cX12_striking 31 = .ok (.iload_n 3, 1) := by decide +kernel
theorem dX12_striking_32 : decode cX12_striking 32 = .ok (.invokestatic 344, 3) := by decide +kernel
theorem dX12_striking_35 : decode cX12_striking 35 = .ok (.iload_n 2, 1) := by decide +kernel
theorem dX12_striking_36 : decode cX12_striking 36 = .ok (.invokestatic 344, 3) := by decide +kernel
theorem dX12_striking_39 : decode cX12_striking 39 = .ok (.if_icmp .ne 11, 3) := by decide +kernel
theorem dX12_striking_42 : decode cX12_striking 42 = .ok (.iload_n 3, 1) := by decide +kernel
theorem dX12_striking_43 : decode cX12_striking 43 = .ok (.iload_n 2, 1) := by decide +kernel
theorem dX12_striking_44 : decode cX12_striking 44 = .ok (.if_icmp .lt 6, 3) := by decide +kernel
theorem dX12_striking_47 : decode cX12_striking 47 = .ok (.goto 28, 3) := by decide +kernel
theorem dX12_striking_50 : decode cX12_striking 50 = .ok (.aload_n 0, 1) := by decide +kernel
theorem dX12_striking_51 : decode cX12_striking 51 = .ok (.invokevirtual 446, 3) := by decide +kernel
theorem dX12_striking_54 : decode cX12_striking 54 = .ok (.iload_n 3, 1) := by decide +kernel
theorem dX12_striking_55 : decode cX12_striking 55 = .ok (.iconst (-1), 1) := by decide +kernel
theorem dX12_striking_56 : decode cX12_striking 56 = .ok (.ixor, 1) := by decide +kernel
theorem dX12_striking_57 : decode cX12_striking 57 = .ok (.iand, 1) := by decide +kernel
theorem dX12_striking_58 : decode cX12_striking 58 = .ok (.ifCond .ne 17, 3) := by decide +kernel
theorem dX12_striking_61 : decode cX12_striking 61 = .ok (.aload_n 0, 1) := by decide +kernel
theorem dX12_striking_62 : decode cX12_striking 62 = .ok (.iload_n 1, 1) := by decide +kernel
theorem dX12_striking_63 : decode cX12_striking 63 = .ok (.iload_n 3, 1) := by decide +kernel
theorem dX12_striking_64 : decode cX12_striking 64 = .ok (.iconst (-1), 1) := by decide +kernel
theorem dX12_striking_65 : decode cX12_striking 65 = .ok (.ixor, 1) := by decide +kernel
theorem dX12_striking_66 : decode cX12_striking 66 = .ok (.iand, 1) := by decide +kernel
theorem dX12_striking_67 : decode cX12_striking 67 = .ok (.invokevirtual 449, 3) := by decide +kernel
theorem dX12_striking_70 : decode cX12_striking 70 = .ok (.ifCond .ne 5, 3) := by decide +kernel
theorem dX12_striking_73 : decode cX12_striking 73 = .ok (.iload_n 3, 1) := by decide +kernel
theorem dX12_striking_74 : decode cX12_striking 74 = .ok (.istore_n 2, 1) := by decide +kernel
theorem dX12_striking_75 : decode cX12_striking 75 = .ok (.iinc 3 1, 3) := by decide +kernel
theorem dX12_striking_78 : decode cX12_striking 78 = .ok (.goto (-63), 3) := by decide +kernel
theorem dX12_striking_81 : decode cX12_striking 81 = .ok (.iload_n 2, 1) := by decide +kernel
theorem dX12_striking_82 : decode cX12_striking 82 = .ok (.ireturn, 1) := by decide +kernel
set_option maxRecDepth 20000 in
theorem ggX12_struck_X12_striking : GoodIn wsX12_struck wsX12_striking := goodIn_r _ [5, 6, 7, 8, 4, 9, 10, 11, 12, 13, 14, 15, 16, 17, 18, 19, 20, 21, 22, 23, 24, 25, 26, 27, 28, 29, 30, 31, 32, 33, 34, 35, 36, 37, 38, 39, 40, 41, 42, 43, 44, 45, 46, 47, 48, 49, 50, 51, 52, 53, 54, 55, 56, 57, 58, 59, 60, 61, 62, 68, 69, 70, 71, 72, 73, 74, 75, 76, 77, 78, 79, 80, 81, 82, 83, 84, 85, 86, 87, 88, 89, 90, 91, 92, 93, 94, 95, 96, 97, 98, 99, 100, 101, 102, 103, 104, 105, 106, 107, 108, 109] (by decide +kernel) (by decide +kernel)
set_option maxRecDepth 20000 in
theorem gX12_struck_X12_striking : GoodIn wsX12_struck (wsV RX12 452 RX12 yX12_striking wsX12_striking) := goodIn_app (goodIn_of _ (by decide +kernel)) ggX12_struck_X12_striking
set_option maxRecDepth 20000 in
theorem ggX12_struck_X12_bits : GoodIn wsX12_struck wsX12_bits := goodIn_r _ [9] (by decide +kernel) (by decide +kernel)
set_option maxRecDepth 20000 in
theorem gX12_struck_X12_bits : GoodIn wsX12_struck (va_wsS RX12 344 yX12_bits wsX12_bits) := goodIn_app (goodIn_of _ (by decide +kernel)) ggX12_struck_X12_bits
set_option maxRecDepth 20000 in
theorem ggX12_struck_X12_gives : GoodIn wsX12_struck wsX12_gives := goodIn_r _ [66, 67, 68, 69, 70, 71, 72, 73, 74, 75, 76, 77, 78, 79, 80, 81, 82, 83, 84, 85, 86, 87, 88, 89, 90, 91, 92, 93, 94, 95, 96, 97, 98, 99, 100, 101, 102, 103, 104, 105, 106, 107, 108, 109] (by decide +kernel) (by decide +kernel)
set_option maxRecDepth 20000 in
theorem gX12_struck_X12_gives : GoodIn wsX12_struck (wsV RX12 95 RX12 yX12_gives wsX12_gives) := goodIn_app (goodIn_of _ (by decide +kernel)) ggX12_struck_X12_gives
theorem dX12_struck_0 : decode cX12_struck 0 = .ok (.aload_n 0, 1) := by decide +kernel
theorem dX12_struck_1 : decode cX12_struck 1 = .ok (.aload_n 0, 1) := by decide +kernel
theorem dX12_struck_2 : decode cX12_struck 2 = .ok (.invokevirtual 452, 3) := by decide +kernel
theorem dX12_struck_5 : decode cX12_struck 5 = .ok (.invokestatic 344, 3) := by decide +kernel
theorem dX12_struck_8 : decode cX12_struck 8 = .ok (.invokevirtual 95, 3) := by decide +kernel
theorem dX12_struck_11 : decode cX12_struck 11 = .ok (.ireturn, 1) := by decide +kernel
set_option maxRecDepth 20000 in
theorem ggX12_struckSet_X12_striking : GoodIn wsX12_struckSet wsX12_striking := goodIn_r _ [5, 6, 7, 8, 4, 9, 10, 11, 12, 13, 14, 15, 16, 17, 18, 19, 20, 21, 22, 23, 24, 25, 26, 27, 28, 29, 30, 31, 32, 33, 34, 35, 36, 37, 38, 39, 40, 41, 42, 43, 44, 45, 46, 47, 48, 49, 50, 51, 52, 53, 54, 55, 56, 57, 58, 59, 60, 61, 62, 68, 69, 70, 71, 72, 73, 74, 75, 76, 77, 78, 79, 80, 81, 82, 83, 84, 85, 86, 87, 88, 89, 90, 91, 92, 93, 94, 95, 96, 97, 98, 99, 100, 101, 102, 103, 104, 105, 106, 107, 108, 109] (by decide +kernel) (by decide +kernel)
set_option maxRecDepth 20000 in
theorem gX12_struckSet_X12_striking : GoodIn wsX12_struckSet (wsV RX12 452 RX12 yX12_striking wsX12_striking) := goodIn_app (goodIn_of _ (by decide +kernel)) ggX12_struckSet_X12_striking
set_option maxRecDepth 20000 in
theorem ggX12_struckSet_X12_gives : GoodIn wsX12_struckSet wsX12_gives := goodIn_r _ [66, 67, 68, 69, 70, 71, 72, 73, 74, 75, 76, 77, 78, 79, 80, 81, 82, 83, 84, 85, 86, 87, 88, 89, 90, 91, 92, 93, 94, 95, 96, 97, 98, 99, 100, 101, 102, 103, 104, 105, 106, 107, 108, 109] (by decide +kernel) (by decide +kernel)
set_option maxRecDepth 20000 in
theorem gX12_struckSet_X12_gives : GoodIn wsX12_struckSet (wsV RX12 95 RX12 yX12_gives wsX12_gives) := goodIn_app (goodIn_of _ (by decide +kernel)) ggX12_struckSet_X12_gives
theorem dX12_struckSet_0 : decode cX12_struckSet 0 = .ok (.aload_n 0, 1) := by decide +kernel
theorem dX12_struckSet_1 : decode cX12_struckSet 1 = .ok (.aload_n 0, 1) := by decide +kernel
theorem dX12_struckSet_2 : decode cX12_struckSet 2 = .ok (.invokevirtual 452, 3) := by decide +kernel
theorem dX12_struckSet_5 : decode cX12_struckSet 5 = .ok (.invokevirtual 95, 3) := by decide +kernel
theorem dX12_struckSet_8 : decode cX12_struckSet 8 = .ok (.ireturn, 1) := by decide +kernel
set_option maxRecDepth 20000 in
theorem ggX12_laysOrders_X12_peopleThat : GoodIn wsX12_laysOrders wsX12_peopleThat := goodIn_r _ [14, 2, 15, 16, 17, 13, 18, 19, 20, 21, 59, 60, 61, 62, 63, 64, 65, 66, 67, 68, 69, 70, 71, 72, 73, 74, 75, 76, 77, 78, 79, 80, 81, 82, 83, 84, 85, 86, 87, 88, 89, 90, 91, 92, 93, 94, 95, 96, 97, 98, 99, 100] (by decide +kernel) (by decide +kernel)
set_option maxRecDepth 20000 in
theorem gX12_laysOrders_X12_peopleThat : GoodIn wsX12_laysOrders (wsV RX12 290 RX12 yX12_peopleThat wsX12_peopleThat) := goodIn_app (goodIn_of _ (by decide +kernel)) ggX12_laysOrders_X12_peopleThat
set_option maxRecDepth 20000 in
theorem ggX12_laysOrders_X12_bits : GoodIn wsX12_laysOrders wsX12_bits := goodIn_r _ [24] (by decide +kernel) (by decide +kernel)
set_option maxRecDepth 20000 in
theorem gX12_laysOrders_X12_bits : GoodIn wsX12_laysOrders (va_wsS RX12 344 yX12_bits wsX12_bits) := goodIn_app (goodIn_of _ (by decide +kernel)) ggX12_laysOrders_X12_bits
set_option maxRecDepth 20000 in
theorem ggX12_laysOrders_X12_isIn : GoodIn wsX12_laysOrders wsX12_isIn := goodIn_r _ [28] (by decide +kernel) (by decide +kernel)
set_option maxRecDepth 20000 in
theorem gX12_laysOrders_X12_isIn : GoodIn wsX12_laysOrders (wsV RX12 315 RX12 yX12_isIn wsX12_isIn) := goodIn_app (goodIn_of _ (by decide +kernel)) ggX12_laysOrders_X12_isIn
set_option maxRecDepth 20000 in
theorem ggX12_laysOrders_X12_senseFor : GoodIn wsX12_laysOrders wsX12_senseFor := goodIn_r _ [32, 2, 33, 34, 35, 13, 36, 37, 38, 39, 40, 15, 16, 17, 18, 19, 20, 21, 41, 42, 43, 44, 45, 46, 47, 48, 49, 50, 51, 52, 53, 54, 55, 25, 26, 27, 28, 56, 57, 58, 59, 60, 61, 62, 63, 64, 65, 66, 67, 68, 69, 70, 71, 72, 73, 74, 75, 76, 77, 78, 79, 80, 81, 82, 83, 84, 85, 86, 87, 88, 89, 90, 91, 92, 93, 94, 95, 96, 97, 98, 99, 100] (by decide +kernel) (by decide +kernel)
set_option maxRecDepth 20000 in
theorem gX12_laysOrders_X12_senseFor : GoodIn wsX12_laysOrders (wsV RX12 443 RX12 yX12_senseFor wsX12_senseFor) := goodIn_app (goodIn_of _ (by decide +kernel)) ggX12_laysOrders_X12_senseFor
theorem dX12_laysOrders_0 : decode cX12_laysOrders 0 = .ok (.aload_n 0, 1) := by decide +kernel
theorem dX12_laysOrders_1 : decode cX12_laysOrders 1 = .ok (.iconst 0, 1) := by decide +kernel
theorem dX12_laysOrders_2 : decode cX12_laysOrders 2 = .ok (.invokevirtual 290, 3) := by decide +kernel
theorem dX12_laysOrders_5 : decode cX12_laysOrders 5 = .ok (.istore_n 1, 1) := by decide +kernel
theorem dX12_laysOrders_6 : decode cX12_laysOrders 6 = .ok (.iload_n 1, 1) := by decide +kernel
theorem dX12_laysOrders_7 : decode cX12_laysOrders 7 = .ok (.istore_n 2, 1) := by decide +kernel
theorem dX12_laysOrders_8 : decode cX12_laysOrders 8 = .ok (.iload_n 2, 1) := by decide +kernel
theorem dX12_laysOrders_9 : decode cX12_laysOrders 9 = .ok (.ifCond .lt 125, 3) := by decide +kernel
theorem dX12_laysOrders_12 : decode cX12_laysOrders 12 = .ok (.iload_n 2, 1) := by decide +kernel
theorem dX12_laysOrders_13 : decode cX12_laysOrders 13 = .ok (.iload_n 1, 1) := by decide +kernel
theorem dX12_laysOrders_14 : decode cX12_laysOrders 14 = .ok (.iconst (-1), 1) := by decide +kernel
theorem dX12_laysOrders_15 : decode cX12_laysOrders 15 = .ok (.ixor, 1) := by decide +kernel
theorem dX12_laysOrders_16 : decode cX12_laysOrders 16 = .ok (.iand, 1) := by decide +kernel
theorem dX12_laysOrders_17 : decode cX12_laysOrders 17 = .ok (.ifCond .eq 6, 3) := by decide +kernel
theorem dX12_laysOrders_20 : decode cX12_laysOrders 20 = .ok (.goto 108, 3) := by decide +kernel
theorem dX12_laysOrders_23 : decode cX12_laysOrders 23 = .ok (.aload_n 0, 1) := by decide +kernel
theorem dX12_laysOrders_24 : decode cX12_laysOrders 24 = .ok (.getfield 60, 3) := by decide +kernel
theorem dX12_laysOrders_27 : decode cX12_laysOrders 27 = .ok (.iload_n 2, 1) := by decide +kernel
theorem dX12_laysOrders_28 : decode cX12_laysOrders 28 = .ok (.iconst 0, 1) := by decide +kernel
theorem dX12_laysOrders_29 : decode cX12_laysOrders 29 = .ok (.iastore, 1) := by decide +kernel
theorem dX12_laysOrders_30 : decode cX12_laysOrders 30 = .ok (.bipush 9, 2) := by decide +kernel
theorem dX12_laysOrders_32 : decode cX12_laysOrders 32 = .ok (.aload_n 0, 1) := by decide +kernel
theorem dX12_laysOrders_33 : decode cX12_laysOrders 33 = .ok (.getfield 7, 3) := by decide +kernel
theorem dX12_laysOrders_36 : decode cX12_laysOrders 36 = .ok (.bipush 6, 2) := by decide +kernel
theorem dX12_laysOrders_38 : decode cX12_laysOrders 38 = .ok (.iaload, 1) := by decide +kernel
theorem dX12_laysOrders_39 : decode cX12_laysOrders 39 = .ok (.iload_n 2, 1) := by decide +kernel
theorem dX12_laysOrders_40 : decode cX12_laysOrders 40 = .ok (.invokestatic 344, 3) := by decide +kernel
theorem dX12_laysOrders_43 : decode cX12_laysOrders 43 = .ok (.iadd, 1) := by decide +kernel
theorem dX12_laysOrders_44 : decode cX12_laysOrders 44 = .ok (.invokestatic 146, 3) := by decide +kernel
theorem dX12_laysOrders_47 : decode cX12_laysOrders 47 = .ok (.istore_n 3, 1) := by decide +kernel
theorem dX12_laysOrders_48 : decode cX12_laysOrders 48 = .ok (.iconst 0, 1) := by decide +kernel
theorem dX12_laysOrders_49 : decode cX12_laysOrders 49 = .ok (.istore 4, 2) := by decide +kernel
theorem dX12_laysOrders_51 : decode cX12_laysOrders 51 = .ok (.iload 4, 2) := by decide +kernel
theorem dX12_laysOrders_53 : decode cX12_laysOrders 53 = .ok (.aload_n 0, 1) := by decide +kernel
theorem dX12_laysOrders_54 : decode cX12_laysOrders 54 = .ok (.getfield 7, 3) := by decide +kernel
theorem dX12_laysOrders_57 : decode cX12_laysOrders 57 = .ok (.iconst 3, 1) := by decide +kernel
theorem dX12_laysOrders_58 : decode cX12_laysOrders 58 = .ok (.iaload, 1) := by decide +kernel
theorem dX12_laysOrders_59 : decode cX12_laysOrders 59 = .ok (.if_icmp .ge 69, 3) := by decide +kernel
theorem dX12_laysOrders_62 : decode cX12_laysOrders 62 = .ok (.aload_n 0, 1) := by decide +kernel
theorem dX12_laysOrders_63 : decode cX12_laysOrders 63 = .ok (.iload_n 1, 1) := by decide +kernel
theorem dX12_laysOrders_64 : decode cX12_laysOrders 64 = .ok (.iload_n 2, 1) := by decide +kernel
theorem dX12_laysOrders_65 : decode cX12_laysOrders 65 = .ok (.iconst (-1), 1) := by decide +kernel
theorem dX12_laysOrders_66 : decode cX12_laysOrders 66 = .ok (.ixor, 1) := by decide +kernel
theorem dX12_laysOrders_67 : decode cX12_laysOrders 67 = .ok (.iand, 1) := by decide +kernel
theorem dX12_laysOrders_68 : decode cX12_laysOrders 68 = .ok (.iload 4, 2) := by decide +kernel
theorem dX12_laysOrders_70 : decode cX12_laysOrders 70 = .ok (.invokevirtual 315, 3) := by decide +kernel
theorem dX12_laysOrders_73 : decode cX12_laysOrders 73 = .ok (.ifCond .ne 6, 3) := by decide +kernel
theorem dX12_laysOrders_76 : decode cX12_laysOrders 76 = .ok (.goto 46, 3) := by decide +kernel
theorem dX12_laysOrders_79 : decode cX12_laysOrders 79 = .ok (.aload_n 0, 1) := by decide +kernel
theorem dX12_laysOrders_80 : decode cX12_laysOrders 80 = .ok (.getfield 60, 3) := by decide +kernel
theorem dX12_laysOrders_83 : decode cX12_laysOrders 83 = .ok (.iload_n 2, 1) := by decide +kernel
theorem dX12_laysOrders_84 : decode cX12_laysOrders 84 = .ok (.aload_n 0, 1) := by decide +kernel
theorem dX12_laysOrders_85 : decode cX12_laysOrders 85 = .ok (.getfield 60, 3) := by decide +kernel
theorem dX12_laysOrders_88 : decode cX12_laysOrders 88 = .ok (.iload_n 2, 1) := by decide +kernel
theorem dX12_laysOrders_89 : decode cX12_laysOrders 89 = .ok (.iaload, 1) := by decide +kernel
theorem dX12_laysOrders_90 : decode cX12_laysOrders 90 = .ok (.aload_n 0, 1) := by decide +kernel
theorem dX12_laysOrders_91 : decode cX12_laysOrders 91 = .ok (.getfield 60, 3) := by decide +kernel
theorem dX12_laysOrders_94 : decode cX12_laysOrders 94 = .ok (.iload_n 2, 1) := by decide +kernel
theorem dX12_laysOrders_95 : decode cX12_laysOrders 95 = .ok (.iconst 1, 1) := by decide +kernel
theorem dX12_laysOrders_96 : decode cX12_laysOrders 96 = .ok (.iload 4, 2) := by decide +kernel
theorem dX12_laysOrders_98 : decode cX12_laysOrders 98 = .ok (.ishl, 1) := by decide +kernel
theorem dX12_laysOrders_99 : decode cX12_laysOrders 99 = .ok (.ior, 1) := by decide +kernel
theorem dX12_laysOrders_100 : decode cX12_laysOrders 100 = .ok (.iaload, 1) := by decide +kernel
theorem dX12_laysOrders_101 : decode cX12_laysOrders 101 = .ok (.aload_n 0, 1) := by decide +kernel
theorem dX12_laysOrders_102 : decode cX12_laysOrders 102 = .ok (.iload 4, 2) := by decide +kernel
theorem dX12_laysOrders_104 : decode cX12_laysOrders 104 = .ok (.iload_n 3, 1) := by decide +kernel
theorem dX12_laysOrders_105 : decode cX12_laysOrders 105 = .ok (.invokevirtual 443, 3) := by decide +kernel
theorem dX12_laysOrders_108 : decode cX12_laysOrders 108 = .ok (.iconst 2, 1) := by decide +kernel
theorem dX12_laysOrders_109 : decode cX12_laysOrders 109 = .ok (.if_icmp .ne 7, 3) := by decide +kernel
theorem dX12_laysOrders_112 : decode cX12_laysOrders 112 = .ok (.iconst 1, 1) := by decide +kernel
theorem dX12_laysOrders_113 : decode cX12_laysOrders 113 = .ok (.goto 4, 3) := by decide +kernel
theorem dX12_laysOrders_116 : decode cX12_laysOrders 116 = .ok (.iconst 0, 1) := by decide +kernel
theorem dX12_laysOrders_117 : decode cX12_laysOrders 117 = .ok (.iadd, 1) := by decide +kernel
theorem dX12_laysOrders_118 : decode cX12_laysOrders 118 = .ok (.invokestatic 409, 3) := by decide +kernel
theorem dX12_laysOrders_121 : decode cX12_laysOrders 121 = .ok (.iastore, 1) := by decide +kernel
theorem dX12_laysOrders_122 : decode cX12_laysOrders 122 = .ok (.iinc 4 1, 3) := by decide +kernel
theorem dX12_laysOrders_125 : decode cX12_laysOrders 125 = .ok (.goto (-74), 3) := by decide +kernel
theorem dX12_laysOrders_128 : decode cX12_laysOrders 128 = .ok (.iinc 2 (-1), 3) := by decide +kernel
theorem dX12_laysOrders_131 : decode cX12_laysOrders 131 = .ok (.goto (-123), 3) := by decide +kernel
theorem dX12_laysOrders_134 : decode cX12_laysOrders 134 = .ok (.iload_n 1, 1) := by decide +kernel
theorem dX12_laysOrders_135 : decode cX12_laysOrders 135 = .ok (.ireturn, 1) := by decide +kernel
set_option maxRecDepth 20000 in
theorem ggX12_best_X12_laysOrders : GoodIn wsX12_best wsX12_laysOrders := goodIn_r _ [6, 1, 7, 8, 9, 10, 11, 12, 13, 14, 15, 16, 17, 5, 18, 19, 20, 21, 22, 23, 24, 25, 26, 27, 28, 29, 30, 31, 32, 33, 34, 35, 36, 37, 38, 39, 40, 41, 42, 43, 44, 45, 46, 47, 48, 49, 50, 51, 52, 53, 54, 55, 56, 57, 58, 59, 60, 61, 62, 68, 69, 70, 71, 72, 73, 74, 75, 76, 77, 78, 79, 80, 81, 82, 83, 84, 85, 86, 87, 88, 89, 90, 91, 92, 93, 94, 95, 96, 97, 98, 99, 100, 101, 102, 103, 104, 105, 106, 107, 108, 109] (by decide +kernel) (by decide +kernel)
set_option maxRecDepth 20000 in
theorem gX12_best_X12_laysOrders : GoodIn wsX12_best (wsV RX12 455 RX12 yX12_laysOrders wsX12_laysOrders) := goodIn_app (goodIn_of _ (by decide +kernel)) ggX12_best_X12_laysOrders
set_option maxRecDepth 20000 in
theorem ggX12_best_X12_gives : GoodIn wsX12_best wsX12_gives := goodIn_r _ [66, 67, 68, 69, 70, 71, 72, 73, 74, 75, 76, 77, 78, 79, 80, 81, 82, 83, 84, 85, 86, 87, 88, 89, 90, 91, 92, 93, 94, 95, 96, 97, 98, 99, 100, 101, 102, 103, 104, 105, 106, 107, 108, 109] (by decide +kernel) (by decide +kernel)
set_option maxRecDepth 20000 in
theorem gX12_best_X12_gives : GoodIn wsX12_best (wsV RX12 95 RX12 yX12_gives wsX12_gives) := goodIn_app (goodIn_of _ (by decide +kernel)) ggX12_best_X12_gives
theorem dX12_best_0 : decode cX12_best 0 = .ok (.aload_n 0, 1) := by decide +kernel
theorem dX12_best_1 : decode cX12_best 1 = .ok (.invokevirtual 455, 3) := by decide +kernel
theorem dX12_best_4 : decode cX12_best 4 = .ok (.pop, 1) := by decide +kernel
theorem dX12_best_5 : decode cX12_best 5 = .ok (.aload_n 0, 1) := by decide +kernel
theorem dX12_best_6 : decode cX12_best 6 = .ok (.aload_n 0, 1) := by decide +kernel
theorem dX12_best_7 : decode cX12_best 7 = .ok (.getfield 60, 3) := by decide +kernel
theorem dX12_best_10 : decode cX12_best 10 = .ok (.iconst 0, 1) := by decide +kernel
theorem dX12_best_11 : decode cX12_best 11 = .ok (.iaload, 1) := by decide +kernel
theorem dX12_best_12 : decode cX12_best 12 = .ok (.invokevirtual 95, 3) := by decide +kernel
theorem dX12_best_15 : decode cX12_best 15 = .ok (.ireturn, 1) := by decide +kernel
set_option maxRecDepth 20000 in
theorem ggX12_bestAt_X12_refuse : GoodIn wsX12_bestAt wsX12_refuse := goodIn_r _ [11, 12, 72, 73, 74, 75, 76, 77, 78, 79, 80, 81, 82, 83, 84, 85, 86, 87, 88, 89, 90, 91, 92, 93, 94, 95, 96, 97, 98, 99, 100, 101, 102, 103, 104, 105, 106, 107, 108, 109, 110, 111, 112, 113] (by decide +kernel) (by decide +kernel)
set_option maxRecDepth 20000 in
theorem gX12_bestAt_X12_refuse : GoodIn wsX12_bestAt (wsV RX12 91 RX12 yX12_refuse wsX12_refuse) := goodIn_app (goodIn_of _ (by decide +kernel)) ggX12_bestAt_X12_refuse
set_option maxRecDepth 20000 in
theorem ggX12_bestAt_X12_laysOrders : GoodIn wsX12_bestAt wsX12_laysOrders := goodIn_r _ [16, 6, 1, 2, 3, 4, 5, 17, 18, 19, 20, 21, 22, 10, 23, 24, 25, 26, 27, 28, 29, 30, 31, 32, 33, 34, 35, 36, 37, 38, 39, 40, 41, 42, 43, 44, 45, 46, 47, 48, 49, 50, 51, 52, 53, 54, 55, 56, 57, 58, 59, 60, 61, 62, 63, 64, 65, 66, 67, 72, 73, 74, 75, 76, 77, 78, 79, 80, 81, 82, 83, 84, 85, 86, 87, 88, 89, 90, 91, 92, 93, 94, 95, 96, 97, 98, 99, 100, 101, 102, 103, 104, 105, 106, 107, 108, 109, 110, 111, 112, 113] (by decide +kernel) (by decide +kernel)
set_option maxRecDepth 20000 in
theorem gX12_bestAt_X12_laysOrders : GoodIn wsX12_bestAt (wsV RX12 455 RX12 yX12_laysOrders wsX12_laysOrders) := goodIn_app (goodIn_of _ (by decide +kernel)) ggX12_bestAt_X12_laysOrders
set_option maxRecDepth 20000 in
theorem ggX12_bestAt_X12_bits : GoodIn wsX12_bestAt wsX12_bits := goodIn_r _ [33] (by decide +kernel) (by decide +kernel)
set_option maxRecDepth 20000 in
theorem gX12_bestAt_X12_bits : GoodIn wsX12_bestAt (va_wsS RX12 344 yX12_bits wsX12_bits) := goodIn_app (goodIn_of _ (by decide +kernel)) ggX12_bestAt_X12_bits
set_option maxRecDepth 20000 in
theorem ggX12_bestAt_X12_isIn : GoodIn wsX12_bestAt wsX12_isIn := goodIn_r _ [37] (by decide +kernel) (by decide +kernel)
set_option maxRecDepth 20000 in
theorem gX12_bestAt_X12_isIn : GoodIn wsX12_bestAt (wsV RX12 315 RX12 yX12_isIn wsX12_isIn) := goodIn_app (goodIn_of _ (by decide +kernel)) ggX12_bestAt_X12_isIn
set_option maxRecDepth 20000 in
theorem ggX12_bestAt_X12_senseFor : GoodIn wsX12_bestAt wsX12_senseFor := goodIn_r _ [41, 1, 42, 43, 44, 10, 45, 46, 47, 48, 49, 24, 25, 26, 27, 28, 29, 30, 50, 51, 52, 53, 54, 55, 56, 57, 58, 59, 60, 61, 62, 63, 64, 34, 35, 36, 37, 65, 66, 67, 72, 73, 74, 75, 76, 77, 78, 79, 80, 81, 82, 83, 84, 85, 86, 87, 88, 89, 90, 91, 92, 93, 94, 95, 96, 97, 98, 99, 100, 101, 102, 103, 104, 105, 106, 107, 108, 109, 110, 111, 112, 113] (by decide +kernel) (by decide +kernel)
set_option maxRecDepth 20000 in
theorem gX12_bestAt_X12_senseFor : GoodIn wsX12_bestAt (wsV RX12 443 RX12 yX12_senseFor wsX12_senseFor) := goodIn_app (goodIn_of _ (by decide +kernel)) ggX12_bestAt_X12_senseFor
set_option maxRecDepth 20000 in
theorem ggX12_bestAt_X12_gives : GoodIn wsX12_bestAt wsX12_gives := goodIn_r _ [71, 12, 72, 73, 74, 75, 76, 77, 78, 79, 80, 81, 82, 83, 84, 85, 86, 87, 88, 89, 90, 91, 92, 93, 94, 95, 96, 97, 98, 99, 100, 101, 102, 103, 104, 105, 106, 107, 108, 109, 110, 111, 112, 113] (by decide +kernel) (by decide +kernel)
set_option maxRecDepth 20000 in
theorem gX12_bestAt_X12_gives : GoodIn wsX12_bestAt (wsV RX12 95 RX12 yX12_gives wsX12_gives) := goodIn_app (goodIn_of _ (by decide +kernel)) ggX12_bestAt_X12_gives
theorem dX12_bestAt_0 : decode cX12_bestAt 0 = .ok (.iload_n 1, 1) := by decide +kernel
theorem dX12_bestAt_1 : decode cX12_bestAt 1 = .ok (.ifCond .ge 9, 3) := by decide +kernel
theorem dX12_bestAt_4 : decode cX12_bestAt 4 = .ok (.aload_n 0, 1) := by decide +kernel
theorem dX12_bestAt_5 : decode cX12_bestAt 5 = .ok (.iconst 1, 1) := by decide +kernel
theorem dX12_bestAt_6 : decode cX12_bestAt 6 = .ok (.invokevirtual 91, 3) := by decide +kernel
theorem dX12_bestAt_9 : decode cX12_bestAt 9 = .ok (.ireturn, 1) := by decide +kernel
theorem dX12_bestAt_10 : decode cX12_bestAt 10 = .ok (.aload_n 0, 1) := by decide +kernel
theorem dX12_bestAt_11 : decode cX12_bestAt 11 = .ok (.invokevirtual 455, 3) := by decide +kernel
theorem dX12_bestAt_14 : decode cX12_bestAt 14 = .ok (.istore_n 2, 1) := by decide +kernel
theorem dX12_bestAt_15 : decode cX12_bestAt 15 = .ok (.iload_n 1, 1) := by decide +kernel
theorem dX12_bestAt_16 : decode cX12_bestAt 16 = .ok (.iload_n 2, 1) := by decide +kernel
theorem dX12_bestAt_17 : decode cX12_bestAt 17 = .ok (.invokestatic 344, 3) := by decide +kernel
theorem dX12_bestAt_20 : decode cX12_bestAt 20 = .ok (.if_icmp .lt 10, 3) := by decide +kernel
theorem dX12_bestAt_23 : decode cX12_bestAt 23 = .ok (.aload_n 0, 1) := by decide +kernel
theorem dX12_bestAt_24 : decode cX12_bestAt 24 = .ok (.bipush 6, 2) := by decide +kernel
theorem dX12_bestAt_26 : decode cX12_bestAt 26 = .ok (.invokevirtual 91, 3) := by decide +kernel
theorem dX12_bestAt_29 : decode cX12_bestAt 29 = .ok (.ireturn, 1) := by decide +kernel
theorem dX12_bestAt_30 : decode cX12_bestAt 30 = .ok (.iconst 0, 1) := by decide +kernel
theorem dX12_bestAt_31 : decode cX12_bestAt 31 = .ok (.istore_n 3, 1) := by decide +kernel
theorem dX12_bestAt_32 : decode cX12_bestAt 32 = .ok (.iconst (-1), 1) := by decide +kernel
theorem dX12_bestAt_33 : decode cX12_bestAt 33 = .ok (.istore 4, 2) := by decide +kernel
theorem dX12_bestAt_35 : decode cX12_bestAt 35 = .ok (.iconst 0, 1) := by decide +kernel
theorem dX12_bestAt_36 : decode cX12_bestAt 36 = .ok (.istore 5, 2) := by decide +kernel
theorem dX12_bestAt_38 : decode cX12_bestAt 38 = .ok (.iload 5, 2) := by decide +kernel
theorem dX12_bestAt_40 : decode cX12_bestAt 40 = .ok (.iload_n 1, 1) := by decide +kernel
theorem dX12_bestAt_41 : decode cX12_bestAt 41 = .ok (.if_icmp .gt 96, 3) := by decide +kernel
theorem dX12_bestAt_44 : decode cX12_bestAt 44 = .ok (.bipush 9, 2) := by decide +kernel
theorem dX12_bestAt_46 : decode cX12_bestAt 46 = .ok (.aload_n 0, 1) := by decide +kernel
theorem dX12_bestAt_47 : decode cX12_bestAt 47 = .ok (.getfield 7, 3) := by decide +kernel
theorem dX12_bestAt_50 : decode cX12_bestAt 50 = .ok (.bipush 6, 2) := by decide +kernel
theorem dX12_bestAt_52 : decode cX12_bestAt 52 = .ok (.iaload, 1) := by decide +kernel
theorem dX12_bestAt_53 : decode cX12_bestAt 53 = .ok (.iload_n 3, 1) := by decide +kernel
theorem dX12_bestAt_54 : decode cX12_bestAt 54 = .ok (.invokestatic 344, 3) := by decide +kernel
theorem dX12_bestAt_57 : decode cX12_bestAt 57 = .ok (.iadd, 1) := by decide +kernel
theorem dX12_bestAt_58 : decode cX12_bestAt 58 = .ok (.invokestatic 146, 3) := by decide +kernel
theorem dX12_bestAt_61 : decode cX12_bestAt 61 = .ok (.istore 6, 2) := by decide +kernel
theorem dX12_bestAt_63 : decode cX12_bestAt 63 = .ok (.iconst 0, 1) := by decide +kernel
theorem dX12_bestAt_64 : decode cX12_bestAt 64 = .ok (.istore 4, 2) := by decide +kernel
theorem dX12_bestAt_66 : decode cX12_bestAt 66 = .ok (.aload_n 0, 1) := by decide +kernel
theorem dX12_bestAt_67 : decode cX12_bestAt 67 = .ok (.iload_n 2, 1) := by decide +kernel
theorem dX12_bestAt_68 : decode cX12_bestAt 68 = .ok (.iload_n 3, 1) := by decide +kernel
theorem dX12_bestAt_69 : decode cX12_bestAt 69 = .ok (.iconst (-1), 1) := by decide +kernel
theorem dX12_bestAt_70 : decode cX12_bestAt 70 = .ok (.ixor, 1) := by decide +kernel
theorem dX12_bestAt_71 : decode cX12_bestAt 71 = .ok (.iand, 1) := by decide +kernel
theorem dX12_bestAt_72 : decode cX12_bestAt 72 = .ok (.iload 4, 2) := by decide +kernel
theorem dX12_bestAt_74 : decode cX12_bestAt 74 = .ok (.invokevirtual 315, 3) := by decide +kernel
theorem dX12_bestAt_77 : decode cX12_bestAt 77 = .ok (.ifCond .eq 41, 3) := by decide +kernel
theorem dX12_bestAt_80 : decode cX12_bestAt 80 = .ok (.aload_n 0, 1) := by decide +kernel
theorem dX12_bestAt_81 : decode cX12_bestAt 81 = .ok (.getfield 60, 3) := by decide +kernel
theorem dX12_bestAt_84 : decode cX12_bestAt 84 = .ok (.iload_n 3, 1) := by decide +kernel
theorem dX12_bestAt_85 : decode cX12_bestAt 85 = .ok (.iconst 1, 1) := by decide +kernel
theorem dX12_bestAt_86 : decode cX12_bestAt 86 = .ok (.iload 4, 2) := by decide +kernel
theorem dX12_bestAt_88 : decode cX12_bestAt 88 = .ok (.ishl, 1) := by decide +kernel
theorem dX12_bestAt_89 : decode cX12_bestAt 89 = .ok (.ior, 1) := by decide +kernel
theorem dX12_bestAt_90 : decode cX12_bestAt 90 = .ok (.iaload, 1) := by decide +kernel
theorem dX12_bestAt_91 : decode cX12_bestAt 91 = .ok (.aload_n 0, 1) := by decide +kernel
theorem dX12_bestAt_92 : decode cX12_bestAt 92 = .ok (.iload 4, 2) := by decide +kernel
theorem dX12_bestAt_94 : decode cX12_bestAt 94 = .ok (.iload 6, 2) := by decide +kernel
theorem dX12_bestAt_96 : decode cX12_bestAt 96 = .ok (.invokevirtual 443, 3) := by decide +kernel
theorem dX12_bestAt_99 : decode cX12_bestAt 99 = .ok (.iconst 2, 1) := by decide +kernel
theorem dX12_bestAt_100 : decode cX12_bestAt 100 = .ok (.if_icmp .ne 7, 3) := by decide +kernel
theorem dX12_bestAt_103 : decode cX12_bestAt 103 = .ok (.iconst 1, 1) := by decide +kernel
theorem dX12_bestAt_104 : decode cX12_bestAt 104 = .ok (.goto 4, 3) := by decide +kernel
theorem dX12_bestAt_107 : decode cX12_bestAt 107 = .ok (.iconst 0, 1) := by decide +kernel
theorem dX12_bestAt_108 : decode cX12_bestAt 108 = .ok (.iadd, 1) := by decide +kernel
theorem dX12_bestAt_109 : decode cX12_bestAt 109 = .ok (.aload_n 0, 1) := by decide +kernel
theorem dX12_bestAt_110 : decode cX12_bestAt 110 = .ok (.getfield 60, 3) := by decide +kernel
theorem dX12_bestAt_113 : decode cX12_bestAt 113 = .ok (.iload_n 3, 1) := by decide +kernel
theorem dX12_bestAt_114 : decode cX12_bestAt 114 = .ok (.iaload, 1) := by decide +kernel
theorem dX12_bestAt_115 : decode cX12_bestAt 115 = .ok (.if_icmp .eq 9, 3) := by decide +kernel
theorem dX12_bestAt_118 : decode cX12_bestAt 118 = .ok (.iinc 4 1, 3) := by decide +kernel
theorem dX12_bestAt_121 : decode cX12_bestAt 121 = .ok (.goto (-55), 3) := by decide +kernel
theorem dX12_bestAt_124 : decode cX12_bestAt 124 = .ok (.iload_n 3, 1) := by decide +kernel
theorem dX12_bestAt_125 : decode cX12_bestAt 125 = .ok (.iconst 1, 1) := by decide +kernel
theorem dX12_bestAt_126 : decode cX12_bestAt 126 = .ok (.iload 4, 2) := by decide +kernel
theorem dX12_bestAt_128 : decode cX12_bestAt 128 = .ok (.ishl, 1) := by decide +kernel
theorem dX12_bestAt_129 : decode cX12_bestAt 129 = .ok (.ior, 1) := by decide +kernel
theorem dX12_bestAt_130 : decode cX12_bestAt 130 = .ok (.istore_n 3, 1) := by decide +kernel
theorem dX12_bestAt_131 : decode cX12_bestAt 131 = .ok (.iinc 5 1, 3) := by decide +kernel
theorem dX12_bestAt_134 : decode cX12_bestAt 134 = .ok (.goto (-96), 3) := by decide +kernel
theorem dX12_bestAt_137 : decode cX12_bestAt 137 = .ok (.aload_n 0, 1) := by decide +kernel
theorem dX12_bestAt_138 : decode cX12_bestAt 138 = .ok (.iload 4, 2) := by decide +kernel
theorem dX12_bestAt_140 : decode cX12_bestAt 140 = .ok (.invokevirtual 95, 3) := by decide +kernel
theorem dX12_bestAt_143 : decode cX12_bestAt 143 = .ok (.ireturn, 1) := by decide +kernel
set_option maxRecDepth 20000 in
theorem ggX12_standing_X12_senseFor : GoodIn wsX12_standing wsX12_senseFor := goodIn_r _ [6, 1, 7, 8, 9, 5, 10, 11, 12, 13, 14, 15, 16, 17, 18, 19, 20, 21, 22, 23, 24, 25, 26, 27, 28, 29, 30, 31, 32, 33, 34, 35, 36, 37, 38, 39, 40, 41, 42, 43, 44, 45, 46, 47, 48, 49, 50, 51, 52, 53, 54, 55, 56, 57, 58, 59, 60, 61, 62, 63, 64, 65, 66, 67, 68, 69, 70, 71, 72, 73, 74, 75, 76, 77, 78, 79, 80, 81, 82, 83, 84, 85] (by decide +kernel) (by decide +kernel)
set_option maxRecDepth 20000 in
theorem gX12_standing_X12_senseFor : GoodIn wsX12_standing (wsV RX12 443 RX12 yX12_senseFor wsX12_senseFor) := goodIn_app (goodIn_of _ (by decide +kernel)) ggX12_standing_X12_senseFor
theorem dX12_standing_0 : decode cX12_standing 0 = .ok (.iconst 0, 1) := by decide +kernel
theorem dX12_standing_1 : decode cX12_standing 1 = .ok (.istore_n 1, 1) := by decide +kernel
theorem dX12_standing_2 : decode cX12_standing 2 = .ok (.iconst 0, 1) := by decide +kernel
theorem dX12_standing_3 : decode cX12_standing 3 = .ok (.istore_n 2, 1) := by decide +kernel
theorem dX12_standing_4 : decode cX12_standing 4 = .ok (.iload_n 2, 1) := by decide +kernel
theorem dX12_standing_5 : decode cX12_standing 5 = .ok (.aload_n 0, 1) := by decide +kernel
theorem dX12_standing_6 : decode cX12_standing 6 = .ok (.getfield 7, 3) := by decide +kernel
theorem dX12_standing_9 : decode cX12_standing 9 = .ok (.iconst 3, 1) := by decide +kernel
theorem dX12_standing_10 : decode cX12_standing 10 = .ok (.iaload, 1) := by decide +kernel
theorem dX12_standing_11 : decode cX12_standing 11 = .ok (.if_icmp .ge 44, 3) := by decide +kernel
theorem dX12_standing_14 : decode cX12_standing 14 = .ok (.aload_n 0, 1) := by decide +kernel
theorem dX12_standing_15 : decode cX12_standing 15 = .ok (.iload_n 2, 1) := by decide +kernel
theorem dX12_standing_16 : decode cX12_standing 16 = .ok (.aload_n 0, 1) := by decide +kernel
theorem dX12_standing_17 : decode cX12_standing 17 = .ok (.getfield 7, 3) := by decide +kernel
theorem dX12_standing_20 : decode cX12_standing 20 = .ok (.bipush 6, 2) := by decide +kernel
theorem dX12_standing_22 : decode cX12_standing 22 = .ok (.iaload, 1) := by decide +kernel
theorem dX12_standing_23 : decode cX12_standing 23 = .ok (.invokevirtual 443, 3) := by decide +kernel
theorem dX12_standing_26 : decode cX12_standing 26 = .ok (.istore_n 3, 1) := by decide +kernel
theorem dX12_standing_27 : decode cX12_standing 27 = .ok (.iload_n 1, 1) := by decide +kernel
theorem dX12_standing_28 : decode cX12_standing 28 = .ok (.iload_n 3, 1) := by decide +kernel
theorem dX12_standing_29 : decode cX12_standing 29 = .ok (.iconst 2, 1) := by decide +kernel
theorem dX12_standing_30 : decode cX12_standing 30 = .ok (.if_icmp .ne 7, 3) := by decide +kernel
theorem dX12_standing_33 : decode cX12_standing 33 = .ok (.iconst 1, 1) := by decide +kernel
theorem dX12_standing_34 : decode cX12_standing 34 = .ok (.goto 13, 3) := by decide +kernel
theorem dX12_standing_37 : decode cX12_standing 37 = .ok (.iload_n 3, 1) := by decide +kernel
theorem dX12_standing_38 : decode cX12_standing 38 = .ok (.iconst 1, 1) := by decide +kernel
theorem dX12_standing_39 : decode cX12_standing 39 = .ok (.if_icmp .ne 7, 3) := by decide +kernel
theorem dX12_standing_42 : decode cX12_standing 42 = .ok (.iconst (-1), 1) := by decide +kernel
theorem dX12_standing_43 : decode cX12_standing 43 = .ok (.goto 4, 3) := by decide +kernel
theorem dX12_standing_46 : decode cX12_standing 46 = .ok (.iconst 0, 1) := by decide +kernel
theorem dX12_standing_47 : decode cX12_standing 47 = .ok (.iadd, 1) := by decide +kernel
theorem dX12_standing_48 : decode cX12_standing 48 = .ok (.istore_n 1, 1) := by decide +kernel
theorem dX12_standing_49 : decode cX12_standing 49 = .ok (.iinc 2 1, 3) := by decide +kernel
theorem dX12_standing_52 : decode cX12_standing 52 = .ok (.goto (-48), 3) := by decide +kernel
theorem dX12_standing_55 : decode cX12_standing 55 = .ok (.iload_n 1, 1) := by decide +kernel
theorem dX12_standing_56 : decode cX12_standing 56 = .ok (.ireturn, 1) := by decide +kernel
theorem dX12_settles_0 : decode cX12_settles 0 = .ok (.aload_n 0, 1) := by decide +kernel
theorem dX12_settles_1 : decode cX12_settles 1 = .ok (.getfield 69, 3) := by decide +kernel
theorem dX12_settles_4 : decode cX12_settles 4 = .ok (.iload_n 1, 1) := by decide +kernel
theorem dX12_settles_5 : decode cX12_settles 5 = .ok (.iaload, 1) := by decide +kernel
theorem dX12_settles_6 : decode cX12_settles 6 = .ok (.iconst (-1), 1) := by decide +kernel
theorem dX12_settles_7 : decode cX12_settles 7 = .ok (.if_icmp .ne 7, 3) := by decide +kernel
theorem dX12_settles_10 : decode cX12_settles 10 = .ok (.iconst 1, 1) := by decide +kernel
theorem dX12_settles_11 : decode cX12_settles 11 = .ok (.goto 4, 3) := by decide +kernel
theorem dX12_settles_14 : decode cX12_settles 14 = .ok (.iconst 0, 1) := by decide +kernel
theorem dX12_settles_15 : decode cX12_settles 15 = .ok (.istore_n 3, 1) := by decide +kernel
theorem dX12_settles_16 : decode cX12_settles 16 = .ok (.iload_n 3, 1) := by decide +kernel
theorem dX12_settles_17 : decode cX12_settles 17 = .ok (.ifCond .ne 33, 3) := by decide +kernel
theorem dX12_settles_20 : decode cX12_settles 20 = .ok (.iload_n 1, 1) := by decide +kernel
theorem dX12_settles_21 : decode cX12_settles 21 = .ok (.iconst 2, 1) := by decide +kernel
theorem dX12_settles_22 : decode cX12_settles 22 = .ok (.irem, 1) := by decide +kernel
theorem dX12_settles_23 : decode cX12_settles 23 = .ok (.ifCond .ne 16, 3) := by decide +kernel
theorem dX12_settles_26 : decode cX12_settles 26 = .ok (.iload_n 2, 1) := by decide +kernel
theorem dX12_settles_27 : decode cX12_settles 27 = .ok (.aload_n 0, 1) := by decide +kernel
theorem dX12_settles_28 : decode cX12_settles 28 = .ok (.getfield 66, 3) := by decide +kernel
theorem dX12_settles_31 : decode cX12_settles 31 = .ok (.iload_n 1, 1) := by decide +kernel
theorem dX12_settles_32 : decode cX12_settles 32 = .ok (.iaload, 1) := by decide +kernel
theorem dX12_settles_33 : decode cX12_settles 33 = .ok (.if_icmp .gt 17, 3) := by decide +kernel
theorem dX12_settles_36 : decode cX12_settles 36 = .ok (.goto 13, 3) := by decide +kernel
theorem dX12_settles_39 : decode cX12_settles 39 = .ok (.iload_n 2, 1) := by decide +kernel
theorem dX12_settles_40 : decode cX12_settles 40 = .ok (.aload_n 0, 1) := by decide +kernel
theorem dX12_settles_41 : decode cX12_settles 41 = .ok (.getfield 66, 3) := by decide +kernel
theorem dX12_settles_44 : decode cX12_settles 44 = .ok (.iload_n 1, 1) := by decide +kernel
theorem dX12_settles_45 : decode cX12_settles 45 = .ok (.iaload, 1) := by decide +kernel
theorem dX12_settles_46 : decode cX12_settles 46 = .ok (.if_icmp .lt 4, 3) := by decide +kernel
theorem dX12_settles_49 : decode cX12_settles 49 = .ok (.return_, 1) := by decide +kernel
theorem dX12_settles_50 : decode cX12_settles 50 = .ok (.aload_n 0, 1) := by decide +kernel
theorem dX12_settles_51 : decode cX12_settles 51 = .ok (.getfield 66, 3) := by decide +kernel
theorem dX12_settles_54 : decode cX12_settles 54 = .ok (.iload_n 1, 1) := by decide +kernel
theorem dX12_settles_55 : decode cX12_settles 55 = .ok (.iload_n 2, 1) := by decide +kernel
theorem dX12_settles_56 : decode cX12_settles 56 = .ok (.iastore, 1) := by decide +kernel
theorem dX12_settles_57 : decode cX12_settles 57 = .ok (.aload_n 0, 1) := by decide +kernel
theorem dX12_settles_58 : decode cX12_settles 58 = .ok (.getfield 69, 3) := by decide +kernel
theorem dX12_settles_61 : decode cX12_settles 61 = .ok (.iload_n 1, 1) := by decide +kernel
theorem dX12_settles_62 : decode cX12_settles 62 = .ok (.aload_n 0, 1) := by decide +kernel
theorem dX12_settles_63 : decode cX12_settles 63 = .ok (.getfield 63, 3) := by decide +kernel
theorem dX12_settles_66 : decode cX12_settles 66 = .ok (.iload_n 1, 1) := by decide +kernel
theorem dX12_settles_67 : decode cX12_settles 67 = .ok (.iaload, 1) := by decide +kernel
theorem dX12_settles_68 : decode cX12_settles 68 = .ok (.iastore, 1) := by decide +kernel
theorem dX12_settles_69 : decode cX12_settles 69 = .ok (.return_, 1) := by decide +kernel
theorem dX12_deeds_0 : decode cX12_deeds 0 = .ok (.aload_n 0, 1) := by decide +kernel
theorem dX12_deeds_1 : decode cX12_deeds 1 = .ok (.getfield 7, 3) := by decide +kernel
theorem dX12_deeds_4 : decode cX12_deeds 4 = .ok (.iconst 3, 1) := by decide +kernel
theorem dX12_deeds_5 : decode cX12_deeds 5 = .ok (.iaload, 1) := by decide +kernel
theorem dX12_deeds_6 : decode cX12_deeds 6 = .ok (.iconst 1, 1) := by decide +kernel
theorem dX12_deeds_7 : decode cX12_deeds 7 = .ok (.aload_n 0, 1) := by decide +kernel
theorem dX12_deeds_8 : decode cX12_deeds 8 = .ok (.getfield 7, 3) := by decide +kernel
theorem dX12_deeds_11 : decode cX12_deeds 11 = .ok (.iconst 0, 1) := by decide +kernel
theorem dX12_deeds_12 : decode cX12_deeds 12 = .ok (.iaload, 1) := by decide +kernel
theorem dX12_deeds_13 : decode cX12_deeds 13 = .ok (.iadd, 1) := by decide +kernel
theorem dX12_deeds_14 : decode cX12_deeds 14 = .ok (.imul, 1) := by decide +kernel
theorem dX12_deeds_15 : decode cX12_deeds 15 = .ok (.ireturn, 1) := by decide +kernel
set_option maxRecDepth 20000 in
theorem ggX12_doesDeed_X12_deeds : GoodIn wsX12_doesDeed wsX12_deeds := goodIn_r _ [6, 1, 30, 31, 32, 33, 34, 35, 36, 37, 38, 39, 40, 41, 42, 43, 44, 45, 46, 47, 48, 49, 50, 51, 52, 53, 54, 55, 56, 57, 58, 59, 60, 61, 62, 63, 64, 65, 66, 67, 68, 69, 70, 71] (by decide +kernel) (by decide +kernel)
set_option maxRecDepth 20000 in
theorem gX12_doesDeed_X12_deeds : GoodIn wsX12_doesDeed (wsV RX12 458 RX12 yX12_deeds wsX12_deeds) := goodIn_app (goodIn_of _ (by decide +kernel)) ggX12_doesDeed_X12_deeds
set_option maxRecDepth 20000 in
theorem ggX12_doesDeed_X12_meals : GoodIn wsX12_doesDeed wsX12_meals := goodIn_r _ [10, 1, 11, 12, 13, 14, 15, 16, 5, 17, 30, 31, 32, 33, 34, 35, 36, 37, 38, 39, 40, 41, 42, 43, 44, 45, 46, 47, 48, 49, 50, 51, 52, 53, 54, 55, 56, 57, 58, 59, 60, 61, 62, 63, 64, 65, 66, 67, 68, 69, 70, 71] (by decide +kernel) (by decide +kernel)
set_option maxRecDepth 20000 in
theorem gX12_doesDeed_X12_meals : GoodIn wsX12_doesDeed (wsV RX12 355 RX12 yX12_meals wsX12_meals) := goodIn_app (goodIn_of _ (by decide +kernel)) ggX12_doesDeed_X12_meals
set_option maxRecDepth 20000 in
theorem ggX12_doesDeed_X12_personOf : GoodIn wsX12_doesDeed wsX12_personOf := goodIn_r _ [21, 1, 15, 16, 5, 17, 30, 31, 32, 33, 34, 35, 36, 37, 38, 39, 40, 41, 42, 43, 44, 45, 46, 47, 48, 49, 50, 51, 52, 53, 54, 55, 56, 57, 58, 59, 60, 61, 62, 63, 64, 65, 66, 67, 68, 69, 70, 71] (by decide +kernel) (by decide +kernel)
set_option maxRecDepth 20000 in
theorem gX12_doesDeed_X12_personOf : GoodIn wsX12_doesDeed (wsV RX12 281 RX12 yX12_personOf wsX12_personOf) := goodIn_app (goodIn_of _ (by decide +kernel)) ggX12_doesDeed_X12_personOf
set_option maxRecDepth 20000 in
theorem ggX12_doesDeed_X12_isIn : GoodIn wsX12_doesDeed wsX12_isIn := goodIn_r _ [25] (by decide +kernel) (by decide +kernel)
set_option maxRecDepth 20000 in
theorem gX12_doesDeed_X12_isIn : GoodIn wsX12_doesDeed (wsV RX12 315 RX12 yX12_isIn wsX12_isIn) := goodIn_app (goodIn_of _ (by decide +kernel)) ggX12_doesDeed_X12_isIn
set_option maxRecDepth 20000 in
theorem ggX12_doesDeed_X12_scents : GoodIn wsX12_doesDeed wsX12_scents := goodIn_r _ [29, 1, 18, 19, 20, 5, 21, 15, 16, 17, 22, 23, 24, 25, 30, 31, 32, 33, 34, 35, 36, 37, 38, 39, 40, 41, 42, 43, 44, 45, 46, 47, 48, 49, 50, 51, 52, 53, 54, 55, 56, 57, 58, 59, 60, 61, 62, 63, 64, 65, 66, 67, 68, 69, 70, 71] (by decide +kernel) (by decide +kernel)
set_option maxRecDepth 20000 in
theorem gX12_doesDeed_X12_scents : GoodIn wsX12_doesDeed (wsV RX12 361 RX12 yX12_scents wsX12_scents) := goodIn_app (goodIn_of _ (by decide +kernel)) ggX12_doesDeed_X12_scents
theorem dX12_doesDeed_0 : decode cX12_doesDeed 0 = .ok (.iload_n 1, 1) := by decide +kernel
theorem dX12_doesDeed_1 : decode cX12_doesDeed 1 = .ok (.aload_n 0, 1) := by decide +kernel
theorem dX12_doesDeed_2 : decode cX12_doesDeed 2 = .ok (.invokevirtual 458, 3) := by decide +kernel
theorem dX12_doesDeed_5 : decode cX12_doesDeed 5 = .ok (.if_icmp .ne 5, 3) := by decide +kernel
theorem dX12_doesDeed_8 : decode cX12_doesDeed 8 = .ok (.iconst 1, 1) := by decide +kernel
theorem dX12_doesDeed_9 : decode cX12_doesDeed 9 = .ok (.ireturn, 1) := by decide +kernel
theorem dX12_doesDeed_10 : decode cX12_doesDeed 10 = .ok (.iload_n 1, 1) := by decide +kernel
theorem dX12_doesDeed_11 : decode cX12_doesDeed 11 = .ok (.iconst 1, 1) := by decide +kernel
theorem dX12_doesDeed_12 : decode cX12_doesDeed 12 = .ok (.aload_n 0, 1) := by decide +kernel
theorem dX12_doesDeed_13 : decode cX12_doesDeed 13 = .ok (.getfield 7, 3) := by decide +kernel
theorem dX12_doesDeed_16 : decode cX12_doesDeed 16 = .ok (.iconst 0, 1) := by decide +kernel
theorem dX12_doesDeed_17 : decode cX12_doesDeed 17 = .ok (.iaload, 1) := by decide +kernel
theorem dX12_doesDeed_18 : decode cX12_doesDeed 18 = .ok (.iadd, 1) := by decide +kernel
theorem dX12_doesDeed_19 : decode cX12_doesDeed 19 = .ok (.idiv, 1) := by decide +kernel
theorem dX12_doesDeed_20 : decode cX12_doesDeed 20 = .ok (.istore_n 2, 1) := by decide +kernel
theorem dX12_doesDeed_21 : decode cX12_doesDeed 21 = .ok (.iload_n 1, 1) := by decide +kernel
theorem dX12_doesDeed_22 : decode cX12_doesDeed 22 = .ok (.iconst 1, 1) := by decide +kernel
theorem dX12_doesDeed_23 : decode cX12_doesDeed 23 = .ok (.aload_n 0, 1) := by decide +kernel
theorem dX12_doesDeed_24 : decode cX12_doesDeed 24 = .ok (.getfield 7, 3) := by decide +kernel
theorem dX12_doesDeed_27 : decode cX12_doesDeed 27 = .ok (.iconst 0, 1) := by decide +kernel
theorem dX12_doesDeed_28 : decode cX12_doesDeed 28 = .ok (.iaload, 1) := by decide +kernel
theorem dX12_doesDeed_29 : decode cX12_doesDeed 29 = .ok (.iadd, 1) := by decide +kernel
theorem dX12_doesDeed_30 : decode cX12_doesDeed 30 = .ok (.irem, 1) := by decide +kernel
theorem dX12_doesDeed_31 : decode cX12_doesDeed 31 = .ok (.iconst 1, 1) := by decide +kernel
theorem dX12_doesDeed_32 : decode cX12_doesDeed 32 = .ok (.isub, 1) := by decide +kernel
theorem dX12_doesDeed_33 : decode cX12_doesDeed 33 = .ok (.istore_n 3, 1) := by decide +kernel
theorem dX12_doesDeed_34 : decode cX12_doesDeed 34 = .ok (.iload_n 3, 1) := by decide +kernel
theorem dX12_doesDeed_35 : decode cX12_doesDeed 35 = .ok (.ifCond .ge 12, 3) := by decide +kernel
theorem dX12_doesDeed_38 : decode cX12_doesDeed 38 = .ok (.aload_n 0, 1) := by decide +kernel
theorem dX12_doesDeed_39 : decode cX12_doesDeed 39 = .ok (.iload_n 2, 1) := by decide +kernel
theorem dX12_doesDeed_40 : decode cX12_doesDeed 40 = .ok (.iconst 1, 1) := by decide +kernel
theorem dX12_doesDeed_41 : decode cX12_doesDeed 41 = .ok (.invokevirtual 355, 3) := by decide +kernel
theorem dX12_doesDeed_44 : decode cX12_doesDeed 44 = .ok (.goto 28, 3) := by decide +kernel
theorem dX12_doesDeed_47 : decode cX12_doesDeed 47 = .ok (.aload_n 0, 1) := by decide +kernel
theorem dX12_doesDeed_48 : decode cX12_doesDeed 48 = .ok (.iload_n 2, 1) := by decide +kernel
theorem dX12_doesDeed_49 : decode cX12_doesDeed 49 = .ok (.iload_n 3, 1) := by decide +kernel
theorem dX12_doesDeed_50 : decode cX12_doesDeed 50 = .ok (.aload_n 0, 1) := by decide +kernel
theorem dX12_doesDeed_51 : decode cX12_doesDeed 51 = .ok (.aload_n 0, 1) := by decide +kernel
theorem dX12_doesDeed_52 : decode cX12_doesDeed 52 = .ok (.iload_n 2, 1) := by decide +kernel
theorem dX12_doesDeed_53 : decode cX12_doesDeed 53 = .ok (.iconst 1, 1) := by decide +kernel
theorem dX12_doesDeed_54 : decode cX12_doesDeed 54 = .ok (.invokevirtual 281, 3) := by decide +kernel
theorem dX12_doesDeed_57 : decode cX12_doesDeed 57 = .ok (.iload_n 3, 1) := by decide +kernel
theorem dX12_doesDeed_58 : decode cX12_doesDeed 58 = .ok (.invokevirtual 315, 3) := by decide +kernel
theorem dX12_doesDeed_61 : decode cX12_doesDeed 61 = .ok (.ifCond .ne 7, 3) := by decide +kernel
theorem dX12_doesDeed_64 : decode cX12_doesDeed 64 = .ok (.iconst 1, 1) := by decide +kernel
theorem dX12_doesDeed_65 : decode cX12_doesDeed 65 = .ok (.goto 4, 3) := by decide +kernel
theorem dX12_doesDeed_68 : decode cX12_doesDeed 68 = .ok (.iconst 0, 1) := by decide +kernel
theorem dX12_doesDeed_69 : decode cX12_doesDeed 69 = .ok (.invokevirtual 361, 3) := by decide +kernel
theorem dX12_doesDeed_72 : decode cX12_doesDeed 72 = .ok (.ireturn, 1) := by decide +kernel
set_option maxRecDepth 20000 in
theorem ggX12_playing_X12_standing : GoodIn wsX12_playing wsX12_standing := goodIn_r _ [8, 9, 10, 11, 12, 7, 13, 14, 15, 16, 17, 18, 19, 20, 21, 22, 23, 24, 25, 26, 27, 28, 29, 30, 31, 32, 33, 34, 35, 36, 37, 38, 39, 40, 41, 42, 43, 44, 45, 46, 47, 48, 49, 50, 86, 87, 88, 89, 90, 91, 92, 93, 94, 95, 96, 97, 98, 99, 100, 101, 102, 103, 104, 105, 106, 107, 108, 109, 110, 111, 112, 113, 114, 115, 116, 117, 118, 119, 120, 121, 122, 123, 124, 125, 126, 127] (by decide +kernel) (by decide +kernel)
set_option maxRecDepth 20000 in
theorem gX12_playing_X12_standing : GoodIn wsX12_playing (wsV RX12 461 RX12 yX12_standing wsX12_standing) := goodIn_app (goodIn_of _ (by decide +kernel)) ggX12_playing_X12_standing
set_option maxRecDepth 20000 in
theorem ggX12_playing_X12_levelAt : GoodIn wsX12_playing wsX12_levelAt := goodIn_r _ [53] (by decide +kernel) (by decide +kernel)
set_option maxRecDepth 20000 in
theorem gX12_playing_X12_levelAt : GoodIn wsX12_playing (va_wsS RX12 464 yX12_levelAt wsX12_levelAt) := goodIn_app (goodIn_of _ (by decide +kernel)) ggX12_playing_X12_levelAt
set_option maxRecDepth 20000 in
theorem ggX12_playing_X12_keeps : GoodIn wsX12_playing wsX12_keeps := goodIn_r _ [57, 9, 86, 87, 88, 89, 90, 91, 92, 93, 94, 95, 96, 97, 98, 99, 100, 101, 102, 103, 104, 105, 106, 107, 108, 109, 110, 111, 112, 113, 114, 115, 116, 117, 118, 119, 120, 121, 122, 123, 124, 125, 126, 127] (by decide +kernel) (by decide +kernel)
set_option maxRecDepth 20000 in
theorem gX12_playing_X12_keeps : GoodIn wsX12_playing (wsV RX12 374 RX12 yX12_keeps wsX12_keeps) := goodIn_app (goodIn_of _ (by decide +kernel)) ggX12_playing_X12_keeps
set_option maxRecDepth 20000 in
theorem ggX12_playing_X12_restores : GoodIn wsX12_playing wsX12_restores := goodIn_r _ [61, 9, 86, 87, 88, 89, 90, 91, 92, 93, 94, 95, 96, 97, 98, 99, 100, 101, 102, 103, 104, 105, 106, 107, 108, 109, 110, 111, 112, 113, 114, 115, 116, 117, 118, 119, 120, 121, 122, 123, 124, 125, 126, 127] (by decide +kernel) (by decide +kernel)
set_option maxRecDepth 20000 in
theorem gX12_playing_X12_restores : GoodIn wsX12_playing (wsV RX12 377 RX12 yX12_restores wsX12_restores) := goodIn_app (goodIn_of _ (by decide +kernel)) ggX12_playing_X12_restores
set_option maxRecDepth 20000 in
theorem ggX12_playing_X12_deeds : GoodIn wsX12_playing wsX12_deeds := goodIn_r _ [65, 9, 86, 87, 88, 89, 90, 91, 92, 93, 94, 95, 96, 97, 98, 99, 100, 101, 102, 103, 104, 105, 106, 107, 108, 109, 110, 111, 112, 113, 114, 115, 116, 117, 118, 119, 120, 121, 122, 123, 124, 125, 126, 127] (by decide +kernel) (by decide +kernel)
set_option maxRecDepth 20000 in
theorem gX12_playing_X12_deeds : GoodIn wsX12_playing (wsV RX12 458 RX12 yX12_deeds wsX12_deeds) := goodIn_app (goodIn_of _ (by decide +kernel)) ggX12_playing_X12_deeds
set_option maxRecDepth 20000 in
theorem ggX12_playing_X12_settles : GoodIn wsX12_playing wsX12_settles := goodIn_r _ [69, 2, 3, 1, 86, 87, 88, 89, 90, 91, 92, 93, 94, 95, 96, 97, 98, 99, 100, 101, 102, 103, 104, 105, 106, 107, 108, 109, 110, 111, 112, 113, 114, 115, 116, 117, 118, 119, 120, 121, 122, 123, 124, 125, 126, 127] (by decide +kernel) (by decide +kernel)
set_option maxRecDepth 20000 in
theorem gX12_playing_X12_settles : GoodIn wsX12_playing (wsV RX12 467 RX12 yX12_settles wsX12_settles) := goodIn_app (goodIn_of _ (by decide +kernel)) ggX12_playing_X12_settles
set_option maxRecDepth 20000 in
theorem ggX12_playing_X12_doesDeed : GoodIn wsX12_playing wsX12_doesDeed := goodIn_r _ [73, 9, 62, 63, 64, 7, 65, 74, 75, 76, 77, 78, 79, 80, 81, 26, 27, 28, 22, 23, 24, 25, 44, 45, 46, 47, 82, 83, 84, 85, 86, 87, 88, 89, 90, 91, 92, 93, 94, 95, 96, 97, 98, 99, 100, 101, 102, 103, 104, 105, 106, 107, 108, 109, 110, 111, 112, 113, 114, 115, 116, 117, 118, 119, 120, 121, 122, 123, 124, 125, 126, 127] (by decide +kernel) (by decide +kernel)
set_option maxRecDepth 20000 in
theorem gX12_playing_X12_doesDeed : GoodIn wsX12_playing (wsV RX12 470 RX12 yX12_doesDeed wsX12_doesDeed) := goodIn_app (goodIn_of _ (by decide +kernel)) ggX12_playing_X12_doesDeed
theorem dX12_playing_0 : decode cX12_playing 0 = .ok (.iload_n 1, 1) := by decide +kernel
theorem dX12_playing_1 : decode cX12_playing 1 = .ok (.ifCond .ne 8, 3) := by decide +kernel
theorem dX12_playing_4 : decode cX12_playing 4 = .ok (.aload_n 0, 1) := by decide +kernel
theorem dX12_playing_5 : decode cX12_playing 5 = .ok (.invokevirtual 461, 3) := by decide +kernel
theorem dX12_playing_8 : decode cX12_playing 8 = .ok (.ireturn, 1) := by decide +kernel
theorem dX12_playing_9 : decode cX12_playing 9 = .ok (.iconst 0, 1) := by decide +kernel
theorem dX12_playing_10 : decode cX12_playing 10 = .ok (.istore_n 2, 1) := by decide +kernel
theorem dX12_playing_11 : decode cX12_playing 11 = .ok (.aload_n 0, 1) := by decide +kernel
theorem dX12_playing_12 : decode cX12_playing 12 = .ok (.iconst 0, 1) := by decide +kernel
theorem dX12_playing_13 : decode cX12_playing 13 = .ok (.invokestatic 464, 3) := by decide +kernel
theorem dX12_playing_16 : decode cX12_playing 16 = .ok (.invokevirtual 374, 3) := by decide +kernel
theorem dX12_playing_19 : decode cX12_playing 19 = .ok (.aload_n 0, 1) := by decide +kernel
theorem dX12_playing_20 : decode cX12_playing 20 = .ok (.getfield 63, 3) := by decide +kernel
theorem dX12_playing_23 : decode cX12_playing 23 = .ok (.iconst 0, 1) := by decide +kernel
theorem dX12_playing_24 : decode cX12_playing 24 = .ok (.iconst (-1), 1) := by decide +kernel
theorem dX12_playing_25 : decode cX12_playing 25 = .ok (.iastore, 1) := by decide +kernel
theorem dX12_playing_26 : decode cX12_playing 26 = .ok (.aload_n 0, 1) := by decide +kernel
theorem dX12_playing_27 : decode cX12_playing 27 = .ok (.getfield 69, 3) := by decide +kernel
theorem dX12_playing_30 : decode cX12_playing 30 = .ok (.iconst 0, 1) := by decide +kernel
theorem dX12_playing_31 : decode cX12_playing 31 = .ok (.iconst (-1), 1) := by decide +kernel
theorem dX12_playing_32 : decode cX12_playing 32 = .ok (.iastore, 1) := by decide +kernel
theorem dX12_playing_33 : decode cX12_playing 33 = .ok (.aload_n 0, 1) := by decide +kernel
theorem dX12_playing_34 : decode cX12_playing 34 = .ok (.iload_n 2, 1) := by decide +kernel
theorem dX12_playing_35 : decode cX12_playing 35 = .ok (.invokestatic 464, 3) := by decide +kernel
theorem dX12_playing_38 : decode cX12_playing 38 = .ok (.invokevirtual 377, 3) := by decide +kernel
theorem dX12_playing_41 : decode cX12_playing 41 = .ok (.aload_n 0, 1) := by decide +kernel
theorem dX12_playing_42 : decode cX12_playing 42 = .ok (.getfield 63, 3) := by decide +kernel
theorem dX12_playing_45 : decode cX12_playing 45 = .ok (.iload_n 2, 1) := by decide +kernel
theorem dX12_playing_46 : decode cX12_playing 46 = .ok (.dup2, 1) := by decide +kernel
theorem dX12_playing_47 : decode cX12_playing 47 = .ok (.iaload, 1) := by decide +kernel
theorem dX12_playing_48 : decode cX12_playing 48 = .ok (.iconst 1, 1) := by decide +kernel
theorem dX12_playing_49 : decode cX12_playing 49 = .ok (.iadd, 1) := by decide +kernel
theorem dX12_playing_50 : decode cX12_playing 50 = .ok (.iastore, 1) := by decide +kernel
theorem dX12_playing_51 : decode cX12_playing 51 = .ok (.aload_n 0, 1) := by decide +kernel
theorem dX12_playing_52 : decode cX12_playing 52 = .ok (.getfield 63, 3) := by decide +kernel
theorem dX12_playing_55 : decode cX12_playing 55 = .ok (.iload_n 2, 1) := by decide +kernel
theorem dX12_playing_56 : decode cX12_playing 56 = .ok (.iaload, 1) := by decide +kernel
theorem dX12_playing_57 : decode cX12_playing 57 = .ok (.aload_n 0, 1) := by decide +kernel
theorem dX12_playing_58 : decode cX12_playing 58 = .ok (.invokevirtual 458, 3) := by decide +kernel
theorem dX12_playing_61 : decode cX12_playing 61 = .ok (.if_icmp .le 29, 3) := by decide +kernel
theorem dX12_playing_64 : decode cX12_playing 64 = .ok (.iload_n 2, 1) := by decide +kernel
theorem dX12_playing_65 : decode cX12_playing 65 = .ok (.ifCond .ne 6, 3) := by decide +kernel
theorem dX12_playing_68 : decode cX12_playing 68 = .ok (.goto 85, 3) := by decide +kernel
theorem dX12_playing_71 : decode cX12_playing 71 = .ok (.iinc 2 (-1), 3) := by decide +kernel
theorem dX12_playing_74 : decode cX12_playing 74 = .ok (.aload_n 0, 1) := by decide +kernel
theorem dX12_playing_75 : decode cX12_playing 75 = .ok (.iload_n 2, 1) := by decide +kernel
theorem dX12_playing_76 : decode cX12_playing 76 = .ok (.aload_n 0, 1) := by decide +kernel
theorem dX12_playing_77 : decode cX12_playing 77 = .ok (.getfield 66, 3) := by decide +kernel
theorem dX12_playing_80 : decode cX12_playing 80 = .ok (.iload_n 2, 1) := by decide +kernel
theorem dX12_playing_81 : decode cX12_playing 81 = .ok (.iconst 1, 1) := by decide +kernel
theorem dX12_playing_82 : decode cX12_playing 82 = .ok (.iadd, 1) := by decide +kernel
theorem dX12_playing_83 : decode cX12_playing 83 = .ok (.iaload, 1) := by decide +kernel
theorem dX12_playing_84 : decode cX12_playing 84 = .ok (.invokevirtual 467, 3) := by decide +kernel
theorem dX12_playing_87 : decode cX12_playing 87 = .ok (.goto (-54), 3) := by decide +kernel
theorem dX12_playing_90 : decode cX12_playing 90 = .ok (.aload_n 0, 1) := by decide +kernel
theorem dX12_playing_91 : decode cX12_playing 91 = .ok (.aload_n 0, 1) := by decide +kernel
theorem dX12_playing_92 : decode cX12_playing 92 = .ok (.getfield 63, 3) := by decide +kernel
theorem dX12_playing_95 : decode cX12_playing 95 = .ok (.iload_n 2, 1) := by decide +kernel
theorem dX12_playing_96 : decode cX12_playing 96 = .ok (.iaload, 1) := by decide +kernel
theorem dX12_playing_97 : decode cX12_playing 97 = .ok (.invokevirtual 470, 3) := by decide +kernel
theorem dX12_playing_100 : decode cX12_playing 100 = .ok (.ifCond .ne 6, 3) := by decide +kernel
theorem dX12_playing_103 : decode cX12_playing 103 = .ok (.goto (-70), 3) := by decide +kernel
theorem dX12_playing_106 : decode cX12_playing 106 = .ok (.iload_n 2, 1) := by decide +kernel
theorem dX12_playing_107 : decode cX12_playing 107 = .ok (.iconst 1, 1) := by decide +kernel
theorem dX12_playing_108 : decode cX12_playing 108 = .ok (.iadd, 1) := by decide +kernel
theorem dX12_playing_109 : decode cX12_playing 109 = .ok (.iload_n 1, 1) := by decide +kernel
theorem dX12_playing_110 : decode cX12_playing 110 = .ok (.if_icmp .ne 15, 3) := by decide +kernel
theorem dX12_playing_113 : decode cX12_playing 113 = .ok (.aload_n 0, 1) := by decide +kernel
theorem dX12_playing_114 : decode cX12_playing 114 = .ok (.iload_n 2, 1) := by decide +kernel
theorem dX12_playing_115 : decode cX12_playing 115 = .ok (.aload_n 0, 1) := by decide +kernel
theorem dX12_playing_116 : decode cX12_playing 116 = .ok (.invokevirtual 461, 3) := by decide +kernel
theorem dX12_playing_119 : decode cX12_playing 119 = .ok (.invokevirtual 467, 3) := by decide +kernel
theorem dX12_playing_122 : decode cX12_playing 122 = .ok (.goto (-89), 3) := by decide +kernel
theorem dX12_playing_125 : decode cX12_playing 125 = .ok (.iinc 2 1, 3) := by decide +kernel
theorem dX12_playing_128 : decode cX12_playing 128 = .ok (.aload_n 0, 1) := by decide +kernel
theorem dX12_playing_129 : decode cX12_playing 129 = .ok (.iload_n 2, 1) := by decide +kernel
theorem dX12_playing_130 : decode cX12_playing 130 = .ok (.invokestatic 464, 3) := by decide +kernel
theorem dX12_playing_133 : decode cX12_playing 133 = .ok (.invokevirtual 374, 3) := by decide +kernel
theorem dX12_playing_136 : decode cX12_playing 136 = .ok (.aload_n 0, 1) := by decide +kernel
theorem dX12_playing_137 : decode cX12_playing 137 = .ok (.getfield 63, 3) := by decide +kernel
theorem dX12_playing_140 : decode cX12_playing 140 = .ok (.iload_n 2, 1) := by decide +kernel
theorem dX12_playing_141 : decode cX12_playing 141 = .ok (.iconst (-1), 1) := by decide +kernel
theorem dX12_playing_142 : decode cX12_playing 142 = .ok (.iastore, 1) := by decide +kernel
theorem dX12_playing_143 : decode cX12_playing 143 = .ok (.aload_n 0, 1) := by decide +kernel
theorem dX12_playing_144 : decode cX12_playing 144 = .ok (.getfield 69, 3) := by decide +kernel
theorem dX12_playing_147 : decode cX12_playing 147 = .ok (.iload_n 2, 1) := by decide +kernel
theorem dX12_playing_148 : decode cX12_playing 148 = .ok (.iconst (-1), 1) := by decide +kernel
theorem dX12_playing_149 : decode cX12_playing 149 = .ok (.iastore, 1) := by decide +kernel
theorem dX12_playing_150 : decode cX12_playing 150 = .ok (.goto (-117), 3) := by decide +kernel
theorem dX12_playing_153 : decode cX12_playing 153 = .ok (.aload_n 0, 1) := by decide +kernel
theorem dX12_playing_154 : decode cX12_playing 154 = .ok (.iconst 0, 1) := by decide +kernel
theorem dX12_playing_155 : decode cX12_playing 155 = .ok (.invokestatic 464, 3) := by decide +kernel
theorem dX12_playing_158 : decode cX12_playing 158 = .ok (.invokevirtual 377, 3) := by decide +kernel
theorem dX12_playing_161 : decode cX12_playing 161 = .ok (.aload_n 0, 1) := by decide +kernel
theorem dX12_playing_162 : decode cX12_playing 162 = .ok (.getfield 66, 3) := by decide +kernel
theorem dX12_playing_165 : decode cX12_playing 165 = .ok (.iconst 0, 1) := by decide +kernel
theorem dX12_playing_166 : decode cX12_playing 166 = .ok (.iaload, 1) := by decide +kernel
theorem dX12_playing_167 : decode cX12_playing 167 = .ok (.ireturn, 1) := by decide +kernel
set_option maxRecDepth 20000 in
theorem ggX12_game_X12_isFrom : GoodIn wsX12_game wsX12_isFrom := goodIn_r _ [5] (by decide +kernel) (by decide +kernel)
set_option maxRecDepth 20000 in
theorem gX12_game_X12_isFrom : GoodIn wsX12_game (va_wsS RX12 337 yX12_isFrom wsX12_isFrom) := goodIn_app (goodIn_of _ (by decide +kernel)) ggX12_game_X12_isFrom
set_option maxRecDepth 20000 in
theorem ggX12_game_X12_playing : GoodIn wsX12_game wsX12_playing := goodIn_r _ [9, 10, 11, 12, 13, 14, 15, 4, 16, 17, 18, 19, 20, 21, 22, 23, 24, 25, 26, 27, 28, 29, 30, 31, 32, 33, 34, 35, 36, 37, 38, 39, 40, 41, 42, 43, 44, 45, 46, 47, 48, 49, 50, 51, 52, 53, 54, 55, 56, 57, 58, 59, 60, 61, 62, 63, 64, 65, 66, 67, 68, 69, 70, 71, 72, 73, 74, 75, 76, 77, 78, 79, 80, 81, 82, 83, 84, 85, 86, 87, 88, 89, 90, 91, 92, 93, 103, 104, 105, 106, 107, 108, 109, 110, 111, 112, 113, 114, 115, 116, 117, 118, 119, 120, 121, 122, 123, 124, 125, 126, 127, 128, 129, 130, 131, 132, 133, 134, 135, 136, 137, 138, 139, 140, 141, 142, 143, 144] (by decide +kernel) (by decide +kernel)
set_option maxRecDepth 20000 in
theorem gX12_game_X12_playing : GoodIn wsX12_game (wsV RX12 475 RX12 yX12_playing wsX12_playing) := goodIn_app (goodIn_of _ (by decide +kernel)) ggX12_game_X12_playing
set_option maxRecDepth 20000 in
theorem ggX12_game_X12_gives : GoodIn wsX12_game wsX12_gives := goodIn_r _ [97, 98, 103, 104, 105, 106, 107, 108, 109, 110, 111, 112, 113, 114, 115, 116, 117, 118, 119, 120, 121, 122, 123, 124, 125, 126, 127, 128, 129, 130, 131, 132, 133, 134, 135, 136, 137, 138, 139, 140, 141, 142, 143, 144] (by decide +kernel) (by decide +kernel)
set_option maxRecDepth 20000 in
theorem gX12_game_X12_gives : GoodIn wsX12_game (wsV RX12 95 RX12 yX12_gives wsX12_gives) := goodIn_app (goodIn_of _ (by decide +kernel)) ggX12_game_X12_gives
set_option maxRecDepth 20000 in
theorem ggX12_game_X12_refuse : GoodIn wsX12_game wsX12_refuse := goodIn_r _ [102, 98, 103, 104, 105, 106, 107, 108, 109, 110, 111, 112, 113, 114, 115, 116, 117, 118, 119, 120, 121, 122, 123, 124, 125, 126, 127, 128, 129, 130, 131, 132, 133, 134, 135, 136, 137, 138, 139, 140, 141, 142, 143, 144] (by decide +kernel) (by decide +kernel)
set_option maxRecDepth 20000 in
theorem gX12_game_X12_refuse : GoodIn wsX12_game (wsV RX12 91 RX12 yX12_refuse wsX12_refuse) := goodIn_app (goodIn_of _ (by decide +kernel)) ggX12_game_X12_refuse
theorem dX12_game_0 : decode cX12_game 0 = .ok (.iload_n 1, 1) := by decide +kernel
theorem dX12_game_1 : decode cX12_game 1 = .ok (.i2l, 1) := by decide +kernel
theorem dX12_game_2 : decode cX12_game 2 = .ok (.lconst 0, 1) := by decide +kernel
theorem dX12_game_3 : decode cX12_game 3 = .ok (.ldc2_w 473, 3) := by decide +kernel
theorem dX12_game_6 : decode cX12_game 6 = .ok (.invokestatic 337, 3) := by decide +kernel
theorem dX12_game_9 : decode cX12_game 9 = .ok (.ifCond .eq 15, 3) := by decide +kernel
theorem dX12_game_12 : decode cX12_game 12 = .ok (.aload_n 0, 1) := by decide +kernel
theorem dX12_game_13 : decode cX12_game 13 = .ok (.aload_n 0, 1) := by decide +kernel
theorem dX12_game_14 : decode cX12_game 14 = .ok (.iload_n 1, 1) := by decide +kernel
theorem dX12_game_15 : decode cX12_game 15 = .ok (.invokevirtual 475, 3) := by decide +kernel
theorem dX12_game_18 : decode cX12_game 18 = .ok (.invokevirtual 95, 3) := by decide +kernel
theorem dX12_game_21 : decode cX12_game 21 = .ok (.goto 8, 3) := by decide +kernel
theorem dX12_game_24 : decode cX12_game 24 = .ok (.aload_n 0, 1) := by decide +kernel
theorem dX12_game_25 : decode cX12_game 25 = .ok (.iconst 1, 1) := by decide +kernel
theorem dX12_game_26 : decode cX12_game 26 = .ok (.invokevirtual 91, 3) := by decide +kernel
theorem dX12_game_29 : decode cX12_game 29 = .ok (.ireturn, 1) := by decide +kernel
set_option maxRecDepth 20000 in
theorem ggX12_moveOf_X12_isFrom : GoodIn wsX12_moveOf wsX12_isFrom := goodIn_r _ [7] (by decide +kernel) (by decide +kernel)
set_option maxRecDepth 20000 in
theorem gX12_moveOf_X12_isFrom : GoodIn wsX12_moveOf (va_wsS RX12 337 yX12_isFrom wsX12_isFrom) := goodIn_app (goodIn_of _ (by decide +kernel)) ggX12_moveOf_X12_isFrom
set_option maxRecDepth 20000 in
theorem ggX12_moveOf_X12_refuse : GoodIn wsX12_moveOf wsX12_refuse := goodIn_r _ [11, 12, 103, 104, 105, 106, 107, 108, 109, 110, 111, 112, 113, 114, 115, 116, 117, 118, 119, 120, 121, 122, 123, 124, 125, 126, 127, 128, 129, 130, 131, 132, 133, 134, 135, 136, 137, 138, 139, 140, 141, 142, 143, 144] (by decide +kernel) (by decide +kernel)
set_option maxRecDepth 20000 in
theorem gX12_moveOf_X12_refuse : GoodIn wsX12_moveOf (wsV RX12 91 RX12 yX12_refuse wsX12_refuse) := goodIn_app (goodIn_of _ (by decide +kernel)) ggX12_moveOf_X12_refuse
set_option maxRecDepth 20000 in
theorem ggX12_moveOf_X12_playing : GoodIn wsX12_moveOf wsX12_playing := goodIn_r _ [16, 17, 2, 18, 19, 20, 21, 6, 22, 3, 23, 24, 25, 26, 27, 28, 29, 30, 31, 32, 33, 34, 35, 36, 37, 38, 39, 40, 41, 42, 43, 44, 45, 46, 47, 48, 49, 50, 51, 52, 53, 54, 55, 56, 57, 58, 59, 60, 61, 62, 63, 64, 65, 66, 67, 68, 69, 70, 71, 72, 73, 74, 75, 76, 77, 78, 79, 80, 81, 82, 83, 84, 85, 86, 87, 88, 89, 90, 91, 92, 93, 94, 95, 96, 97, 98, 103, 104, 105, 106, 107, 108, 109, 110, 111, 112, 113, 114, 115, 116, 117, 118, 119, 120, 121, 122, 123, 124, 125, 126, 127, 128, 129, 130, 131, 132, 133, 134, 135, 136, 137, 138, 139, 140, 141, 142, 143, 144] (by decide +kernel) (by decide +kernel)
set_option maxRecDepth 20000 in
theorem gX12_moveOf_X12_playing : GoodIn wsX12_moveOf (wsV RX12 475 RX12 yX12_playing wsX12_playing) := goodIn_app (goodIn_of _ (by decide +kernel)) ggX12_moveOf_X12_playing
set_option maxRecDepth 20000 in
theorem ggX12_moveOf_X12_deeds : GoodIn wsX12_moveOf wsX12_deeds := goodIn_r _ [78, 3, 103, 104, 105, 106, 107, 108, 109, 110, 111, 112, 113, 114, 115, 116, 117, 118, 119, 120, 121, 122, 123, 124, 125, 126, 127, 128, 129, 130, 131, 132, 133, 134, 135, 136, 137, 138, 139, 140, 141, 142, 143, 144] (by decide +kernel) (by decide +kernel)
set_option maxRecDepth 20000 in
theorem gX12_moveOf_X12_deeds : GoodIn wsX12_moveOf (wsV RX12 458 RX12 yX12_deeds wsX12_deeds) := goodIn_app (goodIn_of _ (by decide +kernel)) ggX12_moveOf_X12_deeds
set_option maxRecDepth 20000 in
theorem ggX12_moveOf_X12_gives : GoodIn wsX12_moveOf wsX12_gives := goodIn_r _ [102, 12, 103, 104, 105, 106, 107, 108, 109, 110, 111, 112, 113, 114, 115, 116, 117, 118, 119, 120, 121, 122, 123, 124, 125, 126, 127, 128, 129, 130, 131, 132, 133, 134, 135, 136, 137, 138, 139, 140, 141, 142, 143, 144] (by decide +kernel) (by decide +kernel)
set_option maxRecDepth 20000 in
theorem gX12_moveOf_X12_gives : GoodIn wsX12_moveOf (wsV RX12 95 RX12 yX12_gives wsX12_gives) := goodIn_app (goodIn_of _ (by decide +kernel)) ggX12_moveOf_X12_gives
theorem dX12_moveOf_0 : decode cX12_moveOf 0 = .ok (.iload_n 1, 1) := by decide +kernel
theorem dX12_moveOf_1 : decode cX12_moveOf 1 = .ok (.i2l, 1) := by decide +kernel
theorem dX12_moveOf_2 : decode cX12_moveOf 2 = .ok (.lconst 1, 1) := by decide +kernel
theorem dX12_moveOf_3 : decode cX12_moveOf 3 = .ok (.ldc2_w 473, 3) := by decide +kernel
theorem dX12_moveOf_6 : decode cX12_moveOf 6 = .ok (.invokestatic 337, 3) := by decide +kernel
theorem dX12_moveOf_9 : decode cX12_moveOf 9 = .ok (.ifCond .eq 13, 3) := by decide +kernel
theorem dX12_moveOf_12 : decode cX12_moveOf 12 = .ok (.iload_n 2, 1) := by decide +kernel
theorem dX12_moveOf_13 : decode cX12_moveOf 13 = .ok (.i2l, 1) := by decide +kernel
theorem dX12_moveOf_14 : decode cX12_moveOf 14 = .ok (.lconst 0, 1) := by decide +kernel
theorem dX12_moveOf_15 : decode cX12_moveOf 15 = .ok (.lconst 1, 1) := by decide +kernel
theorem dX12_moveOf_16 : decode cX12_moveOf 16 = .ok (.invokestatic 337, 3) := by decide +kernel
theorem dX12_moveOf_19 : decode cX12_moveOf 19 = .ok (.ifCond .ne 9, 3) := by decide +kernel
theorem dX12_moveOf_22 : decode cX12_moveOf 22 = .ok (.aload_n 0, 1) := by decide +kernel
theorem dX12_moveOf_23 : decode cX12_moveOf 23 = .ok (.iconst 1, 1) := by decide +kernel
theorem dX12_moveOf_24 : decode cX12_moveOf 24 = .ok (.invokevirtual 91, 3) := by decide +kernel
theorem dX12_moveOf_27 : decode cX12_moveOf 27 = .ok (.ireturn, 1) := by decide +kernel
theorem dX12_moveOf_28 : decode cX12_moveOf 28 = .ok (.aload_n 0, 1) := by decide +kernel
theorem dX12_moveOf_29 : decode cX12_moveOf 29 = .ok (.iload_n 1, 1) := by decide +kernel
theorem dX12_moveOf_30 : decode cX12_moveOf 30 = .ok (.invokevirtual 475, 3) := by decide +kernel
theorem dX12_moveOf_33 : decode cX12_moveOf 33 = .ok (.pop, 1) := by decide +kernel
theorem dX12_moveOf_34 : decode cX12_moveOf 34 = .ok (.aload_n 0, 1) := by decide +kernel
theorem dX12_moveOf_35 : decode cX12_moveOf 35 = .ok (.getfield 69, 3) := by decide +kernel
theorem dX12_moveOf_38 : decode cX12_moveOf 38 = .ok (.iconst 0, 1) := by decide +kernel
theorem dX12_moveOf_39 : decode cX12_moveOf 39 = .ok (.iaload, 1) := by decide +kernel
theorem dX12_moveOf_40 : decode cX12_moveOf 40 = .ok (.istore_n 3, 1) := by decide +kernel
theorem dX12_moveOf_41 : decode cX12_moveOf 41 = .ok (.iload_n 3, 1) := by decide +kernel
theorem dX12_moveOf_42 : decode cX12_moveOf 42 = .ok (.aload_n 0, 1) := by decide +kernel
theorem dX12_moveOf_43 : decode cX12_moveOf 43 = .ok (.invokevirtual 458, 3) := by decide +kernel
theorem dX12_moveOf_46 : decode cX12_moveOf 46 = .ok (.if_icmp .ne 10, 3) := by decide +kernel
theorem dX12_moveOf_49 : decode cX12_moveOf 49 = .ok (.aload_n 0, 1) := by decide +kernel
theorem dX12_moveOf_50 : decode cX12_moveOf 50 = .ok (.bipush 6, 2) := by decide +kernel
theorem dX12_moveOf_52 : decode cX12_moveOf 52 = .ok (.invokevirtual 91, 3) := by decide +kernel
theorem dX12_moveOf_55 : decode cX12_moveOf 55 = .ok (.ireturn, 1) := by decide +kernel
theorem dX12_moveOf_56 : decode cX12_moveOf 56 = .ok (.aload_n 0, 1) := by decide +kernel
theorem dX12_moveOf_57 : decode cX12_moveOf 57 = .ok (.iload_n 2, 1) := by decide +kernel
theorem dX12_moveOf_58 : decode cX12_moveOf 58 = .ok (.ifCond .ne 16, 3) := by decide +kernel
theorem dX12_moveOf_61 : decode cX12_moveOf 61 = .ok (.iload_n 3, 1) := by decide +kernel
theorem dX12_moveOf_62 : decode cX12_moveOf 62 = .ok (.iconst 1, 1) := by decide +kernel
theorem dX12_moveOf_63 : decode cX12_moveOf 63 = .ok (.aload_n 0, 1) := by decide +kernel
theorem dX12_moveOf_64 : decode cX12_moveOf 64 = .ok (.getfield 7, 3) := by decide +kernel
theorem dX12_moveOf_67 : decode cX12_moveOf 67 = .ok (.iconst 0, 1) := by decide +kernel
theorem dX12_moveOf_68 : decode cX12_moveOf 68 = .ok (.iaload, 1) := by decide +kernel
theorem dX12_moveOf_69 : decode cX12_moveOf 69 = .ok (.iadd, 1) := by decide +kernel
theorem dX12_moveOf_70 : decode cX12_moveOf 70 = .ok (.idiv, 1) := by decide +kernel
theorem dX12_moveOf_71 : decode cX12_moveOf 71 = .ok (.goto 13, 3) := by decide +kernel
theorem dX12_moveOf_74 : decode cX12_moveOf 74 = .ok (.iload_n 3, 1) := by decide +kernel
theorem dX12_moveOf_75 : decode cX12_moveOf 75 = .ok (.iconst 1, 1) := by decide +kernel
theorem dX12_moveOf_76 : decode cX12_moveOf 76 = .ok (.aload_n 0, 1) := by decide +kernel
theorem dX12_moveOf_77 : decode cX12_moveOf 77 = .ok (.getfield 7, 3) := by decide +kernel
theorem dX12_moveOf_80 : decode cX12_moveOf 80 = .ok (.iconst 0, 1) := by decide +kernel
theorem dX12_moveOf_81 : decode cX12_moveOf 81 = .ok (.iaload, 1) := by decide +kernel
theorem dX12_moveOf_82 : decode cX12_moveOf 82 = .ok (.iadd, 1) := by decide +kernel
theorem dX12_moveOf_83 : decode cX12_moveOf 83 = .ok (.irem, 1) := by decide +kernel
theorem dX12_moveOf_84 : decode cX12_moveOf 84 = .ok (.invokevirtual 95, 3) := by decide +kernel
theorem dX12_moveOf_87 : decode cX12_moveOf 87 = .ok (.ireturn, 1) := by decide +kernel
set_option maxRecDepth 20000 in
theorem ggX12_copyFed_X12_isTray : GoodIn wsX12_copyFed wsX12_isTray := goodIn_r _ [8] (by decide +kernel) (by decide +kernel)
set_option maxRecDepth 20000 in
theorem gX12_copyFed_X12_isTray : GoodIn wsX12_copyFed (va_wsS RX12 102 yX12_isTray wsX12_isTray) := goodIn_app (goodIn_of _ (by decide +kernel)) ggX12_copyFed_X12_isTray
set_option maxRecDepth 20000 in
theorem ggX12_copyFed_X12_refuse : GoodIn wsX12_copyFed wsX12_refuse := goodIn_r _ [12, 13, 28, 29, 30, 31, 32, 33, 34, 35, 36, 37, 38, 39, 40, 41, 42, 43, 44, 45, 46, 47, 48, 49, 50, 51, 52, 53, 54, 55, 56, 57, 58, 59, 60, 61, 62, 63, 64, 65, 66, 67, 68, 69] (by decide +kernel) (by decide +kernel)
set_option maxRecDepth 20000 in
theorem gX12_copyFed_X12_refuse : GoodIn wsX12_copyFed (wsV RX12 91 RX12 yX12_refuse wsX12_refuse) := goodIn_app (goodIn_of _ (by decide +kernel)) ggX12_copyFed_X12_refuse
set_option maxRecDepth 20000 in
theorem ggX12_copyFed_X12_personOf : GoodIn wsX12_copyFed wsX12_personOf := goodIn_r _ [17, 2, 18, 19, 7, 20, 28, 29, 30, 31, 32, 33, 34, 35, 36, 37, 38, 39, 40, 41, 42, 43, 44, 45, 46, 47, 48, 49, 50, 51, 52, 53, 54, 55, 56, 57, 58, 59, 60, 61, 62, 63, 64, 65, 66, 67, 68, 69] (by decide +kernel) (by decide +kernel)
set_option maxRecDepth 20000 in
theorem gX12_copyFed_X12_personOf : GoodIn wsX12_copyFed (wsV RX12 281 RX12 yX12_personOf wsX12_personOf) := goodIn_app (goodIn_of _ (by decide +kernel)) ggX12_copyFed_X12_personOf
set_option maxRecDepth 20000 in
theorem ggX12_copyFed_X12_cut : GoodIn wsX12_copyFed wsX12_cut := goodIn_r _ [23] (by decide +kernel) (by decide +kernel)
set_option maxRecDepth 20000 in
theorem gX12_copyFed_X12_cut : GoodIn wsX12_copyFed (va_wsS RX12 109 yX12_cut wsX12_cut) := goodIn_app (goodIn_of _ (by decide +kernel)) ggX12_copyFed_X12_cut
set_option maxRecDepth 20000 in
theorem ggX12_copyFed_X12_gives : GoodIn wsX12_copyFed wsX12_gives := goodIn_r _ [27, 13, 28, 29, 30, 31, 32, 33, 34, 35, 36, 37, 38, 39, 40, 41, 42, 43, 44, 45, 46, 47, 48, 49, 50, 51, 52, 53, 54, 55, 56, 57, 58, 59, 60, 61, 62, 63, 64, 65, 66, 67, 68, 69] (by decide +kernel) (by decide +kernel)
set_option maxRecDepth 20000 in
theorem gX12_copyFed_X12_gives : GoodIn wsX12_copyFed (wsV RX12 95 RX12 yX12_gives wsX12_gives) := goodIn_app (goodIn_of _ (by decide +kernel)) ggX12_copyFed_X12_gives
theorem dX12_copyFed_0 : decode cX12_copyFed 0 = .ok (.iload_n 1, 1) := by decide +kernel
theorem dX12_copyFed_1 : decode cX12_copyFed 1 = .ok (.invokestatic 102, 3) := by decide +kernel
theorem dX12_copyFed_4 : decode cX12_copyFed 4 = .ok (.ifCond .ne 9, 3) := by decide +kernel
theorem dX12_copyFed_7 : decode cX12_copyFed 7 = .ok (.aload_n 0, 1) := by decide +kernel
theorem dX12_copyFed_8 : decode cX12_copyFed 8 = .ok (.iconst 1, 1) := by decide +kernel
theorem dX12_copyFed_9 : decode cX12_copyFed 9 = .ok (.invokevirtual 91, 3) := by decide +kernel
theorem dX12_copyFed_12 : decode cX12_copyFed 12 = .ok (.ireturn, 1) := by decide +kernel
theorem dX12_copyFed_13 : decode cX12_copyFed 13 = .ok (.aload_n 0, 1) := by decide +kernel
theorem dX12_copyFed_14 : decode cX12_copyFed 14 = .ok (.getfield 24, 3) := by decide +kernel
theorem dX12_copyFed_17 : decode cX12_copyFed 17 = .ok (.iload_n 1, 1) := by decide +kernel
theorem dX12_copyFed_18 : decode cX12_copyFed 18 = .ok (.iaload, 1) := by decide +kernel
theorem dX12_copyFed_19 : decode cX12_copyFed 19 = .ok (.iconst (-1), 1) := by decide +kernel
theorem dX12_copyFed_20 : decode cX12_copyFed 20 = .ok (.if_icmp .ne 9, 3) := by decide +kernel
theorem dX12_copyFed_23 : decode cX12_copyFed 23 = .ok (.aload_n 0, 1) := by decide +kernel
theorem dX12_copyFed_24 : decode cX12_copyFed 24 = .ok (.iconst 2, 1) := by decide +kernel
theorem dX12_copyFed_25 : decode cX12_copyFed 25 = .ok (.invokevirtual 91, 3) := by decide +kernel
theorem dX12_copyFed_28 : decode cX12_copyFed 28 = .ok (.ireturn, 1) := by decide +kernel
theorem dX12_copyFed_29 : decode cX12_copyFed 29 = .ok (.aload_n 0, 1) := by decide +kernel
theorem dX12_copyFed_30 : decode cX12_copyFed 30 = .ok (.getfield 24, 3) := by decide +kernel
theorem dX12_copyFed_33 : decode cX12_copyFed 33 = .ok (.iload_n 1, 1) := by decide +kernel
theorem dX12_copyFed_34 : decode cX12_copyFed 34 = .ok (.iaload, 1) := by decide +kernel
theorem dX12_copyFed_35 : decode cX12_copyFed 35 = .ok (.aload_n 0, 1) := by decide +kernel
theorem dX12_copyFed_36 : decode cX12_copyFed 36 = .ok (.getfield 7, 3) := by decide +kernel
theorem dX12_copyFed_39 : decode cX12_copyFed 39 = .ok (.iconst 3, 1) := by decide +kernel
theorem dX12_copyFed_40 : decode cX12_copyFed 40 = .ok (.iaload, 1) := by decide +kernel
theorem dX12_copyFed_41 : decode cX12_copyFed 41 = .ok (.if_icmp .ge 9, 3) := by decide +kernel
theorem dX12_copyFed_44 : decode cX12_copyFed 44 = .ok (.aload_n 0, 1) := by decide +kernel
theorem dX12_copyFed_45 : decode cX12_copyFed 45 = .ok (.iconst 3, 1) := by decide +kernel
theorem dX12_copyFed_46 : decode cX12_copyFed 46 = .ok (.invokevirtual 91, 3) := by decide +kernel
theorem dX12_copyFed_49 : decode cX12_copyFed 49 = .ok (.ireturn, 1) := by decide +kernel
theorem dX12_copyFed_50 : decode cX12_copyFed 50 = .ok (.iconst 0, 1) := by decide +kernel
theorem dX12_copyFed_51 : decode cX12_copyFed 51 = .ok (.istore_n 2, 1) := by decide +kernel
theorem dX12_copyFed_52 : decode cX12_copyFed 52 = .ok (.iload_n 2, 1) := by decide +kernel
theorem dX12_copyFed_53 : decode cX12_copyFed 53 = .ok (.aload_n 0, 1) := by decide +kernel
theorem dX12_copyFed_54 : decode cX12_copyFed 54 = .ok (.getfield 7, 3) := by decide +kernel
theorem dX12_copyFed_57 : decode cX12_copyFed 57 = .ok (.iconst 3, 1) := by decide +kernel
theorem dX12_copyFed_58 : decode cX12_copyFed 58 = .ok (.iaload, 1) := by decide +kernel
theorem dX12_copyFed_59 : decode cX12_copyFed 59 = .ok (.if_icmp .ge 36, 3) := by decide +kernel
theorem dX12_copyFed_62 : decode cX12_copyFed 62 = .ok (.aload_n 0, 1) := by decide +kernel
theorem dX12_copyFed_63 : decode cX12_copyFed 63 = .ok (.getfield 27, 3) := by decide +kernel
theorem dX12_copyFed_66 : decode cX12_copyFed 66 = .ok (.bipush 60, 2) := by decide +kernel
theorem dX12_copyFed_68 : decode cX12_copyFed 68 = .ok (.iload_n 1, 1) := by decide +kernel
theorem dX12_copyFed_69 : decode cX12_copyFed 69 = .ok (.imul, 1) := by decide +kernel
theorem dX12_copyFed_70 : decode cX12_copyFed 70 = .ok (.iload_n 2, 1) := by decide +kernel
theorem dX12_copyFed_71 : decode cX12_copyFed 71 = .ok (.iadd, 1) := by decide +kernel
theorem dX12_copyFed_72 : decode cX12_copyFed 72 = .ok (.aload_n 0, 1) := by decide +kernel
theorem dX12_copyFed_73 : decode cX12_copyFed 73 = .ok (.iload_n 2, 1) := by decide +kernel
theorem dX12_copyFed_74 : decode cX12_copyFed 74 = .ok (.iconst 0, 1) := by decide +kernel
theorem dX12_copyFed_75 : decode cX12_copyFed 75 = .ok (.invokevirtual 281, 3) := by decide +kernel
theorem dX12_copyFed_78 : decode cX12_copyFed 78 = .ok (.i2l, 1) := by decide +kernel
theorem dX12_copyFed_79 : decode cX12_copyFed 79 = .ok (.aload_n 0, 1) := by decide +kernel
theorem dX12_copyFed_80 : decode cX12_copyFed 80 = .ok (.getfield 21, 3) := by decide +kernel
theorem dX12_copyFed_83 : decode cX12_copyFed 83 = .ok (.iload_n 1, 1) := by decide +kernel
theorem dX12_copyFed_84 : decode cX12_copyFed 84 = .ok (.iaload, 1) := by decide +kernel
theorem dX12_copyFed_85 : decode cX12_copyFed 85 = .ok (.invokestatic 109, 3) := by decide +kernel
theorem dX12_copyFed_88 : decode cX12_copyFed 88 = .ok (.lastore, 1) := by decide +kernel
theorem dX12_copyFed_89 : decode cX12_copyFed 89 = .ok (.iinc 2 1, 3) := by decide +kernel
theorem dX12_copyFed_92 : decode cX12_copyFed 92 = .ok (.goto (-40), 3) := by decide +kernel
theorem dX12_copyFed_95 : decode cX12_copyFed 95 = .ok (.aload_n 0, 1) := by decide +kernel
theorem dX12_copyFed_96 : decode cX12_copyFed 96 = .ok (.aload_n 0, 1) := by decide +kernel
theorem dX12_copyFed_97 : decode cX12_copyFed 97 = .ok (.getfield 7, 3) := by decide +kernel
theorem dX12_copyFed_100 : decode cX12_copyFed 100 = .ok (.iconst 3, 1) := by decide +kernel
theorem dX12_copyFed_101 : decode cX12_copyFed 101 = .ok (.iaload, 1) := by decide +kernel
theorem dX12_copyFed_102 : decode cX12_copyFed 102 = .ok (.invokevirtual 95, 3) := by decide +kernel
theorem dX12_copyFed_105 : decode cX12_copyFed 105 = .ok (.ireturn, 1) := by decide +kernel
theorem dX12_draw_0 : decode cX12_draw 0 = .ok (.aload_n 0, 1) := by decide +kernel
theorem dX12_draw_1 : decode cX12_draw 1 = .ok (.aload_n 0, 1) := by decide +kernel
theorem dX12_draw_2 : decode cX12_draw 2 = .ok (.getfield 478, 3) := by decide +kernel
theorem dX12_draw_5 : decode cX12_draw 5 = .ok (.sipush 3181, 3) := by decide +kernel
theorem dX12_draw_8 : decode cX12_draw 8 = .ok (.imul, 1) := by decide +kernel
theorem dX12_draw_9 : decode cX12_draw 9 = .ok (.sipush 11399, 3) := by decide +kernel
theorem dX12_draw_12 : decode cX12_draw 12 = .ok (.iadd, 1) := by decide +kernel
theorem dX12_draw_13 : decode cX12_draw 13 = .ok (.ldc_w 481, 3) := by decide +kernel
theorem dX12_draw_16 : decode cX12_draw 16 = .ok (.irem, 1) := by decide +kernel
theorem dX12_draw_17 : decode cX12_draw 17 = .ok (.putfield 478, 3) := by decide +kernel
theorem dX12_draw_20 : decode cX12_draw 20 = .ok (.aload_n 0, 1) := by decide +kernel
theorem dX12_draw_21 : decode cX12_draw 21 = .ok (.getfield 478, 3) := by decide +kernel
theorem dX12_draw_24 : decode cX12_draw 24 = .ok (.bipush 8, 2) := by decide +kernel
theorem dX12_draw_26 : decode cX12_draw 26 = .ok (.idiv, 1) := by decide +kernel
theorem dX12_draw_27 : decode cX12_draw 27 = .ok (.iload_n 1, 1) := by decide +kernel
theorem dX12_draw_28 : decode cX12_draw 28 = .ok (.irem, 1) := by decide +kernel
theorem dX12_draw_29 : decode cX12_draw 29 = .ok (.ireturn, 1) := by decide +kernel
set_option maxRecDepth 20000 in
theorem ggX12_sitsBy_X12_sits : GoodIn wsX12_sitsBy wsX12_sits := goodIn_r _ [7, 1, 8, 9, 10, 11, 12, 13, 14, 6, 15, 16, 17, 18, 19, 20, 21, 22, 23, 24, 25, 26, 27, 28, 29, 30, 31, 32, 33, 34, 35, 36, 37, 38, 39, 40, 41, 42, 43, 44, 45, 46, 47, 48, 49, 50, 51, 52, 53, 54, 55, 56, 57, 58, 59, 60, 61, 62, 63, 64, 65, 66, 67, 68, 69, 70, 71, 72, 73, 74, 75, 76, 77, 78, 79, 80, 81, 82, 83, 84, 85, 86, 87, 88, 89, 90] (by decide +kernel) (by decide +kernel)
set_option maxRecDepth 20000 in
theorem gX12_sitsBy_X12_sits : GoodIn wsX12_sitsBy (wsV RX12 341 RX12 yX12_sits wsX12_sits) := goodIn_app (goodIn_of _ (by decide +kernel)) ggX12_sitsBy_X12_sits
theorem dX12_sitsBy_0 : decode cX12_sitsBy 0 = .ok (.aload_n 0, 1) := by decide +kernel
theorem dX12_sitsBy_1 : decode cX12_sitsBy 1 = .ok (.getfield 7, 3) := by decide +kernel
theorem dX12_sitsBy_4 : decode cX12_sitsBy 4 = .ok (.bipush 7, 2) := by decide +kernel
theorem dX12_sitsBy_6 : decode cX12_sitsBy 6 = .ok (.iaload, 1) := by decide +kernel
theorem dX12_sitsBy_7 : decode cX12_sitsBy 7 = .ok (.sipush 9999, 3) := by decide +kernel
theorem dX12_sitsBy_10 : decode cX12_sitsBy 10 = .ok (.if_icmp .ne 5, 3) := by decide +kernel
theorem dX12_sitsBy_13 : decode cX12_sitsBy 13 = .ok (.iconst 0, 1) := by decide +kernel
theorem dX12_sitsBy_14 : decode cX12_sitsBy 14 = .ok (.ireturn, 1) := by decide +kernel
theorem dX12_sitsBy_15 : decode cX12_sitsBy 15 = .ok (.aload_n 0, 1) := by decide +kernel
theorem dX12_sitsBy_16 : decode cX12_sitsBy 16 = .ok (.iload_n 1, 1) := by decide +kernel
theorem dX12_sitsBy_17 : decode cX12_sitsBy 17 = .ok (.invokevirtual 341, 3) := by decide +kernel
theorem dX12_sitsBy_20 : decode cX12_sitsBy 20 = .ok (.pop, 1) := by decide +kernel
theorem dX12_sitsBy_21 : decode cX12_sitsBy 21 = .ok (.aload_n 0, 1) := by decide +kernel
theorem dX12_sitsBy_22 : decode cX12_sitsBy 22 = .ok (.getfield 75, 3) := by decide +kernel
theorem dX12_sitsBy_25 : decode cX12_sitsBy 25 = .ok (.iconst 1, 1) := by decide +kernel
theorem dX12_sitsBy_26 : decode cX12_sitsBy 26 = .ok (.dup2, 1) := by decide +kernel
theorem dX12_sitsBy_27 : decode cX12_sitsBy 27 = .ok (.iaload, 1) := by decide +kernel
theorem dX12_sitsBy_28 : decode cX12_sitsBy 28 = .ok (.iconst 1, 1) := by decide +kernel
theorem dX12_sitsBy_29 : decode cX12_sitsBy 29 = .ok (.iadd, 1) := by decide +kernel
theorem dX12_sitsBy_30 : decode cX12_sitsBy 30 = .ok (.iastore, 1) := by decide +kernel
theorem dX12_sitsBy_31 : decode cX12_sitsBy 31 = .ok (.iconst 1, 1) := by decide +kernel
theorem dX12_sitsBy_32 : decode cX12_sitsBy 32 = .ok (.ireturn, 1) := by decide +kernel
set_option maxRecDepth 20000 in
theorem ggX12_termsBy_X12_peopleThat : GoodIn wsX12_termsBy wsX12_peopleThat := goodIn_r _ [6, 7, 8, 9, 10, 5, 11, 12, 13, 14, 64, 65, 66, 67, 68, 69, 70, 71, 72, 73, 74, 75, 76, 77, 78, 79, 80, 81, 82, 83, 84, 85, 86, 87, 88, 89, 90, 91, 92, 93, 94, 95, 96, 97, 98, 99, 100, 101, 102, 103, 104, 105] (by decide +kernel) (by decide +kernel)
set_option maxRecDepth 20000 in
theorem gX12_termsBy_X12_peopleThat : GoodIn wsX12_termsBy (wsV RX12 290 RX12 yX12_peopleThat wsX12_peopleThat) := goodIn_app (goodIn_of _ (by decide +kernel)) ggX12_termsBy_X12_peopleThat
set_option maxRecDepth 20000 in
theorem ggX12_termsBy_X12_isTooMuch : GoodIn wsX12_termsBy wsX12_isTooMuch := goodIn_r _ [18, 7, 2, 3, 4, 5, 6, 8, 9, 10, 11, 12, 13, 14, 19, 20, 21, 64, 65, 66, 67, 68, 69, 70, 71, 72, 73, 74, 75, 76, 77, 78, 79, 80, 81, 82, 83, 84, 85, 86, 87, 88, 89, 90, 91, 92, 93, 94, 95, 96, 97, 98, 99, 100, 101, 102, 103, 104, 105] (by decide +kernel) (by decide +kernel)
set_option maxRecDepth 20000 in
theorem gX12_termsBy_X12_isTooMuch : GoodIn wsX12_termsBy (wsV RX12 347 RX12 yX12_isTooMuch wsX12_isTooMuch) := goodIn_app (goodIn_of _ (by decide +kernel)) ggX12_termsBy_X12_isTooMuch
set_option maxRecDepth 20000 in
theorem ggX12_termsBy_X12_bits : GoodIn wsX12_termsBy wsX12_bits := goodIn_r _ [21] (by decide +kernel) (by decide +kernel)
set_option maxRecDepth 20000 in
theorem gX12_termsBy_X12_bits : GoodIn wsX12_termsBy (va_wsS RX12 344 yX12_bits wsX12_bits) := goodIn_app (goodIn_of _ (by decide +kernel)) ggX12_termsBy_X12_bits
set_option maxRecDepth 20000 in
theorem ggX12_termsBy_X12_terms : GoodIn wsX12_termsBy wsX12_terms := goodIn_r _ [25, 7, 2, 3, 4, 5, 6, 8, 9, 10, 11, 12, 13, 14, 26, 27, 28, 29, 30, 31, 32, 33, 34, 35, 36, 37, 38, 39, 40, 41, 42, 43, 44, 45, 46, 47, 48, 49, 50, 51, 52, 53, 54, 55, 56, 57, 58, 59, 60, 61, 62, 63, 64, 65, 66, 67, 68, 69, 70, 71, 72, 73, 74, 75, 76, 77, 78, 79, 80, 81, 82, 83, 84, 85, 86, 87, 88, 89, 90, 91, 92, 93, 94, 95, 96, 97, 98, 99, 100, 101, 102, 103, 104, 105] (by decide +kernel) (by decide +kernel)
set_option maxRecDepth 20000 in
theorem gX12_termsBy_X12_terms : GoodIn wsX12_termsBy (wsV RX12 350 RX12 yX12_terms wsX12_terms) := goodIn_app (goodIn_of _ (by decide +kernel)) ggX12_termsBy_X12_terms
theorem dX12_termsBy_0 : decode cX12_termsBy 0 = .ok (.aload_n 0, 1) := by decide +kernel
theorem dX12_termsBy_1 : decode cX12_termsBy 1 = .ok (.iconst 0, 1) := by decide +kernel
theorem dX12_termsBy_2 : decode cX12_termsBy 2 = .ok (.invokevirtual 290, 3) := by decide +kernel
theorem dX12_termsBy_5 : decode cX12_termsBy 5 = .ok (.istore_n 1, 1) := by decide +kernel
theorem dX12_termsBy_6 : decode cX12_termsBy 6 = .ok (.iload_n 1, 1) := by decide +kernel
theorem dX12_termsBy_7 : decode cX12_termsBy 7 = .ok (.ifCond .eq 10, 3) := by decide +kernel
theorem dX12_termsBy_10 : decode cX12_termsBy 10 = .ok (.aload_n 0, 1) := by decide +kernel
theorem dX12_termsBy_11 : decode cX12_termsBy 11 = .ok (.invokevirtual 347, 3) := by decide +kernel
theorem dX12_termsBy_14 : decode cX12_termsBy 14 = .ok (.ifCond .eq 5, 3) := by decide +kernel
theorem dX12_termsBy_17 : decode cX12_termsBy 17 = .ok (.iconst 0, 1) := by decide +kernel
theorem dX12_termsBy_18 : decode cX12_termsBy 18 = .ok (.ireturn, 1) := by decide +kernel
theorem dX12_termsBy_19 : decode cX12_termsBy 19 = .ok (.aload_n 0, 1) := by decide +kernel
theorem dX12_termsBy_20 : decode cX12_termsBy 20 = .ok (.getfield 75, 3) := by decide +kernel
theorem dX12_termsBy_23 : decode cX12_termsBy 23 = .ok (.iconst 1, 1) := by decide +kernel
theorem dX12_termsBy_24 : decode cX12_termsBy 24 = .ok (.dup2, 1) := by decide +kernel
theorem dX12_termsBy_25 : decode cX12_termsBy 25 = .ok (.iaload, 1) := by decide +kernel
theorem dX12_termsBy_26 : decode cX12_termsBy 26 = .ok (.iload_n 1, 1) := by decide +kernel
theorem dX12_termsBy_27 : decode cX12_termsBy 27 = .ok (.invokestatic 344, 3) := by decide +kernel
theorem dX12_termsBy_30 : decode cX12_termsBy 30 = .ok (.iadd, 1) := by decide +kernel
theorem dX12_termsBy_31 : decode cX12_termsBy 31 = .ok (.iastore, 1) := by decide +kernel
theorem dX12_termsBy_32 : decode cX12_termsBy 32 = .ok (.aload_n 0, 1) := by decide +kernel
theorem dX12_termsBy_33 : decode cX12_termsBy 33 = .ok (.getfield 75, 3) := by decide +kernel
theorem dX12_termsBy_36 : decode cX12_termsBy 36 = .ok (.iconst 2, 1) := by decide +kernel
theorem dX12_termsBy_37 : decode cX12_termsBy 37 = .ok (.dup2, 1) := by decide +kernel
theorem dX12_termsBy_38 : decode cX12_termsBy 38 = .ok (.iaload, 1) := by decide +kernel
theorem dX12_termsBy_39 : decode cX12_termsBy 39 = .ok (.aload_n 0, 1) := by decide +kernel
theorem dX12_termsBy_40 : decode cX12_termsBy 40 = .ok (.invokevirtual 350, 3) := by decide +kernel
theorem dX12_termsBy_43 : decode cX12_termsBy 43 = .ok (.invokestatic 344, 3) := by decide +kernel
theorem dX12_termsBy_46 : decode cX12_termsBy 46 = .ok (.iadd, 1) := by decide +kernel
theorem dX12_termsBy_47 : decode cX12_termsBy 47 = .ok (.iastore, 1) := by decide +kernel
theorem dX12_termsBy_48 : decode cX12_termsBy 48 = .ok (.aload_n 0, 1) := by decide +kernel
theorem dX12_termsBy_49 : decode cX12_termsBy 49 = .ok (.getfield 75, 3) := by decide +kernel
theorem dX12_termsBy_52 : decode cX12_termsBy 52 = .ok (.iconst 3, 1) := by decide +kernel
theorem dX12_termsBy_53 : decode cX12_termsBy 53 = .ok (.dup2, 1) := by decide +kernel
theorem dX12_termsBy_54 : decode cX12_termsBy 54 = .ok (.iaload, 1) := by decide +kernel
theorem dX12_termsBy_55 : decode cX12_termsBy 55 = .ok (.iload_n 1, 1) := by decide +kernel
theorem dX12_termsBy_56 : decode cX12_termsBy 56 = .ok (.aload_n 0, 1) := by decide +kernel
theorem dX12_termsBy_57 : decode cX12_termsBy 57 = .ok (.iconst 2, 1) := by decide +kernel
theorem dX12_termsBy_58 : decode cX12_termsBy 58 = .ok (.invokevirtual 290, 3) := by decide +kernel
theorem dX12_termsBy_61 : decode cX12_termsBy 61 = .ok (.iand, 1) := by decide +kernel
theorem dX12_termsBy_62 : decode cX12_termsBy 62 = .ok (.invokestatic 344, 3) := by decide +kernel
theorem dX12_termsBy_65 : decode cX12_termsBy 65 = .ok (.iadd, 1) := by decide +kernel
theorem dX12_termsBy_66 : decode cX12_termsBy 66 = .ok (.iastore, 1) := by decide +kernel
theorem dX12_termsBy_67 : decode cX12_termsBy 67 = .ok (.iconst 1, 1) := by decide +kernel
theorem dX12_termsBy_68 : decode cX12_termsBy 68 = .ok (.ireturn, 1) := by decide +kernel
set_option maxRecDepth 20000 in
theorem ggX12_feedsAny_X12_draw : GoodIn wsX12_feedsAny wsX12_draw := goodIn_r _ [6, 7, 8, 20, 21, 22, 23, 24, 25, 26, 27, 28, 29, 30, 31, 32, 33, 34, 35, 36, 37, 38, 39, 40, 41, 42, 43, 44, 45, 46, 47, 48, 49, 50, 51, 52, 53, 54, 55, 56, 57, 58, 59, 60, 61] (by decide +kernel) (by decide +kernel)
set_option maxRecDepth 20000 in
theorem gX12_feedsAny_X12_draw : GoodIn wsX12_feedsAny (wsV RX12 482 RX12 yX12_draw wsX12_draw) := goodIn_app (goodIn_of _ (by decide +kernel)) ggX12_feedsAny_X12_draw
set_option maxRecDepth 20000 in
theorem ggX12_feedsAny_X12_meals : GoodIn wsX12_feedsAny wsX12_meals := goodIn_r _ [12, 1, 13, 14, 15, 16, 17, 18, 5, 19, 20, 21, 22, 23, 24, 25, 26, 27, 28, 29, 30, 31, 32, 33, 34, 35, 36, 37, 38, 39, 40, 41, 42, 43, 44, 45, 46, 47, 48, 49, 50, 51, 52, 53, 54, 55, 56, 57, 58, 59, 60, 61] (by decide +kernel) (by decide +kernel)
set_option maxRecDepth 20000 in
theorem gX12_feedsAny_X12_meals : GoodIn wsX12_feedsAny (wsV RX12 355 RX12 yX12_meals wsX12_meals) := goodIn_app (goodIn_of _ (by decide +kernel)) ggX12_feedsAny_X12_meals
theorem dX12_feedsAny_0 : decode cX12_feedsAny 0 = .ok (.aload_n 0, 1) := by decide +kernel
theorem dX12_feedsAny_1 : decode cX12_feedsAny 1 = .ok (.getfield 7, 3) := by decide +kernel
theorem dX12_feedsAny_4 : decode cX12_feedsAny 4 = .ok (.iconst 3, 1) := by decide +kernel
theorem dX12_feedsAny_5 : decode cX12_feedsAny 5 = .ok (.iaload, 1) := by decide +kernel
theorem dX12_feedsAny_6 : decode cX12_feedsAny 6 = .ok (.ifCond .ne 5, 3) := by decide +kernel
theorem dX12_feedsAny_9 : decode cX12_feedsAny 9 = .ok (.iconst 0, 1) := by decide +kernel
theorem dX12_feedsAny_10 : decode cX12_feedsAny 10 = .ok (.ireturn, 1) := by decide +kernel
theorem dX12_feedsAny_11 : decode cX12_feedsAny 11 = .ok (.aload_n 0, 1) := by decide +kernel
theorem dX12_feedsAny_12 : decode cX12_feedsAny 12 = .ok (.aload_n 0, 1) := by decide +kernel
theorem dX12_feedsAny_13 : decode cX12_feedsAny 13 = .ok (.getfield 7, 3) := by decide +kernel
theorem dX12_feedsAny_16 : decode cX12_feedsAny 16 = .ok (.iconst 3, 1) := by decide +kernel
theorem dX12_feedsAny_17 : decode cX12_feedsAny 17 = .ok (.iaload, 1) := by decide +kernel
theorem dX12_feedsAny_18 : decode cX12_feedsAny 18 = .ok (.invokevirtual 482, 3) := by decide +kernel
theorem dX12_feedsAny_21 : decode cX12_feedsAny 21 = .ok (.istore_n 1, 1) := by decide +kernel
theorem dX12_feedsAny_22 : decode cX12_feedsAny 22 = .ok (.aload_n 0, 1) := by decide +kernel
theorem dX12_feedsAny_23 : decode cX12_feedsAny 23 = .ok (.iconst 4, 1) := by decide +kernel
theorem dX12_feedsAny_24 : decode cX12_feedsAny 24 = .ok (.invokevirtual 482, 3) := by decide +kernel
theorem dX12_feedsAny_27 : decode cX12_feedsAny 27 = .ok (.istore_n 2, 1) := by decide +kernel
theorem dX12_feedsAny_28 : decode cX12_feedsAny 28 = .ok (.iload_n 2, 1) := by decide +kernel
theorem dX12_feedsAny_29 : decode cX12_feedsAny 29 = .ok (.ifCond .le 16, 3) := by decide +kernel
theorem dX12_feedsAny_32 : decode cX12_feedsAny 32 = .ok (.aload_n 0, 1) := by decide +kernel
theorem dX12_feedsAny_33 : decode cX12_feedsAny 33 = .ok (.iload_n 1, 1) := by decide +kernel
theorem dX12_feedsAny_34 : decode cX12_feedsAny 34 = .ok (.iload_n 2, 1) := by decide +kernel
theorem dX12_feedsAny_35 : decode cX12_feedsAny 35 = .ok (.invokevirtual 355, 3) := by decide +kernel
theorem dX12_feedsAny_38 : decode cX12_feedsAny 38 = .ok (.ifCond .eq 7, 3) := by decide +kernel
theorem dX12_feedsAny_41 : decode cX12_feedsAny 41 = .ok (.iconst 1, 1) := by decide +kernel
theorem dX12_feedsAny_42 : decode cX12_feedsAny 42 = .ok (.goto 4, 3) := by decide +kernel
theorem dX12_feedsAny_45 : decode cX12_feedsAny 45 = .ok (.iconst 0, 1) := by decide +kernel
theorem dX12_feedsAny_46 : decode cX12_feedsAny 46 = .ok (.ireturn, 1) := by decide +kernel
set_option maxRecDepth 20000 in
theorem ggX12_does_X12_sitsBy : GoodIn wsX12_does wsX12_sitsBy := goodIn_r _ [6, 1, 7, 8, 9, 10, 5, 11, 12, 13, 14, 15, 16, 17, 18, 19, 20, 21, 22, 23, 24, 25, 26, 27, 28, 29, 30, 31, 32, 33, 34, 35, 36, 37, 38, 39, 40, 41, 42, 43, 44, 45, 46, 47, 48, 49, 50, 51, 52, 94, 95, 96, 97, 98, 99, 100, 101, 102, 103, 104, 105, 106, 107, 108, 109, 110, 111, 112, 113, 114, 115, 116, 117, 118, 119, 120, 121, 122, 123, 124, 125, 126, 127, 128, 129, 130, 131, 132, 133, 134, 135] (by decide +kernel) (by decide +kernel)
set_option maxRecDepth 20000 in
theorem gX12_does_X12_sitsBy : GoodIn wsX12_does (wsV RX12 485 RX12 yX12_sitsBy wsX12_sitsBy) := goodIn_app (goodIn_of _ (by decide +kernel)) ggX12_does_X12_sitsBy
set_option maxRecDepth 20000 in
theorem ggX12_does_X12_termsBy : GoodIn wsX12_does wsX12_termsBy := goodIn_r _ [56, 7, 57, 58, 59, 5, 60, 1, 24, 25, 26, 27, 28, 29, 30, 61, 62, 63, 64, 65, 66, 67, 68, 69, 70, 71, 46, 47, 48, 49, 8, 9, 10, 11, 12, 13, 14, 15, 16, 17, 18, 19, 20, 21, 22, 23, 31, 32, 33, 34, 35, 36, 37, 38, 39, 40, 41, 42, 43, 44, 45, 50, 51, 52, 94, 95, 96, 97, 98, 99, 100, 101, 102, 103, 104, 105, 106, 107, 108, 109, 110, 111, 112, 113, 114, 115, 116, 117, 118, 119, 120, 121, 122, 123, 124, 125, 126, 127, 128, 129, 130, 131, 132, 133, 134, 135] (by decide +kernel) (by decide +kernel)
set_option maxRecDepth 20000 in
theorem gX12_does_X12_termsBy : GoodIn wsX12_does (wsV RX12 488 RX12 yX12_termsBy wsX12_termsBy) := goodIn_app (goodIn_of _ (by decide +kernel)) ggX12_does_X12_termsBy
set_option maxRecDepth 20000 in
theorem ggX12_does_X12_meals : GoodIn wsX12_does wsX12_meals := goodIn_r _ [75, 1, 12, 13, 14, 15, 28, 29, 5, 30, 94, 95, 96, 97, 98, 99, 100, 101, 102, 103, 104, 105, 106, 107, 108, 109, 110, 111, 112, 113, 114, 115, 116, 117, 118, 119, 120, 121, 122, 123, 124, 125, 126, 127, 128, 129, 130, 131, 132, 133, 134, 135] (by decide +kernel) (by decide +kernel)
set_option maxRecDepth 20000 in
theorem gX12_does_X12_meals : GoodIn wsX12_does (wsV RX12 355 RX12 yX12_meals wsX12_meals) := goodIn_app (goodIn_of _ (by decide +kernel)) ggX12_does_X12_meals
set_option maxRecDepth 20000 in
theorem ggX12_does_X12_scents : GoodIn wsX12_does wsX12_scents := goodIn_r _ [79, 1, 24, 25, 26, 5, 27, 28, 29, 30, 46, 47, 48, 49, 94, 95, 96, 97, 98, 99, 100, 101, 102, 103, 104, 105, 106, 107, 108, 109, 110, 111, 112, 113, 114, 115, 116, 117, 118, 119, 120, 121, 122, 123, 124, 125, 126, 127, 128, 129, 130, 131, 132, 133, 134, 135] (by decide +kernel) (by decide +kernel)
set_option maxRecDepth 20000 in
theorem gX12_does_X12_scents : GoodIn wsX12_does (wsV RX12 361 RX12 yX12_scents wsX12_scents) := goodIn_app (goodIn_of _ (by decide +kernel)) ggX12_does_X12_scents
set_option maxRecDepth 20000 in
theorem ggX12_does_X12_nights : GoodIn wsX12_does wsX12_nights := goodIn_r _ [83, 1, 94, 95, 96, 97, 98, 99, 100, 101, 102, 103, 104, 105, 106, 107, 108, 109, 110, 111, 112, 113, 114, 115, 116, 117, 118, 119, 120, 121, 122, 123, 124, 125, 126, 127, 128, 129, 130, 131, 132, 133, 134, 135] (by decide +kernel) (by decide +kernel)
set_option maxRecDepth 20000 in
theorem gX12_does_X12_nights : GoodIn wsX12_does (wsV RX12 365 RX12 yX12_nights wsX12_nights) := goodIn_app (goodIn_of _ (by decide +kernel)) ggX12_does_X12_nights
set_option maxRecDepth 20000 in
theorem ggX12_does_X12_feedsAny : GoodIn wsX12_does wsX12_feedsAny := goodIn_r _ [87, 1, 88, 89, 90, 5, 91, 92, 93, 72, 73, 74, 75, 12, 13, 14, 15, 28, 29, 30, 94, 95, 96, 97, 98, 99, 100, 101, 102, 103, 104, 105, 106, 107, 108, 109, 110, 111, 112, 113, 114, 115, 116, 117, 118, 119, 120, 121, 122, 123, 124, 125, 126, 127, 128, 129, 130, 131, 132, 133, 134, 135] (by decide +kernel) (by decide +kernel)
set_option maxRecDepth 20000 in
theorem gX12_does_X12_feedsAny : GoodIn wsX12_does (wsV RX12 491 RX12 yX12_feedsAny wsX12_feedsAny) := goodIn_app (goodIn_of _ (by decide +kernel)) ggX12_does_X12_feedsAny
theorem dX12_does_0 : decode cX12_does 0 = .ok (.aload_n 0, 1) := by decide +kernel
theorem dX12_does_1 : decode cX12_does 1 = .ok (.getfield 7, 3) := by decide +kernel
theorem dX12_does_4 : decode cX12_does 4 = .ok (.iload_n 1, 1) := by decide +kernel
theorem dX12_does_5 : decode cX12_does 5 = .ok (.iconst 1, 1) := by decide +kernel
theorem dX12_does_6 : decode cX12_does 6 = .ok (.iadd, 1) := by decide +kernel
theorem dX12_does_7 : decode cX12_does 7 = .ok (.iaload, 1) := by decide +kernel
theorem dX12_does_8 : decode cX12_does 8 = .ok (.istore_n 2, 1) := by decide +kernel
theorem dX12_does_9 : decode cX12_does 9 = .ok (.aload_n 0, 1) := by decide +kernel
theorem dX12_does_10 : decode cX12_does 10 = .ok (.getfield 7, 3) := by decide +kernel
theorem dX12_does_13 : decode cX12_does 13 = .ok (.iload_n 1, 1) := by decide +kernel
theorem dX12_does_14 : decode cX12_does 14 = .ok (.iconst 2, 1) := by decide +kernel
theorem dX12_does_15 : decode cX12_does 15 = .ok (.iadd, 1) := by decide +kernel
theorem dX12_does_16 : decode cX12_does 16 = .ok (.iaload, 1) := by decide +kernel
theorem dX12_does_17 : decode cX12_does 17 = .ok (.istore_n 3, 1) := by decide +kernel
theorem dX12_does_18 : decode cX12_does 18 = .ok (.aload_n 0, 1) := by decide +kernel
theorem dX12_does_19 : decode cX12_does 19 = .ok (.getfield 7, 3) := by decide +kernel
theorem dX12_does_22 : decode cX12_does 22 = .ok (.iload_n 1, 1) := by decide +kernel
theorem dX12_does_23 : decode cX12_does 23 = .ok (.iaload, 1) := by decide +kernel
theorem dX12_does_24 : decode cX12_does 24 = .ok (.tableswitch 88 15 21 #[44, 50, 55, 62, 70, 78, 83], 44) := by decide +kernel
theorem dX12_does_68 : decode cX12_does 68 = .ok (.aload_n 0, 1) := by decide +kernel
theorem dX12_does_69 : decode cX12_does 69 = .ok (.iload_n 2, 1) := by decide +kernel
theorem dX12_does_70 : decode cX12_does 70 = .ok (.invokevirtual 485, 3) := by decide +kernel
theorem dX12_does_73 : decode cX12_does 73 = .ok (.ireturn, 1) := by decide +kernel
theorem dX12_does_74 : decode cX12_does 74 = .ok (.aload_n 0, 1) := by decide +kernel
theorem dX12_does_75 : decode cX12_does 75 = .ok (.invokevirtual 488, 3) := by decide +kernel
theorem dX12_does_78 : decode cX12_does 78 = .ok (.ireturn, 1) := by decide +kernel
theorem dX12_does_79 : decode cX12_does 79 = .ok (.aload_n 0, 1) := by decide +kernel
theorem dX12_does_80 : decode cX12_does 80 = .ok (.iload_n 2, 1) := by decide +kernel
theorem dX12_does_81 : decode cX12_does 81 = .ok (.iload_n 3, 1) := by decide +kernel
theorem dX12_does_82 : decode cX12_does 82 = .ok (.invokevirtual 355, 3) := by decide +kernel
theorem dX12_does_85 : decode cX12_does 85 = .ok (.ireturn, 1) := by decide +kernel
theorem dX12_does_86 : decode cX12_does 86 = .ok (.aload_n 0, 1) := by decide +kernel
theorem dX12_does_87 : decode cX12_does 87 = .ok (.iload_n 2, 1) := by decide +kernel
theorem dX12_does_88 : decode cX12_does 88 = .ok (.iload_n 3, 1) := by decide +kernel
theorem dX12_does_89 : decode cX12_does 89 = .ok (.iconst 1, 1) := by decide +kernel
theorem dX12_does_90 : decode cX12_does 90 = .ok (.invokevirtual 361, 3) := by decide +kernel
theorem dX12_does_93 : decode cX12_does 93 = .ok (.ireturn, 1) := by decide +kernel
theorem dX12_does_94 : decode cX12_does 94 = .ok (.aload_n 0, 1) := by decide +kernel
theorem dX12_does_95 : decode cX12_does 95 = .ok (.iload_n 2, 1) := by decide +kernel
theorem dX12_does_96 : decode cX12_does 96 = .ok (.iload_n 3, 1) := by decide +kernel
theorem dX12_does_97 : decode cX12_does 97 = .ok (.iconst 0, 1) := by decide +kernel
theorem dX12_does_98 : decode cX12_does 98 = .ok (.invokevirtual 361, 3) := by decide +kernel
theorem dX12_does_101 : decode cX12_does 101 = .ok (.ireturn, 1) := by decide +kernel
theorem dX12_does_102 : decode cX12_does 102 = .ok (.aload_n 0, 1) := by decide +kernel
theorem dX12_does_103 : decode cX12_does 103 = .ok (.invokevirtual 365, 3) := by decide +kernel
theorem dX12_does_106 : decode cX12_does 106 = .ok (.ireturn, 1) := by decide +kernel
theorem dX12_does_107 : decode cX12_does 107 = .ok (.aload_n 0, 1) := by decide +kernel
theorem dX12_does_108 : decode cX12_does 108 = .ok (.invokevirtual 491, 3) := by decide +kernel
theorem dX12_does_111 : decode cX12_does 111 = .ok (.ireturn, 1) := by decide +kernel
theorem dX12_does_112 : decode cX12_does 112 = .ok (.iconst 1, 1) := by decide +kernel
theorem dX12_does_113 : decode cX12_does 113 = .ok (.ireturn, 1) := by decide +kernel
set_option maxRecDepth 20000 in
theorem ggX12_holds_X12_cueFor : GoodIn wsX12_holds wsX12_cueFor := goodIn_r _ [6, 7, 8, 9, 5, 10, 11, 12, 13, 14, 1, 15, 16, 17, 18, 19, 20, 21, 22, 23, 24, 25, 26, 27, 28, 29, 30, 31, 32, 33, 34, 35, 36, 37, 38, 39, 40, 41, 42, 43, 44, 45, 46, 47, 48, 49, 50, 51, 52, 53, 54, 55, 56, 57, 58, 59, 60, 61, 62, 63, 64, 65, 66, 67, 68, 69, 70, 71, 72, 73, 74, 75, 76, 77, 78, 79, 80, 81] (by decide +kernel) (by decide +kernel)
set_option maxRecDepth 20000 in
theorem gX12_holds_X12_cueFor : GoodIn wsX12_holds (wsV RX12 332 RX12 yX12_cueFor wsX12_cueFor) := goodIn_app (goodIn_of _ (by decide +kernel)) ggX12_holds_X12_cueFor
set_option maxRecDepth 20000 in
theorem ggX12_holds_X12_personOf : GoodIn wsX12_holds wsX12_personOf := goodIn_r _ [14, 1, 15, 16, 5, 17, 40, 41, 42, 43, 44, 45, 46, 47, 48, 49, 50, 51, 52, 53, 54, 55, 56, 57, 58, 59, 60, 61, 62, 63, 64, 65, 66, 67, 68, 69, 70, 71, 72, 73, 74, 75, 76, 77, 78, 79, 80, 81] (by decide +kernel) (by decide +kernel)
set_option maxRecDepth 20000 in
theorem gX12_holds_X12_personOf : GoodIn wsX12_holds (wsV RX12 281 RX12 yX12_personOf wsX12_personOf) := goodIn_app (goodIn_of _ (by decide +kernel)) ggX12_holds_X12_personOf
set_option maxRecDepth 20000 in
theorem ggX12_holds_X12_isSo : GoodIn wsX12_holds wsX12_isSo := goodIn_r _ [39] (by decide +kernel) (by decide +kernel)
set_option maxRecDepth 20000 in
theorem gX12_holds_X12_isSo : GoodIn wsX12_holds (va_wsS RX12 318 yX12_isSo wsX12_isSo) := goodIn_app (goodIn_of _ (by decide +kernel)) ggX12_holds_X12_isSo
theorem dX12_holds_0 : decode cX12_holds 0 = .ok (.aload_n 0, 1) := by decide +kernel
theorem dX12_holds_1 : decode cX12_holds 1 = .ok (.getfield 7, 3) := by decide +kernel
theorem dX12_holds_4 : decode cX12_holds 4 = .ok (.iload_n 1, 1) := by decide +kernel
theorem dX12_holds_5 : decode cX12_holds 5 = .ok (.iaload, 1) := by decide +kernel
theorem dX12_holds_6 : decode cX12_holds 6 = .ok (.sipush 2200, 3) := by decide +kernel
theorem dX12_holds_9 : decode cX12_holds 9 = .ok (.isub, 1) := by decide +kernel
theorem dX12_holds_10 : decode cX12_holds 10 = .ok (.istore_n 2, 1) := by decide +kernel
theorem dX12_holds_11 : decode cX12_holds 11 = .ok (.aload_n 0, 1) := by decide +kernel
theorem dX12_holds_12 : decode cX12_holds 12 = .ok (.getfield 7, 3) := by decide +kernel
theorem dX12_holds_15 : decode cX12_holds 15 = .ok (.iload_n 1, 1) := by decide +kernel
theorem dX12_holds_16 : decode cX12_holds 16 = .ok (.iconst 1, 1) := by decide +kernel
theorem dX12_holds_17 : decode cX12_holds 17 = .ok (.iadd, 1) := by decide +kernel
theorem dX12_holds_18 : decode cX12_holds 18 = .ok (.iaload, 1) := by decide +kernel
theorem dX12_holds_19 : decode cX12_holds 19 = .ok (.istore_n 3, 1) := by decide +kernel
theorem dX12_holds_20 : decode cX12_holds 20 = .ok (.iload_n 2, 1) := by decide +kernel
theorem dX12_holds_21 : decode cX12_holds 21 = .ok (.bipush 26, 2) := by decide +kernel
theorem dX12_holds_23 : decode cX12_holds 23 = .ok (.if_icmp .ne 32, 3) := by decide +kernel
theorem dX12_holds_26 : decode cX12_holds 26 = .ok (.aload_n 0, 1) := by decide +kernel
theorem dX12_holds_27 : decode cX12_holds 27 = .ok (.iload_n 3, 1) := by decide +kernel
theorem dX12_holds_28 : decode cX12_holds 28 = .ok (.aload_n 0, 1) := by decide +kernel
theorem dX12_holds_29 : decode cX12_holds 29 = .ok (.getfield 7, 3) := by decide +kernel
theorem dX12_holds_32 : decode cX12_holds 32 = .ok (.bipush 6, 2) := by decide +kernel
theorem dX12_holds_34 : decode cX12_holds 34 = .ok (.iaload, 1) := by decide +kernel
theorem dX12_holds_35 : decode cX12_holds 35 = .ok (.invokevirtual 332, 3) := by decide +kernel
theorem dX12_holds_38 : decode cX12_holds 38 = .ok (.aload_n 0, 1) := by decide +kernel
theorem dX12_holds_39 : decode cX12_holds 39 = .ok (.getfield 7, 3) := by decide +kernel
theorem dX12_holds_42 : decode cX12_holds 42 = .ok (.iload_n 1, 1) := by decide +kernel
theorem dX12_holds_43 : decode cX12_holds 43 = .ok (.iconst 2, 1) := by decide +kernel
theorem dX12_holds_44 : decode cX12_holds 44 = .ok (.iadd, 1) := by decide +kernel
theorem dX12_holds_45 : decode cX12_holds 45 = .ok (.iaload, 1) := by decide +kernel
theorem dX12_holds_46 : decode cX12_holds 46 = .ok (.if_icmp .ne 7, 3) := by decide +kernel
theorem dX12_holds_49 : decode cX12_holds 49 = .ok (.iconst 1, 1) := by decide +kernel
theorem dX12_holds_50 : decode cX12_holds 50 = .ok (.goto 4, 3) := by decide +kernel
theorem dX12_holds_53 : decode cX12_holds 53 = .ok (.iconst 0, 1) := by decide +kernel
theorem dX12_holds_54 : decode cX12_holds 54 = .ok (.ireturn, 1) := by decide +kernel
theorem dX12_holds_55 : decode cX12_holds 55 = .ok (.iload_n 2, 1) := by decide +kernel
theorem dX12_holds_56 : decode cX12_holds 56 = .ok (.bipush 27, 2) := by decide +kernel
theorem dX12_holds_58 : decode cX12_holds 58 = .ok (.if_icmp .ne 19, 3) := by decide +kernel
theorem dX12_holds_61 : decode cX12_holds 61 = .ok (.aload_n 0, 1) := by decide +kernel
theorem dX12_holds_62 : decode cX12_holds 62 = .ok (.iload_n 3, 1) := by decide +kernel
theorem dX12_holds_63 : decode cX12_holds 63 = .ok (.iconst 2, 1) := by decide +kernel
theorem dX12_holds_64 : decode cX12_holds 64 = .ok (.invokevirtual 281, 3) := by decide +kernel
theorem dX12_holds_67 : decode cX12_holds 67 = .ok (.iconst 2, 1) := by decide +kernel
theorem dX12_holds_68 : decode cX12_holds 68 = .ok (.if_icmp .ne 7, 3) := by decide +kernel
theorem dX12_holds_71 : decode cX12_holds 71 = .ok (.iconst 1, 1) := by decide +kernel
theorem dX12_holds_72 : decode cX12_holds 72 = .ok (.goto 4, 3) := by decide +kernel
theorem dX12_holds_75 : decode cX12_holds 75 = .ok (.iconst 0, 1) := by decide +kernel
theorem dX12_holds_76 : decode cX12_holds 76 = .ok (.ireturn, 1) := by decide +kernel
theorem dX12_holds_77 : decode cX12_holds 77 = .ok (.iload_n 2, 1) := by decide +kernel
theorem dX12_holds_78 : decode cX12_holds 78 = .ok (.bipush 28, 2) := by decide +kernel
theorem dX12_holds_80 : decode cX12_holds 80 = .ok (.if_icmp .ne 19, 3) := by decide +kernel
theorem dX12_holds_83 : decode cX12_holds 83 = .ok (.aload_n 0, 1) := by decide +kernel
theorem dX12_holds_84 : decode cX12_holds 84 = .ok (.iload_n 3, 1) := by decide +kernel
theorem dX12_holds_85 : decode cX12_holds 85 = .ok (.iconst 2, 1) := by decide +kernel
theorem dX12_holds_86 : decode cX12_holds 86 = .ok (.invokevirtual 281, 3) := by decide +kernel
theorem dX12_holds_89 : decode cX12_holds 89 = .ok (.iconst 1, 1) := by decide +kernel
theorem dX12_holds_90 : decode cX12_holds 90 = .ok (.if_icmp .ne 7, 3) := by decide +kernel
theorem dX12_holds_93 : decode cX12_holds 93 = .ok (.iconst 1, 1) := by decide +kernel
theorem dX12_holds_94 : decode cX12_holds 94 = .ok (.goto 4, 3) := by decide +kernel
theorem dX12_holds_97 : decode cX12_holds 97 = .ok (.iconst 0, 1) := by decide +kernel
theorem dX12_holds_98 : decode cX12_holds 98 = .ok (.ireturn, 1) := by decide +kernel
theorem dX12_holds_99 : decode cX12_holds 99 = .ok (.aload_n 0, 1) := by decide +kernel
theorem dX12_holds_100 : decode cX12_holds 100 = .ok (.getfield 7, 3) := by decide +kernel
theorem dX12_holds_103 : decode cX12_holds 103 = .ok (.iload_n 1, 1) := by decide +kernel
theorem dX12_holds_104 : decode cX12_holds 104 = .ok (.iconst 5, 1) := by decide +kernel
theorem dX12_holds_105 : decode cX12_holds 105 = .ok (.iadd, 1) := by decide +kernel
theorem dX12_holds_106 : decode cX12_holds 106 = .ok (.iaload, 1) := by decide +kernel
theorem dX12_holds_107 : decode cX12_holds 107 = .ok (.aload_n 0, 1) := by decide +kernel
theorem dX12_holds_108 : decode cX12_holds 108 = .ok (.getfield 7, 3) := by decide +kernel
theorem dX12_holds_111 : decode cX12_holds 111 = .ok (.bipush 6, 2) := by decide +kernel
theorem dX12_holds_113 : decode cX12_holds 113 = .ok (.iaload, 1) := by decide +kernel
theorem dX12_holds_114 : decode cX12_holds 114 = .ok (.aload_n 0, 1) := by decide +kernel
theorem dX12_holds_115 : decode cX12_holds 115 = .ok (.getfield 7, 3) := by decide +kernel
theorem dX12_holds_118 : decode cX12_holds 118 = .ok (.iload_n 1, 1) := by decide +kernel
theorem dX12_holds_119 : decode cX12_holds 119 = .ok (.iconst 2, 1) := by decide +kernel
theorem dX12_holds_120 : decode cX12_holds 120 = .ok (.iadd, 1) := by decide +kernel
theorem dX12_holds_121 : decode cX12_holds 121 = .ok (.iaload, 1) := by decide +kernel
theorem dX12_holds_122 : decode cX12_holds 122 = .ok (.invokestatic 318, 3) := by decide +kernel
theorem dX12_holds_125 : decode cX12_holds 125 = .ok (.ireturn, 1) := by decide +kernel
theorem dX12_behindEnds_0 : decode cX12_behindEnds 0 = .ok (.iload_n 1, 1) := by decide +kernel
theorem dX12_behindEnds_1 : decode cX12_behindEnds 1 = .ok (.istore_n 2, 1) := by decide +kernel
theorem dX12_behindEnds_2 : decode cX12_behindEnds 2 = .ok (.iload_n 2, 1) := by decide +kernel
theorem dX12_behindEnds_3 : decode cX12_behindEnds 3 = .ok (.aload_n 0, 1) := by decide +kernel
theorem dX12_behindEnds_4 : decode cX12_behindEnds 4 = .ok (.getfield 7, 3) := by decide +kernel
theorem dX12_behindEnds_7 : decode cX12_behindEnds 7 = .ok (.bipush 8, 2) := by decide +kernel
theorem dX12_behindEnds_9 : decode cX12_behindEnds 9 = .ok (.iaload, 1) := by decide +kernel
theorem dX12_behindEnds_10 : decode cX12_behindEnds 10 = .ok (.if_icmp .ge 108, 3) := by decide +kernel
theorem dX12_behindEnds_13 : decode cX12_behindEnds 13 = .ok (.aload_n 0, 1) := by decide +kernel
theorem dX12_behindEnds_14 : decode cX12_behindEnds 14 = .ok (.getfield 7, 3) := by decide +kernel
theorem dX12_behindEnds_17 : decode cX12_behindEnds 17 = .ok (.sipush 134, 3) := by decide +kernel
theorem dX12_behindEnds_20 : decode cX12_behindEnds 20 = .ok (.bipush 6, 2) := by decide +kernel
theorem dX12_behindEnds_22 : decode cX12_behindEnds 22 = .ok (.iload_n 2, 1) := by decide +kernel
theorem dX12_behindEnds_23 : decode cX12_behindEnds 23 = .ok (.imul, 1) := by decide +kernel
theorem dX12_behindEnds_24 : decode cX12_behindEnds 24 = .ok (.iadd, 1) := by decide +kernel
theorem dX12_behindEnds_25 : decode cX12_behindEnds 25 = .ok (.iaload, 1) := by decide +kernel
theorem dX12_behindEnds_26 : decode cX12_behindEnds 26 = .ok (.bipush 24, 2) := by decide +kernel
theorem dX12_behindEnds_28 : decode cX12_behindEnds 28 = .ok (.if_icmp .ne 90, 3) := by decide +kernel
theorem dX12_behindEnds_31 : decode cX12_behindEnds 31 = .ok (.aload_n 0, 1) := by decide +kernel
theorem dX12_behindEnds_32 : decode cX12_behindEnds 32 = .ok (.getfield 7, 3) := by decide +kernel
theorem dX12_behindEnds_35 : decode cX12_behindEnds 35 = .ok (.sipush 134, 3) := by decide +kernel
theorem dX12_behindEnds_38 : decode cX12_behindEnds 38 = .ok (.bipush 6, 2) := by decide +kernel
theorem dX12_behindEnds_40 : decode cX12_behindEnds 40 = .ok (.iload_n 2, 1) := by decide +kernel
theorem dX12_behindEnds_41 : decode cX12_behindEnds 41 = .ok (.imul, 1) := by decide +kernel
theorem dX12_behindEnds_42 : decode cX12_behindEnds 42 = .ok (.iadd, 1) := by decide +kernel
theorem dX12_behindEnds_43 : decode cX12_behindEnds 43 = .ok (.iconst 4, 1) := by decide +kernel
theorem dX12_behindEnds_44 : decode cX12_behindEnds 44 = .ok (.iadd, 1) := by decide +kernel
theorem dX12_behindEnds_45 : decode cX12_behindEnds 45 = .ok (.iaload, 1) := by decide +kernel
theorem dX12_behindEnds_46 : decode cX12_behindEnds 46 = .ok (.istore_n 3, 1) := by decide +kernel
theorem dX12_behindEnds_47 : decode cX12_behindEnds 47 = .ok (.aload_n 0, 1) := by decide +kernel
theorem dX12_behindEnds_48 : decode cX12_behindEnds 48 = .ok (.getfield 7, 3) := by decide +kernel
theorem dX12_behindEnds_51 : decode cX12_behindEnds 51 = .ok (.sipush 134, 3) := by decide +kernel
theorem dX12_behindEnds_54 : decode cX12_behindEnds 54 = .ok (.bipush 6, 2) := by decide +kernel
theorem dX12_behindEnds_56 : decode cX12_behindEnds 56 = .ok (.iload_n 3, 1) := by decide +kernel
theorem dX12_behindEnds_57 : decode cX12_behindEnds 57 = .ok (.imul, 1) := by decide +kernel
theorem dX12_behindEnds_58 : decode cX12_behindEnds 58 = .ok (.iadd, 1) := by decide +kernel
theorem dX12_behindEnds_59 : decode cX12_behindEnds 59 = .ok (.iaload, 1) := by decide +kernel
theorem dX12_behindEnds_60 : decode cX12_behindEnds 60 = .ok (.bipush 23, 2) := by decide +kernel
theorem dX12_behindEnds_62 : decode cX12_behindEnds 62 = .ok (.if_icmp .ne 16, 3) := by decide +kernel
theorem dX12_behindEnds_65 : decode cX12_behindEnds 65 = .ok (.aload_n 0, 1) := by decide +kernel
theorem dX12_behindEnds_66 : decode cX12_behindEnds 66 = .ok (.getfield 72, 3) := by decide +kernel
theorem dX12_behindEnds_69 : decode cX12_behindEnds 69 = .ok (.iload_n 3, 1) := by decide +kernel
theorem dX12_behindEnds_70 : decode cX12_behindEnds 70 = .ok (.iaload, 1) := by decide +kernel
theorem dX12_behindEnds_71 : decode cX12_behindEnds 71 = .ok (.ifCond .le 7, 3) := by decide +kernel
theorem dX12_behindEnds_74 : decode cX12_behindEnds 74 = .ok (.iconst 1, 1) := by decide +kernel
theorem dX12_behindEnds_75 : decode cX12_behindEnds 75 = .ok (.goto 4, 3) := by decide +kernel
theorem dX12_behindEnds_78 : decode cX12_behindEnds 78 = .ok (.iconst 0, 1) := by decide +kernel
theorem dX12_behindEnds_79 : decode cX12_behindEnds 79 = .ok (.istore 4, 2) := by decide +kernel
theorem dX12_behindEnds_81 : decode cX12_behindEnds 81 = .ok (.aload_n 0, 1) := by decide +kernel
theorem dX12_behindEnds_82 : decode cX12_behindEnds 82 = .ok (.getfield 72, 3) := by decide +kernel
theorem dX12_behindEnds_85 : decode cX12_behindEnds 85 = .ok (.iload_n 3, 1) := by decide +kernel
theorem dX12_behindEnds_86 : decode cX12_behindEnds 86 = .ok (.dup2, 1) := by decide +kernel
theorem dX12_behindEnds_87 : decode cX12_behindEnds 87 = .ok (.iaload, 1) := by decide +kernel
theorem dX12_behindEnds_88 : decode cX12_behindEnds 88 = .ok (.iload 4, 2) := by decide +kernel
theorem dX12_behindEnds_90 : decode cX12_behindEnds 90 = .ok (.ifCond .eq 7, 3) := by decide +kernel
theorem dX12_behindEnds_93 : decode cX12_behindEnds 93 = .ok (.iconst 1, 1) := by decide +kernel
theorem dX12_behindEnds_94 : decode cX12_behindEnds 94 = .ok (.goto 4, 3) := by decide +kernel
theorem dX12_behindEnds_97 : decode cX12_behindEnds 97 = .ok (.iconst 0, 1) := by decide +kernel
theorem dX12_behindEnds_98 : decode cX12_behindEnds 98 = .ok (.isub, 1) := by decide +kernel
theorem dX12_behindEnds_99 : decode cX12_behindEnds 99 = .ok (.iastore, 1) := by decide +kernel
theorem dX12_behindEnds_100 : decode cX12_behindEnds 100 = .ok (.iload 4, 2) := by decide +kernel
theorem dX12_behindEnds_102 : decode cX12_behindEnds 102 = .ok (.ifCond .eq 9, 3) := by decide +kernel
theorem dX12_behindEnds_105 : decode cX12_behindEnds 105 = .ok (.iload_n 3, 1) := by decide +kernel
theorem dX12_behindEnds_106 : decode cX12_behindEnds 106 = .ok (.iconst 1, 1) := by decide +kernel
theorem dX12_behindEnds_107 : decode cX12_behindEnds 107 = .ok (.iadd, 1) := by decide +kernel
theorem dX12_behindEnds_108 : decode cX12_behindEnds 108 = .ok (.goto 6, 3) := by decide +kernel
theorem dX12_behindEnds_111 : decode cX12_behindEnds 111 = .ok (.iload_n 2, 1) := by decide +kernel
theorem dX12_behindEnds_112 : decode cX12_behindEnds 112 = .ok (.iconst 1, 1) := by decide +kernel
theorem dX12_behindEnds_113 : decode cX12_behindEnds 113 = .ok (.iadd, 1) := by decide +kernel
theorem dX12_behindEnds_114 : decode cX12_behindEnds 114 = .ok (.istore_n 2, 1) := by decide +kernel
theorem dX12_behindEnds_115 : decode cX12_behindEnds 115 = .ok (.goto (-113), 3) := by decide +kernel
theorem dX12_behindEnds_118 : decode cX12_behindEnds 118 = .ok (.iload_n 2, 1) := by decide +kernel
theorem dX12_behindEnds_119 : decode cX12_behindEnds 119 = .ok (.ireturn, 1) := by decide +kernel
set_option maxRecDepth 20000 in
theorem ggX12_lives_X12_does : GoodIn wsX12_lives wsX12_does := goodIn_r _ [10, 4, 11, 12, 13, 9, 14, 3, 15, 16, 17, 18, 19, 20, 21, 22, 23, 24, 25, 26, 27, 28, 29, 30, 31, 32, 33, 34, 35, 36, 37, 38, 39, 40, 41, 42, 43, 44, 45, 46, 47, 48, 49, 50, 51, 52, 53, 54, 55, 56, 57, 58, 59, 60, 61, 62, 63, 64, 65, 66, 67, 68, 69, 70, 71, 72, 73, 74, 75, 76, 77, 78, 79, 80, 81, 82, 83, 84, 85, 86, 87, 88, 89, 90, 91, 92, 93, 94, 95, 96, 97, 98, 1, 99, 108, 109, 110, 111, 112, 113, 114, 115, 116, 117, 118, 119, 120, 121, 122, 123, 124, 125, 126, 127, 128, 129, 130, 131, 132, 133, 134, 135, 136, 137, 138, 139, 140, 141, 142, 143, 144, 145, 146, 147, 148, 149] (by decide +kernel) (by decide +kernel)
set_option maxRecDepth 20000 in
theorem gX12_lives_X12_does : GoodIn wsX12_lives (wsV RX12 497 RX12 yX12_does wsX12_does) := goodIn_app (goodIn_of _ (by decide +kernel)) ggX12_lives_X12_does
set_option maxRecDepth 20000 in
theorem ggX12_lives_X12_holds : GoodIn wsX12_lives wsX12_holds := goodIn_r _ [103, 4, 23, 24, 25, 9, 26, 27, 28, 29, 30, 31, 32, 33, 34, 35, 36, 37, 38, 39, 40, 41, 42, 43, 44, 45, 46, 47, 48, 49, 50, 51, 52, 53, 54, 55, 56, 57, 58, 59, 108, 109, 110, 111, 112, 113, 114, 115, 116, 117, 118, 119, 120, 121, 122, 123, 124, 125, 126, 127, 128, 129, 130, 131, 132, 133, 134, 135, 136, 137, 138, 139, 140, 141, 142, 143, 144, 145, 146, 147, 148, 149] (by decide +kernel) (by decide +kernel)
set_option maxRecDepth 20000 in
theorem gX12_lives_X12_holds : GoodIn wsX12_lives (wsV RX12 500 RX12 yX12_holds wsX12_holds) := goodIn_app (goodIn_of _ (by decide +kernel)) ggX12_lives_X12_holds
set_option maxRecDepth 20000 in
theorem ggX12_lives_X12_behindEnds : GoodIn wsX12_lives wsX12_behindEnds := goodIn_r _ [107, 4, 5, 108, 109, 110, 111, 112, 113, 114, 115, 116, 117, 118, 119, 120, 121, 122, 123, 124, 125, 126, 127, 128, 129, 130, 131, 132, 133, 134, 135, 136, 137, 138, 139, 140, 141, 142, 143, 144, 145, 146, 147, 148, 149] (by decide +kernel) (by decide +kernel)
set_option maxRecDepth 20000 in
theorem gX12_lives_X12_behindEnds : GoodIn wsX12_lives (wsV RX12 503 RX12 yX12_behindEnds wsX12_behindEnds) := goodIn_app (goodIn_of _ (by decide +kernel)) ggX12_lives_X12_behindEnds
theorem dX12_lives_0 : decode cX12_lives 0 = .ok (.aload_n 0, 1) := by decide +kernel
theorem dX12_lives_1 : decode cX12_lives 1 = .ok (.iload_n 1, 1) := by decide +kernel
theorem dX12_lives_2 : decode cX12_lives 2 = .ok (.putfield 478, 3) := by decide +kernel
theorem dX12_lives_5 : decode cX12_lives 5 = .ok (.aload_n 0, 1) := by decide +kernel
theorem dX12_lives_6 : decode cX12_lives 6 = .ok (.iconst 0, 1) := by decide +kernel
theorem dX12_lives_7 : decode cX12_lives 7 = .ok (.putfield 494, 3) := by decide +kernel
theorem dX12_lives_10 : decode cX12_lives 10 = .ok (.iconst 0, 1) := by decide +kernel
theorem dX12_lives_11 : decode cX12_lives 11 = .ok (.istore_n 2, 1) := by decide +kernel
theorem dX12_lives_12 : decode cX12_lives 12 = .ok (.iload_n 2, 1) := by decide +kernel
theorem dX12_lives_13 : decode cX12_lives 13 = .ok (.iconst 5, 1) := by decide +kernel
theorem dX12_lives_14 : decode cX12_lives 14 = .ok (.if_icmp .ge 16, 3) := by decide +kernel
theorem dX12_lives_17 : decode cX12_lives 17 = .ok (.aload_n 0, 1) := by decide +kernel
theorem dX12_lives_18 : decode cX12_lives 18 = .ok (.getfield 75, 3) := by decide +kernel
theorem dX12_lives_21 : decode cX12_lives 21 = .ok (.iload_n 2, 1) := by decide +kernel
theorem dX12_lives_22 : decode cX12_lives 22 = .ok (.iconst 0, 1) := by decide +kernel
theorem dX12_lives_23 : decode cX12_lives 23 = .ok (.iastore, 1) := by decide +kernel
theorem dX12_lives_24 : decode cX12_lives 24 = .ok (.iinc 2 1, 3) := by decide +kernel
theorem dX12_lives_27 : decode cX12_lives 27 = .ok (.goto (-15), 3) := by decide +kernel
theorem dX12_lives_30 : decode cX12_lives 30 = .ok (.iconst 0, 1) := by decide +kernel
theorem dX12_lives_31 : decode cX12_lives 31 = .ok (.istore_n 2, 1) := by decide +kernel
theorem dX12_lives_32 : decode cX12_lives 32 = .ok (.iload_n 2, 1) := by decide +kernel
theorem dX12_lives_33 : decode cX12_lives 33 = .ok (.aload_n 0, 1) := by decide +kernel
theorem dX12_lives_34 : decode cX12_lives 34 = .ok (.getfield 7, 3) := by decide +kernel
theorem dX12_lives_37 : decode cX12_lives 37 = .ok (.bipush 8, 2) := by decide +kernel
theorem dX12_lives_39 : decode cX12_lives 39 = .ok (.iaload, 1) := by decide +kernel
theorem dX12_lives_40 : decode cX12_lives 40 = .ok (.if_icmp .ge 145, 3) := by decide +kernel
theorem dX12_lives_43 : decode cX12_lives 43 = .ok (.aload_n 0, 1) := by decide +kernel
theorem dX12_lives_44 : decode cX12_lives 44 = .ok (.getfield 494, 3) := by decide +kernel
theorem dX12_lives_47 : decode cX12_lives 47 = .ok (.sipush 300, 3) := by decide +kernel
theorem dX12_lives_50 : decode cX12_lives 50 = .ok (.if_icmp .ne 11, 3) := by decide +kernel
theorem dX12_lives_53 : decode cX12_lives 53 = .ok (.aload_n 0, 1) := by decide +kernel
theorem dX12_lives_54 : decode cX12_lives 54 = .ok (.getfield 75, 3) := by decide +kernel
theorem dX12_lives_57 : decode cX12_lives 57 = .ok (.iconst 4, 1) := by decide +kernel
theorem dX12_lives_58 : decode cX12_lives 58 = .ok (.iconst 1, 1) := by decide +kernel
theorem dX12_lives_59 : decode cX12_lives 59 = .ok (.iastore, 1) := by decide +kernel
theorem dX12_lives_60 : decode cX12_lives 60 = .ok (.return_, 1) := by decide +kernel
theorem dX12_lives_61 : decode cX12_lives 61 = .ok (.sipush 134, 3) := by decide +kernel
theorem dX12_lives_64 : decode cX12_lives 64 = .ok (.bipush 6, 2) := by decide +kernel
theorem dX12_lives_66 : decode cX12_lives 66 = .ok (.iload_n 2, 1) := by decide +kernel
theorem dX12_lives_67 : decode cX12_lives 67 = .ok (.imul, 1) := by decide +kernel
theorem dX12_lives_68 : decode cX12_lives 68 = .ok (.iadd, 1) := by decide +kernel
theorem dX12_lives_69 : decode cX12_lives 69 = .ok (.istore_n 3, 1) := by decide +kernel
theorem dX12_lives_70 : decode cX12_lives 70 = .ok (.aload_n 0, 1) := by decide +kernel
theorem dX12_lives_71 : decode cX12_lives 71 = .ok (.dup, 1) := by decide +kernel
theorem dX12_lives_72 : decode cX12_lives 72 = .ok (.getfield 494, 3) := by decide +kernel
theorem dX12_lives_75 : decode cX12_lives 75 = .ok (.iconst 1, 1) := by decide +kernel
theorem dX12_lives_76 : decode cX12_lives 76 = .ok (.iadd, 1) := by decide +kernel
theorem dX12_lives_77 : decode cX12_lives 77 = .ok (.putfield 494, 3) := by decide +kernel
theorem dX12_lives_80 : decode cX12_lives 80 = .ok (.aload_n 0, 1) := by decide +kernel
theorem dX12_lives_81 : decode cX12_lives 81 = .ok (.getfield 7, 3) := by decide +kernel
theorem dX12_lives_84 : decode cX12_lives 84 = .ok (.iload_n 3, 1) := by decide +kernel
theorem dX12_lives_85 : decode cX12_lives 85 = .ok (.iaload, 1) := by decide +kernel
theorem dX12_lives_86 : decode cX12_lives 86 = .ok (.bipush 25, 2) := by decide +kernel
theorem dX12_lives_88 : decode cX12_lives 88 = .ok (.if_icmp .ne 4, 3) := by decide +kernel
theorem dX12_lives_91 : decode cX12_lives 91 = .ok (.return_, 1) := by decide +kernel
theorem dX12_lives_92 : decode cX12_lives 92 = .ok (.aload_n 0, 1) := by decide +kernel
theorem dX12_lives_93 : decode cX12_lives 93 = .ok (.getfield 75, 3) := by decide +kernel
theorem dX12_lives_96 : decode cX12_lives 96 = .ok (.iconst 0, 1) := by decide +kernel
theorem dX12_lives_97 : decode cX12_lives 97 = .ok (.dup2, 1) := by decide +kernel
theorem dX12_lives_98 : decode cX12_lives 98 = .ok (.iaload, 1) := by decide +kernel
theorem dX12_lives_99 : decode cX12_lives 99 = .ok (.aload_n 0, 1) := by decide +kernel
theorem dX12_lives_100 : decode cX12_lives 100 = .ok (.iload_n 3, 1) := by decide +kernel
theorem dX12_lives_101 : decode cX12_lives 101 = .ok (.invokevirtual 497, 3) := by decide +kernel
theorem dX12_lives_104 : decode cX12_lives 104 = .ok (.ifCond .eq 7, 3) := by decide +kernel
theorem dX12_lives_107 : decode cX12_lives 107 = .ok (.iconst 0, 1) := by decide +kernel
theorem dX12_lives_108 : decode cX12_lives 108 = .ok (.goto 4, 3) := by decide +kernel
theorem dX12_lives_111 : decode cX12_lives 111 = .ok (.iconst 1, 1) := by decide +kernel
theorem dX12_lives_112 : decode cX12_lives 112 = .ok (.iadd, 1) := by decide +kernel
theorem dX12_lives_113 : decode cX12_lives 113 = .ok (.iastore, 1) := by decide +kernel
theorem dX12_lives_114 : decode cX12_lives 114 = .ok (.aload_n 0, 1) := by decide +kernel
theorem dX12_lives_115 : decode cX12_lives 115 = .ok (.getfield 7, 3) := by decide +kernel
theorem dX12_lives_118 : decode cX12_lives 118 = .ok (.iload_n 3, 1) := by decide +kernel
theorem dX12_lives_119 : decode cX12_lives 119 = .ok (.iaload, 1) := by decide +kernel
theorem dX12_lives_120 : decode cX12_lives 120 = .ok (.bipush 23, 2) := by decide +kernel
theorem dX12_lives_122 : decode cX12_lives 122 = .ok (.if_icmp .ne 19, 3) := by decide +kernel
theorem dX12_lives_125 : decode cX12_lives 125 = .ok (.aload_n 0, 1) := by decide +kernel
theorem dX12_lives_126 : decode cX12_lives 126 = .ok (.getfield 72, 3) := by decide +kernel
theorem dX12_lives_129 : decode cX12_lives 129 = .ok (.iload_n 2, 1) := by decide +kernel
theorem dX12_lives_130 : decode cX12_lives 130 = .ok (.aload_n 0, 1) := by decide +kernel
theorem dX12_lives_131 : decode cX12_lives 131 = .ok (.getfield 7, 3) := by decide +kernel
theorem dX12_lives_134 : decode cX12_lives 134 = .ok (.iload_n 3, 1) := by decide +kernel
theorem dX12_lives_135 : decode cX12_lives 135 = .ok (.iconst 1, 1) := by decide +kernel
theorem dX12_lives_136 : decode cX12_lives 136 = .ok (.iadd, 1) := by decide +kernel
theorem dX12_lives_137 : decode cX12_lives 137 = .ok (.iaload, 1) := by decide +kernel
theorem dX12_lives_138 : decode cX12_lives 138 = .ok (.iconst 1, 1) := by decide +kernel
theorem dX12_lives_139 : decode cX12_lives 139 = .ok (.isub, 1) := by decide +kernel
theorem dX12_lives_140 : decode cX12_lives 140 = .ok (.iastore, 1) := by decide +kernel
theorem dX12_lives_141 : decode cX12_lives 141 = .ok (.aload_n 0, 1) := by decide +kernel
theorem dX12_lives_142 : decode cX12_lives 142 = .ok (.aload_n 0, 1) := by decide +kernel
theorem dX12_lives_143 : decode cX12_lives 143 = .ok (.getfield 7, 3) := by decide +kernel
theorem dX12_lives_146 : decode cX12_lives 146 = .ok (.iload_n 3, 1) := by decide +kernel
theorem dX12_lives_147 : decode cX12_lives 147 = .ok (.iaload, 1) := by decide +kernel
theorem dX12_lives_148 : decode cX12_lives 148 = .ok (.sipush 2200, 3) := by decide +kernel
theorem dX12_lives_151 : decode cX12_lives 151 = .ok (.if_icmp .lt 24, 3) := by decide +kernel
theorem dX12_lives_154 : decode cX12_lives 154 = .ok (.aload_n 0, 1) := by decide +kernel
theorem dX12_lives_155 : decode cX12_lives 155 = .ok (.iload_n 3, 1) := by decide +kernel
theorem dX12_lives_156 : decode cX12_lives 156 = .ok (.invokevirtual 500, 3) := by decide +kernel
theorem dX12_lives_159 : decode cX12_lives 159 = .ok (.ifCond .ne 16, 3) := by decide +kernel
theorem dX12_lives_162 : decode cX12_lives 162 = .ok (.aload_n 0, 1) := by decide +kernel
theorem dX12_lives_163 : decode cX12_lives 163 = .ok (.getfield 7, 3) := by decide +kernel
theorem dX12_lives_166 : decode cX12_lives 166 = .ok (.iload_n 3, 1) := by decide +kernel
theorem dX12_lives_167 : decode cX12_lives 167 = .ok (.iconst 4, 1) := by decide +kernel
theorem dX12_lives_168 : decode cX12_lives 168 = .ok (.iadd, 1) := by decide +kernel
theorem dX12_lives_169 : decode cX12_lives 169 = .ok (.iaload, 1) := by decide +kernel
theorem dX12_lives_170 : decode cX12_lives 170 = .ok (.iconst 1, 1) := by decide +kernel
theorem dX12_lives_171 : decode cX12_lives 171 = .ok (.iadd, 1) := by decide +kernel
theorem dX12_lives_172 : decode cX12_lives 172 = .ok (.goto 6, 3) := by decide +kernel
theorem dX12_lives_175 : decode cX12_lives 175 = .ok (.iload_n 2, 1) := by decide +kernel
theorem dX12_lives_176 : decode cX12_lives 176 = .ok (.iconst 1, 1) := by decide +kernel
theorem dX12_lives_177 : decode cX12_lives 177 = .ok (.iadd, 1) := by decide +kernel
theorem dX12_lives_178 : decode cX12_lives 178 = .ok (.invokevirtual 503, 3) := by decide +kernel
theorem dX12_lives_181 : decode cX12_lives 181 = .ok (.istore_n 2, 1) := by decide +kernel
theorem dX12_lives_182 : decode cX12_lives 182 = .ok (.goto (-150), 3) := by decide +kernel
theorem dX12_lives_185 : decode cX12_lives 185 = .ok (.return_, 1) := by decide +kernel
set_option maxRecDepth 20000 in
theorem ggX12_live_X12_isFrom : GoodIn wsX12_live wsX12_isFrom := goodIn_r _ [10] (by decide +kernel) (by decide +kernel)
set_option maxRecDepth 20000 in
theorem gX12_live_X12_isFrom : GoodIn wsX12_live (va_wsS RX12 337 yX12_isFrom wsX12_isFrom) := goodIn_app (goodIn_of _ (by decide +kernel)) ggX12_live_X12_isFrom
set_option maxRecDepth 20000 in
theorem ggX12_live_X12_refuse : GoodIn wsX12_live wsX12_refuse := goodIn_r _ [14, 15, 127, 128, 129, 130, 131, 132, 133, 134, 135, 136, 137, 138, 139, 140, 141, 142, 143, 144, 145, 146, 147, 148, 149, 150, 151, 152, 153, 154, 155, 156, 157, 158, 159, 160, 161, 162, 163, 164, 165, 166, 167, 168] (by decide +kernel) (by decide +kernel)
set_option maxRecDepth 20000 in
theorem gX12_live_X12_refuse : GoodIn wsX12_live (wsV RX12 91 RX12 yX12_refuse wsX12_refuse) := goodIn_app (goodIn_of _ (by decide +kernel)) ggX12_live_X12_refuse
set_option maxRecDepth 20000 in
theorem ggX12_live_X12_lives : GoodIn wsX12_live wsX12_lives := goodIn_r _ [19, 20, 6, 4, 2, 21, 22, 23, 24, 9, 25, 26, 27, 28, 29, 30, 31, 32, 33, 34, 35, 36, 37, 38, 39, 40, 41, 42, 43, 44, 45, 46, 47, 48, 49, 50, 51, 52, 53, 54, 55, 56, 57, 58, 59, 60, 61, 62, 63, 64, 65, 66, 67, 68, 69, 70, 71, 72, 73, 74, 75, 76, 77, 78, 79, 80, 81, 82, 83, 84, 85, 86, 87, 88, 89, 90, 91, 92, 93, 94, 95, 96, 97, 98, 99, 100, 101, 102, 103, 104, 105, 106, 107, 108, 109, 110, 111, 112, 113, 114, 115, 116, 117, 118, 119, 120, 121, 122, 127, 128, 129, 130, 131, 132, 133, 134, 135, 136, 137, 138, 139, 140, 141, 142, 143, 144, 145, 146, 147, 148, 149, 150, 151, 152, 153, 154, 155, 156, 157, 158, 159, 160, 161, 162, 163, 164, 165, 166, 167, 168] (by decide +kernel) (by decide +kernel)
set_option maxRecDepth 20000 in
theorem gX12_live_X12_lives : GoodIn wsX12_live (wsV RX12 508 RX12 yX12_lives wsX12_lives) := goodIn_app (goodIn_of _ (by decide +kernel)) ggX12_live_X12_lives
set_option maxRecDepth 20000 in
theorem ggX12_live_X12_gives : GoodIn wsX12_live wsX12_gives := goodIn_r _ [126, 15, 127, 128, 129, 130, 131, 132, 133, 134, 135, 136, 137, 138, 139, 140, 141, 142, 143, 144, 145, 146, 147, 148, 149, 150, 151, 152, 153, 154, 155, 156, 157, 158, 159, 160, 161, 162, 163, 164, 165, 166, 167, 168] (by decide +kernel) (by decide +kernel)
set_option maxRecDepth 20000 in
theorem gX12_live_X12_gives : GoodIn wsX12_live (wsV RX12 95 RX12 yX12_gives wsX12_gives) := goodIn_app (goodIn_of _ (by decide +kernel)) ggX12_live_X12_gives
theorem dX12_live_0 : decode cX12_live 0 = .ok (.iload_n 1, 1) := by decide +kernel
theorem dX12_live_1 : decode cX12_live 1 = .ok (.i2l, 1) := by decide +kernel
theorem dX12_live_2 : decode cX12_live 2 = .ok (.lconst 0, 1) := by decide +kernel
theorem dX12_live_3 : decode cX12_live 3 = .ok (.ldc2_w 506, 3) := by decide +kernel
theorem dX12_live_6 : decode cX12_live 6 = .ok (.invokestatic 337, 3) := by decide +kernel
theorem dX12_live_9 : decode cX12_live 9 = .ok (.ifCond .ne 9, 3) := by decide +kernel
theorem dX12_live_12 : decode cX12_live 12 = .ok (.aload_n 0, 1) := by decide +kernel
theorem dX12_live_13 : decode cX12_live 13 = .ok (.iconst 1, 1) := by decide +kernel
theorem dX12_live_14 : decode cX12_live 14 = .ok (.invokevirtual 91, 3) := by decide +kernel
theorem dX12_live_17 : decode cX12_live 17 = .ok (.ireturn, 1) := by decide +kernel
theorem dX12_live_18 : decode cX12_live 18 = .ok (.aload_n 0, 1) := by decide +kernel
theorem dX12_live_19 : decode cX12_live 19 = .ok (.getfield 7, 3) := by decide +kernel
theorem dX12_live_22 : decode cX12_live 22 = .ok (.bipush 8, 2) := by decide +kernel
theorem dX12_live_24 : decode cX12_live 24 = .ok (.iaload, 1) := by decide +kernel
theorem dX12_live_25 : decode cX12_live 25 = .ok (.iconst (-1), 1) := by decide +kernel
theorem dX12_live_26 : decode cX12_live 26 = .ok (.if_icmp .ne 10, 3) := by decide +kernel
theorem dX12_live_29 : decode cX12_live 29 = .ok (.aload_n 0, 1) := by decide +kernel
theorem dX12_live_30 : decode cX12_live 30 = .ok (.bipush 6, 2) := by decide +kernel
theorem dX12_live_32 : decode cX12_live 32 = .ok (.invokevirtual 91, 3) := by decide +kernel
theorem dX12_live_35 : decode cX12_live 35 = .ok (.ireturn, 1) := by decide +kernel
theorem dX12_live_36 : decode cX12_live 36 = .ok (.aload_n 0, 1) := by decide +kernel
theorem dX12_live_37 : decode cX12_live 37 = .ok (.iload_n 1, 1) := by decide +kernel
theorem dX12_live_38 : decode cX12_live 38 = .ok (.invokevirtual 508, 3) := by decide +kernel
theorem dX12_live_41 : decode cX12_live 41 = .ok (.iconst 0, 1) := by decide +kernel
theorem dX12_live_42 : decode cX12_live 42 = .ok (.istore_n 2, 1) := by decide +kernel
theorem dX12_live_43 : decode cX12_live 43 = .ok (.iload_n 2, 1) := by decide +kernel
theorem dX12_live_44 : decode cX12_live 44 = .ok (.iconst 5, 1) := by decide +kernel
theorem dX12_live_45 : decode cX12_live 45 = .ok (.if_icmp .ge 21, 3) := by decide +kernel
theorem dX12_live_48 : decode cX12_live 48 = .ok (.aload_n 0, 1) := by decide +kernel
theorem dX12_live_49 : decode cX12_live 49 = .ok (.getfield 78, 3) := by decide +kernel
theorem dX12_live_52 : decode cX12_live 52 = .ok (.iload_n 2, 1) := by decide +kernel
theorem dX12_live_53 : decode cX12_live 53 = .ok (.aload_n 0, 1) := by decide +kernel
theorem dX12_live_54 : decode cX12_live 54 = .ok (.getfield 75, 3) := by decide +kernel
theorem dX12_live_57 : decode cX12_live 57 = .ok (.iload_n 2, 1) := by decide +kernel
theorem dX12_live_58 : decode cX12_live 58 = .ok (.iaload, 1) := by decide +kernel
theorem dX12_live_59 : decode cX12_live 59 = .ok (.iastore, 1) := by decide +kernel
theorem dX12_live_60 : decode cX12_live 60 = .ok (.iinc 2 1, 3) := by decide +kernel
theorem dX12_live_63 : decode cX12_live 63 = .ok (.goto (-20), 3) := by decide +kernel
theorem dX12_live_66 : decode cX12_live 66 = .ok (.aload_n 0, 1) := by decide +kernel
theorem dX12_live_67 : decode cX12_live 67 = .ok (.iconst 1, 1) := by decide +kernel
theorem dX12_live_68 : decode cX12_live 68 = .ok (.putfield 511, 3) := by decide +kernel
theorem dX12_live_71 : decode cX12_live 71 = .ok (.aload_n 0, 1) := by decide +kernel
theorem dX12_live_72 : decode cX12_live 72 = .ok (.aload_n 0, 1) := by decide +kernel
theorem dX12_live_73 : decode cX12_live 73 = .ok (.getfield 494, 3) := by decide +kernel
theorem dX12_live_76 : decode cX12_live 76 = .ok (.invokevirtual 95, 3) := by decide +kernel
theorem dX12_live_79 : decode cX12_live 79 = .ok (.ireturn, 1) := by decide +kernel
set_option maxRecDepth 20000 in
theorem ggX12_lived_X12_refuse : GoodIn wsX12_lived wsX12_refuse := goodIn_r _ [7, 8, 13, 14, 15, 16, 17, 18, 19, 20, 21, 22, 23, 24, 25, 26, 27, 28, 29, 30, 31, 32, 33, 34, 35, 36, 37, 38, 39, 40, 41, 42, 43, 44, 45, 46, 47, 48, 49, 50, 51, 52, 53, 54] (by decide +kernel) (by decide +kernel)
set_option maxRecDepth 20000 in
theorem gX12_lived_X12_refuse : GoodIn wsX12_lived (wsV RX12 91 RX12 yX12_refuse wsX12_refuse) := goodIn_app (goodIn_of _ (by decide +kernel)) ggX12_lived_X12_refuse
set_option maxRecDepth 20000 in
theorem ggX12_lived_X12_gives : GoodIn wsX12_lived wsX12_gives := goodIn_r _ [12, 8, 13, 14, 15, 16, 17, 18, 19, 20, 21, 22, 23, 24, 25, 26, 27, 28, 29, 30, 31, 32, 33, 34, 35, 36, 37, 38, 39, 40, 41, 42, 43, 44, 45, 46, 47, 48, 49, 50, 51, 52, 53, 54] (by decide +kernel) (by decide +kernel)
set_option maxRecDepth 20000 in
theorem gX12_lived_X12_gives : GoodIn wsX12_lived (wsV RX12 95 RX12 yX12_gives wsX12_gives) := goodIn_app (goodIn_of _ (by decide +kernel)) ggX12_lived_X12_gives
theorem dX12_lived_0 : decode cX12_lived 0 = .ok (.iload_n 1, 1) := by decide +kernel
theorem dX12_lived_1 : decode cX12_lived 1 = .ok (.ifCond .lt 8, 3) := by decide +kernel
theorem dX12_lived_4 : decode cX12_lived 4 = .ok (.iload_n 1, 1) := by decide +kernel
theorem dX12_lived_5 : decode cX12_lived 5 = .ok (.iconst 4, 1) := by decide +kernel
theorem dX12_lived_6 : decode cX12_lived 6 = .ok (.if_icmp .le 11, 3) := by decide +kernel
theorem dX12_lived_9 : decode cX12_lived 9 = .ok (.aload_n 0, 1) := by decide +kernel
theorem dX12_lived_10 : decode cX12_lived 10 = .ok (.iconst 1, 1) := by decide +kernel
theorem dX12_lived_11 : decode cX12_lived 11 = .ok (.invokevirtual 91, 3) := by decide +kernel
theorem dX12_lived_14 : decode cX12_lived 14 = .ok (.goto 29, 3) := by decide +kernel
theorem dX12_lived_17 : decode cX12_lived 17 = .ok (.aload_n 0, 1) := by decide +kernel
theorem dX12_lived_18 : decode cX12_lived 18 = .ok (.getfield 511, 3) := by decide +kernel
theorem dX12_lived_21 : decode cX12_lived 21 = .ok (.ifCond .eq 16, 3) := by decide +kernel
theorem dX12_lived_24 : decode cX12_lived 24 = .ok (.aload_n 0, 1) := by decide +kernel
theorem dX12_lived_25 : decode cX12_lived 25 = .ok (.aload_n 0, 1) := by decide +kernel
theorem dX12_lived_26 : decode cX12_lived 26 = .ok (.getfield 78, 3) := by decide +kernel
theorem dX12_lived_29 : decode cX12_lived 29 = .ok (.iload_n 1, 1) := by decide +kernel
theorem dX12_lived_30 : decode cX12_lived 30 = .ok (.iaload, 1) := by decide +kernel
theorem dX12_lived_31 : decode cX12_lived 31 = .ok (.invokevirtual 95, 3) := by decide +kernel
theorem dX12_lived_34 : decode cX12_lived 34 = .ok (.goto 9, 3) := by decide +kernel
theorem dX12_lived_37 : decode cX12_lived 37 = .ok (.aload_n 0, 1) := by decide +kernel
theorem dX12_lived_38 : decode cX12_lived 38 = .ok (.bipush 6, 2) := by decide +kernel
theorem dX12_lived_40 : decode cX12_lived 40 = .ok (.invokevirtual 91, 3) := by decide +kernel
theorem dX12_lived_43 : decode cX12_lived 43 = .ok (.ireturn, 1) := by decide +kernel
set_option maxRecDepth 20000 in
theorem ggX12_mean_X12_isFrom : GoodIn wsX12_mean wsX12_isFrom := goodIn_r _ [7] (by decide +kernel) (by decide +kernel)
set_option maxRecDepth 20000 in
theorem gX12_mean_X12_isFrom : GoodIn wsX12_mean (va_wsS RX12 337 yX12_isFrom wsX12_isFrom) := goodIn_app (goodIn_of _ (by decide +kernel)) ggX12_mean_X12_isFrom
set_option maxRecDepth 20000 in
theorem ggX12_mean_X12_is : GoodIn wsX12_mean wsX12_is := goodIn_r _ [11, 12, 136, 137, 138, 139, 140, 141, 142, 143, 144, 145, 146, 147, 148, 149, 150, 151, 152, 153, 154, 155, 156, 157, 158, 159, 160, 161, 162, 163, 164, 165, 166, 167, 168, 169, 170, 171, 172, 173, 174, 175, 176, 177] (by decide +kernel) (by decide +kernel)
set_option maxRecDepth 20000 in
theorem gX12_mean_X12_is : GoodIn wsX12_mean (wsV RX12 98 RX12 yX12_is wsX12_is) := goodIn_app (goodIn_of _ (by decide +kernel)) ggX12_mean_X12_is
set_option maxRecDepth 20000 in
theorem ggX12_mean_X12_keeps : GoodIn wsX12_mean wsX12_keeps := goodIn_r _ [16, 3, 136, 137, 138, 139, 140, 141, 142, 143, 144, 145, 146, 147, 148, 149, 150, 151, 152, 153, 154, 155, 156, 157, 158, 159, 160, 161, 162, 163, 164, 165, 166, 167, 168, 169, 170, 171, 172, 173, 174, 175, 176, 177] (by decide +kernel) (by decide +kernel)
set_option maxRecDepth 20000 in
theorem gX12_mean_X12_keeps : GoodIn wsX12_mean (wsV RX12 374 RX12 yX12_keeps wsX12_keeps) := goodIn_app (goodIn_of _ (by decide +kernel)) ggX12_mean_X12_keeps
set_option maxRecDepth 20000 in
theorem ggX12_mean_X12_lives : GoodIn wsX12_mean wsX12_lives := goodIn_r _ [20, 21, 22, 23, 3, 24, 25, 26, 27, 6, 28, 29, 30, 31, 32, 33, 34, 35, 36, 37, 38, 39, 40, 41, 42, 43, 44, 45, 46, 47, 48, 49, 50, 51, 52, 53, 54, 55, 56, 57, 58, 59, 60, 61, 62, 63, 64, 65, 66, 67, 68, 69, 70, 71, 72, 73, 74, 75, 76, 77, 78, 79, 80, 81, 82, 83, 84, 85, 86, 87, 88, 89, 90, 91, 92, 93, 94, 95, 96, 97, 98, 99, 100, 101, 102, 103, 104, 105, 106, 107, 108, 109, 110, 111, 112, 113, 114, 115, 116, 117, 118, 119, 120, 121, 122, 123, 124, 125, 136, 137, 138, 139, 140, 141, 142, 143, 144, 145, 146, 147, 148, 149, 150, 151, 152, 153, 154, 155, 156, 157, 158, 159, 160, 161, 162, 163, 164, 165, 166, 167, 168, 169, 170, 171, 172, 173, 174, 175, 176, 177] (by decide +kernel) (by decide +kernel)
set_option maxRecDepth 20000 in
theorem gX12_mean_X12_lives : GoodIn wsX12_mean (wsV RX12 508 RX12 yX12_lives wsX12_lives) := goodIn_app (goodIn_of _ (by decide +kernel)) ggX12_mean_X12_lives
set_option maxRecDepth 20000 in
theorem ggX12_mean_X12_personOf : GoodIn wsX12_mean wsX12_personOf := goodIn_r _ [52, 3, 53, 54, 6, 55, 136, 137, 138, 139, 140, 141, 142, 143, 144, 145, 146, 147, 148, 149, 150, 151, 152, 153, 154, 155, 156, 157, 158, 159, 160, 161, 162, 163, 164, 165, 166, 167, 168, 169, 170, 171, 172, 173, 174, 175, 176, 177] (by decide +kernel) (by decide +kernel)
set_option maxRecDepth 20000 in
theorem gX12_mean_X12_personOf : GoodIn wsX12_mean (wsV RX12 281 RX12 yX12_personOf wsX12_personOf) := goodIn_app (goodIn_of _ (by decide +kernel)) ggX12_mean_X12_personOf
set_option maxRecDepth 20000 in
theorem ggX12_mean_X12_restores : GoodIn wsX12_mean wsX12_restores := goodIn_r _ [129, 3, 136, 137, 138, 139, 140, 141, 142, 143, 144, 145, 146, 147, 148, 149, 150, 151, 152, 153, 154, 155, 156, 157, 158, 159, 160, 161, 162, 163, 164, 165, 166, 167, 168, 169, 170, 171, 172, 173, 174, 175, 176, 177] (by decide +kernel) (by decide +kernel)
set_option maxRecDepth 20000 in
theorem gX12_mean_X12_restores : GoodIn wsX12_mean (wsV RX12 377 RX12 yX12_restores wsX12_restores) := goodIn_app (goodIn_of _ (by decide +kernel)) ggX12_mean_X12_restores
set_option maxRecDepth 20000 in
theorem ggX12_mean_X12_tellsBy : GoodIn wsX12_mean wsX12_tellsBy := goodIn_r _ [133, 134, 135, 8, 9, 10, 6, 11, 12, 136, 137, 138, 139, 140, 141, 142, 143, 144, 145, 146, 147, 148, 149, 150, 151, 152, 153, 154, 155, 156, 157, 158, 159, 160, 161, 162, 163, 164, 165, 166, 167, 168, 169, 170, 171, 172, 173, 174, 175, 176, 177] (by decide +kernel) (by decide +kernel)
set_option maxRecDepth 20000 in
theorem gX12_mean_X12_tellsBy : GoodIn wsX12_mean (wsV RX12 405 RX12 yX12_tellsBy wsX12_tellsBy) := goodIn_app (goodIn_of _ (by decide +kernel)) ggX12_mean_X12_tellsBy
theorem dX12_mean_0 : decode cX12_mean 0 = .ok (.iload_n 1, 1) := by decide +kernel
theorem dX12_mean_1 : decode cX12_mean 1 = .ok (.i2l, 1) := by decide +kernel
theorem dX12_mean_2 : decode cX12_mean 2 = .ok (.lconst 0, 1) := by decide +kernel
theorem dX12_mean_3 : decode cX12_mean 3 = .ok (.ldc2_w 506, 3) := by decide +kernel
theorem dX12_mean_6 : decode cX12_mean 6 = .ok (.invokestatic 337, 3) := by decide +kernel
theorem dX12_mean_9 : decode cX12_mean 9 = .ok (.ifCond .eq 26, 3) := by decide +kernel
theorem dX12_mean_12 : decode cX12_mean 12 = .ok (.iload_n 2, 1) := by decide +kernel
theorem dX12_mean_13 : decode cX12_mean 13 = .ok (.i2l, 1) := by decide +kernel
theorem dX12_mean_14 : decode cX12_mean 14 = .ok (.lconst 1, 1) := by decide +kernel
theorem dX12_mean_15 : decode cX12_mean 15 = .ok (.ldc2_w 380, 3) := by decide +kernel
theorem dX12_mean_18 : decode cX12_mean 18 = .ok (.invokestatic 337, 3) := by decide +kernel
theorem dX12_mean_21 : decode cX12_mean 21 = .ok (.ifCond .eq 14, 3) := by decide +kernel
theorem dX12_mean_24 : decode cX12_mean 24 = .ok (.iload_n 1, 1) := by decide +kernel
theorem dX12_mean_25 : decode cX12_mean 25 = .ok (.iload_n 2, 1) := by decide +kernel
theorem dX12_mean_26 : decode cX12_mean 26 = .ok (.iadd, 1) := by decide +kernel
theorem dX12_mean_27 : decode cX12_mean 27 = .ok (.iconst 1, 1) := by decide +kernel
theorem dX12_mean_28 : decode cX12_mean 28 = .ok (.isub, 1) := by decide +kernel
theorem dX12_mean_29 : decode cX12_mean 29 = .ok (.sipush 9999, 3) := by decide +kernel
theorem dX12_mean_32 : decode cX12_mean 32 = .ok (.if_icmp .le 9, 3) := by decide +kernel
theorem dX12_mean_35 : decode cX12_mean 35 = .ok (.aload_n 0, 1) := by decide +kernel
theorem dX12_mean_36 : decode cX12_mean 36 = .ok (.iconst 1, 1) := by decide +kernel
theorem dX12_mean_37 : decode cX12_mean 37 = .ok (.invokevirtual 98, 3) := by decide +kernel
theorem dX12_mean_40 : decode cX12_mean 40 = .ok (.ireturn, 1) := by decide +kernel
theorem dX12_mean_41 : decode cX12_mean 41 = .ok (.aload_n 0, 1) := by decide +kernel
theorem dX12_mean_42 : decode cX12_mean 42 = .ok (.getfield 7, 3) := by decide +kernel
theorem dX12_mean_45 : decode cX12_mean 45 = .ok (.bipush 8, 2) := by decide +kernel
theorem dX12_mean_47 : decode cX12_mean 47 = .ok (.iaload, 1) := by decide +kernel
theorem dX12_mean_48 : decode cX12_mean 48 = .ok (.iconst (-1), 1) := by decide +kernel
theorem dX12_mean_49 : decode cX12_mean 49 = .ok (.if_icmp .ne 10, 3) := by decide +kernel
theorem dX12_mean_52 : decode cX12_mean 52 = .ok (.aload_n 0, 1) := by decide +kernel
theorem dX12_mean_53 : decode cX12_mean 53 = .ok (.bipush 6, 2) := by decide +kernel
theorem dX12_mean_55 : decode cX12_mean 55 = .ok (.invokevirtual 98, 3) := by decide +kernel
theorem dX12_mean_58 : decode cX12_mean 58 = .ok (.ireturn, 1) := by decide +kernel
theorem dX12_mean_59 : decode cX12_mean 59 = .ok (.aload_n 0, 1) := by decide +kernel
theorem dX12_mean_60 : decode cX12_mean 60 = .ok (.sipush 2510, 3) := by decide +kernel
theorem dX12_mean_63 : decode cX12_mean 63 = .ok (.invokevirtual 374, 3) := by decide +kernel
theorem dX12_mean_66 : decode cX12_mean 66 = .ok (.lconst 0, 1) := by decide +kernel
theorem dX12_mean_67 : decode cX12_mean 67 = .ok (.lstore_n 3, 1) := by decide +kernel
theorem dX12_mean_68 : decode cX12_mean 68 = .ok (.iconst 0, 1) := by decide +kernel
theorem dX12_mean_69 : decode cX12_mean 69 = .ok (.istore 5, 2) := by decide +kernel
theorem dX12_mean_71 : decode cX12_mean 71 = .ok (.iload 5, 2) := by decide +kernel
theorem dX12_mean_73 : decode cX12_mean 73 = .ok (.iload_n 2, 1) := by decide +kernel
theorem dX12_mean_74 : decode cX12_mean 74 = .ok (.if_icmp .ge 55, 3) := by decide +kernel
theorem dX12_mean_77 : decode cX12_mean 77 = .ok (.aload_n 0, 1) := by decide +kernel
theorem dX12_mean_78 : decode cX12_mean 78 = .ok (.iload_n 1, 1) := by decide +kernel
theorem dX12_mean_79 : decode cX12_mean 79 = .ok (.iload 5, 2) := by decide +kernel
theorem dX12_mean_81 : decode cX12_mean 81 = .ok (.iadd, 1) := by decide +kernel
theorem dX12_mean_82 : decode cX12_mean 82 = .ok (.invokevirtual 508, 3) := by decide +kernel
theorem dX12_mean_85 : decode cX12_mean 85 = .ok (.iconst 0, 1) := by decide +kernel
theorem dX12_mean_86 : decode cX12_mean 86 = .ok (.istore 6, 2) := by decide +kernel
theorem dX12_mean_88 : decode cX12_mean 88 = .ok (.iload 6, 2) := by decide +kernel
theorem dX12_mean_90 : decode cX12_mean 90 = .ok (.aload_n 0, 1) := by decide +kernel
theorem dX12_mean_91 : decode cX12_mean 91 = .ok (.getfield 7, 3) := by decide +kernel
theorem dX12_mean_94 : decode cX12_mean 94 = .ok (.iconst 3, 1) := by decide +kernel
theorem dX12_mean_95 : decode cX12_mean 95 = .ok (.iaload, 1) := by decide +kernel
theorem dX12_mean_96 : decode cX12_mean 96 = .ok (.if_icmp .ge 20, 3) := by decide +kernel
theorem dX12_mean_99 : decode cX12_mean 99 = .ok (.lload_n 3, 1) := by decide +kernel
theorem dX12_mean_100 : decode cX12_mean 100 = .ok (.aload_n 0, 1) := by decide +kernel
theorem dX12_mean_101 : decode cX12_mean 101 = .ok (.iload 6, 2) := by decide +kernel
theorem dX12_mean_103 : decode cX12_mean 103 = .ok (.iconst 0, 1) := by decide +kernel
theorem dX12_mean_104 : decode cX12_mean 104 = .ok (.invokevirtual 281, 3) := by decide +kernel
theorem dX12_mean_107 : decode cX12_mean 107 = .ok (.i2l, 1) := by decide +kernel
theorem dX12_mean_108 : decode cX12_mean 108 = .ok (.ladd, 1) := by decide +kernel
theorem dX12_mean_109 : decode cX12_mean 109 = .ok (.lstore_n 3, 1) := by decide +kernel
theorem dX12_mean_110 : decode cX12_mean 110 = .ok (.iinc 6 1, 3) := by decide +kernel
theorem dX12_mean_113 : decode cX12_mean 113 = .ok (.goto (-25), 3) := by decide +kernel
theorem dX12_mean_116 : decode cX12_mean 116 = .ok (.aload_n 0, 1) := by decide +kernel
theorem dX12_mean_117 : decode cX12_mean 117 = .ok (.sipush 2510, 3) := by decide +kernel
theorem dX12_mean_120 : decode cX12_mean 120 = .ok (.invokevirtual 377, 3) := by decide +kernel
theorem dX12_mean_123 : decode cX12_mean 123 = .ok (.iinc 5 1, 3) := by decide +kernel
theorem dX12_mean_126 : decode cX12_mean 126 = .ok (.goto (-55), 3) := by decide +kernel
theorem dX12_mean_129 : decode cX12_mean 129 = .ok (.aload_n 0, 1) := by decide +kernel
theorem dX12_mean_130 : decode cX12_mean 130 = .ok (.lload_n 3, 1) := by decide +kernel
theorem dX12_mean_131 : decode cX12_mean 131 = .ok (.iload_n 2, 1) := by decide +kernel
theorem dX12_mean_132 : decode cX12_mean 132 = .ok (.i2l, 1) := by decide +kernel
theorem dX12_mean_133 : decode cX12_mean 133 = .ok (.invokevirtual 405, 3) := by decide +kernel
theorem dX12_mean_136 : decode cX12_mean 136 = .ok (.ireturn, 1) := by decide +kernel
theorem dX12_copies_0 : decode cX12_copies 0 = .ok (.iconst 0, 1) := by decide +kernel
theorem dX12_copies_1 : decode cX12_copies 1 = .ok (.istore_n 3, 1) := by decide +kernel
theorem dX12_copies_2 : decode cX12_copies 2 = .ok (.iload_n 3, 1) := by decide +kernel
theorem dX12_copies_3 : decode cX12_copies 3 = .ok (.sipush 502, 3) := by decide +kernel
theorem dX12_copies_6 : decode cX12_copies 6 = .ok (.if_icmp .ge 33, 3) := by decide +kernel
theorem dX12_copies_9 : decode cX12_copies 9 = .ok (.aload_n 0, 1) := by decide +kernel
theorem dX12_copies_10 : decode cX12_copies 10 = .ok (.getfield 7, 3) := by decide +kernel
theorem dX12_copies_13 : decode cX12_copies 13 = .ok (.sipush 502, 3) := by decide +kernel
theorem dX12_copies_16 : decode cX12_copies 16 = .ok (.iload_n 2, 1) := by decide +kernel
theorem dX12_copies_17 : decode cX12_copies 17 = .ok (.imul, 1) := by decide +kernel
theorem dX12_copies_18 : decode cX12_copies 18 = .ok (.iload_n 3, 1) := by decide +kernel
theorem dX12_copies_19 : decode cX12_copies 19 = .ok (.iadd, 1) := by decide +kernel
theorem dX12_copies_20 : decode cX12_copies 20 = .ok (.aload_n 0, 1) := by decide +kernel
theorem dX12_copies_21 : decode cX12_copies 21 = .ok (.getfield 7, 3) := by decide +kernel
theorem dX12_copies_24 : decode cX12_copies 24 = .ok (.sipush 502, 3) := by decide +kernel
theorem dX12_copies_27 : decode cX12_copies 27 = .ok (.iload_n 1, 1) := by decide +kernel
theorem dX12_copies_28 : decode cX12_copies 28 = .ok (.imul, 1) := by decide +kernel
theorem dX12_copies_29 : decode cX12_copies 29 = .ok (.iload_n 3, 1) := by decide +kernel
theorem dX12_copies_30 : decode cX12_copies 30 = .ok (.iadd, 1) := by decide +kernel
theorem dX12_copies_31 : decode cX12_copies 31 = .ok (.iaload, 1) := by decide +kernel
theorem dX12_copies_32 : decode cX12_copies 32 = .ok (.iastore, 1) := by decide +kernel
theorem dX12_copies_33 : decode cX12_copies 33 = .ok (.iinc 3 1, 3) := by decide +kernel
theorem dX12_copies_36 : decode cX12_copies 36 = .ok (.goto (-34), 3) := by decide +kernel
theorem dX12_copies_39 : decode cX12_copies 39 = .ok (.iconst 0, 1) := by decide +kernel
theorem dX12_copies_40 : decode cX12_copies 40 = .ok (.istore_n 3, 1) := by decide +kernel
theorem dX12_copies_41 : decode cX12_copies 41 = .ok (.iload_n 3, 1) := by decide +kernel
theorem dX12_copies_42 : decode cX12_copies 42 = .ok (.bipush 23, 2) := by decide +kernel
theorem dX12_copies_44 : decode cX12_copies 44 = .ok (.if_icmp .ge 31, 3) := by decide +kernel
theorem dX12_copies_47 : decode cX12_copies 47 = .ok (.aload_n 0, 1) := by decide +kernel
theorem dX12_copies_48 : decode cX12_copies 48 = .ok (.getfield 13, 3) := by decide +kernel
theorem dX12_copies_51 : decode cX12_copies 51 = .ok (.bipush 23, 2) := by decide +kernel
theorem dX12_copies_53 : decode cX12_copies 53 = .ok (.iload_n 2, 1) := by decide +kernel
theorem dX12_copies_54 : decode cX12_copies 54 = .ok (.imul, 1) := by decide +kernel
theorem dX12_copies_55 : decode cX12_copies 55 = .ok (.iload_n 3, 1) := by decide +kernel
theorem dX12_copies_56 : decode cX12_copies 56 = .ok (.iadd, 1) := by decide +kernel
theorem dX12_copies_57 : decode cX12_copies 57 = .ok (.aload_n 0, 1) := by decide +kernel
theorem dX12_copies_58 : decode cX12_copies 58 = .ok (.getfield 13, 3) := by decide +kernel
theorem dX12_copies_61 : decode cX12_copies 61 = .ok (.bipush 23, 2) := by decide +kernel
theorem dX12_copies_63 : decode cX12_copies 63 = .ok (.iload_n 1, 1) := by decide +kernel
theorem dX12_copies_64 : decode cX12_copies 64 = .ok (.imul, 1) := by decide +kernel
theorem dX12_copies_65 : decode cX12_copies 65 = .ok (.iload_n 3, 1) := by decide +kernel
theorem dX12_copies_66 : decode cX12_copies 66 = .ok (.iadd, 1) := by decide +kernel
theorem dX12_copies_67 : decode cX12_copies 67 = .ok (.laload, 1) := by decide +kernel
theorem dX12_copies_68 : decode cX12_copies 68 = .ok (.lastore, 1) := by decide +kernel
theorem dX12_copies_69 : decode cX12_copies 69 = .ok (.iinc 3 1, 3) := by decide +kernel
theorem dX12_copies_72 : decode cX12_copies 72 = .ok (.goto (-31), 3) := by decide +kernel
theorem dX12_copies_75 : decode cX12_copies 75 = .ok (.return_, 1) := by decide +kernel
set_option maxRecDepth 20000 in
theorem ggX12_mark_X12_refuse : GoodIn wsX12_mark wsX12_refuse := goodIn_r _ [6, 7, 18, 19, 20, 21, 22, 23, 24, 25, 26, 27, 28, 29, 30, 31, 32, 33, 34, 35, 36, 37, 38, 39, 40, 41, 42, 43, 44, 45, 46, 47, 48, 49, 50, 51, 52, 53, 54, 55, 56, 57, 58, 59] (by decide +kernel) (by decide +kernel)
set_option maxRecDepth 20000 in
theorem gX12_mark_X12_refuse : GoodIn wsX12_mark (wsV RX12 91 RX12 yX12_refuse wsX12_refuse) := goodIn_app (goodIn_of _ (by decide +kernel)) ggX12_mark_X12_refuse
set_option maxRecDepth 20000 in
theorem ggX12_mark_X12_copies : GoodIn wsX12_mark wsX12_copies := goodIn_r _ [11, 12, 13, 18, 19, 20, 21, 22, 23, 24, 25, 26, 27, 28, 29, 30, 31, 32, 33, 34, 35, 36, 37, 38, 39, 40, 41, 42, 43, 44, 45, 46, 47, 48, 49, 50, 51, 52, 53, 54, 55, 56, 57, 58, 59] (by decide +kernel) (by decide +kernel)
set_option maxRecDepth 20000 in
theorem gX12_mark_X12_copies : GoodIn wsX12_mark (wsV RX12 518 RX12 yX12_copies wsX12_copies) := goodIn_app (goodIn_of _ (by decide +kernel)) ggX12_mark_X12_copies
set_option maxRecDepth 20000 in
theorem ggX12_mark_X12_gives : GoodIn wsX12_mark wsX12_gives := goodIn_r _ [17, 7, 18, 19, 20, 21, 22, 23, 24, 25, 26, 27, 28, 29, 30, 31, 32, 33, 34, 35, 36, 37, 38, 39, 40, 41, 42, 43, 44, 45, 46, 47, 48, 49, 50, 51, 52, 53, 54, 55, 56, 57, 58, 59] (by decide +kernel) (by decide +kernel)
set_option maxRecDepth 20000 in
theorem gX12_mark_X12_gives : GoodIn wsX12_mark (wsV RX12 95 RX12 yX12_gives wsX12_gives) := goodIn_app (goodIn_of _ (by decide +kernel)) ggX12_mark_X12_gives
theorem dX12_mark_0 : decode cX12_mark 0 = .ok (.aload_n 0, 1) := by decide +kernel
theorem dX12_mark_1 : decode cX12_mark 1 = .ok (.getfield 515, 3) := by decide +kernel
theorem dX12_mark_4 : decode cX12_mark 4 = .ok (.iconst 3, 1) := by decide +kernel
theorem dX12_mark_5 : decode cX12_mark 5 = .ok (.if_icmp .ne 9, 3) := by decide +kernel
theorem dX12_mark_8 : decode cX12_mark 8 = .ok (.aload_n 0, 1) := by decide +kernel
theorem dX12_mark_9 : decode cX12_mark 9 = .ok (.iconst 4, 1) := by decide +kernel
theorem dX12_mark_10 : decode cX12_mark 10 = .ok (.invokevirtual 91, 3) := by decide +kernel
theorem dX12_mark_13 : decode cX12_mark 13 = .ok (.ireturn, 1) := by decide +kernel
theorem dX12_mark_14 : decode cX12_mark 14 = .ok (.aload_n 0, 1) := by decide +kernel
theorem dX12_mark_15 : decode cX12_mark 15 = .ok (.dup, 1) := by decide +kernel
theorem dX12_mark_16 : decode cX12_mark 16 = .ok (.getfield 515, 3) := by decide +kernel
theorem dX12_mark_19 : decode cX12_mark 19 = .ok (.iconst 1, 1) := by decide +kernel
theorem dX12_mark_20 : decode cX12_mark 20 = .ok (.iadd, 1) := by decide +kernel
theorem dX12_mark_21 : decode cX12_mark 21 = .ok (.putfield 515, 3) := by decide +kernel
theorem dX12_mark_24 : decode cX12_mark 24 = .ok (.aload_n 0, 1) := by decide +kernel
theorem dX12_mark_25 : decode cX12_mark 25 = .ok (.iconst 0, 1) := by decide +kernel
theorem dX12_mark_26 : decode cX12_mark 26 = .ok (.aload_n 0, 1) := by decide +kernel
theorem dX12_mark_27 : decode cX12_mark 27 = .ok (.getfield 515, 3) := by decide +kernel
theorem dX12_mark_30 : decode cX12_mark 30 = .ok (.invokevirtual 518, 3) := by decide +kernel
theorem dX12_mark_33 : decode cX12_mark 33 = .ok (.aload_n 0, 1) := by decide +kernel
theorem dX12_mark_34 : decode cX12_mark 34 = .ok (.aload_n 0, 1) := by decide +kernel
theorem dX12_mark_35 : decode cX12_mark 35 = .ok (.getfield 515, 3) := by decide +kernel
theorem dX12_mark_38 : decode cX12_mark 38 = .ok (.invokevirtual 95, 3) := by decide +kernel
theorem dX12_mark_41 : decode cX12_mark 41 = .ok (.ireturn, 1) := by decide +kernel
set_option maxRecDepth 20000 in
theorem ggX12_undo_X12_refuse : GoodIn wsX12_undo wsX12_refuse := goodIn_r _ [6, 7, 18, 19, 20, 21, 22, 23, 24, 25, 26, 27, 28, 29, 30, 31, 32, 33, 34, 35, 36, 37, 38, 39, 40, 41, 42, 43, 44, 45, 46, 47, 48, 49, 50, 51, 52, 53, 54, 55, 56, 57, 58, 59] (by decide +kernel) (by decide +kernel)
set_option maxRecDepth 20000 in
theorem gX12_undo_X12_refuse : GoodIn wsX12_undo (wsV RX12 91 RX12 yX12_refuse wsX12_refuse) := goodIn_app (goodIn_of _ (by decide +kernel)) ggX12_undo_X12_refuse
set_option maxRecDepth 20000 in
theorem ggX12_undo_X12_copies : GoodIn wsX12_undo wsX12_copies := goodIn_r _ [11, 12, 13, 18, 19, 20, 21, 22, 23, 24, 25, 26, 27, 28, 29, 30, 31, 32, 33, 34, 35, 36, 37, 38, 39, 40, 41, 42, 43, 44, 45, 46, 47, 48, 49, 50, 51, 52, 53, 54, 55, 56, 57, 58, 59] (by decide +kernel) (by decide +kernel)
set_option maxRecDepth 20000 in
theorem gX12_undo_X12_copies : GoodIn wsX12_undo (wsV RX12 518 RX12 yX12_copies wsX12_copies) := goodIn_app (goodIn_of _ (by decide +kernel)) ggX12_undo_X12_copies
set_option maxRecDepth 20000 in
theorem ggX12_undo_X12_gives : GoodIn wsX12_undo wsX12_gives := goodIn_r _ [17, 7, 18, 19, 20, 21, 22, 23, 24, 25, 26, 27, 28, 29, 30, 31, 32, 33, 34, 35, 36, 37, 38, 39, 40, 41, 42, 43, 44, 45, 46, 47, 48, 49, 50, 51, 52, 53, 54, 55, 56, 57, 58, 59] (by decide +kernel) (by decide +kernel)
set_option maxRecDepth 20000 in
theorem gX12_undo_X12_gives : GoodIn wsX12_undo (wsV RX12 95 RX12 yX12_gives wsX12_gives) := goodIn_app (goodIn_of _ (by decide +kernel)) ggX12_undo_X12_gives
theorem dX12_undo_0 : decode cX12_undo 0 = .ok (.aload_n 0, 1) := by decide +kernel
theorem dX12_undo_1 : decode cX12_undo 1 = .ok (.getfield 515, 3) := by decide +kernel
theorem dX12_undo_4 : decode cX12_undo 4 = .ok (.ifCond .ne 10, 3) := by decide +kernel
theorem dX12_undo_7 : decode cX12_undo 7 = .ok (.aload_n 0, 1) := by decide +kernel
theorem dX12_undo_8 : decode cX12_undo 8 = .ok (.bipush 6, 2) := by decide +kernel
theorem dX12_undo_10 : decode cX12_undo 10 = .ok (.invokevirtual 91, 3) := by decide +kernel
theorem dX12_undo_13 : decode cX12_undo 13 = .ok (.ireturn, 1) := by decide +kernel
theorem dX12_undo_14 : decode cX12_undo 14 = .ok (.aload_n 0, 1) := by decide +kernel
theorem dX12_undo_15 : decode cX12_undo 15 = .ok (.aload_n 0, 1) := by decide +kernel
theorem dX12_undo_16 : decode cX12_undo 16 = .ok (.getfield 515, 3) := by decide +kernel
theorem dX12_undo_19 : decode cX12_undo 19 = .ok (.iconst 0, 1) := by decide +kernel
theorem dX12_undo_20 : decode cX12_undo 20 = .ok (.invokevirtual 518, 3) := by decide +kernel
theorem dX12_undo_23 : decode cX12_undo 23 = .ok (.aload_n 0, 1) := by decide +kernel
theorem dX12_undo_24 : decode cX12_undo 24 = .ok (.dup, 1) := by decide +kernel
theorem dX12_undo_25 : decode cX12_undo 25 = .ok (.getfield 515, 3) := by decide +kernel
theorem dX12_undo_28 : decode cX12_undo 28 = .ok (.iconst 1, 1) := by decide +kernel
theorem dX12_undo_29 : decode cX12_undo 29 = .ok (.isub, 1) := by decide +kernel
theorem dX12_undo_30 : decode cX12_undo 30 = .ok (.putfield 515, 3) := by decide +kernel
theorem dX12_undo_33 : decode cX12_undo 33 = .ok (.aload_n 0, 1) := by decide +kernel
theorem dX12_undo_34 : decode cX12_undo 34 = .ok (.aload_n 0, 1) := by decide +kernel
theorem dX12_undo_35 : decode cX12_undo 35 = .ok (.getfield 515, 3) := by decide +kernel
theorem dX12_undo_38 : decode cX12_undo 38 = .ok (.invokevirtual 95, 3) := by decide +kernel
theorem dX12_undo_41 : decode cX12_undo 41 = .ok (.ireturn, 1) := by decide +kernel
theorem dJ6_bitCount_0f7a4_0 : decode cJ6_bitCount_0f7a4 0 = .ok (.iload_n 0, 1) := by decide +kernel
theorem dJ6_bitCount_0f7a4_1 : decode cJ6_bitCount_0f7a4 1 = .ok (.iload_n 0, 1) := by decide +kernel
theorem dJ6_bitCount_0f7a4_2 : decode cJ6_bitCount_0f7a4 2 = .ok (.iconst 1, 1) := by decide +kernel
theorem dJ6_bitCount_0f7a4_3 : decode cJ6_bitCount_0f7a4 3 = .ok (.iushr, 1) := by decide +kernel
theorem dJ6_bitCount_0f7a4_4 : decode cJ6_bitCount_0f7a4 4 = .ok (.ldc_w 265, 3) := by decide +kernel
theorem dJ6_bitCount_0f7a4_7 : decode cJ6_bitCount_0f7a4 7 = .ok (.iand, 1) := by decide +kernel
theorem dJ6_bitCount_0f7a4_8 : decode cJ6_bitCount_0f7a4 8 = .ok (.isub, 1) := by decide +kernel
theorem dJ6_bitCount_0f7a4_9 : decode cJ6_bitCount_0f7a4 9 = .ok (.istore_n 0, 1) := by decide +kernel
theorem dJ6_bitCount_0f7a4_10 : decode cJ6_bitCount_0f7a4 10 = .ok (.iload_n 0, 1) := by decide +kernel
theorem dJ6_bitCount_0f7a4_11 : decode cJ6_bitCount_0f7a4 11 = .ok (.ldc_w 266, 3) := by decide +kernel
theorem dJ6_bitCount_0f7a4_14 : decode cJ6_bitCount_0f7a4 14 = .ok (.iand, 1) := by decide +kernel
theorem dJ6_bitCount_0f7a4_15 : decode cJ6_bitCount_0f7a4 15 = .ok (.iload_n 0, 1) := by decide +kernel
theorem dJ6_bitCount_0f7a4_16 : decode cJ6_bitCount_0f7a4 16 = .ok (.iconst 2, 1) := by decide +kernel
theorem dJ6_bitCount_0f7a4_17 : decode cJ6_bitCount_0f7a4 17 = .ok (.iushr, 1) := by decide +kernel
theorem dJ6_bitCount_0f7a4_18 : decode cJ6_bitCount_0f7a4 18 = .ok (.ldc_w 266, 3) := by decide +kernel
theorem dJ6_bitCount_0f7a4_21 : decode cJ6_bitCount_0f7a4 21 = .ok (.iand, 1) := by decide +kernel
theorem dJ6_bitCount_0f7a4_22 : decode cJ6_bitCount_0f7a4 22 = .ok (.iadd, 1) := by decide +kernel
theorem dJ6_bitCount_0f7a4_23 : decode cJ6_bitCount_0f7a4 23 = .ok (.istore_n 0, 1) := by decide +kernel
theorem dJ6_bitCount_0f7a4_24 : decode cJ6_bitCount_0f7a4 24 = .ok (.iload_n 0, 1) := by decide +kernel
theorem dJ6_bitCount_0f7a4_25 : decode cJ6_bitCount_0f7a4 25 = .ok (.iload_n 0, 1) := by decide +kernel
theorem dJ6_bitCount_0f7a4_26 : decode cJ6_bitCount_0f7a4 26 = .ok (.iconst 4, 1) := by decide +kernel
theorem dJ6_bitCount_0f7a4_27 : decode cJ6_bitCount_0f7a4 27 = .ok (.iushr, 1) := by decide +kernel
theorem dJ6_bitCount_0f7a4_28 : decode cJ6_bitCount_0f7a4 28 = .ok (.iadd, 1) := by decide +kernel
theorem dJ6_bitCount_0f7a4_29 : decode cJ6_bitCount_0f7a4 29 = .ok (.ldc_w 267, 3) := by decide +kernel
theorem dJ6_bitCount_0f7a4_32 : decode cJ6_bitCount_0f7a4 32 = .ok (.iand, 1) := by decide +kernel
theorem dJ6_bitCount_0f7a4_33 : decode cJ6_bitCount_0f7a4 33 = .ok (.istore_n 0, 1) := by decide +kernel
theorem dJ6_bitCount_0f7a4_34 : decode cJ6_bitCount_0f7a4 34 = .ok (.iload_n 0, 1) := by decide +kernel
theorem dJ6_bitCount_0f7a4_35 : decode cJ6_bitCount_0f7a4 35 = .ok (.iload_n 0, 1) := by decide +kernel
theorem dJ6_bitCount_0f7a4_36 : decode cJ6_bitCount_0f7a4 36 = .ok (.bipush 8, 2) := by decide +kernel
theorem dJ6_bitCount_0f7a4_38 : decode cJ6_bitCount_0f7a4 38 = .ok (.iushr, 1) := by decide +kernel
theorem dJ6_bitCount_0f7a4_39 : decode cJ6_bitCount_0f7a4 39 = .ok (.iadd, 1) := by decide +kernel
theorem dJ6_bitCount_0f7a4_40 : decode cJ6_bitCount_0f7a4 40 = .ok (.istore_n 0, 1) := by decide +kernel
theorem dJ6_bitCount_0f7a4_41 : decode cJ6_bitCount_0f7a4 41 = .ok (.iload_n 0, 1) := by decide +kernel
theorem dJ6_bitCount_0f7a4_42 : decode cJ6_bitCount_0f7a4 42 = .ok (.iload_n 0, 1) := by decide +kernel
theorem dJ6_bitCount_0f7a4_43 : decode cJ6_bitCount_0f7a4 43 = .ok (.bipush 16, 2) := by decide +kernel
theorem dJ6_bitCount_0f7a4_45 : decode cJ6_bitCount_0f7a4 45 = .ok (.iushr, 1) := by decide +kernel
theorem dJ6_bitCount_0f7a4_46 : decode cJ6_bitCount_0f7a4 46 = .ok (.iadd, 1) := by decide +kernel
theorem dJ6_bitCount_0f7a4_47 : decode cJ6_bitCount_0f7a4 47 = .ok (.istore_n 0, 1) := by decide +kernel
theorem dJ6_bitCount_0f7a4_48 : decode cJ6_bitCount_0f7a4 48 = .ok (.iload_n 0, 1) := by decide +kernel
theorem dJ6_bitCount_0f7a4_49 : decode cJ6_bitCount_0f7a4 49 = .ok (.bipush 63, 2) := by decide +kernel
theorem dJ6_bitCount_0f7a4_51 : decode cJ6_bitCount_0f7a4 51 = .ok (.iand, 1) := by decide +kernel
theorem dJ6_bitCount_0f7a4_52 : decode cJ6_bitCount_0f7a4 52 = .ok (.ireturn, 1) := by decide +kernel
theorem dJ9_max_7cf53_0 : decode cJ9_max_7cf53 0 = .ok (.iload_n 0, 1) := by decide +kernel
theorem dJ9_max_7cf53_1 : decode cJ9_max_7cf53 1 = .ok (.iload_n 1, 1) := by decide +kernel
theorem dJ9_max_7cf53_2 : decode cJ9_max_7cf53 2 = .ok (.if_icmp .lt 7, 3) := by decide +kernel
theorem dJ9_max_7cf53_5 : decode cJ9_max_7cf53 5 = .ok (.iload_n 0, 1) := by decide +kernel
theorem dJ9_max_7cf53_6 : decode cJ9_max_7cf53 6 = .ok (.goto 4, 3) := by decide +kernel
theorem dJ9_max_7cf53_9 : decode cJ9_max_7cf53 9 = .ok (.iload_n 1, 1) := by decide +kernel
theorem dJ9_max_7cf53_10 : decode cJ9_max_7cf53 10 = .ok (.ireturn, 1) := by decide +kernel
theorem dJ9_min_7cf53_0 : decode cJ9_min_7cf53 0 = .ok (.iload_n 0, 1) := by decide +kernel
theorem dJ9_min_7cf53_1 : decode cJ9_min_7cf53 1 = .ok (.iload_n 1, 1) := by decide +kernel
theorem dJ9_min_7cf53_2 : decode cJ9_min_7cf53 2 = .ok (.if_icmp .gt 7, 3) := by decide +kernel
theorem dJ9_min_7cf53_5 : decode cJ9_min_7cf53 5 = .ok (.iload_n 0, 1) := by decide +kernel
theorem dJ9_min_7cf53_6 : decode cJ9_min_7cf53 6 = .ok (.goto 4, 3) := by decide +kernel
theorem dJ9_min_7cf53_9 : decode cJ9_min_7cf53 9 = .ok (.iload_n 1, 1) := by decide +kernel
theorem dJ9_min_7cf53_10 : decode cJ9_min_7cf53 10 = .ok (.ireturn, 1) := by decide +kernel
set_option maxRecDepth 20000 in
theorem ggJ0_length_8abf5_J0_coder_7d493 : GoodIn wsJ0_length_8abf5 wsJ0_coder_7d493 := goodIn_r _ [6, 7, 8] (by decide +kernel) (by decide +kernel)
set_option maxRecDepth 20000 in
theorem gJ0_length_8abf5_J0_coder_7d493 : GoodIn wsJ0_length_8abf5 (wsV RJ0 335 RJ0 yJ0_coder_7d493 wsJ0_coder_7d493) := goodIn_app (goodIn_of _ (by decide +kernel)) ggJ0_length_8abf5_J0_coder_7d493
theorem dJ0_length_8abf5_0 : decode cJ0_length_8abf5 0 = .ok (.aload_n 0, 1) := by decide +kernel
theorem dJ0_length_8abf5_1 : decode cJ0_length_8abf5 1 = .ok (.getfield 9, 3) := by decide +kernel
theorem dJ0_length_8abf5_4 : decode cJ0_length_8abf5 4 = .ok (.arraylength, 1) := by decide +kernel
theorem dJ0_length_8abf5_5 : decode cJ0_length_8abf5 5 = .ok (.aload_n 0, 1) := by decide +kernel
theorem dJ0_length_8abf5_6 : decode cJ0_length_8abf5 6 = .ok (.invokevirtual 335, 3) := by decide +kernel
theorem dJ0_length_8abf5_9 : decode cJ0_length_8abf5 9 = .ok (.ishr, 1) := by decide +kernel
theorem dJ0_length_8abf5_10 : decode cJ0_length_8abf5 10 = .ok (.ireturn, 1) := by decide +kernel
set_option maxRecDepth 20000 in
theorem ggJ0_charAt_5068e_J0_isLatin1_aae02 : GoodIn wsJ0_charAt_5068e wsJ0_isLatin1_aae02 := goodIn_r _ [6, 7, 8] (by decide +kernel) (by decide +kernel)
set_option maxRecDepth 20000 in
theorem gJ0_charAt_5068e_J0_isLatin1_aae02 : GoodIn wsJ0_charAt_5068e (wsV RJ0 492 RJ0 yJ0_isLatin1_aae02 wsJ0_isLatin1_aae02) := goodIn_app (goodIn_of _ (by decide +kernel)) ggJ0_charAt_5068e_J0_isLatin1_aae02
set_option maxRecDepth 20000 in
theorem ggJ0_charAt_5068e_J1_charAt_3b067 : GoodIn wsJ0_charAt_5068e wsJ1_charAt_3b067 := goodIn_r _ [12, 13, 14, 5, 15, 16, 17, 18, 19, 20] (by decide +kernel) (by decide +kernel)
set_option maxRecDepth 20000 in
theorem gJ0_charAt_5068e_J1_charAt_3b067 : GoodIn wsJ0_charAt_5068e (va_wsS RJ0 495 yJ1_charAt_3b067 wsJ1_charAt_3b067) := goodIn_app (goodIn_of _ (by decide +kernel)) ggJ0_charAt_5068e_J1_charAt_3b067
set_option maxRecDepth 20000 in
theorem ggJ0_charAt_5068e_J2_charAt_3b067 : GoodIn wsJ0_charAt_5068e wsJ2_charAt_3b067 := goodIn_r _ [24, 25, 26, 23, 27, 28, 29, 30, 31, 14, 5, 15, 16, 17, 18, 19, 20, 32, 33, 34, 35, 36, 37] (by decide +kernel) (by decide +kernel)
set_option maxRecDepth 20000 in
theorem gJ0_charAt_5068e_J2_charAt_3b067 : GoodIn wsJ0_charAt_5068e (va_wsS RJ0 498 yJ2_charAt_3b067 wsJ2_charAt_3b067) := goodIn_app (goodIn_of _ (by decide +kernel)) ggJ0_charAt_5068e_J2_charAt_3b067
theorem dJ0_charAt_5068e_0 : decode cJ0_charAt_5068e 0 = .ok (.aload_n 0, 1) := by decide +kernel
theorem dJ0_charAt_5068e_1 : decode cJ0_charAt_5068e 1 = .ok (.invokevirtual 492, 3) := by decide +kernel
theorem dJ0_charAt_5068e_4 : decode cJ0_charAt_5068e 4 = .ok (.ifCond .eq 12, 3) := by decide +kernel
theorem dJ0_charAt_5068e_7 : decode cJ0_charAt_5068e 7 = .ok (.aload_n 0, 1) := by decide +kernel
theorem dJ0_charAt_5068e_8 : decode cJ0_charAt_5068e 8 = .ok (.getfield 9, 3) := by decide +kernel
theorem dJ0_charAt_5068e_11 : decode cJ0_charAt_5068e 11 = .ok (.iload_n 1, 1) := by decide +kernel
theorem dJ0_charAt_5068e_12 : decode cJ0_charAt_5068e 12 = .ok (.invokestatic 495, 3) := by decide +kernel
theorem dJ0_charAt_5068e_15 : decode cJ0_charAt_5068e 15 = .ok (.ireturn, 1) := by decide +kernel
theorem dJ0_charAt_5068e_16 : decode cJ0_charAt_5068e 16 = .ok (.aload_n 0, 1) := by decide +kernel
theorem dJ0_charAt_5068e_17 : decode cJ0_charAt_5068e 17 = .ok (.getfield 9, 3) := by decide +kernel
theorem dJ0_charAt_5068e_20 : decode cJ0_charAt_5068e 20 = .ok (.iload_n 1, 1) := by decide +kernel
theorem dJ0_charAt_5068e_21 : decode cJ0_charAt_5068e 21 = .ok (.invokestatic 498, 3) := by decide +kernel
theorem dJ0_charAt_5068e_24 : decode cJ0_charAt_5068e 24 = .ok (.ireturn, 1) := by decide +kernel
theorem dJ0_coder_7d493_0 : decode cJ0_coder_7d493 0 = .ok (.getstatic 38, 3) := by decide +kernel
theorem dJ0_coder_7d493_3 : decode cJ0_coder_7d493 3 = .ok (.ifCond .eq 10, 3) := by decide +kernel
theorem dJ0_coder_7d493_6 : decode cJ0_coder_7d493 6 = .ok (.aload_n 0, 1) := by decide +kernel
theorem dJ0_coder_7d493_7 : decode cJ0_coder_7d493 7 = .ok (.getfield 15, 3) := by decide +kernel
theorem dJ0_coder_7d493_10 : decode cJ0_coder_7d493 10 = .ok (.goto 4, 3) := by decide +kernel
theorem dJ0_coder_7d493_13 : decode cJ0_coder_7d493 13 = .ok (.iconst 1, 1) := by decide +kernel
theorem dJ0_coder_7d493_14 : decode cJ0_coder_7d493 14 = .ok (.ireturn, 1) := by decide +kernel
theorem dJ0_isLatin1_aae02_0 : decode cJ0_isLatin1_aae02 0 = .ok (.getstatic 38, 3) := by decide +kernel
theorem dJ0_isLatin1_aae02_3 : decode cJ0_isLatin1_aae02 3 = .ok (.ifCond .eq 14, 3) := by decide +kernel
theorem dJ0_isLatin1_aae02_6 : decode cJ0_isLatin1_aae02 6 = .ok (.aload_n 0, 1) := by decide +kernel
theorem dJ0_isLatin1_aae02_7 : decode cJ0_isLatin1_aae02 7 = .ok (.getfield 15, 3) := by decide +kernel
theorem dJ0_isLatin1_aae02_10 : decode cJ0_isLatin1_aae02 10 = .ok (.ifCond .ne 7, 3) := by decide +kernel
theorem dJ0_isLatin1_aae02_13 : decode cJ0_isLatin1_aae02 13 = .ok (.iconst 1, 1) := by decide +kernel
theorem dJ0_isLatin1_aae02_14 : decode cJ0_isLatin1_aae02 14 = .ok (.goto 4, 3) := by decide +kernel
theorem dJ0_isLatin1_aae02_17 : decode cJ0_isLatin1_aae02 17 = .ok (.iconst 0, 1) := by decide +kernel
theorem dJ0_isLatin1_aae02_18 : decode cJ0_isLatin1_aae02 18 = .ok (.ireturn, 1) := by decide +kernel
set_option maxRecDepth 20000 in
theorem ggJ0_checkIndex_df160_J3_checkIndex_8e157 : GoodIn wsJ0_checkIndex_df160 wsJ3_checkIndex_8e157 := goodIn_r _ [5] (by decide +kernel) (by decide +kernel)
set_option maxRecDepth 20000 in
theorem gJ0_checkIndex_df160_J3_checkIndex_8e157 : GoodIn wsJ0_checkIndex_df160 (va_wsS RJ0 1059 yJ3_checkIndex_8e157 wsJ3_checkIndex_8e157) := goodIn_app (goodIn_of _ (by decide +kernel)) ggJ0_checkIndex_df160_J3_checkIndex_8e157
theorem dJ0_checkIndex_df160_0 : decode cJ0_checkIndex_df160 0 = .ok (.iload_n 0, 1) := by decide +kernel
theorem dJ0_checkIndex_df160_1 : decode cJ0_checkIndex_df160 1 = .ok (.iload_n 1, 1) := by decide +kernel
theorem dJ0_checkIndex_df160_2 : decode cJ0_checkIndex_df160 2 = .ok (.getstatic 1053, 3) := by decide +kernel
theorem dJ0_checkIndex_df160_5 : decode cJ0_checkIndex_df160 5 = .ok (.invokestatic 1059, 3) := by decide +kernel
theorem dJ0_checkIndex_df160_8 : decode cJ0_checkIndex_df160 8 = .ok (.pop, 1) := by decide +kernel
theorem dJ0_checkIndex_df160_9 : decode cJ0_checkIndex_df160 9 = .ok (.return_, 1) := by decide +kernel
set_option maxRecDepth 20000 in
theorem ggJ1_charAt_3b067_J0_checkIndex_df160 : GoodIn wsJ1_charAt_3b067 wsJ0_checkIndex_df160 := goodIn_r _ [4, 5, 6, 7, 8, 9] (by decide +kernel) (by decide +kernel)
set_option maxRecDepth 20000 in
theorem gJ1_charAt_3b067_J0_checkIndex_df160 : GoodIn wsJ1_charAt_3b067 (va_wsS RJ1 9 yJ0_checkIndex_df160 wsJ0_checkIndex_df160) := goodIn_app (goodIn_of _ (by decide +kernel)) ggJ1_charAt_3b067_J0_checkIndex_df160
theorem dJ1_charAt_3b067_0 : decode cJ1_charAt_3b067 0 = .ok (.iload_n 1, 1) := by decide +kernel
theorem dJ1_charAt_3b067_1 : decode cJ1_charAt_3b067 1 = .ok (.aload_n 0, 1) := by decide +kernel
theorem dJ1_charAt_3b067_2 : decode cJ1_charAt_3b067 2 = .ok (.arraylength, 1) := by decide +kernel
theorem dJ1_charAt_3b067_3 : decode cJ1_charAt_3b067 3 = .ok (.invokestatic 9, 3) := by decide +kernel
theorem dJ1_charAt_3b067_6 : decode cJ1_charAt_3b067 6 = .ok (.aload_n 0, 1) := by decide +kernel
theorem dJ1_charAt_3b067_7 : decode cJ1_charAt_3b067 7 = .ok (.iload_n 1, 1) := by decide +kernel
theorem dJ1_charAt_3b067_8 : decode cJ1_charAt_3b067 8 = .ok (.baload, 1) := by decide +kernel
theorem dJ1_charAt_3b067_9 : decode cJ1_charAt_3b067 9 = .ok (.sipush 255, 3) := by decide +kernel
theorem dJ1_charAt_3b067_12 : decode cJ1_charAt_3b067 12 = .ok (.iand, 1) := by decide +kernel
theorem dJ1_charAt_3b067_13 : decode cJ1_charAt_3b067 13 = .ok (.i2c, 1) := by decide +kernel
theorem dJ1_charAt_3b067_14 : decode cJ1_charAt_3b067 14 = .ok (.ireturn, 1) := by decide +kernel
set_option maxRecDepth 20000 in
theorem ggJ2_getChar_3b067_J2_length_9d52b : GoodIn wsJ2_getChar_3b067 wsJ2_length_9d52b := goodIn_r _ [7] (by decide +kernel) (by decide +kernel)
set_option maxRecDepth 20000 in
theorem gJ2_getChar_3b067_J2_length_9d52b : GoodIn wsJ2_getChar_3b067 (va_wsS RJ2 48 yJ2_length_9d52b wsJ2_length_9d52b) := goodIn_app (goodIn_of _ (by decide +kernel)) ggJ2_getChar_3b067_J2_length_9d52b
theorem dJ2_getChar_3b067_0 : decode cJ2_getChar_3b067 0 = .ok (.getstatic 44, 3) := by decide +kernel
theorem dJ2_getChar_3b067_3 : decode cJ2_getChar_3b067 3 = .ok (.ifCond .ne 25, 3) := by decide +kernel
theorem dJ2_getChar_3b067_6 : decode cJ2_getChar_3b067 6 = .ok (.iload_n 1, 1) := by decide +kernel
theorem dJ2_getChar_3b067_7 : decode cJ2_getChar_3b067 7 = .ok (.ifCond .lt 11, 3) := by decide +kernel
theorem dJ2_getChar_3b067_10 : decode cJ2_getChar_3b067 10 = .ok (.iload_n 1, 1) := by decide +kernel
theorem dJ2_getChar_3b067_11 : decode cJ2_getChar_3b067 11 = .ok (.aload_n 0, 1) := by decide +kernel
theorem dJ2_getChar_3b067_12 : decode cJ2_getChar_3b067 12 = .ok (.invokestatic 48, 3) := by decide +kernel
theorem dJ2_getChar_3b067_15 : decode cJ2_getChar_3b067 15 = .ok (.if_icmp .lt 13, 3) := by decide +kernel
theorem dJ2_getChar_3b067_18 : decode cJ2_getChar_3b067 18 = .ok (.new 52, 3) := by decide +kernel
theorem dJ2_getChar_3b067_21 : decode cJ2_getChar_3b067 21 = .ok (.dup, 1) := by decide +kernel
theorem dJ2_getChar_3b067_22 : decode cJ2_getChar_3b067 22 = .ok (.ldc 54, 2) := by decide +kernel
theorem dJ2_getChar_3b067_24 : decode cJ2_getChar_3b067 24 = .ok (.invokespecial 56, 3) := by decide +kernel
theorem dJ2_getChar_3b067_27 : decode cJ2_getChar_3b067 27 = .ok (.athrow, 1) := by decide +kernel
theorem dJ2_getChar_3b067_28 : decode cJ2_getChar_3b067 28 = .ok (.iload_n 1, 1) := by decide +kernel
theorem dJ2_getChar_3b067_29 : decode cJ2_getChar_3b067 29 = .ok (.iconst 1, 1) := by decide +kernel
theorem dJ2_getChar_3b067_30 : decode cJ2_getChar_3b067 30 = .ok (.ishl, 1) := by decide +kernel
theorem dJ2_getChar_3b067_31 : decode cJ2_getChar_3b067 31 = .ok (.istore_n 1, 1) := by decide +kernel
theorem dJ2_getChar_3b067_32 : decode cJ2_getChar_3b067 32 = .ok (.aload_n 0, 1) := by decide +kernel
theorem dJ2_getChar_3b067_33 : decode cJ2_getChar_3b067 33 = .ok (.iload_n 1, 1) := by decide +kernel
theorem dJ2_getChar_3b067_34 : decode cJ2_getChar_3b067 34 = .ok (.iinc 1 1, 3) := by decide +kernel
theorem dJ2_getChar_3b067_37 : decode cJ2_getChar_3b067 37 = .ok (.baload, 1) := by decide +kernel
theorem dJ2_getChar_3b067_38 : decode cJ2_getChar_3b067 38 = .ok (.sipush 255, 3) := by decide +kernel
theorem dJ2_getChar_3b067_41 : decode cJ2_getChar_3b067 41 = .ok (.iand, 1) := by decide +kernel
theorem dJ2_getChar_3b067_42 : decode cJ2_getChar_3b067 42 = .ok (.getstatic 59, 3) := by decide +kernel
theorem dJ2_getChar_3b067_45 : decode cJ2_getChar_3b067 45 = .ok (.ishl, 1) := by decide +kernel
theorem dJ2_getChar_3b067_46 : decode cJ2_getChar_3b067 46 = .ok (.aload_n 0, 1) := by decide +kernel
theorem dJ2_getChar_3b067_47 : decode cJ2_getChar_3b067 47 = .ok (.iload_n 1, 1) := by decide +kernel
theorem dJ2_getChar_3b067_48 : decode cJ2_getChar_3b067 48 = .ok (.baload, 1) := by decide +kernel
theorem dJ2_getChar_3b067_49 : decode cJ2_getChar_3b067 49 = .ok (.sipush 255, 3) := by decide +kernel
theorem dJ2_getChar_3b067_52 : decode cJ2_getChar_3b067 52 = .ok (.iand, 1) := by decide +kernel
theorem dJ2_getChar_3b067_53 : decode cJ2_getChar_3b067 53 = .ok (.getstatic 63, 3) := by decide +kernel
theorem dJ2_getChar_3b067_56 : decode cJ2_getChar_3b067 56 = .ok (.ishl, 1) := by decide +kernel
theorem dJ2_getChar_3b067_57 : decode cJ2_getChar_3b067 57 = .ok (.ior, 1) := by decide +kernel
theorem dJ2_getChar_3b067_58 : decode cJ2_getChar_3b067 58 = .ok (.i2c, 1) := by decide +kernel
theorem dJ2_getChar_3b067_59 : decode cJ2_getChar_3b067 59 = .ok (.ireturn, 1) := by decide +kernel
theorem dJ2_length_9d52b_0 : decode cJ2_length_9d52b 0 = .ok (.aload_n 0, 1) := by decide +kernel
theorem dJ2_length_9d52b_1 : decode cJ2_length_9d52b 1 = .ok (.arraylength, 1) := by decide +kernel
theorem dJ2_length_9d52b_2 : decode cJ2_length_9d52b 2 = .ok (.iconst 1, 1) := by decide +kernel
theorem dJ2_length_9d52b_3 : decode cJ2_length_9d52b 3 = .ok (.ishr, 1) := by decide +kernel
theorem dJ2_length_9d52b_4 : decode cJ2_length_9d52b 4 = .ok (.ireturn, 1) := by decide +kernel
set_option maxRecDepth 20000 in
theorem ggJ2_charAt_3b067_J2_checkIndex_2214a : GoodIn wsJ2_charAt_3b067 wsJ2_checkIndex_2214a := goodIn_r _ [4, 5, 6, 3, 7, 8, 9, 10, 11, 12, 13, 14, 15, 16] (by decide +kernel) (by decide +kernel)
set_option maxRecDepth 20000 in
theorem gJ2_charAt_3b067_J2_checkIndex_2214a : GoodIn wsJ2_charAt_3b067 (va_wsS RJ2 67 yJ2_checkIndex_2214a wsJ2_checkIndex_2214a) := goodIn_app (goodIn_of _ (by decide +kernel)) ggJ2_charAt_3b067_J2_checkIndex_2214a
set_option maxRecDepth 20000 in
theorem ggJ2_charAt_3b067_J2_getChar_3b067 : GoodIn wsJ2_charAt_3b067 wsJ2_getChar_3b067 := goodIn_r _ [19, 20, 21, 22, 5, 6, 3, 7] (by decide +kernel) (by decide +kernel)
set_option maxRecDepth 20000 in
theorem gJ2_charAt_3b067_J2_getChar_3b067 : GoodIn wsJ2_charAt_3b067 (va_wsS RJ2 71 yJ2_getChar_3b067 wsJ2_getChar_3b067) := goodIn_app (goodIn_of _ (by decide +kernel)) ggJ2_charAt_3b067_J2_getChar_3b067
theorem dJ2_charAt_3b067_0 : decode cJ2_charAt_3b067 0 = .ok (.iload_n 1, 1) := by decide +kernel
theorem dJ2_charAt_3b067_1 : decode cJ2_charAt_3b067 1 = .ok (.aload_n 0, 1) := by decide +kernel
theorem dJ2_charAt_3b067_2 : decode cJ2_charAt_3b067 2 = .ok (.invokestatic 67, 3) := by decide +kernel
theorem dJ2_charAt_3b067_5 : decode cJ2_charAt_3b067 5 = .ok (.aload_n 0, 1) := by decide +kernel
theorem dJ2_charAt_3b067_6 : decode cJ2_charAt_3b067 6 = .ok (.iload_n 1, 1) := by decide +kernel
theorem dJ2_charAt_3b067_7 : decode cJ2_charAt_3b067 7 = .ok (.invokestatic 71, 3) := by decide +kernel
theorem dJ2_charAt_3b067_10 : decode cJ2_charAt_3b067 10 = .ok (.ireturn, 1) := by decide +kernel
set_option maxRecDepth 20000 in
theorem ggJ2_checkIndex_2214a_J2_length_9d52b : GoodIn wsJ2_checkIndex_2214a wsJ2_length_9d52b := goodIn_r _ [4] (by decide +kernel) (by decide +kernel)
set_option maxRecDepth 20000 in
theorem gJ2_checkIndex_2214a_J2_length_9d52b : GoodIn wsJ2_checkIndex_2214a (va_wsS RJ2 48 yJ2_length_9d52b wsJ2_length_9d52b) := goodIn_app (goodIn_of _ (by decide +kernel)) ggJ2_checkIndex_2214a_J2_length_9d52b
set_option maxRecDepth 20000 in
theorem ggJ2_checkIndex_2214a_J0_checkIndex_df160 : GoodIn wsJ2_checkIndex_2214a wsJ0_checkIndex_df160 := goodIn_r _ [8, 9, 10, 11, 12, 13] (by decide +kernel) (by decide +kernel)
set_option maxRecDepth 20000 in
theorem gJ2_checkIndex_2214a_J0_checkIndex_df160 : GoodIn wsJ2_checkIndex_2214a (va_wsS RJ2 414 yJ0_checkIndex_df160 wsJ0_checkIndex_df160) := goodIn_app (goodIn_of _ (by decide +kernel)) ggJ2_checkIndex_2214a_J0_checkIndex_df160
theorem dJ2_checkIndex_2214a_0 : decode cJ2_checkIndex_2214a 0 = .ok (.iload_n 0, 1) := by decide +kernel
theorem dJ2_checkIndex_2214a_1 : decode cJ2_checkIndex_2214a 1 = .ok (.aload_n 1, 1) := by decide +kernel
theorem dJ2_checkIndex_2214a_2 : decode cJ2_checkIndex_2214a 2 = .ok (.invokestatic 48, 3) := by decide +kernel
theorem dJ2_checkIndex_2214a_5 : decode cJ2_checkIndex_2214a 5 = .ok (.invokestatic 414, 3) := by decide +kernel
theorem dJ2_checkIndex_2214a_8 : decode cJ2_checkIndex_2214a 8 = .ok (.return_, 1) := by decide +kernel
theorem dJ3_checkIndex_8e157_0 : decode cJ3_checkIndex_8e157 0 = .ok (.iload_n 0, 1) := by decide +kernel
theorem dJ3_checkIndex_8e157_1 : decode cJ3_checkIndex_8e157 1 = .ok (.ifCond .lt 8, 3) := by decide +kernel
theorem dJ3_checkIndex_8e157_4 : decode cJ3_checkIndex_8e157 4 = .ok (.iload_n 0, 1) := by decide +kernel
theorem dJ3_checkIndex_8e157_5 : decode cJ3_checkIndex_8e157 5 = .ok (.iload_n 1, 1) := by decide +kernel
theorem dJ3_checkIndex_8e157_6 : decode cJ3_checkIndex_8e157 6 = .ok (.if_icmp .lt 10, 3) := by decide +kernel
theorem dJ3_checkIndex_8e157_9 : decode cJ3_checkIndex_8e157 9 = .ok (.aload_n 2, 1) := by decide +kernel
theorem dJ3_checkIndex_8e157_10 : decode cJ3_checkIndex_8e157 10 = .ok (.iload_n 0, 1) := by decide +kernel
theorem dJ3_checkIndex_8e157_11 : decode cJ3_checkIndex_8e157 11 = .ok (.iload_n 1, 1) := by decide +kernel
theorem dJ3_checkIndex_8e157_12 : decode cJ3_checkIndex_8e157 12 = .ok (.invokestatic 95, 3) := by decide +kernel
theorem dJ3_checkIndex_8e157_15 : decode cJ3_checkIndex_8e157 15 = .ok (.athrow, 1) := by decide +kernel
theorem dJ3_checkIndex_8e157_16 : decode cJ3_checkIndex_8e157 16 = .ok (.iload_n 0, 1) := by decide +kernel
theorem dJ3_checkIndex_8e157_17 : decode cJ3_checkIndex_8e157 17 = .ok (.ireturn, 1) := by decide +kernel
