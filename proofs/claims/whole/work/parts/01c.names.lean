set_option maxRecDepth 20000 in
theorem ggX11_init_X0_init : GoodIn wsX11_init wsX0_init := goodIn_r _ [49, 50, 2, 3, 51, 52, 53, 54, 55, 56, 57, 58, 59, 60, 61, 62, 63, 64, 65, 66, 67, 68, 69, 70, 71, 72, 73, 74, 75, 76, 77, 78, 79, 80, 81, 82, 83, 84, 85, 86, 87, 88, 89, 90, 91, 92, 93, 94, 95, 96, 97, 98, 99, 100, 101, 214, 215, 216, 217, 218, 219, 220, 221, 222, 223, 224, 225, 226, 227, 282, 283, 284, 285, 286, 287, 288, 289, 290, 291, 292, 293, 294, 295, 296, 297, 298] (by decide +kernel) (by decide +kernel)
set_option maxRecDepth 20000 in
theorem gX11_init_X0_init : GoodIn wsX11_init (wsX0_init) := ggX11_init_X0_init
set_option maxRecDepth 20000 in
theorem ggX11_init_X8_init : GoodIn wsX11_init wsX8_init := goodIn_r _ [103, 104, 2, 3, 105, 106, 53, 107, 247, 248, 249] (by decide +kernel) (by decide +kernel)
set_option maxRecDepth 20000 in
theorem gX11_init_X8_init_n33 : GoodIn wsX11_init (wsX8_init) := ggX11_init_X8_init
set_option maxRecDepth 20000 in
theorem ggX11_init_X7_init : GoodIn wsX11_init wsX7_init := goodIn_r _ [110, 111, 2, 3, 51, 112, 53, 113, 114, 115, 116, 117, 118, 119, 120, 121, 122, 123, 124, 125, 126, 127, 128, 129, 130, 131, 132, 133, 134, 135, 136, 137, 138, 139, 140, 141, 142, 143, 144, 145, 146, 147, 148, 149, 150, 151, 152, 153, 154, 155, 156, 157, 158, 159, 160, 161, 162, 163, 164, 165, 166, 167, 168, 169, 170, 171, 172, 173, 18, 174, 175, 176, 250, 251, 252, 253, 254, 255, 256, 257, 258, 259, 260] (by decide +kernel) (by decide +kernel)
set_option maxRecDepth 20000 in
theorem gX11_init_X7_init : GoodIn wsX11_init (wsX7_init) := ggX11_init_X7_init
set_option maxRecDepth 20000 in
theorem ggX11_init_X4_init : GoodIn wsX11_init wsX4_init := goodIn_r _ [179, 180, 2, 3, 51, 181, 182, 183, 184, 185, 186, 261, 262, 263, 264, 265, 266] (by decide +kernel) (by decide +kernel)
set_option maxRecDepth 20000 in
theorem gX11_init_X4_init : GoodIn wsX11_init (wsX4_init) := ggX11_init_X4_init
set_option maxRecDepth 20000 in
theorem ggX11_init_X10_init : GoodIn wsX11_init wsX10_init := goodIn_r _ [188, 189, 2, 3, 51, 190, 191, 192, 267, 268, 269] (by decide +kernel) (by decide +kernel)
set_option maxRecDepth 20000 in
theorem gX11_init_X10_init_n56 : GoodIn wsX11_init (wsX10_init) := ggX11_init_X10_init
set_option maxRecDepth 20000 in
theorem ggX11_init_X3_init : GoodIn wsX11_init wsX3_init := goodIn_r _ [194, 195, 2, 3, 51, 196, 197, 198, 270, 271, 272] (by decide +kernel) (by decide +kernel)
set_option maxRecDepth 20000 in
theorem gX11_init_X3_init_n63 : GoodIn wsX11_init (wsX3_init) := ggX11_init_X3_init
set_option maxRecDepth 20000 in
theorem ggX11_init_X1_init : GoodIn wsX11_init wsX1_init := goodIn_r _ [200, 201, 2, 3, 202, 203, 273, 274] (by decide +kernel) (by decide +kernel)
set_option maxRecDepth 20000 in
theorem gX11_init_X1_init_n70 : GoodIn wsX11_init (wsX1_init) := ggX11_init_X1_init
set_option maxRecDepth 20000 in
theorem ggX11_init_X2_init : GoodIn wsX11_init wsX2_init := goodIn_r _ [205, 206, 2, 3, 51, 207, 208, 209, 210, 211, 212, 213, 275, 276, 277, 278, 279, 280, 281] (by decide +kernel) (by decide +kernel)
set_option maxRecDepth 20000 in
theorem gX11_init_X2_init_n77 : GoodIn wsX11_init (wsX2_init) := ggX11_init_X2_init
theorem dX11_init_0 : decode cX11_init 0 = .ok (.aload_n 0, 1) := by decide +kernel
theorem dX11_init_1 : decode cX11_init 1 = .ok (.invokespecial 1, 3) := by decide +kernel
theorem dX11_init_4 : decode cX11_init 4 = .ok (.aload_n 0, 1) := by decide +kernel
theorem dX11_init_5 : decode cX11_init 5 = .ok (.new 7, 3) := by decide +kernel
theorem dX11_init_8 : decode cX11_init 8 = .ok (.dup, 1) := by decide +kernel
theorem dX11_init_9 : decode cX11_init 9 = .ok (.invokespecial 9, 3) := by decide +kernel
theorem dX11_init_12 : decode cX11_init 12 = .ok (.putfield 10, 3) := by decide +kernel
theorem dX11_init_15 : decode cX11_init 15 = .ok (.aload_n 0, 1) := by decide +kernel
theorem dX11_init_16 : decode cX11_init 16 = .ok (.new 7, 3) := by decide +kernel
theorem dX11_init_19 : decode cX11_init 19 = .ok (.dup, 1) := by decide +kernel
theorem dX11_init_20 : decode cX11_init 20 = .ok (.invokespecial 9, 3) := by decide +kernel
theorem dX11_init_23 : decode cX11_init 23 = .ok (.putfield 16, 3) := by decide +kernel
theorem dX11_init_26 : decode cX11_init 26 = .ok (.aload_n 0, 1) := by decide +kernel
theorem dX11_init_27 : decode cX11_init 27 = .ok (.iconst 3, 1) := by decide +kernel
theorem dX11_init_28 : decode cX11_init 28 = .ok (.anewarray 7, 3) := by decide +kernel
theorem dX11_init_31 : decode cX11_init 31 = .ok (.putfield 19, 3) := by decide +kernel
theorem dX11_init_34 : decode cX11_init 34 = .ok (.aload_n 0, 1) := by decide +kernel
theorem dX11_init_35 : decode cX11_init 35 = .ok (.iconst 0, 1) := by decide +kernel
theorem dX11_init_36 : decode cX11_init 36 = .ok (.putfield 23, 3) := by decide +kernel
theorem dX11_init_39 : decode cX11_init 39 = .ok (.aload_n 0, 1) := by decide +kernel
theorem dX11_init_40 : decode cX11_init 40 = .ok (.iconst 4, 1) := by decide +kernel
theorem dX11_init_41 : decode cX11_init 41 = .ok (.anewarray 27, 3) := by decide +kernel
theorem dX11_init_44 : decode cX11_init 44 = .ok (.putfield 29, 3) := by decide +kernel
theorem dX11_init_47 : decode cX11_init 47 = .ok (.aload_n 0, 1) := by decide +kernel
theorem dX11_init_48 : decode cX11_init 48 = .ok (.new 27, 3) := by decide +kernel
theorem dX11_init_51 : decode cX11_init 51 = .ok (.dup, 1) := by decide +kernel
theorem dX11_init_52 : decode cX11_init 52 = .ok (.invokespecial 33, 3) := by decide +kernel
theorem dX11_init_55 : decode cX11_init 55 = .ok (.putfield 34, 3) := by decide +kernel
theorem dX11_init_58 : decode cX11_init 58 = .ok (.aload_n 0, 1) := by decide +kernel
theorem dX11_init_59 : decode cX11_init 59 = .ok (.new 38, 3) := by decide +kernel
theorem dX11_init_62 : decode cX11_init 62 = .ok (.dup, 1) := by decide +kernel
theorem dX11_init_63 : decode cX11_init 63 = .ok (.invokespecial 40, 3) := by decide +kernel
theorem dX11_init_66 : decode cX11_init 66 = .ok (.putfield 41, 3) := by decide +kernel
theorem dX11_init_69 : decode cX11_init 69 = .ok (.aload_n 0, 1) := by decide +kernel
theorem dX11_init_70 : decode cX11_init 70 = .ok (.new 45, 3) := by decide +kernel
theorem dX11_init_73 : decode cX11_init 73 = .ok (.dup, 1) := by decide +kernel
theorem dX11_init_74 : decode cX11_init 74 = .ok (.aload_n 0, 1) := by decide +kernel
theorem dX11_init_75 : decode cX11_init 75 = .ok (.getfield 41, 3) := by decide +kernel
theorem dX11_init_78 : decode cX11_init 78 = .ok (.invokespecial 47, 3) := by decide +kernel
theorem dX11_init_81 : decode cX11_init 81 = .ok (.putfield 50, 3) := by decide +kernel
theorem dX11_init_84 : decode cX11_init 84 = .ok (.aload_n 0, 1) := by decide +kernel
theorem dX11_init_85 : decode cX11_init 85 = .ok (.new 54, 3) := by decide +kernel
theorem dX11_init_88 : decode cX11_init 88 = .ok (.dup, 1) := by decide +kernel
theorem dX11_init_89 : decode cX11_init 89 = .ok (.invokespecial 56, 3) := by decide +kernel
theorem dX11_init_92 : decode cX11_init 92 = .ok (.putfield 57, 3) := by decide +kernel
theorem dX11_init_95 : decode cX11_init 95 = .ok (.aload_n 0, 1) := by decide +kernel
theorem dX11_init_96 : decode cX11_init 96 = .ok (.new 61, 3) := by decide +kernel
theorem dX11_init_99 : decode cX11_init 99 = .ok (.dup, 1) := by decide +kernel
theorem dX11_init_100 : decode cX11_init 100 = .ok (.invokespecial 63, 3) := by decide +kernel
theorem dX11_init_103 : decode cX11_init 103 = .ok (.putfield 64, 3) := by decide +kernel
theorem dX11_init_106 : decode cX11_init 106 = .ok (.aload_n 0, 1) := by decide +kernel
theorem dX11_init_107 : decode cX11_init 107 = .ok (.new 68, 3) := by decide +kernel
theorem dX11_init_110 : decode cX11_init 110 = .ok (.dup, 1) := by decide +kernel
theorem dX11_init_111 : decode cX11_init 111 = .ok (.invokespecial 70, 3) := by decide +kernel
theorem dX11_init_114 : decode cX11_init 114 = .ok (.putfield 71, 3) := by decide +kernel
theorem dX11_init_117 : decode cX11_init 117 = .ok (.aload_n 0, 1) := by decide +kernel
theorem dX11_init_118 : decode cX11_init 118 = .ok (.new 75, 3) := by decide +kernel
theorem dX11_init_121 : decode cX11_init 121 = .ok (.dup, 1) := by decide +kernel
theorem dX11_init_122 : decode cX11_init 122 = .ok (.invokespecial 77, 3) := by decide +kernel
theorem dX11_init_125 : decode cX11_init 125 = .ok (.putfield 78, 3) := by decide +kernel
theorem dX11_init_128 : decode cX11_init 128 = .ok (.aload_n 0, 1) := by decide +kernel
theorem dX11_init_129 : decode cX11_init 129 = .ok (.iconst 0, 1) := by decide +kernel
theorem dX11_init_130 : decode cX11_init 130 = .ok (.putfield 82, 3) := by decide +kernel
theorem dX11_init_133 : decode cX11_init 133 = .ok (.aload_n 0, 1) := by decide +kernel
theorem dX11_init_134 : decode cX11_init 134 = .ok (.lconst 0, 1) := by decide +kernel
theorem dX11_init_135 : decode cX11_init 135 = .ok (.putfield 85, 3) := by decide +kernel
theorem dX11_init_138 : decode cX11_init 138 = .ok (.aload_n 0, 1) := by decide +kernel
theorem dX11_init_139 : decode cX11_init 139 = .ok (.lconst 1, 1) := by decide +kernel
theorem dX11_init_140 : decode cX11_init 140 = .ok (.putfield 89, 3) := by decide +kernel
theorem dX11_init_143 : decode cX11_init 143 = .ok (.aload_n 0, 1) := by decide +kernel
theorem dX11_init_144 : decode cX11_init 144 = .ok (.iconst (-1), 1) := by decide +kernel
theorem dX11_init_145 : decode cX11_init 145 = .ok (.putfield 92, 3) := by decide +kernel
theorem dX11_init_148 : decode cX11_init 148 = .ok (.aload_n 0, 1) := by decide +kernel
theorem dX11_init_149 : decode cX11_init 149 = .ok (.iconst (-1), 1) := by decide +kernel
theorem dX11_init_150 : decode cX11_init 150 = .ok (.putfield 95, 3) := by decide +kernel
theorem dX11_init_153 : decode cX11_init 153 = .ok (.aload_n 0, 1) := by decide +kernel
theorem dX11_init_154 : decode cX11_init 154 = .ok (.iconst 0, 1) := by decide +kernel
theorem dX11_init_155 : decode cX11_init 155 = .ok (.putfield 98, 3) := by decide +kernel
theorem dX11_init_158 : decode cX11_init 158 = .ok (.aload_n 0, 1) := by decide +kernel
theorem dX11_init_159 : decode cX11_init 159 = .ok (.iconst 0, 1) := by decide +kernel
theorem dX11_init_160 : decode cX11_init 160 = .ok (.putfield 101, 3) := by decide +kernel
theorem dX11_init_163 : decode cX11_init 163 = .ok (.iconst 0, 1) := by decide +kernel
theorem dX11_init_164 : decode cX11_init 164 = .ok (.istore_n 1, 1) := by decide +kernel
theorem dX11_init_165 : decode cX11_init 165 = .ok (.iload_n 1, 1) := by decide +kernel
theorem dX11_init_166 : decode cX11_init 166 = .ok (.aload_n 0, 1) := by decide +kernel
theorem dX11_init_167 : decode cX11_init 167 = .ok (.getfield 19, 3) := by decide +kernel
theorem dX11_init_170 : decode cX11_init 170 = .ok (.arraylength, 1) := by decide +kernel
theorem dX11_init_171 : decode cX11_init 171 = .ok (.if_icmp .ge 22, 3) := by decide +kernel
theorem dX11_init_174 : decode cX11_init 174 = .ok (.aload_n 0, 1) := by decide +kernel
theorem dX11_init_175 : decode cX11_init 175 = .ok (.getfield 19, 3) := by decide +kernel
theorem dX11_init_178 : decode cX11_init 178 = .ok (.iload_n 1, 1) := by decide +kernel
theorem dX11_init_179 : decode cX11_init 179 = .ok (.new 7, 3) := by decide +kernel
theorem dX11_init_182 : decode cX11_init 182 = .ok (.dup, 1) := by decide +kernel
theorem dX11_init_183 : decode cX11_init 183 = .ok (.invokespecial 9, 3) := by decide +kernel
theorem dX11_init_186 : decode cX11_init 186 = .ok (.aastore, 1) := by decide +kernel
theorem dX11_init_187 : decode cX11_init 187 = .ok (.iinc 1 1, 3) := by decide +kernel
theorem dX11_init_190 : decode cX11_init 190 = .ok (.goto (-25), 3) := by decide +kernel
theorem dX11_init_193 : decode cX11_init 193 = .ok (.iconst 0, 1) := by decide +kernel
theorem dX11_init_194 : decode cX11_init 194 = .ok (.istore_n 1, 1) := by decide +kernel
theorem dX11_init_195 : decode cX11_init 195 = .ok (.iload_n 1, 1) := by decide +kernel
theorem dX11_init_196 : decode cX11_init 196 = .ok (.aload_n 0, 1) := by decide +kernel
theorem dX11_init_197 : decode cX11_init 197 = .ok (.getfield 29, 3) := by decide +kernel
theorem dX11_init_200 : decode cX11_init 200 = .ok (.arraylength, 1) := by decide +kernel
theorem dX11_init_201 : decode cX11_init 201 = .ok (.if_icmp .ge 22, 3) := by decide +kernel
theorem dX11_init_204 : decode cX11_init 204 = .ok (.aload_n 0, 1) := by decide +kernel
theorem dX11_init_205 : decode cX11_init 205 = .ok (.getfield 29, 3) := by decide +kernel
theorem dX11_init_208 : decode cX11_init 208 = .ok (.iload_n 1, 1) := by decide +kernel
theorem dX11_init_209 : decode cX11_init 209 = .ok (.new 27, 3) := by decide +kernel
theorem dX11_init_212 : decode cX11_init 212 = .ok (.dup, 1) := by decide +kernel
theorem dX11_init_213 : decode cX11_init 213 = .ok (.invokespecial 33, 3) := by decide +kernel
theorem dX11_init_216 : decode cX11_init 216 = .ok (.aastore, 1) := by decide +kernel
theorem dX11_init_217 : decode cX11_init 217 = .ok (.iinc 1 1, 3) := by decide +kernel
theorem dX11_init_220 : decode cX11_init 220 = .ok (.goto (-25), 3) := by decide +kernel
theorem dX11_init_223 : decode cX11_init 223 = .ok (.return_, 1) := by decide +kernel
theorem dX11_status_0 : decode cX11_status 0 = .ok (.aload_n 0, 1) := by decide +kernel
theorem dX11_status_1 : decode cX11_status 1 = .ok (.getfield 82, 3) := by decide +kernel
theorem dX11_status_4 : decode cX11_status 4 = .ok (.ireturn, 1) := by decide +kernel
theorem dX11_top_0 : decode cX11_top 0 = .ok (.aload_n 0, 1) := by decide +kernel
theorem dX11_top_1 : decode cX11_top 1 = .ok (.getfield 85, 3) := by decide +kernel
theorem dX11_top_4 : decode cX11_top 4 = .ok (.lreturn, 1) := by decide +kernel
theorem dX11_bottom_0 : decode cX11_bottom 0 = .ok (.aload_n 0, 1) := by decide +kernel
theorem dX11_bottom_1 : decode cX11_bottom 1 = .ok (.getfield 89, 3) := by decide +kernel
theorem dX11_bottom_4 : decode cX11_bottom 4 = .ok (.lreturn, 1) := by decide +kernel
set_option maxRecDepth 20000 in
theorem ggX11_tray_X11_within : GoodIn wsX11_tray wsX11_within := goodIn_r _ [4] (by decide +kernel) (by decide +kernel)
set_option maxRecDepth 20000 in
theorem gX11_tray_X11_within : GoodIn wsX11_tray (va_wsS RX11 104 yX11_within wsX11_within) := goodIn_app (goodIn_of _ (by decide +kernel)) ggX11_tray_X11_within
set_option maxRecDepth 20000 in
theorem ggX11_tray_X11_denied : GoodIn wsX11_tray wsX11_denied := goodIn_r _ [8, 9, 28, 29, 30, 31, 32, 33, 34, 35, 36, 37, 38, 39, 40, 41, 42, 43, 44, 45, 46] (by decide +kernel) (by decide +kernel)
set_option maxRecDepth 20000 in
theorem gX11_tray_X11_denied : GoodIn wsX11_tray (wsV RX11 108 RX11 yX11_denied wsX11_denied) := goodIn_app (goodIn_of _ (by decide +kernel)) ggX11_tray_X11_denied
set_option maxRecDepth 20000 in
theorem ggX11_tray_X11_trayAt : GoodIn wsX11_tray wsX11_trayAt := goodIn_r _ [13, 14, 15, 1, 2, 3, 4, 28, 29, 30, 31, 32, 33, 34, 35, 36, 37, 38, 39, 40, 41, 42, 43, 44, 45, 46] (by decide +kernel) (by decide +kernel)
set_option maxRecDepth 20000 in
theorem gX11_tray_X11_trayAt : GoodIn wsX11_tray (wsV RX11 112 RX11 yX11_trayAt wsX11_trayAt) := goodIn_app (goodIn_of _ (by decide +kernel)) ggX11_tray_X11_trayAt
set_option maxRecDepth 20000 in
theorem ggX11_tray_X8_renew : GoodIn wsX11_tray wsX8_renew := goodIn_r _ [20, 21, 22, 23, 47, 48, 49] (by decide +kernel) (by decide +kernel)
set_option maxRecDepth 20000 in
theorem gX11_tray_X8_renew : GoodIn wsX11_tray (wsV RX11 116 RX8 yX8_renew wsX8_renew) := goodIn_app (goodIn_of _ (by decide +kernel)) ggX11_tray_X8_renew
set_option maxRecDepth 20000 in
theorem ggX11_tray_X11_done : GoodIn wsX11_tray wsX11_done := goodIn_r _ [27, 9, 28, 29, 30, 31, 32, 33, 34, 35, 36, 37, 38, 39, 40, 41, 42, 43, 44, 45, 46] (by decide +kernel) (by decide +kernel)
set_option maxRecDepth 20000 in
theorem gX11_tray_X11_done : GoodIn wsX11_tray (wsV RX11 120 RX11 yX11_done wsX11_done) := goodIn_app (goodIn_of _ (by decide +kernel)) ggX11_tray_X11_done
theorem dX11_tray_0 : decode cX11_tray 0 = .ok (.iload_n 1, 1) := by decide +kernel
theorem dX11_tray_1 : decode cX11_tray 1 = .ok (.iconst 4, 1) := by decide +kernel
theorem dX11_tray_2 : decode cX11_tray 2 = .ok (.invokestatic 104, 3) := by decide +kernel
theorem dX11_tray_5 : decode cX11_tray 5 = .ok (.ifCond .eq 20, 3) := by decide +kernel
theorem dX11_tray_8 : decode cX11_tray 8 = .ok (.iload_n 2, 1) := by decide +kernel
theorem dX11_tray_9 : decode cX11_tray 9 = .ok (.iconst 4, 1) := by decide +kernel
theorem dX11_tray_10 : decode cX11_tray 10 = .ok (.invokestatic 104, 3) := by decide +kernel
theorem dX11_tray_13 : decode cX11_tray 13 = .ok (.ifCond .eq 12, 3) := by decide +kernel
theorem dX11_tray_16 : decode cX11_tray 16 = .ok (.iload_n 3, 1) := by decide +kernel
theorem dX11_tray_17 : decode cX11_tray 17 = .ok (.bipush 61, 2) := by decide +kernel
theorem dX11_tray_19 : decode cX11_tray 19 = .ok (.invokestatic 104, 3) := by decide +kernel
theorem dX11_tray_22 : decode cX11_tray 22 = .ok (.ifCond .ne 9, 3) := by decide +kernel
theorem dX11_tray_25 : decode cX11_tray 25 = .ok (.aload_n 0, 1) := by decide +kernel
theorem dX11_tray_26 : decode cX11_tray 26 = .ok (.iconst 1, 1) := by decide +kernel
theorem dX11_tray_27 : decode cX11_tray 27 = .ok (.invokevirtual 108, 3) := by decide +kernel
theorem dX11_tray_30 : decode cX11_tray 30 = .ok (.ireturn, 1) := by decide +kernel
theorem dX11_tray_31 : decode cX11_tray 31 = .ok (.aload_n 0, 1) := by decide +kernel
theorem dX11_tray_32 : decode cX11_tray 32 = .ok (.iload_n 1, 1) := by decide +kernel
theorem dX11_tray_33 : decode cX11_tray 33 = .ok (.invokevirtual 112, 3) := by decide +kernel
theorem dX11_tray_36 : decode cX11_tray 36 = .ok (.iload_n 2, 1) := by decide +kernel
theorem dX11_tray_37 : decode cX11_tray 37 = .ok (.iload_n 3, 1) := by decide +kernel
theorem dX11_tray_38 : decode cX11_tray 38 = .ok (.invokevirtual 116, 3) := by decide +kernel
theorem dX11_tray_41 : decode cX11_tray 41 = .ok (.aload_n 0, 1) := by decide +kernel
theorem dX11_tray_42 : decode cX11_tray 42 = .ok (.invokevirtual 120, 3) := by decide +kernel
theorem dX11_tray_45 : decode cX11_tray 45 = .ok (.ireturn, 1) := by decide +kernel
set_option maxRecDepth 20000 in
theorem ggX11_write_X11_placeRefusal : GoodIn wsX11_write wsX11_placeRefusal := goodIn_r _ [5, 6, 7, 4, 8, 9, 10, 11, 12, 13, 14, 15, 16, 17, 18, 19, 20, 21, 22, 23, 24, 25, 44, 45, 46, 47, 48, 49, 50, 51, 52, 53, 54, 55, 56, 57, 58, 59, 60, 61, 62, 63, 64, 65] (by decide +kernel) (by decide +kernel)
set_option maxRecDepth 20000 in
theorem gX11_write_X11_placeRefusal : GoodIn wsX11_write (wsV RX11 124 RX11 yX11_placeRefusal wsX11_placeRefusal) := goodIn_app (goodIn_of _ (by decide +kernel)) ggX11_write_X11_placeRefusal
set_option maxRecDepth 20000 in
theorem ggX11_write_X11_denied : GoodIn wsX11_write wsX11_denied := goodIn_r _ [29, 30, 44, 45, 46, 47, 48, 49, 50, 51, 52, 53, 54, 55, 56, 57, 58, 59, 60, 61, 62] (by decide +kernel) (by decide +kernel)
set_option maxRecDepth 20000 in
theorem gX11_write_X11_denied : GoodIn wsX11_write (wsV RX11 108 RX11 yX11_denied wsX11_denied) := goodIn_app (goodIn_of _ (by decide +kernel)) ggX11_write_X11_denied
set_option maxRecDepth 20000 in
theorem ggX11_write_X11_trayAt : GoodIn wsX11_write wsX11_trayAt := goodIn_r _ [12, 13, 14, 6, 7, 4, 8, 44, 45, 46, 47, 48, 49, 50, 51, 52, 53, 54, 55, 56, 57, 58, 59, 60, 61, 62] (by decide +kernel) (by decide +kernel)
set_option maxRecDepth 20000 in
theorem gX11_write_X11_trayAt : GoodIn wsX11_write (wsV RX11 112 RX11 yX11_trayAt wsX11_trayAt) := goodIn_app (goodIn_of _ (by decide +kernel)) ggX11_write_X11_trayAt
set_option maxRecDepth 20000 in
theorem ggX11_write_X8_putNumber : GoodIn wsX11_write wsX8_putNumber := goodIn_r _ [34, 35, 7, 4, 8, 36, 37, 38, 18, 39, 20, 63, 64, 65] (by decide +kernel) (by decide +kernel)
set_option maxRecDepth 20000 in
theorem gX11_write_X8_putNumber : GoodIn wsX11_write (wsV RX11 128 RX8 yX8_putNumber wsX8_putNumber) := goodIn_app (goodIn_of _ (by decide +kernel)) ggX11_write_X8_putNumber
set_option maxRecDepth 20000 in
theorem ggX11_write_X11_done : GoodIn wsX11_write wsX11_done := goodIn_r _ [43, 30, 44, 45, 46, 47, 48, 49, 50, 51, 52, 53, 54, 55, 56, 57, 58, 59, 60, 61, 62] (by decide +kernel) (by decide +kernel)
set_option maxRecDepth 20000 in
theorem gX11_write_X11_done : GoodIn wsX11_write (wsV RX11 120 RX11 yX11_done wsX11_done) := goodIn_app (goodIn_of _ (by decide +kernel)) ggX11_write_X11_done
theorem dX11_write_0 : decode cX11_write 0 = .ok (.aload_n 0, 1) := by decide +kernel
theorem dX11_write_1 : decode cX11_write 1 = .ok (.iload_n 1, 1) := by decide +kernel
theorem dX11_write_2 : decode cX11_write 2 = .ok (.iload_n 2, 1) := by decide +kernel
theorem dX11_write_3 : decode cX11_write 3 = .ok (.invokevirtual 124, 3) := by decide +kernel
theorem dX11_write_6 : decode cX11_write 6 = .ok (.istore 5, 2) := by decide +kernel
theorem dX11_write_8 : decode cX11_write 8 = .ok (.iload 5, 2) := by decide +kernel
theorem dX11_write_10 : decode cX11_write 10 = .ok (.ifCond .eq 10, 3) := by decide +kernel
theorem dX11_write_13 : decode cX11_write 13 = .ok (.aload_n 0, 1) := by decide +kernel
theorem dX11_write_14 : decode cX11_write 14 = .ok (.iload 5, 2) := by decide +kernel
theorem dX11_write_16 : decode cX11_write 16 = .ok (.invokevirtual 108, 3) := by decide +kernel
theorem dX11_write_19 : decode cX11_write 19 = .ok (.ireturn, 1) := by decide +kernel
theorem dX11_write_20 : decode cX11_write 20 = .ok (.aload_n 0, 1) := by decide +kernel
theorem dX11_write_21 : decode cX11_write 21 = .ok (.iload_n 1, 1) := by decide +kernel
theorem dX11_write_22 : decode cX11_write 22 = .ok (.invokevirtual 112, 3) := by decide +kernel
theorem dX11_write_25 : decode cX11_write 25 = .ok (.iload_n 2, 1) := by decide +kernel
theorem dX11_write_26 : decode cX11_write 26 = .ok (.lload_n 3, 1) := by decide +kernel
theorem dX11_write_27 : decode cX11_write 27 = .ok (.invokevirtual 128, 3) := by decide +kernel
theorem dX11_write_30 : decode cX11_write 30 = .ok (.aload_n 0, 1) := by decide +kernel
theorem dX11_write_31 : decode cX11_write 31 = .ok (.invokevirtual 120, 3) := by decide +kernel
theorem dX11_write_34 : decode cX11_write 34 = .ok (.ireturn, 1) := by decide +kernel
set_option maxRecDepth 20000 in
theorem ggX11_read_X11_placeRefusal : GoodIn wsX11_read wsX11_placeRefusal := goodIn_r _ [6, 7, 8, 5, 9, 10, 11, 12, 13, 14, 15, 16, 17, 18, 19, 20, 21, 22, 23, 24, 25, 26, 36, 37, 38, 39, 40, 41, 42, 43, 44, 45, 46, 47, 48, 49, 50, 51, 52, 53, 54, 55, 56, 57] (by decide +kernel) (by decide +kernel)
set_option maxRecDepth 20000 in
theorem gX11_read_X11_placeRefusal : GoodIn wsX11_read (wsV RX11 124 RX11 yX11_placeRefusal wsX11_placeRefusal) := goodIn_app (goodIn_of _ (by decide +kernel)) ggX11_read_X11_placeRefusal
set_option maxRecDepth 20000 in
theorem ggX11_read_X11_refused : GoodIn wsX11_read wsX11_refused := goodIn_r _ [30, 1, 36, 37, 38, 39, 40, 41, 42, 43, 44, 45, 46, 47, 48, 49, 50, 51, 52, 53, 54] (by decide +kernel) (by decide +kernel)
set_option maxRecDepth 20000 in
theorem gX11_read_X11_refused : GoodIn wsX11_read (wsV RX11 132 RX11 yX11_refused wsX11_refused) := goodIn_app (goodIn_of _ (by decide +kernel)) ggX11_read_X11_refused
set_option maxRecDepth 20000 in
theorem ggX11_read_X11_trayAt : GoodIn wsX11_read wsX11_trayAt := goodIn_r _ [13, 14, 15, 7, 8, 5, 9, 36, 37, 38, 39, 40, 41, 42, 43, 44, 45, 46, 47, 48, 49, 50, 51, 52, 53, 54] (by decide +kernel) (by decide +kernel)
set_option maxRecDepth 20000 in
theorem gX11_read_X11_trayAt : GoodIn wsX11_read (wsV RX11 112 RX11 yX11_trayAt wsX11_trayAt) := goodIn_app (goodIn_of _ (by decide +kernel)) ggX11_read_X11_trayAt
set_option maxRecDepth 20000 in
theorem ggX11_read_X8_numberAt : GoodIn wsX11_read wsX8_numberAt := goodIn_r _ [34, 35, 8, 5, 9, 55, 56, 57] (by decide +kernel) (by decide +kernel)
set_option maxRecDepth 20000 in
theorem gX11_read_X8_numberAt : GoodIn wsX11_read (wsV RX11 136 RX8 yX8_numberAt wsX8_numberAt) := goodIn_app (goodIn_of _ (by decide +kernel)) ggX11_read_X8_numberAt
theorem dX11_read_0 : decode cX11_read 0 = .ok (.aload_n 0, 1) := by decide +kernel
theorem dX11_read_1 : decode cX11_read 1 = .ok (.iload_n 1, 1) := by decide +kernel
theorem dX11_read_2 : decode cX11_read 2 = .ok (.iload_n 2, 1) := by decide +kernel
theorem dX11_read_3 : decode cX11_read 3 = .ok (.invokevirtual 124, 3) := by decide +kernel
theorem dX11_read_6 : decode cX11_read 6 = .ok (.istore_n 3, 1) := by decide +kernel
theorem dX11_read_7 : decode cX11_read 7 = .ok (.iload_n 3, 1) := by decide +kernel
theorem dX11_read_8 : decode cX11_read 8 = .ok (.ifCond .eq 10, 3) := by decide +kernel
theorem dX11_read_11 : decode cX11_read 11 = .ok (.aload_n 0, 1) := by decide +kernel
theorem dX11_read_12 : decode cX11_read 12 = .ok (.iload_n 3, 1) := by decide +kernel
theorem dX11_read_13 : decode cX11_read 13 = .ok (.invokevirtual 132, 3) := by decide +kernel
theorem dX11_read_16 : decode cX11_read 16 = .ok (.i2l, 1) := by decide +kernel
theorem dX11_read_17 : decode cX11_read 17 = .ok (.lreturn, 1) := by decide +kernel
theorem dX11_read_18 : decode cX11_read 18 = .ok (.aload_n 0, 1) := by decide +kernel
theorem dX11_read_19 : decode cX11_read 19 = .ok (.iconst 0, 1) := by decide +kernel
theorem dX11_read_20 : decode cX11_read 20 = .ok (.putfield 82, 3) := by decide +kernel
theorem dX11_read_23 : decode cX11_read 23 = .ok (.aload_n 0, 1) := by decide +kernel
theorem dX11_read_24 : decode cX11_read 24 = .ok (.iload_n 1, 1) := by decide +kernel
theorem dX11_read_25 : decode cX11_read 25 = .ok (.invokevirtual 112, 3) := by decide +kernel
theorem dX11_read_28 : decode cX11_read 28 = .ok (.iload_n 2, 1) := by decide +kernel
theorem dX11_read_29 : decode cX11_read 29 = .ok (.invokevirtual 136, 3) := by decide +kernel
theorem dX11_read_32 : decode cX11_read 32 = .ok (.lreturn, 1) := by decide +kernel
set_option maxRecDepth 20000 in
theorem ggX11_pour_X11_within : GoodIn wsX11_pour wsX11_within := goodIn_r _ [5] (by decide +kernel) (by decide +kernel)
set_option maxRecDepth 20000 in
theorem gX11_pour_X11_within : GoodIn wsX11_pour (va_wsS RX11 104 yX11_within wsX11_within) := goodIn_app (goodIn_of _ (by decide +kernel)) ggX11_pour_X11_within
set_option maxRecDepth 20000 in
theorem ggX11_pour_X11_denied : GoodIn wsX11_pour wsX11_denied := goodIn_r _ [9, 10, 52, 53, 54, 55, 56, 57, 58, 59, 60, 61, 62, 63, 64, 65, 66, 67, 68, 69, 70] (by decide +kernel) (by decide +kernel)
set_option maxRecDepth 20000 in
theorem gX11_pour_X11_denied : GoodIn wsX11_pour (wsV RX11 108 RX11 yX11_denied wsX11_denied) := goodIn_app (goodIn_of _ (by decide +kernel)) ggX11_pour_X11_denied
set_option maxRecDepth 20000 in
theorem ggX11_pour_X11_trayAt : GoodIn wsX11_pour wsX11_trayAt := goodIn_r _ [14, 15, 16, 2, 3, 4, 5, 52, 53, 54, 55, 56, 57, 58, 59, 60, 61, 62, 63, 64, 65, 66, 67, 68, 69, 70] (by decide +kernel) (by decide +kernel)
set_option maxRecDepth 20000 in
theorem gX11_pour_X11_trayAt : GoodIn wsX11_pour (wsV RX11 112 RX11 yX11_trayAt wsX11_trayAt) := goodIn_app (goodIn_of _ (by decide +kernel)) ggX11_pour_X11_trayAt
set_option maxRecDepth 20000 in
theorem ggX11_pour_X8_isMissing : GoodIn wsX11_pour wsX8_isMissing := goodIn_r _ [21, 22, 49, 50, 51] (by decide +kernel) (by decide +kernel)
set_option maxRecDepth 20000 in
theorem gX11_pour_X8_isMissing : GoodIn wsX11_pour (wsV RX11 140 RX8 yX8_isMissing wsX8_isMissing) := goodIn_app (goodIn_of _ (by decide +kernel)) ggX11_pour_X8_isMissing
set_option maxRecDepth 20000 in
theorem ggX11_pour_X8_hasRun : GoodIn wsX11_pour wsX8_hasRun := goodIn_r _ [26, 27, 49, 50, 51] (by decide +kernel) (by decide +kernel)
set_option maxRecDepth 20000 in
theorem gX11_pour_X8_hasRun : GoodIn wsX11_pour (wsV RX11 146 RX8 yX8_hasRun wsX8_hasRun) := goodIn_app (goodIn_of _ (by decide +kernel)) ggX11_pour_X8_hasRun
set_option maxRecDepth 20000 in
theorem ggX11_pour_X8_takeRun : GoodIn wsX11_pour wsX8_takeRun := goodIn_r _ [31, 32, 33, 34, 20, 35, 36, 3, 4, 5, 37, 38, 39, 40, 41, 42, 43, 44, 22, 49, 50, 51] (by decide +kernel) (by decide +kernel)
set_option maxRecDepth 20000 in
theorem gX11_pour_X8_takeRun : GoodIn wsX11_pour (wsV RX11 149 RX8 yX8_takeRun wsX8_takeRun) := goodIn_app (goodIn_of _ (by decide +kernel)) ggX11_pour_X8_takeRun
set_option maxRecDepth 20000 in
theorem ggX11_pour_X11_done : GoodIn wsX11_pour wsX11_done := goodIn_r _ [48, 10, 52, 53, 54, 55, 56, 57, 58, 59, 60, 61, 62, 63, 64, 65, 66, 67, 68, 69, 70] (by decide +kernel) (by decide +kernel)
set_option maxRecDepth 20000 in
theorem gX11_pour_X11_done : GoodIn wsX11_pour (wsV RX11 120 RX11 yX11_done wsX11_done) := goodIn_app (goodIn_of _ (by decide +kernel)) ggX11_pour_X11_done
theorem dX11_pour_0 : decode cX11_pour 0 = .ok (.iload_n 1, 1) := by decide +kernel
theorem dX11_pour_1 : decode cX11_pour 1 = .ok (.iconst 4, 1) := by decide +kernel
theorem dX11_pour_2 : decode cX11_pour 2 = .ok (.invokestatic 104, 3) := by decide +kernel
theorem dX11_pour_5 : decode cX11_pour 5 = .ok (.ifCond .eq 25, 3) := by decide +kernel
theorem dX11_pour_8 : decode cX11_pour 8 = .ok (.iload_n 3, 1) := by decide +kernel
theorem dX11_pour_9 : decode cX11_pour 9 = .ok (.iconst 4, 1) := by decide +kernel
theorem dX11_pour_10 : decode cX11_pour 10 = .ok (.invokestatic 104, 3) := by decide +kernel
theorem dX11_pour_13 : decode cX11_pour 13 = .ok (.ifCond .eq 17, 3) := by decide +kernel
theorem dX11_pour_16 : decode cX11_pour 16 = .ok (.iload_n 2, 1) := by decide +kernel
theorem dX11_pour_17 : decode cX11_pour 17 = .ok (.ifCond .lt 13, 3) := by decide +kernel
theorem dX11_pour_20 : decode cX11_pour 20 = .ok (.iload 4, 2) := by decide +kernel
theorem dX11_pour_22 : decode cX11_pour 22 = .ok (.ifCond .lt 8, 3) := by decide +kernel
theorem dX11_pour_25 : decode cX11_pour 25 = .ok (.iload 5, 2) := by decide +kernel
theorem dX11_pour_27 : decode cX11_pour 27 = .ok (.ifCond .ge 9, 3) := by decide +kernel
theorem dX11_pour_30 : decode cX11_pour 30 = .ok (.aload_n 0, 1) := by decide +kernel
theorem dX11_pour_31 : decode cX11_pour 31 = .ok (.iconst 1, 1) := by decide +kernel
theorem dX11_pour_32 : decode cX11_pour 32 = .ok (.invokevirtual 108, 3) := by decide +kernel
theorem dX11_pour_35 : decode cX11_pour 35 = .ok (.ireturn, 1) := by decide +kernel
theorem dX11_pour_36 : decode cX11_pour 36 = .ok (.aload_n 0, 1) := by decide +kernel
theorem dX11_pour_37 : decode cX11_pour 37 = .ok (.iload_n 1, 1) := by decide +kernel
theorem dX11_pour_38 : decode cX11_pour 38 = .ok (.invokevirtual 112, 3) := by decide +kernel
theorem dX11_pour_41 : decode cX11_pour 41 = .ok (.astore 6, 2) := by decide +kernel
theorem dX11_pour_43 : decode cX11_pour 43 = .ok (.aload_n 0, 1) := by decide +kernel
theorem dX11_pour_44 : decode cX11_pour 44 = .ok (.iload_n 3, 1) := by decide +kernel
theorem dX11_pour_45 : decode cX11_pour 45 = .ok (.invokevirtual 112, 3) := by decide +kernel
theorem dX11_pour_48 : decode cX11_pour 48 = .ok (.astore 7, 2) := by decide +kernel
theorem dX11_pour_50 : decode cX11_pour 50 = .ok (.aload 6, 2) := by decide +kernel
theorem dX11_pour_52 : decode cX11_pour 52 = .ok (.invokevirtual 140, 3) := by decide +kernel
theorem dX11_pour_55 : decode cX11_pour 55 = .ok (.ifCond .ne 11, 3) := by decide +kernel
theorem dX11_pour_58 : decode cX11_pour 58 = .ok (.aload 7, 2) := by decide +kernel
theorem dX11_pour_60 : decode cX11_pour 60 = .ok (.invokevirtual 140, 3) := by decide +kernel
theorem dX11_pour_63 : decode cX11_pour 63 = .ok (.ifCond .eq 9, 3) := by decide +kernel
theorem dX11_pour_66 : decode cX11_pour 66 = .ok (.aload_n 0, 1) := by decide +kernel
theorem dX11_pour_67 : decode cX11_pour 67 = .ok (.iconst 2, 1) := by decide +kernel
theorem dX11_pour_68 : decode cX11_pour 68 = .ok (.invokevirtual 108, 3) := by decide +kernel
theorem dX11_pour_71 : decode cX11_pour 71 = .ok (.ireturn, 1) := by decide +kernel
theorem dX11_pour_72 : decode cX11_pour 72 = .ok (.aload 6, 2) := by decide +kernel
theorem dX11_pour_74 : decode cX11_pour 74 = .ok (.getfield 143, 3) := by decide +kernel
theorem dX11_pour_77 : decode cX11_pour 77 = .ok (.aload 7, 2) := by decide +kernel
theorem dX11_pour_79 : decode cX11_pour 79 = .ok (.getfield 143, 3) := by decide +kernel
theorem dX11_pour_82 : decode cX11_pour 82 = .ok (.if_icmp .eq 10, 3) := by decide +kernel
theorem dX11_pour_85 : decode cX11_pour 85 = .ok (.aload_n 0, 1) := by decide +kernel
theorem dX11_pour_86 : decode cX11_pour 86 = .ok (.bipush 8, 2) := by decide +kernel
theorem dX11_pour_88 : decode cX11_pour 88 = .ok (.invokevirtual 108, 3) := by decide +kernel
theorem dX11_pour_91 : decode cX11_pour 91 = .ok (.ireturn, 1) := by decide +kernel
theorem dX11_pour_92 : decode cX11_pour 92 = .ok (.aload 6, 2) := by decide +kernel
theorem dX11_pour_94 : decode cX11_pour 94 = .ok (.iload_n 2, 1) := by decide +kernel
theorem dX11_pour_95 : decode cX11_pour 95 = .ok (.iload 5, 2) := by decide +kernel
theorem dX11_pour_97 : decode cX11_pour 97 = .ok (.invokevirtual 146, 3) := by decide +kernel
theorem dX11_pour_100 : decode cX11_pour 100 = .ok (.ifCond .eq 15, 3) := by decide +kernel
theorem dX11_pour_103 : decode cX11_pour 103 = .ok (.aload 7, 2) := by decide +kernel
theorem dX11_pour_105 : decode cX11_pour 105 = .ok (.iload 4, 2) := by decide +kernel
theorem dX11_pour_107 : decode cX11_pour 107 = .ok (.iload 5, 2) := by decide +kernel
theorem dX11_pour_109 : decode cX11_pour 109 = .ok (.invokevirtual 146, 3) := by decide +kernel
theorem dX11_pour_112 : decode cX11_pour 112 = .ok (.ifCond .ne 9, 3) := by decide +kernel
theorem dX11_pour_115 : decode cX11_pour 115 = .ok (.aload_n 0, 1) := by decide +kernel
theorem dX11_pour_116 : decode cX11_pour 116 = .ok (.iconst 3, 1) := by decide +kernel
theorem dX11_pour_117 : decode cX11_pour 117 = .ok (.invokevirtual 108, 3) := by decide +kernel
theorem dX11_pour_120 : decode cX11_pour 120 = .ok (.ireturn, 1) := by decide +kernel
theorem dX11_pour_121 : decode cX11_pour 121 = .ok (.aload 7, 2) := by decide +kernel
theorem dX11_pour_123 : decode cX11_pour 123 = .ok (.aload 6, 2) := by decide +kernel
theorem dX11_pour_125 : decode cX11_pour 125 = .ok (.iload_n 2, 1) := by decide +kernel
theorem dX11_pour_126 : decode cX11_pour 126 = .ok (.iload 4, 2) := by decide +kernel
theorem dX11_pour_128 : decode cX11_pour 128 = .ok (.iload 5, 2) := by decide +kernel
theorem dX11_pour_130 : decode cX11_pour 130 = .ok (.invokevirtual 149, 3) := by decide +kernel
theorem dX11_pour_133 : decode cX11_pour 133 = .ok (.aload_n 0, 1) := by decide +kernel
theorem dX11_pour_134 : decode cX11_pour 134 = .ok (.invokevirtual 120, 3) := by decide +kernel
theorem dX11_pour_137 : decode cX11_pour 137 = .ok (.ireturn, 1) := by decide +kernel
set_option maxRecDepth 20000 in
theorem ggX11_feed_X7_hasRoom : GoodIn wsX11_feed wsX7_hasRoom := goodIn_r _ [7, 8, 9, 36, 37, 38, 39, 40, 41, 42, 43, 44, 45, 46] (by decide +kernel) (by decide +kernel)
set_option maxRecDepth 20000 in
theorem gX11_feed_X7_hasRoom : GoodIn wsX11_feed (wsV RX11 153 RX7 yX7_hasRoom wsX7_hasRoom) := goodIn_app (goodIn_of _ (by decide +kernel)) ggX11_feed_X7_hasRoom
set_option maxRecDepth 20000 in
theorem ggX11_feed_X7_addInt : GoodIn wsX11_feed wsX7_addInt := goodIn_r _ [13, 9, 8, 14, 15, 16, 36, 37, 38, 39, 40, 41, 42, 43, 44, 45, 46] (by decide +kernel) (by decide +kernel)
set_option maxRecDepth 20000 in
theorem gX11_feed_X7_addInt : GoodIn wsX11_feed (wsV RX11 156 RX7 yX7_addInt wsX7_addInt) := goodIn_app (goodIn_of _ (by decide +kernel)) ggX11_feed_X7_addInt
theorem dX11_feed_0 : decode cX11_feed 0 = .ok (.aload_n 0, 1) := by decide +kernel
theorem dX11_feed_1 : decode cX11_feed 1 = .ok (.getfield 41, 3) := by decide +kernel
theorem dX11_feed_4 : decode cX11_feed 4 = .ok (.bipush 20, 2) := by decide +kernel
theorem dX11_feed_6 : decode cX11_feed 6 = .ok (.invokevirtual 153, 3) := by decide +kernel
theorem dX11_feed_9 : decode cX11_feed 9 = .ok (.ifCond .ne 5, 3) := by decide +kernel
theorem dX11_feed_12 : decode cX11_feed 12 = .ok (.iconst (-1), 1) := by decide +kernel
theorem dX11_feed_13 : decode cX11_feed 13 = .ok (.ireturn, 1) := by decide +kernel
theorem dX11_feed_14 : decode cX11_feed 14 = .ok (.aload_n 0, 1) := by decide +kernel
theorem dX11_feed_15 : decode cX11_feed 15 = .ok (.getfield 41, 3) := by decide +kernel
theorem dX11_feed_18 : decode cX11_feed 18 = .ok (.iload_n 1, 1) := by decide +kernel
theorem dX11_feed_19 : decode cX11_feed 19 = .ok (.invokevirtual 156, 3) := by decide +kernel
theorem dX11_feed_22 : decode cX11_feed 22 = .ok (.aload_n 0, 1) := by decide +kernel
theorem dX11_feed_23 : decode cX11_feed 23 = .ok (.getfield 41, 3) := by decide +kernel
theorem dX11_feed_26 : decode cX11_feed 26 = .ok (.iload_n 2, 1) := by decide +kernel
theorem dX11_feed_27 : decode cX11_feed 27 = .ok (.invokevirtual 156, 3) := by decide +kernel
theorem dX11_feed_30 : decode cX11_feed 30 = .ok (.aload_n 0, 1) := by decide +kernel
theorem dX11_feed_31 : decode cX11_feed 31 = .ok (.getfield 41, 3) := by decide +kernel
theorem dX11_feed_34 : decode cX11_feed 34 = .ok (.iload_n 3, 1) := by decide +kernel
theorem dX11_feed_35 : decode cX11_feed 35 = .ok (.invokevirtual 156, 3) := by decide +kernel
theorem dX11_feed_38 : decode cX11_feed 38 = .ok (.aload_n 0, 1) := by decide +kernel
theorem dX11_feed_39 : decode cX11_feed 39 = .ok (.getfield 41, 3) := by decide +kernel
theorem dX11_feed_42 : decode cX11_feed 42 = .ok (.iload 4, 2) := by decide +kernel
theorem dX11_feed_44 : decode cX11_feed 44 = .ok (.invokevirtual 156, 3) := by decide +kernel
theorem dX11_feed_47 : decode cX11_feed 47 = .ok (.aload_n 0, 1) := by decide +kernel
theorem dX11_feed_48 : decode cX11_feed 48 = .ok (.getfield 41, 3) := by decide +kernel
theorem dX11_feed_51 : decode cX11_feed 51 = .ok (.iload 5, 2) := by decide +kernel
theorem dX11_feed_53 : decode cX11_feed 53 = .ok (.invokevirtual 156, 3) := by decide +kernel
theorem dX11_feed_56 : decode cX11_feed 56 = .ok (.aload_n 0, 1) := by decide +kernel
theorem dX11_feed_57 : decode cX11_feed 57 = .ok (.getfield 41, 3) := by decide +kernel
theorem dX11_feed_60 : decode cX11_feed 60 = .ok (.getfield 160, 3) := by decide +kernel
theorem dX11_feed_63 : decode cX11_feed 63 = .ok (.ireturn, 1) := by decide +kernel
set_option maxRecDepth 20000 in
theorem ggX11_court_X11_within : GoodIn wsX11_court wsX11_within := goodIn_r _ [9] (by decide +kernel) (by decide +kernel)
set_option maxRecDepth 20000 in
theorem gX11_court_X11_within : GoodIn wsX11_court (va_wsS RX11 104 yX11_within wsX11_within) := goodIn_app (goodIn_of _ (by decide +kernel)) ggX11_court_X11_within
set_option maxRecDepth 20000 in
theorem ggX11_court_X11_refused : GoodIn wsX11_court wsX11_refused := goodIn_r _ [13, 14, 249, 250, 251, 252, 253, 254, 255, 256, 257, 258, 259, 260, 261, 262, 263, 264, 265, 266, 267] (by decide +kernel) (by decide +kernel)
set_option maxRecDepth 20000 in
theorem gX11_court_X11_refused : GoodIn wsX11_court (wsV RX11 132 RX11 yX11_refused wsX11_refused) := goodIn_app (goodIn_of _ (by decide +kernel)) ggX11_court_X11_refused
set_option maxRecDepth 20000 in
theorem ggX11_court_X4_readCourt : GoodIn wsX11_court wsX4_readCourt := goodIn_r _ [19, 20, 21, 22, 23, 24, 25, 26, 27, 28, 29, 30, 31, 32, 33, 34, 35, 36, 37, 38, 39, 40, 41, 42, 43, 44, 45, 46, 47, 48, 49, 50, 51, 52, 53, 54, 55, 56, 57, 58, 59, 60, 61, 62, 63, 64, 65, 66, 67, 68, 69, 70, 71, 72, 73, 74, 75, 76, 77, 78, 79, 80, 81, 82, 83, 84, 18, 85, 86, 87, 88, 89, 90, 91, 92, 93, 94, 95, 96, 97, 98, 8, 99, 100, 101, 102, 103, 104, 105, 106, 107, 108, 109, 110, 111, 112, 113, 114, 115, 116, 117, 118, 119, 7, 9, 120, 121, 122, 123, 124, 125, 126, 127, 128, 129, 130, 131, 132, 133, 134, 135, 136, 137, 138, 139, 140, 141, 142, 143, 144, 145, 146, 147, 148, 149, 150, 151, 152, 153, 154, 155, 156, 157, 158, 159, 160, 161, 162, 163, 164, 165, 166, 167, 168, 169, 170, 171, 172, 173, 174, 175, 176, 177, 178, 179, 180, 181, 182, 183, 184, 185, 186, 187, 188, 189, 190, 191, 192, 193, 194, 195, 196, 197, 198, 199, 200, 201, 202, 203, 204, 205, 206, 207, 208, 209, 210, 211, 212, 213, 214, 215, 216, 217, 218, 219, 220, 221, 222, 223, 224, 225, 226, 227, 228, 229, 230, 231, 232, 233, 234, 235, 279, 280, 281, 282, 283, 284, 268, 269, 270, 271, 272, 273, 274, 275, 276, 277, 278, 285, 286, 287, 288, 289, 290, 291, 292, 293, 294, 295, 296, 297, 298, 299, 300, 301, 302, 303, 304, 305, 306, 307, 308, 309, 310, 311, 312, 313, 314, 315] (by decide +kernel) (by decide +kernel)
set_option maxRecDepth 20000 in
theorem gX11_court_X4_readCourt : GoodIn wsX11_court (wsV RX11 163 RX4 yX4_readCourt wsX4_readCourt) := goodIn_app (goodIn_of _ (by decide +kernel)) ggX11_court_X4_readCourt
set_option maxRecDepth 20000 in
theorem ggX11_court_X0_countOf : GoodIn wsX11_court wsX0_countOf := goodIn_r _ [97, 27, 285, 286, 287, 288, 289, 290, 291, 292, 293, 294, 295, 296, 297, 298] (by decide +kernel) (by decide +kernel)
set_option maxRecDepth 20000 in
theorem gX11_court_X0_countOf : GoodIn wsX11_court (wsV RX11 167 RX0 yX0_countOf wsX0_countOf) := goodIn_app (goodIn_of _ (by decide +kernel)) ggX11_court_X0_countOf
set_option maxRecDepth 20000 in
theorem ggX11_court_X11_textRead : GoodIn wsX11_court wsX11_textRead := goodIn_r _ [240, 1, 2, 241, 242, 243, 244, 245, 246, 247, 8, 248, 14, 10, 11, 12, 13, 249, 250, 251, 252, 253, 254, 255, 256, 257, 258, 259, 260, 261, 262, 263, 264, 265, 266, 267, 268, 269, 270, 271, 272, 273, 274, 275, 276, 277, 278] (by decide +kernel) (by decide +kernel)
set_option maxRecDepth 20000 in
theorem gX11_court_X11_textRead : GoodIn wsX11_court (wsV RX11 170 RX11 yX11_textRead wsX11_textRead) := goodIn_app (goodIn_of _ (by decide +kernel)) ggX11_court_X11_textRead
theorem dX11_court_0 : decode cX11_court 0 = .ok (.iload_n 1, 1) := by decide +kernel
theorem dX11_court_1 : decode cX11_court 1 = .ok (.aload_n 0, 1) := by decide +kernel
theorem dX11_court_2 : decode cX11_court 2 = .ok (.getfield 41, 3) := by decide +kernel
theorem dX11_court_5 : decode cX11_court 5 = .ok (.getfield 160, 3) := by decide +kernel
theorem dX11_court_8 : decode cX11_court 8 = .ok (.iconst 1, 1) := by decide +kernel
theorem dX11_court_9 : decode cX11_court 9 = .ok (.iadd, 1) := by decide +kernel
theorem dX11_court_10 : decode cX11_court 10 = .ok (.invokestatic 104, 3) := by decide +kernel
theorem dX11_court_13 : decode cX11_court 13 = .ok (.ifCond .ne 9, 3) := by decide +kernel
theorem dX11_court_16 : decode cX11_court 16 = .ok (.aload_n 0, 1) := by decide +kernel
theorem dX11_court_17 : decode cX11_court 17 = .ok (.iconst 1, 1) := by decide +kernel
theorem dX11_court_18 : decode cX11_court 18 = .ok (.invokevirtual 132, 3) := by decide +kernel
theorem dX11_court_21 : decode cX11_court 21 = .ok (.ireturn, 1) := by decide +kernel
theorem dX11_court_22 : decode cX11_court 22 = .ok (.aload_n 0, 1) := by decide +kernel
theorem dX11_court_23 : decode cX11_court 23 = .ok (.getfield 50, 3) := by decide +kernel
theorem dX11_court_26 : decode cX11_court 26 = .ok (.iload_n 1, 1) := by decide +kernel
theorem dX11_court_27 : decode cX11_court 27 = .ok (.aload_n 0, 1) := by decide +kernel
theorem dX11_court_28 : decode cX11_court 28 = .ok (.getfield 16, 3) := by decide +kernel
theorem dX11_court_31 : decode cX11_court 31 = .ok (.invokevirtual 163, 3) := by decide +kernel
theorem dX11_court_34 : decode cX11_court 34 = .ok (.istore_n 2, 1) := by decide +kernel
theorem dX11_court_35 : decode cX11_court 35 = .ok (.iload_n 2, 1) := by decide +kernel
theorem dX11_court_36 : decode cX11_court 36 = .ok (.ifCond .eq 21, 3) := by decide +kernel
theorem dX11_court_39 : decode cX11_court 39 = .ok (.aload_n 0, 1) := by decide +kernel
theorem dX11_court_40 : decode cX11_court 40 = .ok (.getfield 10, 3) := by decide +kernel
theorem dX11_court_43 : decode cX11_court 43 = .ok (.astore_n 3, 1) := by decide +kernel
theorem dX11_court_44 : decode cX11_court 44 = .ok (.aload_n 0, 1) := by decide +kernel
theorem dX11_court_45 : decode cX11_court 45 = .ok (.aload_n 0, 1) := by decide +kernel
theorem dX11_court_46 : decode cX11_court 46 = .ok (.getfield 16, 3) := by decide +kernel
theorem dX11_court_49 : decode cX11_court 49 = .ok (.putfield 10, 3) := by decide +kernel
theorem dX11_court_52 : decode cX11_court 52 = .ok (.aload_n 0, 1) := by decide +kernel
theorem dX11_court_53 : decode cX11_court 53 = .ok (.aload_n 3, 1) := by decide +kernel
theorem dX11_court_54 : decode cX11_court 54 = .ok (.putfield 16, 3) := by decide +kernel
theorem dX11_court_57 : decode cX11_court 57 = .ok (.aload_n 0, 1) := by decide +kernel
theorem dX11_court_58 : decode cX11_court 58 = .ok (.iload_n 2, 1) := by decide +kernel
theorem dX11_court_59 : decode cX11_court 59 = .ok (.aload_n 0, 1) := by decide +kernel
theorem dX11_court_60 : decode cX11_court 60 = .ok (.getfield 10, 3) := by decide +kernel
theorem dX11_court_63 : decode cX11_court 63 = .ok (.iconst 3, 1) := by decide +kernel
theorem dX11_court_64 : decode cX11_court 64 = .ok (.invokevirtual 167, 3) := by decide +kernel
theorem dX11_court_67 : decode cX11_court 67 = .ok (.invokevirtual 170, 3) := by decide +kernel
theorem dX11_court_70 : decode cX11_court 70 = .ok (.ireturn, 1) := by decide +kernel
set_option maxRecDepth 20000 in
theorem ggX11_weeks_X11_within : GoodIn wsX11_weeks wsX11_within := goodIn_r _ [11] (by decide +kernel) (by decide +kernel)
set_option maxRecDepth 20000 in
theorem gX11_weeks_X11_within : GoodIn wsX11_weeks (va_wsS RX11 104 yX11_within wsX11_within) := goodIn_app (goodIn_of _ (by decide +kernel)) ggX11_weeks_X11_within
set_option maxRecDepth 20000 in
theorem ggX11_weeks_X11_refused : GoodIn wsX11_weeks wsX11_refused := goodIn_r _ [15, 16, 167, 168, 169, 170, 171, 172, 173, 174, 175, 176, 177, 178, 179, 180, 181, 182, 183, 184, 185] (by decide +kernel) (by decide +kernel)
set_option maxRecDepth 20000 in
theorem gX11_weeks_X11_refused : GoodIn wsX11_weeks (wsV RX11 132 RX11 yX11_refused wsX11_refused) := goodIn_app (goodIn_of _ (by decide +kernel)) ggX11_weeks_X11_refused
set_option maxRecDepth 20000 in
theorem ggX11_weeks_X4_readWeeks : GoodIn wsX11_weeks wsX4_readWeeks := goodIn_r _ [21, 22, 23, 24, 25, 26, 27, 28, 29, 30, 31, 32, 33, 34, 35, 36, 37, 38, 39, 40, 41, 42, 43, 44, 45, 46, 47, 48, 49, 50, 51, 52, 53, 54, 55, 56, 57, 58, 59, 60, 61, 62, 63, 64, 65, 66, 67, 68, 69, 70, 71, 72, 73, 74, 75, 76, 77, 78, 79, 80, 20, 81, 82, 83, 84, 85, 86, 87, 10, 88, 89, 90, 91, 92, 93, 94, 95, 96, 97, 98, 99, 100, 101, 102, 103, 104, 105, 106, 107, 108, 109, 110, 111, 112, 113, 114, 115, 116, 117, 118, 119, 120, 121, 9, 11, 122, 123, 124, 125, 126, 127, 128, 129, 130, 131, 132, 133, 134, 135, 136, 137, 138, 139, 140, 141, 142, 143, 144, 145, 146, 147, 148, 214, 215, 216, 217, 218, 219, 186, 187, 188, 189, 190, 191, 192, 193, 194, 195, 196, 211, 212, 213, 197, 198, 199, 200, 201, 202, 203, 204, 205, 206, 207, 208, 209, 210] (by decide +kernel) (by decide +kernel)
set_option maxRecDepth 20000 in
theorem gX11_weeks_X4_readWeeks : GoodIn wsX11_weeks (wsV RX11 178 RX4 yX4_readWeeks wsX4_readWeeks) := goodIn_app (goodIn_of _ (by decide +kernel)) ggX11_weeks_X4_readWeeks
set_option maxRecDepth 20000 in
theorem ggX11_weeks_X9_copyFrom : GoodIn wsX11_weeks wsX9_copyFrom := goodIn_r _ [152, 32, 33, 93, 153, 10, 154, 211, 212, 213] (by decide +kernel) (by decide +kernel)
set_option maxRecDepth 20000 in
theorem gX11_weeks_X9_copyFrom : GoodIn wsX11_weeks (wsV RX11 182 RX9 yX9_copyFrom wsX9_copyFrom) := goodIn_app (goodIn_of _ (by decide +kernel)) ggX11_weeks_X9_copyFrom
set_option maxRecDepth 20000 in
theorem ggX11_weeks_X11_textRead : GoodIn wsX11_weeks wsX11_textRead := goodIn_r _ [158, 1, 2, 159, 160, 161, 162, 163, 164, 165, 10, 166, 16, 12, 13, 14, 15, 167, 168, 169, 170, 171, 172, 173, 174, 175, 176, 177, 178, 179, 180, 181, 182, 183, 184, 185, 186, 187, 188, 189, 190, 191, 192, 193, 194, 195, 196] (by decide +kernel) (by decide +kernel)
set_option maxRecDepth 20000 in
theorem gX11_weeks_X11_textRead : GoodIn wsX11_weeks (wsV RX11 170 RX11 yX11_textRead wsX11_textRead) := goodIn_app (goodIn_of _ (by decide +kernel)) ggX11_weeks_X11_textRead
theorem dX11_weeks_0 : decode cX11_weeks 0 = .ok (.iload_n 1, 1) := by decide +kernel
theorem dX11_weeks_1 : decode cX11_weeks 1 = .ok (.aload_n 0, 1) := by decide +kernel
theorem dX11_weeks_2 : decode cX11_weeks 2 = .ok (.getfield 41, 3) := by decide +kernel
theorem dX11_weeks_5 : decode cX11_weeks 5 = .ok (.getfield 160, 3) := by decide +kernel
theorem dX11_weeks_8 : decode cX11_weeks 8 = .ok (.iconst 1, 1) := by decide +kernel
theorem dX11_weeks_9 : decode cX11_weeks 9 = .ok (.iadd, 1) := by decide +kernel
theorem dX11_weeks_10 : decode cX11_weeks 10 = .ok (.invokestatic 104, 3) := by decide +kernel
theorem dX11_weeks_13 : decode cX11_weeks 13 = .ok (.ifCond .eq 10, 3) := by decide +kernel
theorem dX11_weeks_16 : decode cX11_weeks 16 = .ok (.iload_n 1, 1) := by decide +kernel
theorem dX11_weeks_17 : decode cX11_weeks 17 = .ok (.sipush 300, 3) := by decide +kernel
theorem dX11_weeks_20 : decode cX11_weeks 20 = .ok (.if_icmp .le 9, 3) := by decide +kernel
theorem dX11_weeks_23 : decode cX11_weeks 23 = .ok (.aload_n 0, 1) := by decide +kernel
theorem dX11_weeks_24 : decode cX11_weeks 24 = .ok (.iconst 1, 1) := by decide +kernel
theorem dX11_weeks_25 : decode cX11_weeks 25 = .ok (.invokevirtual 132, 3) := by decide +kernel
theorem dX11_weeks_28 : decode cX11_weeks 28 = .ok (.ireturn, 1) := by decide +kernel
theorem dX11_weeks_29 : decode cX11_weeks 29 = .ok (.aload_n 0, 1) := by decide +kernel
theorem dX11_weeks_30 : decode cX11_weeks 30 = .ok (.getfield 50, 3) := by decide +kernel
theorem dX11_weeks_33 : decode cX11_weeks 33 = .ok (.iload_n 1, 1) := by decide +kernel
theorem dX11_weeks_34 : decode cX11_weeks 34 = .ok (.aload_n 0, 1) := by decide +kernel
theorem dX11_weeks_35 : decode cX11_weeks 35 = .ok (.getfield 10, 3) := by decide +kernel
theorem dX11_weeks_38 : decode cX11_weeks 38 = .ok (.aload_n 0, 1) := by decide +kernel
theorem dX11_weeks_39 : decode cX11_weeks 39 = .ok (.getfield 16, 3) := by decide +kernel
theorem dX11_weeks_42 : decode cX11_weeks 42 = .ok (.getfield 174, 3) := by decide +kernel
theorem dX11_weeks_45 : decode cX11_weeks 45 = .ok (.invokevirtual 178, 3) := by decide +kernel
theorem dX11_weeks_48 : decode cX11_weeks 48 = .ok (.istore_n 2, 1) := by decide +kernel
theorem dX11_weeks_49 : decode cX11_weeks 49 = .ok (.iload_n 2, 1) := by decide +kernel
theorem dX11_weeks_50 : decode cX11_weeks 50 = .ok (.ifCond .eq 20, 3) := by decide +kernel
theorem dX11_weeks_53 : decode cX11_weeks 53 = .ok (.aload_n 0, 1) := by decide +kernel
theorem dX11_weeks_54 : decode cX11_weeks 54 = .ok (.getfield 10, 3) := by decide +kernel
theorem dX11_weeks_57 : decode cX11_weeks 57 = .ok (.getfield 174, 3) := by decide +kernel
theorem dX11_weeks_60 : decode cX11_weeks 60 = .ok (.aload_n 0, 1) := by decide +kernel
theorem dX11_weeks_61 : decode cX11_weeks 61 = .ok (.getfield 16, 3) := by decide +kernel
theorem dX11_weeks_64 : decode cX11_weeks 64 = .ok (.getfield 174, 3) := by decide +kernel
theorem dX11_weeks_67 : decode cX11_weeks 67 = .ok (.invokevirtual 182, 3) := by decide +kernel
theorem dX11_weeks_70 : decode cX11_weeks 70 = .ok (.aload_n 0, 1) := by decide +kernel
theorem dX11_weeks_71 : decode cX11_weeks 71 = .ok (.iload_n 2, 1) := by decide +kernel
theorem dX11_weeks_72 : decode cX11_weeks 72 = .ok (.aload_n 0, 1) := by decide +kernel
theorem dX11_weeks_73 : decode cX11_weeks 73 = .ok (.getfield 10, 3) := by decide +kernel
theorem dX11_weeks_76 : decode cX11_weeks 76 = .ok (.getfield 174, 3) := by decide +kernel
theorem dX11_weeks_79 : decode cX11_weeks 79 = .ok (.getfield 188, 3) := by decide +kernel
theorem dX11_weeks_82 : decode cX11_weeks 82 = .ok (.invokevirtual 170, 3) := by decide +kernel
theorem dX11_weeks_85 : decode cX11_weeks 85 = .ok (.ireturn, 1) := by decide +kernel
theorem dX11_fault_0 : decode cX11_fault 0 = .ok (.iload_n 1, 1) := by decide +kernel
theorem dX11_fault_1 : decode cX11_fault 1 = .ok (.ifCond .ne 10, 3) := by decide +kernel
theorem dX11_fault_4 : decode cX11_fault 4 = .ok (.aload_n 0, 1) := by decide +kernel
theorem dX11_fault_5 : decode cX11_fault 5 = .ok (.getfield 92, 3) := by decide +kernel
theorem dX11_fault_8 : decode cX11_fault 8 = .ok (.goto 16, 3) := by decide +kernel
theorem dX11_fault_11 : decode cX11_fault 11 = .ok (.iload_n 1, 1) := by decide +kernel
theorem dX11_fault_12 : decode cX11_fault 12 = .ok (.iconst 1, 1) := by decide +kernel
theorem dX11_fault_13 : decode cX11_fault 13 = .ok (.if_icmp .ne 10, 3) := by decide +kernel
theorem dX11_fault_16 : decode cX11_fault 16 = .ok (.aload_n 0, 1) := by decide +kernel
theorem dX11_fault_17 : decode cX11_fault 17 = .ok (.getfield 95, 3) := by decide +kernel
theorem dX11_fault_20 : decode cX11_fault 20 = .ok (.goto 4, 3) := by decide +kernel
theorem dX11_fault_23 : decode cX11_fault 23 = .ok (.iconst (-1), 1) := by decide +kernel
theorem dX11_fault_24 : decode cX11_fault 24 = .ok (.ireturn, 1) := by decide +kernel
set_option maxRecDepth 20000 in
theorem ggX11_told_X11_within : GoodIn wsX11_told wsX11_within := goodIn_r _ [7] (by decide +kernel) (by decide +kernel)
set_option maxRecDepth 20000 in
theorem gX11_told_X11_within : GoodIn wsX11_told (va_wsS RX11 104 yX11_within wsX11_within) := goodIn_app (goodIn_of _ (by decide +kernel)) ggX11_told_X11_within
set_option maxRecDepth 20000 in
theorem ggX11_told_X0_countOf : GoodIn wsX11_told wsX0_countOf := goodIn_r _ [12, 13, 71, 72, 73, 74, 75, 76, 77, 78, 79, 80, 81, 82, 83, 84] (by decide +kernel) (by decide +kernel)
set_option maxRecDepth 20000 in
theorem gX11_told_X0_countOf : GoodIn wsX11_told (wsV RX11 167 RX0 yX0_countOf wsX0_countOf) := goodIn_app (goodIn_of _ (by decide +kernel)) ggX11_told_X0_countOf
set_option maxRecDepth 20000 in
theorem ggX11_told_X11_given : GoodIn wsX11_told wsX11_given := goodIn_r _ [17, 18, 52, 53, 54, 55, 56, 57, 58, 59, 60, 61, 62, 63, 64, 65, 66, 67, 68, 69, 70] (by decide +kernel) (by decide +kernel)
set_option maxRecDepth 20000 in
theorem gX11_told_X11_given : GoodIn wsX11_told (wsV RX11 191 RX11 yX11_given wsX11_given) := goodIn_app (goodIn_of _ (by decide +kernel)) ggX11_told_X11_given
set_option maxRecDepth 20000 in
theorem ggX11_told_X0_setOfFate : GoodIn wsX11_told wsX0_setOfFate := goodIn_r _ [22, 23, 24, 9, 10, 11, 12, 13, 25, 26, 27, 28, 29, 30, 85, 86, 87, 88, 89, 71, 72, 73, 74, 75, 76, 77, 78, 79, 80, 81, 82, 83, 84] (by decide +kernel) (by decide +kernel)
set_option maxRecDepth 20000 in
theorem gX11_told_X0_setOfFate : GoodIn wsX11_told (wsV RX11 200 RX0 yX0_setOfFate wsX0_setOfFate) := goodIn_app (goodIn_of _ (by decide +kernel)) ggX11_told_X0_setOfFate
set_option maxRecDepth 20000 in
theorem ggX11_told_X0_guiltySet : GoodIn wsX11_told wsX0_guiltySet := goodIn_r _ [34, 35, 24, 9, 10, 11, 12, 13, 25, 26, 27, 28, 29, 30, 85, 86, 87, 88, 89, 71, 72, 73, 74, 75, 76, 77, 78, 79, 80, 81, 82, 83, 84] (by decide +kernel) (by decide +kernel)
set_option maxRecDepth 20000 in
theorem gX11_told_X0_guiltySet : GoodIn wsX11_told (wsV RX11 203 RX0 yX0_guiltySet wsX0_guiltySet) := goodIn_app (goodIn_of _ (by decide +kernel)) ggX11_told_X0_guiltySet
set_option maxRecDepth 20000 in
theorem ggX11_told_X11_setOfAll : GoodIn wsX11_told wsX11_setOfAll := goodIn_r _ [38] (by decide +kernel) (by decide +kernel)
set_option maxRecDepth 20000 in
theorem gX11_told_X11_setOfAll : GoodIn wsX11_told (va_wsS RX11 207 yX11_setOfAll wsX11_setOfAll) := goodIn_app (goodIn_of _ (by decide +kernel)) ggX11_told_X11_setOfAll
set_option maxRecDepth 20000 in
theorem ggX11_told_X0_votesOf : GoodIn wsX11_told wsX0_votesOf := goodIn_r _ [42, 43, 24, 9, 10, 11, 12, 13, 44, 6, 45, 46, 47, 71, 72, 73, 74, 75, 76, 77, 78, 79, 80, 81, 82, 83, 84] (by decide +kernel) (by decide +kernel)
set_option maxRecDepth 20000 in
theorem gX11_told_X0_votesOf : GoodIn wsX11_told (wsV RX11 210 RX0 yX0_votesOf wsX0_votesOf) := goodIn_app (goodIn_of _ (by decide +kernel)) ggX11_told_X0_votesOf
set_option maxRecDepth 20000 in
theorem ggX11_told_X11_refused : GoodIn wsX11_told wsX11_refused := goodIn_r _ [51, 18, 52, 53, 54, 55, 56, 57, 58, 59, 60, 61, 62, 63, 64, 65, 66, 67, 68, 69, 70] (by decide +kernel) (by decide +kernel)
set_option maxRecDepth 20000 in
theorem gX11_told_X11_refused : GoodIn wsX11_told (wsV RX11 132 RX11 yX11_refused wsX11_refused) := goodIn_app (goodIn_of _ (by decide +kernel)) ggX11_told_X11_refused
theorem dX11_told_0 : decode cX11_told 0 = .ok (.iload_n 1, 1) := by decide +kernel
theorem dX11_told_1 : decode cX11_told 1 = .ok (.bipush 6, 2) := by decide +kernel
theorem dX11_told_3 : decode cX11_told 3 = .ok (.invokestatic 104, 3) := by decide +kernel
theorem dX11_told_6 : decode cX11_told 6 = .ok (.ifCond .eq 16, 3) := by decide +kernel
theorem dX11_told_9 : decode cX11_told 9 = .ok (.aload_n 0, 1) := by decide +kernel
theorem dX11_told_10 : decode cX11_told 10 = .ok (.aload_n 0, 1) := by decide +kernel
theorem dX11_told_11 : decode cX11_told 11 = .ok (.getfield 10, 3) := by decide +kernel
theorem dX11_told_14 : decode cX11_told 14 = .ok (.iload_n 1, 1) := by decide +kernel
theorem dX11_told_15 : decode cX11_told 15 = .ok (.invokevirtual 167, 3) := by decide +kernel
theorem dX11_told_18 : decode cX11_told 18 = .ok (.invokevirtual 191, 3) := by decide +kernel
theorem dX11_told_21 : decode cX11_told 21 = .ok (.ireturn, 1) := by decide +kernel
theorem dX11_told_22 : decode cX11_told 22 = .ok (.iload_n 1, 1) := by decide +kernel
theorem dX11_told_23 : decode cX11_told 23 = .ok (.tableswitch 139 6 12 #[41, 53, 65, 78, 91, 104, 116], 41) := by decide +kernel
theorem dX11_told_64 : decode cX11_told 64 = .ok (.aload_n 0, 1) := by decide +kernel
theorem dX11_told_65 : decode cX11_told 65 = .ok (.aload_n 0, 1) := by decide +kernel
theorem dX11_told_66 : decode cX11_told 66 = .ok (.getfield 10, 3) := by decide +kernel
theorem dX11_told_69 : decode cX11_told 69 = .ok (.getfield 194, 3) := by decide +kernel
theorem dX11_told_72 : decode cX11_told 72 = .ok (.invokevirtual 191, 3) := by decide +kernel
theorem dX11_told_75 : decode cX11_told 75 = .ok (.ireturn, 1) := by decide +kernel
theorem dX11_told_76 : decode cX11_told 76 = .ok (.aload_n 0, 1) := by decide +kernel
theorem dX11_told_77 : decode cX11_told 77 = .ok (.aload_n 0, 1) := by decide +kernel
theorem dX11_told_78 : decode cX11_told 78 = .ok (.getfield 10, 3) := by decide +kernel
theorem dX11_told_81 : decode cX11_told 81 = .ok (.getfield 197, 3) := by decide +kernel
theorem dX11_told_84 : decode cX11_told 84 = .ok (.invokevirtual 191, 3) := by decide +kernel
theorem dX11_told_87 : decode cX11_told 87 = .ok (.ireturn, 1) := by decide +kernel
theorem dX11_told_88 : decode cX11_told 88 = .ok (.aload_n 0, 1) := by decide +kernel
theorem dX11_told_89 : decode cX11_told 89 = .ok (.aload_n 0, 1) := by decide +kernel
theorem dX11_told_90 : decode cX11_told 90 = .ok (.getfield 10, 3) := by decide +kernel
theorem dX11_told_93 : decode cX11_told 93 = .ok (.iconst 0, 1) := by decide +kernel
theorem dX11_told_94 : decode cX11_told 94 = .ok (.invokevirtual 200, 3) := by decide +kernel
theorem dX11_told_97 : decode cX11_told 97 = .ok (.invokevirtual 191, 3) := by decide +kernel
theorem dX11_told_100 : decode cX11_told 100 = .ok (.ireturn, 1) := by decide +kernel
theorem dX11_told_101 : decode cX11_told 101 = .ok (.aload_n 0, 1) := by decide +kernel
theorem dX11_told_102 : decode cX11_told 102 = .ok (.aload_n 0, 1) := by decide +kernel
theorem dX11_told_103 : decode cX11_told 103 = .ok (.getfield 10, 3) := by decide +kernel
theorem dX11_told_106 : decode cX11_told 106 = .ok (.iconst 1, 1) := by decide +kernel
theorem dX11_told_107 : decode cX11_told 107 = .ok (.invokevirtual 200, 3) := by decide +kernel
theorem dX11_told_110 : decode cX11_told 110 = .ok (.invokevirtual 191, 3) := by decide +kernel
theorem dX11_told_113 : decode cX11_told 113 = .ok (.ireturn, 1) := by decide +kernel
theorem dX11_told_114 : decode cX11_told 114 = .ok (.aload_n 0, 1) := by decide +kernel
theorem dX11_told_115 : decode cX11_told 115 = .ok (.aload_n 0, 1) := by decide +kernel
theorem dX11_told_116 : decode cX11_told 116 = .ok (.getfield 10, 3) := by decide +kernel
theorem dX11_told_119 : decode cX11_told 119 = .ok (.iconst 2, 1) := by decide +kernel
theorem dX11_told_120 : decode cX11_told 120 = .ok (.invokevirtual 200, 3) := by decide +kernel
theorem dX11_told_123 : decode cX11_told 123 = .ok (.invokevirtual 191, 3) := by decide +kernel
theorem dX11_told_126 : decode cX11_told 126 = .ok (.ireturn, 1) := by decide +kernel
theorem dX11_told_127 : decode cX11_told 127 = .ok (.aload_n 0, 1) := by decide +kernel
theorem dX11_told_128 : decode cX11_told 128 = .ok (.aload_n 0, 1) := by decide +kernel
theorem dX11_told_129 : decode cX11_told 129 = .ok (.getfield 10, 3) := by decide +kernel
theorem dX11_told_132 : decode cX11_told 132 = .ok (.invokevirtual 203, 3) := by decide +kernel
theorem dX11_told_135 : decode cX11_told 135 = .ok (.invokevirtual 191, 3) := by decide +kernel
theorem dX11_told_138 : decode cX11_told 138 = .ok (.ireturn, 1) := by decide +kernel
theorem dX11_told_139 : decode cX11_told 139 = .ok (.aload_n 0, 1) := by decide +kernel
theorem dX11_told_140 : decode cX11_told 140 = .ok (.aload_n 0, 1) := by decide +kernel
theorem dX11_told_141 : decode cX11_told 141 = .ok (.getfield 10, 3) := by decide +kernel
theorem dX11_told_144 : decode cX11_told 144 = .ok (.aload_n 0, 1) := by decide +kernel
theorem dX11_told_145 : decode cX11_told 145 = .ok (.getfield 10, 3) := by decide +kernel
theorem dX11_told_148 : decode cX11_told 148 = .ok (.iconst 4, 1) := by decide +kernel
theorem dX11_told_149 : decode cX11_told 149 = .ok (.invokevirtual 167, 3) := by decide +kernel
theorem dX11_told_152 : decode cX11_told 152 = .ok (.invokestatic 207, 3) := by decide +kernel
theorem dX11_told_155 : decode cX11_told 155 = .ok (.invokevirtual 210, 3) := by decide +kernel
theorem dX11_told_158 : decode cX11_told 158 = .ok (.invokevirtual 191, 3) := by decide +kernel
theorem dX11_told_161 : decode cX11_told 161 = .ok (.ireturn, 1) := by decide +kernel
theorem dX11_told_162 : decode cX11_told 162 = .ok (.aload_n 0, 1) := by decide +kernel
theorem dX11_told_163 : decode cX11_told 163 = .ok (.iconst 1, 1) := by decide +kernel
theorem dX11_told_164 : decode cX11_told 164 = .ok (.invokevirtual 132, 3) := by decide +kernel
theorem dX11_told_167 : decode cX11_told 167 = .ok (.ireturn, 1) := by decide +kernel
set_option maxRecDepth 20000 in
theorem ggX11_sense_X0_has : GoodIn wsX11_sense wsX0_has := goodIn_r _ [6, 7, 8, 9, 5, 10, 11, 49, 50, 51, 52, 53, 54, 55, 56, 57, 58, 59, 60, 61, 62] (by decide +kernel) (by decide +kernel)
set_option maxRecDepth 20000 in
theorem gX11_sense_X0_has : GoodIn wsX11_sense (wsV RX11 213 RX0 yX0_has wsX0_has) := goodIn_app (goodIn_of _ (by decide +kernel)) ggX11_sense_X0_has
set_option maxRecDepth 20000 in
theorem ggX11_sense_X11_refused : GoodIn wsX11_sense wsX11_refused := goodIn_r _ [16, 17, 30, 31, 32, 33, 34, 35, 36, 37, 38, 39, 40, 41, 42, 43, 44, 45, 46, 47, 48] (by decide +kernel) (by decide +kernel)
set_option maxRecDepth 20000 in
theorem gX11_sense_X11_refused : GoodIn wsX11_sense (wsV RX11 132 RX11 yX11_refused wsX11_refused) := goodIn_app (goodIn_of _ (by decide +kernel)) ggX11_sense_X11_refused
set_option maxRecDepth 20000 in
theorem ggX11_sense_X0_senseOf : GoodIn wsX11_sense wsX0_senseOf := goodIn_r _ [21, 22, 23, 3, 4, 5, 6, 7, 8, 9, 10, 11, 24, 15, 25, 49, 50, 51, 52, 53, 54, 55, 56, 57, 58, 59, 60, 61, 62] (by decide +kernel) (by decide +kernel)
set_option maxRecDepth 20000 in
theorem gX11_sense_X0_senseOf : GoodIn wsX11_sense (wsV RX11 216 RX0 yX0_senseOf wsX0_senseOf) := goodIn_app (goodIn_of _ (by decide +kernel)) ggX11_sense_X0_senseOf
set_option maxRecDepth 20000 in
theorem ggX11_sense_X11_given : GoodIn wsX11_sense wsX11_given := goodIn_r _ [29, 17, 30, 31, 32, 33, 34, 35, 36, 37, 38, 39, 40, 41, 42, 43, 44, 45, 46, 47, 48] (by decide +kernel) (by decide +kernel)
set_option maxRecDepth 20000 in
theorem gX11_sense_X11_given : GoodIn wsX11_sense (wsV RX11 191 RX11 yX11_given wsX11_given) := goodIn_app (goodIn_of _ (by decide +kernel)) ggX11_sense_X11_given
theorem dX11_sense_0 : decode cX11_sense 0 = .ok (.aload_n 0, 1) := by decide +kernel
theorem dX11_sense_1 : decode cX11_sense 1 = .ok (.getfield 10, 3) := by decide +kernel
theorem dX11_sense_4 : decode cX11_sense 4 = .ok (.iconst 1, 1) := by decide +kernel
theorem dX11_sense_5 : decode cX11_sense 5 = .ok (.iload_n 1, 1) := by decide +kernel
theorem dX11_sense_6 : decode cX11_sense 6 = .ok (.invokevirtual 213, 3) := by decide +kernel
theorem dX11_sense_9 : decode cX11_sense 9 = .ok (.ifCond .ne 9, 3) := by decide +kernel
theorem dX11_sense_12 : decode cX11_sense 12 = .ok (.aload_n 0, 1) := by decide +kernel
theorem dX11_sense_13 : decode cX11_sense 13 = .ok (.iconst 1, 1) := by decide +kernel
theorem dX11_sense_14 : decode cX11_sense 14 = .ok (.invokevirtual 132, 3) := by decide +kernel
theorem dX11_sense_17 : decode cX11_sense 17 = .ok (.ireturn, 1) := by decide +kernel
theorem dX11_sense_18 : decode cX11_sense 18 = .ok (.aload_n 0, 1) := by decide +kernel
theorem dX11_sense_19 : decode cX11_sense 19 = .ok (.aload_n 0, 1) := by decide +kernel
theorem dX11_sense_20 : decode cX11_sense 20 = .ok (.getfield 10, 3) := by decide +kernel
theorem dX11_sense_23 : decode cX11_sense 23 = .ok (.iload_n 1, 1) := by decide +kernel
theorem dX11_sense_24 : decode cX11_sense 24 = .ok (.invokevirtual 216, 3) := by decide +kernel
theorem dX11_sense_27 : decode cX11_sense 27 = .ok (.invokevirtual 191, 3) := by decide +kernel
theorem dX11_sense_30 : decode cX11_sense 30 = .ok (.ireturn, 1) := by decide +kernel
set_option maxRecDepth 20000 in
theorem ggX11_rule_X0_has : GoodIn wsX11_rule wsX0_has := goodIn_r _ [6, 7, 8, 9, 5, 10, 11, 60, 61, 62, 63, 64, 65, 66, 67, 68, 69, 70, 71, 72, 73] (by decide +kernel) (by decide +kernel)
set_option maxRecDepth 20000 in
theorem gX11_rule_X0_has : GoodIn wsX11_rule (wsV RX11 213 RX0 yX0_has wsX0_has) := goodIn_app (goodIn_of _ (by decide +kernel)) ggX11_rule_X0_has
set_option maxRecDepth 20000 in
theorem ggX11_rule_X11_within : GoodIn wsX11_rule wsX11_within := goodIn_r _ [15] (by decide +kernel) (by decide +kernel)
set_option maxRecDepth 20000 in
theorem gX11_rule_X11_within : GoodIn wsX11_rule (va_wsS RX11 104 yX11_within wsX11_within) := goodIn_app (goodIn_of _ (by decide +kernel)) ggX11_rule_X11_within
set_option maxRecDepth 20000 in
theorem ggX11_rule_X11_refused : GoodIn wsX11_rule wsX11_refused := goodIn_r _ [19, 20, 41, 42, 43, 44, 45, 46, 47, 48, 49, 50, 51, 52, 53, 54, 55, 56, 57, 58, 59] (by decide +kernel) (by decide +kernel)
set_option maxRecDepth 20000 in
theorem gX11_rule_X11_refused : GoodIn wsX11_rule (wsV RX11 132 RX11 yX11_refused wsX11_refused) := goodIn_app (goodIn_of _ (by decide +kernel)) ggX11_rule_X11_refused
set_option maxRecDepth 20000 in
theorem ggX11_rule_X0_ruleAt : GoodIn wsX11_rule wsX0_ruleAt := goodIn_r _ [24, 25, 26, 60, 61, 62, 63, 64, 65, 66, 67, 68, 69, 70, 71, 72, 73] (by decide +kernel) (by decide +kernel)
set_option maxRecDepth 20000 in
theorem gX11_rule_X0_ruleAt : GoodIn wsX11_rule (wsV RX11 219 RX0 yX0_ruleAt wsX0_ruleAt) := goodIn_app (goodIn_of _ (by decide +kernel)) ggX11_rule_X0_ruleAt
set_option maxRecDepth 20000 in
theorem ggX11_rule_X6_partOf : GoodIn wsX11_rule wsX6_partOf := goodIn_r _ [31, 32, 33, 34, 35, 36, 74, 75, 76, 77, 78, 79, 80, 81, 82] (by decide +kernel) (by decide +kernel)
set_option maxRecDepth 20000 in
theorem gX11_rule_X6_partOf : GoodIn wsX11_rule (wsV RX11 223 RX6 yX6_partOf wsX6_partOf) := goodIn_app (goodIn_of _ (by decide +kernel)) ggX11_rule_X6_partOf
set_option maxRecDepth 20000 in
theorem ggX11_rule_X11_given : GoodIn wsX11_rule wsX11_given := goodIn_r _ [40, 20, 41, 42, 43, 44, 45, 46, 47, 48, 49, 50, 51, 52, 53, 54, 55, 56, 57, 58, 59] (by decide +kernel) (by decide +kernel)
set_option maxRecDepth 20000 in
theorem gX11_rule_X11_given : GoodIn wsX11_rule (wsV RX11 191 RX11 yX11_given wsX11_given) := goodIn_app (goodIn_of _ (by decide +kernel)) ggX11_rule_X11_given
theorem dX11_rule_0 : decode cX11_rule 0 = .ok (.aload_n 0, 1) := by decide +kernel
theorem dX11_rule_1 : decode cX11_rule 1 = .ok (.getfield 10, 3) := by decide +kernel
theorem dX11_rule_4 : decode cX11_rule 4 = .ok (.iconst 2, 1) := by decide +kernel
theorem dX11_rule_5 : decode cX11_rule 5 = .ok (.iload_n 1, 1) := by decide +kernel
theorem dX11_rule_6 : decode cX11_rule 6 = .ok (.invokevirtual 213, 3) := by decide +kernel
theorem dX11_rule_9 : decode cX11_rule 9 = .ok (.ifCond .eq 11, 3) := by decide +kernel
theorem dX11_rule_12 : decode cX11_rule 12 = .ok (.iload_n 2, 1) := by decide +kernel
theorem dX11_rule_13 : decode cX11_rule 13 = .ok (.iconst 5, 1) := by decide +kernel
theorem dX11_rule_14 : decode cX11_rule 14 = .ok (.invokestatic 104, 3) := by decide +kernel
theorem dX11_rule_17 : decode cX11_rule 17 = .ok (.ifCond .ne 9, 3) := by decide +kernel
theorem dX11_rule_20 : decode cX11_rule 20 = .ok (.aload_n 0, 1) := by decide +kernel
theorem dX11_rule_21 : decode cX11_rule 21 = .ok (.iconst 1, 1) := by decide +kernel
theorem dX11_rule_22 : decode cX11_rule 22 = .ok (.invokevirtual 132, 3) := by decide +kernel
theorem dX11_rule_25 : decode cX11_rule 25 = .ok (.ireturn, 1) := by decide +kernel
theorem dX11_rule_26 : decode cX11_rule 26 = .ok (.aload_n 0, 1) := by decide +kernel
theorem dX11_rule_27 : decode cX11_rule 27 = .ok (.getfield 10, 3) := by decide +kernel
theorem dX11_rule_30 : decode cX11_rule 30 = .ok (.iload_n 1, 1) := by decide +kernel
theorem dX11_rule_31 : decode cX11_rule 31 = .ok (.invokevirtual 219, 3) := by decide +kernel
theorem dX11_rule_34 : decode cX11_rule 34 = .ok (.iload_n 2, 1) := by decide +kernel
theorem dX11_rule_35 : decode cX11_rule 35 = .ok (.invokevirtual 223, 3) := by decide +kernel
theorem dX11_rule_38 : decode cX11_rule 38 = .ok (.istore_n 3, 1) := by decide +kernel
theorem dX11_rule_39 : decode cX11_rule 39 = .ok (.iload_n 3, 1) := by decide +kernel
theorem dX11_rule_40 : decode cX11_rule 40 = .ok (.iconst (-1), 1) := by decide +kernel
theorem dX11_rule_41 : decode cX11_rule 41 = .ok (.if_icmp .ne 12, 3) := by decide +kernel
theorem dX11_rule_44 : decode cX11_rule 44 = .ok (.aload_n 0, 1) := by decide +kernel
theorem dX11_rule_45 : decode cX11_rule 45 = .ok (.bipush 6, 2) := by decide +kernel
theorem dX11_rule_47 : decode cX11_rule 47 = .ok (.invokevirtual 132, 3) := by decide +kernel
theorem dX11_rule_50 : decode cX11_rule 50 = .ok (.goto 8, 3) := by decide +kernel
theorem dX11_rule_53 : decode cX11_rule 53 = .ok (.aload_n 0, 1) := by decide +kernel
theorem dX11_rule_54 : decode cX11_rule 54 = .ok (.iload_n 3, 1) := by decide +kernel
theorem dX11_rule_55 : decode cX11_rule 55 = .ok (.invokevirtual 191, 3) := by decide +kernel
theorem dX11_rule_58 : decode cX11_rule 58 = .ok (.ireturn, 1) := by decide +kernel
set_option maxRecDepth 20000 in
theorem ggX11_person_X0_has : GoodIn wsX11_person wsX0_has := goodIn_r _ [11, 12, 13, 14, 10, 15, 16, 57, 58, 59, 60, 61, 62, 63, 64, 65, 66, 67, 68, 69, 70] (by decide +kernel) (by decide +kernel)
set_option maxRecDepth 20000 in
theorem gX11_person_X0_has : GoodIn wsX11_person (wsV RX11 213 RX0 yX0_has wsX0_has) := goodIn_app (goodIn_of _ (by decide +kernel)) ggX11_person_X0_has
set_option maxRecDepth 20000 in
theorem ggX11_person_X11_refused : GoodIn wsX11_person wsX11_refused := goodIn_r _ [21, 22, 33, 34, 35, 36, 37, 38, 39, 40, 41, 42, 43, 44, 45, 46, 47, 48, 49, 50, 51] (by decide +kernel) (by decide +kernel)
set_option maxRecDepth 20000 in
theorem gX11_person_X11_refused : GoodIn wsX11_person (wsV RX11 132 RX11 yX11_refused wsX11_refused) := goodIn_app (goodIn_of _ (by decide +kernel)) ggX11_person_X11_refused
set_option maxRecDepth 20000 in
theorem ggX11_person_X0_personAt : GoodIn wsX11_person wsX0_personAt := goodIn_r _ [26, 27, 28, 57, 58, 59, 60, 61, 62, 63, 64, 65, 66, 67, 68, 69, 70] (by decide +kernel) (by decide +kernel)
set_option maxRecDepth 20000 in
theorem gX11_person_X0_personAt : GoodIn wsX11_person (wsV RX11 228 RX0 yX0_personAt wsX0_personAt) := goodIn_app (goodIn_of _ (by decide +kernel)) ggX11_person_X0_personAt
set_option maxRecDepth 20000 in
theorem ggX11_person_X11_given : GoodIn wsX11_person wsX11_given := goodIn_r _ [32, 22, 33, 34, 35, 36, 37, 38, 39, 40, 41, 42, 43, 44, 45, 46, 47, 48, 49, 50, 51] (by decide +kernel) (by decide +kernel)
set_option maxRecDepth 20000 in
theorem gX11_person_X11_given : GoodIn wsX11_person (wsV RX11 191 RX11 yX11_given wsX11_given) := goodIn_app (goodIn_of _ (by decide +kernel)) ggX11_person_X11_given
theorem dX11_person_0 : decode cX11_person 0 = .ok (.aload_n 0, 1) := by decide +kernel
theorem dX11_person_1 : decode cX11_person 1 = .ok (.getfield 10, 3) := by decide +kernel
theorem dX11_person_4 : decode cX11_person 4 = .ok (.iconst 3, 1) := by decide +kernel
theorem dX11_person_5 : decode cX11_person 5 = .ok (.iload_n 1, 1) := by decide +kernel
theorem dX11_person_6 : decode cX11_person 6 = .ok (.invokevirtual 213, 3) := by decide +kernel
theorem dX11_person_9 : decode cX11_person 9 = .ok (.ifCond .ne 9, 3) := by decide +kernel
theorem dX11_person_12 : decode cX11_person 12 = .ok (.aload_n 0, 1) := by decide +kernel
theorem dX11_person_13 : decode cX11_person 13 = .ok (.iconst 1, 1) := by decide +kernel
theorem dX11_person_14 : decode cX11_person 14 = .ok (.invokevirtual 132, 3) := by decide +kernel
theorem dX11_person_17 : decode cX11_person 17 = .ok (.ireturn, 1) := by decide +kernel
theorem dX11_person_18 : decode cX11_person 18 = .ok (.aload_n 0, 1) := by decide +kernel
theorem dX11_person_19 : decode cX11_person 19 = .ok (.getfield 10, 3) := by decide +kernel
theorem dX11_person_22 : decode cX11_person 22 = .ok (.iload_n 1, 1) := by decide +kernel
theorem dX11_person_23 : decode cX11_person 23 = .ok (.invokevirtual 228, 3) := by decide +kernel
theorem dX11_person_26 : decode cX11_person 26 = .ok (.astore_n 3, 1) := by decide +kernel
theorem dX11_person_27 : decode cX11_person 27 = .ok (.iload_n 2, 1) := by decide +kernel
theorem dX11_person_28 : decode cX11_person 28 = .ok (.tableswitch 90 0 4 #[36, 45, 54, 63, 81], 36) := by decide +kernel
theorem dX11_person_64 : decode cX11_person 64 = .ok (.aload_n 0, 1) := by decide +kernel
theorem dX11_person_65 : decode cX11_person 65 = .ok (.aload_n 3, 1) := by decide +kernel
theorem dX11_person_66 : decode cX11_person 66 = .ok (.getfield 232, 3) := by decide +kernel
theorem dX11_person_69 : decode cX11_person 69 = .ok (.invokevirtual 191, 3) := by decide +kernel
theorem dX11_person_72 : decode cX11_person 72 = .ok (.ireturn, 1) := by decide +kernel
theorem dX11_person_73 : decode cX11_person 73 = .ok (.aload_n 0, 1) := by decide +kernel
theorem dX11_person_74 : decode cX11_person 74 = .ok (.aload_n 3, 1) := by decide +kernel
theorem dX11_person_75 : decode cX11_person 75 = .ok (.getfield 237, 3) := by decide +kernel
theorem dX11_person_78 : decode cX11_person 78 = .ok (.invokevirtual 191, 3) := by decide +kernel
theorem dX11_person_81 : decode cX11_person 81 = .ok (.ireturn, 1) := by decide +kernel
theorem dX11_person_82 : decode cX11_person 82 = .ok (.aload_n 0, 1) := by decide +kernel
theorem dX11_person_83 : decode cX11_person 83 = .ok (.aload_n 3, 1) := by decide +kernel
theorem dX11_person_84 : decode cX11_person 84 = .ok (.getfield 240, 3) := by decide +kernel
theorem dX11_person_87 : decode cX11_person 87 = .ok (.invokevirtual 191, 3) := by decide +kernel
theorem dX11_person_90 : decode cX11_person 90 = .ok (.ireturn, 1) := by decide +kernel
theorem dX11_person_91 : decode cX11_person 91 = .ok (.aload_n 0, 1) := by decide +kernel
theorem dX11_person_92 : decode cX11_person 92 = .ok (.aload_n 3, 1) := by decide +kernel
theorem dX11_person_93 : decode cX11_person 93 = .ok (.getfield 243, 3) := by decide +kernel
theorem dX11_person_96 : decode cX11_person 96 = .ok (.iconst 1, 1) := by decide +kernel
theorem dX11_person_97 : decode cX11_person 97 = .ok (.if_icmp .ne 7, 3) := by decide +kernel
theorem dX11_person_100 : decode cX11_person 100 = .ok (.iconst 1, 1) := by decide +kernel
theorem dX11_person_101 : decode cX11_person 101 = .ok (.goto 4, 3) := by decide +kernel
theorem dX11_person_104 : decode cX11_person 104 = .ok (.iconst 0, 1) := by decide +kernel
theorem dX11_person_105 : decode cX11_person 105 = .ok (.invokevirtual 191, 3) := by decide +kernel
theorem dX11_person_108 : decode cX11_person 108 = .ok (.ireturn, 1) := by decide +kernel
theorem dX11_person_109 : decode cX11_person 109 = .ok (.aload_n 0, 1) := by decide +kernel
theorem dX11_person_110 : decode cX11_person 110 = .ok (.aload_n 3, 1) := by decide +kernel
theorem dX11_person_111 : decode cX11_person 111 = .ok (.getfield 246, 3) := by decide +kernel
theorem dX11_person_114 : decode cX11_person 114 = .ok (.invokevirtual 191, 3) := by decide +kernel
theorem dX11_person_117 : decode cX11_person 117 = .ok (.ireturn, 1) := by decide +kernel
theorem dX11_person_118 : decode cX11_person 118 = .ok (.aload_n 0, 1) := by decide +kernel
theorem dX11_person_119 : decode cX11_person 119 = .ok (.iconst 1, 1) := by decide +kernel
theorem dX11_person_120 : decode cX11_person 120 = .ok (.invokevirtual 132, 3) := by decide +kernel
theorem dX11_person_123 : decode cX11_person 123 = .ok (.ireturn, 1) := by decide +kernel
set_option maxRecDepth 20000 in
theorem ggX11_reader_X0_has : GoodIn wsX11_reader wsX0_has := goodIn_r _ [8, 9, 10, 11, 7, 12, 13, 49, 50, 51, 52, 53, 54, 55, 56, 57, 58, 59, 60, 61, 62] (by decide +kernel) (by decide +kernel)
set_option maxRecDepth 20000 in
theorem gX11_reader_X0_has : GoodIn wsX11_reader (wsV RX11 213 RX0 yX0_has wsX0_has) := goodIn_app (goodIn_of _ (by decide +kernel)) ggX11_reader_X0_has
set_option maxRecDepth 20000 in
theorem ggX11_reader_X11_within : GoodIn wsX11_reader wsX11_within := goodIn_r _ [17] (by decide +kernel) (by decide +kernel)
set_option maxRecDepth 20000 in
theorem gX11_reader_X11_within : GoodIn wsX11_reader (va_wsS RX11 104 yX11_within wsX11_within) := goodIn_app (goodIn_of _ (by decide +kernel)) ggX11_reader_X11_within
set_option maxRecDepth 20000 in
theorem ggX11_reader_X11_refused : GoodIn wsX11_reader wsX11_refused := goodIn_r _ [21, 22, 30, 31, 32, 33, 34, 35, 36, 37, 38, 39, 40, 41, 42, 43, 44, 45, 46, 47, 48] (by decide +kernel) (by decide +kernel)
set_option maxRecDepth 20000 in
theorem gX11_reader_X11_refused : GoodIn wsX11_reader (wsV RX11 132 RX11 yX11_refused wsX11_refused) := goodIn_app (goodIn_of _ (by decide +kernel)) ggX11_reader_X11_refused
set_option maxRecDepth 20000 in
theorem ggX11_reader_X11_cell : GoodIn wsX11_reader wsX11_cell := goodIn_r _ [25] (by decide +kernel) (by decide +kernel)
set_option maxRecDepth 20000 in
theorem gX11_reader_X11_cell : GoodIn wsX11_reader (va_wsS RX11 254 yX11_cell wsX11_cell) := goodIn_app (goodIn_of _ (by decide +kernel)) ggX11_reader_X11_cell
set_option maxRecDepth 20000 in
theorem ggX11_reader_X11_given : GoodIn wsX11_reader wsX11_given := goodIn_r _ [29, 22, 30, 31, 32, 33, 34, 35, 36, 37, 38, 39, 40, 41, 42, 43, 44, 45, 46, 47, 48] (by decide +kernel) (by decide +kernel)
set_option maxRecDepth 20000 in
theorem gX11_reader_X11_given : GoodIn wsX11_reader (wsV RX11 191 RX11 yX11_given wsX11_given) := goodIn_app (goodIn_of _ (by decide +kernel)) ggX11_reader_X11_given
theorem dX11_reader_0 : decode cX11_reader 0 = .ok (.aload_n 0, 1) := by decide +kernel
theorem dX11_reader_1 : decode cX11_reader 1 = .ok (.getfield 10, 3) := by decide +kernel
theorem dX11_reader_4 : decode cX11_reader 4 = .ok (.iconst 4, 1) := by decide +kernel
theorem dX11_reader_5 : decode cX11_reader 5 = .ok (.iload_n 1, 1) := by decide +kernel
theorem dX11_reader_6 : decode cX11_reader 6 = .ok (.invokevirtual 213, 3) := by decide +kernel
theorem dX11_reader_9 : decode cX11_reader 9 = .ok (.ifCond .eq 11, 3) := by decide +kernel
theorem dX11_reader_12 : decode cX11_reader 12 = .ok (.iload_n 2, 1) := by decide +kernel
theorem dX11_reader_13 : decode cX11_reader 13 = .ok (.iconst 2, 1) := by decide +kernel
theorem dX11_reader_14 : decode cX11_reader 14 = .ok (.invokestatic 104, 3) := by decide +kernel
theorem dX11_reader_17 : decode cX11_reader 17 = .ok (.ifCond .ne 9, 3) := by decide +kernel
theorem dX11_reader_20 : decode cX11_reader 20 = .ok (.aload_n 0, 1) := by decide +kernel
theorem dX11_reader_21 : decode cX11_reader 21 = .ok (.iconst 1, 1) := by decide +kernel
theorem dX11_reader_22 : decode cX11_reader 22 = .ok (.invokevirtual 132, 3) := by decide +kernel
theorem dX11_reader_25 : decode cX11_reader 25 = .ok (.ireturn, 1) := by decide +kernel
theorem dX11_reader_26 : decode cX11_reader 26 = .ok (.aload_n 0, 1) := by decide +kernel
theorem dX11_reader_27 : decode cX11_reader 27 = .ok (.iload_n 2, 1) := by decide +kernel
theorem dX11_reader_28 : decode cX11_reader 28 = .ok (.ifCond .ne 13, 3) := by decide +kernel
theorem dX11_reader_31 : decode cX11_reader 31 = .ok (.aload_n 0, 1) := by decide +kernel
theorem dX11_reader_32 : decode cX11_reader 32 = .ok (.getfield 10, 3) := by decide +kernel
theorem dX11_reader_35 : decode cX11_reader 35 = .ok (.getfield 247, 3) := by decide +kernel
theorem dX11_reader_38 : decode cX11_reader 38 = .ok (.goto 10, 3) := by decide +kernel
theorem dX11_reader_41 : decode cX11_reader 41 = .ok (.aload_n 0, 1) := by decide +kernel
theorem dX11_reader_42 : decode cX11_reader 42 = .ok (.getfield 10, 3) := by decide +kernel
theorem dX11_reader_45 : decode cX11_reader 45 = .ok (.getfield 251, 3) := by decide +kernel
theorem dX11_reader_48 : decode cX11_reader 48 = .ok (.iload_n 1, 1) := by decide +kernel
theorem dX11_reader_49 : decode cX11_reader 49 = .ok (.invokestatic 254, 3) := by decide +kernel
theorem dX11_reader_52 : decode cX11_reader 52 = .ok (.invokevirtual 191, 3) := by decide +kernel
theorem dX11_reader_55 : decode cX11_reader 55 = .ok (.ireturn, 1) := by decide +kernel
set_option maxRecDepth 20000 in
theorem ggX11_word_X0_has : GoodIn wsX11_word wsX0_has := goodIn_r _ [8, 9, 10, 11, 7, 12, 13, 49, 50, 51, 52, 53, 54, 55, 56, 57, 58, 59, 60, 61, 62] (by decide +kernel) (by decide +kernel)
set_option maxRecDepth 20000 in
theorem gX11_word_X0_has : GoodIn wsX11_word (wsV RX11 213 RX0 yX0_has wsX0_has) := goodIn_app (goodIn_of _ (by decide +kernel)) ggX11_word_X0_has
set_option maxRecDepth 20000 in
theorem ggX11_word_X11_within : GoodIn wsX11_word wsX11_within := goodIn_r _ [17] (by decide +kernel) (by decide +kernel)
set_option maxRecDepth 20000 in
theorem gX11_word_X11_within : GoodIn wsX11_word (va_wsS RX11 104 yX11_within wsX11_within) := goodIn_app (goodIn_of _ (by decide +kernel)) ggX11_word_X11_within
set_option maxRecDepth 20000 in
theorem ggX11_word_X11_refused : GoodIn wsX11_word wsX11_refused := goodIn_r _ [21, 22, 30, 31, 32, 33, 34, 35, 36, 37, 38, 39, 40, 41, 42, 43, 44, 45, 46, 47, 48] (by decide +kernel) (by decide +kernel)
set_option maxRecDepth 20000 in
theorem gX11_word_X11_refused : GoodIn wsX11_word (wsV RX11 132 RX11 yX11_refused wsX11_refused) := goodIn_app (goodIn_of _ (by decide +kernel)) ggX11_word_X11_refused
set_option maxRecDepth 20000 in
theorem ggX11_word_X11_cell : GoodIn wsX11_word wsX11_cell := goodIn_r _ [25] (by decide +kernel) (by decide +kernel)
set_option maxRecDepth 20000 in
theorem gX11_word_X11_cell : GoodIn wsX11_word (va_wsS RX11 254 yX11_cell wsX11_cell) := goodIn_app (goodIn_of _ (by decide +kernel)) ggX11_word_X11_cell
set_option maxRecDepth 20000 in
theorem ggX11_word_X11_given : GoodIn wsX11_word wsX11_given := goodIn_r _ [29, 22, 30, 31, 32, 33, 34, 35, 36, 37, 38, 39, 40, 41, 42, 43, 44, 45, 46, 47, 48] (by decide +kernel) (by decide +kernel)
set_option maxRecDepth 20000 in
theorem gX11_word_X11_given : GoodIn wsX11_word (wsV RX11 191 RX11 yX11_given wsX11_given) := goodIn_app (goodIn_of _ (by decide +kernel)) ggX11_word_X11_given
theorem dX11_word_0 : decode cX11_word 0 = .ok (.aload_n 0, 1) := by decide +kernel
theorem dX11_word_1 : decode cX11_word 1 = .ok (.getfield 10, 3) := by decide +kernel
theorem dX11_word_4 : decode cX11_word 4 = .ok (.iconst 5, 1) := by decide +kernel
theorem dX11_word_5 : decode cX11_word 5 = .ok (.iload_n 1, 1) := by decide +kernel
theorem dX11_word_6 : decode cX11_word 6 = .ok (.invokevirtual 213, 3) := by decide +kernel
theorem dX11_word_9 : decode cX11_word 9 = .ok (.ifCond .eq 11, 3) := by decide +kernel
theorem dX11_word_12 : decode cX11_word 12 = .ok (.iload_n 2, 1) := by decide +kernel
theorem dX11_word_13 : decode cX11_word 13 = .ok (.iconst 2, 1) := by decide +kernel
theorem dX11_word_14 : decode cX11_word 14 = .ok (.invokestatic 104, 3) := by decide +kernel
theorem dX11_word_17 : decode cX11_word 17 = .ok (.ifCond .ne 9, 3) := by decide +kernel
theorem dX11_word_20 : decode cX11_word 20 = .ok (.aload_n 0, 1) := by decide +kernel
theorem dX11_word_21 : decode cX11_word 21 = .ok (.iconst 1, 1) := by decide +kernel
theorem dX11_word_22 : decode cX11_word 22 = .ok (.invokevirtual 132, 3) := by decide +kernel
theorem dX11_word_25 : decode cX11_word 25 = .ok (.ireturn, 1) := by decide +kernel
theorem dX11_word_26 : decode cX11_word 26 = .ok (.aload_n 0, 1) := by decide +kernel
theorem dX11_word_27 : decode cX11_word 27 = .ok (.iload_n 2, 1) := by decide +kernel
theorem dX11_word_28 : decode cX11_word 28 = .ok (.ifCond .ne 13, 3) := by decide +kernel
theorem dX11_word_31 : decode cX11_word 31 = .ok (.aload_n 0, 1) := by decide +kernel
theorem dX11_word_32 : decode cX11_word 32 = .ok (.getfield 10, 3) := by decide +kernel
theorem dX11_word_35 : decode cX11_word 35 = .ok (.getfield 258, 3) := by decide +kernel
theorem dX11_word_38 : decode cX11_word 38 = .ok (.goto 10, 3) := by decide +kernel
theorem dX11_word_41 : decode cX11_word 41 = .ok (.aload_n 0, 1) := by decide +kernel
theorem dX11_word_42 : decode cX11_word 42 = .ok (.getfield 10, 3) := by decide +kernel
theorem dX11_word_45 : decode cX11_word 45 = .ok (.getfield 261, 3) := by decide +kernel
theorem dX11_word_48 : decode cX11_word 48 = .ok (.iload_n 1, 1) := by decide +kernel
theorem dX11_word_49 : decode cX11_word 49 = .ok (.invokestatic 254, 3) := by decide +kernel
theorem dX11_word_52 : decode cX11_word 52 = .ok (.invokevirtual 191, 3) := by decide +kernel
theorem dX11_word_55 : decode cX11_word 55 = .ok (.ireturn, 1) := by decide +kernel
set_option maxRecDepth 20000 in
theorem ggX11_sit_X0_has : GoodIn wsX11_sit wsX0_has := goodIn_r _ [6, 7, 8, 9, 5, 10, 11, 91, 92, 93, 94, 95, 96, 97, 98, 99, 100, 101, 102, 103, 104] (by decide +kernel) (by decide +kernel)
set_option maxRecDepth 20000 in
theorem gX11_sit_X0_has : GoodIn wsX11_sit (wsV RX11 213 RX0 yX0_has wsX0_has) := goodIn_app (goodIn_of _ (by decide +kernel)) ggX11_sit_X0_has
set_option maxRecDepth 20000 in
theorem ggX11_sit_X11_refused : GoodIn wsX11_sit wsX11_refused := goodIn_r _ [16, 17, 72, 73, 74, 75, 76, 77, 78, 79, 80, 81, 82, 83, 84, 85, 86, 87, 88, 89, 90] (by decide +kernel) (by decide +kernel)
set_option maxRecDepth 20000 in
theorem gX11_sit_X11_refused : GoodIn wsX11_sit (wsV RX11 132 RX11 yX11_refused wsX11_refused) := goodIn_app (goodIn_of _ (by decide +kernel)) ggX11_sit_X11_refused
set_option maxRecDepth 20000 in
theorem ggX11_sit_X0_hasRoomFor : GoodIn wsX11_sit wsX0_hasRoomFor := goodIn_r _ [21, 22, 91, 92, 93, 94, 95, 96, 97, 98, 99, 100, 101, 102, 103, 104] (by decide +kernel) (by decide +kernel)
set_option maxRecDepth 20000 in
theorem gX11_sit_X0_hasRoomFor : GoodIn wsX11_sit (wsV RX11 264 RX0 yX0_hasRoomFor wsX0_hasRoomFor) := goodIn_app (goodIn_of _ (by decide +kernel)) ggX11_sit_X0_hasRoomFor
set_option maxRecDepth 20000 in
theorem ggX11_sit_X0_sitBefore : GoodIn wsX11_sit wsX0_sitBefore := goodIn_r _ [26, 27, 28, 29, 30, 31, 22, 32, 33, 34, 35, 5, 36, 37, 38, 39, 40, 41, 42, 43, 44, 45, 46, 47, 48, 49, 50, 7, 8, 9, 10, 11, 51, 52, 53, 54, 55, 56, 57, 58, 59, 60, 61, 62, 63, 64, 65, 66, 67, 91, 92, 93, 94, 95, 96, 97, 98, 99, 100, 101, 102, 103, 104, 105, 106, 107, 108, 109, 110, 111, 112, 113, 114, 115, 116, 117, 118] (by decide +kernel) (by decide +kernel)
set_option maxRecDepth 20000 in
theorem gX11_sit_X0_sitBefore : GoodIn wsX11_sit (wsV RX11 267 RX0 yX0_sitBefore wsX0_sitBefore) := goodIn_app (goodIn_of _ (by decide +kernel)) ggX11_sit_X0_sitBefore
set_option maxRecDepth 20000 in
theorem ggX11_sit_X11_given : GoodIn wsX11_sit wsX11_given := goodIn_r _ [71, 17, 72, 73, 74, 75, 76, 77, 78, 79, 80, 81, 82, 83, 84, 85, 86, 87, 88, 89, 90] (by decide +kernel) (by decide +kernel)
set_option maxRecDepth 20000 in
theorem gX11_sit_X11_given : GoodIn wsX11_sit (wsV RX11 191 RX11 yX11_given wsX11_given) := goodIn_app (goodIn_of _ (by decide +kernel)) ggX11_sit_X11_given
theorem dX11_sit_0 : decode cX11_sit 0 = .ok (.aload_n 0, 1) := by decide +kernel
theorem dX11_sit_1 : decode cX11_sit 1 = .ok (.getfield 10, 3) := by decide +kernel
theorem dX11_sit_4 : decode cX11_sit 4 = .ok (.iconst 3, 1) := by decide +kernel
theorem dX11_sit_5 : decode cX11_sit 5 = .ok (.iload_n 1, 1) := by decide +kernel
theorem dX11_sit_6 : decode cX11_sit 6 = .ok (.invokevirtual 213, 3) := by decide +kernel
theorem dX11_sit_9 : decode cX11_sit 9 = .ok (.ifCond .ne 9, 3) := by decide +kernel
theorem dX11_sit_12 : decode cX11_sit 12 = .ok (.aload_n 0, 1) := by decide +kernel
theorem dX11_sit_13 : decode cX11_sit 13 = .ok (.iconst 1, 1) := by decide +kernel
theorem dX11_sit_14 : decode cX11_sit 14 = .ok (.invokevirtual 132, 3) := by decide +kernel
theorem dX11_sit_17 : decode cX11_sit 17 = .ok (.ireturn, 1) := by decide +kernel
theorem dX11_sit_18 : decode cX11_sit 18 = .ok (.aload_n 0, 1) := by decide +kernel
theorem dX11_sit_19 : decode cX11_sit 19 = .ok (.getfield 10, 3) := by decide +kernel
theorem dX11_sit_22 : decode cX11_sit 22 = .ok (.iconst 1, 1) := by decide +kernel
theorem dX11_sit_23 : decode cX11_sit 23 = .ok (.invokevirtual 264, 3) := by decide +kernel
theorem dX11_sit_26 : decode cX11_sit 26 = .ok (.ifCond .ne 9, 3) := by decide +kernel
theorem dX11_sit_29 : decode cX11_sit 29 = .ok (.aload_n 0, 1) := by decide +kernel
theorem dX11_sit_30 : decode cX11_sit 30 = .ok (.iconst 4, 1) := by decide +kernel
theorem dX11_sit_31 : decode cX11_sit 31 = .ok (.invokevirtual 132, 3) := by decide +kernel
theorem dX11_sit_34 : decode cX11_sit 34 = .ok (.ireturn, 1) := by decide +kernel
theorem dX11_sit_35 : decode cX11_sit 35 = .ok (.aload_n 0, 1) := by decide +kernel
theorem dX11_sit_36 : decode cX11_sit 36 = .ok (.aload_n 0, 1) := by decide +kernel
theorem dX11_sit_37 : decode cX11_sit 37 = .ok (.getfield 10, 3) := by decide +kernel
theorem dX11_sit_40 : decode cX11_sit 40 = .ok (.iload_n 1, 1) := by decide +kernel
theorem dX11_sit_41 : decode cX11_sit 41 = .ok (.invokevirtual 267, 3) := by decide +kernel
theorem dX11_sit_44 : decode cX11_sit 44 = .ok (.invokevirtual 191, 3) := by decide +kernel
theorem dX11_sit_47 : decode cX11_sit 47 = .ok (.ireturn, 1) := by decide +kernel
set_option maxRecDepth 20000 in
theorem ggX11_term_X0_setOfFate : GoodIn wsX11_term wsX0_setOfFate := goodIn_r _ [6, 7, 8, 9, 10, 5, 11, 12, 13, 14, 15, 16, 17, 18, 114, 115, 116, 117, 118, 119, 120, 121, 122, 123, 124, 125, 126, 127, 128, 129, 130, 131, 132] (by decide +kernel) (by decide +kernel)
set_option maxRecDepth 20000 in
theorem gX11_term_X0_setOfFate : GoodIn wsX11_term (wsV RX11 200 RX0 yX0_setOfFate wsX0_setOfFate) := goodIn_app (goodIn_of _ (by decide +kernel)) ggX11_term_X0_setOfFate
set_option maxRecDepth 20000 in
theorem ggX11_term_J6_bitCount_0f7a4 : GoodIn wsX11_term wsJ6_bitCount_0f7a4 := goodIn_r _ [22, 23, 24, 25] (by decide +kernel) (by decide +kernel)
set_option maxRecDepth 20000 in
theorem gX11_term_J6_bitCount_0f7a4 : GoodIn wsX11_term (va_wsS RX11 270 yJ6_bitCount_0f7a4 wsJ6_bitCount_0f7a4) := goodIn_app (goodIn_of _ (by decide +kernel)) ggX11_term_J6_bitCount_0f7a4
set_option maxRecDepth 20000 in
theorem ggX11_term_X0_hasRoomFor : GoodIn wsX11_term wsX0_hasRoomFor := goodIn_r _ [29, 30, 119, 120, 121, 122, 123, 124, 125, 126, 127, 128, 129, 130, 131, 132] (by decide +kernel) (by decide +kernel)
set_option maxRecDepth 20000 in
theorem gX11_term_X0_hasRoomFor : GoodIn wsX11_term (wsV RX11 264 RX0 yX0_hasRoomFor wsX0_hasRoomFor) := goodIn_app (goodIn_of _ (by decide +kernel)) ggX11_term_X0_hasRoomFor
set_option maxRecDepth 20000 in
theorem ggX11_term_X11_refused : GoodIn wsX11_term wsX11_refused := goodIn_r _ [35, 36, 95, 96, 97, 98, 99, 100, 101, 102, 103, 104, 105, 106, 107, 108, 109, 110, 111, 112, 113] (by decide +kernel) (by decide +kernel)
set_option maxRecDepth 20000 in
theorem gX11_term_X11_refused : GoodIn wsX11_term (wsV RX11 132 RX11 yX11_refused wsX11_refused) := goodIn_app (goodIn_of _ (by decide +kernel)) ggX11_term_X11_refused
set_option maxRecDepth 20000 in
theorem ggX11_term_X0_holdTerm : GoodIn wsX11_term wsX0_holdTerm := goodIn_r _ [40, 7, 8, 9, 10, 5, 11, 12, 13, 14, 15, 16, 17, 18, 41, 42, 43, 44, 45, 46, 47, 48, 49, 30, 50, 51, 52, 53, 54, 55, 56, 57, 58, 59, 60, 61, 62, 63, 64, 65, 66, 67, 68, 69, 70, 71, 72, 73, 74, 75, 76, 77, 78, 79, 80, 81, 82, 83, 84, 85, 86, 87, 88, 89, 34, 90, 114, 115, 116, 117, 118, 119, 120, 121, 122, 123, 124, 125, 126, 127, 128, 129, 130, 131, 132, 133, 134, 135, 136, 137, 138, 139, 140, 141] (by decide +kernel) (by decide +kernel)
set_option maxRecDepth 20000 in
theorem gX11_term_X0_holdTerm : GoodIn wsX11_term (wsV RX11 275 RX0 yX0_holdTerm wsX0_holdTerm) := goodIn_app (goodIn_of _ (by decide +kernel)) ggX11_term_X0_holdTerm
set_option maxRecDepth 20000 in
theorem ggX11_term_X11_given : GoodIn wsX11_term wsX11_given := goodIn_r _ [94, 36, 95, 96, 97, 98, 99, 100, 101, 102, 103, 104, 105, 106, 107, 108, 109, 110, 111, 112, 113] (by decide +kernel) (by decide +kernel)
set_option maxRecDepth 20000 in
theorem gX11_term_X11_given : GoodIn wsX11_term (wsV RX11 191 RX11 yX11_given wsX11_given) := goodIn_app (goodIn_of _ (by decide +kernel)) ggX11_term_X11_given
theorem dX11_term_0 : decode cX11_term 0 = .ok (.aload_n 0, 1) := by decide +kernel
theorem dX11_term_1 : decode cX11_term 1 = .ok (.getfield 10, 3) := by decide +kernel
theorem dX11_term_4 : decode cX11_term 4 = .ok (.iconst 0, 1) := by decide +kernel
theorem dX11_term_5 : decode cX11_term 5 = .ok (.invokevirtual 200, 3) := by decide +kernel
theorem dX11_term_8 : decode cX11_term 8 = .ok (.invokestatic 270, 3) := by decide +kernel
theorem dX11_term_11 : decode cX11_term 11 = .ok (.istore_n 1, 1) := by decide +kernel
theorem dX11_term_12 : decode cX11_term 12 = .ok (.aload_n 0, 1) := by decide +kernel
theorem dX11_term_13 : decode cX11_term 13 = .ok (.getfield 10, 3) := by decide +kernel
theorem dX11_term_16 : decode cX11_term 16 = .ok (.iload_n 1, 1) := by decide +kernel
theorem dX11_term_17 : decode cX11_term 17 = .ok (.invokevirtual 264, 3) := by decide +kernel
theorem dX11_term_20 : decode cX11_term 20 = .ok (.ifCond .ne 9, 3) := by decide +kernel
theorem dX11_term_23 : decode cX11_term 23 = .ok (.aload_n 0, 1) := by decide +kernel
theorem dX11_term_24 : decode cX11_term 24 = .ok (.iconst 4, 1) := by decide +kernel
theorem dX11_term_25 : decode cX11_term 25 = .ok (.invokevirtual 132, 3) := by decide +kernel
theorem dX11_term_28 : decode cX11_term 28 = .ok (.ireturn, 1) := by decide +kernel
theorem dX11_term_29 : decode cX11_term 29 = .ok (.iload_n 1, 1) := by decide +kernel
theorem dX11_term_30 : decode cX11_term 30 = .ok (.ifCond .ne 10, 3) := by decide +kernel
theorem dX11_term_33 : decode cX11_term 33 = .ok (.aload_n 0, 1) := by decide +kernel
theorem dX11_term_34 : decode cX11_term 34 = .ok (.bipush 7, 2) := by decide +kernel
theorem dX11_term_36 : decode cX11_term 36 = .ok (.invokevirtual 132, 3) := by decide +kernel
theorem dX11_term_39 : decode cX11_term 39 = .ok (.ireturn, 1) := by decide +kernel
theorem dX11_term_40 : decode cX11_term 40 = .ok (.aload_n 0, 1) := by decide +kernel
theorem dX11_term_41 : decode cX11_term 41 = .ok (.aload_n 0, 1) := by decide +kernel
theorem dX11_term_42 : decode cX11_term 42 = .ok (.getfield 10, 3) := by decide +kernel
theorem dX11_term_45 : decode cX11_term 45 = .ok (.invokevirtual 275, 3) := by decide +kernel
theorem dX11_term_48 : decode cX11_term 48 = .ok (.invokevirtual 191, 3) := by decide +kernel
theorem dX11_term_51 : decode cX11_term 51 = .ok (.ireturn, 1) := by decide +kernel
set_option maxRecDepth 20000 in
theorem ggX11_meal_X0_has : GoodIn wsX11_meal wsX0_has := goodIn_r _ [7, 8, 9, 10, 6, 11, 12, 63, 64, 65, 66, 67, 68, 69, 70, 71, 72, 73, 74, 75, 76] (by decide +kernel) (by decide +kernel)
set_option maxRecDepth 20000 in
theorem gX11_meal_X0_has : GoodIn wsX11_meal (wsV RX11 213 RX0 yX0_has wsX0_has) := goodIn_app (goodIn_of _ (by decide +kernel)) ggX11_meal_X0_has
set_option maxRecDepth 20000 in
theorem ggX11_meal_X11_refused : GoodIn wsX11_meal wsX11_refused := goodIn_r _ [17, 18, 39, 40, 41, 42, 43, 44, 45, 46, 47, 48, 49, 50, 51, 52, 53, 54, 55, 56, 57] (by decide +kernel) (by decide +kernel)
set_option maxRecDepth 20000 in
theorem gX11_meal_X11_refused : GoodIn wsX11_meal (wsV RX11 132 RX11 yX11_refused wsX11_refused) := goodIn_app (goodIn_of _ (by decide +kernel)) ggX11_meal_X11_refused
set_option maxRecDepth 20000 in
theorem ggX11_meal_X0_feedPerson : GoodIn wsX11_meal wsX0_feedPerson := goodIn_r _ [22, 23, 24, 25, 26, 27, 28, 29, 30, 6, 31, 32, 33, 58, 59, 60, 61, 62, 63, 64, 65, 66, 67, 68, 69, 70, 71, 72, 73, 74, 75, 76] (by decide +kernel) (by decide +kernel)
set_option maxRecDepth 20000 in
theorem gX11_meal_X0_feedPerson : GoodIn wsX11_meal (wsV RX11 278 RX0 yX0_feedPerson wsX0_feedPerson) := goodIn_app (goodIn_of _ (by decide +kernel)) ggX11_meal_X0_feedPerson
set_option maxRecDepth 20000 in
theorem ggX11_meal_X0_personAt : GoodIn wsX11_meal wsX0_personAt := goodIn_r _ [31, 32, 33, 63, 64, 65, 66, 67, 68, 69, 70, 71, 72, 73, 74, 75, 76] (by decide +kernel) (by decide +kernel)
set_option maxRecDepth 20000 in
theorem gX11_meal_X0_personAt : GoodIn wsX11_meal (wsV RX11 228 RX0 yX0_personAt wsX0_personAt) := goodIn_app (goodIn_of _ (by decide +kernel)) ggX11_meal_X0_personAt
set_option maxRecDepth 20000 in
theorem ggX11_meal_X11_given : GoodIn wsX11_meal wsX11_given := goodIn_r _ [38, 18, 39, 40, 41, 42, 43, 44, 45, 46, 47, 48, 49, 50, 51, 52, 53, 54, 55, 56, 57] (by decide +kernel) (by decide +kernel)
set_option maxRecDepth 20000 in
theorem gX11_meal_X11_given : GoodIn wsX11_meal (wsV RX11 191 RX11 yX11_given wsX11_given) := goodIn_app (goodIn_of _ (by decide +kernel)) ggX11_meal_X11_given
theorem dX11_meal_0 : decode cX11_meal 0 = .ok (.aload_n 0, 1) := by decide +kernel
theorem dX11_meal_1 : decode cX11_meal 1 = .ok (.getfield 10, 3) := by decide +kernel
theorem dX11_meal_4 : decode cX11_meal 4 = .ok (.iconst 3, 1) := by decide +kernel
theorem dX11_meal_5 : decode cX11_meal 5 = .ok (.iload_n 1, 1) := by decide +kernel
theorem dX11_meal_6 : decode cX11_meal 6 = .ok (.invokevirtual 213, 3) := by decide +kernel
theorem dX11_meal_9 : decode cX11_meal 9 = .ok (.ifCond .eq 14, 3) := by decide +kernel
theorem dX11_meal_12 : decode cX11_meal 12 = .ok (.iload_n 2, 1) := by decide +kernel
theorem dX11_meal_13 : decode cX11_meal 13 = .ok (.iconst 1, 1) := by decide +kernel
theorem dX11_meal_14 : decode cX11_meal 14 = .ok (.if_icmp .lt 9, 3) := by decide +kernel
theorem dX11_meal_17 : decode cX11_meal 17 = .ok (.iload_n 2, 1) := by decide +kernel
theorem dX11_meal_18 : decode cX11_meal 18 = .ok (.bipush 99, 2) := by decide +kernel
theorem dX11_meal_20 : decode cX11_meal 20 = .ok (.if_icmp .le 9, 3) := by decide +kernel
theorem dX11_meal_23 : decode cX11_meal 23 = .ok (.aload_n 0, 1) := by decide +kernel
theorem dX11_meal_24 : decode cX11_meal 24 = .ok (.iconst 1, 1) := by decide +kernel
theorem dX11_meal_25 : decode cX11_meal 25 = .ok (.invokevirtual 132, 3) := by decide +kernel
theorem dX11_meal_28 : decode cX11_meal 28 = .ok (.ireturn, 1) := by decide +kernel
theorem dX11_meal_29 : decode cX11_meal 29 = .ok (.aload_n 0, 1) := by decide +kernel
theorem dX11_meal_30 : decode cX11_meal 30 = .ok (.getfield 10, 3) := by decide +kernel
theorem dX11_meal_33 : decode cX11_meal 33 = .ok (.iload_n 1, 1) := by decide +kernel
theorem dX11_meal_34 : decode cX11_meal 34 = .ok (.iload_n 2, 1) := by decide +kernel
theorem dX11_meal_35 : decode cX11_meal 35 = .ok (.invokevirtual 278, 3) := by decide +kernel
theorem dX11_meal_38 : decode cX11_meal 38 = .ok (.ifCond .ne 10, 3) := by decide +kernel
theorem dX11_meal_41 : decode cX11_meal 41 = .ok (.aload_n 0, 1) := by decide +kernel
theorem dX11_meal_42 : decode cX11_meal 42 = .ok (.bipush 7, 2) := by decide +kernel
theorem dX11_meal_44 : decode cX11_meal 44 = .ok (.invokevirtual 132, 3) := by decide +kernel
theorem dX11_meal_47 : decode cX11_meal 47 = .ok (.ireturn, 1) := by decide +kernel
theorem dX11_meal_48 : decode cX11_meal 48 = .ok (.aload_n 0, 1) := by decide +kernel
theorem dX11_meal_49 : decode cX11_meal 49 = .ok (.aload_n 0, 1) := by decide +kernel
theorem dX11_meal_50 : decode cX11_meal 50 = .ok (.getfield 10, 3) := by decide +kernel
theorem dX11_meal_53 : decode cX11_meal 53 = .ok (.iload_n 1, 1) := by decide +kernel
theorem dX11_meal_54 : decode cX11_meal 54 = .ok (.invokevirtual 228, 3) := by decide +kernel
theorem dX11_meal_57 : decode cX11_meal 57 = .ok (.getfield 232, 3) := by decide +kernel
theorem dX11_meal_60 : decode cX11_meal 60 = .ok (.invokevirtual 191, 3) := by decide +kernel
theorem dX11_meal_63 : decode cX11_meal 63 = .ok (.ireturn, 1) := by decide +kernel
set_option maxRecDepth 20000 in
theorem ggX11_scent_X0_has : GoodIn wsX11_scent wsX0_has := goodIn_r _ [6, 7, 8, 9, 5, 10, 11, 54, 55, 56, 57, 58, 59, 60, 61, 62, 63, 64, 65, 66, 67] (by decide +kernel) (by decide +kernel)
set_option maxRecDepth 20000 in
theorem gX11_scent_X0_has : GoodIn wsX11_scent (wsV RX11 213 RX0 yX0_has wsX0_has) := goodIn_app (goodIn_of _ (by decide +kernel)) ggX11_scent_X0_has
set_option maxRecDepth 20000 in
theorem ggX11_scent_X11_denied : GoodIn wsX11_scent wsX11_denied := goodIn_r _ [16, 17, 35, 36, 37, 38, 39, 40, 41, 42, 43, 44, 45, 46, 47, 48, 49, 50, 51, 52, 53] (by decide +kernel) (by decide +kernel)
set_option maxRecDepth 20000 in
theorem gX11_scent_X11_denied : GoodIn wsX11_scent (wsV RX11 108 RX11 yX11_denied wsX11_denied) := goodIn_app (goodIn_of _ (by decide +kernel)) ggX11_scent_X11_denied
set_option maxRecDepth 20000 in
theorem ggX11_scent_X0_setSmell : GoodIn wsX11_scent wsX0_setSmell := goodIn_r _ [21, 22, 23, 24, 25, 5, 26, 27, 28, 29, 15, 30, 68, 69, 70, 71, 72, 54, 55, 56, 57, 58, 59, 60, 61, 62, 63, 64, 65, 66, 67] (by decide +kernel) (by decide +kernel)
set_option maxRecDepth 20000 in
theorem gX11_scent_X0_setSmell : GoodIn wsX11_scent (wsV RX11 281 RX0 yX0_setSmell wsX0_setSmell) := goodIn_app (goodIn_of _ (by decide +kernel)) ggX11_scent_X0_setSmell
set_option maxRecDepth 20000 in
theorem ggX11_scent_X11_done : GoodIn wsX11_scent wsX11_done := goodIn_r _ [34, 17, 35, 36, 37, 38, 39, 40, 41, 42, 43, 44, 45, 46, 47, 48, 49, 50, 51, 52, 53] (by decide +kernel) (by decide +kernel)
set_option maxRecDepth 20000 in
theorem gX11_scent_X11_done : GoodIn wsX11_scent (wsV RX11 120 RX11 yX11_done wsX11_done) := goodIn_app (goodIn_of _ (by decide +kernel)) ggX11_scent_X11_done
theorem dX11_scent_0 : decode cX11_scent 0 = .ok (.aload_n 0, 1) := by decide +kernel
theorem dX11_scent_1 : decode cX11_scent 1 = .ok (.getfield 10, 3) := by decide +kernel
theorem dX11_scent_4 : decode cX11_scent 4 = .ok (.iconst 3, 1) := by decide +kernel
theorem dX11_scent_5 : decode cX11_scent 5 = .ok (.iload_n 1, 1) := by decide +kernel
theorem dX11_scent_6 : decode cX11_scent 6 = .ok (.invokevirtual 213, 3) := by decide +kernel
theorem dX11_scent_9 : decode cX11_scent 9 = .ok (.ifCond .eq 15, 3) := by decide +kernel
theorem dX11_scent_12 : decode cX11_scent 12 = .ok (.aload_n 0, 1) := by decide +kernel
theorem dX11_scent_13 : decode cX11_scent 13 = .ok (.getfield 10, 3) := by decide +kernel
theorem dX11_scent_16 : decode cX11_scent 16 = .ok (.iconst 0, 1) := by decide +kernel
theorem dX11_scent_17 : decode cX11_scent 17 = .ok (.iload_n 2, 1) := by decide +kernel
theorem dX11_scent_18 : decode cX11_scent 18 = .ok (.invokevirtual 213, 3) := by decide +kernel
theorem dX11_scent_21 : decode cX11_scent 21 = .ok (.ifCond .ne 9, 3) := by decide +kernel
theorem dX11_scent_24 : decode cX11_scent 24 = .ok (.aload_n 0, 1) := by decide +kernel
theorem dX11_scent_25 : decode cX11_scent 25 = .ok (.iconst 1, 1) := by decide +kernel
theorem dX11_scent_26 : decode cX11_scent 26 = .ok (.invokevirtual 108, 3) := by decide +kernel
theorem dX11_scent_29 : decode cX11_scent 29 = .ok (.ireturn, 1) := by decide +kernel
theorem dX11_scent_30 : decode cX11_scent 30 = .ok (.aload_n 0, 1) := by decide +kernel
theorem dX11_scent_31 : decode cX11_scent 31 = .ok (.getfield 10, 3) := by decide +kernel
theorem dX11_scent_34 : decode cX11_scent 34 = .ok (.iload_n 1, 1) := by decide +kernel
theorem dX11_scent_35 : decode cX11_scent 35 = .ok (.iload_n 2, 1) := by decide +kernel
theorem dX11_scent_36 : decode cX11_scent 36 = .ok (.iload_n 3, 1) := by decide +kernel
theorem dX11_scent_37 : decode cX11_scent 37 = .ok (.invokevirtual 281, 3) := by decide +kernel
theorem dX11_scent_40 : decode cX11_scent 40 = .ok (.ifCond .eq 10, 3) := by decide +kernel
theorem dX11_scent_43 : decode cX11_scent 43 = .ok (.aload_n 0, 1) := by decide +kernel
theorem dX11_scent_44 : decode cX11_scent 44 = .ok (.invokevirtual 120, 3) := by decide +kernel
theorem dX11_scent_47 : decode cX11_scent 47 = .ok (.goto 9, 3) := by decide +kernel
theorem dX11_scent_50 : decode cX11_scent 50 = .ok (.aload_n 0, 1) := by decide +kernel
theorem dX11_scent_51 : decode cX11_scent 51 = .ok (.bipush 7, 2) := by decide +kernel
theorem dX11_scent_53 : decode cX11_scent 53 = .ok (.invokevirtual 108, 3) := by decide +kernel
theorem dX11_scent_56 : decode cX11_scent 56 = .ok (.ireturn, 1) := by decide +kernel
set_option maxRecDepth 20000 in
theorem ggX11_night_X0_coolDown : GoodIn wsX11_night wsX0_coolDown := goodIn_r _ [7, 8, 38, 39, 40, 41, 42, 43, 44, 45, 46, 47, 48, 49, 50, 51] (by decide +kernel) (by decide +kernel)
set_option maxRecDepth 20000 in
theorem gX11_night_X0_coolDown : GoodIn wsX11_night (wsV RX11 285 RX0 yX0_coolDown wsX0_coolDown) := goodIn_app (goodIn_of _ (by decide +kernel)) ggX11_night_X0_coolDown
set_option maxRecDepth 20000 in
theorem ggX11_night_X11_given : GoodIn wsX11_night wsX11_given := goodIn_r _ [13, 14, 19, 20, 21, 22, 23, 24, 25, 26, 27, 28, 29, 30, 31, 32, 33, 34, 35, 36, 37] (by decide +kernel) (by decide +kernel)
set_option maxRecDepth 20000 in
theorem gX11_night_X11_given : GoodIn wsX11_night (wsV RX11 191 RX11 yX11_given wsX11_given) := goodIn_app (goodIn_of _ (by decide +kernel)) ggX11_night_X11_given
set_option maxRecDepth 20000 in
theorem ggX11_night_X11_refused : GoodIn wsX11_night wsX11_refused := goodIn_r _ [18, 14, 19, 20, 21, 22, 23, 24, 25, 26, 27, 28, 29, 30, 31, 32, 33, 34, 35, 36, 37] (by decide +kernel) (by decide +kernel)
set_option maxRecDepth 20000 in
theorem gX11_night_X11_refused : GoodIn wsX11_night (wsV RX11 132 RX11 yX11_refused wsX11_refused) := goodIn_app (goodIn_of _ (by decide +kernel)) ggX11_night_X11_refused
theorem dX11_night_0 : decode cX11_night 0 = .ok (.aload_n 0, 1) := by decide +kernel
theorem dX11_night_1 : decode cX11_night 1 = .ok (.getfield 10, 3) := by decide +kernel
theorem dX11_night_4 : decode cX11_night 4 = .ok (.getfield 194, 3) := by decide +kernel
theorem dX11_night_7 : decode cX11_night 7 = .ok (.istore_n 1, 1) := by decide +kernel
theorem dX11_night_8 : decode cX11_night 8 = .ok (.aload_n 0, 1) := by decide +kernel
theorem dX11_night_9 : decode cX11_night 9 = .ok (.getfield 10, 3) := by decide +kernel
theorem dX11_night_12 : decode cX11_night 12 = .ok (.invokevirtual 285, 3) := by decide +kernel
theorem dX11_night_15 : decode cX11_night 15 = .ok (.ifCond .eq 11, 3) := by decide +kernel
theorem dX11_night_18 : decode cX11_night 18 = .ok (.aload_n 0, 1) := by decide +kernel
theorem dX11_night_19 : decode cX11_night 19 = .ok (.iload_n 1, 1) := by decide +kernel
theorem dX11_night_20 : decode cX11_night 20 = .ok (.invokevirtual 191, 3) := by decide +kernel
theorem dX11_night_23 : decode cX11_night 23 = .ok (.goto 9, 3) := by decide +kernel
theorem dX11_night_26 : decode cX11_night 26 = .ok (.aload_n 0, 1) := by decide +kernel
theorem dX11_night_27 : decode cX11_night 27 = .ok (.bipush 7, 2) := by decide +kernel
theorem dX11_night_29 : decode cX11_night 29 = .ok (.invokevirtual 132, 3) := by decide +kernel
theorem dX11_night_32 : decode cX11_night 32 = .ok (.ireturn, 1) := by decide +kernel
set_option maxRecDepth 20000 in
theorem ggX11_appeal_X0_has : GoodIn wsX11_appeal wsX0_has := goodIn_r _ [7, 8, 9, 10, 6, 11, 12, 53, 54, 55, 56, 57, 58, 59, 60, 61, 62, 63, 64, 65, 66] (by decide +kernel) (by decide +kernel)
set_option maxRecDepth 20000 in
theorem gX11_appeal_X0_has : GoodIn wsX11_appeal (wsV RX11 213 RX0 yX0_has wsX0_has) := goodIn_app (goodIn_of _ (by decide +kernel)) ggX11_appeal_X0_has
set_option maxRecDepth 20000 in
theorem ggX11_appeal_X11_refused : GoodIn wsX11_appeal wsX11_refused := goodIn_r _ [17, 18, 29, 30, 31, 32, 33, 34, 35, 36, 37, 38, 39, 40, 41, 42, 43, 44, 45, 46, 47] (by decide +kernel) (by decide +kernel)
set_option maxRecDepth 20000 in
theorem gX11_appeal_X11_refused : GoodIn wsX11_appeal (wsV RX11 132 RX11 yX11_refused wsX11_refused) := goodIn_app (goodIn_of _ (by decide +kernel)) ggX11_appeal_X11_refused
set_option maxRecDepth 20000 in
theorem ggX11_appeal_X0_personAt : GoodIn wsX11_appeal wsX0_personAt := goodIn_r _ [22, 23, 24, 53, 54, 55, 56, 57, 58, 59, 60, 61, 62, 63, 64, 65, 66] (by decide +kernel) (by decide +kernel)
set_option maxRecDepth 20000 in
theorem gX11_appeal_X0_personAt : GoodIn wsX11_appeal (wsV RX11 228 RX0 yX0_personAt wsX0_personAt) := goodIn_app (goodIn_of _ (by decide +kernel)) ggX11_appeal_X0_personAt
set_option maxRecDepth 20000 in
theorem ggX11_appeal_X11_given : GoodIn wsX11_appeal wsX11_given := goodIn_r _ [28, 18, 29, 30, 31, 32, 33, 34, 35, 36, 37, 38, 39, 40, 41, 42, 43, 44, 45, 46, 47] (by decide +kernel) (by decide +kernel)
set_option maxRecDepth 20000 in
theorem gX11_appeal_X11_given : GoodIn wsX11_appeal (wsV RX11 191 RX11 yX11_given wsX11_given) := goodIn_app (goodIn_of _ (by decide +kernel)) ggX11_appeal_X11_given
theorem dX11_appeal_0 : decode cX11_appeal 0 = .ok (.aload_n 0, 1) := by decide +kernel
theorem dX11_appeal_1 : decode cX11_appeal 1 = .ok (.getfield 10, 3) := by decide +kernel
theorem dX11_appeal_4 : decode cX11_appeal 4 = .ok (.iconst 3, 1) := by decide +kernel
theorem dX11_appeal_5 : decode cX11_appeal 5 = .ok (.iload_n 1, 1) := by decide +kernel
theorem dX11_appeal_6 : decode cX11_appeal 6 = .ok (.invokevirtual 213, 3) := by decide +kernel
theorem dX11_appeal_9 : decode cX11_appeal 9 = .ok (.ifCond .ne 9, 3) := by decide +kernel
theorem dX11_appeal_12 : decode cX11_appeal 12 = .ok (.aload_n 0, 1) := by decide +kernel
theorem dX11_appeal_13 : decode cX11_appeal 13 = .ok (.iconst 1, 1) := by decide +kernel
theorem dX11_appeal_14 : decode cX11_appeal 14 = .ok (.invokevirtual 132, 3) := by decide +kernel
theorem dX11_appeal_17 : decode cX11_appeal 17 = .ok (.ireturn, 1) := by decide +kernel
theorem dX11_appeal_18 : decode cX11_appeal 18 = .ok (.aload_n 0, 1) := by decide +kernel
theorem dX11_appeal_19 : decode cX11_appeal 19 = .ok (.getfield 10, 3) := by decide +kernel
theorem dX11_appeal_22 : decode cX11_appeal 22 = .ok (.iload_n 1, 1) := by decide +kernel
theorem dX11_appeal_23 : decode cX11_appeal 23 = .ok (.invokevirtual 228, 3) := by decide +kernel
theorem dX11_appeal_26 : decode cX11_appeal 26 = .ok (.astore_n 2, 1) := by decide +kernel
theorem dX11_appeal_27 : decode cX11_appeal 27 = .ok (.aload_n 2, 1) := by decide +kernel
theorem dX11_appeal_28 : decode cX11_appeal 28 = .ok (.getfield 240, 3) := by decide +kernel
theorem dX11_appeal_31 : decode cX11_appeal 31 = .ok (.istore_n 3, 1) := by decide +kernel
theorem dX11_appeal_32 : decode cX11_appeal 32 = .ok (.iload_n 3, 1) := by decide +kernel
theorem dX11_appeal_33 : decode cX11_appeal 33 = .ok (.ifCond .ne 10, 3) := by decide +kernel
theorem dX11_appeal_36 : decode cX11_appeal 36 = .ok (.aload_n 0, 1) := by decide +kernel
theorem dX11_appeal_37 : decode cX11_appeal 37 = .ok (.bipush 7, 2) := by decide +kernel
theorem dX11_appeal_39 : decode cX11_appeal 39 = .ok (.invokevirtual 132, 3) := by decide +kernel
theorem dX11_appeal_42 : decode cX11_appeal 42 = .ok (.ireturn, 1) := by decide +kernel
theorem dX11_appeal_43 : decode cX11_appeal 43 = .ok (.aload_n 2, 1) := by decide +kernel
theorem dX11_appeal_44 : decode cX11_appeal 44 = .ok (.iconst 0, 1) := by decide +kernel
theorem dX11_appeal_45 : decode cX11_appeal 45 = .ok (.putfield 240, 3) := by decide +kernel
theorem dX11_appeal_48 : decode cX11_appeal 48 = .ok (.aload_n 0, 1) := by decide +kernel
theorem dX11_appeal_49 : decode cX11_appeal 49 = .ok (.iload_n 3, 1) := by decide +kernel
theorem dX11_appeal_50 : decode cX11_appeal 50 = .ok (.invokevirtual 191, 3) := by decide +kernel
theorem dX11_appeal_53 : decode cX11_appeal 53 = .ok (.ireturn, 1) := by decide +kernel
set_option maxRecDepth 20000 in
theorem ggX11_blame_X0_has : GoodIn wsX11_blame wsX0_has := goodIn_r _ [7, 8, 9, 10, 6, 11, 12, 53, 54, 55, 56, 57, 58, 59, 60, 61, 62, 63, 64, 65, 66] (by decide +kernel) (by decide +kernel)
set_option maxRecDepth 20000 in
theorem gX11_blame_X0_has : GoodIn wsX11_blame (wsV RX11 213 RX0 yX0_has wsX0_has) := goodIn_app (goodIn_of _ (by decide +kernel)) ggX11_blame_X0_has
set_option maxRecDepth 20000 in
theorem ggX11_blame_X11_denied : GoodIn wsX11_blame wsX11_denied := goodIn_r _ [17, 18, 29, 30, 31, 32, 33, 34, 35, 36, 37, 38, 39, 40, 41, 42, 43, 44, 45, 46, 47] (by decide +kernel) (by decide +kernel)
set_option maxRecDepth 20000 in
theorem gX11_blame_X11_denied : GoodIn wsX11_blame (wsV RX11 108 RX11 yX11_denied wsX11_denied) := goodIn_app (goodIn_of _ (by decide +kernel)) ggX11_blame_X11_denied
set_option maxRecDepth 20000 in
theorem ggX11_blame_X0_personAt : GoodIn wsX11_blame wsX0_personAt := goodIn_r _ [22, 23, 24, 53, 54, 55, 56, 57, 58, 59, 60, 61, 62, 63, 64, 65, 66] (by decide +kernel) (by decide +kernel)
set_option maxRecDepth 20000 in
theorem gX11_blame_X0_personAt : GoodIn wsX11_blame (wsV RX11 228 RX0 yX0_personAt wsX0_personAt) := goodIn_app (goodIn_of _ (by decide +kernel)) ggX11_blame_X0_personAt
set_option maxRecDepth 20000 in
theorem ggX11_blame_X11_done : GoodIn wsX11_blame wsX11_done := goodIn_r _ [28, 18, 29, 30, 31, 32, 33, 34, 35, 36, 37, 38, 39, 40, 41, 42, 43, 44, 45, 46, 47] (by decide +kernel) (by decide +kernel)
set_option maxRecDepth 20000 in
theorem gX11_blame_X11_done : GoodIn wsX11_blame (wsV RX11 120 RX11 yX11_done wsX11_done) := goodIn_app (goodIn_of _ (by decide +kernel)) ggX11_blame_X11_done
theorem dX11_blame_0 : decode cX11_blame 0 = .ok (.aload_n 0, 1) := by decide +kernel
theorem dX11_blame_1 : decode cX11_blame 1 = .ok (.getfield 10, 3) := by decide +kernel
theorem dX11_blame_4 : decode cX11_blame 4 = .ok (.iconst 3, 1) := by decide +kernel
theorem dX11_blame_5 : decode cX11_blame 5 = .ok (.iload_n 1, 1) := by decide +kernel
theorem dX11_blame_6 : decode cX11_blame 6 = .ok (.invokevirtual 213, 3) := by decide +kernel
theorem dX11_blame_9 : decode cX11_blame 9 = .ok (.ifCond .ne 9, 3) := by decide +kernel
theorem dX11_blame_12 : decode cX11_blame 12 = .ok (.aload_n 0, 1) := by decide +kernel
theorem dX11_blame_13 : decode cX11_blame 13 = .ok (.iconst 1, 1) := by decide +kernel
theorem dX11_blame_14 : decode cX11_blame 14 = .ok (.invokevirtual 108, 3) := by decide +kernel
theorem dX11_blame_17 : decode cX11_blame 17 = .ok (.ireturn, 1) := by decide +kernel
theorem dX11_blame_18 : decode cX11_blame 18 = .ok (.aload_n 0, 1) := by decide +kernel
theorem dX11_blame_19 : decode cX11_blame 19 = .ok (.getfield 10, 3) := by decide +kernel
theorem dX11_blame_22 : decode cX11_blame 22 = .ok (.iload_n 1, 1) := by decide +kernel
theorem dX11_blame_23 : decode cX11_blame 23 = .ok (.invokevirtual 228, 3) := by decide +kernel
theorem dX11_blame_26 : decode cX11_blame 26 = .ok (.astore_n 3, 1) := by decide +kernel
theorem dX11_blame_27 : decode cX11_blame 27 = .ok (.iload_n 2, 1) := by decide +kernel
theorem dX11_blame_28 : decode cX11_blame 28 = .ok (.ifCond .eq 7, 3) := by decide +kernel
theorem dX11_blame_31 : decode cX11_blame 31 = .ok (.iconst 1, 1) := by decide +kernel
theorem dX11_blame_32 : decode cX11_blame 32 = .ok (.goto 4, 3) := by decide +kernel
theorem dX11_blame_35 : decode cX11_blame 35 = .ok (.iconst 2, 1) := by decide +kernel
theorem dX11_blame_36 : decode cX11_blame 36 = .ok (.istore 4, 2) := by decide +kernel
theorem dX11_blame_38 : decode cX11_blame 38 = .ok (.aload_n 3, 1) := by decide +kernel
theorem dX11_blame_39 : decode cX11_blame 39 = .ok (.getfield 243, 3) := by decide +kernel
theorem dX11_blame_42 : decode cX11_blame 42 = .ok (.iload 4, 2) := by decide +kernel
theorem dX11_blame_44 : decode cX11_blame 44 = .ok (.if_icmp .ne 10, 3) := by decide +kernel
theorem dX11_blame_47 : decode cX11_blame 47 = .ok (.aload_n 0, 1) := by decide +kernel
theorem dX11_blame_48 : decode cX11_blame 48 = .ok (.bipush 7, 2) := by decide +kernel
theorem dX11_blame_50 : decode cX11_blame 50 = .ok (.invokevirtual 108, 3) := by decide +kernel
theorem dX11_blame_53 : decode cX11_blame 53 = .ok (.ireturn, 1) := by decide +kernel
theorem dX11_blame_54 : decode cX11_blame 54 = .ok (.aload_n 3, 1) := by decide +kernel
theorem dX11_blame_55 : decode cX11_blame 55 = .ok (.iload 4, 2) := by decide +kernel
theorem dX11_blame_57 : decode cX11_blame 57 = .ok (.putfield 243, 3) := by decide +kernel
theorem dX11_blame_60 : decode cX11_blame 60 = .ok (.aload_n 0, 1) := by decide +kernel
theorem dX11_blame_61 : decode cX11_blame 61 = .ok (.invokevirtual 120, 3) := by decide +kernel
theorem dX11_blame_64 : decode cX11_blame 64 = .ok (.ireturn, 1) := by decide +kernel
set_option maxRecDepth 20000 in
theorem ggX11_reread_X0_has : GoodIn wsX11_reread wsX0_has := goodIn_r _ [7, 8, 9, 10, 6, 11, 12, 48, 49, 50, 51, 52, 53, 54, 55, 56, 57, 58, 59, 60, 61] (by decide +kernel) (by decide +kernel)
set_option maxRecDepth 20000 in
theorem gX11_reread_X0_has : GoodIn wsX11_reread (wsV RX11 213 RX0 yX0_has wsX0_has) := goodIn_app (goodIn_of _ (by decide +kernel)) ggX11_reread_X0_has
set_option maxRecDepth 20000 in
theorem ggX11_reread_X11_within : GoodIn wsX11_reread wsX11_within := goodIn_r _ [16] (by decide +kernel) (by decide +kernel)
set_option maxRecDepth 20000 in
theorem gX11_reread_X11_within : GoodIn wsX11_reread (va_wsS RX11 104 yX11_within wsX11_within) := goodIn_app (goodIn_of _ (by decide +kernel)) ggX11_reread_X11_within
set_option maxRecDepth 20000 in
theorem ggX11_reread_X11_denied : GoodIn wsX11_reread wsX11_denied := goodIn_r _ [20, 21, 29, 30, 31, 32, 33, 34, 35, 36, 37, 38, 39, 40, 41, 42, 43, 44, 45, 46, 47] (by decide +kernel) (by decide +kernel)
set_option maxRecDepth 20000 in
theorem gX11_reread_X11_denied : GoodIn wsX11_reread (wsV RX11 108 RX11 yX11_denied wsX11_denied) := goodIn_app (goodIn_of _ (by decide +kernel)) ggX11_reread_X11_denied
set_option maxRecDepth 20000 in
theorem ggX11_reread_X11_put : GoodIn wsX11_reread wsX11_put := goodIn_r _ [24] (by decide +kernel) (by decide +kernel)
set_option maxRecDepth 20000 in
theorem gX11_reread_X11_put : GoodIn wsX11_reread (va_wsS RX11 291 yX11_put wsX11_put) := goodIn_app (goodIn_of _ (by decide +kernel)) ggX11_reread_X11_put
set_option maxRecDepth 20000 in
theorem ggX11_reread_X11_done : GoodIn wsX11_reread wsX11_done := goodIn_r _ [28, 21, 29, 30, 31, 32, 33, 34, 35, 36, 37, 38, 39, 40, 41, 42, 43, 44, 45, 46, 47] (by decide +kernel) (by decide +kernel)
set_option maxRecDepth 20000 in
theorem gX11_reread_X11_done : GoodIn wsX11_reread (wsV RX11 120 RX11 yX11_done wsX11_done) := goodIn_app (goodIn_of _ (by decide +kernel)) ggX11_reread_X11_done
theorem dX11_reread_0 : decode cX11_reread 0 = .ok (.aload_n 0, 1) := by decide +kernel
theorem dX11_reread_1 : decode cX11_reread 1 = .ok (.getfield 10, 3) := by decide +kernel
theorem dX11_reread_4 : decode cX11_reread 4 = .ok (.iconst 1, 1) := by decide +kernel
theorem dX11_reread_5 : decode cX11_reread 5 = .ok (.iload_n 1, 1) := by decide +kernel
theorem dX11_reread_6 : decode cX11_reread 6 = .ok (.invokevirtual 213, 3) := by decide +kernel
theorem dX11_reread_9 : decode cX11_reread 9 = .ok (.ifCond .eq 11, 3) := by decide +kernel
theorem dX11_reread_12 : decode cX11_reread 12 = .ok (.iload_n 2, 1) := by decide +kernel
theorem dX11_reread_13 : decode cX11_reread 13 = .ok (.iconst 3, 1) := by decide +kernel
theorem dX11_reread_14 : decode cX11_reread 14 = .ok (.invokestatic 104, 3) := by decide +kernel
theorem dX11_reread_17 : decode cX11_reread 17 = .ok (.ifCond .ne 9, 3) := by decide +kernel
theorem dX11_reread_20 : decode cX11_reread 20 = .ok (.aload_n 0, 1) := by decide +kernel
theorem dX11_reread_21 : decode cX11_reread 21 = .ok (.iconst 1, 1) := by decide +kernel
theorem dX11_reread_22 : decode cX11_reread 22 = .ok (.invokevirtual 108, 3) := by decide +kernel
theorem dX11_reread_25 : decode cX11_reread 25 = .ok (.ireturn, 1) := by decide +kernel
theorem dX11_reread_26 : decode cX11_reread 26 = .ok (.aload_n 0, 1) := by decide +kernel
theorem dX11_reread_27 : decode cX11_reread 27 = .ok (.getfield 10, 3) := by decide +kernel
theorem dX11_reread_30 : decode cX11_reread 30 = .ok (.getfield 288, 3) := by decide +kernel
theorem dX11_reread_33 : decode cX11_reread 33 = .ok (.iload_n 1, 1) := by decide +kernel
theorem dX11_reread_34 : decode cX11_reread 34 = .ok (.iload_n 2, 1) := by decide +kernel
theorem dX11_reread_35 : decode cX11_reread 35 = .ok (.invokestatic 291, 3) := by decide +kernel
theorem dX11_reread_38 : decode cX11_reread 38 = .ok (.aload_n 0, 1) := by decide +kernel
theorem dX11_reread_39 : decode cX11_reread 39 = .ok (.invokevirtual 120, 3) := by decide +kernel
theorem dX11_reread_42 : decode cX11_reread 42 = .ok (.ireturn, 1) := by decide +kernel
set_option maxRecDepth 20000 in
theorem ggX11_enact_X0_has : GoodIn wsX11_enact wsX0_has := goodIn_r _ [8, 9, 10, 11, 7, 12, 13, 87, 88, 89, 90, 91, 92, 93, 94, 95, 96, 97, 98, 99, 100] (by decide +kernel) (by decide +kernel)
set_option maxRecDepth 20000 in
theorem gX11_enact_X0_has : GoodIn wsX11_enact (wsV RX11 213 RX0 yX0_has wsX0_has) := goodIn_app (goodIn_of _ (by decide +kernel)) ggX11_enact_X0_has
set_option maxRecDepth 20000 in
theorem ggX11_enact_X11_within : GoodIn wsX11_enact wsX11_within := goodIn_r _ [17] (by decide +kernel) (by decide +kernel)
set_option maxRecDepth 20000 in
theorem gX11_enact_X11_within : GoodIn wsX11_enact (va_wsS RX11 104 yX11_within wsX11_within) := goodIn_app (goodIn_of _ (by decide +kernel)) ggX11_enact_X11_within
set_option maxRecDepth 20000 in
theorem ggX11_enact_X11_refused : GoodIn wsX11_enact wsX11_refused := goodIn_r _ [21, 22, 59, 60, 61, 62, 63, 64, 65, 66, 67, 68, 69, 70, 71, 72, 73, 74, 75, 76, 77] (by decide +kernel) (by decide +kernel)
set_option maxRecDepth 20000 in
theorem gX11_enact_X11_refused : GoodIn wsX11_enact (wsV RX11 132 RX11 yX11_refused wsX11_refused) := goodIn_app (goodIn_of _ (by decide +kernel)) ggX11_enact_X11_refused
set_option maxRecDepth 20000 in
theorem ggX11_enact_X0_isFull : GoodIn wsX11_enact wsX0_isFull := goodIn_r _ [26, 9, 10, 11, 7, 12, 13, 27, 16, 28, 87, 88, 89, 90, 91, 92, 93, 94, 95, 96, 97, 98, 99, 100] (by decide +kernel) (by decide +kernel)
set_option maxRecDepth 20000 in
theorem gX11_enact_X0_isFull : GoodIn wsX11_enact (wsV RX11 295 RX0 yX0_isFull wsX0_isFull) := goodIn_app (goodIn_of _ (by decide +kernel)) ggX11_enact_X0_isFull
set_option maxRecDepth 20000 in
theorem ggX11_enact_X0_addOne : GoodIn wsX11_enact wsX0_addOne := goodIn_r _ [32, 13, 9, 10, 11, 7, 12, 33, 16, 34, 87, 88, 89, 90, 91, 92, 93, 94, 95, 96, 97, 98, 99, 100] (by decide +kernel) (by decide +kernel)
set_option maxRecDepth 20000 in
theorem gX11_enact_X0_addOne : GoodIn wsX11_enact (wsV RX11 298 RX0 yX0_addOne wsX0_addOne) := goodIn_app (goodIn_of _ (by decide +kernel)) ggX11_enact_X0_addOne
set_option maxRecDepth 20000 in
theorem ggX11_enact_X0_ruleAt : GoodIn wsX11_enact wsX0_ruleAt := goodIn_r _ [38, 39, 40, 87, 88, 89, 90, 91, 92, 93, 94, 95, 96, 97, 98, 99, 100] (by decide +kernel) (by decide +kernel)
set_option maxRecDepth 20000 in
theorem gX11_enact_X0_ruleAt : GoodIn wsX11_enact (wsV RX11 219 RX0 yX0_ruleAt wsX0_ruleAt) := goodIn_app (goodIn_of _ (by decide +kernel)) ggX11_enact_X0_ruleAt
set_option maxRecDepth 20000 in
theorem ggX11_enact_X6_renew : GoodIn wsX11_enact wsX6_renew := goodIn_r _ [45, 46, 47, 48, 49, 50, 51, 52, 53, 54, 78, 79, 80, 81, 82, 83, 84, 85, 86] (by decide +kernel) (by decide +kernel)
set_option maxRecDepth 20000 in
theorem gX11_enact_X6_renew : GoodIn wsX11_enact (wsV RX11 301 RX6 yX6_renew wsX6_renew) := goodIn_app (goodIn_of _ (by decide +kernel)) ggX11_enact_X6_renew
set_option maxRecDepth 20000 in
theorem ggX11_enact_X11_given : GoodIn wsX11_enact wsX11_given := goodIn_r _ [58, 22, 59, 60, 61, 62, 63, 64, 65, 66, 67, 68, 69, 70, 71, 72, 73, 74, 75, 76, 77] (by decide +kernel) (by decide +kernel)
set_option maxRecDepth 20000 in
theorem gX11_enact_X11_given : GoodIn wsX11_enact (wsV RX11 191 RX11 yX11_given wsX11_given) := goodIn_app (goodIn_of _ (by decide +kernel)) ggX11_enact_X11_given
theorem dX11_enact_0 : decode cX11_enact 0 = .ok (.iload_n 3, 1) := by decide +kernel
theorem dX11_enact_1 : decode cX11_enact 1 = .ok (.iconst 5, 1) := by decide +kernel
theorem dX11_enact_2 : decode cX11_enact 2 = .ok (.if_icmp .eq 15, 3) := by decide +kernel
theorem dX11_enact_5 : decode cX11_enact 5 = .ok (.aload_n 0, 1) := by decide +kernel
theorem dX11_enact_6 : decode cX11_enact 6 = .ok (.getfield 10, 3) := by decide +kernel
theorem dX11_enact_9 : decode cX11_enact 9 = .ok (.iconst 0, 1) := by decide +kernel
theorem dX11_enact_10 : decode cX11_enact 10 = .ok (.iload_n 3, 1) := by decide +kernel
theorem dX11_enact_11 : decode cX11_enact 11 = .ok (.invokevirtual 213, 3) := by decide +kernel
theorem dX11_enact_14 : decode cX11_enact 14 = .ok (.ifCond .eq 7, 3) := by decide +kernel
theorem dX11_enact_17 : decode cX11_enact 17 = .ok (.iconst 1, 1) := by decide +kernel
theorem dX11_enact_18 : decode cX11_enact 18 = .ok (.goto 4, 3) := by decide +kernel
theorem dX11_enact_21 : decode cX11_enact 21 = .ok (.iconst 0, 1) := by decide +kernel
theorem dX11_enact_22 : decode cX11_enact 22 = .ok (.istore 4, 2) := by decide +kernel
theorem dX11_enact_24 : decode cX11_enact 24 = .ok (.aload_n 0, 1) := by decide +kernel
theorem dX11_enact_25 : decode cX11_enact 25 = .ok (.getfield 10, 3) := by decide +kernel
theorem dX11_enact_28 : decode cX11_enact 28 = .ok (.iconst 1, 1) := by decide +kernel
theorem dX11_enact_29 : decode cX11_enact 29 = .ok (.iload_n 1, 1) := by decide +kernel
theorem dX11_enact_30 : decode cX11_enact 30 = .ok (.invokevirtual 213, 3) := by decide +kernel
theorem dX11_enact_33 : decode cX11_enact 33 = .ok (.ifCond .eq 16, 3) := by decide +kernel
theorem dX11_enact_36 : decode cX11_enact 36 = .ok (.iload_n 2, 1) := by decide +kernel
theorem dX11_enact_37 : decode cX11_enact 37 = .ok (.iconst 3, 1) := by decide +kernel
theorem dX11_enact_38 : decode cX11_enact 38 = .ok (.invokestatic 104, 3) := by decide +kernel
theorem dX11_enact_41 : decode cX11_enact 41 = .ok (.ifCond .eq 8, 3) := by decide +kernel
theorem dX11_enact_44 : decode cX11_enact 44 = .ok (.iload 4, 2) := by decide +kernel
theorem dX11_enact_46 : decode cX11_enact 46 = .ok (.ifCond .ne 9, 3) := by decide +kernel
theorem dX11_enact_49 : decode cX11_enact 49 = .ok (.aload_n 0, 1) := by decide +kernel
theorem dX11_enact_50 : decode cX11_enact 50 = .ok (.iconst 1, 1) := by decide +kernel
theorem dX11_enact_51 : decode cX11_enact 51 = .ok (.invokevirtual 132, 3) := by decide +kernel
theorem dX11_enact_54 : decode cX11_enact 54 = .ok (.ireturn, 1) := by decide +kernel
theorem dX11_enact_55 : decode cX11_enact 55 = .ok (.aload_n 0, 1) := by decide +kernel
theorem dX11_enact_56 : decode cX11_enact 56 = .ok (.getfield 10, 3) := by decide +kernel
theorem dX11_enact_59 : decode cX11_enact 59 = .ok (.iconst 2, 1) := by decide +kernel
theorem dX11_enact_60 : decode cX11_enact 60 = .ok (.invokevirtual 295, 3) := by decide +kernel
theorem dX11_enact_63 : decode cX11_enact 63 = .ok (.ifCond .eq 9, 3) := by decide +kernel
theorem dX11_enact_66 : decode cX11_enact 66 = .ok (.aload_n 0, 1) := by decide +kernel
theorem dX11_enact_67 : decode cX11_enact 67 = .ok (.iconst 4, 1) := by decide +kernel
theorem dX11_enact_68 : decode cX11_enact 68 = .ok (.invokevirtual 132, 3) := by decide +kernel
theorem dX11_enact_71 : decode cX11_enact 71 = .ok (.ireturn, 1) := by decide +kernel
theorem dX11_enact_72 : decode cX11_enact 72 = .ok (.aload_n 0, 1) := by decide +kernel
theorem dX11_enact_73 : decode cX11_enact 73 = .ok (.getfield 10, 3) := by decide +kernel
theorem dX11_enact_76 : decode cX11_enact 76 = .ok (.iconst 2, 1) := by decide +kernel
theorem dX11_enact_77 : decode cX11_enact 77 = .ok (.invokevirtual 298, 3) := by decide +kernel
theorem dX11_enact_80 : decode cX11_enact 80 = .ok (.istore 5, 2) := by decide +kernel
theorem dX11_enact_82 : decode cX11_enact 82 = .ok (.aload_n 0, 1) := by decide +kernel
theorem dX11_enact_83 : decode cX11_enact 83 = .ok (.getfield 10, 3) := by decide +kernel
theorem dX11_enact_86 : decode cX11_enact 86 = .ok (.iload 5, 2) := by decide +kernel
theorem dX11_enact_88 : decode cX11_enact 88 = .ok (.invokevirtual 219, 3) := by decide +kernel
theorem dX11_enact_91 : decode cX11_enact 91 = .ok (.astore 6, 2) := by decide +kernel
theorem dX11_enact_93 : decode cX11_enact 93 = .ok (.aload 6, 2) := by decide +kernel
theorem dX11_enact_95 : decode cX11_enact 95 = .ok (.iload_n 1, 1) := by decide +kernel
theorem dX11_enact_96 : decode cX11_enact 96 = .ok (.invokevirtual 301, 3) := by decide +kernel
theorem dX11_enact_99 : decode cX11_enact 99 = .ok (.aload 6, 2) := by decide +kernel
theorem dX11_enact_101 : decode cX11_enact 101 = .ok (.iload_n 2, 1) := by decide +kernel
theorem dX11_enact_102 : decode cX11_enact 102 = .ok (.putfield 303, 3) := by decide +kernel
theorem dX11_enact_105 : decode cX11_enact 105 = .ok (.aload 6, 2) := by decide +kernel
theorem dX11_enact_107 : decode cX11_enact 107 = .ok (.iload_n 3, 1) := by decide +kernel
theorem dX11_enact_108 : decode cX11_enact 108 = .ok (.iconst 5, 1) := by decide +kernel
theorem dX11_enact_109 : decode cX11_enact 109 = .ok (.if_icmp .ne 7, 3) := by decide +kernel
theorem dX11_enact_112 : decode cX11_enact 112 = .ok (.iconst (-1), 1) := by decide +kernel
theorem dX11_enact_113 : decode cX11_enact 113 = .ok (.goto 4, 3) := by decide +kernel
theorem dX11_enact_116 : decode cX11_enact 116 = .ok (.iload_n 3, 1) := by decide +kernel
theorem dX11_enact_117 : decode cX11_enact 117 = .ok (.putfield 304, 3) := by decide +kernel
theorem dX11_enact_120 : decode cX11_enact 120 = .ok (.aload_n 0, 1) := by decide +kernel
theorem dX11_enact_121 : decode cX11_enact 121 = .ok (.iload 5, 2) := by decide +kernel
theorem dX11_enact_123 : decode cX11_enact 123 = .ok (.invokevirtual 191, 3) := by decide +kernel
theorem dX11_enact_126 : decode cX11_enact 126 = .ok (.ireturn, 1) := by decide +kernel
set_option maxRecDepth 20000 in
theorem ggX11_repeal_X0_has : GoodIn wsX11_repeal wsX0_has := goodIn_r _ [6, 7, 8, 9, 5, 10, 11, 68, 69, 70, 71, 72, 73, 74, 75, 76, 77, 78, 79, 80, 81] (by decide +kernel) (by decide +kernel)
set_option maxRecDepth 20000 in
theorem gX11_repeal_X0_has : GoodIn wsX11_repeal (wsV RX11 213 RX0 yX0_has wsX0_has) := goodIn_app (goodIn_of _ (by decide +kernel)) ggX11_repeal_X0_has
set_option maxRecDepth 20000 in
theorem ggX11_repeal_X11_refused : GoodIn wsX11_repeal wsX11_refused := goodIn_r _ [16, 17, 49, 50, 51, 52, 53, 54, 55, 56, 57, 58, 59, 60, 61, 62, 63, 64, 65, 66, 67] (by decide +kernel) (by decide +kernel)
set_option maxRecDepth 20000 in
theorem gX11_repeal_X11_refused : GoodIn wsX11_repeal (wsV RX11 132 RX11 yX11_refused wsX11_refused) := goodIn_app (goodIn_of _ (by decide +kernel)) ggX11_repeal_X11_refused
set_option maxRecDepth 20000 in
theorem ggX11_repeal_X0_dropRule : GoodIn wsX11_repeal wsX0_dropRule := goodIn_r _ [21, 11, 7, 8, 9, 5, 10, 22, 23, 24, 25, 26, 27, 28, 29, 30, 31, 32, 33, 34, 35, 36, 37, 38, 39, 40, 41, 42, 15, 43, 68, 69, 70, 71, 72, 73, 74, 75, 76, 77, 78, 79, 80, 81, 82, 83, 84, 85, 86, 87, 88, 89, 90] (by decide +kernel) (by decide +kernel)
set_option maxRecDepth 20000 in
theorem gX11_repeal_X0_dropRule : GoodIn wsX11_repeal (wsV RX11 307 RX0 yX0_dropRule wsX0_dropRule) := goodIn_app (goodIn_of _ (by decide +kernel)) ggX11_repeal_X0_dropRule
set_option maxRecDepth 20000 in
theorem ggX11_repeal_X0_countOf : GoodIn wsX11_repeal wsX0_countOf := goodIn_r _ [10, 11, 68, 69, 70, 71, 72, 73, 74, 75, 76, 77, 78, 79, 80, 81] (by decide +kernel) (by decide +kernel)
set_option maxRecDepth 20000 in
theorem gX11_repeal_X0_countOf : GoodIn wsX11_repeal (wsV RX11 167 RX0 yX0_countOf wsX0_countOf) := goodIn_app (goodIn_of _ (by decide +kernel)) ggX11_repeal_X0_countOf
set_option maxRecDepth 20000 in
theorem ggX11_repeal_X11_given : GoodIn wsX11_repeal wsX11_given := goodIn_r _ [48, 17, 49, 50, 51, 52, 53, 54, 55, 56, 57, 58, 59, 60, 61, 62, 63, 64, 65, 66, 67] (by decide +kernel) (by decide +kernel)
set_option maxRecDepth 20000 in
theorem gX11_repeal_X11_given : GoodIn wsX11_repeal (wsV RX11 191 RX11 yX11_given wsX11_given) := goodIn_app (goodIn_of _ (by decide +kernel)) ggX11_repeal_X11_given
theorem dX11_repeal_0 : decode cX11_repeal 0 = .ok (.aload_n 0, 1) := by decide +kernel
theorem dX11_repeal_1 : decode cX11_repeal 1 = .ok (.getfield 10, 3) := by decide +kernel
theorem dX11_repeal_4 : decode cX11_repeal 4 = .ok (.iconst 2, 1) := by decide +kernel
theorem dX11_repeal_5 : decode cX11_repeal 5 = .ok (.iload_n 1, 1) := by decide +kernel
theorem dX11_repeal_6 : decode cX11_repeal 6 = .ok (.invokevirtual 213, 3) := by decide +kernel
theorem dX11_repeal_9 : decode cX11_repeal 9 = .ok (.ifCond .ne 9, 3) := by decide +kernel
theorem dX11_repeal_12 : decode cX11_repeal 12 = .ok (.aload_n 0, 1) := by decide +kernel
theorem dX11_repeal_13 : decode cX11_repeal 13 = .ok (.iconst 1, 1) := by decide +kernel
theorem dX11_repeal_14 : decode cX11_repeal 14 = .ok (.invokevirtual 132, 3) := by decide +kernel
theorem dX11_repeal_17 : decode cX11_repeal 17 = .ok (.ireturn, 1) := by decide +kernel
theorem dX11_repeal_18 : decode cX11_repeal 18 = .ok (.aload_n 0, 1) := by decide +kernel
theorem dX11_repeal_19 : decode cX11_repeal 19 = .ok (.getfield 10, 3) := by decide +kernel
theorem dX11_repeal_22 : decode cX11_repeal 22 = .ok (.iload_n 1, 1) := by decide +kernel
theorem dX11_repeal_23 : decode cX11_repeal 23 = .ok (.invokevirtual 307, 3) := by decide +kernel
theorem dX11_repeal_26 : decode cX11_repeal 26 = .ok (.aload_n 0, 1) := by decide +kernel
theorem dX11_repeal_27 : decode cX11_repeal 27 = .ok (.aload_n 0, 1) := by decide +kernel
theorem dX11_repeal_28 : decode cX11_repeal 28 = .ok (.getfield 10, 3) := by decide +kernel
theorem dX11_repeal_31 : decode cX11_repeal 31 = .ok (.iconst 2, 1) := by decide +kernel
theorem dX11_repeal_32 : decode cX11_repeal 32 = .ok (.invokevirtual 167, 3) := by decide +kernel
theorem dX11_repeal_35 : decode cX11_repeal 35 = .ok (.invokevirtual 191, 3) := by decide +kernel
theorem dX11_repeal_38 : decode cX11_repeal 38 = .ok (.ireturn, 1) := by decide +kernel
set_option maxRecDepth 20000 in
theorem ggX11_strain_X0_has : GoodIn wsX11_strain wsX0_has := goodIn_r _ [7, 8, 9, 10, 6, 11, 12, 48, 49, 50, 51, 52, 53, 54, 55, 56, 57, 58, 59, 60, 61] (by decide +kernel) (by decide +kernel)
set_option maxRecDepth 20000 in
theorem gX11_strain_X0_has : GoodIn wsX11_strain (wsV RX11 213 RX0 yX0_has wsX0_has) := goodIn_app (goodIn_of _ (by decide +kernel)) ggX11_strain_X0_has
set_option maxRecDepth 20000 in
theorem ggX11_strain_X11_within : GoodIn wsX11_strain wsX11_within := goodIn_r _ [16] (by decide +kernel) (by decide +kernel)
set_option maxRecDepth 20000 in
theorem gX11_strain_X11_within : GoodIn wsX11_strain (va_wsS RX11 104 yX11_within wsX11_within) := goodIn_app (goodIn_of _ (by decide +kernel)) ggX11_strain_X11_within
set_option maxRecDepth 20000 in
theorem ggX11_strain_X11_denied : GoodIn wsX11_strain wsX11_denied := goodIn_r _ [20, 21, 29, 30, 31, 32, 33, 34, 35, 36, 37, 38, 39, 40, 41, 42, 43, 44, 45, 46, 47] (by decide +kernel) (by decide +kernel)
set_option maxRecDepth 20000 in
theorem gX11_strain_X11_denied : GoodIn wsX11_strain (wsV RX11 108 RX11 yX11_denied wsX11_denied) := goodIn_app (goodIn_of _ (by decide +kernel)) ggX11_strain_X11_denied
set_option maxRecDepth 20000 in
theorem ggX11_strain_X11_put : GoodIn wsX11_strain wsX11_put := goodIn_r _ [24] (by decide +kernel) (by decide +kernel)
set_option maxRecDepth 20000 in
theorem gX11_strain_X11_put : GoodIn wsX11_strain (va_wsS RX11 291 yX11_put wsX11_put) := goodIn_app (goodIn_of _ (by decide +kernel)) ggX11_strain_X11_put
set_option maxRecDepth 20000 in
theorem ggX11_strain_X11_done : GoodIn wsX11_strain wsX11_done := goodIn_r _ [28, 21, 29, 30, 31, 32, 33, 34, 35, 36, 37, 38, 39, 40, 41, 42, 43, 44, 45, 46, 47] (by decide +kernel) (by decide +kernel)
set_option maxRecDepth 20000 in
theorem gX11_strain_X11_done : GoodIn wsX11_strain (wsV RX11 120 RX11 yX11_done wsX11_done) := goodIn_app (goodIn_of _ (by decide +kernel)) ggX11_strain_X11_done
theorem dX11_strain_0 : decode cX11_strain 0 = .ok (.aload_n 0, 1) := by decide +kernel
theorem dX11_strain_1 : decode cX11_strain 1 = .ok (.getfield 10, 3) := by decide +kernel
theorem dX11_strain_4 : decode cX11_strain 4 = .ok (.iconst 4, 1) := by decide +kernel
theorem dX11_strain_5 : decode cX11_strain 5 = .ok (.iload_n 1, 1) := by decide +kernel
theorem dX11_strain_6 : decode cX11_strain 6 = .ok (.invokevirtual 213, 3) := by decide +kernel
theorem dX11_strain_9 : decode cX11_strain 9 = .ok (.ifCond .eq 12, 3) := by decide +kernel
theorem dX11_strain_12 : decode cX11_strain 12 = .ok (.iload_n 2, 1) := by decide +kernel
theorem dX11_strain_13 : decode cX11_strain 13 = .ok (.bipush 17, 2) := by decide +kernel
theorem dX11_strain_15 : decode cX11_strain 15 = .ok (.invokestatic 104, 3) := by decide +kernel
theorem dX11_strain_18 : decode cX11_strain 18 = .ok (.ifCond .ne 9, 3) := by decide +kernel
theorem dX11_strain_21 : decode cX11_strain 21 = .ok (.aload_n 0, 1) := by decide +kernel
theorem dX11_strain_22 : decode cX11_strain 22 = .ok (.iconst 1, 1) := by decide +kernel
theorem dX11_strain_23 : decode cX11_strain 23 = .ok (.invokevirtual 108, 3) := by decide +kernel
theorem dX11_strain_26 : decode cX11_strain 26 = .ok (.ireturn, 1) := by decide +kernel
theorem dX11_strain_27 : decode cX11_strain 27 = .ok (.aload_n 0, 1) := by decide +kernel
theorem dX11_strain_28 : decode cX11_strain 28 = .ok (.getfield 10, 3) := by decide +kernel
theorem dX11_strain_31 : decode cX11_strain 31 = .ok (.getfield 247, 3) := by decide +kernel
theorem dX11_strain_34 : decode cX11_strain 34 = .ok (.iload_n 1, 1) := by decide +kernel
theorem dX11_strain_35 : decode cX11_strain 35 = .ok (.iload_n 2, 1) := by decide +kernel
theorem dX11_strain_36 : decode cX11_strain 36 = .ok (.invokestatic 291, 3) := by decide +kernel
theorem dX11_strain_39 : decode cX11_strain 39 = .ok (.aload_n 0, 1) := by decide +kernel
theorem dX11_strain_40 : decode cX11_strain 40 = .ok (.invokevirtual 120, 3) := by decide +kernel
theorem dX11_strain_43 : decode cX11_strain 43 = .ok (.ireturn, 1) := by decide +kernel
set_option maxRecDepth 20000 in
theorem ggX11_cue_X11_cueAt : GoodIn wsX11_cue wsX11_cueAt := goodIn_r _ [7, 1, 8, 9, 10, 11, 12, 13, 14, 15, 16, 17, 18, 19, 6, 20, 21, 22, 23, 24, 25, 26, 27, 28, 29, 30, 31, 32, 33, 34, 35, 36, 37, 38, 39, 40, 41, 42, 43, 44, 45, 46, 47, 48, 49, 50, 51, 52, 53, 54, 55, 56, 57, 58, 59, 60, 61, 62, 63, 64, 65, 66, 67, 68, 69, 70, 71, 72, 73, 74, 75, 76, 77, 78, 79, 80, 81, 82, 83, 84, 85, 86, 87, 88, 89, 90, 91, 92, 93, 94, 95, 96, 97, 98, 99, 100, 101, 102, 103, 104, 105, 106, 107, 108, 109, 110, 111] (by decide +kernel) (by decide +kernel)
set_option maxRecDepth 20000 in
theorem gX11_cue_X11_cueAt : GoodIn wsX11_cue (wsV RX11 310 RX11 yX11_cueAt wsX11_cueAt) := goodIn_app (goodIn_of _ (by decide +kernel)) ggX11_cue_X11_cueAt
theorem dX11_cue_0 : decode cX11_cue 0 = .ok (.aload_n 0, 1) := by decide +kernel
theorem dX11_cue_1 : decode cX11_cue 1 = .ok (.iload_n 1, 1) := by decide +kernel
theorem dX11_cue_2 : decode cX11_cue 2 = .ok (.aload_n 0, 1) := by decide +kernel
theorem dX11_cue_3 : decode cX11_cue 3 = .ok (.getfield 10, 3) := by decide +kernel
theorem dX11_cue_6 : decode cX11_cue 6 = .ok (.getfield 194, 3) := by decide +kernel
theorem dX11_cue_9 : decode cX11_cue 9 = .ok (.invokevirtual 310, 3) := by decide +kernel
theorem dX11_cue_12 : decode cX11_cue 12 = .ok (.ireturn, 1) := by decide +kernel
set_option maxRecDepth 20000 in
theorem ggX11_cueAt_X0_has : GoodIn wsX11_cueAt wsX0_has := goodIn_r _ [6, 7, 8, 9, 5, 10, 11, 79, 80, 81, 82, 83, 84, 85, 86, 87, 88, 89, 90, 91, 92] (by decide +kernel) (by decide +kernel)
set_option maxRecDepth 20000 in
theorem gX11_cueAt_X0_has : GoodIn wsX11_cueAt (wsV RX11 213 RX0 yX0_has wsX0_has) := goodIn_app (goodIn_of _ (by decide +kernel)) ggX11_cueAt_X0_has
set_option maxRecDepth 20000 in
theorem ggX11_cueAt_X11_within : GoodIn wsX11_cueAt wsX11_within := goodIn_r _ [15] (by decide +kernel) (by decide +kernel)
set_option maxRecDepth 20000 in
theorem gX11_cueAt_X11_within : GoodIn wsX11_cueAt (va_wsS RX11 104 yX11_within wsX11_within) := goodIn_app (goodIn_of _ (by decide +kernel)) ggX11_cueAt_X11_within
set_option maxRecDepth 20000 in
theorem ggX11_cueAt_X11_refused : GoodIn wsX11_cueAt wsX11_refused := goodIn_r _ [19, 20, 60, 61, 62, 63, 64, 65, 66, 67, 68, 69, 70, 71, 72, 73, 74, 75, 76, 77, 78] (by decide +kernel) (by decide +kernel)
set_option maxRecDepth 20000 in
theorem gX11_cueAt_X11_refused : GoodIn wsX11_cueAt (wsV RX11 132 RX11 yX11_refused wsX11_refused) := goodIn_app (goodIn_of _ (by decide +kernel)) ggX11_cueAt_X11_refused
set_option maxRecDepth 20000 in
theorem ggX11_cueAt_X0_cueBefore : GoodIn wsX11_cueAt wsX0_cueBefore := goodIn_r _ [24, 25, 26, 27, 28, 29, 30, 31, 5, 32, 33, 34, 35, 36, 37, 38, 7, 8, 9, 10, 11, 39, 40, 41, 42, 43, 44, 45, 46, 47, 48, 49, 50, 51, 52, 53, 54, 55, 93, 94, 95, 96, 97, 98, 99, 100, 101, 102, 103, 104, 105, 106, 79, 80, 81, 82, 83, 84, 85, 86, 87, 88, 89, 90, 91, 92] (by decide +kernel) (by decide +kernel)
set_option maxRecDepth 20000 in
theorem gX11_cueAt_X0_cueBefore : GoodIn wsX11_cueAt (wsV RX11 313 RX0 yX0_cueBefore wsX0_cueBefore) := goodIn_app (goodIn_of _ (by decide +kernel)) ggX11_cueAt_X0_cueBefore
set_option maxRecDepth 20000 in
theorem ggX11_cueAt_X11_given : GoodIn wsX11_cueAt wsX11_given := goodIn_r _ [59, 20, 60, 61, 62, 63, 64, 65, 66, 67, 68, 69, 70, 71, 72, 73, 74, 75, 76, 77, 78] (by decide +kernel) (by decide +kernel)
set_option maxRecDepth 20000 in
theorem gX11_cueAt_X11_given : GoodIn wsX11_cueAt (wsV RX11 191 RX11 yX11_given wsX11_given) := goodIn_app (goodIn_of _ (by decide +kernel)) ggX11_cueAt_X11_given
theorem dX11_cueAt_0 : decode cX11_cueAt 0 = .ok (.aload_n 0, 1) := by decide +kernel
theorem dX11_cueAt_1 : decode cX11_cueAt 1 = .ok (.getfield 10, 3) := by decide +kernel
theorem dX11_cueAt_4 : decode cX11_cueAt 4 = .ok (.iconst 3, 1) := by decide +kernel
theorem dX11_cueAt_5 : decode cX11_cueAt 5 = .ok (.iload_n 1, 1) := by decide +kernel
theorem dX11_cueAt_6 : decode cX11_cueAt 6 = .ok (.invokevirtual 213, 3) := by decide +kernel
theorem dX11_cueAt_9 : decode cX11_cueAt 9 = .ok (.ifCond .eq 12, 3) := by decide +kernel
theorem dX11_cueAt_12 : decode cX11_cueAt 12 = .ok (.iload_n 2, 1) := by decide +kernel
theorem dX11_cueAt_13 : decode cX11_cueAt 13 = .ok (.bipush 10, 2) := by decide +kernel
theorem dX11_cueAt_15 : decode cX11_cueAt 15 = .ok (.invokestatic 104, 3) := by decide +kernel
theorem dX11_cueAt_18 : decode cX11_cueAt 18 = .ok (.ifCond .ne 9, 3) := by decide +kernel
theorem dX11_cueAt_21 : decode cX11_cueAt 21 = .ok (.aload_n 0, 1) := by decide +kernel
theorem dX11_cueAt_22 : decode cX11_cueAt 22 = .ok (.iconst 1, 1) := by decide +kernel
theorem dX11_cueAt_23 : decode cX11_cueAt 23 = .ok (.invokevirtual 132, 3) := by decide +kernel
theorem dX11_cueAt_26 : decode cX11_cueAt 26 = .ok (.ireturn, 1) := by decide +kernel
theorem dX11_cueAt_27 : decode cX11_cueAt 27 = .ok (.aload_n 0, 1) := by decide +kernel
theorem dX11_cueAt_28 : decode cX11_cueAt 28 = .ok (.getfield 10, 3) := by decide +kernel
theorem dX11_cueAt_31 : decode cX11_cueAt 31 = .ok (.iload_n 1, 1) := by decide +kernel
theorem dX11_cueAt_32 : decode cX11_cueAt 32 = .ok (.iload_n 2, 1) := by decide +kernel
theorem dX11_cueAt_33 : decode cX11_cueAt 33 = .ok (.invokevirtual 313, 3) := by decide +kernel
theorem dX11_cueAt_36 : decode cX11_cueAt 36 = .ok (.istore_n 3, 1) := by decide +kernel
theorem dX11_cueAt_37 : decode cX11_cueAt 37 = .ok (.aload_n 0, 1) := by decide +kernel
theorem dX11_cueAt_38 : decode cX11_cueAt 38 = .ok (.getfield 10, 3) := by decide +kernel
theorem dX11_cueAt_41 : decode cX11_cueAt 41 = .ok (.iconst 1, 1) := by decide +kernel
theorem dX11_cueAt_42 : decode cX11_cueAt 42 = .ok (.iload_n 3, 1) := by decide +kernel
theorem dX11_cueAt_43 : decode cX11_cueAt 43 = .ok (.invokevirtual 213, 3) := by decide +kernel
theorem dX11_cueAt_46 : decode cX11_cueAt 46 = .ok (.ifCond .eq 11, 3) := by decide +kernel
theorem dX11_cueAt_49 : decode cX11_cueAt 49 = .ok (.aload_n 0, 1) := by decide +kernel
theorem dX11_cueAt_50 : decode cX11_cueAt 50 = .ok (.iload_n 3, 1) := by decide +kernel
theorem dX11_cueAt_51 : decode cX11_cueAt 51 = .ok (.invokevirtual 191, 3) := by decide +kernel
theorem dX11_cueAt_54 : decode cX11_cueAt 54 = .ok (.goto 9, 3) := by decide +kernel
theorem dX11_cueAt_57 : decode cX11_cueAt 57 = .ok (.aload_n 0, 1) := by decide +kernel
theorem dX11_cueAt_58 : decode cX11_cueAt 58 = .ok (.bipush 6, 2) := by decide +kernel
theorem dX11_cueAt_60 : decode cX11_cueAt 60 = .ok (.invokevirtual 132, 3) := by decide +kernel
theorem dX11_cueAt_63 : decode cX11_cueAt 63 = .ok (.ireturn, 1) := by decide +kernel
set_option maxRecDepth 20000 in
theorem ggX11_bears_X0_has : GoodIn wsX11_bears wsX0_has := goodIn_r _ [10, 11, 12, 13, 9, 14, 15, 77, 78, 79, 80, 81, 82, 83, 84, 85, 86, 87, 88, 89, 90] (by decide +kernel) (by decide +kernel)
set_option maxRecDepth 20000 in
theorem gX11_bears_X0_has : GoodIn wsX11_bears (wsV RX11 213 RX0 yX0_has wsX0_has) := goodIn_app (goodIn_of _ (by decide +kernel)) ggX11_bears_X0_has
set_option maxRecDepth 20000 in
theorem ggX11_bears_X11_refused : GoodIn wsX11_bears wsX11_refused := goodIn_r _ [20, 21, 53, 54, 55, 56, 57, 58, 59, 60, 61, 62, 63, 64, 65, 66, 67, 68, 69, 70, 71] (by decide +kernel) (by decide +kernel)
set_option maxRecDepth 20000 in
theorem gX11_bears_X11_refused : GoodIn wsX11_bears (wsV RX11 132 RX11 yX11_refused wsX11_refused) := goodIn_app (goodIn_of _ (by decide +kernel)) ggX11_bears_X11_refused
set_option maxRecDepth 20000 in
theorem ggX11_bears_X0_personAt : GoodIn wsX11_bears wsX0_personAt := goodIn_r _ [25, 26, 27, 77, 78, 79, 80, 81, 82, 83, 84, 85, 86, 87, 88, 89, 90] (by decide +kernel) (by decide +kernel)
set_option maxRecDepth 20000 in
theorem gX11_bears_X0_personAt : GoodIn wsX11_bears (wsV RX11 228 RX0 yX0_personAt wsX0_personAt) := goodIn_app (goodIn_of _ (by decide +kernel)) ggX11_bears_X0_personAt
set_option maxRecDepth 20000 in
theorem ggX11_bears_X0_ruleFor : GoodIn wsX11_bears wsX0_ruleFor := goodIn_r _ [31, 11, 12, 13, 9, 14, 15, 32, 33, 34, 35, 36, 37, 38, 39, 40, 41, 42, 43, 44, 45, 46, 47, 48, 77, 78, 79, 80, 81, 82, 83, 84, 85, 86, 87, 88, 89, 90, 91, 92, 93, 94, 95, 96, 97, 98, 99] (by decide +kernel) (by decide +kernel)
set_option maxRecDepth 20000 in
theorem gX11_bears_X0_ruleFor : GoodIn wsX11_bears (wsV RX11 316 RX0 yX0_ruleFor wsX0_ruleFor) := goodIn_app (goodIn_of _ (by decide +kernel)) ggX11_bears_X0_ruleFor
set_option maxRecDepth 20000 in
theorem ggX11_bears_X11_given : GoodIn wsX11_bears wsX11_given := goodIn_r _ [52, 21, 53, 54, 55, 56, 57, 58, 59, 60, 61, 62, 63, 64, 65, 66, 67, 68, 69, 70, 71] (by decide +kernel) (by decide +kernel)
set_option maxRecDepth 20000 in
theorem gX11_bears_X11_given : GoodIn wsX11_bears (wsV RX11 191 RX11 yX11_given wsX11_given) := goodIn_app (goodIn_of _ (by decide +kernel)) ggX11_bears_X11_given
theorem dX11_bears_0 : decode cX11_bears 0 = .ok (.aload_n 0, 1) := by decide +kernel
theorem dX11_bears_1 : decode cX11_bears 1 = .ok (.getfield 10, 3) := by decide +kernel
theorem dX11_bears_4 : decode cX11_bears 4 = .ok (.iconst 3, 1) := by decide +kernel
theorem dX11_bears_5 : decode cX11_bears 5 = .ok (.iload_n 1, 1) := by decide +kernel
theorem dX11_bears_6 : decode cX11_bears 6 = .ok (.invokevirtual 213, 3) := by decide +kernel
theorem dX11_bears_9 : decode cX11_bears 9 = .ok (.ifCond .ne 9, 3) := by decide +kernel
theorem dX11_bears_12 : decode cX11_bears 12 = .ok (.aload_n 0, 1) := by decide +kernel
theorem dX11_bears_13 : decode cX11_bears 13 = .ok (.iconst 1, 1) := by decide +kernel
theorem dX11_bears_14 : decode cX11_bears 14 = .ok (.invokevirtual 132, 3) := by decide +kernel
theorem dX11_bears_17 : decode cX11_bears 17 = .ok (.ireturn, 1) := by decide +kernel
theorem dX11_bears_18 : decode cX11_bears 18 = .ok (.aload_n 0, 1) := by decide +kernel
theorem dX11_bears_19 : decode cX11_bears 19 = .ok (.getfield 10, 3) := by decide +kernel
theorem dX11_bears_22 : decode cX11_bears 22 = .ok (.iload_n 1, 1) := by decide +kernel
theorem dX11_bears_23 : decode cX11_bears 23 = .ok (.invokevirtual 228, 3) := by decide +kernel
theorem dX11_bears_26 : decode cX11_bears 26 = .ok (.astore_n 2, 1) := by decide +kernel
theorem dX11_bears_27 : decode cX11_bears 27 = .ok (.aload_n 0, 1) := by decide +kernel
theorem dX11_bears_28 : decode cX11_bears 28 = .ok (.getfield 10, 3) := by decide +kernel
theorem dX11_bears_31 : decode cX11_bears 31 = .ok (.aload_n 2, 1) := by decide +kernel
theorem dX11_bears_32 : decode cX11_bears 32 = .ok (.getfield 243, 3) := by decide +kernel
theorem dX11_bears_35 : decode cX11_bears 35 = .ok (.aload_n 2, 1) := by decide +kernel
theorem dX11_bears_36 : decode cX11_bears 36 = .ok (.getfield 232, 3) := by decide +kernel
theorem dX11_bears_39 : decode cX11_bears 39 = .ok (.aload_n 0, 1) := by decide +kernel
theorem dX11_bears_40 : decode cX11_bears 40 = .ok (.getfield 10, 3) := by decide +kernel
theorem dX11_bears_43 : decode cX11_bears 43 = .ok (.getfield 194, 3) := by decide +kernel
theorem dX11_bears_46 : decode cX11_bears 46 = .ok (.aload_n 2, 1) := by decide +kernel
theorem dX11_bears_47 : decode cX11_bears 47 = .ok (.getfield 237, 3) := by decide +kernel
theorem dX11_bears_50 : decode cX11_bears 50 = .ok (.invokevirtual 316, 3) := by decide +kernel
theorem dX11_bears_53 : decode cX11_bears 53 = .ok (.istore_n 3, 1) := by decide +kernel
theorem dX11_bears_54 : decode cX11_bears 54 = .ok (.iload_n 3, 1) := by decide +kernel
theorem dX11_bears_55 : decode cX11_bears 55 = .ok (.iconst (-1), 1) := by decide +kernel
theorem dX11_bears_56 : decode cX11_bears 56 = .ok (.if_icmp .ne 12, 3) := by decide +kernel
theorem dX11_bears_59 : decode cX11_bears 59 = .ok (.aload_n 0, 1) := by decide +kernel
theorem dX11_bears_60 : decode cX11_bears 60 = .ok (.bipush 6, 2) := by decide +kernel
theorem dX11_bears_62 : decode cX11_bears 62 = .ok (.invokevirtual 132, 3) := by decide +kernel
theorem dX11_bears_65 : decode cX11_bears 65 = .ok (.goto 8, 3) := by decide +kernel
theorem dX11_bears_68 : decode cX11_bears 68 = .ok (.aload_n 0, 1) := by decide +kernel
theorem dX11_bears_69 : decode cX11_bears 69 = .ok (.iload_n 3, 1) := by decide +kernel
theorem dX11_bears_70 : decode cX11_bears 70 = .ok (.invokevirtual 191, 3) := by decide +kernel
theorem dX11_bears_73 : decode cX11_bears 73 = .ok (.ireturn, 1) := by decide +kernel
set_option maxRecDepth 20000 in
theorem ggX11_bearing_X0_has : GoodIn wsX11_bearing wsX0_has := goodIn_r _ [10, 11, 12, 13, 9, 14, 15, 74, 75, 76, 77, 78, 79, 80, 81, 82, 83, 84, 85, 86, 87] (by decide +kernel) (by decide +kernel)
set_option maxRecDepth 20000 in
theorem gX11_bearing_X0_has : GoodIn wsX11_bearing (wsV RX11 213 RX0 yX0_has wsX0_has) := goodIn_app (goodIn_of _ (by decide +kernel)) ggX11_bearing_X0_has
set_option maxRecDepth 20000 in
theorem ggX11_bearing_X11_refused : GoodIn wsX11_bearing wsX11_refused := goodIn_r _ [20, 21, 50, 51, 52, 53, 54, 55, 56, 57, 58, 59, 60, 61, 62, 63, 64, 65, 66, 67, 68] (by decide +kernel) (by decide +kernel)
set_option maxRecDepth 20000 in
theorem gX11_bearing_X11_refused : GoodIn wsX11_bearing (wsV RX11 132 RX11 yX11_refused wsX11_refused) := goodIn_app (goodIn_of _ (by decide +kernel)) ggX11_bearing_X11_refused
set_option maxRecDepth 20000 in
theorem ggX11_bearing_X0_personAt : GoodIn wsX11_bearing wsX0_personAt := goodIn_r _ [25, 26, 27, 74, 75, 76, 77, 78, 79, 80, 81, 82, 83, 84, 85, 86, 87] (by decide +kernel) (by decide +kernel)
set_option maxRecDepth 20000 in
theorem gX11_bearing_X0_personAt : GoodIn wsX11_bearing (wsV RX11 228 RX0 yX0_personAt wsX0_personAt) := goodIn_app (goodIn_of _ (by decide +kernel)) ggX11_bearing_X0_personAt
set_option maxRecDepth 20000 in
theorem ggX11_bearing_X0_countOf : GoodIn wsX11_bearing wsX0_countOf := goodIn_r _ [14, 15, 74, 75, 76, 77, 78, 79, 80, 81, 82, 83, 84, 85, 86, 87] (by decide +kernel) (by decide +kernel)
set_option maxRecDepth 20000 in
theorem gX11_bearing_X0_countOf : GoodIn wsX11_bearing (wsV RX11 167 RX0 yX0_countOf wsX0_countOf) := goodIn_app (goodIn_of _ (by decide +kernel)) ggX11_bearing_X0_countOf
set_option maxRecDepth 20000 in
theorem ggX11_bearing_X0_ruleAt : GoodIn wsX11_bearing wsX0_ruleAt := goodIn_r _ [32, 33, 34, 74, 75, 76, 77, 78, 79, 80, 81, 82, 83, 84, 85, 86, 87] (by decide +kernel) (by decide +kernel)
set_option maxRecDepth 20000 in
theorem gX11_bearing_X0_ruleAt : GoodIn wsX11_bearing (wsV RX11 219 RX0 yX0_ruleAt wsX0_ruleAt) := goodIn_app (goodIn_of _ (by decide +kernel)) ggX11_bearing_X0_ruleAt
set_option maxRecDepth 20000 in
theorem ggX11_bearing_X6_bearsOn : GoodIn wsX11_bearing wsX6_bearsOn := goodIn_r _ [39, 40, 41, 42, 43, 44, 45, 88, 89, 90, 91, 92, 93, 94, 95, 96] (by decide +kernel) (by decide +kernel)
set_option maxRecDepth 20000 in
theorem gX11_bearing_X6_bearsOn : GoodIn wsX11_bearing (wsV RX11 320 RX6 yX6_bearsOn wsX6_bearsOn) := goodIn_app (goodIn_of _ (by decide +kernel)) ggX11_bearing_X6_bearsOn
set_option maxRecDepth 20000 in
theorem ggX11_bearing_X11_given : GoodIn wsX11_bearing wsX11_given := goodIn_r _ [49, 21, 50, 51, 52, 53, 54, 55, 56, 57, 58, 59, 60, 61, 62, 63, 64, 65, 66, 67, 68] (by decide +kernel) (by decide +kernel)
set_option maxRecDepth 20000 in
theorem gX11_bearing_X11_given : GoodIn wsX11_bearing (wsV RX11 191 RX11 yX11_given wsX11_given) := goodIn_app (goodIn_of _ (by decide +kernel)) ggX11_bearing_X11_given
theorem dX11_bearing_0 : decode cX11_bearing 0 = .ok (.aload_n 0, 1) := by decide +kernel
theorem dX11_bearing_1 : decode cX11_bearing 1 = .ok (.getfield 10, 3) := by decide +kernel
theorem dX11_bearing_4 : decode cX11_bearing 4 = .ok (.iconst 3, 1) := by decide +kernel
theorem dX11_bearing_5 : decode cX11_bearing 5 = .ok (.iload_n 1, 1) := by decide +kernel
theorem dX11_bearing_6 : decode cX11_bearing 6 = .ok (.invokevirtual 213, 3) := by decide +kernel
theorem dX11_bearing_9 : decode cX11_bearing 9 = .ok (.ifCond .ne 9, 3) := by decide +kernel
theorem dX11_bearing_12 : decode cX11_bearing 12 = .ok (.aload_n 0, 1) := by decide +kernel
theorem dX11_bearing_13 : decode cX11_bearing 13 = .ok (.iconst 1, 1) := by decide +kernel
theorem dX11_bearing_14 : decode cX11_bearing 14 = .ok (.invokevirtual 132, 3) := by decide +kernel
theorem dX11_bearing_17 : decode cX11_bearing 17 = .ok (.ireturn, 1) := by decide +kernel
theorem dX11_bearing_18 : decode cX11_bearing 18 = .ok (.aload_n 0, 1) := by decide +kernel
theorem dX11_bearing_19 : decode cX11_bearing 19 = .ok (.getfield 10, 3) := by decide +kernel
theorem dX11_bearing_22 : decode cX11_bearing 22 = .ok (.iload_n 1, 1) := by decide +kernel
theorem dX11_bearing_23 : decode cX11_bearing 23 = .ok (.invokevirtual 228, 3) := by decide +kernel
theorem dX11_bearing_26 : decode cX11_bearing 26 = .ok (.astore_n 2, 1) := by decide +kernel
theorem dX11_bearing_27 : decode cX11_bearing 27 = .ok (.iconst 0, 1) := by decide +kernel
theorem dX11_bearing_28 : decode cX11_bearing 28 = .ok (.istore_n 3, 1) := by decide +kernel
theorem dX11_bearing_29 : decode cX11_bearing 29 = .ok (.iconst 0, 1) := by decide +kernel
theorem dX11_bearing_30 : decode cX11_bearing 30 = .ok (.istore 4, 2) := by decide +kernel
theorem dX11_bearing_32 : decode cX11_bearing 32 = .ok (.iload 4, 2) := by decide +kernel
theorem dX11_bearing_34 : decode cX11_bearing 34 = .ok (.aload_n 0, 1) := by decide +kernel
theorem dX11_bearing_35 : decode cX11_bearing 35 = .ok (.getfield 10, 3) := by decide +kernel
theorem dX11_bearing_38 : decode cX11_bearing 38 = .ok (.iconst 2, 1) := by decide +kernel
theorem dX11_bearing_39 : decode cX11_bearing 39 = .ok (.invokevirtual 167, 3) := by decide +kernel
theorem dX11_bearing_42 : decode cX11_bearing 42 = .ok (.if_icmp .ge 50, 3) := by decide +kernel
theorem dX11_bearing_45 : decode cX11_bearing 45 = .ok (.aload_n 0, 1) := by decide +kernel
theorem dX11_bearing_46 : decode cX11_bearing 46 = .ok (.getfield 10, 3) := by decide +kernel
theorem dX11_bearing_49 : decode cX11_bearing 49 = .ok (.iload 4, 2) := by decide +kernel
theorem dX11_bearing_51 : decode cX11_bearing 51 = .ok (.invokevirtual 219, 3) := by decide +kernel
theorem dX11_bearing_54 : decode cX11_bearing 54 = .ok (.aload_n 2, 1) := by decide +kernel
theorem dX11_bearing_55 : decode cX11_bearing 55 = .ok (.getfield 243, 3) := by decide +kernel
theorem dX11_bearing_58 : decode cX11_bearing 58 = .ok (.aload_n 2, 1) := by decide +kernel
theorem dX11_bearing_59 : decode cX11_bearing 59 = .ok (.getfield 232, 3) := by decide +kernel
theorem dX11_bearing_62 : decode cX11_bearing 62 = .ok (.aload_n 0, 1) := by decide +kernel
theorem dX11_bearing_63 : decode cX11_bearing 63 = .ok (.getfield 10, 3) := by decide +kernel
theorem dX11_bearing_66 : decode cX11_bearing 66 = .ok (.getfield 194, 3) := by decide +kernel
theorem dX11_bearing_69 : decode cX11_bearing 69 = .ok (.aload_n 2, 1) := by decide +kernel
theorem dX11_bearing_70 : decode cX11_bearing 70 = .ok (.getfield 237, 3) := by decide +kernel
theorem dX11_bearing_73 : decode cX11_bearing 73 = .ok (.invokevirtual 320, 3) := by decide +kernel
theorem dX11_bearing_76 : decode cX11_bearing 76 = .ok (.ifCond .eq 10, 3) := by decide +kernel
theorem dX11_bearing_79 : decode cX11_bearing 79 = .ok (.iload_n 3, 1) := by decide +kernel
theorem dX11_bearing_80 : decode cX11_bearing 80 = .ok (.iconst 1, 1) := by decide +kernel
theorem dX11_bearing_81 : decode cX11_bearing 81 = .ok (.iload 4, 2) := by decide +kernel
theorem dX11_bearing_83 : decode cX11_bearing 83 = .ok (.ishl, 1) := by decide +kernel
theorem dX11_bearing_84 : decode cX11_bearing 84 = .ok (.ior, 1) := by decide +kernel
theorem dX11_bearing_85 : decode cX11_bearing 85 = .ok (.istore_n 3, 1) := by decide +kernel
theorem dX11_bearing_86 : decode cX11_bearing 86 = .ok (.iinc 4 1, 3) := by decide +kernel
theorem dX11_bearing_89 : decode cX11_bearing 89 = .ok (.goto (-57), 3) := by decide +kernel
theorem dX11_bearing_92 : decode cX11_bearing 92 = .ok (.aload_n 0, 1) := by decide +kernel
theorem dX11_bearing_93 : decode cX11_bearing 93 = .ok (.iload_n 3, 1) := by decide +kernel
theorem dX11_bearing_94 : decode cX11_bearing 94 = .ok (.invokevirtual 191, 3) := by decide +kernel
theorem dX11_bearing_97 : decode cX11_bearing 97 = .ok (.ireturn, 1) := by decide +kernel
set_option maxRecDepth 20000 in
theorem ggX11_shown_X0_has : GoodIn wsX11_shown wsX0_has := goodIn_r _ [7, 8, 9, 10, 6, 11, 12, 78, 79, 80, 81, 82, 83, 84, 85, 86, 87, 88, 89, 90, 91] (by decide +kernel) (by decide +kernel)
set_option maxRecDepth 20000 in
theorem gX11_shown_X0_has : GoodIn wsX11_shown (wsV RX11 213 RX0 yX0_has wsX0_has) := goodIn_app (goodIn_of _ (by decide +kernel)) ggX11_shown_X0_has
set_option maxRecDepth 20000 in
theorem ggX11_shown_X11_refused : GoodIn wsX11_shown wsX11_refused := goodIn_r _ [17, 18, 59, 60, 61, 62, 63, 64, 65, 66, 67, 68, 69, 70, 71, 72, 73, 74, 75, 76, 77] (by decide +kernel) (by decide +kernel)
set_option maxRecDepth 20000 in
theorem gX11_shown_X11_refused : GoodIn wsX11_shown (wsV RX11 132 RX11 yX11_refused wsX11_refused) := goodIn_app (goodIn_of _ (by decide +kernel)) ggX11_shown_X11_refused
set_option maxRecDepth 20000 in
theorem ggX11_shown_X0_countOf : GoodIn wsX11_shown wsX0_countOf := goodIn_r _ [11, 12, 78, 79, 80, 81, 82, 83, 84, 85, 86, 87, 88, 89, 90, 91] (by decide +kernel) (by decide +kernel)
set_option maxRecDepth 20000 in
theorem gX11_shown_X0_countOf : GoodIn wsX11_shown (wsV RX11 167 RX0 yX0_countOf wsX0_countOf) := goodIn_app (goodIn_of _ (by decide +kernel)) ggX11_shown_X0_countOf
set_option maxRecDepth 20000 in
theorem ggX11_shown_X0_cueBefore : GoodIn wsX11_shown wsX0_cueBefore := goodIn_r _ [23, 24, 25, 26, 27, 28, 29, 30, 6, 31, 32, 33, 34, 35, 36, 37, 8, 9, 10, 11, 12, 38, 39, 40, 41, 42, 43, 44, 45, 46, 47, 48, 49, 50, 51, 52, 53, 54, 92, 93, 94, 95, 96, 97, 98, 99, 100, 101, 102, 103, 104, 105, 78, 79, 80, 81, 82, 83, 84, 85, 86, 87, 88, 89, 90, 91] (by decide +kernel) (by decide +kernel)
set_option maxRecDepth 20000 in
theorem gX11_shown_X0_cueBefore : GoodIn wsX11_shown (wsV RX11 313 RX0 yX0_cueBefore wsX0_cueBefore) := goodIn_app (goodIn_of _ (by decide +kernel)) ggX11_shown_X0_cueBefore
set_option maxRecDepth 20000 in
theorem ggX11_shown_X11_given : GoodIn wsX11_shown wsX11_given := goodIn_r _ [58, 18, 59, 60, 61, 62, 63, 64, 65, 66, 67, 68, 69, 70, 71, 72, 73, 74, 75, 76, 77] (by decide +kernel) (by decide +kernel)
set_option maxRecDepth 20000 in
theorem gX11_shown_X11_given : GoodIn wsX11_shown (wsV RX11 191 RX11 yX11_given wsX11_given) := goodIn_app (goodIn_of _ (by decide +kernel)) ggX11_shown_X11_given
theorem dX11_shown_0 : decode cX11_shown 0 = .ok (.aload_n 0, 1) := by decide +kernel
theorem dX11_shown_1 : decode cX11_shown 1 = .ok (.getfield 10, 3) := by decide +kernel
theorem dX11_shown_4 : decode cX11_shown 4 = .ok (.iconst 1, 1) := by decide +kernel
theorem dX11_shown_5 : decode cX11_shown 5 = .ok (.iload_n 1, 1) := by decide +kernel
theorem dX11_shown_6 : decode cX11_shown 6 = .ok (.invokevirtual 213, 3) := by decide +kernel
theorem dX11_shown_9 : decode cX11_shown 9 = .ok (.ifCond .ne 9, 3) := by decide +kernel
theorem dX11_shown_12 : decode cX11_shown 12 = .ok (.aload_n 0, 1) := by decide +kernel
theorem dX11_shown_13 : decode cX11_shown 13 = .ok (.iconst 1, 1) := by decide +kernel
theorem dX11_shown_14 : decode cX11_shown 14 = .ok (.invokevirtual 132, 3) := by decide +kernel
theorem dX11_shown_17 : decode cX11_shown 17 = .ok (.ireturn, 1) := by decide +kernel
theorem dX11_shown_18 : decode cX11_shown 18 = .ok (.iconst 0, 1) := by decide +kernel
theorem dX11_shown_19 : decode cX11_shown 19 = .ok (.istore_n 2, 1) := by decide +kernel
theorem dX11_shown_20 : decode cX11_shown 20 = .ok (.iconst 0, 1) := by decide +kernel
theorem dX11_shown_21 : decode cX11_shown 21 = .ok (.istore_n 3, 1) := by decide +kernel
theorem dX11_shown_22 : decode cX11_shown 22 = .ok (.iload_n 3, 1) := by decide +kernel
theorem dX11_shown_23 : decode cX11_shown 23 = .ok (.aload_n 0, 1) := by decide +kernel
theorem dX11_shown_24 : decode cX11_shown 24 = .ok (.getfield 10, 3) := by decide +kernel
theorem dX11_shown_27 : decode cX11_shown 27 = .ok (.iconst 3, 1) := by decide +kernel
theorem dX11_shown_28 : decode cX11_shown 28 = .ok (.invokevirtual 167, 3) := by decide +kernel
theorem dX11_shown_31 : decode cX11_shown 31 = .ok (.if_icmp .ge 34, 3) := by decide +kernel
theorem dX11_shown_34 : decode cX11_shown 34 = .ok (.aload_n 0, 1) := by decide +kernel
theorem dX11_shown_35 : decode cX11_shown 35 = .ok (.getfield 10, 3) := by decide +kernel
theorem dX11_shown_38 : decode cX11_shown 38 = .ok (.iload_n 3, 1) := by decide +kernel
theorem dX11_shown_39 : decode cX11_shown 39 = .ok (.aload_n 0, 1) := by decide +kernel
theorem dX11_shown_40 : decode cX11_shown 40 = .ok (.getfield 10, 3) := by decide +kernel
theorem dX11_shown_43 : decode cX11_shown 43 = .ok (.getfield 194, 3) := by decide +kernel
theorem dX11_shown_46 : decode cX11_shown 46 = .ok (.invokevirtual 313, 3) := by decide +kernel
theorem dX11_shown_49 : decode cX11_shown 49 = .ok (.iload_n 1, 1) := by decide +kernel
theorem dX11_shown_50 : decode cX11_shown 50 = .ok (.if_icmp .ne 9, 3) := by decide +kernel
theorem dX11_shown_53 : decode cX11_shown 53 = .ok (.iload_n 2, 1) := by decide +kernel
theorem dX11_shown_54 : decode cX11_shown 54 = .ok (.iconst 1, 1) := by decide +kernel
theorem dX11_shown_55 : decode cX11_shown 55 = .ok (.iload_n 3, 1) := by decide +kernel
theorem dX11_shown_56 : decode cX11_shown 56 = .ok (.ishl, 1) := by decide +kernel
theorem dX11_shown_57 : decode cX11_shown 57 = .ok (.ior, 1) := by decide +kernel
theorem dX11_shown_58 : decode cX11_shown 58 = .ok (.istore_n 2, 1) := by decide +kernel
theorem dX11_shown_59 : decode cX11_shown 59 = .ok (.iinc 3 1, 3) := by decide +kernel
theorem dX11_shown_62 : decode cX11_shown 62 = .ok (.goto (-40), 3) := by decide +kernel
theorem dX11_shown_65 : decode cX11_shown 65 = .ok (.aload_n 0, 1) := by decide +kernel
theorem dX11_shown_66 : decode cX11_shown 66 = .ok (.iload_n 2, 1) := by decide +kernel
theorem dX11_shown_67 : decode cX11_shown 67 = .ok (.invokevirtual 191, 3) := by decide +kernel
theorem dX11_shown_70 : decode cX11_shown 70 = .ok (.ireturn, 1) := by decide +kernel
set_option maxRecDepth 20000 in
theorem ggX11_freeIn_X11_within : GoodIn wsX11_freeIn wsX11_within := goodIn_r _ [6] (by decide +kernel) (by decide +kernel)
set_option maxRecDepth 20000 in
theorem gX11_freeIn_X11_within : GoodIn wsX11_freeIn (va_wsS RX11 104 yX11_within wsX11_within) := goodIn_app (goodIn_of _ (by decide +kernel)) ggX11_freeIn_X11_within
set_option maxRecDepth 20000 in
theorem ggX11_freeIn_X11_refused : GoodIn wsX11_freeIn wsX11_refused := goodIn_r _ [10, 11, 125, 126, 127, 128, 129, 130, 131, 132, 133, 134, 135, 136, 137, 138, 139, 140, 141, 142, 143] (by decide +kernel) (by decide +kernel)
set_option maxRecDepth 20000 in
theorem gX11_freeIn_X11_refused : GoodIn wsX11_freeIn (wsV RX11 132 RX11 yX11_refused wsX11_refused) := goodIn_app (goodIn_of _ (by decide +kernel)) ggX11_freeIn_X11_refused
set_option maxRecDepth 20000 in
theorem ggX11_freeIn_X0_copyFrom : GoodIn wsX11_freeIn wsX0_copyFrom := goodIn_r _ [16, 17, 18, 19, 20, 21, 22, 23, 24, 25, 26, 27, 5, 28, 29, 30, 31, 15, 32, 33, 34, 35, 36, 37, 38, 39, 40, 41, 42, 43, 44, 45, 46, 47, 48, 49, 50, 51, 52, 53, 54, 55, 56, 57, 58, 59, 60, 61, 62, 63, 64, 65, 66, 67, 68, 69, 70, 71, 72, 73, 74, 75, 76, 144, 145, 146, 147, 148, 149, 150, 151, 152, 153, 154, 155, 156, 157, 158, 159, 160, 161, 162, 163, 164, 165, 166, 167, 168, 169, 170, 171, 172, 173, 174] (by decide +kernel) (by decide +kernel)
set_option maxRecDepth 20000 in
theorem gX11_freeIn_X0_copyFrom : GoodIn wsX11_freeIn (wsV RX11 324 RX0 yX0_copyFrom wsX0_copyFrom) := goodIn_app (goodIn_of _ (by decide +kernel)) ggX11_freeIn_X0_copyFrom
set_option maxRecDepth 20000 in
theorem ggX11_freeIn_X0_holdTerm : GoodIn wsX11_freeIn wsX0_holdTerm := goodIn_r _ [80, 81, 29, 30, 31, 15, 32, 17, 53, 54, 55, 56, 57, 58, 82, 83, 84, 85, 25, 86, 87, 88, 89, 26, 90, 91, 92, 93, 94, 95, 96, 97, 98, 99, 100, 101, 102, 33, 34, 35, 36, 37, 38, 103, 104, 105, 42, 106, 45, 48, 49, 51, 52, 46, 107, 108, 109, 110, 19, 111, 112, 113, 114, 115, 5, 116, 167, 168, 169, 170, 171, 144, 145, 146, 147, 148, 149, 150, 151, 152, 153, 154, 155, 156, 157, 158, 159, 160, 161, 162, 163, 164, 165, 166] (by decide +kernel) (by decide +kernel)
set_option maxRecDepth 20000 in
theorem gX11_freeIn_X0_holdTerm : GoodIn wsX11_freeIn (wsV RX11 275 RX0 yX0_holdTerm wsX0_holdTerm) := goodIn_app (goodIn_of _ (by decide +kernel)) ggX11_freeIn_X0_holdTerm
set_option maxRecDepth 20000 in
theorem ggX11_freeIn_X0_setOfFate : GoodIn wsX11_freeIn wsX0_setOfFate := goodIn_r _ [120, 81, 29, 30, 31, 15, 32, 17, 53, 54, 55, 56, 57, 58, 167, 168, 169, 170, 171, 144, 145, 146, 147, 148, 149, 150, 151, 152, 153, 154, 155, 156, 157] (by decide +kernel) (by decide +kernel)
set_option maxRecDepth 20000 in
theorem gX11_freeIn_X0_setOfFate : GoodIn wsX11_freeIn (wsV RX11 200 RX0 yX0_setOfFate wsX0_setOfFate) := goodIn_app (goodIn_of _ (by decide +kernel)) ggX11_freeIn_X0_setOfFate
set_option maxRecDepth 20000 in
theorem ggX11_freeIn_X11_given : GoodIn wsX11_freeIn wsX11_given := goodIn_r _ [124, 11, 125, 126, 127, 128, 129, 130, 131, 132, 133, 134, 135, 136, 137, 138, 139, 140, 141, 142, 143] (by decide +kernel) (by decide +kernel)
set_option maxRecDepth 20000 in
theorem gX11_freeIn_X11_given : GoodIn wsX11_freeIn (wsV RX11 191 RX11 yX11_given wsX11_given) := goodIn_app (goodIn_of _ (by decide +kernel)) ggX11_freeIn_X11_given
theorem dX11_freeIn_0 : decode cX11_freeIn 0 = .ok (.iload_n 1, 1) := by decide +kernel
theorem dX11_freeIn_1 : decode cX11_freeIn 1 = .ok (.bipush 41, 2) := by decide +kernel
theorem dX11_freeIn_3 : decode cX11_freeIn 3 = .ok (.invokestatic 104, 3) := by decide +kernel
theorem dX11_freeIn_6 : decode cX11_freeIn 6 = .ok (.ifCond .ne 9, 3) := by decide +kernel
theorem dX11_freeIn_9 : decode cX11_freeIn 9 = .ok (.aload_n 0, 1) := by decide +kernel
theorem dX11_freeIn_10 : decode cX11_freeIn 10 = .ok (.iconst 1, 1) := by decide +kernel
theorem dX11_freeIn_11 : decode cX11_freeIn 11 = .ok (.invokevirtual 132, 3) := by decide +kernel
theorem dX11_freeIn_14 : decode cX11_freeIn 14 = .ok (.ireturn, 1) := by decide +kernel
theorem dX11_freeIn_15 : decode cX11_freeIn 15 = .ok (.aload_n 0, 1) := by decide +kernel
theorem dX11_freeIn_16 : decode cX11_freeIn 16 = .ok (.getfield 16, 3) := by decide +kernel
theorem dX11_freeIn_19 : decode cX11_freeIn 19 = .ok (.aload_n 0, 1) := by decide +kernel
theorem dX11_freeIn_20 : decode cX11_freeIn 20 = .ok (.getfield 10, 3) := by decide +kernel
theorem dX11_freeIn_23 : decode cX11_freeIn 23 = .ok (.invokevirtual 324, 3) := by decide +kernel
theorem dX11_freeIn_26 : decode cX11_freeIn 26 = .ok (.iconst 0, 1) := by decide +kernel
theorem dX11_freeIn_27 : decode cX11_freeIn 27 = .ok (.istore_n 2, 1) := by decide +kernel
theorem dX11_freeIn_28 : decode cX11_freeIn 28 = .ok (.iload_n 2, 1) := by decide +kernel
theorem dX11_freeIn_29 : decode cX11_freeIn 29 = .ok (.iload_n 1, 1) := by decide +kernel
theorem dX11_freeIn_30 : decode cX11_freeIn 30 = .ok (.if_icmp .ge 17, 3) := by decide +kernel
theorem dX11_freeIn_33 : decode cX11_freeIn 33 = .ok (.aload_n 0, 1) := by decide +kernel
theorem dX11_freeIn_34 : decode cX11_freeIn 34 = .ok (.getfield 16, 3) := by decide +kernel
theorem dX11_freeIn_37 : decode cX11_freeIn 37 = .ok (.invokevirtual 275, 3) := by decide +kernel
theorem dX11_freeIn_40 : decode cX11_freeIn 40 = .ok (.pop, 1) := by decide +kernel
theorem dX11_freeIn_41 : decode cX11_freeIn 41 = .ok (.iinc 2 1, 3) := by decide +kernel
theorem dX11_freeIn_44 : decode cX11_freeIn 44 = .ok (.goto (-16), 3) := by decide +kernel
theorem dX11_freeIn_47 : decode cX11_freeIn 47 = .ok (.aload_n 0, 1) := by decide +kernel
theorem dX11_freeIn_48 : decode cX11_freeIn 48 = .ok (.aload_n 0, 1) := by decide +kernel
theorem dX11_freeIn_49 : decode cX11_freeIn 49 = .ok (.getfield 16, 3) := by decide +kernel
theorem dX11_freeIn_52 : decode cX11_freeIn 52 = .ok (.iconst 1, 1) := by decide +kernel
theorem dX11_freeIn_53 : decode cX11_freeIn 53 = .ok (.invokevirtual 200, 3) := by decide +kernel
theorem dX11_freeIn_56 : decode cX11_freeIn 56 = .ok (.invokevirtual 191, 3) := by decide +kernel
theorem dX11_freeIn_59 : decode cX11_freeIn 59 = .ok (.ireturn, 1) := by decide +kernel
set_option maxRecDepth 20000 in
theorem ggX11_judgedIn_X0_has : GoodIn wsX11_judgedIn wsX0_has := goodIn_r _ [8, 9, 10, 11, 7, 12, 13, 145, 146, 147, 148, 149, 150, 151, 152, 153, 154, 155, 156, 157, 158] (by decide +kernel) (by decide +kernel)
set_option maxRecDepth 20000 in
theorem gX11_judgedIn_X0_has : GoodIn wsX11_judgedIn (wsV RX11 213 RX0 yX0_has wsX0_has) := goodIn_app (goodIn_of _ (by decide +kernel)) ggX11_judgedIn_X0_has
set_option maxRecDepth 20000 in
theorem ggX11_judgedIn_X11_refused : GoodIn wsX11_judgedIn wsX11_refused := goodIn_r _ [18, 19, 121, 122, 123, 124, 125, 126, 127, 128, 129, 130, 131, 132, 133, 134, 135, 136, 137, 138, 139] (by decide +kernel) (by decide +kernel)
set_option maxRecDepth 20000 in
theorem gX11_judgedIn_X11_refused : GoodIn wsX11_judgedIn (wsV RX11 132 RX11 yX11_refused wsX11_refused) := goodIn_app (goodIn_of _ (by decide +kernel)) ggX11_judgedIn_X11_refused
set_option maxRecDepth 20000 in
theorem ggX11_judgedIn_X0_personAt : GoodIn wsX11_judgedIn wsX0_personAt := goodIn_r _ [23, 24, 25, 145, 146, 147, 148, 149, 150, 151, 152, 153, 154, 155, 156, 157, 158] (by decide +kernel) (by decide +kernel)
set_option maxRecDepth 20000 in
theorem gX11_judgedIn_X0_personAt : GoodIn wsX11_judgedIn (wsV RX11 228 RX0 yX0_personAt wsX0_personAt) := goodIn_app (goodIn_of _ (by decide +kernel)) ggX11_judgedIn_X0_personAt
set_option maxRecDepth 20000 in
theorem ggX11_judgedIn_X0_copyFrom : GoodIn wsX11_judgedIn wsX0_copyFrom := goodIn_r _ [29, 13, 30, 31, 32, 33, 34, 35, 36, 37, 38, 39, 17, 40, 9, 10, 11, 7, 12, 41, 42, 43, 44, 45, 46, 47, 48, 49, 50, 51, 52, 53, 54, 55, 56, 57, 58, 59, 60, 61, 21, 22, 23, 24, 25, 62, 63, 64, 65, 66, 67, 68, 69, 70, 71, 72, 73, 74, 75, 76, 77, 78, 79, 145, 146, 147, 148, 149, 150, 151, 152, 153, 154, 155, 156, 157, 158, 159, 160, 161, 162, 163, 164, 165, 166, 167, 140, 141, 142, 143, 144, 168, 169, 170] (by decide +kernel) (by decide +kernel)
set_option maxRecDepth 20000 in
theorem gX11_judgedIn_X0_copyFrom : GoodIn wsX11_judgedIn (wsV RX11 324 RX0 yX0_copyFrom wsX0_copyFrom) := goodIn_app (goodIn_of _ (by decide +kernel)) ggX11_judgedIn_X0_copyFrom
set_option maxRecDepth 20000 in
theorem ggX11_judgedIn_X0_holdTerm : GoodIn wsX11_judgedIn wsX0_holdTerm := goodIn_r _ [83, 84, 9, 10, 11, 7, 12, 13, 61, 21, 22, 23, 24, 25, 85, 86, 87, 88, 37, 89, 90, 91, 92, 38, 93, 94, 95, 96, 97, 98, 99, 100, 101, 102, 103, 104, 105, 41, 42, 43, 44, 45, 46, 106, 107, 108, 50, 109, 53, 56, 57, 59, 60, 54, 110, 111, 112, 113, 31, 114, 5, 6, 8, 115, 17, 116, 140, 141, 142, 143, 144, 145, 146, 147, 148, 149, 150, 151, 152, 153, 154, 155, 156, 157, 158, 159, 160, 161, 162, 163, 164, 165, 166, 167] (by decide +kernel) (by decide +kernel)
set_option maxRecDepth 20000 in
theorem gX11_judgedIn_X0_holdTerm : GoodIn wsX11_judgedIn (wsV RX11 275 RX0 yX0_holdTerm wsX0_holdTerm) := goodIn_app (goodIn_of _ (by decide +kernel)) ggX11_judgedIn_X0_holdTerm
set_option maxRecDepth 20000 in
theorem ggX11_judgedIn_X11_given : GoodIn wsX11_judgedIn wsX11_given := goodIn_r _ [120, 19, 121, 122, 123, 124, 125, 126, 127, 128, 129, 130, 131, 132, 133, 134, 135, 136, 137, 138, 139] (by decide +kernel) (by decide +kernel)
set_option maxRecDepth 20000 in
theorem gX11_judgedIn_X11_given : GoodIn wsX11_judgedIn (wsV RX11 191 RX11 yX11_given wsX11_given) := goodIn_app (goodIn_of _ (by decide +kernel)) ggX11_judgedIn_X11_given
theorem dX11_judgedIn_0 : decode cX11_judgedIn 0 = .ok (.aload_n 0, 1) := by decide +kernel
theorem dX11_judgedIn_1 : decode cX11_judgedIn 1 = .ok (.getfield 10, 3) := by decide +kernel
theorem dX11_judgedIn_4 : decode cX11_judgedIn 4 = .ok (.iconst 3, 1) := by decide +kernel
theorem dX11_judgedIn_5 : decode cX11_judgedIn 5 = .ok (.iload_n 1, 1) := by decide +kernel
theorem dX11_judgedIn_6 : decode cX11_judgedIn 6 = .ok (.invokevirtual 213, 3) := by decide +kernel
theorem dX11_judgedIn_9 : decode cX11_judgedIn 9 = .ok (.ifCond .ne 9, 3) := by decide +kernel
theorem dX11_judgedIn_12 : decode cX11_judgedIn 12 = .ok (.aload_n 0, 1) := by decide +kernel
theorem dX11_judgedIn_13 : decode cX11_judgedIn 13 = .ok (.iconst 1, 1) := by decide +kernel
theorem dX11_judgedIn_14 : decode cX11_judgedIn 14 = .ok (.invokevirtual 132, 3) := by decide +kernel
theorem dX11_judgedIn_17 : decode cX11_judgedIn 17 = .ok (.ireturn, 1) := by decide +kernel
theorem dX11_judgedIn_18 : decode cX11_judgedIn 18 = .ok (.aload_n 0, 1) := by decide +kernel
theorem dX11_judgedIn_19 : decode cX11_judgedIn 19 = .ok (.getfield 10, 3) := by decide +kernel
theorem dX11_judgedIn_22 : decode cX11_judgedIn 22 = .ok (.iload_n 1, 1) := by decide +kernel
theorem dX11_judgedIn_23 : decode cX11_judgedIn 23 = .ok (.invokevirtual 228, 3) := by decide +kernel
theorem dX11_judgedIn_26 : decode cX11_judgedIn 26 = .ok (.getfield 240, 3) := by decide +kernel
theorem dX11_judgedIn_29 : decode cX11_judgedIn 29 = .ok (.ifCond .eq 10, 3) := by decide +kernel
theorem dX11_judgedIn_32 : decode cX11_judgedIn 32 = .ok (.aload_n 0, 1) := by decide +kernel
theorem dX11_judgedIn_33 : decode cX11_judgedIn 33 = .ok (.bipush 7, 2) := by decide +kernel
theorem dX11_judgedIn_35 : decode cX11_judgedIn 35 = .ok (.invokevirtual 132, 3) := by decide +kernel
theorem dX11_judgedIn_38 : decode cX11_judgedIn 38 = .ok (.ireturn, 1) := by decide +kernel
theorem dX11_judgedIn_39 : decode cX11_judgedIn 39 = .ok (.aload_n 0, 1) := by decide +kernel
theorem dX11_judgedIn_40 : decode cX11_judgedIn 40 = .ok (.getfield 16, 3) := by decide +kernel
theorem dX11_judgedIn_43 : decode cX11_judgedIn 43 = .ok (.aload_n 0, 1) := by decide +kernel
theorem dX11_judgedIn_44 : decode cX11_judgedIn 44 = .ok (.getfield 10, 3) := by decide +kernel
theorem dX11_judgedIn_47 : decode cX11_judgedIn 47 = .ok (.invokevirtual 324, 3) := by decide +kernel
theorem dX11_judgedIn_50 : decode cX11_judgedIn 50 = .ok (.iconst 1, 1) := by decide +kernel
theorem dX11_judgedIn_51 : decode cX11_judgedIn 51 = .ok (.istore_n 2, 1) := by decide +kernel
theorem dX11_judgedIn_52 : decode cX11_judgedIn 52 = .ok (.iload_n 2, 1) := by decide +kernel
theorem dX11_judgedIn_53 : decode cX11_judgedIn 53 = .ok (.bipush 40, 2) := by decide +kernel
theorem dX11_judgedIn_55 : decode cX11_judgedIn 55 = .ok (.if_icmp .gt 37, 3) := by decide +kernel
theorem dX11_judgedIn_58 : decode cX11_judgedIn 58 = .ok (.aload_n 0, 1) := by decide +kernel
theorem dX11_judgedIn_59 : decode cX11_judgedIn 59 = .ok (.getfield 16, 3) := by decide +kernel
theorem dX11_judgedIn_62 : decode cX11_judgedIn 62 = .ok (.invokevirtual 275, 3) := by decide +kernel
theorem dX11_judgedIn_65 : decode cX11_judgedIn 65 = .ok (.pop, 1) := by decide +kernel
theorem dX11_judgedIn_66 : decode cX11_judgedIn 66 = .ok (.aload_n 0, 1) := by decide +kernel
theorem dX11_judgedIn_67 : decode cX11_judgedIn 67 = .ok (.getfield 16, 3) := by decide +kernel
theorem dX11_judgedIn_70 : decode cX11_judgedIn 70 = .ok (.iload_n 1, 1) := by decide +kernel
theorem dX11_judgedIn_71 : decode cX11_judgedIn 71 = .ok (.invokevirtual 228, 3) := by decide +kernel
theorem dX11_judgedIn_74 : decode cX11_judgedIn 74 = .ok (.getfield 240, 3) := by decide +kernel
theorem dX11_judgedIn_77 : decode cX11_judgedIn 77 = .ok (.ifCond .eq 9, 3) := by decide +kernel
theorem dX11_judgedIn_80 : decode cX11_judgedIn 80 = .ok (.aload_n 0, 1) := by decide +kernel
theorem dX11_judgedIn_81 : decode cX11_judgedIn 81 = .ok (.iload_n 2, 1) := by decide +kernel
theorem dX11_judgedIn_82 : decode cX11_judgedIn 82 = .ok (.invokevirtual 191, 3) := by decide +kernel
theorem dX11_judgedIn_85 : decode cX11_judgedIn 85 = .ok (.ireturn, 1) := by decide +kernel
theorem dX11_judgedIn_86 : decode cX11_judgedIn 86 = .ok (.iinc 2 1, 3) := by decide +kernel
theorem dX11_judgedIn_89 : decode cX11_judgedIn 89 = .ok (.goto (-37), 3) := by decide +kernel
theorem dX11_judgedIn_92 : decode cX11_judgedIn 92 = .ok (.aload_n 0, 1) := by decide +kernel
theorem dX11_judgedIn_93 : decode cX11_judgedIn 93 = .ok (.bipush 6, 2) := by decide +kernel
theorem dX11_judgedIn_95 : decode cX11_judgedIn 95 = .ok (.invokevirtual 132, 3) := by decide +kernel
theorem dX11_judgedIn_98 : decode cX11_judgedIn 98 = .ok (.ireturn, 1) := by decide +kernel
set_option maxRecDepth 20000 in
theorem ggX11_fits_X11_readThrees : GoodIn wsX11_fits wsX11_readThrees := goodIn_r _ [5, 6, 7, 8, 9, 10, 11, 4, 12, 13, 14, 15, 16, 17, 18, 19, 20, 21, 22, 23, 24, 25, 26, 27, 28, 29, 30, 31, 32, 33, 34, 35, 36, 37, 38, 39, 40, 41, 42, 43, 44, 45, 46, 47, 48, 49, 50, 51, 52, 53, 54, 55, 56, 57, 58, 59, 60, 61, 62, 63, 64, 65, 66, 67, 68, 69, 70, 71, 72, 73, 74, 75, 76, 77, 78, 79, 100, 101, 102, 103, 104, 105, 106, 107, 108, 109, 110, 111, 112, 113, 114, 115, 116, 117, 118, 119, 120, 121, 122, 123, 124, 125, 126, 127, 128, 129, 130, 131, 132, 133, 134, 135, 136, 137, 138, 139, 140, 141, 142, 143, 144, 145, 146, 147, 148, 149] (by decide +kernel) (by decide +kernel)
set_option maxRecDepth 20000 in
theorem gX11_fits_X11_readThrees : GoodIn wsX11_fits (wsV RX11 327 RX11 yX11_readThrees wsX11_readThrees) := goodIn_app (goodIn_of _ (by decide +kernel)) ggX11_fits_X11_readThrees
set_option maxRecDepth 20000 in
theorem ggX11_fits_X11_refused : GoodIn wsX11_fits wsX11_refused := goodIn_r _ [83, 84, 100, 101, 102, 103, 104, 105, 106, 107, 108, 109, 110, 111, 112, 113, 114, 115, 116, 117, 118] (by decide +kernel) (by decide +kernel)
set_option maxRecDepth 20000 in
theorem gX11_fits_X11_refused : GoodIn wsX11_fits (wsV RX11 132 RX11 yX11_refused wsX11_refused) := goodIn_app (goodIn_of _ (by decide +kernel)) ggX11_fits_X11_refused
set_option maxRecDepth 20000 in
theorem ggX11_fits_X11_ways : GoodIn wsX11_fits wsX11_ways := goodIn_r _ [88, 6, 7, 8, 35, 36, 37, 38, 39, 40, 89, 90, 91, 92, 93, 94, 95, 100, 101, 102, 103, 104, 105, 106, 107, 108, 109, 110, 111, 112, 113, 114, 115, 116, 117, 118, 122, 123, 124, 125, 126, 127, 128, 129, 130, 131, 132, 133, 134, 135] (by decide +kernel) (by decide +kernel)
set_option maxRecDepth 20000 in
theorem gX11_fits_X11_ways : GoodIn wsX11_fits (wsV RX11 330 RX11 yX11_ways wsX11_ways) := goodIn_app (goodIn_of _ (by decide +kernel)) ggX11_fits_X11_ways
set_option maxRecDepth 20000 in
theorem ggX11_fits_X11_given : GoodIn wsX11_fits wsX11_given := goodIn_r _ [99, 84, 100, 101, 102, 103, 104, 105, 106, 107, 108, 109, 110, 111, 112, 113, 114, 115, 116, 117, 118] (by decide +kernel) (by decide +kernel)
set_option maxRecDepth 20000 in
theorem gX11_fits_X11_given : GoodIn wsX11_fits (wsV RX11 191 RX11 yX11_given wsX11_given) := goodIn_app (goodIn_of _ (by decide +kernel)) ggX11_fits_X11_given
theorem dX11_fits_0 : decode cX11_fits 0 = .ok (.aload_n 0, 1) := by decide +kernel
theorem dX11_fits_1 : decode cX11_fits 1 = .ok (.iload_n 1, 1) := by decide +kernel
theorem dX11_fits_2 : decode cX11_fits 2 = .ok (.iload_n 2, 1) := by decide +kernel
theorem dX11_fits_3 : decode cX11_fits 3 = .ok (.invokevirtual 327, 3) := by decide +kernel
theorem dX11_fits_6 : decode cX11_fits 6 = .ok (.istore_n 3, 1) := by decide +kernel
theorem dX11_fits_7 : decode cX11_fits 7 = .ok (.iload_n 3, 1) := by decide +kernel
theorem dX11_fits_8 : decode cX11_fits 8 = .ok (.ifCond .eq 11, 3) := by decide +kernel
theorem dX11_fits_11 : decode cX11_fits 11 = .ok (.aload_n 0, 1) := by decide +kernel
theorem dX11_fits_12 : decode cX11_fits 12 = .ok (.iload_n 3, 1) := by decide +kernel
theorem dX11_fits_13 : decode cX11_fits 13 = .ok (.invokevirtual 132, 3) := by decide +kernel
theorem dX11_fits_16 : decode cX11_fits 16 = .ok (.goto 11, 3) := by decide +kernel
theorem dX11_fits_19 : decode cX11_fits 19 = .ok (.aload_n 0, 1) := by decide +kernel
theorem dX11_fits_20 : decode cX11_fits 20 = .ok (.aload_n 0, 1) := by decide +kernel
theorem dX11_fits_21 : decode cX11_fits 21 = .ok (.invokevirtual 330, 3) := by decide +kernel
theorem dX11_fits_24 : decode cX11_fits 24 = .ok (.invokevirtual 191, 3) := by decide +kernel
theorem dX11_fits_27 : decode cX11_fits 27 = .ok (.ireturn, 1) := by decide +kernel
set_option maxRecDepth 20000 in
theorem ggX11_sure_X0_has : GoodIn wsX11_sure wsX0_has := goodIn_r _ [7, 8, 9, 10, 6, 11, 12, 130, 131, 132, 133, 134, 135, 136, 137, 138, 139, 140, 141, 142, 143] (by decide +kernel) (by decide +kernel)
set_option maxRecDepth 20000 in
theorem gX11_sure_X0_has : GoodIn wsX11_sure (wsV RX11 213 RX0 yX0_has wsX0_has) := goodIn_app (goodIn_of _ (by decide +kernel)) ggX11_sure_X0_has
set_option maxRecDepth 20000 in
theorem ggX11_sure_X11_readThrees : GoodIn wsX11_sure wsX11_readThrees := goodIn_r _ [17, 18, 2, 1, 19, 20, 21, 16, 22, 23, 24, 25, 26, 27, 28, 29, 30, 31, 32, 33, 34, 35, 36, 37, 38, 39, 40, 41, 42, 43, 44, 45, 9, 10, 6, 11, 12, 46, 47, 48, 49, 50, 51, 52, 53, 54, 55, 56, 57, 58, 59, 60, 61, 62, 63, 64, 65, 66, 8, 67, 68, 69, 70, 71, 72, 73, 74, 75, 76, 77, 78, 79, 80, 81, 82, 83, 111, 112, 113, 114, 115, 116, 117, 118, 119, 120, 121, 122, 123, 124, 125, 126, 127, 128, 129, 144, 145, 146, 130, 131, 132, 133, 134, 135, 136, 137, 138, 139, 140, 141, 142, 143, 147, 148, 149, 150, 151, 152, 153, 154, 155, 156, 157, 158, 159, 160] (by decide +kernel) (by decide +kernel)
set_option maxRecDepth 20000 in
theorem gX11_sure_X11_readThrees : GoodIn wsX11_sure (wsV RX11 327 RX11 yX11_readThrees wsX11_readThrees) := goodIn_app (goodIn_of _ (by decide +kernel)) ggX11_sure_X11_readThrees
set_option maxRecDepth 20000 in
theorem ggX11_sure_X11_refused : GoodIn wsX11_sure wsX11_refused := goodIn_r _ [87, 88, 111, 112, 113, 114, 115, 116, 117, 118, 119, 120, 121, 122, 123, 124, 125, 126, 127, 128, 129] (by decide +kernel) (by decide +kernel)
set_option maxRecDepth 20000 in
theorem gX11_sure_X11_refused : GoodIn wsX11_sure (wsV RX11 132 RX11 yX11_refused wsX11_refused) := goodIn_app (goodIn_of _ (by decide +kernel)) ggX11_sure_X11_refused
set_option maxRecDepth 20000 in
theorem ggX11_sure_X11_ways : GoodIn wsX11_sure wsX11_ways := goodIn_r _ [92, 18, 2, 1, 45, 9, 10, 6, 11, 12, 93, 94, 95, 96, 97, 98, 99, 111, 112, 113, 114, 115, 116, 117, 118, 119, 120, 121, 122, 123, 124, 125, 126, 127, 128, 129, 130, 131, 132, 133, 134, 135, 136, 137, 138, 139, 140, 141, 142, 143] (by decide +kernel) (by decide +kernel)
set_option maxRecDepth 20000 in
theorem gX11_sure_X11_ways : GoodIn wsX11_sure (wsV RX11 330 RX11 yX11_ways wsX11_ways) := goodIn_app (goodIn_of _ (by decide +kernel)) ggX11_sure_X11_ways
set_option maxRecDepth 20000 in
theorem ggX11_sure_X11_isOpen : GoodIn wsX11_sure wsX11_isOpen := goodIn_r _ [103, 18, 2, 104, 105, 16, 106, 111, 112, 113, 114, 115, 116, 117, 118, 119, 120, 121, 122, 123, 124, 125, 126, 127, 128, 129] (by decide +kernel) (by decide +kernel)
set_option maxRecDepth 20000 in
theorem gX11_sure_X11_isOpen : GoodIn wsX11_sure (wsV RX11 333 RX11 yX11_isOpen wsX11_isOpen) := goodIn_app (goodIn_of _ (by decide +kernel)) ggX11_sure_X11_isOpen
set_option maxRecDepth 20000 in
theorem ggX11_sure_X11_isIn : GoodIn wsX11_sure wsX11_isIn := goodIn_r _ [106] (by decide +kernel) (by decide +kernel)
set_option maxRecDepth 20000 in
theorem gX11_sure_X11_isIn : GoodIn wsX11_sure (va_wsS RX11 336 yX11_isIn wsX11_isIn) := goodIn_app (goodIn_of _ (by decide +kernel)) ggX11_sure_X11_isIn
set_option maxRecDepth 20000 in
theorem ggX11_sure_X11_given : GoodIn wsX11_sure wsX11_given := goodIn_r _ [110, 88, 111, 112, 113, 114, 115, 116, 117, 118, 119, 120, 121, 122, 123, 124, 125, 126, 127, 128, 129] (by decide +kernel) (by decide +kernel)
set_option maxRecDepth 20000 in
theorem gX11_sure_X11_given : GoodIn wsX11_sure (wsV RX11 191 RX11 yX11_given wsX11_given) := goodIn_app (goodIn_of _ (by decide +kernel)) ggX11_sure_X11_given
theorem dX11_sure_0 : decode cX11_sure 0 = .ok (.aload_n 0, 1) := by decide +kernel
theorem dX11_sure_1 : decode cX11_sure 1 = .ok (.getfield 10, 3) := by decide +kernel
theorem dX11_sure_4 : decode cX11_sure 4 = .ok (.iconst 3, 1) := by decide +kernel
theorem dX11_sure_5 : decode cX11_sure 5 = .ok (.iload_n 1, 1) := by decide +kernel
theorem dX11_sure_6 : decode cX11_sure 6 = .ok (.invokevirtual 213, 3) := by decide +kernel
theorem dX11_sure_9 : decode cX11_sure 9 = .ok (.ifCond .eq 12, 3) := by decide +kernel
theorem dX11_sure_12 : decode cX11_sure 12 = .ok (.aload_n 0, 1) := by decide +kernel
theorem dX11_sure_13 : decode cX11_sure 13 = .ok (.iload_n 2, 1) := by decide +kernel
theorem dX11_sure_14 : decode cX11_sure 14 = .ok (.iload_n 3, 1) := by decide +kernel
theorem dX11_sure_15 : decode cX11_sure 15 = .ok (.invokevirtual 327, 3) := by decide +kernel
theorem dX11_sure_18 : decode cX11_sure 18 = .ok (.goto 4, 3) := by decide +kernel
theorem dX11_sure_21 : decode cX11_sure 21 = .ok (.iconst 1, 1) := by decide +kernel
theorem dX11_sure_22 : decode cX11_sure 22 = .ok (.istore 4, 2) := by decide +kernel
theorem dX11_sure_24 : decode cX11_sure 24 = .ok (.iload 4, 2) := by decide +kernel
theorem dX11_sure_26 : decode cX11_sure 26 = .ok (.ifCond .eq 10, 3) := by decide +kernel
theorem dX11_sure_29 : decode cX11_sure 29 = .ok (.aload_n 0, 1) := by decide +kernel
theorem dX11_sure_30 : decode cX11_sure 30 = .ok (.iload 4, 2) := by decide +kernel
theorem dX11_sure_32 : decode cX11_sure 32 = .ok (.invokevirtual 132, 3) := by decide +kernel
theorem dX11_sure_35 : decode cX11_sure 35 = .ok (.ireturn, 1) := by decide +kernel
theorem dX11_sure_36 : decode cX11_sure 36 = .ok (.aload_n 0, 1) := by decide +kernel
theorem dX11_sure_37 : decode cX11_sure 37 = .ok (.invokevirtual 330, 3) := by decide +kernel
theorem dX11_sure_40 : decode cX11_sure 40 = .ok (.ifCond .eq 11, 3) := by decide +kernel
theorem dX11_sure_43 : decode cX11_sure 43 = .ok (.aload_n 0, 1) := by decide +kernel
theorem dX11_sure_44 : decode cX11_sure 44 = .ok (.iload_n 1, 1) := by decide +kernel
theorem dX11_sure_45 : decode cX11_sure 45 = .ok (.invokevirtual 333, 3) := by decide +kernel
theorem dX11_sure_48 : decode cX11_sure 48 = .ok (.ifCond .eq 10, 3) := by decide +kernel
theorem dX11_sure_51 : decode cX11_sure 51 = .ok (.aload_n 0, 1) := by decide +kernel
theorem dX11_sure_52 : decode cX11_sure 52 = .ok (.bipush 6, 2) := by decide +kernel
theorem dX11_sure_54 : decode cX11_sure 54 = .ok (.invokevirtual 132, 3) := by decide +kernel
theorem dX11_sure_57 : decode cX11_sure 57 = .ok (.ireturn, 1) := by decide +kernel
theorem dX11_sure_58 : decode cX11_sure 58 = .ok (.aload_n 0, 1) := by decide +kernel
theorem dX11_sure_59 : decode cX11_sure 59 = .ok (.aload_n 0, 1) := by decide +kernel
theorem dX11_sure_60 : decode cX11_sure 60 = .ok (.getfield 101, 3) := by decide +kernel
theorem dX11_sure_63 : decode cX11_sure 63 = .ok (.iload_n 1, 1) := by decide +kernel
theorem dX11_sure_64 : decode cX11_sure 64 = .ok (.invokestatic 336, 3) := by decide +kernel
theorem dX11_sure_67 : decode cX11_sure 67 = .ok (.ifCond .eq 7, 3) := by decide +kernel
theorem dX11_sure_70 : decode cX11_sure 70 = .ok (.iconst 1, 1) := by decide +kernel
theorem dX11_sure_71 : decode cX11_sure 71 = .ok (.goto 4, 3) := by decide +kernel
theorem dX11_sure_74 : decode cX11_sure 74 = .ok (.iconst 0, 1) := by decide +kernel
theorem dX11_sure_75 : decode cX11_sure 75 = .ok (.invokevirtual 191, 3) := by decide +kernel
theorem dX11_sure_78 : decode cX11_sure 78 = .ok (.ireturn, 1) := by decide +kernel
set_option maxRecDepth 20000 in
theorem ggX11_odds_X0_has : GoodIn wsX11_odds wsX0_has := goodIn_r _ [8, 9, 10, 11, 7, 12, 13, 140, 141, 142, 143, 144, 145, 146, 147, 148, 149, 150, 151, 152, 153] (by decide +kernel) (by decide +kernel)
set_option maxRecDepth 20000 in
theorem gX11_odds_X0_has : GoodIn wsX11_odds (wsV RX11 213 RX0 yX0_has wsX0_has) := goodIn_app (goodIn_of _ (by decide +kernel)) ggX11_odds_X0_has
set_option maxRecDepth 20000 in
theorem ggX11_odds_X11_readThrees : GoodIn wsX11_odds wsX11_readThrees := goodIn_r _ [18, 19, 3, 1, 20, 21, 22, 17, 23, 24, 25, 26, 27, 28, 29, 30, 31, 32, 33, 34, 35, 36, 37, 38, 39, 40, 41, 42, 43, 44, 45, 46, 10, 11, 7, 12, 13, 47, 48, 49, 50, 51, 52, 53, 54, 55, 56, 57, 58, 59, 60, 61, 62, 63, 64, 65, 66, 67, 9, 68, 69, 70, 71, 72, 73, 74, 75, 76, 77, 78, 79, 80, 81, 82, 83, 84, 121, 122, 123, 124, 125, 126, 127, 128, 129, 130, 131, 132, 133, 134, 135, 136, 137, 138, 139, 154, 155, 156, 140, 141, 142, 143, 144, 145, 146, 147, 148, 149, 150, 151, 152, 153, 157, 158, 159, 160, 161, 162, 163, 164, 165, 166, 167, 168, 169, 170] (by decide +kernel) (by decide +kernel)
set_option maxRecDepth 20000 in
theorem gX11_odds_X11_readThrees : GoodIn wsX11_odds (wsV RX11 327 RX11 yX11_readThrees wsX11_readThrees) := goodIn_app (goodIn_of _ (by decide +kernel)) ggX11_odds_X11_readThrees
set_option maxRecDepth 20000 in
theorem ggX11_odds_X11_denied : GoodIn wsX11_odds wsX11_denied := goodIn_r _ [88, 89, 121, 122, 123, 124, 125, 126, 127, 128, 129, 130, 131, 132, 133, 134, 135, 136, 137, 138, 139] (by decide +kernel) (by decide +kernel)
set_option maxRecDepth 20000 in
theorem gX11_odds_X11_denied : GoodIn wsX11_odds (wsV RX11 108 RX11 yX11_denied wsX11_denied) := goodIn_app (goodIn_of _ (by decide +kernel)) ggX11_odds_X11_denied
set_option maxRecDepth 20000 in
theorem ggX11_odds_X11_ways : GoodIn wsX11_odds wsX11_ways := goodIn_r _ [93, 19, 3, 1, 46, 10, 11, 7, 12, 13, 94, 95, 96, 97, 98, 99, 100, 121, 122, 123, 124, 125, 126, 127, 128, 129, 130, 131, 132, 133, 134, 135, 136, 137, 138, 139, 140, 141, 142, 143, 144, 145, 146, 147, 148, 149, 150, 151, 152, 153] (by decide +kernel) (by decide +kernel)
set_option maxRecDepth 20000 in
theorem gX11_odds_X11_ways : GoodIn wsX11_odds (wsV RX11 330 RX11 yX11_ways wsX11_ways) := goodIn_app (goodIn_of _ (by decide +kernel)) ggX11_odds_X11_ways
set_option maxRecDepth 20000 in
theorem ggX11_odds_X11_isOpen : GoodIn wsX11_odds wsX11_isOpen := goodIn_r _ [104, 19, 3, 105, 106, 17, 107, 121, 122, 123, 124, 125, 126, 127, 128, 129, 130, 131, 132, 133, 134, 135, 136, 137, 138, 139] (by decide +kernel) (by decide +kernel)
set_option maxRecDepth 20000 in
theorem gX11_odds_X11_isOpen : GoodIn wsX11_odds (wsV RX11 333 RX11 yX11_isOpen wsX11_isOpen) := goodIn_app (goodIn_of _ (by decide +kernel)) ggX11_odds_X11_isOpen
set_option maxRecDepth 20000 in
theorem ggX11_odds_X11_tellFraction : GoodIn wsX11_odds wsX11_tellFraction := goodIn_r _ [111, 112, 113, 114, 115, 17, 116, 117, 118, 119, 120, 89, 121, 122, 123, 124, 125, 126, 127, 128, 129, 130, 131, 132, 133, 134, 135, 136, 137, 138, 139] (by decide +kernel) (by decide +kernel)
set_option maxRecDepth 20000 in
theorem gX11_odds_X11_tellFraction : GoodIn wsX11_odds (wsV RX11 341 RX11 yX11_tellFraction wsX11_tellFraction) := goodIn_app (goodIn_of _ (by decide +kernel)) ggX11_odds_X11_tellFraction
set_option maxRecDepth 20000 in
theorem ggX11_odds_X11_isIn : GoodIn wsX11_odds wsX11_isIn := goodIn_r _ [107] (by decide +kernel) (by decide +kernel)
set_option maxRecDepth 20000 in
theorem gX11_odds_X11_isIn : GoodIn wsX11_odds (va_wsS RX11 336 yX11_isIn wsX11_isIn) := goodIn_app (goodIn_of _ (by decide +kernel)) ggX11_odds_X11_isIn
theorem dX11_odds_0 : decode cX11_odds 0 = .ok (.aload_n 0, 1) := by decide +kernel
theorem dX11_odds_1 : decode cX11_odds 1 = .ok (.getfield 10, 3) := by decide +kernel
theorem dX11_odds_4 : decode cX11_odds 4 = .ok (.iconst 3, 1) := by decide +kernel
theorem dX11_odds_5 : decode cX11_odds 5 = .ok (.iload_n 1, 1) := by decide +kernel
theorem dX11_odds_6 : decode cX11_odds 6 = .ok (.invokevirtual 213, 3) := by decide +kernel
theorem dX11_odds_9 : decode cX11_odds 9 = .ok (.ifCond .eq 12, 3) := by decide +kernel
theorem dX11_odds_12 : decode cX11_odds 12 = .ok (.aload_n 0, 1) := by decide +kernel
theorem dX11_odds_13 : decode cX11_odds 13 = .ok (.iload_n 2, 1) := by decide +kernel
theorem dX11_odds_14 : decode cX11_odds 14 = .ok (.iload_n 3, 1) := by decide +kernel
theorem dX11_odds_15 : decode cX11_odds 15 = .ok (.invokevirtual 327, 3) := by decide +kernel
theorem dX11_odds_18 : decode cX11_odds 18 = .ok (.goto 4, 3) := by decide +kernel
theorem dX11_odds_21 : decode cX11_odds 21 = .ok (.iconst 1, 1) := by decide +kernel
theorem dX11_odds_22 : decode cX11_odds 22 = .ok (.istore 4, 2) := by decide +kernel
theorem dX11_odds_24 : decode cX11_odds 24 = .ok (.iload 4, 2) := by decide +kernel
theorem dX11_odds_26 : decode cX11_odds 26 = .ok (.ifCond .eq 10, 3) := by decide +kernel
theorem dX11_odds_29 : decode cX11_odds 29 = .ok (.aload_n 0, 1) := by decide +kernel
theorem dX11_odds_30 : decode cX11_odds 30 = .ok (.iload 4, 2) := by decide +kernel
theorem dX11_odds_32 : decode cX11_odds 32 = .ok (.invokevirtual 108, 3) := by decide +kernel
theorem dX11_odds_35 : decode cX11_odds 35 = .ok (.ireturn, 1) := by decide +kernel
theorem dX11_odds_36 : decode cX11_odds 36 = .ok (.aload_n 0, 1) := by decide +kernel
theorem dX11_odds_37 : decode cX11_odds 37 = .ok (.invokevirtual 330, 3) := by decide +kernel
theorem dX11_odds_40 : decode cX11_odds 40 = .ok (.ifCond .ne 10, 3) := by decide +kernel
theorem dX11_odds_43 : decode cX11_odds 43 = .ok (.aload_n 0, 1) := by decide +kernel
theorem dX11_odds_44 : decode cX11_odds 44 = .ok (.bipush 6, 2) := by decide +kernel
theorem dX11_odds_46 : decode cX11_odds 46 = .ok (.invokevirtual 108, 3) := by decide +kernel
theorem dX11_odds_49 : decode cX11_odds 49 = .ok (.ireturn, 1) := by decide +kernel
theorem dX11_odds_50 : decode cX11_odds 50 = .ok (.aload_n 0, 1) := by decide +kernel
theorem dX11_odds_51 : decode cX11_odds 51 = .ok (.iload_n 1, 1) := by decide +kernel
theorem dX11_odds_52 : decode cX11_odds 52 = .ok (.invokevirtual 333, 3) := by decide +kernel
theorem dX11_odds_55 : decode cX11_odds 55 = .ok (.ifCond .eq 12, 3) := by decide +kernel
theorem dX11_odds_58 : decode cX11_odds 58 = .ok (.aload_n 0, 1) := by decide +kernel
theorem dX11_odds_59 : decode cX11_odds 59 = .ok (.lconst 1, 1) := by decide +kernel
theorem dX11_odds_60 : decode cX11_odds 60 = .ok (.ldc2_w 339, 3) := by decide +kernel
theorem dX11_odds_63 : decode cX11_odds 63 = .ok (.invokevirtual 341, 3) := by decide +kernel
theorem dX11_odds_66 : decode cX11_odds 66 = .ok (.ireturn, 1) := by decide +kernel
theorem dX11_odds_67 : decode cX11_odds 67 = .ok (.aload_n 0, 1) := by decide +kernel
theorem dX11_odds_68 : decode cX11_odds 68 = .ok (.aload_n 0, 1) := by decide +kernel
theorem dX11_odds_69 : decode cX11_odds 69 = .ok (.getfield 101, 3) := by decide +kernel
theorem dX11_odds_72 : decode cX11_odds 72 = .ok (.iload_n 1, 1) := by decide +kernel
theorem dX11_odds_73 : decode cX11_odds 73 = .ok (.invokestatic 336, 3) := by decide +kernel
theorem dX11_odds_76 : decode cX11_odds 76 = .ok (.ifCond .eq 7, 3) := by decide +kernel
theorem dX11_odds_79 : decode cX11_odds 79 = .ok (.lconst 1, 1) := by decide +kernel
theorem dX11_odds_80 : decode cX11_odds 80 = .ok (.goto 4, 3) := by decide +kernel
theorem dX11_odds_83 : decode cX11_odds 83 = .ok (.lconst 0, 1) := by decide +kernel
theorem dX11_odds_84 : decode cX11_odds 84 = .ok (.lconst 1, 1) := by decide +kernel
theorem dX11_odds_85 : decode cX11_odds 85 = .ok (.invokevirtual 341, 3) := by decide +kernel
theorem dX11_odds_88 : decode cX11_odds 88 = .ok (.ireturn, 1) := by decide +kernel
set_option maxRecDepth 20000 in
theorem ggX11_ask_X11_within : GoodIn wsX11_ask wsX11_within := goodIn_r _ [4] (by decide +kernel) (by decide +kernel)
set_option maxRecDepth 20000 in
theorem gX11_ask_X11_within : GoodIn wsX11_ask (va_wsS RX11 104 yX11_within wsX11_within) := goodIn_app (goodIn_of _ (by decide +kernel)) ggX11_ask_X11_within
set_option maxRecDepth 20000 in
theorem ggX11_ask_X11_readThrees : GoodIn wsX11_ask wsX11_readThrees := goodIn_r _ [8, 9, 10, 11, 12, 1, 2, 3, 4, 13, 14, 15, 16, 17, 18, 19, 20, 21, 22, 23, 24, 25, 26, 27, 28, 29, 30, 31, 32, 33, 34, 35, 36, 37, 38, 39, 40, 41, 42, 43, 44, 45, 46, 47, 48, 49, 50, 51, 52, 53, 54, 55, 56, 57, 58, 59, 60, 61, 62, 63, 64, 65, 66, 67, 68, 69, 70, 71, 72, 73, 74, 75, 76, 77, 78, 79, 111, 112, 113, 114, 115, 116, 117, 118, 119, 120, 121, 122, 123, 124, 125, 126, 127, 128, 129, 130, 131, 132, 133, 134, 135, 136, 137, 138, 139, 140, 141, 142, 143, 144, 145, 146, 147, 148, 149, 150, 151, 152, 153, 154, 155, 156, 157, 158, 159, 160] (by decide +kernel) (by decide +kernel)
set_option maxRecDepth 20000 in
theorem gX11_ask_X11_readThrees : GoodIn wsX11_ask (wsV RX11 327 RX11 yX11_readThrees wsX11_readThrees) := goodIn_app (goodIn_of _ (by decide +kernel)) ggX11_ask_X11_readThrees
set_option maxRecDepth 20000 in
theorem ggX11_ask_X11_refused : GoodIn wsX11_ask wsX11_refused := goodIn_r _ [83, 84, 111, 112, 113, 114, 115, 116, 117, 118, 119, 120, 121, 122, 123, 124, 125, 126, 127, 128, 129] (by decide +kernel) (by decide +kernel)
set_option maxRecDepth 20000 in
theorem gX11_ask_X11_refused : GoodIn wsX11_ask (wsV RX11 132 RX11 yX11_refused wsX11_refused) := goodIn_app (goodIn_of _ (by decide +kernel)) ggX11_ask_X11_refused
set_option maxRecDepth 20000 in
theorem ggX11_ask_X11_ways : GoodIn wsX11_ask wsX11_ways := goodIn_r _ [88, 9, 10, 11, 35, 36, 37, 38, 39, 40, 89, 90, 91, 92, 93, 94, 95, 111, 112, 113, 114, 115, 116, 117, 118, 119, 120, 121, 122, 123, 124, 125, 126, 127, 128, 129, 133, 134, 135, 136, 137, 138, 139, 140, 141, 142, 143, 144, 145, 146] (by decide +kernel) (by decide +kernel)
set_option maxRecDepth 20000 in
theorem gX11_ask_X11_ways : GoodIn wsX11_ask (wsV RX11 330 RX11 yX11_ways wsX11_ways) := goodIn_app (goodIn_of _ (by decide +kernel)) ggX11_ask_X11_ways
set_option maxRecDepth 20000 in
theorem ggX11_ask_X11_bestQuestion : GoodIn wsX11_ask wsX11_bestQuestion := goodIn_r _ [99, 11, 45, 46, 35, 36, 37, 38, 39, 40, 47, 48, 49, 50, 51, 52, 100, 101, 102, 3, 103, 9, 10, 104, 105, 106, 53, 54, 55, 56, 57, 58, 59, 60, 61, 62, 63, 64, 65, 66, 67, 68, 69, 70, 71, 72, 73, 74, 75, 76, 77, 78, 79, 111, 112, 113, 114, 115, 116, 117, 118, 119, 120, 121, 122, 123, 124, 125, 126, 127, 128, 129, 147, 148, 149, 150, 151, 133, 134, 135, 136, 137, 138, 139, 140, 141, 142, 143, 144, 145, 146, 152, 153, 154, 155, 156, 157, 158, 159, 160] (by decide +kernel) (by decide +kernel)
set_option maxRecDepth 20000 in
theorem gX11_ask_X11_bestQuestion : GoodIn wsX11_ask (wsV RX11 345 RX11 yX11_bestQuestion wsX11_bestQuestion) := goodIn_app (goodIn_of _ (by decide +kernel)) ggX11_ask_X11_bestQuestion
set_option maxRecDepth 20000 in
theorem ggX11_ask_X11_given : GoodIn wsX11_ask wsX11_given := goodIn_r _ [110, 84, 111, 112, 113, 114, 115, 116, 117, 118, 119, 120, 121, 122, 123, 124, 125, 126, 127, 128, 129] (by decide +kernel) (by decide +kernel)
set_option maxRecDepth 20000 in
theorem gX11_ask_X11_given : GoodIn wsX11_ask (wsV RX11 191 RX11 yX11_given wsX11_given) := goodIn_app (goodIn_of _ (by decide +kernel)) ggX11_ask_X11_given
theorem dX11_ask_0 : decode cX11_ask 0 = .ok (.iload_n 3, 1) := by decide +kernel
theorem dX11_ask_1 : decode cX11_ask 1 = .ok (.iconst 2, 1) := by decide +kernel
theorem dX11_ask_2 : decode cX11_ask 2 = .ok (.invokestatic 104, 3) := by decide +kernel
theorem dX11_ask_5 : decode cX11_ask 5 = .ok (.ifCond .eq 12, 3) := by decide +kernel
theorem dX11_ask_8 : decode cX11_ask 8 = .ok (.aload_n 0, 1) := by decide +kernel
theorem dX11_ask_9 : decode cX11_ask 9 = .ok (.iload_n 1, 1) := by decide +kernel
theorem dX11_ask_10 : decode cX11_ask 10 = .ok (.iload_n 2, 1) := by decide +kernel
theorem dX11_ask_11 : decode cX11_ask 11 = .ok (.invokevirtual 327, 3) := by decide +kernel
theorem dX11_ask_14 : decode cX11_ask 14 = .ok (.goto 4, 3) := by decide +kernel
theorem dX11_ask_17 : decode cX11_ask 17 = .ok (.iconst 1, 1) := by decide +kernel
theorem dX11_ask_18 : decode cX11_ask 18 = .ok (.istore 4, 2) := by decide +kernel
theorem dX11_ask_20 : decode cX11_ask 20 = .ok (.iload 4, 2) := by decide +kernel
theorem dX11_ask_22 : decode cX11_ask 22 = .ok (.ifCond .eq 10, 3) := by decide +kernel
theorem dX11_ask_25 : decode cX11_ask 25 = .ok (.aload_n 0, 1) := by decide +kernel
theorem dX11_ask_26 : decode cX11_ask 26 = .ok (.iload 4, 2) := by decide +kernel
theorem dX11_ask_28 : decode cX11_ask 28 = .ok (.invokevirtual 132, 3) := by decide +kernel
theorem dX11_ask_31 : decode cX11_ask 31 = .ok (.ireturn, 1) := by decide +kernel
theorem dX11_ask_32 : decode cX11_ask 32 = .ok (.aload_n 0, 1) := by decide +kernel
theorem dX11_ask_33 : decode cX11_ask 33 = .ok (.invokevirtual 330, 3) := by decide +kernel
theorem dX11_ask_36 : decode cX11_ask 36 = .ok (.iconst 2, 1) := by decide +kernel
theorem dX11_ask_37 : decode cX11_ask 37 = .ok (.if_icmp .ge 10, 3) := by decide +kernel
theorem dX11_ask_40 : decode cX11_ask 40 = .ok (.aload_n 0, 1) := by decide +kernel
theorem dX11_ask_41 : decode cX11_ask 41 = .ok (.bipush 6, 2) := by decide +kernel
theorem dX11_ask_43 : decode cX11_ask 43 = .ok (.invokevirtual 132, 3) := by decide +kernel
theorem dX11_ask_46 : decode cX11_ask 46 = .ok (.ireturn, 1) := by decide +kernel
theorem dX11_ask_47 : decode cX11_ask 47 = .ok (.aload_n 0, 1) := by decide +kernel
theorem dX11_ask_48 : decode cX11_ask 48 = .ok (.invokevirtual 345, 3) := by decide +kernel
theorem dX11_ask_51 : decode cX11_ask 51 = .ok (.istore 5, 2) := by decide +kernel
theorem dX11_ask_53 : decode cX11_ask 53 = .ok (.aload_n 0, 1) := by decide +kernel
theorem dX11_ask_54 : decode cX11_ask 54 = .ok (.iload_n 3, 1) := by decide +kernel
theorem dX11_ask_55 : decode cX11_ask 55 = .ok (.ifCond .ne 11, 3) := by decide +kernel
theorem dX11_ask_58 : decode cX11_ask 58 = .ok (.iload 5, 2) := by decide +kernel
theorem dX11_ask_60 : decode cX11_ask 60 = .ok (.bipush 10, 2) := by decide +kernel
theorem dX11_ask_62 : decode cX11_ask 62 = .ok (.idiv, 1) := by decide +kernel
theorem dX11_ask_63 : decode cX11_ask 63 = .ok (.goto 8, 3) := by decide +kernel
theorem dX11_ask_66 : decode cX11_ask 66 = .ok (.iload 5, 2) := by decide +kernel
theorem dX11_ask_68 : decode cX11_ask 68 = .ok (.bipush 10, 2) := by decide +kernel
theorem dX11_ask_70 : decode cX11_ask 70 = .ok (.irem, 1) := by decide +kernel
theorem dX11_ask_71 : decode cX11_ask 71 = .ok (.invokevirtual 191, 3) := by decide +kernel
theorem dX11_ask_74 : decode cX11_ask 74 = .ok (.ireturn, 1) := by decide +kernel
set_option maxRecDepth 20000 in
theorem ggX11_least_X0_has : GoodIn wsX11_least wsX0_has := goodIn_r _ [6, 7, 8, 9, 5, 10, 11, 92, 93, 94, 95, 96, 97, 98, 99, 100, 101, 102, 103, 104, 105] (by decide +kernel) (by decide +kernel)
set_option maxRecDepth 20000 in
theorem gX11_least_X0_has : GoodIn wsX11_least (wsV RX11 213 RX0 yX0_has wsX0_has) := goodIn_app (goodIn_of _ (by decide +kernel)) ggX11_least_X0_has
set_option maxRecDepth 20000 in
theorem ggX11_least_X11_refused : GoodIn wsX11_least wsX11_refused := goodIn_r _ [16, 17, 73, 74, 75, 76, 77, 78, 79, 80, 81, 82, 83, 84, 85, 86, 87, 88, 89, 90, 91] (by decide +kernel) (by decide +kernel)
set_option maxRecDepth 20000 in
theorem gX11_least_X11_refused : GoodIn wsX11_least (wsV RX11 132 RX11 yX11_refused wsX11_refused) := goodIn_app (goodIn_of _ (by decide +kernel)) ggX11_least_X11_refused
set_option maxRecDepth 20000 in
theorem ggX11_least_X11_leastPlan : GoodIn wsX11_least wsX11_leastPlan := goodIn_r _ [21, 1, 22, 23, 24, 25, 26, 27, 28, 5, 29, 30, 31, 32, 8, 9, 10, 11, 33, 34, 15, 35, 36, 37, 38, 39, 40, 41, 42, 43, 44, 45, 46, 47, 48, 49, 50, 51, 7, 52, 53, 54, 55, 56, 57, 58, 59, 60, 61, 62, 63, 64, 65, 66, 67, 68, 73, 74, 75, 76, 77, 78, 79, 80, 81, 82, 83, 84, 85, 86, 87, 88, 89, 90, 91, 106, 107, 108, 109, 110, 92, 93, 94, 95, 96, 97, 98, 99, 100, 101, 102, 103, 104, 105, 111, 112, 113, 114, 115, 116, 117, 118, 119] (by decide +kernel) (by decide +kernel)
set_option maxRecDepth 20000 in
theorem gX11_least_X11_leastPlan : GoodIn wsX11_least (wsV RX11 348 RX11 yX11_leastPlan wsX11_leastPlan) := goodIn_app (goodIn_of _ (by decide +kernel)) ggX11_least_X11_leastPlan
set_option maxRecDepth 20000 in
theorem ggX11_least_X11_given : GoodIn wsX11_least wsX11_given := goodIn_r _ [72, 17, 73, 74, 75, 76, 77, 78, 79, 80, 81, 82, 83, 84, 85, 86, 87, 88, 89, 90, 91] (by decide +kernel) (by decide +kernel)
set_option maxRecDepth 20000 in
theorem gX11_least_X11_given : GoodIn wsX11_least (wsV RX11 191 RX11 yX11_given wsX11_given) := goodIn_app (goodIn_of _ (by decide +kernel)) ggX11_least_X11_given
theorem dX11_least_0 : decode cX11_least 0 = .ok (.aload_n 0, 1) := by decide +kernel
theorem dX11_least_1 : decode cX11_least 1 = .ok (.getfield 10, 3) := by decide +kernel
theorem dX11_least_4 : decode cX11_least 4 = .ok (.iconst 3, 1) := by decide +kernel
theorem dX11_least_5 : decode cX11_least 5 = .ok (.iload_n 1, 1) := by decide +kernel
theorem dX11_least_6 : decode cX11_least 6 = .ok (.invokevirtual 213, 3) := by decide +kernel
theorem dX11_least_9 : decode cX11_least 9 = .ok (.ifCond .eq 15, 3) := by decide +kernel
theorem dX11_least_12 : decode cX11_least 12 = .ok (.aload_n 0, 1) := by decide +kernel
theorem dX11_least_13 : decode cX11_least 13 = .ok (.getfield 10, 3) := by decide +kernel
theorem dX11_least_16 : decode cX11_least 16 = .ok (.iconst 1, 1) := by decide +kernel
theorem dX11_least_17 : decode cX11_least 17 = .ok (.iload_n 2, 1) := by decide +kernel
theorem dX11_least_18 : decode cX11_least 18 = .ok (.invokevirtual 213, 3) := by decide +kernel
theorem dX11_least_21 : decode cX11_least 21 = .ok (.ifCond .ne 9, 3) := by decide +kernel
theorem dX11_least_24 : decode cX11_least 24 = .ok (.aload_n 0, 1) := by decide +kernel
theorem dX11_least_25 : decode cX11_least 25 = .ok (.iconst 1, 1) := by decide +kernel
theorem dX11_least_26 : decode cX11_least 26 = .ok (.invokevirtual 132, 3) := by decide +kernel
theorem dX11_least_29 : decode cX11_least 29 = .ok (.ireturn, 1) := by decide +kernel
theorem dX11_least_30 : decode cX11_least 30 = .ok (.aload_n 0, 1) := by decide +kernel
theorem dX11_least_31 : decode cX11_least 31 = .ok (.iload_n 1, 1) := by decide +kernel
theorem dX11_least_32 : decode cX11_least 32 = .ok (.iload_n 2, 1) := by decide +kernel
theorem dX11_least_33 : decode cX11_least 33 = .ok (.invokevirtual 348, 3) := by decide +kernel
theorem dX11_least_36 : decode cX11_least 36 = .ok (.istore_n 3, 1) := by decide +kernel
theorem dX11_least_37 : decode cX11_least 37 = .ok (.iload_n 3, 1) := by decide +kernel
theorem dX11_least_38 : decode cX11_least 38 = .ok (.iconst (-1), 1) := by decide +kernel
theorem dX11_least_39 : decode cX11_least 39 = .ok (.if_icmp .ne 12, 3) := by decide +kernel
theorem dX11_least_42 : decode cX11_least 42 = .ok (.aload_n 0, 1) := by decide +kernel
theorem dX11_least_43 : decode cX11_least 43 = .ok (.bipush 6, 2) := by decide +kernel
theorem dX11_least_45 : decode cX11_least 45 = .ok (.invokevirtual 132, 3) := by decide +kernel
theorem dX11_least_48 : decode cX11_least 48 = .ok (.goto 11, 3) := by decide +kernel
theorem dX11_least_51 : decode cX11_least 51 = .ok (.aload_n 0, 1) := by decide +kernel
theorem dX11_least_52 : decode cX11_least 52 = .ok (.iload_n 3, 1) := by decide +kernel
theorem dX11_least_53 : decode cX11_least 53 = .ok (.bipush 10, 2) := by decide +kernel
theorem dX11_least_55 : decode cX11_least 55 = .ok (.ishr, 1) := by decide +kernel
theorem dX11_least_56 : decode cX11_least 56 = .ok (.invokevirtual 191, 3) := by decide +kernel
theorem dX11_least_59 : decode cX11_least 59 = .ok (.ireturn, 1) := by decide +kernel
set_option maxRecDepth 20000 in
theorem ggX11_leastBy_X0_has : GoodIn wsX11_leastBy wsX0_has := goodIn_r _ [6, 7, 8, 9, 5, 10, 11, 95, 96, 97, 98, 99, 100, 101, 102, 103, 104, 105, 106, 107, 108] (by decide +kernel) (by decide +kernel)
set_option maxRecDepth 20000 in
theorem gX11_leastBy_X0_has : GoodIn wsX11_leastBy (wsV RX11 213 RX0 yX0_has wsX0_has) := goodIn_app (goodIn_of _ (by decide +kernel)) ggX11_leastBy_X0_has
set_option maxRecDepth 20000 in
theorem ggX11_leastBy_X11_within : GoodIn wsX11_leastBy wsX11_within := goodIn_r _ [15] (by decide +kernel) (by decide +kernel)
set_option maxRecDepth 20000 in
theorem gX11_leastBy_X11_within : GoodIn wsX11_leastBy (va_wsS RX11 104 yX11_within wsX11_within) := goodIn_app (goodIn_of _ (by decide +kernel)) ggX11_leastBy_X11_within
set_option maxRecDepth 20000 in
theorem ggX11_leastBy_X11_refused : GoodIn wsX11_leastBy wsX11_refused := goodIn_r _ [19, 20, 76, 77, 78, 79, 80, 81, 82, 83, 84, 85, 86, 87, 88, 89, 90, 91, 92, 93, 94] (by decide +kernel) (by decide +kernel)
set_option maxRecDepth 20000 in
theorem gX11_leastBy_X11_refused : GoodIn wsX11_leastBy (wsV RX11 132 RX11 yX11_refused wsX11_refused) := goodIn_app (goodIn_of _ (by decide +kernel)) ggX11_leastBy_X11_refused
set_option maxRecDepth 20000 in
theorem ggX11_leastBy_X11_leastPlan : GoodIn wsX11_leastBy wsX11_leastPlan := goodIn_r _ [24, 1, 25, 26, 27, 28, 29, 30, 31, 5, 32, 33, 34, 35, 8, 9, 10, 11, 36, 37, 14, 38, 39, 40, 41, 42, 43, 44, 45, 46, 47, 48, 49, 50, 51, 52, 53, 54, 7, 55, 56, 57, 58, 59, 60, 61, 62, 63, 64, 65, 66, 67, 68, 69, 70, 71, 76, 77, 78, 79, 80, 81, 82, 83, 84, 85, 86, 87, 88, 89, 90, 91, 92, 93, 94, 109, 110, 111, 112, 113, 95, 96, 97, 98, 99, 100, 101, 102, 103, 104, 105, 106, 107, 108, 114, 115, 116, 117, 118, 119, 120, 121, 122] (by decide +kernel) (by decide +kernel)
set_option maxRecDepth 20000 in
theorem gX11_leastBy_X11_leastPlan : GoodIn wsX11_leastBy (wsV RX11 348 RX11 yX11_leastPlan wsX11_leastPlan) := goodIn_app (goodIn_of _ (by decide +kernel)) ggX11_leastBy_X11_leastPlan
set_option maxRecDepth 20000 in
theorem ggX11_leastBy_X11_given : GoodIn wsX11_leastBy wsX11_given := goodIn_r _ [75, 20, 76, 77, 78, 79, 80, 81, 82, 83, 84, 85, 86, 87, 88, 89, 90, 91, 92, 93, 94] (by decide +kernel) (by decide +kernel)
set_option maxRecDepth 20000 in
theorem gX11_leastBy_X11_given : GoodIn wsX11_leastBy (wsV RX11 191 RX11 yX11_given wsX11_given) := goodIn_app (goodIn_of _ (by decide +kernel)) ggX11_leastBy_X11_given
theorem dX11_leastBy_0 : decode cX11_leastBy 0 = .ok (.aload_n 0, 1) := by decide +kernel
theorem dX11_leastBy_1 : decode cX11_leastBy 1 = .ok (.getfield 10, 3) := by decide +kernel
theorem dX11_leastBy_4 : decode cX11_leastBy 4 = .ok (.iconst 3, 1) := by decide +kernel
theorem dX11_leastBy_5 : decode cX11_leastBy 5 = .ok (.iload_n 1, 1) := by decide +kernel
theorem dX11_leastBy_6 : decode cX11_leastBy 6 = .ok (.invokevirtual 213, 3) := by decide +kernel
theorem dX11_leastBy_9 : decode cX11_leastBy 9 = .ok (.ifCond .eq 23, 3) := by decide +kernel
theorem dX11_leastBy_12 : decode cX11_leastBy 12 = .ok (.aload_n 0, 1) := by decide +kernel
theorem dX11_leastBy_13 : decode cX11_leastBy 13 = .ok (.getfield 10, 3) := by decide +kernel
theorem dX11_leastBy_16 : decode cX11_leastBy 16 = .ok (.iconst 1, 1) := by decide +kernel
theorem dX11_leastBy_17 : decode cX11_leastBy 17 = .ok (.iload_n 2, 1) := by decide +kernel
theorem dX11_leastBy_18 : decode cX11_leastBy 18 = .ok (.invokevirtual 213, 3) := by decide +kernel
theorem dX11_leastBy_21 : decode cX11_leastBy 21 = .ok (.ifCond .eq 11, 3) := by decide +kernel
theorem dX11_leastBy_24 : decode cX11_leastBy 24 = .ok (.iload_n 3, 1) := by decide +kernel
theorem dX11_leastBy_25 : decode cX11_leastBy 25 = .ok (.iconst 2, 1) := by decide +kernel
theorem dX11_leastBy_26 : decode cX11_leastBy 26 = .ok (.invokestatic 104, 3) := by decide +kernel
theorem dX11_leastBy_29 : decode cX11_leastBy 29 = .ok (.ifCond .ne 9, 3) := by decide +kernel
theorem dX11_leastBy_32 : decode cX11_leastBy 32 = .ok (.aload_n 0, 1) := by decide +kernel
theorem dX11_leastBy_33 : decode cX11_leastBy 33 = .ok (.iconst 1, 1) := by decide +kernel
theorem dX11_leastBy_34 : decode cX11_leastBy 34 = .ok (.invokevirtual 132, 3) := by decide +kernel
theorem dX11_leastBy_37 : decode cX11_leastBy 37 = .ok (.ireturn, 1) := by decide +kernel
theorem dX11_leastBy_38 : decode cX11_leastBy 38 = .ok (.aload_n 0, 1) := by decide +kernel
theorem dX11_leastBy_39 : decode cX11_leastBy 39 = .ok (.iload_n 1, 1) := by decide +kernel
theorem dX11_leastBy_40 : decode cX11_leastBy 40 = .ok (.iload_n 2, 1) := by decide +kernel
theorem dX11_leastBy_41 : decode cX11_leastBy 41 = .ok (.invokevirtual 348, 3) := by decide +kernel
theorem dX11_leastBy_44 : decode cX11_leastBy 44 = .ok (.istore 4, 2) := by decide +kernel
theorem dX11_leastBy_46 : decode cX11_leastBy 46 = .ok (.iload 4, 2) := by decide +kernel
theorem dX11_leastBy_48 : decode cX11_leastBy 48 = .ok (.iconst (-1), 1) := by decide +kernel
theorem dX11_leastBy_49 : decode cX11_leastBy 49 = .ok (.if_icmp .ne 10, 3) := by decide +kernel
theorem dX11_leastBy_52 : decode cX11_leastBy 52 = .ok (.aload_n 0, 1) := by decide +kernel
theorem dX11_leastBy_53 : decode cX11_leastBy 53 = .ok (.bipush 6, 2) := by decide +kernel
theorem dX11_leastBy_55 : decode cX11_leastBy 55 = .ok (.invokevirtual 132, 3) := by decide +kernel
theorem dX11_leastBy_58 : decode cX11_leastBy 58 = .ok (.ireturn, 1) := by decide +kernel
theorem dX11_leastBy_59 : decode cX11_leastBy 59 = .ok (.aload_n 0, 1) := by decide +kernel
theorem dX11_leastBy_60 : decode cX11_leastBy 60 = .ok (.iload_n 3, 1) := by decide +kernel
theorem dX11_leastBy_61 : decode cX11_leastBy 61 = .ok (.ifCond .ne 13, 3) := by decide +kernel
theorem dX11_leastBy_64 : decode cX11_leastBy 64 = .ok (.iload 4, 2) := by decide +kernel
theorem dX11_leastBy_66 : decode cX11_leastBy 66 = .ok (.iconst 5, 1) := by decide +kernel
theorem dX11_leastBy_67 : decode cX11_leastBy 67 = .ok (.ishr, 1) := by decide +kernel
theorem dX11_leastBy_68 : decode cX11_leastBy 68 = .ok (.bipush 31, 2) := by decide +kernel
theorem dX11_leastBy_70 : decode cX11_leastBy 70 = .ok (.iand, 1) := by decide +kernel
theorem dX11_leastBy_71 : decode cX11_leastBy 71 = .ok (.goto 8, 3) := by decide +kernel
theorem dX11_leastBy_74 : decode cX11_leastBy 74 = .ok (.iload 4, 2) := by decide +kernel
theorem dX11_leastBy_76 : decode cX11_leastBy 76 = .ok (.bipush 31, 2) := by decide +kernel
theorem dX11_leastBy_78 : decode cX11_leastBy 78 = .ok (.iand, 1) := by decide +kernel
theorem dX11_leastBy_79 : decode cX11_leastBy 79 = .ok (.invokevirtual 191, 3) := by decide +kernel
theorem dX11_leastBy_82 : decode cX11_leastBy 82 = .ok (.ireturn, 1) := by decide +kernel
set_option maxRecDepth 20000 in
theorem ggX11_reach_X0_has : GoodIn wsX11_reach wsX0_has := goodIn_r _ [8, 9, 10, 11, 7, 12, 13, 84, 85, 86, 87, 88, 89, 90, 91, 92, 93, 94, 95, 96, 97] (by decide +kernel) (by decide +kernel)
set_option maxRecDepth 20000 in
theorem gX11_reach_X0_has : GoodIn wsX11_reach (wsV RX11 213 RX0 yX0_has wsX0_has) := goodIn_app (goodIn_of _ (by decide +kernel)) ggX11_reach_X0_has
set_option maxRecDepth 20000 in
theorem ggX11_reach_X11_refused : GoodIn wsX11_reach wsX11_refused := goodIn_r _ [18, 19, 62, 63, 64, 65, 66, 67, 68, 69, 70, 71, 72, 73, 74, 75, 76, 77, 78, 79, 80] (by decide +kernel) (by decide +kernel)
set_option maxRecDepth 20000 in
theorem gX11_reach_X11_refused : GoodIn wsX11_reach (wsV RX11 132 RX11 yX11_refused wsX11_refused) := goodIn_app (goodIn_of _ (by decide +kernel)) ggX11_reach_X11_refused
set_option maxRecDepth 20000 in
theorem ggX11_reach_X10_countIn : GoodIn wsX11_reach wsX10_countIn := goodIn_r _ [24, 25, 26, 27, 28, 17, 29, 30, 31, 32, 23, 33, 34, 35, 10, 11, 7, 12, 13, 36, 37, 38, 39, 40, 41, 42, 43, 44, 45, 46, 47, 48, 49, 50, 51, 52, 53, 54, 55, 56, 81, 82, 83, 98, 99, 100, 101, 102, 103, 104, 105, 106, 84, 85, 86, 87, 88, 89, 90, 91, 92, 93, 94, 95, 96, 97] (by decide +kernel) (by decide +kernel)
set_option maxRecDepth 20000 in
theorem gX11_reach_X10_countIn : GoodIn wsX11_reach (wsV RX11 351 RX10 yX10_countIn wsX10_countIn) := goodIn_app (goodIn_of _ (by decide +kernel)) ggX11_reach_X10_countIn
set_option maxRecDepth 20000 in
theorem ggX11_reach_X11_cell : GoodIn wsX11_reach wsX11_cell := goodIn_r _ [56] (by decide +kernel) (by decide +kernel)
set_option maxRecDepth 20000 in
theorem gX11_reach_X11_cell : GoodIn wsX11_reach (va_wsS RX11 254 yX11_cell wsX11_cell) := goodIn_app (goodIn_of _ (by decide +kernel)) ggX11_reach_X11_cell
set_option maxRecDepth 20000 in
theorem ggX11_reach_X11_given : GoodIn wsX11_reach wsX11_given := goodIn_r _ [61, 19, 62, 63, 64, 65, 66, 67, 68, 69, 70, 71, 72, 73, 74, 75, 76, 77, 78, 79, 80] (by decide +kernel) (by decide +kernel)
set_option maxRecDepth 20000 in
theorem gX11_reach_X11_given : GoodIn wsX11_reach (wsV RX11 191 RX11 yX11_given wsX11_given) := goodIn_app (goodIn_of _ (by decide +kernel)) ggX11_reach_X11_given
theorem dX11_reach_0 : decode cX11_reach 0 = .ok (.aload_n 0, 1) := by decide +kernel
theorem dX11_reach_1 : decode cX11_reach 1 = .ok (.getfield 10, 3) := by decide +kernel
theorem dX11_reach_4 : decode cX11_reach 4 = .ok (.iconst 2, 1) := by decide +kernel
theorem dX11_reach_5 : decode cX11_reach 5 = .ok (.iload_n 1, 1) := by decide +kernel
theorem dX11_reach_6 : decode cX11_reach 6 = .ok (.invokevirtual 213, 3) := by decide +kernel
theorem dX11_reach_9 : decode cX11_reach 9 = .ok (.ifCond .ne 9, 3) := by decide +kernel
theorem dX11_reach_12 : decode cX11_reach 12 = .ok (.aload_n 0, 1) := by decide +kernel
theorem dX11_reach_13 : decode cX11_reach 13 = .ok (.iconst 1, 1) := by decide +kernel
theorem dX11_reach_14 : decode cX11_reach 14 = .ok (.invokevirtual 132, 3) := by decide +kernel
theorem dX11_reach_17 : decode cX11_reach 17 = .ok (.ireturn, 1) := by decide +kernel
theorem dX11_reach_18 : decode cX11_reach 18 = .ok (.aload_n 0, 1) := by decide +kernel
theorem dX11_reach_19 : decode cX11_reach 19 = .ok (.getfield 57, 3) := by decide +kernel
theorem dX11_reach_22 : decode cX11_reach 22 = .ok (.aload_n 0, 1) := by decide +kernel
theorem dX11_reach_23 : decode cX11_reach 23 = .ok (.getfield 10, 3) := by decide +kernel
theorem dX11_reach_26 : decode cX11_reach 26 = .ok (.invokevirtual 351, 3) := by decide +kernel
theorem dX11_reach_29 : decode cX11_reach 29 = .ok (.aload_n 0, 1) := by decide +kernel
theorem dX11_reach_30 : decode cX11_reach 30 = .ok (.aload_n 0, 1) := by decide +kernel
theorem dX11_reach_31 : decode cX11_reach 31 = .ok (.getfield 57, 3) := by decide +kernel
theorem dX11_reach_34 : decode cX11_reach 34 = .ok (.getfield 354, 3) := by decide +kernel
theorem dX11_reach_37 : decode cX11_reach 37 = .ok (.iload_n 1, 1) := by decide +kernel
theorem dX11_reach_38 : decode cX11_reach 38 = .ok (.invokestatic 254, 3) := by decide +kernel
theorem dX11_reach_41 : decode cX11_reach 41 = .ok (.invokevirtual 191, 3) := by decide +kernel
theorem dX11_reach_44 : decode cX11_reach 44 = .ok (.ireturn, 1) := by decide +kernel
set_option maxRecDepth 20000 in
theorem ggX11_idle_X10_countIn : GoodIn wsX11_idle wsX10_countIn := goodIn_r _ [8, 9, 10, 11, 12, 13, 14, 15, 16, 17, 7, 18, 19, 20, 21, 22, 23, 24, 25, 26, 27, 28, 29, 30, 31, 32, 33, 34, 35, 36, 37, 38, 39, 40, 41, 42, 43, 44, 45, 46, 73, 74, 75, 76, 77, 78, 79, 80, 81, 82, 83, 84, 85, 86, 87, 88, 89, 90, 91, 92, 93, 94, 95, 96, 97, 98] (by decide +kernel) (by decide +kernel)
set_option maxRecDepth 20000 in
theorem gX11_idle_X10_countIn : GoodIn wsX11_idle (wsV RX11 351 RX10 yX10_countIn wsX10_countIn) := goodIn_app (goodIn_of _ (by decide +kernel)) ggX11_idle_X10_countIn
set_option maxRecDepth 20000 in
theorem ggX11_idle_X0_countOf : GoodIn wsX11_idle wsX0_countOf := goodIn_r _ [24, 25, 85, 86, 87, 88, 89, 90, 91, 92, 93, 94, 95, 96, 97, 98] (by decide +kernel) (by decide +kernel)
set_option maxRecDepth 20000 in
theorem gX11_idle_X0_countOf : GoodIn wsX11_idle (wsV RX11 167 RX0 yX0_countOf wsX0_countOf) := goodIn_app (goodIn_of _ (by decide +kernel)) ggX11_idle_X0_countOf
set_option maxRecDepth 20000 in
theorem ggX11_idle_X11_cell : GoodIn wsX11_idle wsX11_cell := goodIn_r _ [46] (by decide +kernel) (by decide +kernel)
set_option maxRecDepth 20000 in
theorem gX11_idle_X11_cell : GoodIn wsX11_idle (va_wsS RX11 254 yX11_cell wsX11_cell) := goodIn_app (goodIn_of _ (by decide +kernel)) ggX11_idle_X11_cell
set_option maxRecDepth 20000 in
theorem ggX11_idle_X11_given : GoodIn wsX11_idle wsX11_given := goodIn_r _ [52, 53, 54, 55, 56, 57, 58, 59, 60, 61, 62, 63, 64, 65, 66, 67, 68, 69, 70, 71, 72] (by decide +kernel) (by decide +kernel)
set_option maxRecDepth 20000 in
theorem gX11_idle_X11_given : GoodIn wsX11_idle (wsV RX11 191 RX11 yX11_given wsX11_given) := goodIn_app (goodIn_of _ (by decide +kernel)) ggX11_idle_X11_given
theorem dX11_idle_0 : decode cX11_idle 0 = .ok (.aload_n 0, 1) := by decide +kernel
theorem dX11_idle_1 : decode cX11_idle 1 = .ok (.getfield 57, 3) := by decide +kernel
theorem dX11_idle_4 : decode cX11_idle 4 = .ok (.aload_n 0, 1) := by decide +kernel
theorem dX11_idle_5 : decode cX11_idle 5 = .ok (.getfield 10, 3) := by decide +kernel
theorem dX11_idle_8 : decode cX11_idle 8 = .ok (.invokevirtual 351, 3) := by decide +kernel
theorem dX11_idle_11 : decode cX11_idle 11 = .ok (.iconst 0, 1) := by decide +kernel
theorem dX11_idle_12 : decode cX11_idle 12 = .ok (.istore_n 1, 1) := by decide +kernel
theorem dX11_idle_13 : decode cX11_idle 13 = .ok (.iconst 0, 1) := by decide +kernel
theorem dX11_idle_14 : decode cX11_idle 14 = .ok (.istore_n 2, 1) := by decide +kernel
theorem dX11_idle_15 : decode cX11_idle 15 = .ok (.iload_n 2, 1) := by decide +kernel
theorem dX11_idle_16 : decode cX11_idle 16 = .ok (.aload_n 0, 1) := by decide +kernel
theorem dX11_idle_17 : decode cX11_idle 17 = .ok (.getfield 10, 3) := by decide +kernel
theorem dX11_idle_20 : decode cX11_idle 20 = .ok (.iconst 2, 1) := by decide +kernel
theorem dX11_idle_21 : decode cX11_idle 21 = .ok (.invokevirtual 167, 3) := by decide +kernel
theorem dX11_idle_24 : decode cX11_idle 24 = .ok (.if_icmp .ge 29, 3) := by decide +kernel
theorem dX11_idle_27 : decode cX11_idle 27 = .ok (.aload_n 0, 1) := by decide +kernel
theorem dX11_idle_28 : decode cX11_idle 28 = .ok (.getfield 57, 3) := by decide +kernel
theorem dX11_idle_31 : decode cX11_idle 31 = .ok (.getfield 354, 3) := by decide +kernel
theorem dX11_idle_34 : decode cX11_idle 34 = .ok (.iload_n 2, 1) := by decide +kernel
theorem dX11_idle_35 : decode cX11_idle 35 = .ok (.invokestatic 254, 3) := by decide +kernel
theorem dX11_idle_38 : decode cX11_idle 38 = .ok (.ifCond .ne 9, 3) := by decide +kernel
theorem dX11_idle_41 : decode cX11_idle 41 = .ok (.iload_n 1, 1) := by decide +kernel
theorem dX11_idle_42 : decode cX11_idle 42 = .ok (.iconst 1, 1) := by decide +kernel
theorem dX11_idle_43 : decode cX11_idle 43 = .ok (.iload_n 2, 1) := by decide +kernel
theorem dX11_idle_44 : decode cX11_idle 44 = .ok (.ishl, 1) := by decide +kernel
theorem dX11_idle_45 : decode cX11_idle 45 = .ok (.ior, 1) := by decide +kernel
theorem dX11_idle_46 : decode cX11_idle 46 = .ok (.istore_n 1, 1) := by decide +kernel
theorem dX11_idle_47 : decode cX11_idle 47 = .ok (.iinc 2 1, 3) := by decide +kernel
theorem dX11_idle_50 : decode cX11_idle 50 = .ok (.goto (-35), 3) := by decide +kernel
theorem dX11_idle_53 : decode cX11_idle 53 = .ok (.aload_n 0, 1) := by decide +kernel
theorem dX11_idle_54 : decode cX11_idle 54 = .ok (.iload_n 1, 1) := by decide +kernel
theorem dX11_idle_55 : decode cX11_idle 55 = .ok (.invokevirtual 191, 3) := by decide +kernel
theorem dX11_idle_58 : decode cX11_idle 58 = .ok (.ireturn, 1) := by decide +kernel
set_option maxRecDepth 20000 in
theorem ggX11_tells_X0_has : GoodIn wsX11_tells wsX0_has := goodIn_r _ [10, 11, 12, 13, 9, 14, 15, 106, 107, 108, 109, 110, 111, 112, 113, 114, 115, 116, 117, 118, 119] (by decide +kernel) (by decide +kernel)
set_option maxRecDepth 20000 in
theorem gX11_tells_X0_has : GoodIn wsX11_tells (wsV RX11 213 RX0 yX0_has wsX0_has) := goodIn_app (goodIn_of _ (by decide +kernel)) ggX11_tells_X0_has
set_option maxRecDepth 20000 in
theorem ggX11_tells_X11_denied : GoodIn wsX11_tells wsX11_denied := goodIn_r _ [20, 21, 75, 76, 77, 78, 79, 80, 81, 82, 83, 84, 85, 86, 87, 88, 89, 90, 91, 92, 93] (by decide +kernel) (by decide +kernel)
set_option maxRecDepth 20000 in
theorem gX11_tells_X11_denied : GoodIn wsX11_tells (wsV RX11 108 RX11 yX11_denied wsX11_denied) := goodIn_app (goodIn_of _ (by decide +kernel)) ggX11_tells_X11_denied
set_option maxRecDepth 20000 in
theorem ggX11_tells_X10_countIn : GoodIn wsX11_tells wsX10_countIn := goodIn_r _ [26, 27, 28, 29, 30, 19, 31, 32, 33, 34, 25, 35, 36, 37, 12, 13, 9, 14, 15, 38, 39, 40, 41, 42, 43, 44, 45, 46, 47, 48, 49, 50, 51, 52, 53, 54, 55, 56, 57, 58, 103, 104, 105, 94, 95, 96, 97, 98, 99, 100, 101, 102, 106, 107, 108, 109, 110, 111, 112, 113, 114, 115, 116, 117, 118, 119] (by decide +kernel) (by decide +kernel)
set_option maxRecDepth 20000 in
theorem gX11_tells_X10_countIn : GoodIn wsX11_tells (wsV RX11 351 RX10 yX10_countIn wsX10_countIn) := goodIn_app (goodIn_of _ (by decide +kernel)) ggX11_tells_X10_countIn
set_option maxRecDepth 20000 in
theorem ggX11_tells_X0_countOf : GoodIn wsX11_tells wsX0_countOf := goodIn_r _ [14, 15, 106, 107, 108, 109, 110, 111, 112, 113, 114, 115, 116, 117, 118, 119] (by decide +kernel) (by decide +kernel)
set_option maxRecDepth 20000 in
theorem gX11_tells_X0_countOf : GoodIn wsX11_tells (wsV RX11 167 RX0 yX0_countOf wsX0_countOf) := goodIn_app (goodIn_of _ (by decide +kernel)) ggX11_tells_X0_countOf
set_option maxRecDepth 20000 in
theorem ggX11_tells_X0_ruleAt : GoodIn wsX11_tells wsX0_ruleAt := goodIn_r _ [41, 42, 43, 106, 107, 108, 109, 110, 111, 112, 113, 114, 115, 116, 117, 118, 119] (by decide +kernel) (by decide +kernel)
set_option maxRecDepth 20000 in
theorem gX11_tells_X0_ruleAt : GoodIn wsX11_tells (wsV RX11 219 RX0 yX0_ruleAt wsX0_ruleAt) := goodIn_app (goodIn_of _ (by decide +kernel)) ggX11_tells_X0_ruleAt
set_option maxRecDepth 20000 in
theorem ggX11_tells_X11_cell : GoodIn wsX11_tells wsX11_cell := goodIn_r _ [58] (by decide +kernel) (by decide +kernel)
set_option maxRecDepth 20000 in
theorem gX11_tells_X11_cell : GoodIn wsX11_tells (va_wsS RX11 254 yX11_cell wsX11_cell) := goodIn_app (goodIn_of _ (by decide +kernel)) ggX11_tells_X11_cell
set_option maxRecDepth 20000 in
theorem ggX11_tells_X11_tellFraction : GoodIn wsX11_tells wsX11_tellFraction := goodIn_r _ [65, 66, 67, 68, 69, 19, 70, 71, 72, 73, 74, 21, 75, 76, 77, 78, 79, 80, 81, 82, 83, 84, 85, 86, 87, 88, 89, 90, 91, 92, 93] (by decide +kernel) (by decide +kernel)
set_option maxRecDepth 20000 in
theorem gX11_tells_X11_tellFraction : GoodIn wsX11_tells (wsV RX11 341 RX11 yX11_tellFraction wsX11_tellFraction) := goodIn_app (goodIn_of _ (by decide +kernel)) ggX11_tells_X11_tellFraction
theorem dX11_tells_0 : decode cX11_tells 0 = .ok (.aload_n 0, 1) := by decide +kernel
theorem dX11_tells_1 : decode cX11_tells 1 = .ok (.getfield 10, 3) := by decide +kernel
theorem dX11_tells_4 : decode cX11_tells 4 = .ok (.iconst 1, 1) := by decide +kernel
theorem dX11_tells_5 : decode cX11_tells 5 = .ok (.iload_n 1, 1) := by decide +kernel
theorem dX11_tells_6 : decode cX11_tells 6 = .ok (.invokevirtual 213, 3) := by decide +kernel
theorem dX11_tells_9 : decode cX11_tells 9 = .ok (.ifCond .ne 9, 3) := by decide +kernel
theorem dX11_tells_12 : decode cX11_tells 12 = .ok (.aload_n 0, 1) := by decide +kernel
theorem dX11_tells_13 : decode cX11_tells 13 = .ok (.iconst 1, 1) := by decide +kernel
theorem dX11_tells_14 : decode cX11_tells 14 = .ok (.invokevirtual 108, 3) := by decide +kernel
theorem dX11_tells_17 : decode cX11_tells 17 = .ok (.ireturn, 1) := by decide +kernel
theorem dX11_tells_18 : decode cX11_tells 18 = .ok (.aload_n 0, 1) := by decide +kernel
theorem dX11_tells_19 : decode cX11_tells 19 = .ok (.getfield 57, 3) := by decide +kernel
theorem dX11_tells_22 : decode cX11_tells 22 = .ok (.aload_n 0, 1) := by decide +kernel
theorem dX11_tells_23 : decode cX11_tells 23 = .ok (.getfield 10, 3) := by decide +kernel
theorem dX11_tells_26 : decode cX11_tells 26 = .ok (.invokevirtual 351, 3) := by decide +kernel
theorem dX11_tells_29 : decode cX11_tells 29 = .ok (.iconst 0, 1) := by decide +kernel
theorem dX11_tells_30 : decode cX11_tells 30 = .ok (.istore_n 2, 1) := by decide +kernel
theorem dX11_tells_31 : decode cX11_tells 31 = .ok (.iconst 0, 1) := by decide +kernel
theorem dX11_tells_32 : decode cX11_tells 32 = .ok (.istore_n 3, 1) := by decide +kernel
theorem dX11_tells_33 : decode cX11_tells 33 = .ok (.iconst 0, 1) := by decide +kernel
theorem dX11_tells_34 : decode cX11_tells 34 = .ok (.istore 4, 2) := by decide +kernel
theorem dX11_tells_36 : decode cX11_tells 36 = .ok (.iload 4, 2) := by decide +kernel
theorem dX11_tells_38 : decode cX11_tells 38 = .ok (.aload_n 0, 1) := by decide +kernel
theorem dX11_tells_39 : decode cX11_tells 39 = .ok (.getfield 10, 3) := by decide +kernel
theorem dX11_tells_42 : decode cX11_tells 42 = .ok (.iconst 2, 1) := by decide +kernel
theorem dX11_tells_43 : decode cX11_tells 43 = .ok (.invokevirtual 167, 3) := by decide +kernel
theorem dX11_tells_46 : decode cX11_tells 46 = .ok (.if_icmp .ge 55, 3) := by decide +kernel
theorem dX11_tells_49 : decode cX11_tells 49 = .ok (.aload_n 0, 1) := by decide +kernel
theorem dX11_tells_50 : decode cX11_tells 50 = .ok (.getfield 10, 3) := by decide +kernel
theorem dX11_tells_53 : decode cX11_tells 53 = .ok (.iload 4, 2) := by decide +kernel
theorem dX11_tells_55 : decode cX11_tells 55 = .ok (.invokevirtual 219, 3) := by decide +kernel
theorem dX11_tells_58 : decode cX11_tells 58 = .ok (.getfield 357, 3) := by decide +kernel
theorem dX11_tells_61 : decode cX11_tells 61 = .ok (.iload_n 1, 1) := by decide +kernel
theorem dX11_tells_62 : decode cX11_tells 62 = .ok (.if_icmp .ne 33, 3) := by decide +kernel
theorem dX11_tells_65 : decode cX11_tells 65 = .ok (.iload_n 2, 1) := by decide +kernel
theorem dX11_tells_66 : decode cX11_tells 66 = .ok (.aload_n 0, 1) := by decide +kernel
theorem dX11_tells_67 : decode cX11_tells 67 = .ok (.getfield 57, 3) := by decide +kernel
theorem dX11_tells_70 : decode cX11_tells 70 = .ok (.getfield 354, 3) := by decide +kernel
theorem dX11_tells_73 : decode cX11_tells 73 = .ok (.iload 4, 2) := by decide +kernel
theorem dX11_tells_75 : decode cX11_tells 75 = .ok (.invokestatic 254, 3) := by decide +kernel
theorem dX11_tells_78 : decode cX11_tells 78 = .ok (.iadd, 1) := by decide +kernel
theorem dX11_tells_79 : decode cX11_tells 79 = .ok (.istore_n 2, 1) := by decide +kernel
theorem dX11_tells_80 : decode cX11_tells 80 = .ok (.iload_n 3, 1) := by decide +kernel
theorem dX11_tells_81 : decode cX11_tells 81 = .ok (.aload_n 0, 1) := by decide +kernel
theorem dX11_tells_82 : decode cX11_tells 82 = .ok (.getfield 57, 3) := by decide +kernel
theorem dX11_tells_85 : decode cX11_tells 85 = .ok (.getfield 360, 3) := by decide +kernel
theorem dX11_tells_88 : decode cX11_tells 88 = .ok (.iload 4, 2) := by decide +kernel
theorem dX11_tells_90 : decode cX11_tells 90 = .ok (.invokestatic 254, 3) := by decide +kernel
theorem dX11_tells_93 : decode cX11_tells 93 = .ok (.iadd, 1) := by decide +kernel
theorem dX11_tells_94 : decode cX11_tells 94 = .ok (.istore_n 3, 1) := by decide +kernel
theorem dX11_tells_95 : decode cX11_tells 95 = .ok (.iinc 4 1, 3) := by decide +kernel
theorem dX11_tells_98 : decode cX11_tells 98 = .ok (.goto (-62), 3) := by decide +kernel
theorem dX11_tells_101 : decode cX11_tells 101 = .ok (.iload_n 2, 1) := by decide +kernel
theorem dX11_tells_102 : decode cX11_tells 102 = .ok (.ifCond .ne 12, 3) := by decide +kernel
theorem dX11_tells_105 : decode cX11_tells 105 = .ok (.aload_n 0, 1) := by decide +kernel
theorem dX11_tells_106 : decode cX11_tells 106 = .ok (.bipush 6, 2) := by decide +kernel
theorem dX11_tells_108 : decode cX11_tells 108 = .ok (.invokevirtual 108, 3) := by decide +kernel
theorem dX11_tells_111 : decode cX11_tells 111 = .ok (.goto 11, 3) := by decide +kernel
theorem dX11_tells_114 : decode cX11_tells 114 = .ok (.aload_n 0, 1) := by decide +kernel
theorem dX11_tells_115 : decode cX11_tells 115 = .ok (.iload_n 3, 1) := by decide +kernel
theorem dX11_tells_116 : decode cX11_tells 116 = .ok (.i2l, 1) := by decide +kernel
theorem dX11_tells_117 : decode cX11_tells 117 = .ok (.iload_n 2, 1) := by decide +kernel
theorem dX11_tells_118 : decode cX11_tells 118 = .ok (.i2l, 1) := by decide +kernel
theorem dX11_tells_119 : decode cX11_tells 119 = .ok (.invokevirtual 341, 3) := by decide +kernel
theorem dX11_tells_122 : decode cX11_tells 122 = .ok (.ireturn, 1) := by decide +kernel
set_option maxRecDepth 20000 in
theorem ggX11_mute_X10_countIn : GoodIn wsX11_mute wsX10_countIn := goodIn_r _ [8, 9, 10, 11, 12, 13, 14, 15, 16, 17, 7, 18, 19, 20, 21, 22, 23, 24, 25, 26, 27, 28, 29, 30, 31, 32, 33, 34, 35, 36, 37, 38, 39, 40, 41, 42, 43, 44, 45, 46, 71, 72, 73, 74, 75, 76, 77, 78, 79, 80, 81, 82, 83, 84, 85, 86, 87, 88, 89, 90, 91, 92, 93, 94, 95, 96] (by decide +kernel) (by decide +kernel)
set_option maxRecDepth 20000 in
theorem gX11_mute_X10_countIn : GoodIn wsX11_mute (wsV RX11 351 RX10 yX10_countIn wsX10_countIn) := goodIn_app (goodIn_of _ (by decide +kernel)) ggX11_mute_X10_countIn
set_option maxRecDepth 20000 in
theorem ggX11_mute_X11_given : GoodIn wsX11_mute wsX11_given := goodIn_r _ [50, 51, 52, 53, 54, 55, 56, 57, 58, 59, 60, 61, 62, 63, 64, 65, 66, 67, 68, 69, 70] (by decide +kernel) (by decide +kernel)
set_option maxRecDepth 20000 in
theorem gX11_mute_X11_given : GoodIn wsX11_mute (wsV RX11 191 RX11 yX11_given wsX11_given) := goodIn_app (goodIn_of _ (by decide +kernel)) ggX11_mute_X11_given
theorem dX11_mute_0 : decode cX11_mute 0 = .ok (.aload_n 0, 1) := by decide +kernel
theorem dX11_mute_1 : decode cX11_mute 1 = .ok (.getfield 57, 3) := by decide +kernel
theorem dX11_mute_4 : decode cX11_mute 4 = .ok (.aload_n 0, 1) := by decide +kernel
theorem dX11_mute_5 : decode cX11_mute 5 = .ok (.getfield 10, 3) := by decide +kernel
theorem dX11_mute_8 : decode cX11_mute 8 = .ok (.invokevirtual 351, 3) := by decide +kernel
theorem dX11_mute_11 : decode cX11_mute 11 = .ok (.aload_n 0, 1) := by decide +kernel
theorem dX11_mute_12 : decode cX11_mute 12 = .ok (.aload_n 0, 1) := by decide +kernel
theorem dX11_mute_13 : decode cX11_mute 13 = .ok (.getfield 57, 3) := by decide +kernel
theorem dX11_mute_16 : decode cX11_mute 16 = .ok (.getfield 363, 3) := by decide +kernel
theorem dX11_mute_19 : decode cX11_mute 19 = .ok (.invokevirtual 191, 3) := by decide +kernel
theorem dX11_mute_22 : decode cX11_mute 22 = .ok (.ireturn, 1) := by decide +kernel
set_option maxRecDepth 20000 in
theorem ggX11_verdict_X0_countOf : GoodIn wsX11_verdict wsX0_countOf := goodIn_r _ [6, 7, 75, 76, 77, 78, 79, 80, 81, 82, 83, 84, 85, 86, 87, 88] (by decide +kernel) (by decide +kernel)
set_option maxRecDepth 20000 in
theorem gX11_verdict_X0_countOf : GoodIn wsX11_verdict (wsV RX11 167 RX0 yX0_countOf wsX0_countOf) := goodIn_app (goodIn_of _ (by decide +kernel)) ggX11_verdict_X0_countOf
set_option maxRecDepth 20000 in
theorem ggX11_verdict_X11_setOfAll : GoodIn wsX11_verdict wsX11_setOfAll := goodIn_r _ [11] (by decide +kernel) (by decide +kernel)
set_option maxRecDepth 20000 in
theorem gX11_verdict_X11_setOfAll : GoodIn wsX11_verdict (va_wsS RX11 207 yX11_setOfAll wsX11_setOfAll) := goodIn_app (goodIn_of _ (by decide +kernel)) ggX11_verdict_X11_setOfAll
set_option maxRecDepth 20000 in
theorem ggX11_verdict_X11_denied : GoodIn wsX11_verdict wsX11_denied := goodIn_r _ [15, 16, 56, 57, 58, 59, 60, 61, 62, 63, 64, 65, 66, 67, 68, 69, 70, 71, 72, 73, 74] (by decide +kernel) (by decide +kernel)
set_option maxRecDepth 20000 in
theorem gX11_verdict_X11_denied : GoodIn wsX11_verdict (wsV RX11 108 RX11 yX11_denied wsX11_denied) := goodIn_app (goodIn_of _ (by decide +kernel)) ggX11_verdict_X11_denied
set_option maxRecDepth 20000 in
theorem ggX11_verdict_X0_rightWeight : GoodIn wsX11_verdict wsX0_rightWeight := goodIn_r _ [20, 21, 22, 23, 5, 24, 25, 26, 3, 4, 6, 7, 27, 10, 28, 29, 30, 31, 32, 33, 34, 35, 75, 76, 77, 78, 79, 80, 81, 82, 83, 84, 85, 86, 87, 88] (by decide +kernel) (by decide +kernel)
set_option maxRecDepth 20000 in
theorem gX11_verdict_X0_rightWeight : GoodIn wsX11_verdict (wsV RX11 366 RX0 yX0_rightWeight wsX0_rightWeight) := goodIn_app (goodIn_of _ (by decide +kernel)) ggX11_verdict_X0_rightWeight
set_option maxRecDepth 20000 in
theorem ggX11_verdict_J6_bitCount_0f7a4 : GoodIn wsX11_verdict wsJ6_bitCount_0f7a4 := goodIn_r _ [39, 40, 41, 42] (by decide +kernel) (by decide +kernel)
set_option maxRecDepth 20000 in
theorem gX11_verdict_J6_bitCount_0f7a4 : GoodIn wsX11_verdict (va_wsS RX11 270 yJ6_bitCount_0f7a4 wsJ6_bitCount_0f7a4) := goodIn_app (goodIn_of _ (by decide +kernel)) ggX11_verdict_J6_bitCount_0f7a4
set_option maxRecDepth 20000 in
theorem ggX11_verdict_X11_tellFraction : GoodIn wsX11_verdict wsX11_tellFraction := goodIn_r _ [46, 47, 48, 49, 50, 10, 51, 52, 53, 54, 55, 16, 56, 57, 58, 59, 60, 61, 62, 63, 64, 65, 66, 67, 68, 69, 70, 71, 72, 73, 74] (by decide +kernel) (by decide +kernel)
set_option maxRecDepth 20000 in
theorem gX11_verdict_X11_tellFraction : GoodIn wsX11_verdict (wsV RX11 341 RX11 yX11_tellFraction wsX11_tellFraction) := goodIn_app (goodIn_of _ (by decide +kernel)) ggX11_verdict_X11_tellFraction
theorem dX11_verdict_0 : decode cX11_verdict 0 = .ok (.iload_n 1, 1) := by decide +kernel
theorem dX11_verdict_1 : decode cX11_verdict 1 = .ok (.iconst 1, 1) := by decide +kernel
theorem dX11_verdict_2 : decode cX11_verdict 2 = .ok (.if_icmp .lt 18, 3) := by decide +kernel
theorem dX11_verdict_5 : decode cX11_verdict 5 = .ok (.iload_n 1, 1) := by decide +kernel
theorem dX11_verdict_6 : decode cX11_verdict 6 = .ok (.aload_n 0, 1) := by decide +kernel
theorem dX11_verdict_7 : decode cX11_verdict 7 = .ok (.getfield 10, 3) := by decide +kernel
theorem dX11_verdict_10 : decode cX11_verdict 10 = .ok (.iconst 4, 1) := by decide +kernel
theorem dX11_verdict_11 : decode cX11_verdict 11 = .ok (.invokevirtual 167, 3) := by decide +kernel
theorem dX11_verdict_14 : decode cX11_verdict 14 = .ok (.invokestatic 207, 3) := by decide +kernel
theorem dX11_verdict_17 : decode cX11_verdict 17 = .ok (.if_icmp .le 9, 3) := by decide +kernel
theorem dX11_verdict_20 : decode cX11_verdict 20 = .ok (.aload_n 0, 1) := by decide +kernel
theorem dX11_verdict_21 : decode cX11_verdict 21 = .ok (.iconst 1, 1) := by decide +kernel
theorem dX11_verdict_22 : decode cX11_verdict 22 = .ok (.invokevirtual 108, 3) := by decide +kernel
theorem dX11_verdict_25 : decode cX11_verdict 25 = .ok (.ireturn, 1) := by decide +kernel
theorem dX11_verdict_26 : decode cX11_verdict 26 = .ok (.aload_n 0, 1) := by decide +kernel
theorem dX11_verdict_27 : decode cX11_verdict 27 = .ok (.aload_n 0, 1) := by decide +kernel
theorem dX11_verdict_28 : decode cX11_verdict 28 = .ok (.getfield 10, 3) := by decide +kernel
theorem dX11_verdict_31 : decode cX11_verdict 31 = .ok (.iload_n 1, 1) := by decide +kernel
theorem dX11_verdict_32 : decode cX11_verdict 32 = .ok (.invokevirtual 366, 3) := by decide +kernel
theorem dX11_verdict_35 : decode cX11_verdict 35 = .ok (.lconst 1, 1) := by decide +kernel
theorem dX11_verdict_36 : decode cX11_verdict 36 = .ok (.iconst 4, 1) := by decide +kernel
theorem dX11_verdict_37 : decode cX11_verdict 37 = .ok (.iload_n 1, 1) := by decide +kernel
theorem dX11_verdict_38 : decode cX11_verdict 38 = .ok (.invokestatic 270, 3) := by decide +kernel
theorem dX11_verdict_41 : decode cX11_verdict 41 = .ok (.imul, 1) := by decide +kernel
theorem dX11_verdict_42 : decode cX11_verdict 42 = .ok (.lshl, 1) := by decide +kernel
theorem dX11_verdict_43 : decode cX11_verdict 43 = .ok (.invokevirtual 341, 3) := by decide +kernel
theorem dX11_verdict_46 : decode cX11_verdict 46 = .ok (.ireturn, 1) := by decide +kernel
set_option maxRecDepth 20000 in
theorem ggX11_sworn_X11_refused : GoodIn wsX11_sworn wsX11_refused := goodIn_r _ [7, 8, 48, 49, 50, 51, 52, 53, 54, 55, 56, 57, 58, 59, 60, 61, 62, 63, 64, 65, 66] (by decide +kernel) (by decide +kernel)
set_option maxRecDepth 20000 in
theorem gX11_sworn_X11_refused : GoodIn wsX11_sworn (wsV RX11 132 RX11 yX11_refused wsX11_refused) := goodIn_app (goodIn_of _ (by decide +kernel)) ggX11_sworn_X11_refused
set_option maxRecDepth 20000 in
theorem ggX11_sworn_X0_countOf : GoodIn wsX11_sworn wsX0_countOf := goodIn_r _ [13, 14, 67, 68, 69, 70, 71, 72, 73, 74, 75, 76, 77, 78, 79, 80] (by decide +kernel) (by decide +kernel)
set_option maxRecDepth 20000 in
theorem gX11_sworn_X0_countOf : GoodIn wsX11_sworn (wsV RX11 167 RX0 yX0_countOf wsX0_countOf) := goodIn_app (goodIn_of _ (by decide +kernel)) ggX11_sworn_X0_countOf
set_option maxRecDepth 20000 in
theorem ggX11_sworn_X11_setOfAll : GoodIn wsX11_sworn wsX11_setOfAll := goodIn_r _ [17] (by decide +kernel) (by decide +kernel)
set_option maxRecDepth 20000 in
theorem gX11_sworn_X11_setOfAll : GoodIn wsX11_sworn (va_wsS RX11 207 yX11_setOfAll wsX11_setOfAll) := goodIn_app (goodIn_of _ (by decide +kernel)) ggX11_sworn_X11_setOfAll
set_option maxRecDepth 20000 in
theorem ggX11_sworn_J6_bitCount_0f7a4 : GoodIn wsX11_sworn wsJ6_bitCount_0f7a4 := goodIn_r _ [21, 22, 23, 24] (by decide +kernel) (by decide +kernel)
set_option maxRecDepth 20000 in
theorem gX11_sworn_J6_bitCount_0f7a4 : GoodIn wsX11_sworn (va_wsS RX11 270 yJ6_bitCount_0f7a4 wsJ6_bitCount_0f7a4) := goodIn_app (goodIn_of _ (by decide +kernel)) ggX11_sworn_J6_bitCount_0f7a4
set_option maxRecDepth 20000 in
theorem ggX11_sworn_X0_rightWeight : GoodIn wsX11_sworn wsX0_rightWeight := goodIn_r _ [28, 29, 30, 31, 12, 32, 33, 34, 10, 11, 13, 14, 35, 6, 36, 37, 38, 39, 40, 41, 42, 43, 67, 68, 69, 70, 71, 72, 73, 74, 75, 76, 77, 78, 79, 80] (by decide +kernel) (by decide +kernel)
set_option maxRecDepth 20000 in
theorem gX11_sworn_X0_rightWeight : GoodIn wsX11_sworn (wsV RX11 366 RX0 yX0_rightWeight wsX0_rightWeight) := goodIn_app (goodIn_of _ (by decide +kernel)) ggX11_sworn_X0_rightWeight
set_option maxRecDepth 20000 in
theorem ggX11_sworn_X11_given : GoodIn wsX11_sworn wsX11_given := goodIn_r _ [47, 8, 48, 49, 50, 51, 52, 53, 54, 55, 56, 57, 58, 59, 60, 61, 62, 63, 64, 65, 66] (by decide +kernel) (by decide +kernel)
set_option maxRecDepth 20000 in
theorem gX11_sworn_X11_given : GoodIn wsX11_sworn (wsV RX11 191 RX11 yX11_given wsX11_given) := goodIn_app (goodIn_of _ (by decide +kernel)) ggX11_sworn_X11_given
theorem dX11_sworn_0 : decode cX11_sworn 0 = .ok (.iload_n 1, 1) := by decide +kernel
theorem dX11_sworn_1 : decode cX11_sworn 1 = .ok (.iconst 1, 1) := by decide +kernel
theorem dX11_sworn_2 : decode cX11_sworn 2 = .ok (.if_icmp .lt 9, 3) := by decide +kernel
theorem dX11_sworn_5 : decode cX11_sworn 5 = .ok (.iload_n 1, 1) := by decide +kernel
theorem dX11_sworn_6 : decode cX11_sworn 6 = .ok (.bipush 6, 2) := by decide +kernel
theorem dX11_sworn_8 : decode cX11_sworn 8 = .ok (.if_icmp .le 9, 3) := by decide +kernel
theorem dX11_sworn_11 : decode cX11_sworn 11 = .ok (.aload_n 0, 1) := by decide +kernel
theorem dX11_sworn_12 : decode cX11_sworn 12 = .ok (.iconst 1, 1) := by decide +kernel
theorem dX11_sworn_13 : decode cX11_sworn 13 = .ok (.invokevirtual 132, 3) := by decide +kernel
theorem dX11_sworn_16 : decode cX11_sworn 16 = .ok (.ireturn, 1) := by decide +kernel
theorem dX11_sworn_17 : decode cX11_sworn 17 = .ok (.iload_n 1, 1) := by decide +kernel
theorem dX11_sworn_18 : decode cX11_sworn 18 = .ok (.aload_n 0, 1) := by decide +kernel
theorem dX11_sworn_19 : decode cX11_sworn 19 = .ok (.getfield 10, 3) := by decide +kernel
theorem dX11_sworn_22 : decode cX11_sworn 22 = .ok (.iconst 4, 1) := by decide +kernel
theorem dX11_sworn_23 : decode cX11_sworn 23 = .ok (.invokevirtual 167, 3) := by decide +kernel
theorem dX11_sworn_26 : decode cX11_sworn 26 = .ok (.if_icmp .le 10, 3) := by decide +kernel
theorem dX11_sworn_29 : decode cX11_sworn 29 = .ok (.aload_n 0, 1) := by decide +kernel
theorem dX11_sworn_30 : decode cX11_sworn 30 = .ok (.bipush 6, 2) := by decide +kernel
theorem dX11_sworn_32 : decode cX11_sworn 32 = .ok (.invokevirtual 132, 3) := by decide +kernel
theorem dX11_sworn_35 : decode cX11_sworn 35 = .ok (.ireturn, 1) := by decide +kernel
theorem dX11_sworn_36 : decode cX11_sworn 36 = .ok (.iconst 0, 1) := by decide +kernel
theorem dX11_sworn_37 : decode cX11_sworn 37 = .ok (.istore_n 2, 1) := by decide +kernel
theorem dX11_sworn_38 : decode cX11_sworn 38 = .ok (.ldc2_w 369, 3) := by decide +kernel
theorem dX11_sworn_41 : decode cX11_sworn 41 = .ok (.lstore_n 3, 1) := by decide +kernel
theorem dX11_sworn_42 : decode cX11_sworn 42 = .ok (.iconst 1, 1) := by decide +kernel
theorem dX11_sworn_43 : decode cX11_sworn 43 = .ok (.istore 5, 2) := by decide +kernel
theorem dX11_sworn_45 : decode cX11_sworn 45 = .ok (.iload 5, 2) := by decide +kernel
theorem dX11_sworn_47 : decode cX11_sworn 47 = .ok (.aload_n 0, 1) := by decide +kernel
theorem dX11_sworn_48 : decode cX11_sworn 48 = .ok (.getfield 10, 3) := by decide +kernel
theorem dX11_sworn_51 : decode cX11_sworn 51 = .ok (.iconst 4, 1) := by decide +kernel
theorem dX11_sworn_52 : decode cX11_sworn 52 = .ok (.invokevirtual 167, 3) := by decide +kernel
theorem dX11_sworn_55 : decode cX11_sworn 55 = .ok (.invokestatic 207, 3) := by decide +kernel
theorem dX11_sworn_58 : decode cX11_sworn 58 = .ok (.if_icmp .gt 48, 3) := by decide +kernel
theorem dX11_sworn_61 : decode cX11_sworn 61 = .ok (.iload 5, 2) := by decide +kernel
theorem dX11_sworn_63 : decode cX11_sworn 63 = .ok (.invokestatic 270, 3) := by decide +kernel
theorem dX11_sworn_66 : decode cX11_sworn 66 = .ok (.iload_n 1, 1) := by decide +kernel
theorem dX11_sworn_67 : decode cX11_sworn 67 = .ok (.if_icmp .ne 15, 3) := by decide +kernel
theorem dX11_sworn_70 : decode cX11_sworn 70 = .ok (.aload_n 0, 1) := by decide +kernel
theorem dX11_sworn_71 : decode cX11_sworn 71 = .ok (.getfield 10, 3) := by decide +kernel
theorem dX11_sworn_74 : decode cX11_sworn 74 = .ok (.iload 5, 2) := by decide +kernel
theorem dX11_sworn_76 : decode cX11_sworn 76 = .ok (.invokevirtual 366, 3) := by decide +kernel
theorem dX11_sworn_79 : decode cX11_sworn 79 = .ok (.goto 6, 3) := by decide +kernel
theorem dX11_sworn_82 : decode cX11_sworn 82 = .ok (.ldc2_w 369, 3) := by decide +kernel
theorem dX11_sworn_85 : decode cX11_sworn 85 = .ok (.lstore 6, 2) := by decide +kernel
theorem dX11_sworn_87 : decode cX11_sworn 87 = .ok (.lload 6, 2) := by decide +kernel
theorem dX11_sworn_89 : decode cX11_sworn 89 = .ok (.lload_n 3, 1) := by decide +kernel
theorem dX11_sworn_90 : decode cX11_sworn 90 = .ok (.lcmp, 1) := by decide +kernel
theorem dX11_sworn_91 : decode cX11_sworn 91 = .ok (.ifCond .le 9, 3) := by decide +kernel
theorem dX11_sworn_94 : decode cX11_sworn 94 = .ok (.iload 5, 2) := by decide +kernel
theorem dX11_sworn_96 : decode cX11_sworn 96 = .ok (.istore_n 2, 1) := by decide +kernel
theorem dX11_sworn_97 : decode cX11_sworn 97 = .ok (.lload 6, 2) := by decide +kernel
theorem dX11_sworn_99 : decode cX11_sworn 99 = .ok (.lstore_n 3, 1) := by decide +kernel
theorem dX11_sworn_100 : decode cX11_sworn 100 = .ok (.iinc 5 1, 3) := by decide +kernel
theorem dX11_sworn_103 : decode cX11_sworn 103 = .ok (.goto (-58), 3) := by decide +kernel
theorem dX11_sworn_106 : decode cX11_sworn 106 = .ok (.aload_n 0, 1) := by decide +kernel
theorem dX11_sworn_107 : decode cX11_sworn 107 = .ok (.iload_n 2, 1) := by decide +kernel
theorem dX11_sworn_108 : decode cX11_sworn 108 = .ok (.invokevirtual 191, 3) := by decide +kernel
theorem dX11_sworn_111 : decode cX11_sworn 111 = .ok (.ireturn, 1) := by decide +kernel
set_option maxRecDepth 20000 in
theorem ggX11_power_X0_has : GoodIn wsX11_power wsX0_has := goodIn_r _ [6, 7, 8, 9, 5, 10, 11, 74, 75, 76, 77, 78, 79, 80, 81, 82, 83, 84, 85, 86, 87] (by decide +kernel) (by decide +kernel)
set_option maxRecDepth 20000 in
theorem gX11_power_X0_has : GoodIn wsX11_power (wsV RX11 213 RX0 yX0_has wsX0_has) := goodIn_app (goodIn_of _ (by decide +kernel)) ggX11_power_X0_has
set_option maxRecDepth 20000 in
theorem ggX11_power_X11_denied : GoodIn wsX11_power wsX11_denied := goodIn_r _ [16, 17, 55, 56, 57, 58, 59, 60, 61, 62, 63, 64, 65, 66, 67, 68, 69, 70, 71, 72, 73] (by decide +kernel) (by decide +kernel)
set_option maxRecDepth 20000 in
theorem gX11_power_X11_denied : GoodIn wsX11_power (wsV RX11 108 RX11 yX11_denied wsX11_denied) := goodIn_app (goodIn_of _ (by decide +kernel)) ggX11_power_X11_denied
set_option maxRecDepth 20000 in
theorem ggX11_power_X0_countOf : GoodIn wsX11_power wsX0_countOf := goodIn_r _ [10, 11, 74, 75, 76, 77, 78, 79, 80, 81, 82, 83, 84, 85, 86, 87] (by decide +kernel) (by decide +kernel)
set_option maxRecDepth 20000 in
theorem gX11_power_X0_countOf : GoodIn wsX11_power (wsV RX11 167 RX0 yX0_countOf wsX0_countOf) := goodIn_app (goodIn_of _ (by decide +kernel)) ggX11_power_X0_countOf
set_option maxRecDepth 20000 in
theorem ggX11_power_X11_setOfAll : GoodIn wsX11_power wsX11_setOfAll := goodIn_r _ [21] (by decide +kernel) (by decide +kernel)
set_option maxRecDepth 20000 in
theorem gX11_power_X11_setOfAll : GoodIn wsX11_power (va_wsS RX11 207 yX11_setOfAll wsX11_setOfAll) := goodIn_app (goodIn_of _ (by decide +kernel)) ggX11_power_X11_setOfAll
set_option maxRecDepth 20000 in
theorem ggX11_power_X0_votesOf : GoodIn wsX11_power wsX0_votesOf := goodIn_r _ [25, 26, 7, 8, 9, 5, 10, 11, 27, 15, 28, 29, 30, 74, 75, 76, 77, 78, 79, 80, 81, 82, 83, 84, 85, 86, 87] (by decide +kernel) (by decide +kernel)
set_option maxRecDepth 20000 in
theorem gX11_power_X0_votesOf : GoodIn wsX11_power (wsV RX11 210 RX0 yX0_votesOf wsX0_votesOf) := goodIn_app (goodIn_of _ (by decide +kernel)) ggX11_power_X0_votesOf
set_option maxRecDepth 20000 in
theorem ggX11_power_X11_isIn : GoodIn wsX11_power wsX11_isIn := goodIn_r _ [28] (by decide +kernel) (by decide +kernel)
set_option maxRecDepth 20000 in
theorem gX11_power_X11_isIn : GoodIn wsX11_power (va_wsS RX11 336 yX11_isIn wsX11_isIn) := goodIn_app (goodIn_of _ (by decide +kernel)) ggX11_power_X11_isIn
set_option maxRecDepth 20000 in
theorem ggX11_power_J6_bitCount_0f7a4 : GoodIn wsX11_power wsJ6_bitCount_0f7a4 := goodIn_r _ [35, 36, 37, 38] (by decide +kernel) (by decide +kernel)
set_option maxRecDepth 20000 in
theorem gX11_power_J6_bitCount_0f7a4 : GoodIn wsX11_power (va_wsS RX11 270 yJ6_bitCount_0f7a4 wsJ6_bitCount_0f7a4) := goodIn_app (goodIn_of _ (by decide +kernel)) ggX11_power_J6_bitCount_0f7a4
set_option maxRecDepth 20000 in
theorem ggX11_power_X11_ordersOf : GoodIn wsX11_power wsX11_ordersOf := goodIn_r _ [41] (by decide +kernel) (by decide +kernel)
set_option maxRecDepth 20000 in
theorem gX11_power_X11_ordersOf : GoodIn wsX11_power (va_wsS RX11 371 yX11_ordersOf wsX11_ordersOf) := goodIn_app (goodIn_of _ (by decide +kernel)) ggX11_power_X11_ordersOf
set_option maxRecDepth 20000 in
theorem ggX11_power_X11_tellFraction : GoodIn wsX11_power wsX11_tellFraction := goodIn_r _ [45, 46, 47, 48, 49, 15, 50, 51, 52, 53, 54, 17, 55, 56, 57, 58, 59, 60, 61, 62, 63, 64, 65, 66, 67, 68, 69, 70, 71, 72, 73] (by decide +kernel) (by decide +kernel)
set_option maxRecDepth 20000 in
theorem gX11_power_X11_tellFraction : GoodIn wsX11_power (wsV RX11 341 RX11 yX11_tellFraction wsX11_tellFraction) := goodIn_app (goodIn_of _ (by decide +kernel)) ggX11_power_X11_tellFraction
theorem dX11_power_0 : decode cX11_power 0 = .ok (.aload_n 0, 1) := by decide +kernel
theorem dX11_power_1 : decode cX11_power 1 = .ok (.getfield 10, 3) := by decide +kernel
theorem dX11_power_4 : decode cX11_power 4 = .ok (.iconst 4, 1) := by decide +kernel
theorem dX11_power_5 : decode cX11_power 5 = .ok (.iload_n 1, 1) := by decide +kernel
theorem dX11_power_6 : decode cX11_power 6 = .ok (.invokevirtual 213, 3) := by decide +kernel
theorem dX11_power_9 : decode cX11_power 9 = .ok (.ifCond .ne 9, 3) := by decide +kernel
theorem dX11_power_12 : decode cX11_power 12 = .ok (.aload_n 0, 1) := by decide +kernel
theorem dX11_power_13 : decode cX11_power 13 = .ok (.iconst 1, 1) := by decide +kernel
theorem dX11_power_14 : decode cX11_power 14 = .ok (.invokevirtual 108, 3) := by decide +kernel
theorem dX11_power_17 : decode cX11_power 17 = .ok (.ireturn, 1) := by decide +kernel
theorem dX11_power_18 : decode cX11_power 18 = .ok (.aload_n 0, 1) := by decide +kernel
theorem dX11_power_19 : decode cX11_power 19 = .ok (.getfield 10, 3) := by decide +kernel
theorem dX11_power_22 : decode cX11_power 22 = .ok (.iconst 4, 1) := by decide +kernel
theorem dX11_power_23 : decode cX11_power 23 = .ok (.invokevirtual 167, 3) := by decide +kernel
theorem dX11_power_26 : decode cX11_power 26 = .ok (.istore_n 2, 1) := by decide +kernel
theorem dX11_power_27 : decode cX11_power 27 = .ok (.aload_n 0, 1) := by decide +kernel
theorem dX11_power_28 : decode cX11_power 28 = .ok (.getfield 10, 3) := by decide +kernel
theorem dX11_power_31 : decode cX11_power 31 = .ok (.iload_n 2, 1) := by decide +kernel
theorem dX11_power_32 : decode cX11_power 32 = .ok (.invokestatic 207, 3) := by decide +kernel
theorem dX11_power_35 : decode cX11_power 35 = .ok (.invokevirtual 210, 3) := by decide +kernel
theorem dX11_power_38 : decode cX11_power 38 = .ok (.istore_n 3, 1) := by decide +kernel
theorem dX11_power_39 : decode cX11_power 39 = .ok (.iconst 0, 1) := by decide +kernel
theorem dX11_power_40 : decode cX11_power 40 = .ok (.istore 4, 2) := by decide +kernel
theorem dX11_power_42 : decode cX11_power 42 = .ok (.iconst 0, 1) := by decide +kernel
theorem dX11_power_43 : decode cX11_power 43 = .ok (.istore 5, 2) := by decide +kernel
theorem dX11_power_45 : decode cX11_power 45 = .ok (.iload 5, 2) := by decide +kernel
theorem dX11_power_47 : decode cX11_power 47 = .ok (.iload_n 2, 1) := by decide +kernel
theorem dX11_power_48 : decode cX11_power 48 = .ok (.invokestatic 207, 3) := by decide +kernel
theorem dX11_power_51 : decode cX11_power 51 = .ok (.if_icmp .gt 91, 3) := by decide +kernel
theorem dX11_power_54 : decode cX11_power 54 = .ok (.iload 5, 2) := by decide +kernel
theorem dX11_power_56 : decode cX11_power 56 = .ok (.iload_n 1, 1) := by decide +kernel
theorem dX11_power_57 : decode cX11_power 57 = .ok (.invokestatic 336, 3) := by decide +kernel
theorem dX11_power_60 : decode cX11_power 60 = .ok (.ifCond .ne 41, 3) := by decide +kernel
theorem dX11_power_63 : decode cX11_power 63 = .ok (.iconst 2, 1) := by decide +kernel
theorem dX11_power_64 : decode cX11_power 64 = .ok (.aload_n 0, 1) := by decide +kernel
theorem dX11_power_65 : decode cX11_power 65 = .ok (.getfield 10, 3) := by decide +kernel
theorem dX11_power_68 : decode cX11_power 68 = .ok (.iload 5, 2) := by decide +kernel
theorem dX11_power_70 : decode cX11_power 70 = .ok (.invokevirtual 210, 3) := by decide +kernel
theorem dX11_power_73 : decode cX11_power 73 = .ok (.imul, 1) := by decide +kernel
theorem dX11_power_74 : decode cX11_power 74 = .ok (.iload_n 3, 1) := by decide +kernel
theorem dX11_power_75 : decode cX11_power 75 = .ok (.if_icmp .gt 26, 3) := by decide +kernel
theorem dX11_power_78 : decode cX11_power 78 = .ok (.iconst 2, 1) := by decide +kernel
theorem dX11_power_79 : decode cX11_power 79 = .ok (.aload_n 0, 1) := by decide +kernel
theorem dX11_power_80 : decode cX11_power 80 = .ok (.getfield 10, 3) := by decide +kernel
theorem dX11_power_83 : decode cX11_power 83 = .ok (.iload 5, 2) := by decide +kernel
theorem dX11_power_85 : decode cX11_power 85 = .ok (.iconst 1, 1) := by decide +kernel
theorem dX11_power_86 : decode cX11_power 86 = .ok (.iload_n 1, 1) := by decide +kernel
theorem dX11_power_87 : decode cX11_power 87 = .ok (.ishl, 1) := by decide +kernel
theorem dX11_power_88 : decode cX11_power 88 = .ok (.ior, 1) := by decide +kernel
theorem dX11_power_89 : decode cX11_power 89 = .ok (.invokevirtual 210, 3) := by decide +kernel
theorem dX11_power_92 : decode cX11_power 92 = .ok (.imul, 1) := by decide +kernel
theorem dX11_power_93 : decode cX11_power 93 = .ok (.iload_n 3, 1) := by decide +kernel
theorem dX11_power_94 : decode cX11_power 94 = .ok (.if_icmp .le 7, 3) := by decide +kernel
theorem dX11_power_97 : decode cX11_power 97 = .ok (.iconst 1, 1) := by decide +kernel
theorem dX11_power_98 : decode cX11_power 98 = .ok (.goto 4, 3) := by decide +kernel
theorem dX11_power_101 : decode cX11_power 101 = .ok (.iconst 0, 1) := by decide +kernel
theorem dX11_power_102 : decode cX11_power 102 = .ok (.istore 6, 2) := by decide +kernel
theorem dX11_power_104 : decode cX11_power 104 = .ok (.iload 6, 2) := by decide +kernel
theorem dX11_power_106 : decode cX11_power 106 = .ok (.ifCond .eq 30, 3) := by decide +kernel
theorem dX11_power_109 : decode cX11_power 109 = .ok (.iload 5, 2) := by decide +kernel
theorem dX11_power_111 : decode cX11_power 111 = .ok (.invokestatic 270, 3) := by decide +kernel
theorem dX11_power_114 : decode cX11_power 114 = .ok (.istore 7, 2) := by decide +kernel
theorem dX11_power_116 : decode cX11_power 116 = .ok (.iload 4, 2) := by decide +kernel
theorem dX11_power_118 : decode cX11_power 118 = .ok (.iload 7, 2) := by decide +kernel
theorem dX11_power_120 : decode cX11_power 120 = .ok (.invokestatic 371, 3) := by decide +kernel
theorem dX11_power_123 : decode cX11_power 123 = .ok (.iload_n 2, 1) := by decide +kernel
theorem dX11_power_124 : decode cX11_power 124 = .ok (.iconst 1, 1) := by decide +kernel
theorem dX11_power_125 : decode cX11_power 125 = .ok (.isub, 1) := by decide +kernel
theorem dX11_power_126 : decode cX11_power 126 = .ok (.iload 7, 2) := by decide +kernel
theorem dX11_power_128 : decode cX11_power 128 = .ok (.isub, 1) := by decide +kernel
theorem dX11_power_129 : decode cX11_power 129 = .ok (.invokestatic 371, 3) := by decide +kernel
theorem dX11_power_132 : decode cX11_power 132 = .ok (.imul, 1) := by decide +kernel
theorem dX11_power_133 : decode cX11_power 133 = .ok (.iadd, 1) := by decide +kernel
theorem dX11_power_134 : decode cX11_power 134 = .ok (.istore 4, 2) := by decide +kernel
theorem dX11_power_136 : decode cX11_power 136 = .ok (.iinc 5 1, 3) := by decide +kernel
theorem dX11_power_139 : decode cX11_power 139 = .ok (.goto (-94), 3) := by decide +kernel
theorem dX11_power_142 : decode cX11_power 142 = .ok (.aload_n 0, 1) := by decide +kernel
theorem dX11_power_143 : decode cX11_power 143 = .ok (.iload 4, 2) := by decide +kernel
theorem dX11_power_145 : decode cX11_power 145 = .ok (.i2l, 1) := by decide +kernel
theorem dX11_power_146 : decode cX11_power 146 = .ok (.iload_n 2, 1) := by decide +kernel
theorem dX11_power_147 : decode cX11_power 147 = .ok (.invokestatic 371, 3) := by decide +kernel
theorem dX11_power_150 : decode cX11_power 150 = .ok (.i2l, 1) := by decide +kernel
theorem dX11_power_151 : decode cX11_power 151 = .ok (.invokevirtual 341, 3) := by decide +kernel
theorem dX11_power_154 : decode cX11_power 154 = .ok (.ireturn, 1) := by decide +kernel
set_option maxRecDepth 20000 in
theorem ggX11_clash_X0_countOf : GoodIn wsX11_clash wsX0_countOf := goodIn_r _ [9, 10, 88, 89, 90, 91, 92, 93, 94, 95, 96, 97, 98, 99, 100, 101] (by decide +kernel) (by decide +kernel)
set_option maxRecDepth 20000 in
theorem gX11_clash_X0_countOf : GoodIn wsX11_clash (wsV RX11 167 RX0 yX0_countOf wsX0_countOf) := goodIn_app (goodIn_of _ (by decide +kernel)) ggX11_clash_X0_countOf
set_option maxRecDepth 20000 in
theorem ggX11_clash_X11_cell : GoodIn wsX11_clash wsX11_cell := goodIn_r _ [14] (by decide +kernel) (by decide +kernel)
set_option maxRecDepth 20000 in
theorem gX11_clash_X11_cell : GoodIn wsX11_clash (va_wsS RX11 254 yX11_cell wsX11_cell) := goodIn_app (goodIn_of _ (by decide +kernel)) ggX11_clash_X11_cell
set_option maxRecDepth 20000 in
theorem ggX11_clash_X0_senseBefore : GoodIn wsX11_clash wsX0_senseBefore := goodIn_r _ [18, 19, 20, 21, 8, 22, 23, 24, 25, 26, 27, 28, 29, 30, 31, 32, 33, 34, 35, 36, 37, 6, 7, 9, 10, 38, 39, 40, 41, 42, 43, 44, 45, 46, 47, 48, 49, 50, 51, 52, 53, 54, 55, 56, 57, 58, 59, 60, 61, 62, 63, 12, 13, 14, 102, 103, 104, 105, 106, 107, 108, 109, 110, 111, 112, 113, 114, 115, 88, 89, 90, 91, 92, 93, 94, 95, 96, 97, 98, 99, 100, 101] (by decide +kernel) (by decide +kernel)
set_option maxRecDepth 20000 in
theorem gX11_clash_X0_senseBefore : GoodIn wsX11_clash (wsV RX11 374 RX0 yX0_senseBefore wsX0_senseBefore) := goodIn_app (goodIn_of _ (by decide +kernel)) ggX11_clash_X0_senseBefore
set_option maxRecDepth 20000 in
theorem ggX11_clash_X11_given : GoodIn wsX11_clash wsX11_given := goodIn_r _ [67, 68, 69, 70, 71, 72, 73, 74, 75, 76, 77, 78, 79, 80, 81, 82, 83, 84, 85, 86, 87] (by decide +kernel) (by decide +kernel)
set_option maxRecDepth 20000 in
theorem gX11_clash_X11_given : GoodIn wsX11_clash (wsV RX11 191 RX11 yX11_given wsX11_given) := goodIn_app (goodIn_of _ (by decide +kernel)) ggX11_clash_X11_given
theorem dX11_clash_0 : decode cX11_clash 0 = .ok (.iconst 0, 1) := by decide +kernel
theorem dX11_clash_1 : decode cX11_clash 1 = .ok (.istore_n 1, 1) := by decide +kernel
theorem dX11_clash_2 : decode cX11_clash 2 = .ok (.iconst 0, 1) := by decide +kernel
theorem dX11_clash_3 : decode cX11_clash 3 = .ok (.istore_n 2, 1) := by decide +kernel
theorem dX11_clash_4 : decode cX11_clash 4 = .ok (.iload_n 2, 1) := by decide +kernel
theorem dX11_clash_5 : decode cX11_clash 5 = .ok (.aload_n 0, 1) := by decide +kernel
theorem dX11_clash_6 : decode cX11_clash 6 = .ok (.getfield 10, 3) := by decide +kernel
theorem dX11_clash_9 : decode cX11_clash 9 = .ok (.iconst 5, 1) := by decide +kernel
theorem dX11_clash_10 : decode cX11_clash 10 = .ok (.invokevirtual 167, 3) := by decide +kernel
theorem dX11_clash_13 : decode cX11_clash 13 = .ok (.if_icmp .ge 60, 3) := by decide +kernel
theorem dX11_clash_16 : decode cX11_clash 16 = .ok (.aload_n 0, 1) := by decide +kernel
theorem dX11_clash_17 : decode cX11_clash 17 = .ok (.getfield 10, 3) := by decide +kernel
theorem dX11_clash_20 : decode cX11_clash 20 = .ok (.aload_n 0, 1) := by decide +kernel
theorem dX11_clash_21 : decode cX11_clash 21 = .ok (.getfield 10, 3) := by decide +kernel
theorem dX11_clash_24 : decode cX11_clash 24 = .ok (.getfield 258, 3) := by decide +kernel
theorem dX11_clash_27 : decode cX11_clash 27 = .ok (.iload_n 2, 1) := by decide +kernel
theorem dX11_clash_28 : decode cX11_clash 28 = .ok (.invokestatic 254, 3) := by decide +kernel
theorem dX11_clash_31 : decode cX11_clash 31 = .ok (.aload_n 0, 1) := by decide +kernel
theorem dX11_clash_32 : decode cX11_clash 32 = .ok (.getfield 10, 3) := by decide +kernel
theorem dX11_clash_35 : decode cX11_clash 35 = .ok (.getfield 194, 3) := by decide +kernel
theorem dX11_clash_38 : decode cX11_clash 38 = .ok (.invokevirtual 374, 3) := by decide +kernel
theorem dX11_clash_41 : decode cX11_clash 41 = .ok (.istore_n 3, 1) := by decide +kernel
theorem dX11_clash_42 : decode cX11_clash 42 = .ok (.iload_n 3, 1) := by decide +kernel
theorem dX11_clash_43 : decode cX11_clash 43 = .ok (.ifCond .eq 24, 3) := by decide +kernel
theorem dX11_clash_46 : decode cX11_clash 46 = .ok (.iload_n 3, 1) := by decide +kernel
theorem dX11_clash_47 : decode cX11_clash 47 = .ok (.aload_n 0, 1) := by decide +kernel
theorem dX11_clash_48 : decode cX11_clash 48 = .ok (.getfield 10, 3) := by decide +kernel
theorem dX11_clash_51 : decode cX11_clash 51 = .ok (.getfield 261, 3) := by decide +kernel
theorem dX11_clash_54 : decode cX11_clash 54 = .ok (.iload_n 2, 1) := by decide +kernel
theorem dX11_clash_55 : decode cX11_clash 55 = .ok (.invokestatic 254, 3) := by decide +kernel
theorem dX11_clash_58 : decode cX11_clash 58 = .ok (.if_icmp .eq 9, 3) := by decide +kernel
theorem dX11_clash_61 : decode cX11_clash 61 = .ok (.iload_n 1, 1) := by decide +kernel
theorem dX11_clash_62 : decode cX11_clash 62 = .ok (.iconst 1, 1) := by decide +kernel
theorem dX11_clash_63 : decode cX11_clash 63 = .ok (.iload_n 2, 1) := by decide +kernel
theorem dX11_clash_64 : decode cX11_clash 64 = .ok (.ishl, 1) := by decide +kernel
theorem dX11_clash_65 : decode cX11_clash 65 = .ok (.ior, 1) := by decide +kernel
theorem dX11_clash_66 : decode cX11_clash 66 = .ok (.istore_n 1, 1) := by decide +kernel
theorem dX11_clash_67 : decode cX11_clash 67 = .ok (.iinc 2 1, 3) := by decide +kernel
theorem dX11_clash_70 : decode cX11_clash 70 = .ok (.goto (-66), 3) := by decide +kernel
theorem dX11_clash_73 : decode cX11_clash 73 = .ok (.aload_n 0, 1) := by decide +kernel
theorem dX11_clash_74 : decode cX11_clash 74 = .ok (.iload_n 1, 1) := by decide +kernel
theorem dX11_clash_75 : decode cX11_clash 75 = .ok (.invokevirtual 191, 3) := by decide +kernel
theorem dX11_clash_78 : decode cX11_clash 78 = .ok (.ireturn, 1) := by decide +kernel
set_option maxRecDepth 20000 in
theorem ggX11_struck_X11_wordsToStrike : GoodIn wsX11_struck wsX11_wordsToStrike := goodIn_r _ [5, 6, 7, 8, 9, 10, 11, 12, 13, 14, 15, 16, 17, 18, 19, 20, 21, 4, 22, 23, 24, 25, 26, 27, 28, 29, 30, 31, 32, 33, 34, 35, 36, 37, 38, 39, 40, 41, 42, 43, 44, 45, 46, 47, 48, 49, 50, 51, 52, 53, 54, 55, 56, 57, 58, 59, 60, 61, 62, 63, 64, 65, 66, 67, 68, 69, 70, 71, 72, 73, 74, 75, 76, 77, 78, 79, 80, 81, 82, 83, 84, 90, 91, 92, 93, 94, 95, 96, 97, 98, 99, 100, 101, 102, 103, 104, 105, 106, 107, 108, 109, 110, 111, 112, 113, 114, 115, 116, 117, 118, 119, 120, 121, 122, 123, 124, 125, 126, 127, 128, 129, 130, 131, 132, 133, 134, 135, 136] (by decide +kernel) (by decide +kernel)
set_option maxRecDepth 20000 in
theorem gX11_struck_X11_wordsToStrike : GoodIn wsX11_struck (wsV RX11 377 RX11 yX11_wordsToStrike wsX11_wordsToStrike) := goodIn_app (goodIn_of _ (by decide +kernel)) ggX11_struck_X11_wordsToStrike
set_option maxRecDepth 20000 in
theorem ggX11_struck_J6_bitCount_0f7a4 : GoodIn wsX11_struck wsJ6_bitCount_0f7a4 := goodIn_r _ [81, 82, 83, 84] (by decide +kernel) (by decide +kernel)
set_option maxRecDepth 20000 in
theorem gX11_struck_J6_bitCount_0f7a4 : GoodIn wsX11_struck (va_wsS RX11 270 yJ6_bitCount_0f7a4 wsJ6_bitCount_0f7a4) := goodIn_app (goodIn_of _ (by decide +kernel)) ggX11_struck_J6_bitCount_0f7a4
set_option maxRecDepth 20000 in
theorem ggX11_struck_X11_given : GoodIn wsX11_struck wsX11_given := goodIn_r _ [88, 89, 90, 91, 92, 93, 94, 95, 96, 97, 98, 99, 100, 101, 102, 103, 104, 105, 106, 107, 108] (by decide +kernel) (by decide +kernel)
set_option maxRecDepth 20000 in
theorem gX11_struck_X11_given : GoodIn wsX11_struck (wsV RX11 191 RX11 yX11_given wsX11_given) := goodIn_app (goodIn_of _ (by decide +kernel)) ggX11_struck_X11_given
theorem dX11_struck_0 : decode cX11_struck 0 = .ok (.aload_n 0, 1) := by decide +kernel
theorem dX11_struck_1 : decode cX11_struck 1 = .ok (.aload_n 0, 1) := by decide +kernel
theorem dX11_struck_2 : decode cX11_struck 2 = .ok (.invokevirtual 377, 3) := by decide +kernel
theorem dX11_struck_5 : decode cX11_struck 5 = .ok (.invokestatic 270, 3) := by decide +kernel
theorem dX11_struck_8 : decode cX11_struck 8 = .ok (.invokevirtual 191, 3) := by decide +kernel
theorem dX11_struck_11 : decode cX11_struck 11 = .ok (.ireturn, 1) := by decide +kernel
set_option maxRecDepth 20000 in
theorem ggX11_struckSet_X11_wordsToStrike : GoodIn wsX11_struckSet wsX11_wordsToStrike := goodIn_r _ [5, 6, 7, 8, 9, 10, 11, 12, 13, 14, 15, 16, 17, 18, 19, 20, 21, 4, 22, 23, 24, 25, 26, 27, 28, 29, 30, 31, 32, 33, 34, 35, 36, 37, 38, 39, 40, 41, 42, 43, 44, 45, 46, 47, 48, 49, 50, 51, 52, 53, 54, 55, 56, 57, 58, 59, 60, 61, 62, 63, 64, 65, 66, 67, 68, 69, 70, 71, 72, 73, 74, 75, 76, 77, 78, 79, 80, 81, 82, 83, 84, 90, 91, 92, 93, 94, 95, 96, 97, 98, 99, 100, 101, 102, 103, 104, 105, 106, 107, 108, 109, 110, 111, 112, 113, 114, 115, 116, 117, 118, 119, 120, 121, 122, 123, 124, 125, 126, 127, 128, 129, 130, 131, 132, 133, 134, 135, 136] (by decide +kernel) (by decide +kernel)
set_option maxRecDepth 20000 in
theorem gX11_struckSet_X11_wordsToStrike : GoodIn wsX11_struckSet (wsV RX11 377 RX11 yX11_wordsToStrike wsX11_wordsToStrike) := goodIn_app (goodIn_of _ (by decide +kernel)) ggX11_struckSet_X11_wordsToStrike
set_option maxRecDepth 20000 in
theorem ggX11_struckSet_X11_given : GoodIn wsX11_struckSet wsX11_given := goodIn_r _ [88, 89, 90, 91, 92, 93, 94, 95, 96, 97, 98, 99, 100, 101, 102, 103, 104, 105, 106, 107, 108] (by decide +kernel) (by decide +kernel)
set_option maxRecDepth 20000 in
theorem gX11_struckSet_X11_given : GoodIn wsX11_struckSet (wsV RX11 191 RX11 yX11_given wsX11_given) := goodIn_app (goodIn_of _ (by decide +kernel)) ggX11_struckSet_X11_given
theorem dX11_struckSet_0 : decode cX11_struckSet 0 = .ok (.aload_n 0, 1) := by decide +kernel
theorem dX11_struckSet_1 : decode cX11_struckSet 1 = .ok (.aload_n 0, 1) := by decide +kernel
theorem dX11_struckSet_2 : decode cX11_struckSet 2 = .ok (.invokevirtual 377, 3) := by decide +kernel
theorem dX11_struckSet_5 : decode cX11_struckSet 5 = .ok (.invokevirtual 191, 3) := by decide +kernel
theorem dX11_struckSet_8 : decode cX11_struckSet 8 = .ok (.ireturn, 1) := by decide +kernel
set_option maxRecDepth 20000 in
theorem ggX11_best_X3_settle : GoodIn wsX11_best wsX3_settle := goodIn_r _ [7, 8, 9, 10, 11, 12, 13, 14, 15, 16, 17, 18, 19, 20, 21, 22, 23, 24, 25, 26, 27, 28, 29, 30, 31, 32, 33, 34, 35, 36, 37, 6, 38, 39, 40, 41, 42, 43, 44, 45, 46, 47, 48, 49, 50, 51, 52, 53, 54, 55, 56, 57, 58, 59, 60, 61, 62, 63, 64, 65, 66, 67, 68, 69, 70, 71, 72, 73, 74, 75, 76, 77, 78, 79, 80, 81, 82, 83, 84, 85, 86, 87, 88, 89, 90, 91, 92, 93, 94, 95, 96, 97, 98, 99, 100, 101, 102, 103, 104, 133, 134, 135, 136, 137, 138, 139, 140, 141, 142, 143, 144, 145, 146, 147, 148, 149, 150, 151, 152, 153, 154, 155, 156, 157, 158, 159, 160, 161, 162, 163] (by decide +kernel) (by decide +kernel)
set_option maxRecDepth 20000 in
theorem gX11_best_X3_settle : GoodIn wsX11_best (wsV RX11 380 RX3 yX3_settle wsX3_settle) := goodIn_app (goodIn_of _ (by decide +kernel)) ggX11_best_X3_settle
set_option maxRecDepth 20000 in
theorem ggX11_best_X3_mostFree : GoodIn wsX11_best wsX3_mostFree := goodIn_r _ [108, 9, 97, 45, 98, 133, 134, 135] (by decide +kernel) (by decide +kernel)
set_option maxRecDepth 20000 in
theorem gX11_best_X3_mostFree : GoodIn wsX11_best (wsV RX11 383 RX3 yX3_mostFree wsX3_mostFree) := goodIn_app (goodIn_of _ (by decide +kernel)) ggX11_best_X3_mostFree
set_option maxRecDepth 20000 in
theorem ggX11_best_X11_given : GoodIn wsX11_best wsX11_given := goodIn_r _ [112, 113, 114, 115, 116, 117, 118, 119, 120, 121, 122, 123, 124, 125, 126, 127, 128, 129, 130, 131, 132] (by decide +kernel) (by decide +kernel)
set_option maxRecDepth 20000 in
theorem gX11_best_X11_given : GoodIn wsX11_best (wsV RX11 191 RX11 yX11_given wsX11_given) := goodIn_app (goodIn_of _ (by decide +kernel)) ggX11_best_X11_given
theorem dX11_best_0 : decode cX11_best 0 = .ok (.aload_n 0, 1) := by decide +kernel
theorem dX11_best_1 : decode cX11_best 1 = .ok (.getfield 64, 3) := by decide +kernel
theorem dX11_best_4 : decode cX11_best 4 = .ok (.aload_n 0, 1) := by decide +kernel
theorem dX11_best_5 : decode cX11_best 5 = .ok (.getfield 10, 3) := by decide +kernel
theorem dX11_best_8 : decode cX11_best 8 = .ok (.invokevirtual 380, 3) := by decide +kernel
theorem dX11_best_11 : decode cX11_best 11 = .ok (.aload_n 0, 1) := by decide +kernel
theorem dX11_best_12 : decode cX11_best 12 = .ok (.aload_n 0, 1) := by decide +kernel
theorem dX11_best_13 : decode cX11_best 13 = .ok (.getfield 64, 3) := by decide +kernel
theorem dX11_best_16 : decode cX11_best 16 = .ok (.invokevirtual 383, 3) := by decide +kernel
theorem dX11_best_19 : decode cX11_best 19 = .ok (.invokevirtual 191, 3) := by decide +kernel
theorem dX11_best_22 : decode cX11_best 22 = .ok (.ireturn, 1) := by decide +kernel
set_option maxRecDepth 20000 in
theorem ggX11_bestAt_X11_refused : GoodIn wsX11_bestAt wsX11_refused := goodIn_r _ [9, 10, 120, 121, 122, 123, 124, 125, 126, 127, 128, 129, 130, 131, 132, 133, 134, 135, 136, 137, 138] (by decide +kernel) (by decide +kernel)
set_option maxRecDepth 20000 in
theorem gX11_bestAt_X11_refused : GoodIn wsX11_bestAt (wsV RX11 132 RX11 yX11_refused wsX11_refused) := goodIn_app (goodIn_of _ (by decide +kernel)) ggX11_bestAt_X11_refused
set_option maxRecDepth 20000 in
theorem ggX11_bestAt_X3_settle : GoodIn wsX11_bestAt wsX3_settle := goodIn_r _ [15, 16, 17, 18, 19, 20, 21, 22, 23, 24, 25, 26, 27, 28, 29, 30, 31, 32, 33, 34, 35, 36, 37, 38, 39, 40, 41, 42, 43, 44, 45, 14, 46, 47, 48, 49, 50, 51, 52, 8, 53, 54, 55, 56, 57, 58, 59, 60, 61, 62, 63, 64, 65, 66, 67, 68, 69, 70, 71, 72, 73, 74, 75, 76, 77, 78, 79, 80, 81, 82, 83, 84, 85, 86, 87, 88, 89, 90, 91, 92, 93, 94, 95, 96, 97, 98, 99, 100, 101, 102, 103, 104, 105, 106, 107, 108, 109, 110, 111, 139, 140, 141, 142, 143, 144, 145, 146, 147, 148, 149, 150, 151, 152, 153, 154, 155, 156, 157, 158, 159, 160, 161, 162, 163, 164, 165, 166, 167, 168, 169] (by decide +kernel) (by decide +kernel)
set_option maxRecDepth 20000 in
theorem gX11_bestAt_X3_settle : GoodIn wsX11_bestAt (wsV RX11 380 RX3 yX3_settle wsX3_settle) := goodIn_app (goodIn_of _ (by decide +kernel)) ggX11_bestAt_X3_settle
set_option maxRecDepth 20000 in
theorem ggX11_bestAt_X11_within : GoodIn wsX11_bestAt wsX11_within := goodIn_r _ [114] (by decide +kernel) (by decide +kernel)
set_option maxRecDepth 20000 in
theorem gX11_bestAt_X11_within : GoodIn wsX11_bestAt (va_wsS RX11 104 yX11_within wsX11_within) := goodIn_app (goodIn_of _ (by decide +kernel)) ggX11_bestAt_X11_within
set_option maxRecDepth 20000 in
theorem ggX11_bestAt_X11_cell : GoodIn wsX11_bestAt wsX11_cell := goodIn_r _ [105] (by decide +kernel) (by decide +kernel)
set_option maxRecDepth 20000 in
theorem gX11_bestAt_X11_cell : GoodIn wsX11_bestAt (va_wsS RX11 254 yX11_cell wsX11_cell) := goodIn_app (goodIn_of _ (by decide +kernel)) ggX11_bestAt_X11_cell
set_option maxRecDepth 20000 in
theorem ggX11_bestAt_X11_given : GoodIn wsX11_bestAt wsX11_given := goodIn_r _ [119, 10, 120, 121, 122, 123, 124, 125, 126, 127, 128, 129, 130, 131, 132, 133, 134, 135, 136, 137, 138] (by decide +kernel) (by decide +kernel)
set_option maxRecDepth 20000 in
theorem gX11_bestAt_X11_given : GoodIn wsX11_bestAt (wsV RX11 191 RX11 yX11_given wsX11_given) := goodIn_app (goodIn_of _ (by decide +kernel)) ggX11_bestAt_X11_given
theorem dX11_bestAt_0 : decode cX11_bestAt 0 = .ok (.iload_n 1, 1) := by decide +kernel
theorem dX11_bestAt_1 : decode cX11_bestAt 1 = .ok (.ifCond .ge 9, 3) := by decide +kernel
theorem dX11_bestAt_4 : decode cX11_bestAt 4 = .ok (.aload_n 0, 1) := by decide +kernel
theorem dX11_bestAt_5 : decode cX11_bestAt 5 = .ok (.iconst 1, 1) := by decide +kernel
theorem dX11_bestAt_6 : decode cX11_bestAt 6 = .ok (.invokevirtual 132, 3) := by decide +kernel
theorem dX11_bestAt_9 : decode cX11_bestAt 9 = .ok (.ireturn, 1) := by decide +kernel
theorem dX11_bestAt_10 : decode cX11_bestAt 10 = .ok (.aload_n 0, 1) := by decide +kernel
theorem dX11_bestAt_11 : decode cX11_bestAt 11 = .ok (.getfield 64, 3) := by decide +kernel
theorem dX11_bestAt_14 : decode cX11_bestAt 14 = .ok (.aload_n 0, 1) := by decide +kernel
theorem dX11_bestAt_15 : decode cX11_bestAt 15 = .ok (.getfield 10, 3) := by decide +kernel
theorem dX11_bestAt_18 : decode cX11_bestAt 18 = .ok (.invokevirtual 380, 3) := by decide +kernel
theorem dX11_bestAt_21 : decode cX11_bestAt 21 = .ok (.iload_n 1, 1) := by decide +kernel
theorem dX11_bestAt_22 : decode cX11_bestAt 22 = .ok (.aload_n 0, 1) := by decide +kernel
theorem dX11_bestAt_23 : decode cX11_bestAt 23 = .ok (.getfield 64, 3) := by decide +kernel
theorem dX11_bestAt_26 : decode cX11_bestAt 26 = .ok (.getfield 386, 3) := by decide +kernel
theorem dX11_bestAt_29 : decode cX11_bestAt 29 = .ok (.invokestatic 104, 3) := by decide +kernel
theorem dX11_bestAt_32 : decode cX11_bestAt 32 = .ok (.ifCond .eq 21, 3) := by decide +kernel
theorem dX11_bestAt_35 : decode cX11_bestAt 35 = .ok (.aload_n 0, 1) := by decide +kernel
theorem dX11_bestAt_36 : decode cX11_bestAt 36 = .ok (.aload_n 0, 1) := by decide +kernel
theorem dX11_bestAt_37 : decode cX11_bestAt 37 = .ok (.getfield 64, 3) := by decide +kernel
theorem dX11_bestAt_40 : decode cX11_bestAt 40 = .ok (.getfield 387, 3) := by decide +kernel
theorem dX11_bestAt_43 : decode cX11_bestAt 43 = .ok (.iload_n 1, 1) := by decide +kernel
theorem dX11_bestAt_44 : decode cX11_bestAt 44 = .ok (.invokestatic 254, 3) := by decide +kernel
theorem dX11_bestAt_47 : decode cX11_bestAt 47 = .ok (.invokevirtual 191, 3) := by decide +kernel
theorem dX11_bestAt_50 : decode cX11_bestAt 50 = .ok (.goto 9, 3) := by decide +kernel
theorem dX11_bestAt_53 : decode cX11_bestAt 53 = .ok (.aload_n 0, 1) := by decide +kernel
theorem dX11_bestAt_54 : decode cX11_bestAt 54 = .ok (.bipush 6, 2) := by decide +kernel
theorem dX11_bestAt_56 : decode cX11_bestAt 56 = .ok (.invokevirtual 132, 3) := by decide +kernel
theorem dX11_bestAt_59 : decode cX11_bestAt 59 = .ok (.ireturn, 1) := by decide +kernel
set_option maxRecDepth 20000 in
theorem ggX11_game_X11_within : GoodIn wsX11_game wsX11_within := goodIn_r _ [7] (by decide +kernel) (by decide +kernel)
set_option maxRecDepth 20000 in
theorem gX11_game_X11_within : GoodIn wsX11_game (va_wsS RX11 104 yX11_within wsX11_within) := goodIn_app (goodIn_of _ (by decide +kernel)) ggX11_game_X11_within
set_option maxRecDepth 20000 in
theorem ggX11_game_X11_refused : GoodIn wsX11_game wsX11_refused := goodIn_r _ [11, 12, 144, 145, 146, 147, 148, 149, 150, 151, 152, 153, 154, 155, 156, 157, 158, 159, 160, 161, 162] (by decide +kernel) (by decide +kernel)
set_option maxRecDepth 20000 in
theorem gX11_game_X11_refused : GoodIn wsX11_game (wsV RX11 132 RX11 yX11_refused wsX11_refused) := goodIn_app (goodIn_of _ (by decide +kernel)) ggX11_game_X11_refused
set_option maxRecDepth 20000 in
theorem ggX11_game_X0_copyFrom : GoodIn wsX11_game wsX0_copyFrom := goodIn_r _ [17, 18, 19, 20, 21, 22, 23, 24, 25, 26, 27, 28, 6, 29, 30, 31, 32, 16, 33, 34, 35, 36, 37, 38, 39, 40, 41, 42, 43, 44, 45, 46, 47, 48, 49, 50, 51, 52, 53, 54, 55, 56, 57, 58, 59, 60, 61, 62, 63, 64, 65, 66, 67, 68, 69, 70, 71, 72, 73, 74, 75, 76, 77, 163, 164, 165, 166, 167, 168, 169, 170, 171, 172, 173, 174, 175, 176, 177, 178, 179, 180, 181, 182, 183, 184, 185, 186, 187, 188, 189, 190, 191, 192, 193] (by decide +kernel) (by decide +kernel)
set_option maxRecDepth 20000 in
theorem gX11_game_X0_copyFrom : GoodIn wsX11_game (wsV RX11 324 RX0 yX0_copyFrom wsX0_copyFrom) := goodIn_app (goodIn_of _ (by decide +kernel)) ggX11_game_X0_copyFrom
set_option maxRecDepth 20000 in
theorem ggX11_game_X1_begin : GoodIn wsX11_game wsX1_begin := goodIn_r _ [82, 83, 84, 85, 31, 32, 16, 33, 18, 86, 87, 81, 88, 89, 90, 91, 92, 93, 30, 94, 95, 96, 97, 98, 99, 100, 101, 102, 103, 104, 105, 54, 55, 56, 57, 58, 59, 106, 107, 108, 109, 34, 35, 36, 37, 38, 39, 110, 111, 112, 43, 113, 46, 49, 50, 52, 53, 47, 114, 115, 116, 117, 20, 118, 119, 6, 120, 121, 122, 123, 124, 125, 126, 127, 128, 129, 130, 131, 132, 133, 134, 135, 136, 137, 138, 139, 194, 195, 163, 164, 165, 166, 167, 168, 169, 170, 171, 172, 173, 174, 175, 176, 186, 187, 188, 189, 190, 177, 178, 179, 180, 181, 182, 183, 184, 185] (by decide +kernel) (by decide +kernel)
set_option maxRecDepth 20000 in
theorem gX11_game_X1_begin : GoodIn wsX11_game (wsV RX11 390 RX1 yX1_begin wsX1_begin) := goodIn_app (goodIn_of _ (by decide +kernel)) ggX11_game_X1_begin
set_option maxRecDepth 20000 in
theorem ggX11_game_X11_given : GoodIn wsX11_game wsX11_given := goodIn_r _ [143, 12, 144, 145, 146, 147, 148, 149, 150, 151, 152, 153, 154, 155, 156, 157, 158, 159, 160, 161, 162] (by decide +kernel) (by decide +kernel)
set_option maxRecDepth 20000 in
theorem gX11_game_X11_given : GoodIn wsX11_game (wsV RX11 191 RX11 yX11_given wsX11_given) := goodIn_app (goodIn_of _ (by decide +kernel)) ggX11_game_X11_given
theorem dX11_game_0 : decode cX11_game 0 = .ok (.iload_n 1, 1) := by decide +kernel
theorem dX11_game_1 : decode cX11_game 1 = .ok (.iconst 4, 1) := by decide +kernel
theorem dX11_game_2 : decode cX11_game 2 = .ok (.invokestatic 104, 3) := by decide +kernel
theorem dX11_game_5 : decode cX11_game 5 = .ok (.ifCond .ne 9, 3) := by decide +kernel
theorem dX11_game_8 : decode cX11_game 8 = .ok (.aload_n 0, 1) := by decide +kernel
theorem dX11_game_9 : decode cX11_game 9 = .ok (.iconst 1, 1) := by decide +kernel
theorem dX11_game_10 : decode cX11_game 10 = .ok (.invokevirtual 132, 3) := by decide +kernel
theorem dX11_game_13 : decode cX11_game 13 = .ok (.ireturn, 1) := by decide +kernel
theorem dX11_game_14 : decode cX11_game 14 = .ok (.aload_n 0, 1) := by decide +kernel
theorem dX11_game_15 : decode cX11_game 15 = .ok (.getfield 16, 3) := by decide +kernel
theorem dX11_game_18 : decode cX11_game 18 = .ok (.aload_n 0, 1) := by decide +kernel
theorem dX11_game_19 : decode cX11_game 19 = .ok (.getfield 10, 3) := by decide +kernel
theorem dX11_game_22 : decode cX11_game 22 = .ok (.invokevirtual 324, 3) := by decide +kernel
theorem dX11_game_25 : decode cX11_game 25 = .ok (.aload_n 0, 1) := by decide +kernel
theorem dX11_game_26 : decode cX11_game 26 = .ok (.aload_n 0, 1) := by decide +kernel
theorem dX11_game_27 : decode cX11_game 27 = .ok (.getfield 71, 3) := by decide +kernel
theorem dX11_game_30 : decode cX11_game 30 = .ok (.aload_n 0, 1) := by decide +kernel
theorem dX11_game_31 : decode cX11_game 31 = .ok (.getfield 16, 3) := by decide +kernel
theorem dX11_game_34 : decode cX11_game 34 = .ok (.iload_n 1, 1) := by decide +kernel
theorem dX11_game_35 : decode cX11_game 35 = .ok (.invokevirtual 390, 3) := by decide +kernel
theorem dX11_game_38 : decode cX11_game 38 = .ok (.invokevirtual 191, 3) := by decide +kernel
theorem dX11_game_41 : decode cX11_game 41 = .ok (.ireturn, 1) := by decide +kernel
set_option maxRecDepth 20000 in
theorem ggX11_moveOf_X11_within : GoodIn wsX11_moveOf wsX11_within := goodIn_r _ [8] (by decide +kernel) (by decide +kernel)
set_option maxRecDepth 20000 in
theorem gX11_moveOf_X11_within : GoodIn wsX11_moveOf (va_wsS RX11 104 yX11_within wsX11_within) := goodIn_app (goodIn_of _ (by decide +kernel)) ggX11_moveOf_X11_within
set_option maxRecDepth 20000 in
theorem ggX11_moveOf_X11_refused : GoodIn wsX11_moveOf wsX11_refused := goodIn_r _ [12, 13, 145, 146, 147, 148, 149, 150, 151, 152, 153, 154, 155, 156, 157, 158, 159, 160, 161, 162, 163] (by decide +kernel) (by decide +kernel)
set_option maxRecDepth 20000 in
theorem gX11_moveOf_X11_refused : GoodIn wsX11_moveOf (wsV RX11 132 RX11 yX11_refused wsX11_refused) := goodIn_app (goodIn_of _ (by decide +kernel)) ggX11_moveOf_X11_refused
set_option maxRecDepth 20000 in
theorem ggX11_moveOf_X0_copyFrom : GoodIn wsX11_moveOf wsX0_copyFrom := goodIn_r _ [18, 19, 20, 21, 22, 23, 24, 25, 26, 27, 28, 29, 7, 30, 31, 32, 33, 17, 34, 35, 36, 37, 38, 39, 40, 41, 42, 43, 44, 45, 46, 47, 48, 49, 50, 51, 52, 53, 54, 55, 56, 57, 58, 59, 60, 61, 62, 63, 64, 65, 66, 67, 68, 69, 70, 71, 72, 73, 74, 75, 76, 77, 78, 166, 167, 168, 169, 170, 171, 172, 173, 174, 175, 176, 177, 178, 179, 180, 181, 182, 183, 184, 185, 186, 187, 188, 189, 190, 191, 192, 193, 194, 195, 196] (by decide +kernel) (by decide +kernel)
set_option maxRecDepth 20000 in
theorem gX11_moveOf_X0_copyFrom : GoodIn wsX11_moveOf (wsV RX11 324 RX0 yX0_copyFrom wsX0_copyFrom) := goodIn_app (goodIn_of _ (by decide +kernel)) ggX11_moveOf_X0_copyFrom
set_option maxRecDepth 20000 in
theorem ggX11_moveOf_X1_begin : GoodIn wsX11_moveOf wsX1_begin := goodIn_r _ [83, 84, 85, 86, 32, 33, 17, 34, 19, 87, 88, 82, 89, 90, 91, 92, 93, 94, 31, 95, 96, 97, 98, 99, 100, 101, 102, 103, 104, 105, 106, 55, 56, 57, 58, 59, 60, 107, 108, 109, 110, 35, 36, 37, 38, 39, 40, 111, 112, 113, 44, 114, 47, 50, 51, 53, 54, 48, 115, 116, 117, 118, 21, 119, 120, 7, 121, 122, 123, 124, 125, 126, 127, 128, 129, 130, 131, 132, 133, 134, 135, 136, 137, 138, 139, 140, 164, 165, 166, 167, 168, 169, 170, 171, 172, 173, 174, 175, 176, 177, 178, 179, 189, 190, 191, 192, 193, 180, 181, 182, 183, 184, 185, 186, 187, 188] (by decide +kernel) (by decide +kernel)
set_option maxRecDepth 20000 in
theorem gX11_moveOf_X1_begin : GoodIn wsX11_moveOf (wsV RX11 390 RX1 yX1_begin wsX1_begin) := goodIn_app (goodIn_of _ (by decide +kernel)) ggX11_moveOf_X1_begin
set_option maxRecDepth 20000 in
theorem ggX11_moveOf_X11_given : GoodIn wsX11_moveOf wsX11_given := goodIn_r _ [144, 13, 145, 146, 147, 148, 149, 150, 151, 152, 153, 154, 155, 156, 157, 158, 159, 160, 161, 162, 163] (by decide +kernel) (by decide +kernel)
set_option maxRecDepth 20000 in
theorem gX11_moveOf_X11_given : GoodIn wsX11_moveOf (wsV RX11 191 RX11 yX11_given wsX11_given) := goodIn_app (goodIn_of _ (by decide +kernel)) ggX11_moveOf_X11_given
theorem dX11_moveOf_0 : decode cX11_moveOf 0 = .ok (.iload_n 1, 1) := by decide +kernel
theorem dX11_moveOf_1 : decode cX11_moveOf 1 = .ok (.iconst 1, 1) := by decide +kernel
theorem dX11_moveOf_2 : decode cX11_moveOf 2 = .ok (.if_icmp .lt 16, 3) := by decide +kernel
theorem dX11_moveOf_5 : decode cX11_moveOf 5 = .ok (.iload_n 1, 1) := by decide +kernel
theorem dX11_moveOf_6 : decode cX11_moveOf 6 = .ok (.iconst 3, 1) := by decide +kernel
theorem dX11_moveOf_7 : decode cX11_moveOf 7 = .ok (.if_icmp .gt 11, 3) := by decide +kernel
theorem dX11_moveOf_10 : decode cX11_moveOf 10 = .ok (.iload_n 2, 1) := by decide +kernel
theorem dX11_moveOf_11 : decode cX11_moveOf 11 = .ok (.iconst 2, 1) := by decide +kernel
theorem dX11_moveOf_12 : decode cX11_moveOf 12 = .ok (.invokestatic 104, 3) := by decide +kernel
theorem dX11_moveOf_15 : decode cX11_moveOf 15 = .ok (.ifCond .ne 9, 3) := by decide +kernel
theorem dX11_moveOf_18 : decode cX11_moveOf 18 = .ok (.aload_n 0, 1) := by decide +kernel
theorem dX11_moveOf_19 : decode cX11_moveOf 19 = .ok (.iconst 1, 1) := by decide +kernel
theorem dX11_moveOf_20 : decode cX11_moveOf 20 = .ok (.invokevirtual 132, 3) := by decide +kernel
theorem dX11_moveOf_23 : decode cX11_moveOf 23 = .ok (.ireturn, 1) := by decide +kernel
theorem dX11_moveOf_24 : decode cX11_moveOf 24 = .ok (.aload_n 0, 1) := by decide +kernel
theorem dX11_moveOf_25 : decode cX11_moveOf 25 = .ok (.getfield 16, 3) := by decide +kernel
theorem dX11_moveOf_28 : decode cX11_moveOf 28 = .ok (.aload_n 0, 1) := by decide +kernel
theorem dX11_moveOf_29 : decode cX11_moveOf 29 = .ok (.getfield 10, 3) := by decide +kernel
theorem dX11_moveOf_32 : decode cX11_moveOf 32 = .ok (.invokevirtual 324, 3) := by decide +kernel
theorem dX11_moveOf_35 : decode cX11_moveOf 35 = .ok (.aload_n 0, 1) := by decide +kernel
theorem dX11_moveOf_36 : decode cX11_moveOf 36 = .ok (.getfield 71, 3) := by decide +kernel
theorem dX11_moveOf_39 : decode cX11_moveOf 39 = .ok (.aload_n 0, 1) := by decide +kernel
theorem dX11_moveOf_40 : decode cX11_moveOf 40 = .ok (.getfield 16, 3) := by decide +kernel
theorem dX11_moveOf_43 : decode cX11_moveOf 43 = .ok (.iload_n 1, 1) := by decide +kernel
theorem dX11_moveOf_44 : decode cX11_moveOf 44 = .ok (.invokevirtual 390, 3) := by decide +kernel
theorem dX11_moveOf_47 : decode cX11_moveOf 47 = .ok (.pop, 1) := by decide +kernel
theorem dX11_moveOf_48 : decode cX11_moveOf 48 = .ok (.aload_n 0, 1) := by decide +kernel
theorem dX11_moveOf_49 : decode cX11_moveOf 49 = .ok (.getfield 71, 3) := by decide +kernel
theorem dX11_moveOf_52 : decode cX11_moveOf 52 = .ok (.getfield 394, 3) := by decide +kernel
theorem dX11_moveOf_55 : decode cX11_moveOf 55 = .ok (.bipush 36, 2) := by decide +kernel
theorem dX11_moveOf_57 : decode cX11_moveOf 57 = .ok (.if_icmp .lt 10, 3) := by decide +kernel
theorem dX11_moveOf_60 : decode cX11_moveOf 60 = .ok (.aload_n 0, 1) := by decide +kernel
theorem dX11_moveOf_61 : decode cX11_moveOf 61 = .ok (.bipush 6, 2) := by decide +kernel
theorem dX11_moveOf_63 : decode cX11_moveOf 63 = .ok (.invokevirtual 132, 3) := by decide +kernel
theorem dX11_moveOf_66 : decode cX11_moveOf 66 = .ok (.ireturn, 1) := by decide +kernel
theorem dX11_moveOf_67 : decode cX11_moveOf 67 = .ok (.aload_n 0, 1) := by decide +kernel
theorem dX11_moveOf_68 : decode cX11_moveOf 68 = .ok (.iload_n 2, 1) := by decide +kernel
theorem dX11_moveOf_69 : decode cX11_moveOf 69 = .ok (.ifCond .ne 16, 3) := by decide +kernel
theorem dX11_moveOf_72 : decode cX11_moveOf 72 = .ok (.aload_n 0, 1) := by decide +kernel
theorem dX11_moveOf_73 : decode cX11_moveOf 73 = .ok (.getfield 71, 3) := by decide +kernel
theorem dX11_moveOf_76 : decode cX11_moveOf 76 = .ok (.getfield 394, 3) := by decide +kernel
theorem dX11_moveOf_79 : decode cX11_moveOf 79 = .ok (.bipush 6, 2) := by decide +kernel
theorem dX11_moveOf_81 : decode cX11_moveOf 81 = .ok (.idiv, 1) := by decide +kernel
theorem dX11_moveOf_82 : decode cX11_moveOf 82 = .ok (.goto 13, 3) := by decide +kernel
theorem dX11_moveOf_85 : decode cX11_moveOf 85 = .ok (.aload_n 0, 1) := by decide +kernel
theorem dX11_moveOf_86 : decode cX11_moveOf 86 = .ok (.getfield 71, 3) := by decide +kernel
theorem dX11_moveOf_89 : decode cX11_moveOf 89 = .ok (.getfield 394, 3) := by decide +kernel
theorem dX11_moveOf_92 : decode cX11_moveOf 92 = .ok (.bipush 6, 2) := by decide +kernel
theorem dX11_moveOf_94 : decode cX11_moveOf 94 = .ok (.irem, 1) := by decide +kernel
theorem dX11_moveOf_95 : decode cX11_moveOf 95 = .ok (.invokevirtual 191, 3) := by decide +kernel
theorem dX11_moveOf_98 : decode cX11_moveOf 98 = .ok (.ireturn, 1) := by decide +kernel
set_option maxRecDepth 20000 in
theorem ggX11_copyFed_X11_within : GoodIn wsX11_copyFed wsX11_within := goodIn_r _ [6] (by decide +kernel) (by decide +kernel)
set_option maxRecDepth 20000 in
theorem gX11_copyFed_X11_within : GoodIn wsX11_copyFed (va_wsS RX11 104 yX11_within wsX11_within) := goodIn_app (goodIn_of _ (by decide +kernel)) ggX11_copyFed_X11_within
set_option maxRecDepth 20000 in
theorem ggX11_copyFed_X11_refused : GoodIn wsX11_copyFed wsX11_refused := goodIn_r _ [10, 11, 54, 55, 56, 57, 58, 59, 60, 61, 62, 63, 64, 65, 66, 67, 68, 69, 70, 71, 72] (by decide +kernel) (by decide +kernel)
set_option maxRecDepth 20000 in
theorem gX11_copyFed_X11_refused : GoodIn wsX11_copyFed (wsV RX11 132 RX11 yX11_refused wsX11_refused) := goodIn_app (goodIn_of _ (by decide +kernel)) ggX11_copyFed_X11_refused
set_option maxRecDepth 20000 in
theorem ggX11_copyFed_X11_trayAt : GoodIn wsX11_copyFed wsX11_trayAt := goodIn_r _ [15, 16, 17, 3, 4, 5, 6, 54, 55, 56, 57, 58, 59, 60, 61, 62, 63, 64, 65, 66, 67, 68, 69, 70, 71, 72] (by decide +kernel) (by decide +kernel)
set_option maxRecDepth 20000 in
theorem gX11_copyFed_X11_trayAt : GoodIn wsX11_copyFed (wsV RX11 112 RX11 yX11_trayAt wsX11_trayAt) := goodIn_app (goodIn_of _ (by decide +kernel)) ggX11_copyFed_X11_trayAt
set_option maxRecDepth 20000 in
theorem ggX11_copyFed_X8_isMissing : GoodIn wsX11_copyFed wsX8_isMissing := goodIn_r _ [22, 23, 78, 79, 80] (by decide +kernel) (by decide +kernel)
set_option maxRecDepth 20000 in
theorem gX11_copyFed_X8_isMissing : GoodIn wsX11_copyFed (wsV RX11 140 RX8 yX8_isMissing wsX8_isMissing) := goodIn_app (goodIn_of _ (by decide +kernel)) ggX11_copyFed_X8_isMissing
set_option maxRecDepth 20000 in
theorem ggX11_copyFed_X0_countOf : GoodIn wsX11_copyFed wsX0_countOf := goodIn_r _ [28, 29, 81, 82, 83, 84, 85, 86, 87, 88, 89, 90, 91, 92, 93, 94] (by decide +kernel) (by decide +kernel)
set_option maxRecDepth 20000 in
theorem gX11_copyFed_X0_countOf : GoodIn wsX11_copyFed (wsV RX11 167 RX0 yX0_countOf wsX0_countOf) := goodIn_app (goodIn_of _ (by decide +kernel)) ggX11_copyFed_X0_countOf
set_option maxRecDepth 20000 in
theorem ggX11_copyFed_X8_hasRun : GoodIn wsX11_copyFed wsX8_hasRun := goodIn_r _ [33, 34, 78, 79, 80] (by decide +kernel) (by decide +kernel)
set_option maxRecDepth 20000 in
theorem gX11_copyFed_X8_hasRun : GoodIn wsX11_copyFed (wsV RX11 146 RX8 yX8_hasRun wsX8_hasRun) := goodIn_app (goodIn_of _ (by decide +kernel)) ggX11_copyFed_X8_hasRun
set_option maxRecDepth 20000 in
theorem ggX11_copyFed_X0_personAt : GoodIn wsX11_copyFed wsX0_personAt := goodIn_r _ [38, 39, 40, 81, 82, 83, 84, 85, 86, 87, 88, 89, 90, 91, 92, 93, 94] (by decide +kernel) (by decide +kernel)
set_option maxRecDepth 20000 in
theorem gX11_copyFed_X0_personAt : GoodIn wsX11_copyFed (wsV RX11 228 RX0 yX0_personAt wsX0_personAt) := goodIn_app (goodIn_of _ (by decide +kernel)) ggX11_copyFed_X0_personAt
set_option maxRecDepth 20000 in
theorem ggX11_copyFed_X8_putNumber : GoodIn wsX11_copyFed wsX8_putNumber := goodIn_r _ [44, 45, 4, 5, 6, 46, 47, 48, 21, 49, 23, 78, 79, 80] (by decide +kernel) (by decide +kernel)
set_option maxRecDepth 20000 in
theorem gX11_copyFed_X8_putNumber : GoodIn wsX11_copyFed (wsV RX11 128 RX8 yX8_putNumber wsX8_putNumber) := goodIn_app (goodIn_of _ (by decide +kernel)) ggX11_copyFed_X8_putNumber
set_option maxRecDepth 20000 in
theorem ggX11_copyFed_X11_given : GoodIn wsX11_copyFed wsX11_given := goodIn_r _ [53, 11, 54, 55, 56, 57, 58, 59, 60, 61, 62, 63, 64, 65, 66, 67, 68, 69, 70, 71, 72] (by decide +kernel) (by decide +kernel)
set_option maxRecDepth 20000 in
theorem gX11_copyFed_X11_given : GoodIn wsX11_copyFed (wsV RX11 191 RX11 yX11_given wsX11_given) := goodIn_app (goodIn_of _ (by decide +kernel)) ggX11_copyFed_X11_given
theorem dX11_copyFed_0 : decode cX11_copyFed 0 = .ok (.iload_n 1, 1) := by decide +kernel
theorem dX11_copyFed_1 : decode cX11_copyFed 1 = .ok (.iconst 4, 1) := by decide +kernel
theorem dX11_copyFed_2 : decode cX11_copyFed 2 = .ok (.invokestatic 104, 3) := by decide +kernel
theorem dX11_copyFed_5 : decode cX11_copyFed 5 = .ok (.ifCond .ne 9, 3) := by decide +kernel
theorem dX11_copyFed_8 : decode cX11_copyFed 8 = .ok (.aload_n 0, 1) := by decide +kernel
theorem dX11_copyFed_9 : decode cX11_copyFed 9 = .ok (.iconst 1, 1) := by decide +kernel
theorem dX11_copyFed_10 : decode cX11_copyFed 10 = .ok (.invokevirtual 132, 3) := by decide +kernel
theorem dX11_copyFed_13 : decode cX11_copyFed 13 = .ok (.ireturn, 1) := by decide +kernel
theorem dX11_copyFed_14 : decode cX11_copyFed 14 = .ok (.aload_n 0, 1) := by decide +kernel
theorem dX11_copyFed_15 : decode cX11_copyFed 15 = .ok (.iload_n 1, 1) := by decide +kernel
theorem dX11_copyFed_16 : decode cX11_copyFed 16 = .ok (.invokevirtual 112, 3) := by decide +kernel
theorem dX11_copyFed_19 : decode cX11_copyFed 19 = .ok (.astore_n 2, 1) := by decide +kernel
theorem dX11_copyFed_20 : decode cX11_copyFed 20 = .ok (.aload_n 2, 1) := by decide +kernel
theorem dX11_copyFed_21 : decode cX11_copyFed 21 = .ok (.invokevirtual 140, 3) := by decide +kernel
theorem dX11_copyFed_24 : decode cX11_copyFed 24 = .ok (.ifCond .eq 9, 3) := by decide +kernel
theorem dX11_copyFed_27 : decode cX11_copyFed 27 = .ok (.aload_n 0, 1) := by decide +kernel
theorem dX11_copyFed_28 : decode cX11_copyFed 28 = .ok (.iconst 2, 1) := by decide +kernel
theorem dX11_copyFed_29 : decode cX11_copyFed 29 = .ok (.invokevirtual 132, 3) := by decide +kernel
theorem dX11_copyFed_32 : decode cX11_copyFed 32 = .ok (.ireturn, 1) := by decide +kernel
theorem dX11_copyFed_33 : decode cX11_copyFed 33 = .ok (.aload_n 0, 1) := by decide +kernel
theorem dX11_copyFed_34 : decode cX11_copyFed 34 = .ok (.getfield 10, 3) := by decide +kernel
theorem dX11_copyFed_37 : decode cX11_copyFed 37 = .ok (.iconst 3, 1) := by decide +kernel
theorem dX11_copyFed_38 : decode cX11_copyFed 38 = .ok (.invokevirtual 167, 3) := by decide +kernel
theorem dX11_copyFed_41 : decode cX11_copyFed 41 = .ok (.istore_n 3, 1) := by decide +kernel
theorem dX11_copyFed_42 : decode cX11_copyFed 42 = .ok (.aload_n 2, 1) := by decide +kernel
theorem dX11_copyFed_43 : decode cX11_copyFed 43 = .ok (.iconst 0, 1) := by decide +kernel
theorem dX11_copyFed_44 : decode cX11_copyFed 44 = .ok (.iload_n 3, 1) := by decide +kernel
theorem dX11_copyFed_45 : decode cX11_copyFed 45 = .ok (.invokevirtual 146, 3) := by decide +kernel
theorem dX11_copyFed_48 : decode cX11_copyFed 48 = .ok (.ifCond .ne 9, 3) := by decide +kernel
theorem dX11_copyFed_51 : decode cX11_copyFed 51 = .ok (.aload_n 0, 1) := by decide +kernel
theorem dX11_copyFed_52 : decode cX11_copyFed 52 = .ok (.iconst 3, 1) := by decide +kernel
theorem dX11_copyFed_53 : decode cX11_copyFed 53 = .ok (.invokevirtual 132, 3) := by decide +kernel
theorem dX11_copyFed_56 : decode cX11_copyFed 56 = .ok (.ireturn, 1) := by decide +kernel
theorem dX11_copyFed_57 : decode cX11_copyFed 57 = .ok (.iconst 0, 1) := by decide +kernel
theorem dX11_copyFed_58 : decode cX11_copyFed 58 = .ok (.istore 4, 2) := by decide +kernel
theorem dX11_copyFed_60 : decode cX11_copyFed 60 = .ok (.iload 4, 2) := by decide +kernel
theorem dX11_copyFed_62 : decode cX11_copyFed 62 = .ok (.iload_n 3, 1) := by decide +kernel
theorem dX11_copyFed_63 : decode cX11_copyFed 63 = .ok (.if_icmp .ge 28, 3) := by decide +kernel
theorem dX11_copyFed_66 : decode cX11_copyFed 66 = .ok (.aload_n 2, 1) := by decide +kernel
theorem dX11_copyFed_67 : decode cX11_copyFed 67 = .ok (.iload 4, 2) := by decide +kernel
theorem dX11_copyFed_69 : decode cX11_copyFed 69 = .ok (.aload_n 0, 1) := by decide +kernel
theorem dX11_copyFed_70 : decode cX11_copyFed 70 = .ok (.getfield 10, 3) := by decide +kernel
theorem dX11_copyFed_73 : decode cX11_copyFed 73 = .ok (.iload 4, 2) := by decide +kernel
theorem dX11_copyFed_75 : decode cX11_copyFed 75 = .ok (.invokevirtual 228, 3) := by decide +kernel
theorem dX11_copyFed_78 : decode cX11_copyFed 78 = .ok (.getfield 232, 3) := by decide +kernel
theorem dX11_copyFed_81 : decode cX11_copyFed 81 = .ok (.i2l, 1) := by decide +kernel
theorem dX11_copyFed_82 : decode cX11_copyFed 82 = .ok (.invokevirtual 128, 3) := by decide +kernel
theorem dX11_copyFed_85 : decode cX11_copyFed 85 = .ok (.iinc 4 1, 3) := by decide +kernel
theorem dX11_copyFed_88 : decode cX11_copyFed 88 = .ok (.goto (-28), 3) := by decide +kernel
theorem dX11_copyFed_91 : decode cX11_copyFed 91 = .ok (.aload_n 0, 1) := by decide +kernel
theorem dX11_copyFed_92 : decode cX11_copyFed 92 = .ok (.iload_n 3, 1) := by decide +kernel
theorem dX11_copyFed_93 : decode cX11_copyFed 93 = .ok (.invokevirtual 191, 3) := by decide +kernel
theorem dX11_copyFed_96 : decode cX11_copyFed 96 = .ok (.ireturn, 1) := by decide +kernel
set_option maxRecDepth 20000 in
theorem ggX11_live_X11_within : GoodIn wsX11_live wsX11_within := goodIn_r _ [11] (by decide +kernel) (by decide +kernel)
set_option maxRecDepth 20000 in
theorem gX11_live_X11_within : GoodIn wsX11_live (va_wsS RX11 104 yX11_within wsX11_within) := goodIn_app (goodIn_of _ (by decide +kernel)) ggX11_live_X11_within
set_option maxRecDepth 20000 in
theorem ggX11_live_X11_refused : GoodIn wsX11_live wsX11_refused := goodIn_r _ [15, 16, 184, 185, 186, 187, 188, 189, 190, 191, 192, 193, 194, 195, 196, 197, 198, 199, 200, 201, 202] (by decide +kernel) (by decide +kernel)
set_option maxRecDepth 20000 in
theorem gX11_live_X11_refused : GoodIn wsX11_live (wsV RX11 132 RX11 yX11_refused wsX11_refused) := goodIn_app (goodIn_of _ (by decide +kernel)) ggX11_live_X11_refused
set_option maxRecDepth 20000 in
theorem ggX11_live_X0_setOfFate : GoodIn wsX11_live wsX0_setOfFate := goodIn_r _ [21, 22, 23, 24, 25, 20, 26, 27, 28, 29, 30, 31, 32, 33, 227, 228, 229, 230, 231, 203, 204, 205, 206, 207, 208, 209, 210, 211, 212, 213, 214, 215, 216] (by decide +kernel) (by decide +kernel)
set_option maxRecDepth 20000 in
theorem gX11_live_X0_setOfFate : GoodIn wsX11_live (wsV RX11 200 RX0 yX0_setOfFate wsX0_setOfFate) := goodIn_app (goodIn_of _ (by decide +kernel)) ggX11_live_X0_setOfFate
set_option maxRecDepth 20000 in
theorem ggX11_live_J6_bitCount_0f7a4 : GoodIn wsX11_live wsJ6_bitCount_0f7a4 := goodIn_r _ [37, 38, 39, 40] (by decide +kernel) (by decide +kernel)
set_option maxRecDepth 20000 in
theorem gX11_live_J6_bitCount_0f7a4 : GoodIn wsX11_live (va_wsS RX11 270 yJ6_bitCount_0f7a4 wsJ6_bitCount_0f7a4) := goodIn_app (goodIn_of _ (by decide +kernel)) ggX11_live_J6_bitCount_0f7a4
set_option maxRecDepth 20000 in
theorem ggX11_live_X2_begin : GoodIn wsX11_live wsX2_begin := goodIn_r _ [45, 46, 47, 48, 49, 50, 220, 221, 222, 223, 224, 225, 226] (by decide +kernel) (by decide +kernel)
set_option maxRecDepth 20000 in
theorem gX11_live_X2_begin : GoodIn wsX11_live (wsV RX11 401 RX2 yX2_begin wsX2_begin) := goodIn_app (goodIn_of _ (by decide +kernel)) ggX11_live_X2_begin
set_option maxRecDepth 20000 in
theorem ggX11_live_X2_runSteps : GoodIn wsX11_live wsX2_runSteps := goodIn_r _ [52, 53, 50, 48, 54, 55, 56, 44, 57, 47, 49, 58, 59, 60, 61, 62, 63, 64, 10, 65, 66, 67, 68, 69, 70, 71, 72, 73, 20, 74, 75, 76, 77, 78, 28, 29, 30, 31, 32, 33, 79, 80, 81, 82, 23, 24, 25, 26, 27, 83, 84, 85, 86, 87, 88, 89, 90, 91, 92, 93, 94, 95, 96, 97, 98, 99, 100, 101, 51, 102, 103, 104, 105, 106, 107, 108, 109, 110, 111, 112, 113, 114, 115, 116, 117, 118, 119, 120, 121, 122, 123, 124, 125, 126, 18, 19, 21, 22, 127, 35, 36, 37, 38, 39, 40, 128, 129, 130, 131, 132, 133, 134, 135, 136, 137, 138, 139, 140, 141, 142, 143, 144, 145, 146, 147, 148, 149, 150, 151, 152, 153, 154, 155, 156, 157, 158, 159, 160, 161, 162, 163, 164, 165, 46, 166, 203, 204, 205, 206, 207, 208, 209, 210, 211, 212, 213, 214, 215, 216, 220, 221, 222, 223, 224, 225, 226, 217, 218, 219, 227, 228, 229, 230, 231, 232, 233, 234, 235, 236, 237, 238, 239, 240] (by decide +kernel) (by decide +kernel)
set_option maxRecDepth 20000 in
theorem gX11_live_X2_runSteps_n403 : GoodIn wsX11_live (wsX2_runSteps) := ggX11_live_X2_runSteps
set_option maxRecDepth 20000 in
theorem ggX11_live_X2_keep : GoodIn wsX11_live wsX2_keep := goodIn_r _ [170, 171, 172, 10, 173, 220, 221, 222, 223, 224, 225, 226] (by decide +kernel) (by decide +kernel)
set_option maxRecDepth 20000 in
theorem gX11_live_X2_keep : GoodIn wsX11_live (wsV RX11 407 RX2 yX2_keep wsX2_keep) := goodIn_app (goodIn_of _ (by decide +kernel)) ggX11_live_X2_keep
set_option maxRecDepth 20000 in
theorem ggX11_live_X2_keepSteps : GoodIn wsX11_live wsX2_keepSteps := goodIn_r _ [177, 48, 49, 178, 179, 168, 169, 44, 170, 171, 172, 10, 173, 220, 221, 222, 223, 224, 225, 226] (by decide +kernel) (by decide +kernel)
set_option maxRecDepth 20000 in
theorem gX11_live_X2_keepSteps : GoodIn wsX11_live (wsV RX11 410 RX2 yX2_keepSteps wsX2_keepSteps) := goodIn_app (goodIn_of _ (by decide +kernel)) ggX11_live_X2_keepSteps
set_option maxRecDepth 20000 in
theorem ggX11_live_X11_given : GoodIn wsX11_live wsX11_given := goodIn_r _ [183, 16, 184, 185, 186, 187, 188, 189, 190, 191, 192, 193, 194, 195, 196, 197, 198, 199, 200, 201, 202] (by decide +kernel) (by decide +kernel)
set_option maxRecDepth 20000 in
theorem gX11_live_X11_given : GoodIn wsX11_live (wsV RX11 191 RX11 yX11_given wsX11_given) := goodIn_app (goodIn_of _ (by decide +kernel)) ggX11_live_X11_given
theorem dX11_live_0 : decode cX11_live 0 = .ok (.iload_n 1, 1) := by decide +kernel
theorem dX11_live_1 : decode cX11_live 1 = .ok (.sipush 10000, 3) := by decide +kernel
theorem dX11_live_4 : decode cX11_live 4 = .ok (.invokestatic 104, 3) := by decide +kernel
theorem dX11_live_7 : decode cX11_live 7 = .ok (.ifCond .ne 9, 3) := by decide +kernel
theorem dX11_live_10 : decode cX11_live 10 = .ok (.aload_n 0, 1) := by decide +kernel
theorem dX11_live_11 : decode cX11_live 11 = .ok (.iconst 1, 1) := by decide +kernel
theorem dX11_live_12 : decode cX11_live 12 = .ok (.invokevirtual 132, 3) := by decide +kernel
theorem dX11_live_15 : decode cX11_live 15 = .ok (.ireturn, 1) := by decide +kernel
theorem dX11_live_16 : decode cX11_live 16 = .ok (.aload_n 0, 1) := by decide +kernel
theorem dX11_live_17 : decode cX11_live 17 = .ok (.getfield 10, 3) := by decide +kernel
theorem dX11_live_20 : decode cX11_live 20 = .ok (.getfield 174, 3) := by decide +kernel
theorem dX11_live_23 : decode cX11_live 23 = .ok (.getfield 397, 3) := by decide +kernel
theorem dX11_live_26 : decode cX11_live 26 = .ok (.ifCond .ne 10, 3) := by decide +kernel
theorem dX11_live_29 : decode cX11_live 29 = .ok (.aload_n 0, 1) := by decide +kernel
theorem dX11_live_30 : decode cX11_live 30 = .ok (.bipush 6, 2) := by decide +kernel
theorem dX11_live_32 : decode cX11_live 32 = .ok (.invokevirtual 132, 3) := by decide +kernel
theorem dX11_live_35 : decode cX11_live 35 = .ok (.ireturn, 1) := by decide +kernel
theorem dX11_live_36 : decode cX11_live 36 = .ok (.aload_n 0, 1) := by decide +kernel
theorem dX11_live_37 : decode cX11_live 37 = .ok (.getfield 10, 3) := by decide +kernel
theorem dX11_live_40 : decode cX11_live 40 = .ok (.getfield 197, 3) := by decide +kernel
theorem dX11_live_43 : decode cX11_live 43 = .ok (.istore_n 2, 1) := by decide +kernel
theorem dX11_live_44 : decode cX11_live 44 = .ok (.aload_n 0, 1) := by decide +kernel
theorem dX11_live_45 : decode cX11_live 45 = .ok (.getfield 10, 3) := by decide +kernel
theorem dX11_live_48 : decode cX11_live 48 = .ok (.iconst 1, 1) := by decide +kernel
theorem dX11_live_49 : decode cX11_live 49 = .ok (.invokevirtual 200, 3) := by decide +kernel
theorem dX11_live_52 : decode cX11_live 52 = .ok (.invokestatic 270, 3) := by decide +kernel
theorem dX11_live_55 : decode cX11_live 55 = .ok (.istore_n 3, 1) := by decide +kernel
theorem dX11_live_56 : decode cX11_live 56 = .ok (.aload_n 0, 1) := by decide +kernel
theorem dX11_live_57 : decode cX11_live 57 = .ok (.getfield 10, 3) := by decide +kernel
theorem dX11_live_60 : decode cX11_live 60 = .ok (.iconst 2, 1) := by decide +kernel
theorem dX11_live_61 : decode cX11_live 61 = .ok (.invokevirtual 200, 3) := by decide +kernel
theorem dX11_live_64 : decode cX11_live 64 = .ok (.invokestatic 270, 3) := by decide +kernel
theorem dX11_live_67 : decode cX11_live 67 = .ok (.istore 4, 2) := by decide +kernel
theorem dX11_live_69 : decode cX11_live 69 = .ok (.aload_n 0, 1) := by decide +kernel
theorem dX11_live_70 : decode cX11_live 70 = .ok (.getfield 78, 3) := by decide +kernel
theorem dX11_live_73 : decode cX11_live 73 = .ok (.iload_n 1, 1) := by decide +kernel
theorem dX11_live_74 : decode cX11_live 74 = .ok (.invokevirtual 401, 3) := by decide +kernel
theorem dX11_live_77 : decode cX11_live 77 = .ok (.aload_n 0, 1) := by decide +kernel
theorem dX11_live_78 : decode cX11_live 78 = .ok (.getfield 78, 3) := by decide +kernel
theorem dX11_live_81 : decode cX11_live 81 = .ok (.aload_n 0, 1) := by decide +kernel
theorem dX11_live_82 : decode cX11_live 82 = .ok (.getfield 10, 3) := by decide +kernel
theorem dX11_live_85 : decode cX11_live 85 = .ok (.iconst 0, 1) := by decide +kernel
theorem dX11_live_86 : decode cX11_live 86 = .ok (.aload_n 0, 1) := by decide +kernel
theorem dX11_live_87 : decode cX11_live 87 = .ok (.getfield 10, 3) := by decide +kernel
theorem dX11_live_90 : decode cX11_live 90 = .ok (.getfield 174, 3) := by decide +kernel
theorem dX11_live_93 : decode cX11_live 93 = .ok (.getfield 188, 3) := by decide +kernel
theorem dX11_live_96 : decode cX11_live 96 = .ok (.iconst 0, 1) := by decide +kernel
theorem dX11_live_97 : decode cX11_live 97 = .ok (.invokestatic 403, 3) := by decide +kernel
theorem dX11_live_100 : decode cX11_live 100 = .ok (.aload_n 0, 1) := by decide +kernel
theorem dX11_live_101 : decode cX11_live 101 = .ok (.getfield 78, 3) := by decide +kernel
theorem dX11_live_104 : decode cX11_live 104 = .ok (.iconst 1, 1) := by decide +kernel
theorem dX11_live_105 : decode cX11_live 105 = .ok (.aload_n 0, 1) := by decide +kernel
theorem dX11_live_106 : decode cX11_live 106 = .ok (.getfield 10, 3) := by decide +kernel
theorem dX11_live_109 : decode cX11_live 109 = .ok (.getfield 197, 3) := by decide +kernel
theorem dX11_live_112 : decode cX11_live 112 = .ok (.iload_n 2, 1) := by decide +kernel
theorem dX11_live_113 : decode cX11_live 113 = .ok (.isub, 1) := by decide +kernel
theorem dX11_live_114 : decode cX11_live 114 = .ok (.invokevirtual 407, 3) := by decide +kernel
theorem dX11_live_117 : decode cX11_live 117 = .ok (.aload_n 0, 1) := by decide +kernel
theorem dX11_live_118 : decode cX11_live 118 = .ok (.getfield 78, 3) := by decide +kernel
theorem dX11_live_121 : decode cX11_live 121 = .ok (.iconst 2, 1) := by decide +kernel
theorem dX11_live_122 : decode cX11_live 122 = .ok (.aload_n 0, 1) := by decide +kernel
theorem dX11_live_123 : decode cX11_live 123 = .ok (.getfield 10, 3) := by decide +kernel
theorem dX11_live_126 : decode cX11_live 126 = .ok (.iconst 1, 1) := by decide +kernel
theorem dX11_live_127 : decode cX11_live 127 = .ok (.invokevirtual 200, 3) := by decide +kernel
theorem dX11_live_130 : decode cX11_live 130 = .ok (.invokestatic 270, 3) := by decide +kernel
theorem dX11_live_133 : decode cX11_live 133 = .ok (.iload_n 3, 1) := by decide +kernel
theorem dX11_live_134 : decode cX11_live 134 = .ok (.isub, 1) := by decide +kernel
theorem dX11_live_135 : decode cX11_live 135 = .ok (.invokevirtual 407, 3) := by decide +kernel
theorem dX11_live_138 : decode cX11_live 138 = .ok (.aload_n 0, 1) := by decide +kernel
theorem dX11_live_139 : decode cX11_live 139 = .ok (.getfield 78, 3) := by decide +kernel
theorem dX11_live_142 : decode cX11_live 142 = .ok (.iconst 3, 1) := by decide +kernel
theorem dX11_live_143 : decode cX11_live 143 = .ok (.aload_n 0, 1) := by decide +kernel
theorem dX11_live_144 : decode cX11_live 144 = .ok (.getfield 10, 3) := by decide +kernel
theorem dX11_live_147 : decode cX11_live 147 = .ok (.iconst 2, 1) := by decide +kernel
theorem dX11_live_148 : decode cX11_live 148 = .ok (.invokevirtual 200, 3) := by decide +kernel
theorem dX11_live_151 : decode cX11_live 151 = .ok (.invokestatic 270, 3) := by decide +kernel
theorem dX11_live_154 : decode cX11_live 154 = .ok (.iload 4, 2) := by decide +kernel
theorem dX11_live_156 : decode cX11_live 156 = .ok (.isub, 1) := by decide +kernel
theorem dX11_live_157 : decode cX11_live 157 = .ok (.invokevirtual 407, 3) := by decide +kernel
theorem dX11_live_160 : decode cX11_live 160 = .ok (.aload_n 0, 1) := by decide +kernel
theorem dX11_live_161 : decode cX11_live 161 = .ok (.getfield 78, 3) := by decide +kernel
theorem dX11_live_164 : decode cX11_live 164 = .ok (.invokevirtual 410, 3) := by decide +kernel
theorem dX11_live_167 : decode cX11_live 167 = .ok (.aload_n 0, 1) := by decide +kernel
theorem dX11_live_168 : decode cX11_live 168 = .ok (.aload_n 0, 1) := by decide +kernel
theorem dX11_live_169 : decode cX11_live 169 = .ok (.getfield 78, 3) := by decide +kernel
theorem dX11_live_172 : decode cX11_live 172 = .ok (.getfield 413, 3) := by decide +kernel
theorem dX11_live_175 : decode cX11_live 175 = .ok (.invokevirtual 191, 3) := by decide +kernel
theorem dX11_live_178 : decode cX11_live 178 = .ok (.ireturn, 1) := by decide +kernel
set_option maxRecDepth 20000 in
theorem ggX11_lived_X11_within : GoodIn wsX11_lived wsX11_within := goodIn_r _ [7] (by decide +kernel) (by decide +kernel)
set_option maxRecDepth 20000 in
theorem gX11_lived_X11_within : GoodIn wsX11_lived (va_wsS RX11 104 yX11_within wsX11_within) := goodIn_app (goodIn_of _ (by decide +kernel)) ggX11_lived_X11_within
set_option maxRecDepth 20000 in
theorem ggX11_lived_X11_refused : GoodIn wsX11_lived wsX11_refused := goodIn_r _ [11, 12, 20, 21, 22, 23, 24, 25, 26, 27, 28, 29, 30, 31, 32, 33, 34, 35, 36, 37, 38] (by decide +kernel) (by decide +kernel)
set_option maxRecDepth 20000 in
theorem gX11_lived_X11_refused : GoodIn wsX11_lived (wsV RX11 132 RX11 yX11_refused wsX11_refused) := goodIn_app (goodIn_of _ (by decide +kernel)) ggX11_lived_X11_refused
set_option maxRecDepth 20000 in
theorem ggX11_lived_X11_cell : GoodIn wsX11_lived wsX11_cell := goodIn_r _ [15] (by decide +kernel) (by decide +kernel)
set_option maxRecDepth 20000 in
theorem gX11_lived_X11_cell : GoodIn wsX11_lived (va_wsS RX11 254 yX11_cell wsX11_cell) := goodIn_app (goodIn_of _ (by decide +kernel)) ggX11_lived_X11_cell
set_option maxRecDepth 20000 in
theorem ggX11_lived_X11_given : GoodIn wsX11_lived wsX11_given := goodIn_r _ [19, 12, 20, 21, 22, 23, 24, 25, 26, 27, 28, 29, 30, 31, 32, 33, 34, 35, 36, 37, 38] (by decide +kernel) (by decide +kernel)
set_option maxRecDepth 20000 in
theorem gX11_lived_X11_given : GoodIn wsX11_lived (wsV RX11 191 RX11 yX11_given wsX11_given) := goodIn_app (goodIn_of _ (by decide +kernel)) ggX11_lived_X11_given
theorem dX11_lived_0 : decode cX11_lived 0 = .ok (.iload_n 1, 1) := by decide +kernel
theorem dX11_lived_1 : decode cX11_lived 1 = .ok (.iconst 5, 1) := by decide +kernel
theorem dX11_lived_2 : decode cX11_lived 2 = .ok (.invokestatic 104, 3) := by decide +kernel
theorem dX11_lived_5 : decode cX11_lived 5 = .ok (.ifCond .ne 9, 3) := by decide +kernel
theorem dX11_lived_8 : decode cX11_lived 8 = .ok (.aload_n 0, 1) := by decide +kernel
theorem dX11_lived_9 : decode cX11_lived 9 = .ok (.iconst 1, 1) := by decide +kernel
theorem dX11_lived_10 : decode cX11_lived 10 = .ok (.invokevirtual 132, 3) := by decide +kernel
theorem dX11_lived_13 : decode cX11_lived 13 = .ok (.ireturn, 1) := by decide +kernel
theorem dX11_lived_14 : decode cX11_lived 14 = .ok (.aload_n 0, 1) := by decide +kernel
theorem dX11_lived_15 : decode cX11_lived 15 = .ok (.getfield 78, 3) := by decide +kernel
theorem dX11_lived_18 : decode cX11_lived 18 = .ok (.getfield 416, 3) := by decide +kernel
theorem dX11_lived_21 : decode cX11_lived 21 = .ok (.ifCond .eq 21, 3) := by decide +kernel
theorem dX11_lived_24 : decode cX11_lived 24 = .ok (.aload_n 0, 1) := by decide +kernel
theorem dX11_lived_25 : decode cX11_lived 25 = .ok (.aload_n 0, 1) := by decide +kernel
theorem dX11_lived_26 : decode cX11_lived 26 = .ok (.getfield 78, 3) := by decide +kernel
theorem dX11_lived_29 : decode cX11_lived 29 = .ok (.getfield 419, 3) := by decide +kernel
theorem dX11_lived_32 : decode cX11_lived 32 = .ok (.iload_n 1, 1) := by decide +kernel
theorem dX11_lived_33 : decode cX11_lived 33 = .ok (.invokestatic 254, 3) := by decide +kernel
theorem dX11_lived_36 : decode cX11_lived 36 = .ok (.invokevirtual 191, 3) := by decide +kernel
theorem dX11_lived_39 : decode cX11_lived 39 = .ok (.goto 9, 3) := by decide +kernel
theorem dX11_lived_42 : decode cX11_lived 42 = .ok (.aload_n 0, 1) := by decide +kernel
theorem dX11_lived_43 : decode cX11_lived 43 = .ok (.bipush 6, 2) := by decide +kernel
theorem dX11_lived_45 : decode cX11_lived 45 = .ok (.invokevirtual 132, 3) := by decide +kernel
theorem dX11_lived_48 : decode cX11_lived 48 = .ok (.ireturn, 1) := by decide +kernel
set_option maxRecDepth 20000 in
theorem ggX11_mean_X11_within : GoodIn wsX11_mean wsX11_within := goodIn_r _ [10] (by decide +kernel) (by decide +kernel)
set_option maxRecDepth 20000 in
theorem gX11_mean_X11_within : GoodIn wsX11_mean (va_wsS RX11 104 yX11_within wsX11_within) := goodIn_app (goodIn_of _ (by decide +kernel)) ggX11_mean_X11_within
set_option maxRecDepth 20000 in
theorem ggX11_mean_X11_denied : GoodIn wsX11_mean wsX11_denied := goodIn_r _ [14, 15, 216, 217, 218, 219, 220, 221, 222, 223, 224, 225, 226, 227, 228, 229, 230, 231, 232, 233, 234] (by decide +kernel) (by decide +kernel)
set_option maxRecDepth 20000 in
theorem gX11_mean_X11_denied : GoodIn wsX11_mean (wsV RX11 108 RX11 yX11_denied wsX11_denied) := goodIn_app (goodIn_of _ (by decide +kernel)) ggX11_mean_X11_denied
set_option maxRecDepth 20000 in
theorem ggX11_mean_X0_copyFrom : GoodIn wsX11_mean wsX0_copyFrom := goodIn_r _ [20, 21, 22, 23, 24, 25, 26, 27, 28, 29, 30, 31, 9, 32, 33, 34, 35, 19, 36, 37, 38, 39, 40, 41, 42, 43, 44, 45, 46, 47, 48, 49, 50, 51, 52, 53, 54, 55, 56, 57, 58, 59, 60, 61, 62, 63, 64, 65, 66, 67, 68, 69, 70, 71, 72, 73, 74, 75, 76, 77, 78, 79, 80, 235, 236, 237, 238, 239, 240, 241, 242, 243, 244, 245, 246, 247, 248, 252, 253, 254, 255, 256, 257, 258, 259, 260, 261, 262, 263, 264, 265, 249, 250, 251] (by decide +kernel) (by decide +kernel)
set_option maxRecDepth 20000 in
theorem gX11_mean_X0_copyFrom : GoodIn wsX11_mean (wsV RX11 324 RX0 yX0_copyFrom wsX0_copyFrom) := goodIn_app (goodIn_of _ (by decide +kernel)) ggX11_mean_X0_copyFrom
set_option maxRecDepth 20000 in
theorem ggX11_mean_X2_begin : GoodIn wsX11_mean wsX2_begin := goodIn_r _ [85, 86, 87, 88, 89, 90, 266, 267, 268, 269, 270, 271, 272] (by decide +kernel) (by decide +kernel)
set_option maxRecDepth 20000 in
theorem gX11_mean_X2_begin : GoodIn wsX11_mean (wsV RX11 401 RX2 yX2_begin wsX2_begin) := goodIn_app (goodIn_of _ (by decide +kernel)) ggX11_mean_X2_begin
set_option maxRecDepth 20000 in
theorem ggX11_mean_X2_runSteps : GoodIn wsX11_mean wsX2_runSteps := goodIn_r _ [92, 93, 90, 88, 94, 95, 96, 84, 97, 87, 89, 98, 99, 100, 76, 101, 80, 102, 9, 103, 104, 105, 106, 107, 108, 109, 110, 111, 19, 112, 113, 114, 115, 116, 57, 58, 59, 60, 61, 62, 117, 118, 119, 120, 33, 34, 35, 36, 21, 37, 38, 39, 40, 41, 42, 121, 122, 123, 46, 124, 49, 52, 53, 55, 56, 50, 125, 126, 91, 127, 128, 129, 130, 131, 132, 133, 134, 30, 135, 136, 137, 138, 29, 139, 140, 141, 142, 143, 144, 145, 146, 147, 148, 149, 150, 151, 152, 153, 154, 155, 156, 157, 158, 159, 160, 161, 162, 163, 164, 165, 166, 167, 168, 169, 170, 23, 171, 172, 173, 174, 175, 176, 177, 178, 179, 180, 181, 182, 183, 184, 185, 186, 187, 188, 189, 190, 191, 192, 193, 194, 195, 196, 197, 86, 198, 235, 236, 237, 238, 239, 240, 241, 242, 243, 244, 245, 246, 247, 248, 266, 267, 268, 269, 270, 271, 272, 249, 250, 251, 261, 262, 263, 264, 265, 252, 253, 254, 255, 256, 257, 258, 259, 260] (by decide +kernel) (by decide +kernel)
set_option maxRecDepth 20000 in
theorem gX11_mean_X2_runSteps_n403 : GoodIn wsX11_mean (wsX2_runSteps) := ggX11_mean_X2_runSteps
set_option maxRecDepth 20000 in
theorem ggX11_mean_X0_allFed : GoodIn wsX11_mean wsX0_allFed := goodIn_r _ [202, 114, 33, 34, 35, 19, 36, 21, 57, 58, 59, 60, 61, 62, 261, 262, 263, 264, 265, 235, 236, 237, 238, 239, 240, 241, 242, 243, 244, 245, 246, 247, 248] (by decide +kernel) (by decide +kernel)
set_option maxRecDepth 20000 in
theorem gX11_mean_X0_allFed : GoodIn wsX11_mean (wsV RX11 422 RX0 yX0_allFed wsX0_allFed) := goodIn_app (goodIn_of _ (by decide +kernel)) ggX11_mean_X0_allFed
set_option maxRecDepth 20000 in
theorem ggX11_mean_X11_tellFraction : GoodIn wsX11_mean wsX11_tellFraction := goodIn_r _ [206, 207, 208, 209, 210, 9, 211, 212, 213, 214, 215, 15, 216, 217, 218, 219, 220, 221, 222, 223, 224, 225, 226, 227, 228, 229, 230, 231, 232, 233, 234] (by decide +kernel) (by decide +kernel)
set_option maxRecDepth 20000 in
theorem gX11_mean_X11_tellFraction : GoodIn wsX11_mean (wsV RX11 341 RX11 yX11_tellFraction wsX11_tellFraction) := goodIn_app (goodIn_of _ (by decide +kernel)) ggX11_mean_X11_tellFraction
theorem dX11_mean_0 : decode cX11_mean 0 = .ok (.iload_n 1, 1) := by decide +kernel
theorem dX11_mean_1 : decode cX11_mean 1 = .ok (.sipush 10000, 3) := by decide +kernel
theorem dX11_mean_4 : decode cX11_mean 4 = .ok (.invokestatic 104, 3) := by decide +kernel
theorem dX11_mean_7 : decode cX11_mean 7 = .ok (.ifCond .eq 18, 3) := by decide +kernel
theorem dX11_mean_10 : decode cX11_mean 10 = .ok (.iload_n 2, 1) := by decide +kernel
theorem dX11_mean_11 : decode cX11_mean 11 = .ok (.iconst 1, 1) := by decide +kernel
theorem dX11_mean_12 : decode cX11_mean 12 = .ok (.if_icmp .lt 13, 3) := by decide +kernel
theorem dX11_mean_15 : decode cX11_mean 15 = .ok (.iload_n 2, 1) := by decide +kernel
theorem dX11_mean_16 : decode cX11_mean 16 = .ok (.bipush 20, 2) := by decide +kernel
theorem dX11_mean_18 : decode cX11_mean 18 = .ok (.if_icmp .gt 7, 3) := by decide +kernel
theorem dX11_mean_21 : decode cX11_mean 21 = .ok (.iconst 1, 1) := by decide +kernel
theorem dX11_mean_22 : decode cX11_mean 22 = .ok (.goto 4, 3) := by decide +kernel
theorem dX11_mean_25 : decode cX11_mean 25 = .ok (.iconst 0, 1) := by decide +kernel
theorem dX11_mean_26 : decode cX11_mean 26 = .ok (.istore_n 3, 1) := by decide +kernel
theorem dX11_mean_27 : decode cX11_mean 27 = .ok (.iload_n 3, 1) := by decide +kernel
theorem dX11_mean_28 : decode cX11_mean 28 = .ok (.ifCond .eq 14, 3) := by decide +kernel
theorem dX11_mean_31 : decode cX11_mean 31 = .ok (.iload_n 1, 1) := by decide +kernel
theorem dX11_mean_32 : decode cX11_mean 32 = .ok (.iload_n 2, 1) := by decide +kernel
theorem dX11_mean_33 : decode cX11_mean 33 = .ok (.iadd, 1) := by decide +kernel
theorem dX11_mean_34 : decode cX11_mean 34 = .ok (.iconst 1, 1) := by decide +kernel
theorem dX11_mean_35 : decode cX11_mean 35 = .ok (.isub, 1) := by decide +kernel
theorem dX11_mean_36 : decode cX11_mean 36 = .ok (.sipush 9999, 3) := by decide +kernel
theorem dX11_mean_39 : decode cX11_mean 39 = .ok (.if_icmp .le 9, 3) := by decide +kernel
theorem dX11_mean_42 : decode cX11_mean 42 = .ok (.aload_n 0, 1) := by decide +kernel
theorem dX11_mean_43 : decode cX11_mean 43 = .ok (.iconst 1, 1) := by decide +kernel
theorem dX11_mean_44 : decode cX11_mean 44 = .ok (.invokevirtual 108, 3) := by decide +kernel
theorem dX11_mean_47 : decode cX11_mean 47 = .ok (.ireturn, 1) := by decide +kernel
theorem dX11_mean_48 : decode cX11_mean 48 = .ok (.aload_n 0, 1) := by decide +kernel
theorem dX11_mean_49 : decode cX11_mean 49 = .ok (.getfield 10, 3) := by decide +kernel
theorem dX11_mean_52 : decode cX11_mean 52 = .ok (.getfield 174, 3) := by decide +kernel
theorem dX11_mean_55 : decode cX11_mean 55 = .ok (.getfield 397, 3) := by decide +kernel
theorem dX11_mean_58 : decode cX11_mean 58 = .ok (.ifCond .ne 10, 3) := by decide +kernel
theorem dX11_mean_61 : decode cX11_mean 61 = .ok (.aload_n 0, 1) := by decide +kernel
theorem dX11_mean_62 : decode cX11_mean 62 = .ok (.bipush 6, 2) := by decide +kernel
theorem dX11_mean_64 : decode cX11_mean 64 = .ok (.invokevirtual 108, 3) := by decide +kernel
theorem dX11_mean_67 : decode cX11_mean 67 = .ok (.ireturn, 1) := by decide +kernel
theorem dX11_mean_68 : decode cX11_mean 68 = .ok (.iconst 0, 1) := by decide +kernel
theorem dX11_mean_69 : decode cX11_mean 69 = .ok (.istore 4, 2) := by decide +kernel
theorem dX11_mean_71 : decode cX11_mean 71 = .ok (.iconst 0, 1) := by decide +kernel
theorem dX11_mean_72 : decode cX11_mean 72 = .ok (.istore 5, 2) := by decide +kernel
theorem dX11_mean_74 : decode cX11_mean 74 = .ok (.iload 5, 2) := by decide +kernel
theorem dX11_mean_76 : decode cX11_mean 76 = .ok (.iload_n 2, 1) := by decide +kernel
theorem dX11_mean_77 : decode cX11_mean 77 = .ok (.if_icmp .ge 66, 3) := by decide +kernel
theorem dX11_mean_80 : decode cX11_mean 80 = .ok (.aload_n 0, 1) := by decide +kernel
theorem dX11_mean_81 : decode cX11_mean 81 = .ok (.getfield 16, 3) := by decide +kernel
theorem dX11_mean_84 : decode cX11_mean 84 = .ok (.aload_n 0, 1) := by decide +kernel
theorem dX11_mean_85 : decode cX11_mean 85 = .ok (.getfield 10, 3) := by decide +kernel
theorem dX11_mean_88 : decode cX11_mean 88 = .ok (.invokevirtual 324, 3) := by decide +kernel
theorem dX11_mean_91 : decode cX11_mean 91 = .ok (.aload_n 0, 1) := by decide +kernel
theorem dX11_mean_92 : decode cX11_mean 92 = .ok (.getfield 78, 3) := by decide +kernel
theorem dX11_mean_95 : decode cX11_mean 95 = .ok (.iload_n 1, 1) := by decide +kernel
theorem dX11_mean_96 : decode cX11_mean 96 = .ok (.iload 5, 2) := by decide +kernel
theorem dX11_mean_98 : decode cX11_mean 98 = .ok (.iadd, 1) := by decide +kernel
theorem dX11_mean_99 : decode cX11_mean 99 = .ok (.invokevirtual 401, 3) := by decide +kernel
theorem dX11_mean_102 : decode cX11_mean 102 = .ok (.aload_n 0, 1) := by decide +kernel
theorem dX11_mean_103 : decode cX11_mean 103 = .ok (.getfield 78, 3) := by decide +kernel
theorem dX11_mean_106 : decode cX11_mean 106 = .ok (.aload_n 0, 1) := by decide +kernel
theorem dX11_mean_107 : decode cX11_mean 107 = .ok (.getfield 16, 3) := by decide +kernel
theorem dX11_mean_110 : decode cX11_mean 110 = .ok (.iconst 0, 1) := by decide +kernel
theorem dX11_mean_111 : decode cX11_mean 111 = .ok (.aload_n 0, 1) := by decide +kernel
theorem dX11_mean_112 : decode cX11_mean 112 = .ok (.getfield 16, 3) := by decide +kernel
theorem dX11_mean_115 : decode cX11_mean 115 = .ok (.getfield 174, 3) := by decide +kernel
theorem dX11_mean_118 : decode cX11_mean 118 = .ok (.getfield 188, 3) := by decide +kernel
theorem dX11_mean_121 : decode cX11_mean 121 = .ok (.iconst 0, 1) := by decide +kernel
theorem dX11_mean_122 : decode cX11_mean 122 = .ok (.invokestatic 403, 3) := by decide +kernel
theorem dX11_mean_125 : decode cX11_mean 125 = .ok (.iload 4, 2) := by decide +kernel
theorem dX11_mean_127 : decode cX11_mean 127 = .ok (.aload_n 0, 1) := by decide +kernel
theorem dX11_mean_128 : decode cX11_mean 128 = .ok (.getfield 16, 3) := by decide +kernel
theorem dX11_mean_131 : decode cX11_mean 131 = .ok (.invokevirtual 422, 3) := by decide +kernel
theorem dX11_mean_134 : decode cX11_mean 134 = .ok (.iadd, 1) := by decide +kernel
theorem dX11_mean_135 : decode cX11_mean 135 = .ok (.istore 4, 2) := by decide +kernel
theorem dX11_mean_137 : decode cX11_mean 137 = .ok (.iinc 5 1, 3) := by decide +kernel
theorem dX11_mean_140 : decode cX11_mean 140 = .ok (.goto (-66), 3) := by decide +kernel
theorem dX11_mean_143 : decode cX11_mean 143 = .ok (.aload_n 0, 1) := by decide +kernel
theorem dX11_mean_144 : decode cX11_mean 144 = .ok (.iload 4, 2) := by decide +kernel
theorem dX11_mean_146 : decode cX11_mean 146 = .ok (.i2l, 1) := by decide +kernel
theorem dX11_mean_147 : decode cX11_mean 147 = .ok (.iload_n 2, 1) := by decide +kernel
theorem dX11_mean_148 : decode cX11_mean 148 = .ok (.i2l, 1) := by decide +kernel
theorem dX11_mean_149 : decode cX11_mean 149 = .ok (.invokevirtual 341, 3) := by decide +kernel
theorem dX11_mean_152 : decode cX11_mean 152 = .ok (.ireturn, 1) := by decide +kernel
set_option maxRecDepth 20000 in
theorem ggX11_mark_X11_refused : GoodIn wsX11_mark wsX11_refused := goodIn_r _ [7, 8, 87, 88, 89, 90, 91, 92, 93, 94, 95, 96, 97, 98, 99, 100, 101, 102, 103, 104, 105] (by decide +kernel) (by decide +kernel)
set_option maxRecDepth 20000 in
theorem gX11_mark_X11_refused : GoodIn wsX11_mark (wsV RX11 132 RX11 yX11_refused wsX11_refused) := goodIn_app (goodIn_of _ (by decide +kernel)) ggX11_mark_X11_refused
set_option maxRecDepth 20000 in
theorem ggX11_mark_X11_markAt : GoodIn wsX11_mark wsX11_markAt := goodIn_r _ [12, 13, 14, 15, 16, 6, 17, 87, 88, 89, 90, 91, 92, 93, 94, 95, 96, 97, 98, 99, 100, 101, 102, 103, 104, 105] (by decide +kernel) (by decide +kernel)
set_option maxRecDepth 20000 in
theorem gX11_mark_X11_markAt : GoodIn wsX11_mark (wsV RX11 425 RX11 yX11_markAt wsX11_markAt) := goodIn_app (goodIn_of _ (by decide +kernel)) ggX11_mark_X11_markAt
set_option maxRecDepth 20000 in
theorem ggX11_mark_X0_copyFrom : GoodIn wsX11_mark wsX0_copyFrom := goodIn_r _ [22, 23, 24, 25, 26, 27, 28, 29, 30, 31, 32, 33, 6, 34, 35, 36, 37, 21, 38, 39, 40, 41, 42, 43, 44, 45, 46, 47, 48, 49, 50, 51, 52, 53, 54, 55, 56, 57, 58, 59, 60, 61, 62, 63, 64, 65, 66, 67, 68, 69, 70, 71, 72, 73, 74, 75, 76, 77, 78, 79, 80, 81, 82, 106, 107, 108, 109, 110, 111, 112, 113, 114, 115, 116, 117, 118, 119, 120, 121, 122, 123, 124, 125, 126, 127, 128, 129, 130, 131, 132, 133, 134, 135, 136] (by decide +kernel) (by decide +kernel)
set_option maxRecDepth 20000 in
theorem gX11_mark_X0_copyFrom : GoodIn wsX11_mark (wsV RX11 324 RX0 yX0_copyFrom wsX0_copyFrom) := goodIn_app (goodIn_of _ (by decide +kernel)) ggX11_mark_X0_copyFrom
set_option maxRecDepth 20000 in
theorem ggX11_mark_X11_given : GoodIn wsX11_mark wsX11_given := goodIn_r _ [86, 8, 87, 88, 89, 90, 91, 92, 93, 94, 95, 96, 97, 98, 99, 100, 101, 102, 103, 104, 105] (by decide +kernel) (by decide +kernel)
set_option maxRecDepth 20000 in
theorem gX11_mark_X11_given : GoodIn wsX11_mark (wsV RX11 191 RX11 yX11_given wsX11_given) := goodIn_app (goodIn_of _ (by decide +kernel)) ggX11_mark_X11_given
theorem dX11_mark_0 : decode cX11_mark 0 = .ok (.aload_n 0, 1) := by decide +kernel
theorem dX11_mark_1 : decode cX11_mark 1 = .ok (.getfield 23, 3) := by decide +kernel
theorem dX11_mark_4 : decode cX11_mark 4 = .ok (.iconst 3, 1) := by decide +kernel
theorem dX11_mark_5 : decode cX11_mark 5 = .ok (.if_icmp .lt 9, 3) := by decide +kernel
theorem dX11_mark_8 : decode cX11_mark 8 = .ok (.aload_n 0, 1) := by decide +kernel
theorem dX11_mark_9 : decode cX11_mark 9 = .ok (.iconst 4, 1) := by decide +kernel
theorem dX11_mark_10 : decode cX11_mark 10 = .ok (.invokevirtual 132, 3) := by decide +kernel
theorem dX11_mark_13 : decode cX11_mark 13 = .ok (.ireturn, 1) := by decide +kernel
theorem dX11_mark_14 : decode cX11_mark 14 = .ok (.aload_n 0, 1) := by decide +kernel
theorem dX11_mark_15 : decode cX11_mark 15 = .ok (.aload_n 0, 1) := by decide +kernel
theorem dX11_mark_16 : decode cX11_mark 16 = .ok (.getfield 23, 3) := by decide +kernel
theorem dX11_mark_19 : decode cX11_mark 19 = .ok (.invokevirtual 425, 3) := by decide +kernel
theorem dX11_mark_22 : decode cX11_mark 22 = .ok (.aload_n 0, 1) := by decide +kernel
theorem dX11_mark_23 : decode cX11_mark 23 = .ok (.getfield 10, 3) := by decide +kernel
theorem dX11_mark_26 : decode cX11_mark 26 = .ok (.invokevirtual 324, 3) := by decide +kernel
theorem dX11_mark_29 : decode cX11_mark 29 = .ok (.aload_n 0, 1) := by decide +kernel
theorem dX11_mark_30 : decode cX11_mark 30 = .ok (.dup, 1) := by decide +kernel
theorem dX11_mark_31 : decode cX11_mark 31 = .ok (.getfield 23, 3) := by decide +kernel
theorem dX11_mark_34 : decode cX11_mark 34 = .ok (.iconst 1, 1) := by decide +kernel
theorem dX11_mark_35 : decode cX11_mark 35 = .ok (.iadd, 1) := by decide +kernel
theorem dX11_mark_36 : decode cX11_mark 36 = .ok (.putfield 23, 3) := by decide +kernel
theorem dX11_mark_39 : decode cX11_mark 39 = .ok (.aload_n 0, 1) := by decide +kernel
theorem dX11_mark_40 : decode cX11_mark 40 = .ok (.aload_n 0, 1) := by decide +kernel
theorem dX11_mark_41 : decode cX11_mark 41 = .ok (.getfield 23, 3) := by decide +kernel
theorem dX11_mark_44 : decode cX11_mark 44 = .ok (.invokevirtual 191, 3) := by decide +kernel
theorem dX11_mark_47 : decode cX11_mark 47 = .ok (.ireturn, 1) := by decide +kernel
set_option maxRecDepth 20000 in
theorem ggX11_undo_X11_refused : GoodIn wsX11_undo wsX11_refused := goodIn_r _ [7, 8, 87, 88, 89, 90, 91, 92, 93, 94, 95, 96, 97, 98, 99, 100, 101, 102, 103, 104, 105] (by decide +kernel) (by decide +kernel)
set_option maxRecDepth 20000 in
theorem gX11_undo_X11_refused : GoodIn wsX11_undo (wsV RX11 132 RX11 yX11_refused wsX11_refused) := goodIn_app (goodIn_of _ (by decide +kernel)) ggX11_undo_X11_refused
set_option maxRecDepth 20000 in
theorem ggX11_undo_X11_markAt : GoodIn wsX11_undo wsX11_markAt := goodIn_r _ [12, 13, 14, 15, 16, 6, 17, 87, 88, 89, 90, 91, 92, 93, 94, 95, 96, 97, 98, 99, 100, 101, 102, 103, 104, 105] (by decide +kernel) (by decide +kernel)
set_option maxRecDepth 20000 in
theorem gX11_undo_X11_markAt : GoodIn wsX11_undo (wsV RX11 425 RX11 yX11_markAt wsX11_markAt) := goodIn_app (goodIn_of _ (by decide +kernel)) ggX11_undo_X11_markAt
set_option maxRecDepth 20000 in
theorem ggX11_undo_X0_copyFrom : GoodIn wsX11_undo wsX0_copyFrom := goodIn_r _ [22, 23, 24, 25, 26, 27, 28, 29, 30, 31, 32, 33, 6, 34, 35, 36, 37, 21, 38, 39, 40, 41, 42, 43, 44, 45, 46, 47, 48, 49, 50, 51, 52, 53, 54, 55, 56, 57, 58, 59, 60, 61, 62, 63, 64, 65, 66, 67, 68, 69, 70, 71, 72, 73, 74, 75, 76, 77, 78, 79, 80, 81, 82, 106, 107, 108, 109, 110, 111, 112, 113, 114, 115, 116, 117, 118, 119, 120, 121, 122, 123, 124, 125, 126, 127, 128, 129, 130, 131, 132, 133, 134, 135, 136] (by decide +kernel) (by decide +kernel)
set_option maxRecDepth 20000 in
theorem gX11_undo_X0_copyFrom : GoodIn wsX11_undo (wsV RX11 324 RX0 yX0_copyFrom wsX0_copyFrom) := goodIn_app (goodIn_of _ (by decide +kernel)) ggX11_undo_X0_copyFrom
set_option maxRecDepth 20000 in
theorem ggX11_undo_X11_given : GoodIn wsX11_undo wsX11_given := goodIn_r _ [86, 8, 87, 88, 89, 90, 91, 92, 93, 94, 95, 96, 97, 98, 99, 100, 101, 102, 103, 104, 105] (by decide +kernel) (by decide +kernel)
set_option maxRecDepth 20000 in
theorem gX11_undo_X11_given : GoodIn wsX11_undo (wsV RX11 191 RX11 yX11_given wsX11_given) := goodIn_app (goodIn_of _ (by decide +kernel)) ggX11_undo_X11_given
theorem dX11_undo_0 : decode cX11_undo 0 = .ok (.aload_n 0, 1) := by decide +kernel
theorem dX11_undo_1 : decode cX11_undo 1 = .ok (.getfield 23, 3) := by decide +kernel
theorem dX11_undo_4 : decode cX11_undo 4 = .ok (.ifCond .gt 10, 3) := by decide +kernel
theorem dX11_undo_7 : decode cX11_undo 7 = .ok (.aload_n 0, 1) := by decide +kernel
theorem dX11_undo_8 : decode cX11_undo 8 = .ok (.bipush 6, 2) := by decide +kernel
theorem dX11_undo_10 : decode cX11_undo 10 = .ok (.invokevirtual 132, 3) := by decide +kernel
theorem dX11_undo_13 : decode cX11_undo 13 = .ok (.ireturn, 1) := by decide +kernel
theorem dX11_undo_14 : decode cX11_undo 14 = .ok (.aload_n 0, 1) := by decide +kernel
theorem dX11_undo_15 : decode cX11_undo 15 = .ok (.dup, 1) := by decide +kernel
theorem dX11_undo_16 : decode cX11_undo 16 = .ok (.getfield 23, 3) := by decide +kernel
theorem dX11_undo_19 : decode cX11_undo 19 = .ok (.iconst 1, 1) := by decide +kernel
theorem dX11_undo_20 : decode cX11_undo 20 = .ok (.isub, 1) := by decide +kernel
theorem dX11_undo_21 : decode cX11_undo 21 = .ok (.putfield 23, 3) := by decide +kernel
theorem dX11_undo_24 : decode cX11_undo 24 = .ok (.aload_n 0, 1) := by decide +kernel
theorem dX11_undo_25 : decode cX11_undo 25 = .ok (.getfield 10, 3) := by decide +kernel
theorem dX11_undo_28 : decode cX11_undo 28 = .ok (.aload_n 0, 1) := by decide +kernel
theorem dX11_undo_29 : decode cX11_undo 29 = .ok (.aload_n 0, 1) := by decide +kernel
theorem dX11_undo_30 : decode cX11_undo 30 = .ok (.getfield 23, 3) := by decide +kernel
theorem dX11_undo_33 : decode cX11_undo 33 = .ok (.invokevirtual 425, 3) := by decide +kernel
theorem dX11_undo_36 : decode cX11_undo 36 = .ok (.invokevirtual 324, 3) := by decide +kernel
theorem dX11_undo_39 : decode cX11_undo 39 = .ok (.aload_n 0, 1) := by decide +kernel
theorem dX11_undo_40 : decode cX11_undo 40 = .ok (.aload_n 0, 1) := by decide +kernel
theorem dX11_undo_41 : decode cX11_undo 41 = .ok (.getfield 23, 3) := by decide +kernel
theorem dX11_undo_44 : decode cX11_undo 44 = .ok (.invokevirtual 191, 3) := by decide +kernel
theorem dX11_undo_47 : decode cX11_undo 47 = .ok (.ireturn, 1) := by decide +kernel
theorem dX11_refused_0 : decode cX11_refused 0 = .ok (.aload_n 0, 1) := by decide +kernel
theorem dX11_refused_1 : decode cX11_refused 1 = .ok (.iload_n 1, 1) := by decide +kernel
theorem dX11_refused_2 : decode cX11_refused 2 = .ok (.putfield 82, 3) := by decide +kernel
theorem dX11_refused_5 : decode cX11_refused 5 = .ok (.iconst (-1), 1) := by decide +kernel
theorem dX11_refused_6 : decode cX11_refused 6 = .ok (.ireturn, 1) := by decide +kernel
theorem dX11_denied_0 : decode cX11_denied 0 = .ok (.aload_n 0, 1) := by decide +kernel
theorem dX11_denied_1 : decode cX11_denied 1 = .ok (.iload_n 1, 1) := by decide +kernel
theorem dX11_denied_2 : decode cX11_denied 2 = .ok (.putfield 82, 3) := by decide +kernel
theorem dX11_denied_5 : decode cX11_denied 5 = .ok (.iconst 0, 1) := by decide +kernel
theorem dX11_denied_6 : decode cX11_denied 6 = .ok (.ireturn, 1) := by decide +kernel
theorem dX11_given_0 : decode cX11_given 0 = .ok (.aload_n 0, 1) := by decide +kernel
theorem dX11_given_1 : decode cX11_given 1 = .ok (.iconst 0, 1) := by decide +kernel
theorem dX11_given_2 : decode cX11_given 2 = .ok (.putfield 82, 3) := by decide +kernel
theorem dX11_given_5 : decode cX11_given 5 = .ok (.iload_n 1, 1) := by decide +kernel
theorem dX11_given_6 : decode cX11_given 6 = .ok (.ireturn, 1) := by decide +kernel
theorem dX11_done_0 : decode cX11_done 0 = .ok (.aload_n 0, 1) := by decide +kernel
theorem dX11_done_1 : decode cX11_done 1 = .ok (.iconst 0, 1) := by decide +kernel
theorem dX11_done_2 : decode cX11_done 2 = .ok (.putfield 82, 3) := by decide +kernel
theorem dX11_done_5 : decode cX11_done 5 = .ok (.iconst 1, 1) := by decide +kernel
theorem dX11_done_6 : decode cX11_done 6 = .ok (.ireturn, 1) := by decide +kernel
set_option maxRecDepth 20000 in
theorem ggX11_tellFraction_X11_commonDivisor : GoodIn wsX11_tellFraction wsX11_commonDivisor := goodIn_r _ [6] (by decide +kernel) (by decide +kernel)
set_option maxRecDepth 20000 in
theorem gX11_tellFraction_X11_commonDivisor : GoodIn wsX11_tellFraction (va_wsS RX11 429 yX11_commonDivisor wsX11_commonDivisor) := goodIn_app (goodIn_of _ (by decide +kernel)) ggX11_tellFraction_X11_commonDivisor
set_option maxRecDepth 20000 in
theorem ggX11_tellFraction_X11_done : GoodIn wsX11_tellFraction wsX11_done := goodIn_r _ [10, 11, 12, 13, 14, 15, 16, 17, 18, 19, 20, 21, 22, 23, 24, 25, 26, 27, 28, 29, 30] (by decide +kernel) (by decide +kernel)
set_option maxRecDepth 20000 in
theorem gX11_tellFraction_X11_done : GoodIn wsX11_tellFraction (wsV RX11 120 RX11 yX11_done wsX11_done) := goodIn_app (goodIn_of _ (by decide +kernel)) ggX11_tellFraction_X11_done
theorem dX11_tellFraction_0 : decode cX11_tellFraction 0 = .ok (.lload_n 1, 1) := by decide +kernel
theorem dX11_tellFraction_1 : decode cX11_tellFraction 1 = .ok (.lload_n 3, 1) := by decide +kernel
theorem dX11_tellFraction_2 : decode cX11_tellFraction 2 = .ok (.invokestatic 429, 3) := by decide +kernel
theorem dX11_tellFraction_5 : decode cX11_tellFraction 5 = .ok (.lstore 5, 2) := by decide +kernel
theorem dX11_tellFraction_7 : decode cX11_tellFraction 7 = .ok (.lload 5, 2) := by decide +kernel
theorem dX11_tellFraction_9 : decode cX11_tellFraction 9 = .ok (.lconst 0, 1) := by decide +kernel
theorem dX11_tellFraction_10 : decode cX11_tellFraction 10 = .ok (.lcmp, 1) := by decide +kernel
theorem dX11_tellFraction_11 : decode cX11_tellFraction 11 = .ok (.ifCond .le 19, 3) := by decide +kernel
theorem dX11_tellFraction_14 : decode cX11_tellFraction 14 = .ok (.aload_n 0, 1) := by decide +kernel
theorem dX11_tellFraction_15 : decode cX11_tellFraction 15 = .ok (.lload_n 1, 1) := by decide +kernel
theorem dX11_tellFraction_16 : decode cX11_tellFraction 16 = .ok (.lload 5, 2) := by decide +kernel
theorem dX11_tellFraction_18 : decode cX11_tellFraction 18 = .ok (.ldiv, 1) := by decide +kernel
theorem dX11_tellFraction_19 : decode cX11_tellFraction 19 = .ok (.putfield 85, 3) := by decide +kernel
theorem dX11_tellFraction_22 : decode cX11_tellFraction 22 = .ok (.aload_n 0, 1) := by decide +kernel
theorem dX11_tellFraction_23 : decode cX11_tellFraction 23 = .ok (.lload_n 3, 1) := by decide +kernel
theorem dX11_tellFraction_24 : decode cX11_tellFraction 24 = .ok (.lload 5, 2) := by decide +kernel
theorem dX11_tellFraction_26 : decode cX11_tellFraction 26 = .ok (.ldiv, 1) := by decide +kernel
theorem dX11_tellFraction_27 : decode cX11_tellFraction 27 = .ok (.putfield 89, 3) := by decide +kernel
theorem dX11_tellFraction_30 : decode cX11_tellFraction 30 = .ok (.aload_n 0, 1) := by decide +kernel
theorem dX11_tellFraction_31 : decode cX11_tellFraction 31 = .ok (.invokevirtual 120, 3) := by decide +kernel
theorem dX11_tellFraction_34 : decode cX11_tellFraction 34 = .ok (.ireturn, 1) := by decide +kernel
set_option maxRecDepth 20000 in
theorem ggX11_trayAt_X11_within : GoodIn wsX11_trayAt wsX11_within := goodIn_r _ [6] (by decide +kernel) (by decide +kernel)
set_option maxRecDepth 20000 in
theorem gX11_trayAt_X11_within : GoodIn wsX11_trayAt (va_wsS RX11 104 yX11_within wsX11_within) := goodIn_app (goodIn_of _ (by decide +kernel)) ggX11_trayAt_X11_within
theorem dX11_trayAt_0 : decode cX11_trayAt 0 = .ok (.iload_n 1, 1) := by decide +kernel
theorem dX11_trayAt_1 : decode cX11_trayAt 1 = .ok (.aload_n 0, 1) := by decide +kernel
theorem dX11_trayAt_2 : decode cX11_trayAt 2 = .ok (.getfield 29, 3) := by decide +kernel
theorem dX11_trayAt_5 : decode cX11_trayAt 5 = .ok (.arraylength, 1) := by decide +kernel
theorem dX11_trayAt_6 : decode cX11_trayAt 6 = .ok (.invokestatic 104, 3) := by decide +kernel
theorem dX11_trayAt_9 : decode cX11_trayAt 9 = .ok (.ifCond .eq 12, 3) := by decide +kernel
theorem dX11_trayAt_12 : decode cX11_trayAt 12 = .ok (.aload_n 0, 1) := by decide +kernel
theorem dX11_trayAt_13 : decode cX11_trayAt 13 = .ok (.getfield 29, 3) := by decide +kernel
theorem dX11_trayAt_16 : decode cX11_trayAt 16 = .ok (.iload_n 1, 1) := by decide +kernel
theorem dX11_trayAt_17 : decode cX11_trayAt 17 = .ok (.aaload, 1) := by decide +kernel
theorem dX11_trayAt_18 : decode cX11_trayAt 18 = .ok (.goto 7, 3) := by decide +kernel
theorem dX11_trayAt_21 : decode cX11_trayAt 21 = .ok (.aload_n 0, 1) := by decide +kernel
theorem dX11_trayAt_22 : decode cX11_trayAt 22 = .ok (.getfield 34, 3) := by decide +kernel
theorem dX11_trayAt_25 : decode cX11_trayAt 25 = .ok (.astore_n 2, 1) := by decide +kernel
theorem dX11_trayAt_26 : decode cX11_trayAt 26 = .ok (.aload_n 2, 1) := by decide +kernel
theorem dX11_trayAt_27 : decode cX11_trayAt 27 = .ok (.ifnull 7, 3) := by decide +kernel
theorem dX11_trayAt_30 : decode cX11_trayAt 30 = .ok (.aload_n 2, 1) := by decide +kernel
theorem dX11_trayAt_31 : decode cX11_trayAt 31 = .ok (.goto 7, 3) := by decide +kernel
theorem dX11_trayAt_34 : decode cX11_trayAt 34 = .ok (.aload_n 0, 1) := by decide +kernel
theorem dX11_trayAt_35 : decode cX11_trayAt 35 = .ok (.getfield 34, 3) := by decide +kernel
theorem dX11_trayAt_38 : decode cX11_trayAt 38 = .ok (.areturn, 1) := by decide +kernel
set_option maxRecDepth 20000 in
theorem ggX11_markAt_X11_within : GoodIn wsX11_markAt wsX11_within := goodIn_r _ [6] (by decide +kernel) (by decide +kernel)
set_option maxRecDepth 20000 in
theorem gX11_markAt_X11_within : GoodIn wsX11_markAt (va_wsS RX11 104 yX11_within wsX11_within) := goodIn_app (goodIn_of _ (by decide +kernel)) ggX11_markAt_X11_within
theorem dX11_markAt_0 : decode cX11_markAt 0 = .ok (.iload_n 1, 1) := by decide +kernel
theorem dX11_markAt_1 : decode cX11_markAt 1 = .ok (.aload_n 0, 1) := by decide +kernel
theorem dX11_markAt_2 : decode cX11_markAt 2 = .ok (.getfield 19, 3) := by decide +kernel
theorem dX11_markAt_5 : decode cX11_markAt 5 = .ok (.arraylength, 1) := by decide +kernel
theorem dX11_markAt_6 : decode cX11_markAt 6 = .ok (.invokestatic 104, 3) := by decide +kernel
theorem dX11_markAt_9 : decode cX11_markAt 9 = .ok (.ifCond .eq 12, 3) := by decide +kernel
theorem dX11_markAt_12 : decode cX11_markAt 12 = .ok (.aload_n 0, 1) := by decide +kernel
theorem dX11_markAt_13 : decode cX11_markAt 13 = .ok (.getfield 19, 3) := by decide +kernel
theorem dX11_markAt_16 : decode cX11_markAt 16 = .ok (.iload_n 1, 1) := by decide +kernel
theorem dX11_markAt_17 : decode cX11_markAt 17 = .ok (.aaload, 1) := by decide +kernel
theorem dX11_markAt_18 : decode cX11_markAt 18 = .ok (.goto 7, 3) := by decide +kernel
theorem dX11_markAt_21 : decode cX11_markAt 21 = .ok (.aload_n 0, 1) := by decide +kernel
theorem dX11_markAt_22 : decode cX11_markAt 22 = .ok (.getfield 16, 3) := by decide +kernel
theorem dX11_markAt_25 : decode cX11_markAt 25 = .ok (.astore_n 2, 1) := by decide +kernel
theorem dX11_markAt_26 : decode cX11_markAt 26 = .ok (.aload_n 2, 1) := by decide +kernel
theorem dX11_markAt_27 : decode cX11_markAt 27 = .ok (.ifnull 7, 3) := by decide +kernel
theorem dX11_markAt_30 : decode cX11_markAt 30 = .ok (.aload_n 2, 1) := by decide +kernel
theorem dX11_markAt_31 : decode cX11_markAt 31 = .ok (.goto 7, 3) := by decide +kernel
theorem dX11_markAt_34 : decode cX11_markAt 34 = .ok (.aload_n 0, 1) := by decide +kernel
theorem dX11_markAt_35 : decode cX11_markAt 35 = .ok (.getfield 16, 3) := by decide +kernel
theorem dX11_markAt_38 : decode cX11_markAt 38 = .ok (.areturn, 1) := by decide +kernel
set_option maxRecDepth 20000 in
theorem ggX11_placeRefusal_X11_within : GoodIn wsX11_placeRefusal wsX11_within := goodIn_r _ [4] (by decide +kernel) (by decide +kernel)
set_option maxRecDepth 20000 in
theorem gX11_placeRefusal_X11_within : GoodIn wsX11_placeRefusal (va_wsS RX11 104 yX11_within wsX11_within) := goodIn_app (goodIn_of _ (by decide +kernel)) ggX11_placeRefusal_X11_within
set_option maxRecDepth 20000 in
theorem ggX11_placeRefusal_X11_trayAt : GoodIn wsX11_placeRefusal wsX11_trayAt := goodIn_r _ [8, 9, 10, 1, 2, 3, 4, 22, 23, 24, 25, 26, 27, 28, 29, 30, 31, 32, 33, 34, 35, 36, 37, 38, 39, 40] (by decide +kernel) (by decide +kernel)
set_option maxRecDepth 20000 in
theorem gX11_placeRefusal_X11_trayAt : GoodIn wsX11_placeRefusal (wsV RX11 112 RX11 yX11_trayAt wsX11_trayAt) := goodIn_app (goodIn_of _ (by decide +kernel)) ggX11_placeRefusal_X11_trayAt
set_option maxRecDepth 20000 in
theorem ggX11_placeRefusal_X8_isMissing : GoodIn wsX11_placeRefusal wsX8_isMissing := goodIn_r _ [15, 16, 41, 42, 43] (by decide +kernel) (by decide +kernel)
set_option maxRecDepth 20000 in
theorem gX11_placeRefusal_X8_isMissing : GoodIn wsX11_placeRefusal (wsV RX11 140 RX8 yX8_isMissing wsX8_isMissing) := goodIn_app (goodIn_of _ (by decide +kernel)) ggX11_placeRefusal_X8_isMissing
set_option maxRecDepth 20000 in
theorem ggX11_placeRefusal_X8_hasPlace : GoodIn wsX11_placeRefusal wsX8_hasPlace := goodIn_r _ [20, 21, 2, 3, 4, 41, 42, 43] (by decide +kernel) (by decide +kernel)
set_option maxRecDepth 20000 in
theorem gX11_placeRefusal_X8_hasPlace : GoodIn wsX11_placeRefusal (wsV RX11 433 RX8 yX8_hasPlace wsX8_hasPlace) := goodIn_app (goodIn_of _ (by decide +kernel)) ggX11_placeRefusal_X8_hasPlace
theorem dX11_placeRefusal_0 : decode cX11_placeRefusal 0 = .ok (.iload_n 1, 1) := by decide +kernel
theorem dX11_placeRefusal_1 : decode cX11_placeRefusal 1 = .ok (.iconst 4, 1) := by decide +kernel
theorem dX11_placeRefusal_2 : decode cX11_placeRefusal 2 = .ok (.invokestatic 104, 3) := by decide +kernel
theorem dX11_placeRefusal_5 : decode cX11_placeRefusal 5 = .ok (.ifCond .ne 5, 3) := by decide +kernel
theorem dX11_placeRefusal_8 : decode cX11_placeRefusal 8 = .ok (.iconst 1, 1) := by decide +kernel
theorem dX11_placeRefusal_9 : decode cX11_placeRefusal 9 = .ok (.ireturn, 1) := by decide +kernel
theorem dX11_placeRefusal_10 : decode cX11_placeRefusal 10 = .ok (.aload_n 0, 1) := by decide +kernel
theorem dX11_placeRefusal_11 : decode cX11_placeRefusal 11 = .ok (.iload_n 1, 1) := by decide +kernel
theorem dX11_placeRefusal_12 : decode cX11_placeRefusal 12 = .ok (.invokevirtual 112, 3) := by decide +kernel
theorem dX11_placeRefusal_15 : decode cX11_placeRefusal 15 = .ok (.invokevirtual 140, 3) := by decide +kernel
theorem dX11_placeRefusal_18 : decode cX11_placeRefusal 18 = .ok (.ifCond .eq 5, 3) := by decide +kernel
theorem dX11_placeRefusal_21 : decode cX11_placeRefusal 21 = .ok (.iconst 2, 1) := by decide +kernel
theorem dX11_placeRefusal_22 : decode cX11_placeRefusal 22 = .ok (.ireturn, 1) := by decide +kernel
theorem dX11_placeRefusal_23 : decode cX11_placeRefusal 23 = .ok (.aload_n 0, 1) := by decide +kernel
theorem dX11_placeRefusal_24 : decode cX11_placeRefusal 24 = .ok (.iload_n 1, 1) := by decide +kernel
theorem dX11_placeRefusal_25 : decode cX11_placeRefusal 25 = .ok (.invokevirtual 112, 3) := by decide +kernel
theorem dX11_placeRefusal_28 : decode cX11_placeRefusal 28 = .ok (.iload_n 2, 1) := by decide +kernel
theorem dX11_placeRefusal_29 : decode cX11_placeRefusal 29 = .ok (.invokevirtual 433, 3) := by decide +kernel
theorem dX11_placeRefusal_32 : decode cX11_placeRefusal 32 = .ok (.ifCond .eq 7, 3) := by decide +kernel
theorem dX11_placeRefusal_35 : decode cX11_placeRefusal 35 = .ok (.iconst 0, 1) := by decide +kernel
theorem dX11_placeRefusal_36 : decode cX11_placeRefusal 36 = .ok (.goto 4, 3) := by decide +kernel
theorem dX11_placeRefusal_39 : decode cX11_placeRefusal 39 = .ok (.iconst 3, 1) := by decide +kernel
theorem dX11_placeRefusal_40 : decode cX11_placeRefusal 40 = .ok (.ireturn, 1) := by decide +kernel
set_option maxRecDepth 20000 in
theorem ggX11_textRead_X11_given : GoodIn wsX11_textRead wsX11_given := goodIn_r _ [11, 12, 17, 18, 19, 20, 21, 22, 23, 24, 25, 26, 27, 28, 29, 30, 31, 32, 33, 34, 35] (by decide +kernel) (by decide +kernel)
set_option maxRecDepth 20000 in
theorem gX11_textRead_X11_given : GoodIn wsX11_textRead (wsV RX11 191 RX11 yX11_given wsX11_given) := goodIn_app (goodIn_of _ (by decide +kernel)) ggX11_textRead_X11_given
set_option maxRecDepth 20000 in
theorem ggX11_textRead_X11_refused : GoodIn wsX11_textRead wsX11_refused := goodIn_r _ [16, 12, 17, 18, 19, 20, 21, 22, 23, 24, 25, 26, 27, 28, 29, 30, 31, 32, 33, 34, 35] (by decide +kernel) (by decide +kernel)
set_option maxRecDepth 20000 in
theorem gX11_textRead_X11_refused : GoodIn wsX11_textRead (wsV RX11 132 RX11 yX11_refused wsX11_refused) := goodIn_app (goodIn_of _ (by decide +kernel)) ggX11_textRead_X11_refused
theorem dX11_textRead_0 : decode cX11_textRead 0 = .ok (.aload_n 0, 1) := by decide +kernel
theorem dX11_textRead_1 : decode cX11_textRead 1 = .ok (.getfield 41, 3) := by decide +kernel
theorem dX11_textRead_4 : decode cX11_textRead 4 = .ok (.iconst 0, 1) := by decide +kernel
theorem dX11_textRead_5 : decode cX11_textRead 5 = .ok (.putfield 160, 3) := by decide +kernel
theorem dX11_textRead_8 : decode cX11_textRead 8 = .ok (.aload_n 0, 1) := by decide +kernel
theorem dX11_textRead_9 : decode cX11_textRead 9 = .ok (.aload_n 0, 1) := by decide +kernel
theorem dX11_textRead_10 : decode cX11_textRead 10 = .ok (.getfield 41, 3) := by decide +kernel
theorem dX11_textRead_13 : decode cX11_textRead 13 = .ok (.getfield 436, 3) := by decide +kernel
theorem dX11_textRead_16 : decode cX11_textRead 16 = .ok (.putfield 92, 3) := by decide +kernel
theorem dX11_textRead_19 : decode cX11_textRead 19 = .ok (.aload_n 0, 1) := by decide +kernel
theorem dX11_textRead_20 : decode cX11_textRead 20 = .ok (.aload_n 0, 1) := by decide +kernel
theorem dX11_textRead_21 : decode cX11_textRead 21 = .ok (.getfield 41, 3) := by decide +kernel
theorem dX11_textRead_24 : decode cX11_textRead 24 = .ok (.getfield 439, 3) := by decide +kernel
theorem dX11_textRead_27 : decode cX11_textRead 27 = .ok (.putfield 95, 3) := by decide +kernel
theorem dX11_textRead_30 : decode cX11_textRead 30 = .ok (.iload_n 1, 1) := by decide +kernel
theorem dX11_textRead_31 : decode cX11_textRead 31 = .ok (.ifCond .eq 11, 3) := by decide +kernel
theorem dX11_textRead_34 : decode cX11_textRead 34 = .ok (.aload_n 0, 1) := by decide +kernel
theorem dX11_textRead_35 : decode cX11_textRead 35 = .ok (.iload_n 2, 1) := by decide +kernel
theorem dX11_textRead_36 : decode cX11_textRead 36 = .ok (.invokevirtual 191, 3) := by decide +kernel
theorem dX11_textRead_39 : decode cX11_textRead 39 = .ok (.goto 9, 3) := by decide +kernel
theorem dX11_textRead_42 : decode cX11_textRead 42 = .ok (.aload_n 0, 1) := by decide +kernel
theorem dX11_textRead_43 : decode cX11_textRead 43 = .ok (.bipush 9, 2) := by decide +kernel
theorem dX11_textRead_45 : decode cX11_textRead 45 = .ok (.invokevirtual 132, 3) := by decide +kernel
theorem dX11_textRead_48 : decode cX11_textRead 48 = .ok (.ireturn, 1) := by decide +kernel
set_option maxRecDepth 20000 in
theorem ggX11_readThrees_X11_within : GoodIn wsX11_readThrees wsX11_within := goodIn_r _ [8] (by decide +kernel) (by decide +kernel)
set_option maxRecDepth 20000 in
theorem gX11_readThrees_X11_within : GoodIn wsX11_readThrees (va_wsS RX11 104 yX11_within wsX11_within) := goodIn_app (goodIn_of _ (by decide +kernel)) ggX11_readThrees_X11_within
set_option maxRecDepth 20000 in
theorem ggX11_readThrees_X11_trayAt : GoodIn wsX11_readThrees wsX11_trayAt := goodIn_r _ [12, 13, 14, 5, 6, 7, 8, 76, 77, 78, 79, 80, 81, 82, 83, 84, 85, 86, 87, 88, 89, 90, 91, 92, 93, 94] (by decide +kernel) (by decide +kernel)
set_option maxRecDepth 20000 in
theorem gX11_readThrees_X11_trayAt : GoodIn wsX11_readThrees (wsV RX11 112 RX11 yX11_trayAt wsX11_trayAt) := goodIn_app (goodIn_of _ (by decide +kernel)) ggX11_readThrees_X11_trayAt
set_option maxRecDepth 20000 in
theorem ggX11_readThrees_X8_isMissing : GoodIn wsX11_readThrees wsX8_isMissing := goodIn_r _ [19, 20, 95, 96, 97] (by decide +kernel) (by decide +kernel)
set_option maxRecDepth 20000 in
theorem gX11_readThrees_X8_isMissing : GoodIn wsX11_readThrees (wsV RX11 140 RX8 yX8_isMissing wsX8_isMissing) := goodIn_app (goodIn_of _ (by decide +kernel)) ggX11_readThrees_X8_isMissing
set_option maxRecDepth 20000 in
theorem ggX11_readThrees_X8_hasRun : GoodIn wsX11_readThrees wsX8_hasRun := goodIn_r _ [24, 25, 95, 96, 97] (by decide +kernel) (by decide +kernel)
set_option maxRecDepth 20000 in
theorem gX11_readThrees_X8_hasRun : GoodIn wsX11_readThrees (wsV RX11 146 RX8 yX8_hasRun wsX8_hasRun) := goodIn_app (goodIn_of _ (by decide +kernel)) ggX11_readThrees_X8_hasRun
set_option maxRecDepth 20000 in
theorem ggX11_readThrees_X8_numberAt : GoodIn wsX11_readThrees wsX8_numberAt := goodIn_r _ [29, 30, 6, 7, 8, 95, 96, 97] (by decide +kernel) (by decide +kernel)
set_option maxRecDepth 20000 in
theorem gX11_readThrees_X8_numberAt : GoodIn wsX11_readThrees (wsV RX11 136 RX8 yX8_numberAt wsX8_numberAt) := goodIn_app (goodIn_of _ (by decide +kernel)) ggX11_readThrees_X8_numberAt
set_option maxRecDepth 20000 in
theorem ggX11_readThrees_X0_countOf : GoodIn wsX11_readThrees wsX0_countOf := goodIn_r _ [35, 36, 98, 99, 100, 101, 102, 103, 104, 105, 106, 107, 108, 109, 110, 111] (by decide +kernel) (by decide +kernel)
set_option maxRecDepth 20000 in
theorem gX11_readThrees_X0_countOf : GoodIn wsX11_readThrees (wsV RX11 167 RX0 yX0_countOf wsX0_countOf) := goodIn_app (goodIn_of _ (by decide +kernel)) ggX11_readThrees_X0_countOf
set_option maxRecDepth 20000 in
theorem ggX11_readThrees_X11_takeThree : GoodIn wsX11_readThrees wsX11_takeThree := goodIn_r _ [40, 3, 41, 42, 1, 2, 43, 44, 45, 34, 46, 47, 48, 49, 50, 51, 52, 53, 54, 55, 56, 57, 58, 32, 33, 35, 36, 59, 60, 61, 62, 63, 64, 65, 66, 67, 68, 69, 70, 71, 72, 73, 74, 75, 76, 77, 78, 79, 80, 81, 82, 83, 84, 85, 86, 87, 88, 89, 90, 91, 92, 93, 94, 112, 113, 114, 115, 116, 98, 99, 100, 101, 102, 103, 104, 105, 106, 107, 108, 109, 110, 111, 117, 118, 119, 120, 121, 122, 123, 124, 125] (by decide +kernel) (by decide +kernel)
set_option maxRecDepth 20000 in
theorem gX11_readThrees_X11_takeThree : GoodIn wsX11_readThrees (wsV RX11 442 RX11 yX11_takeThree wsX11_takeThree) := goodIn_app (goodIn_of _ (by decide +kernel)) ggX11_readThrees_X11_takeThree
theorem dX11_readThrees_0 : decode cX11_readThrees 0 = .ok (.iload_n 1, 1) := by decide +kernel
theorem dX11_readThrees_1 : decode cX11_readThrees 1 = .ok (.iconst 4, 1) := by decide +kernel
theorem dX11_readThrees_2 : decode cX11_readThrees 2 = .ok (.invokestatic 104, 3) := by decide +kernel
theorem dX11_readThrees_5 : decode cX11_readThrees 5 = .ok (.ifCond .eq 12, 3) := by decide +kernel
theorem dX11_readThrees_8 : decode cX11_readThrees 8 = .ok (.iload_n 2, 1) := by decide +kernel
theorem dX11_readThrees_9 : decode cX11_readThrees 9 = .ok (.bipush 21, 2) := by decide +kernel
theorem dX11_readThrees_11 : decode cX11_readThrees 11 = .ok (.invokestatic 104, 3) := by decide +kernel
theorem dX11_readThrees_14 : decode cX11_readThrees 14 = .ok (.ifCond .ne 5, 3) := by decide +kernel
theorem dX11_readThrees_17 : decode cX11_readThrees 17 = .ok (.iconst 1, 1) := by decide +kernel
theorem dX11_readThrees_18 : decode cX11_readThrees 18 = .ok (.ireturn, 1) := by decide +kernel
theorem dX11_readThrees_19 : decode cX11_readThrees 19 = .ok (.aload_n 0, 1) := by decide +kernel
theorem dX11_readThrees_20 : decode cX11_readThrees 20 = .ok (.iload_n 1, 1) := by decide +kernel
theorem dX11_readThrees_21 : decode cX11_readThrees 21 = .ok (.invokevirtual 112, 3) := by decide +kernel
theorem dX11_readThrees_24 : decode cX11_readThrees 24 = .ok (.astore_n 3, 1) := by decide +kernel
theorem dX11_readThrees_25 : decode cX11_readThrees 25 = .ok (.aload_n 3, 1) := by decide +kernel
theorem dX11_readThrees_26 : decode cX11_readThrees 26 = .ok (.invokevirtual 140, 3) := by decide +kernel
theorem dX11_readThrees_29 : decode cX11_readThrees 29 = .ok (.ifCond .eq 5, 3) := by decide +kernel
theorem dX11_readThrees_32 : decode cX11_readThrees 32 = .ok (.iconst 2, 1) := by decide +kernel
theorem dX11_readThrees_33 : decode cX11_readThrees 33 = .ok (.ireturn, 1) := by decide +kernel
theorem dX11_readThrees_34 : decode cX11_readThrees 34 = .ok (.aload_n 3, 1) := by decide +kernel
theorem dX11_readThrees_35 : decode cX11_readThrees 35 = .ok (.iconst 0, 1) := by decide +kernel
theorem dX11_readThrees_36 : decode cX11_readThrees 36 = .ok (.iconst 3, 1) := by decide +kernel
theorem dX11_readThrees_37 : decode cX11_readThrees 37 = .ok (.iload_n 2, 1) := by decide +kernel
theorem dX11_readThrees_38 : decode cX11_readThrees 38 = .ok (.imul, 1) := by decide +kernel
theorem dX11_readThrees_39 : decode cX11_readThrees 39 = .ok (.invokevirtual 146, 3) := by decide +kernel
theorem dX11_readThrees_42 : decode cX11_readThrees 42 = .ok (.ifCond .ne 5, 3) := by decide +kernel
theorem dX11_readThrees_45 : decode cX11_readThrees 45 = .ok (.iconst 3, 1) := by decide +kernel
theorem dX11_readThrees_46 : decode cX11_readThrees 46 = .ok (.ireturn, 1) := by decide +kernel
theorem dX11_readThrees_47 : decode cX11_readThrees 47 = .ok (.aload_n 0, 1) := by decide +kernel
theorem dX11_readThrees_48 : decode cX11_readThrees 48 = .ok (.iconst 0, 1) := by decide +kernel
theorem dX11_readThrees_49 : decode cX11_readThrees 49 = .ok (.putfield 98, 3) := by decide +kernel
theorem dX11_readThrees_52 : decode cX11_readThrees 52 = .ok (.aload_n 0, 1) := by decide +kernel
theorem dX11_readThrees_53 : decode cX11_readThrees 53 = .ok (.iconst 0, 1) := by decide +kernel
theorem dX11_readThrees_54 : decode cX11_readThrees 54 = .ok (.putfield 101, 3) := by decide +kernel
theorem dX11_readThrees_57 : decode cX11_readThrees 57 = .ok (.iconst 0, 1) := by decide +kernel
theorem dX11_readThrees_58 : decode cX11_readThrees 58 = .ok (.istore 4, 2) := by decide +kernel
theorem dX11_readThrees_60 : decode cX11_readThrees 60 = .ok (.iload 4, 2) := by decide +kernel
theorem dX11_readThrees_62 : decode cX11_readThrees 62 = .ok (.iload_n 2, 1) := by decide +kernel
theorem dX11_readThrees_63 : decode cX11_readThrees 63 = .ok (.if_icmp .ge 130, 3) := by decide +kernel
theorem dX11_readThrees_66 : decode cX11_readThrees 66 = .ok (.aload_n 3, 1) := by decide +kernel
theorem dX11_readThrees_67 : decode cX11_readThrees 67 = .ok (.iconst 3, 1) := by decide +kernel
theorem dX11_readThrees_68 : decode cX11_readThrees 68 = .ok (.iload 4, 2) := by decide +kernel
theorem dX11_readThrees_70 : decode cX11_readThrees 70 = .ok (.imul, 1) := by decide +kernel
theorem dX11_readThrees_71 : decode cX11_readThrees 71 = .ok (.invokevirtual 136, 3) := by decide +kernel
theorem dX11_readThrees_74 : decode cX11_readThrees 74 = .ok (.lstore 5, 2) := by decide +kernel
theorem dX11_readThrees_76 : decode cX11_readThrees 76 = .ok (.aload_n 3, 1) := by decide +kernel
theorem dX11_readThrees_77 : decode cX11_readThrees 77 = .ok (.iconst 3, 1) := by decide +kernel
theorem dX11_readThrees_78 : decode cX11_readThrees 78 = .ok (.iload 4, 2) := by decide +kernel
theorem dX11_readThrees_80 : decode cX11_readThrees 80 = .ok (.imul, 1) := by decide +kernel
theorem dX11_readThrees_81 : decode cX11_readThrees 81 = .ok (.iconst 1, 1) := by decide +kernel
theorem dX11_readThrees_82 : decode cX11_readThrees 82 = .ok (.iadd, 1) := by decide +kernel
theorem dX11_readThrees_83 : decode cX11_readThrees 83 = .ok (.invokevirtual 136, 3) := by decide +kernel
theorem dX11_readThrees_86 : decode cX11_readThrees 86 = .ok (.lstore 7, 2) := by decide +kernel
theorem dX11_readThrees_88 : decode cX11_readThrees 88 = .ok (.aload_n 3, 1) := by decide +kernel
theorem dX11_readThrees_89 : decode cX11_readThrees 89 = .ok (.iconst 3, 1) := by decide +kernel
theorem dX11_readThrees_90 : decode cX11_readThrees 90 = .ok (.iload 4, 2) := by decide +kernel
theorem dX11_readThrees_92 : decode cX11_readThrees 92 = .ok (.imul, 1) := by decide +kernel
theorem dX11_readThrees_93 : decode cX11_readThrees 93 = .ok (.iconst 2, 1) := by decide +kernel
theorem dX11_readThrees_94 : decode cX11_readThrees 94 = .ok (.iadd, 1) := by decide +kernel
theorem dX11_readThrees_95 : decode cX11_readThrees 95 = .ok (.invokevirtual 136, 3) := by decide +kernel
theorem dX11_readThrees_98 : decode cX11_readThrees 98 = .ok (.lstore 9, 2) := by decide +kernel
theorem dX11_readThrees_100 : decode cX11_readThrees 100 = .ok (.lload 5, 2) := by decide +kernel
theorem dX11_readThrees_102 : decode cX11_readThrees 102 = .ok (.lconst 0, 1) := by decide +kernel
theorem dX11_readThrees_103 : decode cX11_readThrees 103 = .ok (.lcmp, 1) := by decide +kernel
theorem dX11_readThrees_104 : decode cX11_readThrees 104 = .ok (.ifCond .lt 60, 3) := by decide +kernel
theorem dX11_readThrees_107 : decode cX11_readThrees 107 = .ok (.lload 5, 2) := by decide +kernel
theorem dX11_readThrees_109 : decode cX11_readThrees 109 = .ok (.aload_n 0, 1) := by decide +kernel
theorem dX11_readThrees_110 : decode cX11_readThrees 110 = .ok (.getfield 10, 3) := by decide +kernel
theorem dX11_readThrees_113 : decode cX11_readThrees 113 = .ok (.iconst 3, 1) := by decide +kernel
theorem dX11_readThrees_114 : decode cX11_readThrees 114 = .ok (.invokevirtual 167, 3) := by decide +kernel
theorem dX11_readThrees_117 : decode cX11_readThrees 117 = .ok (.i2l, 1) := by decide +kernel
theorem dX11_readThrees_118 : decode cX11_readThrees 118 = .ok (.lcmp, 1) := by decide +kernel
theorem dX11_readThrees_119 : decode cX11_readThrees 119 = .ok (.ifCond .ge 45, 3) := by decide +kernel
theorem dX11_readThrees_122 : decode cX11_readThrees 122 = .ok (.lload 7, 2) := by decide +kernel
theorem dX11_readThrees_124 : decode cX11_readThrees 124 = .ok (.lconst 0, 1) := by decide +kernel
theorem dX11_readThrees_125 : decode cX11_readThrees 125 = .ok (.lcmp, 1) := by decide +kernel
theorem dX11_readThrees_126 : decode cX11_readThrees 126 = .ok (.ifCond .lt 38, 3) := by decide +kernel
theorem dX11_readThrees_129 : decode cX11_readThrees 129 = .ok (.lload 7, 2) := by decide +kernel
theorem dX11_readThrees_131 : decode cX11_readThrees 131 = .ok (.ldc2_w 440, 3) := by decide +kernel
theorem dX11_readThrees_134 : decode cX11_readThrees 134 = .ok (.lcmp, 1) := by decide +kernel
theorem dX11_readThrees_135 : decode cX11_readThrees 135 = .ok (.ifCond .gt 29, 3) := by decide +kernel
theorem dX11_readThrees_138 : decode cX11_readThrees 138 = .ok (.lload 9, 2) := by decide +kernel
theorem dX11_readThrees_140 : decode cX11_readThrees 140 = .ok (.lconst 0, 1) := by decide +kernel
theorem dX11_readThrees_141 : decode cX11_readThrees 141 = .ok (.lcmp, 1) := by decide +kernel
theorem dX11_readThrees_142 : decode cX11_readThrees 142 = .ok (.ifCond .lt 22, 3) := by decide +kernel
theorem dX11_readThrees_145 : decode cX11_readThrees 145 = .ok (.lload 9, 2) := by decide +kernel
theorem dX11_readThrees_147 : decode cX11_readThrees 147 = .ok (.aload_n 0, 1) := by decide +kernel
theorem dX11_readThrees_148 : decode cX11_readThrees 148 = .ok (.getfield 10, 3) := by decide +kernel
theorem dX11_readThrees_151 : decode cX11_readThrees 151 = .ok (.iconst 1, 1) := by decide +kernel
theorem dX11_readThrees_152 : decode cX11_readThrees 152 = .ok (.invokevirtual 167, 3) := by decide +kernel
theorem dX11_readThrees_155 : decode cX11_readThrees 155 = .ok (.i2l, 1) := by decide +kernel
theorem dX11_readThrees_156 : decode cX11_readThrees 156 = .ok (.lcmp, 1) := by decide +kernel
theorem dX11_readThrees_157 : decode cX11_readThrees 157 = .ok (.ifCond .gt 7, 3) := by decide +kernel
theorem dX11_readThrees_160 : decode cX11_readThrees 160 = .ok (.iconst 1, 1) := by decide +kernel
theorem dX11_readThrees_161 : decode cX11_readThrees 161 = .ok (.goto 4, 3) := by decide +kernel
theorem dX11_readThrees_164 : decode cX11_readThrees 164 = .ok (.iconst 0, 1) := by decide +kernel
theorem dX11_readThrees_165 : decode cX11_readThrees 165 = .ok (.istore 11, 2) := by decide +kernel
theorem dX11_readThrees_167 : decode cX11_readThrees 167 = .ok (.iload 11, 2) := by decide +kernel
theorem dX11_readThrees_169 : decode cX11_readThrees 169 = .ok (.ifCond .ne 5, 3) := by decide +kernel
theorem dX11_readThrees_172 : decode cX11_readThrees 172 = .ok (.iconst 5, 1) := by decide +kernel
theorem dX11_readThrees_173 : decode cX11_readThrees 173 = .ok (.ireturn, 1) := by decide +kernel
theorem dX11_readThrees_174 : decode cX11_readThrees 174 = .ok (.aload_n 0, 1) := by decide +kernel
theorem dX11_readThrees_175 : decode cX11_readThrees 175 = .ok (.lload 5, 2) := by decide +kernel
theorem dX11_readThrees_177 : decode cX11_readThrees 177 = .ok (.l2i, 1) := by decide +kernel
theorem dX11_readThrees_178 : decode cX11_readThrees 178 = .ok (.lload 7, 2) := by decide +kernel
theorem dX11_readThrees_180 : decode cX11_readThrees 180 = .ok (.l2i, 1) := by decide +kernel
theorem dX11_readThrees_181 : decode cX11_readThrees 181 = .ok (.lload 9, 2) := by decide +kernel
theorem dX11_readThrees_183 : decode cX11_readThrees 183 = .ok (.l2i, 1) := by decide +kernel
theorem dX11_readThrees_184 : decode cX11_readThrees 184 = .ok (.invokevirtual 442, 3) := by decide +kernel
theorem dX11_readThrees_187 : decode cX11_readThrees 187 = .ok (.iinc 4 1, 3) := by decide +kernel
theorem dX11_readThrees_190 : decode cX11_readThrees 190 = .ok (.goto (-130), 3) := by decide +kernel
theorem dX11_readThrees_193 : decode cX11_readThrees 193 = .ok (.iconst 0, 1) := by decide +kernel
theorem dX11_readThrees_194 : decode cX11_readThrees 194 = .ok (.ireturn, 1) := by decide +kernel
set_option maxRecDepth 20000 in
theorem ggX11_takeThree_X0_personAt : GoodIn wsX11_takeThree wsX0_personAt := goodIn_r _ [10, 11, 12, 68, 69, 70, 71, 72, 73, 74, 75, 76, 77, 78, 79, 80, 81] (by decide +kernel) (by decide +kernel)
set_option maxRecDepth 20000 in
theorem gX11_takeThree_X0_personAt : GoodIn wsX11_takeThree (wsV RX11 228 RX0 yX0_personAt wsX0_personAt) := goodIn_app (goodIn_of _ (by decide +kernel)) ggX11_takeThree_X0_personAt
set_option maxRecDepth 20000 in
theorem ggX11_takeThree_X0_cueFor : GoodIn wsX11_takeThree wsX0_cueFor := goodIn_r _ [16, 17, 18, 19, 20, 9, 21, 22, 23, 24, 25, 26, 27, 28, 29, 30, 31, 32, 33, 34, 35, 36, 37, 38, 39, 40, 41, 42, 43, 82, 83, 84, 85, 86, 87, 88, 89, 90, 68, 69, 70, 71, 72, 73, 74, 75, 76, 77, 78, 79, 80, 81] (by decide +kernel) (by decide +kernel)
set_option maxRecDepth 20000 in
theorem gX11_takeThree_X0_cueFor : GoodIn wsX11_takeThree (wsV RX11 446 RX0 yX0_cueFor wsX0_cueFor) := goodIn_app (goodIn_of _ (by decide +kernel)) ggX11_takeThree_X0_cueFor
theorem dX11_takeThree_0 : decode cX11_takeThree 0 = .ok (.aload_n 0, 1) := by decide +kernel
theorem dX11_takeThree_1 : decode cX11_takeThree 1 = .ok (.getfield 10, 3) := by decide +kernel
theorem dX11_takeThree_4 : decode cX11_takeThree 4 = .ok (.iload_n 1, 1) := by decide +kernel
theorem dX11_takeThree_5 : decode cX11_takeThree 5 = .ok (.invokevirtual 228, 3) := by decide +kernel
theorem dX11_takeThree_8 : decode cX11_takeThree 8 = .ok (.astore 4, 2) := by decide +kernel
theorem dX11_takeThree_10 : decode cX11_takeThree 10 = .ok (.aload_n 0, 1) := by decide +kernel
theorem dX11_takeThree_11 : decode cX11_takeThree 11 = .ok (.getfield 10, 3) := by decide +kernel
theorem dX11_takeThree_14 : decode cX11_takeThree 14 = .ok (.iconst 1, 1) := by decide +kernel
theorem dX11_takeThree_15 : decode cX11_takeThree 15 = .ok (.aload 4, 2) := by decide +kernel
theorem dX11_takeThree_17 : decode cX11_takeThree 17 = .ok (.getfield 232, 3) := by decide +kernel
theorem dX11_takeThree_20 : decode cX11_takeThree 20 = .ok (.iload_n 2, 1) := by decide +kernel
theorem dX11_takeThree_21 : decode cX11_takeThree 21 = .ok (.aload 4, 2) := by decide +kernel
theorem dX11_takeThree_23 : decode cX11_takeThree 23 = .ok (.getfield 237, 3) := by decide +kernel
theorem dX11_takeThree_26 : decode cX11_takeThree 26 = .ok (.invokevirtual 446, 3) := by decide +kernel
theorem dX11_takeThree_29 : decode cX11_takeThree 29 = .ok (.iload_n 3, 1) := by decide +kernel
theorem dX11_takeThree_30 : decode cX11_takeThree 30 = .ok (.if_icmp .eq 15, 3) := by decide +kernel
theorem dX11_takeThree_33 : decode cX11_takeThree 33 = .ok (.aload_n 0, 1) := by decide +kernel
theorem dX11_takeThree_34 : decode cX11_takeThree 34 = .ok (.dup, 1) := by decide +kernel
theorem dX11_takeThree_35 : decode cX11_takeThree 35 = .ok (.getfield 98, 3) := by decide +kernel
theorem dX11_takeThree_38 : decode cX11_takeThree 38 = .ok (.iconst 1, 1) := by decide +kernel
theorem dX11_takeThree_39 : decode cX11_takeThree 39 = .ok (.iload_n 1, 1) := by decide +kernel
theorem dX11_takeThree_40 : decode cX11_takeThree 40 = .ok (.ishl, 1) := by decide +kernel
theorem dX11_takeThree_41 : decode cX11_takeThree 41 = .ok (.ior, 1) := by decide +kernel
theorem dX11_takeThree_42 : decode cX11_takeThree 42 = .ok (.putfield 98, 3) := by decide +kernel
theorem dX11_takeThree_45 : decode cX11_takeThree 45 = .ok (.aload_n 0, 1) := by decide +kernel
theorem dX11_takeThree_46 : decode cX11_takeThree 46 = .ok (.getfield 10, 3) := by decide +kernel
theorem dX11_takeThree_49 : decode cX11_takeThree 49 = .ok (.iconst 2, 1) := by decide +kernel
theorem dX11_takeThree_50 : decode cX11_takeThree 50 = .ok (.aload 4, 2) := by decide +kernel
theorem dX11_takeThree_52 : decode cX11_takeThree 52 = .ok (.getfield 232, 3) := by decide +kernel
theorem dX11_takeThree_55 : decode cX11_takeThree 55 = .ok (.iload_n 2, 1) := by decide +kernel
theorem dX11_takeThree_56 : decode cX11_takeThree 56 = .ok (.aload 4, 2) := by decide +kernel
theorem dX11_takeThree_58 : decode cX11_takeThree 58 = .ok (.getfield 237, 3) := by decide +kernel
theorem dX11_takeThree_61 : decode cX11_takeThree 61 = .ok (.invokevirtual 446, 3) := by decide +kernel
theorem dX11_takeThree_64 : decode cX11_takeThree 64 = .ok (.iload_n 3, 1) := by decide +kernel
theorem dX11_takeThree_65 : decode cX11_takeThree 65 = .ok (.if_icmp .eq 15, 3) := by decide +kernel
theorem dX11_takeThree_68 : decode cX11_takeThree 68 = .ok (.aload_n 0, 1) := by decide +kernel
theorem dX11_takeThree_69 : decode cX11_takeThree 69 = .ok (.dup, 1) := by decide +kernel
theorem dX11_takeThree_70 : decode cX11_takeThree 70 = .ok (.getfield 101, 3) := by decide +kernel
theorem dX11_takeThree_73 : decode cX11_takeThree 73 = .ok (.iconst 1, 1) := by decide +kernel
theorem dX11_takeThree_74 : decode cX11_takeThree 74 = .ok (.iload_n 1, 1) := by decide +kernel
theorem dX11_takeThree_75 : decode cX11_takeThree 75 = .ok (.ishl, 1) := by decide +kernel
theorem dX11_takeThree_76 : decode cX11_takeThree 76 = .ok (.ior, 1) := by decide +kernel
theorem dX11_takeThree_77 : decode cX11_takeThree 77 = .ok (.putfield 101, 3) := by decide +kernel
theorem dX11_takeThree_80 : decode cX11_takeThree 80 = .ok (.return_, 1) := by decide +kernel
set_option maxRecDepth 20000 in
theorem ggX11_ways_X0_countOf : GoodIn wsX11_ways wsX0_countOf := goodIn_r _ [8, 9, 36, 37, 38, 39, 40, 41, 42, 43, 44, 45, 46, 47, 48, 49] (by decide +kernel) (by decide +kernel)
set_option maxRecDepth 20000 in
theorem gX11_ways_X0_countOf : GoodIn wsX11_ways (wsV RX11 167 RX0 yX0_countOf wsX0_countOf) := goodIn_app (goodIn_of _ (by decide +kernel)) ggX11_ways_X0_countOf
set_option maxRecDepth 20000 in
theorem ggX11_ways_J6_bitCount_0f7a4 : GoodIn wsX11_ways wsJ6_bitCount_0f7a4 := goodIn_r _ [13, 14, 15, 16] (by decide +kernel) (by decide +kernel)
set_option maxRecDepth 20000 in
theorem gX11_ways_J6_bitCount_0f7a4 : GoodIn wsX11_ways (va_wsS RX11 270 yJ6_bitCount_0f7a4 wsJ6_bitCount_0f7a4) := goodIn_app (goodIn_of _ (by decide +kernel)) ggX11_ways_J6_bitCount_0f7a4
theorem dX11_ways_0 : decode cX11_ways 0 = .ok (.aload_n 0, 1) := by decide +kernel
theorem dX11_ways_1 : decode cX11_ways 1 = .ok (.getfield 98, 3) := by decide +kernel
theorem dX11_ways_4 : decode cX11_ways 4 = .ok (.aload_n 0, 1) := by decide +kernel
theorem dX11_ways_5 : decode cX11_ways 5 = .ok (.getfield 101, 3) := by decide +kernel
theorem dX11_ways_8 : decode cX11_ways 8 = .ok (.iand, 1) := by decide +kernel
theorem dX11_ways_9 : decode cX11_ways 9 = .ok (.ifCond .eq 5, 3) := by decide +kernel
theorem dX11_ways_12 : decode cX11_ways 12 = .ok (.iconst 0, 1) := by decide +kernel
theorem dX11_ways_13 : decode cX11_ways 13 = .ok (.ireturn, 1) := by decide +kernel
theorem dX11_ways_14 : decode cX11_ways 14 = .ok (.iconst 1, 1) := by decide +kernel
theorem dX11_ways_15 : decode cX11_ways 15 = .ok (.aload_n 0, 1) := by decide +kernel
theorem dX11_ways_16 : decode cX11_ways 16 = .ok (.getfield 10, 3) := by decide +kernel
theorem dX11_ways_19 : decode cX11_ways 19 = .ok (.iconst 3, 1) := by decide +kernel
theorem dX11_ways_20 : decode cX11_ways 20 = .ok (.invokevirtual 167, 3) := by decide +kernel
theorem dX11_ways_23 : decode cX11_ways 23 = .ok (.aload_n 0, 1) := by decide +kernel
theorem dX11_ways_24 : decode cX11_ways 24 = .ok (.getfield 98, 3) := by decide +kernel
theorem dX11_ways_27 : decode cX11_ways 27 = .ok (.aload_n 0, 1) := by decide +kernel
theorem dX11_ways_28 : decode cX11_ways 28 = .ok (.getfield 101, 3) := by decide +kernel
theorem dX11_ways_31 : decode cX11_ways 31 = .ok (.ior, 1) := by decide +kernel
theorem dX11_ways_32 : decode cX11_ways 32 = .ok (.invokestatic 270, 3) := by decide +kernel
theorem dX11_ways_35 : decode cX11_ways 35 = .ok (.isub, 1) := by decide +kernel
theorem dX11_ways_36 : decode cX11_ways 36 = .ok (.ishl, 1) := by decide +kernel
theorem dX11_ways_37 : decode cX11_ways 37 = .ok (.ireturn, 1) := by decide +kernel
set_option maxRecDepth 20000 in
theorem ggX11_isOpen_X11_isIn : GoodIn wsX11_isOpen wsX11_isIn := goodIn_r _ [6] (by decide +kernel) (by decide +kernel)
set_option maxRecDepth 20000 in
theorem gX11_isOpen_X11_isIn : GoodIn wsX11_isOpen (va_wsS RX11 336 yX11_isIn wsX11_isIn) := goodIn_app (goodIn_of _ (by decide +kernel)) ggX11_isOpen_X11_isIn
theorem dX11_isOpen_0 : decode cX11_isOpen 0 = .ok (.aload_n 0, 1) := by decide +kernel
theorem dX11_isOpen_1 : decode cX11_isOpen 1 = .ok (.getfield 98, 3) := by decide +kernel
theorem dX11_isOpen_4 : decode cX11_isOpen 4 = .ok (.aload_n 0, 1) := by decide +kernel
theorem dX11_isOpen_5 : decode cX11_isOpen 5 = .ok (.getfield 101, 3) := by decide +kernel
theorem dX11_isOpen_8 : decode cX11_isOpen 8 = .ok (.ior, 1) := by decide +kernel
theorem dX11_isOpen_9 : decode cX11_isOpen 9 = .ok (.iload_n 1, 1) := by decide +kernel
theorem dX11_isOpen_10 : decode cX11_isOpen 10 = .ok (.invokestatic 336, 3) := by decide +kernel
theorem dX11_isOpen_13 : decode cX11_isOpen 13 = .ok (.ifCond .ne 7, 3) := by decide +kernel
theorem dX11_isOpen_16 : decode cX11_isOpen 16 = .ok (.iconst 1, 1) := by decide +kernel
theorem dX11_isOpen_17 : decode cX11_isOpen 17 = .ok (.goto 4, 3) := by decide +kernel
theorem dX11_isOpen_20 : decode cX11_isOpen 20 = .ok (.iconst 0, 1) := by decide +kernel
theorem dX11_isOpen_21 : decode cX11_isOpen 21 = .ok (.ireturn, 1) := by decide +kernel
set_option maxRecDepth 20000 in
theorem ggX11_bestQuestion_X0_countOf : GoodIn wsX11_bestQuestion wsX0_countOf := goodIn_r _ [8, 9, 77, 78, 79, 80, 81, 82, 83, 84, 85, 86, 87, 88, 89, 90] (by decide +kernel) (by decide +kernel)
set_option maxRecDepth 20000 in
theorem gX11_bestQuestion_X0_countOf : GoodIn wsX11_bestQuestion (wsV RX11 167 RX0 yX0_countOf wsX0_countOf) := goodIn_app (goodIn_of _ (by decide +kernel)) ggX11_bestQuestion_X0_countOf
set_option maxRecDepth 20000 in
theorem ggX11_bestQuestion_X0_personAt : GoodIn wsX11_bestQuestion wsX0_personAt := goodIn_r _ [13, 14, 15, 77, 78, 79, 80, 81, 82, 83, 84, 85, 86, 87, 88, 89, 90] (by decide +kernel) (by decide +kernel)
set_option maxRecDepth 20000 in
theorem gX11_bestQuestion_X0_personAt : GoodIn wsX11_bestQuestion (wsV RX11 228 RX0 yX0_personAt wsX0_personAt) := goodIn_app (goodIn_of _ (by decide +kernel)) ggX11_bestQuestion_X0_personAt
set_option maxRecDepth 20000 in
theorem ggX11_bestQuestion_X11_isOpen : GoodIn wsX11_bestQuestion wsX11_isOpen := goodIn_r _ [20, 21, 22, 23, 24, 19, 25, 53, 54, 55, 56, 57, 58, 59, 60, 61, 62, 63, 64, 65, 66, 67, 68, 69, 70, 71] (by decide +kernel) (by decide +kernel)
set_option maxRecDepth 20000 in
theorem gX11_bestQuestion_X11_isOpen : GoodIn wsX11_bestQuestion (wsV RX11 333 RX11 yX11_isOpen wsX11_isOpen) := goodIn_app (goodIn_of _ (by decide +kernel)) ggX11_bestQuestion_X11_isOpen
set_option maxRecDepth 20000 in
theorem ggX11_bestQuestion_X0_cueFor : GoodIn wsX11_bestQuestion wsX0_cueFor := goodIn_r _ [29, 30, 31, 32, 33, 7, 34, 35, 5, 6, 8, 9, 36, 37, 38, 39, 40, 41, 42, 43, 44, 45, 46, 47, 48, 49, 50, 51, 52, 91, 92, 93, 94, 95, 96, 97, 98, 99, 77, 78, 79, 80, 81, 82, 83, 84, 85, 86, 87, 88, 89, 90] (by decide +kernel) (by decide +kernel)
set_option maxRecDepth 20000 in
theorem gX11_bestQuestion_X0_cueFor : GoodIn wsX11_bestQuestion (wsV RX11 446 RX0 yX0_cueFor wsX0_cueFor) := goodIn_app (goodIn_of _ (by decide +kernel)) ggX11_bestQuestion_X0_cueFor
theorem dX11_bestQuestion_0 : decode cX11_bestQuestion 0 = .ok (.iconst 0, 1) := by decide +kernel
theorem dX11_bestQuestion_1 : decode cX11_bestQuestion 1 = .ok (.istore_n 1, 1) := by decide +kernel
theorem dX11_bestQuestion_2 : decode cX11_bestQuestion 2 = .ok (.iload_n 1, 1) := by decide +kernel
theorem dX11_bestQuestion_3 : decode cX11_bestQuestion 3 = .ok (.aload_n 0, 1) := by decide +kernel
theorem dX11_bestQuestion_4 : decode cX11_bestQuestion 4 = .ok (.getfield 10, 3) := by decide +kernel
theorem dX11_bestQuestion_7 : decode cX11_bestQuestion 7 = .ok (.iconst 3, 1) := by decide +kernel
theorem dX11_bestQuestion_8 : decode cX11_bestQuestion 8 = .ok (.invokevirtual 167, 3) := by decide +kernel
theorem dX11_bestQuestion_11 : decode cX11_bestQuestion 11 = .ok (.if_icmp .ge 88, 3) := by decide +kernel
theorem dX11_bestQuestion_14 : decode cX11_bestQuestion 14 = .ok (.aload_n 0, 1) := by decide +kernel
theorem dX11_bestQuestion_15 : decode cX11_bestQuestion 15 = .ok (.getfield 10, 3) := by decide +kernel
theorem dX11_bestQuestion_18 : decode cX11_bestQuestion 18 = .ok (.iload_n 1, 1) := by decide +kernel
theorem dX11_bestQuestion_19 : decode cX11_bestQuestion 19 = .ok (.invokevirtual 228, 3) := by decide +kernel
theorem dX11_bestQuestion_22 : decode cX11_bestQuestion 22 = .ok (.astore_n 2, 1) := by decide +kernel
theorem dX11_bestQuestion_23 : decode cX11_bestQuestion 23 = .ok (.iconst 0, 1) := by decide +kernel
theorem dX11_bestQuestion_24 : decode cX11_bestQuestion 24 = .ok (.istore_n 3, 1) := by decide +kernel
theorem dX11_bestQuestion_25 : decode cX11_bestQuestion 25 = .ok (.iload_n 3, 1) := by decide +kernel
theorem dX11_bestQuestion_26 : decode cX11_bestQuestion 26 = .ok (.bipush 9, 2) := by decide +kernel
theorem dX11_bestQuestion_28 : decode cX11_bestQuestion 28 = .ok (.if_icmp .gt 65, 3) := by decide +kernel
theorem dX11_bestQuestion_31 : decode cX11_bestQuestion 31 = .ok (.aload_n 0, 1) := by decide +kernel
theorem dX11_bestQuestion_32 : decode cX11_bestQuestion 32 = .ok (.iload_n 1, 1) := by decide +kernel
theorem dX11_bestQuestion_33 : decode cX11_bestQuestion 33 = .ok (.invokevirtual 333, 3) := by decide +kernel
theorem dX11_bestQuestion_36 : decode cX11_bestQuestion 36 = .ok (.ifCond .eq 57, 3) := by decide +kernel
theorem dX11_bestQuestion_39 : decode cX11_bestQuestion 39 = .ok (.aload_n 0, 1) := by decide +kernel
theorem dX11_bestQuestion_40 : decode cX11_bestQuestion 40 = .ok (.getfield 10, 3) := by decide +kernel
theorem dX11_bestQuestion_43 : decode cX11_bestQuestion 43 = .ok (.iconst 1, 1) := by decide +kernel
theorem dX11_bestQuestion_44 : decode cX11_bestQuestion 44 = .ok (.aload_n 2, 1) := by decide +kernel
theorem dX11_bestQuestion_45 : decode cX11_bestQuestion 45 = .ok (.getfield 232, 3) := by decide +kernel
theorem dX11_bestQuestion_48 : decode cX11_bestQuestion 48 = .ok (.iload_n 3, 1) := by decide +kernel
theorem dX11_bestQuestion_49 : decode cX11_bestQuestion 49 = .ok (.aload_n 2, 1) := by decide +kernel
theorem dX11_bestQuestion_50 : decode cX11_bestQuestion 50 = .ok (.getfield 237, 3) := by decide +kernel
theorem dX11_bestQuestion_53 : decode cX11_bestQuestion 53 = .ok (.invokevirtual 446, 3) := by decide +kernel
theorem dX11_bestQuestion_56 : decode cX11_bestQuestion 56 = .ok (.istore 4, 2) := by decide +kernel
theorem dX11_bestQuestion_58 : decode cX11_bestQuestion 58 = .ok (.iload 4, 2) := by decide +kernel
theorem dX11_bestQuestion_60 : decode cX11_bestQuestion 60 = .ok (.aload_n 0, 1) := by decide +kernel
theorem dX11_bestQuestion_61 : decode cX11_bestQuestion 61 = .ok (.getfield 10, 3) := by decide +kernel
theorem dX11_bestQuestion_64 : decode cX11_bestQuestion 64 = .ok (.iconst 2, 1) := by decide +kernel
theorem dX11_bestQuestion_65 : decode cX11_bestQuestion 65 = .ok (.aload_n 2, 1) := by decide +kernel
theorem dX11_bestQuestion_66 : decode cX11_bestQuestion 66 = .ok (.getfield 232, 3) := by decide +kernel
theorem dX11_bestQuestion_69 : decode cX11_bestQuestion 69 = .ok (.iload_n 3, 1) := by decide +kernel
theorem dX11_bestQuestion_70 : decode cX11_bestQuestion 70 = .ok (.aload_n 2, 1) := by decide +kernel
theorem dX11_bestQuestion_71 : decode cX11_bestQuestion 71 = .ok (.getfield 237, 3) := by decide +kernel
theorem dX11_bestQuestion_74 : decode cX11_bestQuestion 74 = .ok (.invokevirtual 446, 3) := by decide +kernel
theorem dX11_bestQuestion_77 : decode cX11_bestQuestion 77 = .ok (.if_icmp .eq 10, 3) := by decide +kernel
theorem dX11_bestQuestion_80 : decode cX11_bestQuestion 80 = .ok (.iload_n 1, 1) := by decide +kernel
theorem dX11_bestQuestion_81 : decode cX11_bestQuestion 81 = .ok (.bipush 10, 2) := by decide +kernel
theorem dX11_bestQuestion_83 : decode cX11_bestQuestion 83 = .ok (.imul, 1) := by decide +kernel
theorem dX11_bestQuestion_84 : decode cX11_bestQuestion 84 = .ok (.iload_n 3, 1) := by decide +kernel
theorem dX11_bestQuestion_85 : decode cX11_bestQuestion 85 = .ok (.iadd, 1) := by decide +kernel
theorem dX11_bestQuestion_86 : decode cX11_bestQuestion 86 = .ok (.ireturn, 1) := by decide +kernel
theorem dX11_bestQuestion_87 : decode cX11_bestQuestion 87 = .ok (.iinc 3 1, 3) := by decide +kernel
theorem dX11_bestQuestion_90 : decode cX11_bestQuestion 90 = .ok (.goto (-65), 3) := by decide +kernel
theorem dX11_bestQuestion_93 : decode cX11_bestQuestion 93 = .ok (.iinc 1 1, 3) := by decide +kernel
theorem dX11_bestQuestion_96 : decode cX11_bestQuestion 96 = .ok (.goto (-94), 3) := by decide +kernel
theorem dX11_bestQuestion_99 : decode cX11_bestQuestion 99 = .ok (.iconst 0, 1) := by decide +kernel
theorem dX11_bestQuestion_100 : decode cX11_bestQuestion 100 = .ok (.ireturn, 1) := by decide +kernel
set_option maxRecDepth 20000 in
theorem ggX11_leastPlan_X0_personAt : GoodIn wsX11_leastPlan wsX0_personAt := goodIn_r _ [10, 11, 12, 80, 81, 82, 83, 84, 85, 86, 87, 88, 89, 90, 91, 92, 93] (by decide +kernel) (by decide +kernel)
set_option maxRecDepth 20000 in
theorem gX11_leastPlan_X0_personAt : GoodIn wsX11_leastPlan (wsV RX11 228 RX0 yX0_personAt wsX0_personAt) := goodIn_app (goodIn_of _ (by decide +kernel)) ggX11_leastPlan_X0_personAt
set_option maxRecDepth 20000 in
theorem ggX11_leastPlan_X0_countOf : GoodIn wsX11_leastPlan wsX0_countOf := goodIn_r _ [16, 17, 80, 81, 82, 83, 84, 85, 86, 87, 88, 89, 90, 91, 92, 93] (by decide +kernel) (by decide +kernel)
set_option maxRecDepth 20000 in
theorem gX11_leastPlan_X0_countOf : GoodIn wsX11_leastPlan (wsV RX11 167 RX0 yX0_countOf wsX0_countOf) := goodIn_app (goodIn_of _ (by decide +kernel)) ggX11_leastPlan_X0_countOf
set_option maxRecDepth 20000 in
theorem ggX11_leastPlan_X11_setOfAll : GoodIn wsX11_leastPlan wsX11_setOfAll := goodIn_r _ [21] (by decide +kernel) (by decide +kernel)
set_option maxRecDepth 20000 in
theorem gX11_leastPlan_X11_setOfAll : GoodIn wsX11_leastPlan (va_wsS RX11 207 yX11_setOfAll wsX11_setOfAll) := goodIn_app (goodIn_of _ (by decide +kernel)) ggX11_leastPlan_X11_setOfAll
set_option maxRecDepth 20000 in
theorem ggX11_leastPlan_J6_bitCount_0f7a4 : GoodIn wsX11_leastPlan wsJ6_bitCount_0f7a4 := goodIn_r _ [25, 26, 27, 28] (by decide +kernel) (by decide +kernel)
set_option maxRecDepth 20000 in
theorem gX11_leastPlan_J6_bitCount_0f7a4 : GoodIn wsX11_leastPlan (va_wsS RX11 270 yJ6_bitCount_0f7a4 wsJ6_bitCount_0f7a4) := goodIn_app (goodIn_of _ (by decide +kernel)) ggX11_leastPlan_J6_bitCount_0f7a4
set_option maxRecDepth 20000 in
theorem ggX11_leastPlan_X0_cueFor : GoodIn wsX11_leastPlan wsX0_cueFor := goodIn_r _ [32, 33, 34, 35, 36, 9, 37, 38, 14, 15, 16, 17, 39, 40, 41, 42, 43, 44, 45, 46, 47, 48, 49, 50, 51, 52, 53, 54, 55, 94, 95, 96, 97, 98, 99, 100, 101, 102, 80, 81, 82, 83, 84, 85, 86, 87, 88, 89, 90, 91, 92, 93] (by decide +kernel) (by decide +kernel)
set_option maxRecDepth 20000 in
theorem gX11_leastPlan_X0_cueFor : GoodIn wsX11_leastPlan (wsV RX11 446 RX0 yX0_cueFor wsX0_cueFor) := goodIn_app (goodIn_of _ (by decide +kernel)) ggX11_leastPlan_X0_cueFor
theorem dX11_leastPlan_0 : decode cX11_leastPlan 0 = .ok (.aload_n 0, 1) := by decide +kernel
theorem dX11_leastPlan_1 : decode cX11_leastPlan 1 = .ok (.getfield 10, 3) := by decide +kernel
theorem dX11_leastPlan_4 : decode cX11_leastPlan 4 = .ok (.iload_n 1, 1) := by decide +kernel
theorem dX11_leastPlan_5 : decode cX11_leastPlan 5 = .ok (.invokevirtual 228, 3) := by decide +kernel
theorem dX11_leastPlan_8 : decode cX11_leastPlan 8 = .ok (.astore_n 3, 1) := by decide +kernel
theorem dX11_leastPlan_9 : decode cX11_leastPlan 9 = .ok (.iconst (-1), 1) := by decide +kernel
theorem dX11_leastPlan_10 : decode cX11_leastPlan 10 = .ok (.istore 4, 2) := by decide +kernel
theorem dX11_leastPlan_12 : decode cX11_leastPlan 12 = .ok (.iconst 0, 1) := by decide +kernel
theorem dX11_leastPlan_13 : decode cX11_leastPlan 13 = .ok (.istore 5, 2) := by decide +kernel
theorem dX11_leastPlan_15 : decode cX11_leastPlan 15 = .ok (.iload 5, 2) := by decide +kernel
theorem dX11_leastPlan_17 : decode cX11_leastPlan 17 = .ok (.bipush 20, 2) := by decide +kernel
theorem dX11_leastPlan_19 : decode cX11_leastPlan 19 = .ok (.if_icmp .gt 136, 3) := by decide +kernel
theorem dX11_leastPlan_22 : decode cX11_leastPlan 22 = .ok (.aload_n 3, 1) := by decide +kernel
theorem dX11_leastPlan_23 : decode cX11_leastPlan 23 = .ok (.getfield 232, 3) := by decide +kernel
theorem dX11_leastPlan_26 : decode cX11_leastPlan 26 = .ok (.iload 5, 2) := by decide +kernel
theorem dX11_leastPlan_28 : decode cX11_leastPlan 28 = .ok (.iadd, 1) := by decide +kernel
theorem dX11_leastPlan_29 : decode cX11_leastPlan 29 = .ok (.bipush 99, 2) := by decide +kernel
theorem dX11_leastPlan_31 : decode cX11_leastPlan 31 = .ok (.if_icmp .gt 124, 3) := by decide +kernel
theorem dX11_leastPlan_34 : decode cX11_leastPlan 34 = .ok (.iconst 0, 1) := by decide +kernel
theorem dX11_leastPlan_35 : decode cX11_leastPlan 35 = .ok (.istore 6, 2) := by decide +kernel
theorem dX11_leastPlan_37 : decode cX11_leastPlan 37 = .ok (.iload 6, 2) := by decide +kernel
theorem dX11_leastPlan_39 : decode cX11_leastPlan 39 = .ok (.aload_n 0, 1) := by decide +kernel
theorem dX11_leastPlan_40 : decode cX11_leastPlan 40 = .ok (.getfield 10, 3) := by decide +kernel
theorem dX11_leastPlan_43 : decode cX11_leastPlan 43 = .ok (.iconst 0, 1) := by decide +kernel
theorem dX11_leastPlan_44 : decode cX11_leastPlan 44 = .ok (.invokevirtual 167, 3) := by decide +kernel
theorem dX11_leastPlan_47 : decode cX11_leastPlan 47 = .ok (.invokestatic 207, 3) := by decide +kernel
theorem dX11_leastPlan_50 : decode cX11_leastPlan 50 = .ok (.if_icmp .gt 99, 3) := by decide +kernel
theorem dX11_leastPlan_53 : decode cX11_leastPlan 53 = .ok (.iload 5, 2) := by decide +kernel
theorem dX11_leastPlan_55 : decode cX11_leastPlan 55 = .ok (.iload 6, 2) := by decide +kernel
theorem dX11_leastPlan_57 : decode cX11_leastPlan 57 = .ok (.aload_n 3, 1) := by decide +kernel
theorem dX11_leastPlan_58 : decode cX11_leastPlan 58 = .ok (.getfield 237, 3) := by decide +kernel
theorem dX11_leastPlan_61 : decode cX11_leastPlan 61 = .ok (.ixor, 1) := by decide +kernel
theorem dX11_leastPlan_62 : decode cX11_leastPlan 62 = .ok (.invokestatic 270, 3) := by decide +kernel
theorem dX11_leastPlan_65 : decode cX11_leastPlan 65 = .ok (.iadd, 1) := by decide +kernel
theorem dX11_leastPlan_66 : decode cX11_leastPlan 66 = .ok (.istore 7, 2) := by decide +kernel
theorem dX11_leastPlan_68 : decode cX11_leastPlan 68 = .ok (.iload 7, 2) := by decide +kernel
theorem dX11_leastPlan_70 : decode cX11_leastPlan 70 = .ok (.bipush 10, 2) := by decide +kernel
theorem dX11_leastPlan_72 : decode cX11_leastPlan 72 = .ok (.ishl, 1) := by decide +kernel
theorem dX11_leastPlan_73 : decode cX11_leastPlan 73 = .ok (.iload 5, 2) := by decide +kernel
theorem dX11_leastPlan_75 : decode cX11_leastPlan 75 = .ok (.iconst 5, 1) := by decide +kernel
theorem dX11_leastPlan_76 : decode cX11_leastPlan 76 = .ok (.ishl, 1) := by decide +kernel
theorem dX11_leastPlan_77 : decode cX11_leastPlan 77 = .ok (.ior, 1) := by decide +kernel
theorem dX11_leastPlan_78 : decode cX11_leastPlan 78 = .ok (.iload 6, 2) := by decide +kernel
theorem dX11_leastPlan_80 : decode cX11_leastPlan 80 = .ok (.ior, 1) := by decide +kernel
theorem dX11_leastPlan_81 : decode cX11_leastPlan 81 = .ok (.istore 8, 2) := by decide +kernel
theorem dX11_leastPlan_83 : decode cX11_leastPlan 83 = .ok (.aload_n 0, 1) := by decide +kernel
theorem dX11_leastPlan_84 : decode cX11_leastPlan 84 = .ok (.getfield 10, 3) := by decide +kernel
theorem dX11_leastPlan_87 : decode cX11_leastPlan 87 = .ok (.aload_n 3, 1) := by decide +kernel
theorem dX11_leastPlan_88 : decode cX11_leastPlan 88 = .ok (.getfield 243, 3) := by decide +kernel
theorem dX11_leastPlan_91 : decode cX11_leastPlan 91 = .ok (.aload_n 3, 1) := by decide +kernel
theorem dX11_leastPlan_92 : decode cX11_leastPlan 92 = .ok (.getfield 232, 3) := by decide +kernel
theorem dX11_leastPlan_95 : decode cX11_leastPlan 95 = .ok (.iload 5, 2) := by decide +kernel
theorem dX11_leastPlan_97 : decode cX11_leastPlan 97 = .ok (.iadd, 1) := by decide +kernel
theorem dX11_leastPlan_98 : decode cX11_leastPlan 98 = .ok (.aload_n 0, 1) := by decide +kernel
theorem dX11_leastPlan_99 : decode cX11_leastPlan 99 = .ok (.getfield 10, 3) := by decide +kernel
theorem dX11_leastPlan_102 : decode cX11_leastPlan 102 = .ok (.getfield 194, 3) := by decide +kernel
theorem dX11_leastPlan_105 : decode cX11_leastPlan 105 = .ok (.iload 6, 2) := by decide +kernel
theorem dX11_leastPlan_107 : decode cX11_leastPlan 107 = .ok (.invokevirtual 446, 3) := by decide +kernel
theorem dX11_leastPlan_110 : decode cX11_leastPlan 110 = .ok (.iload_n 2, 1) := by decide +kernel
theorem dX11_leastPlan_111 : decode cX11_leastPlan 111 = .ok (.if_icmp .ne 7, 3) := by decide +kernel
theorem dX11_leastPlan_114 : decode cX11_leastPlan 114 = .ok (.iconst 1, 1) := by decide +kernel
theorem dX11_leastPlan_115 : decode cX11_leastPlan 115 = .ok (.goto 4, 3) := by decide +kernel
theorem dX11_leastPlan_118 : decode cX11_leastPlan 118 = .ok (.iconst 0, 1) := by decide +kernel
theorem dX11_leastPlan_119 : decode cX11_leastPlan 119 = .ok (.istore 9, 2) := by decide +kernel
theorem dX11_leastPlan_121 : decode cX11_leastPlan 121 = .ok (.iload 9, 2) := by decide +kernel
theorem dX11_leastPlan_123 : decode cX11_leastPlan 123 = .ok (.ifCond .eq 20, 3) := by decide +kernel
theorem dX11_leastPlan_126 : decode cX11_leastPlan 126 = .ok (.iload 4, 2) := by decide +kernel
theorem dX11_leastPlan_128 : decode cX11_leastPlan 128 = .ok (.iconst (-1), 1) := by decide +kernel
theorem dX11_leastPlan_129 : decode cX11_leastPlan 129 = .ok (.if_icmp .eq 10, 3) := by decide +kernel
theorem dX11_leastPlan_132 : decode cX11_leastPlan 132 = .ok (.iload 8, 2) := by decide +kernel
theorem dX11_leastPlan_134 : decode cX11_leastPlan 134 = .ok (.iload 4, 2) := by decide +kernel
theorem dX11_leastPlan_136 : decode cX11_leastPlan 136 = .ok (.if_icmp .ge 7, 3) := by decide +kernel
theorem dX11_leastPlan_139 : decode cX11_leastPlan 139 = .ok (.iload 8, 2) := by decide +kernel
theorem dX11_leastPlan_141 : decode cX11_leastPlan 141 = .ok (.istore 4, 2) := by decide +kernel
theorem dX11_leastPlan_143 : decode cX11_leastPlan 143 = .ok (.iinc 6 1, 3) := by decide +kernel
theorem dX11_leastPlan_146 : decode cX11_leastPlan 146 = .ok (.goto (-109), 3) := by decide +kernel
theorem dX11_leastPlan_149 : decode cX11_leastPlan 149 = .ok (.iinc 5 1, 3) := by decide +kernel
theorem dX11_leastPlan_152 : decode cX11_leastPlan 152 = .ok (.goto (-137), 3) := by decide +kernel
theorem dX11_leastPlan_155 : decode cX11_leastPlan 155 = .ok (.iload 4, 2) := by decide +kernel
theorem dX11_leastPlan_157 : decode cX11_leastPlan 157 = .ok (.ireturn, 1) := by decide +kernel
set_option maxRecDepth 20000 in
theorem ggX11_wordsToStrike_X0_countOf : GoodIn wsX11_wordsToStrike wsX0_countOf := goodIn_r _ [7, 8, 100, 101, 102, 103, 104, 105, 106, 107, 108, 109, 110, 111, 112, 113] (by decide +kernel) (by decide +kernel)
set_option maxRecDepth 20000 in
theorem gX11_wordsToStrike_X0_countOf : GoodIn wsX11_wordsToStrike (wsV RX11 167 RX0 yX0_countOf wsX0_countOf) := goodIn_app (goodIn_of _ (by decide +kernel)) ggX11_wordsToStrike_X0_countOf
set_option maxRecDepth 20000 in
theorem ggX11_wordsToStrike_X0_wordsOf : GoodIn wsX11_wordsToStrike wsX0_wordsOf := goodIn_r _ [12, 13, 14, 15, 4, 5, 6, 7, 8, 16, 17, 18, 100, 101, 102, 103, 104, 105, 106, 107, 108, 109, 110, 111, 112, 113] (by decide +kernel) (by decide +kernel)
set_option maxRecDepth 20000 in
theorem gX11_wordsToStrike_X0_wordsOf : GoodIn wsX11_wordsToStrike (wsV RX11 449 RX0 yX0_wordsOf wsX0_wordsOf) := goodIn_app (goodIn_of _ (by decide +kernel)) ggX11_wordsToStrike_X0_wordsOf
set_option maxRecDepth 20000 in
theorem ggX11_wordsToStrike_X0_senseBefore : GoodIn wsX11_wordsToStrike wsX0_senseBefore := goodIn_r _ [22, 23, 24, 25, 6, 26, 27, 28, 29, 30, 31, 32, 33, 34, 35, 36, 37, 38, 39, 40, 15, 4, 5, 7, 8, 41, 42, 43, 44, 45, 46, 47, 48, 49, 50, 51, 52, 53, 54, 55, 56, 57, 58, 59, 60, 61, 62, 63, 64, 65, 66, 16, 17, 18, 114, 115, 116, 117, 118, 119, 120, 121, 122, 123, 124, 125, 126, 127, 100, 101, 102, 103, 104, 105, 106, 107, 108, 109, 110, 111, 112, 113] (by decide +kernel) (by decide +kernel)
set_option maxRecDepth 20000 in
theorem gX11_wordsToStrike_X0_senseBefore : GoodIn wsX11_wordsToStrike (wsV RX11 374 RX0 yX0_senseBefore wsX0_senseBefore) := goodIn_app (goodIn_of _ (by decide +kernel)) ggX11_wordsToStrike_X0_senseBefore
set_option maxRecDepth 20000 in
theorem ggX11_wordsToStrike_X11_lesserSet : GoodIn wsX11_wordsToStrike wsX11_lesserSet := goodIn_r _ [69, 70, 71, 72, 73, 74, 75, 76, 77, 78, 79, 80] (by decide +kernel) (by decide +kernel)
set_option maxRecDepth 20000 in
theorem gX11_wordsToStrike_X11_lesserSet : GoodIn wsX11_wordsToStrike (va_wsS RX11 452 yX11_lesserSet wsX11_lesserSet) := goodIn_app (goodIn_of _ (by decide +kernel)) ggX11_wordsToStrike_X11_lesserSet
theorem dX11_wordsToStrike_0 : decode cX11_wordsToStrike 0 = .ok (.iconst 0, 1) := by decide +kernel
theorem dX11_wordsToStrike_1 : decode cX11_wordsToStrike 1 = .ok (.istore_n 1, 1) := by decide +kernel
theorem dX11_wordsToStrike_2 : decode cX11_wordsToStrike 2 = .ok (.iconst 0, 1) := by decide +kernel
theorem dX11_wordsToStrike_3 : decode cX11_wordsToStrike 3 = .ok (.istore_n 2, 1) := by decide +kernel
theorem dX11_wordsToStrike_4 : decode cX11_wordsToStrike 4 = .ok (.iload_n 2, 1) := by decide +kernel
theorem dX11_wordsToStrike_5 : decode cX11_wordsToStrike 5 = .ok (.aload_n 0, 1) := by decide +kernel
theorem dX11_wordsToStrike_6 : decode cX11_wordsToStrike 6 = .ok (.getfield 10, 3) := by decide +kernel
theorem dX11_wordsToStrike_9 : decode cX11_wordsToStrike 9 = .ok (.iconst 3, 1) := by decide +kernel
theorem dX11_wordsToStrike_10 : decode cX11_wordsToStrike 10 = .ok (.invokevirtual 167, 3) := by decide +kernel
theorem dX11_wordsToStrike_13 : decode cX11_wordsToStrike 13 = .ok (.if_icmp .ge 83, 3) := by decide +kernel
theorem dX11_wordsToStrike_16 : decode cX11_wordsToStrike 16 = .ok (.aload_n 0, 1) := by decide +kernel
theorem dX11_wordsToStrike_17 : decode cX11_wordsToStrike 17 = .ok (.getfield 10, 3) := by decide +kernel
theorem dX11_wordsToStrike_20 : decode cX11_wordsToStrike 20 = .ok (.iload_n 2, 1) := by decide +kernel
theorem dX11_wordsToStrike_21 : decode cX11_wordsToStrike 21 = .ok (.iconst 1, 1) := by decide +kernel
theorem dX11_wordsToStrike_22 : decode cX11_wordsToStrike 22 = .ok (.invokevirtual 449, 3) := by decide +kernel
theorem dX11_wordsToStrike_25 : decode cX11_wordsToStrike 25 = .ok (.istore_n 3, 1) := by decide +kernel
theorem dX11_wordsToStrike_26 : decode cX11_wordsToStrike 26 = .ok (.aload_n 0, 1) := by decide +kernel
theorem dX11_wordsToStrike_27 : decode cX11_wordsToStrike 27 = .ok (.getfield 10, 3) := by decide +kernel
theorem dX11_wordsToStrike_30 : decode cX11_wordsToStrike 30 = .ok (.iload_n 2, 1) := by decide +kernel
theorem dX11_wordsToStrike_31 : decode cX11_wordsToStrike 31 = .ok (.iconst 2, 1) := by decide +kernel
theorem dX11_wordsToStrike_32 : decode cX11_wordsToStrike 32 = .ok (.invokevirtual 449, 3) := by decide +kernel
theorem dX11_wordsToStrike_35 : decode cX11_wordsToStrike 35 = .ok (.istore 4, 2) := by decide +kernel
theorem dX11_wordsToStrike_37 : decode cX11_wordsToStrike 37 = .ok (.aload_n 0, 1) := by decide +kernel
theorem dX11_wordsToStrike_38 : decode cX11_wordsToStrike 38 = .ok (.getfield 10, 3) := by decide +kernel
theorem dX11_wordsToStrike_41 : decode cX11_wordsToStrike 41 = .ok (.iload_n 2, 1) := by decide +kernel
theorem dX11_wordsToStrike_42 : decode cX11_wordsToStrike 42 = .ok (.aload_n 0, 1) := by decide +kernel
theorem dX11_wordsToStrike_43 : decode cX11_wordsToStrike 43 = .ok (.getfield 10, 3) := by decide +kernel
theorem dX11_wordsToStrike_46 : decode cX11_wordsToStrike 46 = .ok (.getfield 194, 3) := by decide +kernel
theorem dX11_wordsToStrike_49 : decode cX11_wordsToStrike 49 = .ok (.invokevirtual 374, 3) := by decide +kernel
theorem dX11_wordsToStrike_52 : decode cX11_wordsToStrike 52 = .ok (.istore 5, 2) := by decide +kernel
theorem dX11_wordsToStrike_54 : decode cX11_wordsToStrike 54 = .ok (.iload 5, 2) := by decide +kernel
theorem dX11_wordsToStrike_56 : decode cX11_wordsToStrike 56 = .ok (.iconst 1, 1) := by decide +kernel
theorem dX11_wordsToStrike_57 : decode cX11_wordsToStrike 57 = .ok (.if_icmp .ne 11, 3) := by decide +kernel
theorem dX11_wordsToStrike_60 : decode cX11_wordsToStrike 60 = .ok (.iload_n 1, 1) := by decide +kernel
theorem dX11_wordsToStrike_61 : decode cX11_wordsToStrike 61 = .ok (.iload 4, 2) := by decide +kernel
theorem dX11_wordsToStrike_63 : decode cX11_wordsToStrike 63 = .ok (.ior, 1) := by decide +kernel
theorem dX11_wordsToStrike_64 : decode cX11_wordsToStrike 64 = .ok (.istore_n 1, 1) := by decide +kernel
theorem dX11_wordsToStrike_65 : decode cX11_wordsToStrike 65 = .ok (.goto 25, 3) := by decide +kernel
theorem dX11_wordsToStrike_68 : decode cX11_wordsToStrike 68 = .ok (.iload 5, 2) := by decide +kernel
theorem dX11_wordsToStrike_70 : decode cX11_wordsToStrike 70 = .ok (.iconst 2, 1) := by decide +kernel
theorem dX11_wordsToStrike_71 : decode cX11_wordsToStrike 71 = .ok (.if_icmp .ne 10, 3) := by decide +kernel
theorem dX11_wordsToStrike_74 : decode cX11_wordsToStrike 74 = .ok (.iload_n 1, 1) := by decide +kernel
theorem dX11_wordsToStrike_75 : decode cX11_wordsToStrike 75 = .ok (.iload_n 3, 1) := by decide +kernel
theorem dX11_wordsToStrike_76 : decode cX11_wordsToStrike 76 = .ok (.ior, 1) := by decide +kernel
theorem dX11_wordsToStrike_77 : decode cX11_wordsToStrike 77 = .ok (.istore_n 1, 1) := by decide +kernel
theorem dX11_wordsToStrike_78 : decode cX11_wordsToStrike 78 = .ok (.goto 12, 3) := by decide +kernel
theorem dX11_wordsToStrike_81 : decode cX11_wordsToStrike 81 = .ok (.iload_n 1, 1) := by decide +kernel
theorem dX11_wordsToStrike_82 : decode cX11_wordsToStrike 82 = .ok (.iload_n 3, 1) := by decide +kernel
theorem dX11_wordsToStrike_83 : decode cX11_wordsToStrike 83 = .ok (.iload 4, 2) := by decide +kernel
theorem dX11_wordsToStrike_85 : decode cX11_wordsToStrike 85 = .ok (.invokestatic 452, 3) := by decide +kernel
theorem dX11_wordsToStrike_88 : decode cX11_wordsToStrike 88 = .ok (.ior, 1) := by decide +kernel
theorem dX11_wordsToStrike_89 : decode cX11_wordsToStrike 89 = .ok (.istore_n 1, 1) := by decide +kernel
theorem dX11_wordsToStrike_90 : decode cX11_wordsToStrike 90 = .ok (.iinc 2 1, 3) := by decide +kernel
theorem dX11_wordsToStrike_93 : decode cX11_wordsToStrike 93 = .ok (.goto (-89), 3) := by decide +kernel
theorem dX11_wordsToStrike_96 : decode cX11_wordsToStrike 96 = .ok (.iload_n 1, 1) := by decide +kernel
theorem dX11_wordsToStrike_97 : decode cX11_wordsToStrike 97 = .ok (.ireturn, 1) := by decide +kernel
set_option maxRecDepth 20000 in
theorem ggX11_lesserSet_J6_bitCount_0f7a4 : GoodIn wsX11_lesserSet wsJ6_bitCount_0f7a4 := goodIn_r _ [8, 9, 10, 11] (by decide +kernel) (by decide +kernel)
set_option maxRecDepth 20000 in
theorem gX11_lesserSet_J6_bitCount_0f7a4 : GoodIn wsX11_lesserSet (va_wsS RX11 270 yJ6_bitCount_0f7a4 wsJ6_bitCount_0f7a4) := goodIn_app (goodIn_of _ (by decide +kernel)) ggX11_lesserSet_J6_bitCount_0f7a4
theorem dX11_lesserSet_0 : decode cX11_lesserSet 0 = .ok (.iload_n 0, 1) := by decide +kernel
theorem dX11_lesserSet_1 : decode cX11_lesserSet 1 = .ok (.invokestatic 270, 3) := by decide +kernel
theorem dX11_lesserSet_4 : decode cX11_lesserSet 4 = .ok (.iload_n 1, 1) := by decide +kernel
theorem dX11_lesserSet_5 : decode cX11_lesserSet 5 = .ok (.invokestatic 270, 3) := by decide +kernel
theorem dX11_lesserSet_8 : decode cX11_lesserSet 8 = .ok (.isub, 1) := by decide +kernel
theorem dX11_lesserSet_9 : decode cX11_lesserSet 9 = .ok (.istore_n 2, 1) := by decide +kernel
theorem dX11_lesserSet_10 : decode cX11_lesserSet 10 = .ok (.iload_n 2, 1) := by decide +kernel
theorem dX11_lesserSet_11 : decode cX11_lesserSet 11 = .ok (.ifCond .eq 13, 3) := by decide +kernel
theorem dX11_lesserSet_14 : decode cX11_lesserSet 14 = .ok (.iload_n 2, 1) := by decide +kernel
theorem dX11_lesserSet_15 : decode cX11_lesserSet 15 = .ok (.ifCond .ge 7, 3) := by decide +kernel
theorem dX11_lesserSet_18 : decode cX11_lesserSet 18 = .ok (.iload_n 0, 1) := by decide +kernel
theorem dX11_lesserSet_19 : decode cX11_lesserSet 19 = .ok (.goto 4, 3) := by decide +kernel
theorem dX11_lesserSet_22 : decode cX11_lesserSet 22 = .ok (.iload_n 1, 1) := by decide +kernel
theorem dX11_lesserSet_23 : decode cX11_lesserSet 23 = .ok (.ireturn, 1) := by decide +kernel
theorem dX11_lesserSet_24 : decode cX11_lesserSet 24 = .ok (.iload_n 0, 1) := by decide +kernel
theorem dX11_lesserSet_25 : decode cX11_lesserSet 25 = .ok (.iload_n 1, 1) := by decide +kernel
theorem dX11_lesserSet_26 : decode cX11_lesserSet 26 = .ok (.invokestatic 455, 3) := by decide +kernel
theorem dX11_lesserSet_29 : decode cX11_lesserSet 29 = .ok (.ireturn, 1) := by decide +kernel
theorem dX11_within_0 : decode cX11_within 0 = .ok (.iload_n 0, 1) := by decide +kernel
theorem dX11_within_1 : decode cX11_within 1 = .ok (.ifCond .lt 12, 3) := by decide +kernel
theorem dX11_within_4 : decode cX11_within 4 = .ok (.iload_n 0, 1) := by decide +kernel
theorem dX11_within_5 : decode cX11_within 5 = .ok (.iload_n 1, 1) := by decide +kernel
theorem dX11_within_6 : decode cX11_within 6 = .ok (.if_icmp .ge 7, 3) := by decide +kernel
theorem dX11_within_9 : decode cX11_within 9 = .ok (.iconst 1, 1) := by decide +kernel
theorem dX11_within_10 : decode cX11_within 10 = .ok (.goto 4, 3) := by decide +kernel
theorem dX11_within_13 : decode cX11_within 13 = .ok (.iconst 0, 1) := by decide +kernel
theorem dX11_within_14 : decode cX11_within 14 = .ok (.ireturn, 1) := by decide +kernel
theorem dX11_cell_0 : decode cX11_cell 0 = .ok (.iload_n 1, 1) := by decide +kernel
theorem dX11_cell_1 : decode cX11_cell 1 = .ok (.ifCond .lt 15, 3) := by decide +kernel
theorem dX11_cell_4 : decode cX11_cell 4 = .ok (.iload_n 1, 1) := by decide +kernel
theorem dX11_cell_5 : decode cX11_cell 5 = .ok (.aload_n 0, 1) := by decide +kernel
theorem dX11_cell_6 : decode cX11_cell 6 = .ok (.arraylength, 1) := by decide +kernel
theorem dX11_cell_7 : decode cX11_cell 7 = .ok (.if_icmp .ge 9, 3) := by decide +kernel
theorem dX11_cell_10 : decode cX11_cell 10 = .ok (.aload_n 0, 1) := by decide +kernel
theorem dX11_cell_11 : decode cX11_cell 11 = .ok (.iload_n 1, 1) := by decide +kernel
theorem dX11_cell_12 : decode cX11_cell 12 = .ok (.iaload, 1) := by decide +kernel
theorem dX11_cell_13 : decode cX11_cell 13 = .ok (.goto 4, 3) := by decide +kernel
theorem dX11_cell_16 : decode cX11_cell 16 = .ok (.iconst 0, 1) := by decide +kernel
theorem dX11_cell_17 : decode cX11_cell 17 = .ok (.ireturn, 1) := by decide +kernel
theorem dX11_put_0 : decode cX11_put 0 = .ok (.iload_n 1, 1) := by decide +kernel
theorem dX11_put_1 : decode cX11_put 1 = .ok (.ifCond .lt 13, 3) := by decide +kernel
theorem dX11_put_4 : decode cX11_put 4 = .ok (.iload_n 1, 1) := by decide +kernel
theorem dX11_put_5 : decode cX11_put 5 = .ok (.aload_n 0, 1) := by decide +kernel
theorem dX11_put_6 : decode cX11_put 6 = .ok (.arraylength, 1) := by decide +kernel
theorem dX11_put_7 : decode cX11_put 7 = .ok (.if_icmp .ge 7, 3) := by decide +kernel
theorem dX11_put_10 : decode cX11_put 10 = .ok (.aload_n 0, 1) := by decide +kernel
theorem dX11_put_11 : decode cX11_put 11 = .ok (.iload_n 1, 1) := by decide +kernel
theorem dX11_put_12 : decode cX11_put 12 = .ok (.iload_n 2, 1) := by decide +kernel
theorem dX11_put_13 : decode cX11_put 13 = .ok (.iastore, 1) := by decide +kernel
theorem dX11_put_14 : decode cX11_put 14 = .ok (.return_, 1) := by decide +kernel
theorem dX11_copyRow_0 : decode cX11_copyRow 0 = .ok (.iconst 0, 1) := by decide +kernel
theorem dX11_copyRow_1 : decode cX11_copyRow 1 = .ok (.istore_n 2, 1) := by decide +kernel
theorem dX11_copyRow_2 : decode cX11_copyRow 2 = .ok (.iload_n 2, 1) := by decide +kernel
theorem dX11_copyRow_3 : decode cX11_copyRow 3 = .ok (.aload_n 0, 1) := by decide +kernel
theorem dX11_copyRow_4 : decode cX11_copyRow 4 = .ok (.arraylength, 1) := by decide +kernel
theorem dX11_copyRow_5 : decode cX11_copyRow 5 = .ok (.if_icmp .ge 21, 3) := by decide +kernel
theorem dX11_copyRow_8 : decode cX11_copyRow 8 = .ok (.iload_n 2, 1) := by decide +kernel
theorem dX11_copyRow_9 : decode cX11_copyRow 9 = .ok (.aload_n 1, 1) := by decide +kernel
theorem dX11_copyRow_10 : decode cX11_copyRow 10 = .ok (.arraylength, 1) := by decide +kernel
theorem dX11_copyRow_11 : decode cX11_copyRow 11 = .ok (.if_icmp .ge 15, 3) := by decide +kernel
theorem dX11_copyRow_14 : decode cX11_copyRow 14 = .ok (.aload_n 1, 1) := by decide +kernel
theorem dX11_copyRow_15 : decode cX11_copyRow 15 = .ok (.iload_n 2, 1) := by decide +kernel
theorem dX11_copyRow_16 : decode cX11_copyRow 16 = .ok (.aload_n 0, 1) := by decide +kernel
theorem dX11_copyRow_17 : decode cX11_copyRow 17 = .ok (.iload_n 2, 1) := by decide +kernel
theorem dX11_copyRow_18 : decode cX11_copyRow 18 = .ok (.iaload, 1) := by decide +kernel
theorem dX11_copyRow_19 : decode cX11_copyRow 19 = .ok (.iastore, 1) := by decide +kernel
theorem dX11_copyRow_20 : decode cX11_copyRow 20 = .ok (.iinc 2 1, 3) := by decide +kernel
theorem dX11_copyRow_23 : decode cX11_copyRow 23 = .ok (.goto (-21), 3) := by decide +kernel
theorem dX11_copyRow_26 : decode cX11_copyRow 26 = .ok (.return_, 1) := by decide +kernel
theorem dX11_isIn_0 : decode cX11_isIn 0 = .ok (.iload_n 0, 1) := by decide +kernel
theorem dX11_isIn_1 : decode cX11_isIn 1 = .ok (.iload_n 1, 1) := by decide +kernel
theorem dX11_isIn_2 : decode cX11_isIn 2 = .ok (.ishr, 1) := by decide +kernel
theorem dX11_isIn_3 : decode cX11_isIn 3 = .ok (.iconst 1, 1) := by decide +kernel
theorem dX11_isIn_4 : decode cX11_isIn 4 = .ok (.iand, 1) := by decide +kernel
theorem dX11_isIn_5 : decode cX11_isIn 5 = .ok (.ifCond .eq 7, 3) := by decide +kernel
theorem dX11_isIn_8 : decode cX11_isIn 8 = .ok (.iconst 1, 1) := by decide +kernel
theorem dX11_isIn_9 : decode cX11_isIn 9 = .ok (.goto 4, 3) := by decide +kernel
theorem dX11_isIn_12 : decode cX11_isIn 12 = .ok (.iconst 0, 1) := by decide +kernel
theorem dX11_isIn_13 : decode cX11_isIn 13 = .ok (.ireturn, 1) := by decide +kernel
theorem dX11_setOfAll_0 : decode cX11_setOfAll 0 = .ok (.iconst 1, 1) := by decide +kernel
theorem dX11_setOfAll_1 : decode cX11_setOfAll 1 = .ok (.iload_n 0, 1) := by decide +kernel
theorem dX11_setOfAll_2 : decode cX11_setOfAll 2 = .ok (.ishl, 1) := by decide +kernel
theorem dX11_setOfAll_3 : decode cX11_setOfAll 3 = .ok (.iconst 1, 1) := by decide +kernel
theorem dX11_setOfAll_4 : decode cX11_setOfAll 4 = .ok (.isub, 1) := by decide +kernel
theorem dX11_setOfAll_5 : decode cX11_setOfAll 5 = .ok (.ireturn, 1) := by decide +kernel
theorem dX11_ordersOf_0 : decode cX11_ordersOf 0 = .ok (.iconst 1, 1) := by decide +kernel
theorem dX11_ordersOf_1 : decode cX11_ordersOf 1 = .ok (.istore_n 1, 1) := by decide +kernel
theorem dX11_ordersOf_2 : decode cX11_ordersOf 2 = .ok (.iconst 2, 1) := by decide +kernel
theorem dX11_ordersOf_3 : decode cX11_ordersOf 3 = .ok (.istore_n 2, 1) := by decide +kernel
theorem dX11_ordersOf_4 : decode cX11_ordersOf 4 = .ok (.iload_n 2, 1) := by decide +kernel
theorem dX11_ordersOf_5 : decode cX11_ordersOf 5 = .ok (.iload_n 0, 1) := by decide +kernel
theorem dX11_ordersOf_6 : decode cX11_ordersOf 6 = .ok (.if_icmp .gt 19, 3) := by decide +kernel
theorem dX11_ordersOf_9 : decode cX11_ordersOf 9 = .ok (.iload_n 2, 1) := by decide +kernel
theorem dX11_ordersOf_10 : decode cX11_ordersOf 10 = .ok (.bipush 6, 2) := by decide +kernel
theorem dX11_ordersOf_12 : decode cX11_ordersOf 12 = .ok (.if_icmp .gt 13, 3) := by decide +kernel
theorem dX11_ordersOf_15 : decode cX11_ordersOf 15 = .ok (.iload_n 1, 1) := by decide +kernel
theorem dX11_ordersOf_16 : decode cX11_ordersOf 16 = .ok (.iload_n 2, 1) := by decide +kernel
theorem dX11_ordersOf_17 : decode cX11_ordersOf 17 = .ok (.imul, 1) := by decide +kernel
theorem dX11_ordersOf_18 : decode cX11_ordersOf 18 = .ok (.istore_n 1, 1) := by decide +kernel
theorem dX11_ordersOf_19 : decode cX11_ordersOf 19 = .ok (.iinc 2 1, 3) := by decide +kernel
theorem dX11_ordersOf_22 : decode cX11_ordersOf 22 = .ok (.goto (-18), 3) := by decide +kernel
theorem dX11_ordersOf_25 : decode cX11_ordersOf 25 = .ok (.iload_n 1, 1) := by decide +kernel
theorem dX11_ordersOf_26 : decode cX11_ordersOf 26 = .ok (.ireturn, 1) := by decide +kernel
theorem dX11_commonDivisor_0 : decode cX11_commonDivisor 0 = .ok (.lload_n 0, 1) := by decide +kernel
theorem dX11_commonDivisor_1 : decode cX11_commonDivisor 1 = .ok (.lstore 4, 2) := by decide +kernel
theorem dX11_commonDivisor_3 : decode cX11_commonDivisor 3 = .ok (.lload_n 2, 1) := by decide +kernel
theorem dX11_commonDivisor_4 : decode cX11_commonDivisor 4 = .ok (.lstore 6, 2) := by decide +kernel
theorem dX11_commonDivisor_6 : decode cX11_commonDivisor 6 = .ok (.iconst 0, 1) := by decide +kernel
theorem dX11_commonDivisor_7 : decode cX11_commonDivisor 7 = .ok (.istore 8, 2) := by decide +kernel
theorem dX11_commonDivisor_9 : decode cX11_commonDivisor 9 = .ok (.iload 8, 2) := by decide +kernel
theorem dX11_commonDivisor_11 : decode cX11_commonDivisor 11 = .ok (.sipush 128, 3) := by decide +kernel
theorem dX11_commonDivisor_14 : decode cX11_commonDivisor 14 = .ok (.if_icmp .ge 31, 3) := by decide +kernel
theorem dX11_commonDivisor_17 : decode cX11_commonDivisor 17 = .ok (.lload 6, 2) := by decide +kernel
theorem dX11_commonDivisor_19 : decode cX11_commonDivisor 19 = .ok (.lconst 0, 1) := by decide +kernel
theorem dX11_commonDivisor_20 : decode cX11_commonDivisor 20 = .ok (.lcmp, 1) := by decide +kernel
theorem dX11_commonDivisor_21 : decode cX11_commonDivisor 21 = .ok (.ifCond .eq 24, 3) := by decide +kernel
theorem dX11_commonDivisor_24 : decode cX11_commonDivisor 24 = .ok (.lload 4, 2) := by decide +kernel
theorem dX11_commonDivisor_26 : decode cX11_commonDivisor 26 = .ok (.lload 6, 2) := by decide +kernel
theorem dX11_commonDivisor_28 : decode cX11_commonDivisor 28 = .ok (.lrem, 1) := by decide +kernel
theorem dX11_commonDivisor_29 : decode cX11_commonDivisor 29 = .ok (.lstore 9, 2) := by decide +kernel
theorem dX11_commonDivisor_31 : decode cX11_commonDivisor 31 = .ok (.lload 6, 2) := by decide +kernel
theorem dX11_commonDivisor_33 : decode cX11_commonDivisor 33 = .ok (.lstore 4, 2) := by decide +kernel
theorem dX11_commonDivisor_35 : decode cX11_commonDivisor 35 = .ok (.lload 9, 2) := by decide +kernel
theorem dX11_commonDivisor_37 : decode cX11_commonDivisor 37 = .ok (.lstore 6, 2) := by decide +kernel
theorem dX11_commonDivisor_39 : decode cX11_commonDivisor 39 = .ok (.iinc 8 1, 3) := by decide +kernel
theorem dX11_commonDivisor_42 : decode cX11_commonDivisor 42 = .ok (.goto (-33), 3) := by decide +kernel
theorem dX11_commonDivisor_45 : decode cX11_commonDivisor 45 = .ok (.lload 4, 2) := by decide +kernel
theorem dX11_commonDivisor_47 : decode cX11_commonDivisor 47 = .ok (.lreturn, 1) := by decide +kernel
