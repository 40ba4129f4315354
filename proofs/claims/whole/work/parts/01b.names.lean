set_option maxRecDepth 20000 in
theorem ggX0_init_X9_init : GoodIn wsX0_init wsX9_init := goodIn_r _ [30, 31, 2, 3, 32, 33, 4, 34, 69, 70, 71] (by decide +kernel) (by decide +kernel)
set_option maxRecDepth 20000 in
theorem gX0_init_X9_init_n48 : GoodIn wsX0_init (wsX9_init) := ggX0_init_X9_init
set_option maxRecDepth 20000 in
theorem ggX0_init_X6_init : GoodIn wsX0_init wsX6_init := goodIn_r _ [36, 37, 2, 3, 38, 39, 40, 41, 42, 43, 44, 45, 46, 72, 73, 74, 75, 76, 77, 78, 79, 80] (by decide +kernel) (by decide +kernel)
set_option maxRecDepth 20000 in
theorem gX0_init_X6_init_n53 : GoodIn wsX0_init (wsX6_init) := ggX0_init_X6_init
set_option maxRecDepth 20000 in
theorem ggX0_init_X5_init : GoodIn wsX0_init wsX5_init := goodIn_r _ [48, 49, 2, 3, 50, 51, 52, 53, 54, 81, 82, 83, 84, 85] (by decide +kernel) (by decide +kernel)
set_option maxRecDepth 20000 in
theorem gX0_init_X5_init_n58 : GoodIn wsX0_init (wsX5_init) := ggX0_init_X5_init
theorem dX0_init_0 : decode cX0_init 0 = .ok (.aload_n 0, 1) := by decide +kernel
theorem dX0_init_1 : decode cX0_init 1 = .ok (.invokespecial 3, 3) := by decide +kernel
theorem dX0_init_4 : decode cX0_init 4 = .ok (.aload_n 0, 1) := by decide +kernel
theorem dX0_init_5 : decode cX0_init 5 = .ok (.bipush 6, 2) := by decide +kernel
theorem dX0_init_7 : decode cX0_init 7 = .ok (.newarray .int, 2) := by decide +kernel
theorem dX0_init_9 : decode cX0_init 9 = .ok (.putfield 9, 3) := by decide +kernel
theorem dX0_init_12 : decode cX0_init 12 = .ok (.aload_n 0, 1) := by decide +kernel
theorem dX0_init_13 : decode cX0_init 13 = .ok (.bipush 36, 2) := by decide +kernel
theorem dX0_init_15 : decode cX0_init 15 = .ok (.newarray .long, 2) := by decide +kernel
theorem dX0_init_17 : decode cX0_init 17 = .ok (.putfield 15, 3) := by decide +kernel
theorem dX0_init_20 : decode cX0_init 20 = .ok (.aload_n 0, 1) := by decide +kernel
theorem dX0_init_21 : decode cX0_init 21 = .ok (.bipush 6, 2) := by decide +kernel
theorem dX0_init_23 : decode cX0_init 23 = .ok (.newarray .int, 2) := by decide +kernel
theorem dX0_init_25 : decode cX0_init 25 = .ok (.putfield 19, 3) := by decide +kernel
theorem dX0_init_28 : decode cX0_init 28 = .ok (.aload_n 0, 1) := by decide +kernel
theorem dX0_init_29 : decode cX0_init 29 = .ok (.bipush 8, 2) := by decide +kernel
theorem dX0_init_31 : decode cX0_init 31 = .ok (.anewarray 22, 3) := by decide +kernel
theorem dX0_init_34 : decode cX0_init 34 = .ok (.putfield 24, 3) := by decide +kernel
theorem dX0_init_37 : decode cX0_init 37 = .ok (.aload_n 0, 1) := by decide +kernel
theorem dX0_init_38 : decode cX0_init 38 = .ok (.bipush 6, 2) := by decide +kernel
theorem dX0_init_40 : decode cX0_init 40 = .ok (.anewarray 28, 3) := by decide +kernel
theorem dX0_init_43 : decode cX0_init 43 = .ok (.putfield 30, 3) := by decide +kernel
theorem dX0_init_46 : decode cX0_init 46 = .ok (.aload_n 0, 1) := by decide +kernel
theorem dX0_init_47 : decode cX0_init 47 = .ok (.bipush 6, 2) := by decide +kernel
theorem dX0_init_49 : decode cX0_init 49 = .ok (.newarray .int, 2) := by decide +kernel
theorem dX0_init_51 : decode cX0_init 51 = .ok (.putfield 34, 3) := by decide +kernel
theorem dX0_init_54 : decode cX0_init 54 = .ok (.aload_n 0, 1) := by decide +kernel
theorem dX0_init_55 : decode cX0_init 55 = .ok (.bipush 6, 2) := by decide +kernel
theorem dX0_init_57 : decode cX0_init 57 = .ok (.newarray .int, 2) := by decide +kernel
theorem dX0_init_59 : decode cX0_init 59 = .ok (.putfield 37, 3) := by decide +kernel
theorem dX0_init_62 : decode cX0_init 62 = .ok (.aload_n 0, 1) := by decide +kernel
theorem dX0_init_63 : decode cX0_init 63 = .ok (.bipush 10, 2) := by decide +kernel
theorem dX0_init_65 : decode cX0_init 65 = .ok (.newarray .int, 2) := by decide +kernel
theorem dX0_init_67 : decode cX0_init 67 = .ok (.putfield 40, 3) := by decide +kernel
theorem dX0_init_70 : decode cX0_init 70 = .ok (.aload_n 0, 1) := by decide +kernel
theorem dX0_init_71 : decode cX0_init 71 = .ok (.bipush 10, 2) := by decide +kernel
theorem dX0_init_73 : decode cX0_init 73 = .ok (.newarray .int, 2) := by decide +kernel
theorem dX0_init_75 : decode cX0_init 75 = .ok (.putfield 43, 3) := by decide +kernel
theorem dX0_init_78 : decode cX0_init 78 = .ok (.aload_n 0, 1) := by decide +kernel
theorem dX0_init_79 : decode cX0_init 79 = .ok (.new 46, 3) := by decide +kernel
theorem dX0_init_82 : decode cX0_init 82 = .ok (.dup, 1) := by decide +kernel
theorem dX0_init_83 : decode cX0_init 83 = .ok (.invokespecial 48, 3) := by decide +kernel
theorem dX0_init_86 : decode cX0_init 86 = .ok (.putfield 49, 3) := by decide +kernel
theorem dX0_init_89 : decode cX0_init 89 = .ok (.aload_n 0, 1) := by decide +kernel
theorem dX0_init_90 : decode cX0_init 90 = .ok (.new 22, 3) := by decide +kernel
theorem dX0_init_93 : decode cX0_init 93 = .ok (.dup, 1) := by decide +kernel
theorem dX0_init_94 : decode cX0_init 94 = .ok (.invokespecial 53, 3) := by decide +kernel
theorem dX0_init_97 : decode cX0_init 97 = .ok (.putfield 54, 3) := by decide +kernel
theorem dX0_init_100 : decode cX0_init 100 = .ok (.aload_n 0, 1) := by decide +kernel
theorem dX0_init_101 : decode cX0_init 101 = .ok (.new 28, 3) := by decide +kernel
theorem dX0_init_104 : decode cX0_init 104 = .ok (.dup, 1) := by decide +kernel
theorem dX0_init_105 : decode cX0_init 105 = .ok (.invokespecial 58, 3) := by decide +kernel
theorem dX0_init_108 : decode cX0_init 108 = .ok (.putfield 59, 3) := by decide +kernel
theorem dX0_init_111 : decode cX0_init 111 = .ok (.aload_n 0, 1) := by decide +kernel
theorem dX0_init_112 : decode cX0_init 112 = .ok (.iconst 0, 1) := by decide +kernel
theorem dX0_init_113 : decode cX0_init 113 = .ok (.putfield 63, 3) := by decide +kernel
theorem dX0_init_116 : decode cX0_init 116 = .ok (.aload_n 0, 1) := by decide +kernel
theorem dX0_init_117 : decode cX0_init 117 = .ok (.iconst 0, 1) := by decide +kernel
theorem dX0_init_118 : decode cX0_init 118 = .ok (.putfield 67, 3) := by decide +kernel
theorem dX0_init_121 : decode cX0_init 121 = .ok (.iconst 0, 1) := by decide +kernel
theorem dX0_init_122 : decode cX0_init 122 = .ok (.istore_n 1, 1) := by decide +kernel
theorem dX0_init_123 : decode cX0_init 123 = .ok (.iload_n 1, 1) := by decide +kernel
theorem dX0_init_124 : decode cX0_init 124 = .ok (.aload_n 0, 1) := by decide +kernel
theorem dX0_init_125 : decode cX0_init 125 = .ok (.getfield 24, 3) := by decide +kernel
theorem dX0_init_128 : decode cX0_init 128 = .ok (.arraylength, 1) := by decide +kernel
theorem dX0_init_129 : decode cX0_init 129 = .ok (.if_icmp .ge 22, 3) := by decide +kernel
theorem dX0_init_132 : decode cX0_init 132 = .ok (.aload_n 0, 1) := by decide +kernel
theorem dX0_init_133 : decode cX0_init 133 = .ok (.getfield 24, 3) := by decide +kernel
theorem dX0_init_136 : decode cX0_init 136 = .ok (.iload_n 1, 1) := by decide +kernel
theorem dX0_init_137 : decode cX0_init 137 = .ok (.new 22, 3) := by decide +kernel
theorem dX0_init_140 : decode cX0_init 140 = .ok (.dup, 1) := by decide +kernel
theorem dX0_init_141 : decode cX0_init 141 = .ok (.invokespecial 53, 3) := by decide +kernel
theorem dX0_init_144 : decode cX0_init 144 = .ok (.aastore, 1) := by decide +kernel
theorem dX0_init_145 : decode cX0_init 145 = .ok (.iinc 1 1, 3) := by decide +kernel
theorem dX0_init_148 : decode cX0_init 148 = .ok (.goto (-25), 3) := by decide +kernel
theorem dX0_init_151 : decode cX0_init 151 = .ok (.iconst 0, 1) := by decide +kernel
theorem dX0_init_152 : decode cX0_init 152 = .ok (.istore_n 1, 1) := by decide +kernel
theorem dX0_init_153 : decode cX0_init 153 = .ok (.iload_n 1, 1) := by decide +kernel
theorem dX0_init_154 : decode cX0_init 154 = .ok (.aload_n 0, 1) := by decide +kernel
theorem dX0_init_155 : decode cX0_init 155 = .ok (.getfield 30, 3) := by decide +kernel
theorem dX0_init_158 : decode cX0_init 158 = .ok (.arraylength, 1) := by decide +kernel
theorem dX0_init_159 : decode cX0_init 159 = .ok (.if_icmp .ge 22, 3) := by decide +kernel
theorem dX0_init_162 : decode cX0_init 162 = .ok (.aload_n 0, 1) := by decide +kernel
theorem dX0_init_163 : decode cX0_init 163 = .ok (.getfield 30, 3) := by decide +kernel
theorem dX0_init_166 : decode cX0_init 166 = .ok (.iload_n 1, 1) := by decide +kernel
theorem dX0_init_167 : decode cX0_init 167 = .ok (.new 28, 3) := by decide +kernel
theorem dX0_init_170 : decode cX0_init 170 = .ok (.dup, 1) := by decide +kernel
theorem dX0_init_171 : decode cX0_init 171 = .ok (.invokespecial 58, 3) := by decide +kernel
theorem dX0_init_174 : decode cX0_init 174 = .ok (.aastore, 1) := by decide +kernel
theorem dX0_init_175 : decode cX0_init 175 = .ok (.iinc 1 1, 3) := by decide +kernel
theorem dX0_init_178 : decode cX0_init 178 = .ok (.goto (-25), 3) := by decide +kernel
theorem dX0_init_181 : decode cX0_init 181 = .ok (.return_, 1) := by decide +kernel
set_option maxRecDepth 20000 in
theorem ggX0_clear_X9_clear : GoodIn wsX0_clear wsX9_clear := goodIn_r _ [9, 10, 11, 26, 27, 28] (by decide +kernel) (by decide +kernel)
set_option maxRecDepth 20000 in
theorem gX0_clear_X9_clear : GoodIn wsX0_clear (wsV RX0 70 RX9 yX9_clear wsX9_clear) := goodIn_app (goodIn_of _ (by decide +kernel)) ggX0_clear_X9_clear
theorem dX0_clear_0 : decode cX0_clear 0 = .ok (.iconst 0, 1) := by decide +kernel
theorem dX0_clear_1 : decode cX0_clear 1 = .ok (.istore_n 1, 1) := by decide +kernel
theorem dX0_clear_2 : decode cX0_clear 2 = .ok (.iload_n 1, 1) := by decide +kernel
theorem dX0_clear_3 : decode cX0_clear 3 = .ok (.aload_n 0, 1) := by decide +kernel
theorem dX0_clear_4 : decode cX0_clear 4 = .ok (.getfield 9, 3) := by decide +kernel
theorem dX0_clear_7 : decode cX0_clear 7 = .ok (.arraylength, 1) := by decide +kernel
theorem dX0_clear_8 : decode cX0_clear 8 = .ok (.if_icmp .ge 16, 3) := by decide +kernel
theorem dX0_clear_11 : decode cX0_clear 11 = .ok (.aload_n 0, 1) := by decide +kernel
theorem dX0_clear_12 : decode cX0_clear 12 = .ok (.getfield 9, 3) := by decide +kernel
theorem dX0_clear_15 : decode cX0_clear 15 = .ok (.iload_n 1, 1) := by decide +kernel
theorem dX0_clear_16 : decode cX0_clear 16 = .ok (.iconst 0, 1) := by decide +kernel
theorem dX0_clear_17 : decode cX0_clear 17 = .ok (.iastore, 1) := by decide +kernel
theorem dX0_clear_18 : decode cX0_clear 18 = .ok (.iinc 1 1, 3) := by decide +kernel
theorem dX0_clear_21 : decode cX0_clear 21 = .ok (.goto (-19), 3) := by decide +kernel
theorem dX0_clear_24 : decode cX0_clear 24 = .ok (.aload_n 0, 1) := by decide +kernel
theorem dX0_clear_25 : decode cX0_clear 25 = .ok (.getfield 49, 3) := by decide +kernel
theorem dX0_clear_28 : decode cX0_clear 28 = .ok (.invokevirtual 70, 3) := by decide +kernel
theorem dX0_clear_31 : decode cX0_clear 31 = .ok (.aload_n 0, 1) := by decide +kernel
theorem dX0_clear_32 : decode cX0_clear 32 = .ok (.iconst 0, 1) := by decide +kernel
theorem dX0_clear_33 : decode cX0_clear 33 = .ok (.putfield 63, 3) := by decide +kernel
theorem dX0_clear_36 : decode cX0_clear 36 = .ok (.aload_n 0, 1) := by decide +kernel
theorem dX0_clear_37 : decode cX0_clear 37 = .ok (.iconst 0, 1) := by decide +kernel
theorem dX0_clear_38 : decode cX0_clear 38 = .ok (.putfield 67, 3) := by decide +kernel
theorem dX0_clear_41 : decode cX0_clear 41 = .ok (.return_, 1) := by decide +kernel
set_option maxRecDepth 20000 in
theorem ggX0_copyFrom_X11_copyRow : GoodIn wsX0_copyFrom wsX11_copyRow := goodIn_r _ [13] (by decide +kernel) (by decide +kernel)
set_option maxRecDepth 20000 in
theorem gX0_copyFrom_X11_copyRow_n73 : GoodIn wsX0_copyFrom (wsX11_copyRow) := ggX0_copyFrom_X11_copyRow
set_option maxRecDepth 20000 in
theorem ggX0_copyFrom_X0_countOf : GoodIn wsX0_copyFrom wsX0_countOf := goodIn_r _ [18, 1, 63, 64, 65, 66, 67, 68, 69, 70, 71, 72, 73, 74, 75, 76] (by decide +kernel) (by decide +kernel)
set_option maxRecDepth 20000 in
theorem gX0_copyFrom_X0_countOf : GoodIn wsX0_copyFrom (wsV RX0 77 RX0 yX0_countOf wsX0_countOf) := goodIn_app (goodIn_of _ (by decide +kernel)) ggX0_copyFrom_X0_countOf
set_option maxRecDepth 20000 in
theorem ggX0_copyFrom_X0_ruleAt : GoodIn wsX0_copyFrom wsX0_ruleAt := goodIn_r _ [22, 23, 24, 63, 64, 65, 66, 67, 68, 69, 70, 71, 72, 73, 74, 75, 76] (by decide +kernel) (by decide +kernel)
set_option maxRecDepth 20000 in
theorem gX0_copyFrom_X0_ruleAt : GoodIn wsX0_copyFrom (wsV RX0 81 RX0 yX0_ruleAt wsX0_ruleAt) := goodIn_app (goodIn_of _ (by decide +kernel)) ggX0_copyFrom_X0_ruleAt
set_option maxRecDepth 20000 in
theorem ggX0_copyFrom_X6_copyFrom : GoodIn wsX0_copyFrom wsX6_copyFrom := goodIn_r _ [29, 30, 31, 32, 33, 34, 35, 36, 37, 38, 77, 78, 79, 80, 81, 82, 83, 84, 85] (by decide +kernel) (by decide +kernel)
set_option maxRecDepth 20000 in
theorem gX0_copyFrom_X6_copyFrom : GoodIn wsX0_copyFrom (wsV RX0 85 RX6 yX6_copyFrom wsX6_copyFrom) := goodIn_app (goodIn_of _ (by decide +kernel)) ggX0_copyFrom_X6_copyFrom
set_option maxRecDepth 20000 in
theorem ggX0_copyFrom_X0_personAt : GoodIn wsX0_copyFrom wsX0_personAt := goodIn_r _ [42, 43, 44, 63, 64, 65, 66, 67, 68, 69, 70, 71, 72, 73, 74, 75, 76] (by decide +kernel) (by decide +kernel)
set_option maxRecDepth 20000 in
theorem gX0_copyFrom_X0_personAt : GoodIn wsX0_copyFrom (wsV RX0 89 RX0 yX0_personAt wsX0_personAt) := goodIn_app (goodIn_of _ (by decide +kernel)) ggX0_copyFrom_X0_personAt
set_option maxRecDepth 20000 in
theorem ggX0_copyFrom_X5_copyFrom : GoodIn wsX0_copyFrom wsX5_copyFrom := goodIn_r _ [49, 50, 51, 52, 53, 54, 86, 87, 88, 89, 90] (by decide +kernel) (by decide +kernel)
set_option maxRecDepth 20000 in
theorem gX0_copyFrom_X5_copyFrom : GoodIn wsX0_copyFrom (wsV RX0 93 RX5 yX5_copyFrom wsX5_copyFrom) := goodIn_app (goodIn_of _ (by decide +kernel)) ggX0_copyFrom_X5_copyFrom
set_option maxRecDepth 20000 in
theorem ggX0_copyFrom_X9_copyFrom : GoodIn wsX0_copyFrom wsX9_copyFrom := goodIn_r _ [59, 60, 61, 62, 11, 12, 13, 91, 92, 93] (by decide +kernel) (by decide +kernel)
set_option maxRecDepth 20000 in
theorem gX0_copyFrom_X9_copyFrom : GoodIn wsX0_copyFrom (wsV RX0 96 RX9 yX9_copyFrom wsX9_copyFrom) := goodIn_app (goodIn_of _ (by decide +kernel)) ggX0_copyFrom_X9_copyFrom
theorem dX0_copyFrom_0 : decode cX0_copyFrom 0 = .ok (.aload_n 1, 1) := by decide +kernel
theorem dX0_copyFrom_1 : decode cX0_copyFrom 1 = .ok (.getfield 9, 3) := by decide +kernel
theorem dX0_copyFrom_4 : decode cX0_copyFrom 4 = .ok (.aload_n 0, 1) := by decide +kernel
theorem dX0_copyFrom_5 : decode cX0_copyFrom 5 = .ok (.getfield 9, 3) := by decide +kernel
theorem dX0_copyFrom_8 : decode cX0_copyFrom 8 = .ok (.invokestatic 73, 3) := by decide +kernel
theorem dX0_copyFrom_11 : decode cX0_copyFrom 11 = .ok (.iconst 0, 1) := by decide +kernel
theorem dX0_copyFrom_12 : decode cX0_copyFrom 12 = .ok (.istore_n 2, 1) := by decide +kernel
theorem dX0_copyFrom_13 : decode cX0_copyFrom 13 = .ok (.iload_n 2, 1) := by decide +kernel
theorem dX0_copyFrom_14 : decode cX0_copyFrom 14 = .ok (.aload_n 0, 1) := by decide +kernel
theorem dX0_copyFrom_15 : decode cX0_copyFrom 15 = .ok (.getfield 15, 3) := by decide +kernel
theorem dX0_copyFrom_18 : decode cX0_copyFrom 18 = .ok (.arraylength, 1) := by decide +kernel
theorem dX0_copyFrom_19 : decode cX0_copyFrom 19 = .ok (.if_icmp .ge 30, 3) := by decide +kernel
theorem dX0_copyFrom_22 : decode cX0_copyFrom 22 = .ok (.iload_n 2, 1) := by decide +kernel
theorem dX0_copyFrom_23 : decode cX0_copyFrom 23 = .ok (.aload_n 1, 1) := by decide +kernel
theorem dX0_copyFrom_24 : decode cX0_copyFrom 24 = .ok (.getfield 15, 3) := by decide +kernel
theorem dX0_copyFrom_27 : decode cX0_copyFrom 27 = .ok (.arraylength, 1) := by decide +kernel
theorem dX0_copyFrom_28 : decode cX0_copyFrom 28 = .ok (.if_icmp .ge 21, 3) := by decide +kernel
theorem dX0_copyFrom_31 : decode cX0_copyFrom 31 = .ok (.aload_n 0, 1) := by decide +kernel
theorem dX0_copyFrom_32 : decode cX0_copyFrom 32 = .ok (.getfield 15, 3) := by decide +kernel
theorem dX0_copyFrom_35 : decode cX0_copyFrom 35 = .ok (.iload_n 2, 1) := by decide +kernel
theorem dX0_copyFrom_36 : decode cX0_copyFrom 36 = .ok (.aload_n 1, 1) := by decide +kernel
theorem dX0_copyFrom_37 : decode cX0_copyFrom 37 = .ok (.getfield 15, 3) := by decide +kernel
theorem dX0_copyFrom_40 : decode cX0_copyFrom 40 = .ok (.iload_n 2, 1) := by decide +kernel
theorem dX0_copyFrom_41 : decode cX0_copyFrom 41 = .ok (.laload, 1) := by decide +kernel
theorem dX0_copyFrom_42 : decode cX0_copyFrom 42 = .ok (.lastore, 1) := by decide +kernel
theorem dX0_copyFrom_43 : decode cX0_copyFrom 43 = .ok (.iinc 2 1, 3) := by decide +kernel
theorem dX0_copyFrom_46 : decode cX0_copyFrom 46 = .ok (.goto (-33), 3) := by decide +kernel
theorem dX0_copyFrom_49 : decode cX0_copyFrom 49 = .ok (.aload_n 1, 1) := by decide +kernel
theorem dX0_copyFrom_50 : decode cX0_copyFrom 50 = .ok (.getfield 19, 3) := by decide +kernel
theorem dX0_copyFrom_53 : decode cX0_copyFrom 53 = .ok (.aload_n 0, 1) := by decide +kernel
theorem dX0_copyFrom_54 : decode cX0_copyFrom 54 = .ok (.getfield 19, 3) := by decide +kernel
theorem dX0_copyFrom_57 : decode cX0_copyFrom 57 = .ok (.invokestatic 73, 3) := by decide +kernel
theorem dX0_copyFrom_60 : decode cX0_copyFrom 60 = .ok (.iconst 0, 1) := by decide +kernel
theorem dX0_copyFrom_61 : decode cX0_copyFrom 61 = .ok (.istore_n 2, 1) := by decide +kernel
theorem dX0_copyFrom_62 : decode cX0_copyFrom 62 = .ok (.iload_n 2, 1) := by decide +kernel
theorem dX0_copyFrom_63 : decode cX0_copyFrom 63 = .ok (.aload_n 0, 1) := by decide +kernel
theorem dX0_copyFrom_64 : decode cX0_copyFrom 64 = .ok (.iconst 2, 1) := by decide +kernel
theorem dX0_copyFrom_65 : decode cX0_copyFrom 65 = .ok (.invokevirtual 77, 3) := by decide +kernel
theorem dX0_copyFrom_68 : decode cX0_copyFrom 68 = .ok (.if_icmp .ge 22, 3) := by decide +kernel
theorem dX0_copyFrom_71 : decode cX0_copyFrom 71 = .ok (.aload_n 0, 1) := by decide +kernel
theorem dX0_copyFrom_72 : decode cX0_copyFrom 72 = .ok (.iload_n 2, 1) := by decide +kernel
theorem dX0_copyFrom_73 : decode cX0_copyFrom 73 = .ok (.invokevirtual 81, 3) := by decide +kernel
theorem dX0_copyFrom_76 : decode cX0_copyFrom 76 = .ok (.aload_n 1, 1) := by decide +kernel
theorem dX0_copyFrom_77 : decode cX0_copyFrom 77 = .ok (.iload_n 2, 1) := by decide +kernel
theorem dX0_copyFrom_78 : decode cX0_copyFrom 78 = .ok (.invokevirtual 81, 3) := by decide +kernel
theorem dX0_copyFrom_81 : decode cX0_copyFrom 81 = .ok (.invokevirtual 85, 3) := by decide +kernel
theorem dX0_copyFrom_84 : decode cX0_copyFrom 84 = .ok (.iinc 2 1, 3) := by decide +kernel
theorem dX0_copyFrom_87 : decode cX0_copyFrom 87 = .ok (.goto (-25), 3) := by decide +kernel
theorem dX0_copyFrom_90 : decode cX0_copyFrom 90 = .ok (.iconst 0, 1) := by decide +kernel
theorem dX0_copyFrom_91 : decode cX0_copyFrom 91 = .ok (.istore_n 2, 1) := by decide +kernel
theorem dX0_copyFrom_92 : decode cX0_copyFrom 92 = .ok (.iload_n 2, 1) := by decide +kernel
theorem dX0_copyFrom_93 : decode cX0_copyFrom 93 = .ok (.aload_n 0, 1) := by decide +kernel
theorem dX0_copyFrom_94 : decode cX0_copyFrom 94 = .ok (.iconst 3, 1) := by decide +kernel
theorem dX0_copyFrom_95 : decode cX0_copyFrom 95 = .ok (.invokevirtual 77, 3) := by decide +kernel
theorem dX0_copyFrom_98 : decode cX0_copyFrom 98 = .ok (.if_icmp .ge 22, 3) := by decide +kernel
theorem dX0_copyFrom_101 : decode cX0_copyFrom 101 = .ok (.aload_n 0, 1) := by decide +kernel
theorem dX0_copyFrom_102 : decode cX0_copyFrom 102 = .ok (.iload_n 2, 1) := by decide +kernel
theorem dX0_copyFrom_103 : decode cX0_copyFrom 103 = .ok (.invokevirtual 89, 3) := by decide +kernel
theorem dX0_copyFrom_106 : decode cX0_copyFrom 106 = .ok (.aload_n 1, 1) := by decide +kernel
theorem dX0_copyFrom_107 : decode cX0_copyFrom 107 = .ok (.iload_n 2, 1) := by decide +kernel
theorem dX0_copyFrom_108 : decode cX0_copyFrom 108 = .ok (.invokevirtual 89, 3) := by decide +kernel
theorem dX0_copyFrom_111 : decode cX0_copyFrom 111 = .ok (.invokevirtual 93, 3) := by decide +kernel
theorem dX0_copyFrom_114 : decode cX0_copyFrom 114 = .ok (.iinc 2 1, 3) := by decide +kernel
theorem dX0_copyFrom_117 : decode cX0_copyFrom 117 = .ok (.goto (-25), 3) := by decide +kernel
theorem dX0_copyFrom_120 : decode cX0_copyFrom 120 = .ok (.aload_n 1, 1) := by decide +kernel
theorem dX0_copyFrom_121 : decode cX0_copyFrom 121 = .ok (.getfield 34, 3) := by decide +kernel
theorem dX0_copyFrom_124 : decode cX0_copyFrom 124 = .ok (.aload_n 0, 1) := by decide +kernel
theorem dX0_copyFrom_125 : decode cX0_copyFrom 125 = .ok (.getfield 34, 3) := by decide +kernel
theorem dX0_copyFrom_128 : decode cX0_copyFrom 128 = .ok (.invokestatic 73, 3) := by decide +kernel
theorem dX0_copyFrom_131 : decode cX0_copyFrom 131 = .ok (.aload_n 1, 1) := by decide +kernel
theorem dX0_copyFrom_132 : decode cX0_copyFrom 132 = .ok (.getfield 37, 3) := by decide +kernel
theorem dX0_copyFrom_135 : decode cX0_copyFrom 135 = .ok (.aload_n 0, 1) := by decide +kernel
theorem dX0_copyFrom_136 : decode cX0_copyFrom 136 = .ok (.getfield 37, 3) := by decide +kernel
theorem dX0_copyFrom_139 : decode cX0_copyFrom 139 = .ok (.invokestatic 73, 3) := by decide +kernel
theorem dX0_copyFrom_142 : decode cX0_copyFrom 142 = .ok (.aload_n 1, 1) := by decide +kernel
theorem dX0_copyFrom_143 : decode cX0_copyFrom 143 = .ok (.getfield 40, 3) := by decide +kernel
theorem dX0_copyFrom_146 : decode cX0_copyFrom 146 = .ok (.aload_n 0, 1) := by decide +kernel
theorem dX0_copyFrom_147 : decode cX0_copyFrom 147 = .ok (.getfield 40, 3) := by decide +kernel
theorem dX0_copyFrom_150 : decode cX0_copyFrom 150 = .ok (.invokestatic 73, 3) := by decide +kernel
theorem dX0_copyFrom_153 : decode cX0_copyFrom 153 = .ok (.aload_n 1, 1) := by decide +kernel
theorem dX0_copyFrom_154 : decode cX0_copyFrom 154 = .ok (.getfield 43, 3) := by decide +kernel
theorem dX0_copyFrom_157 : decode cX0_copyFrom 157 = .ok (.aload_n 0, 1) := by decide +kernel
theorem dX0_copyFrom_158 : decode cX0_copyFrom 158 = .ok (.getfield 43, 3) := by decide +kernel
theorem dX0_copyFrom_161 : decode cX0_copyFrom 161 = .ok (.invokestatic 73, 3) := by decide +kernel
theorem dX0_copyFrom_164 : decode cX0_copyFrom 164 = .ok (.aload_n 0, 1) := by decide +kernel
theorem dX0_copyFrom_165 : decode cX0_copyFrom 165 = .ok (.getfield 49, 3) := by decide +kernel
theorem dX0_copyFrom_168 : decode cX0_copyFrom 168 = .ok (.aload_n 1, 1) := by decide +kernel
theorem dX0_copyFrom_169 : decode cX0_copyFrom 169 = .ok (.getfield 49, 3) := by decide +kernel
theorem dX0_copyFrom_172 : decode cX0_copyFrom 172 = .ok (.invokevirtual 96, 3) := by decide +kernel
theorem dX0_copyFrom_175 : decode cX0_copyFrom 175 = .ok (.aload_n 0, 1) := by decide +kernel
theorem dX0_copyFrom_176 : decode cX0_copyFrom 176 = .ok (.aload_n 1, 1) := by decide +kernel
theorem dX0_copyFrom_177 : decode cX0_copyFrom 177 = .ok (.getfield 63, 3) := by decide +kernel
theorem dX0_copyFrom_180 : decode cX0_copyFrom 180 = .ok (.putfield 63, 3) := by decide +kernel
theorem dX0_copyFrom_183 : decode cX0_copyFrom 183 = .ok (.aload_n 0, 1) := by decide +kernel
theorem dX0_copyFrom_184 : decode cX0_copyFrom 184 = .ok (.aload_n 1, 1) := by decide +kernel
theorem dX0_copyFrom_185 : decode cX0_copyFrom 185 = .ok (.getfield 67, 3) := by decide +kernel
theorem dX0_copyFrom_188 : decode cX0_copyFrom 188 = .ok (.putfield 67, 3) := by decide +kernel
theorem dX0_copyFrom_191 : decode cX0_copyFrom 191 = .ok (.return_, 1) := by decide +kernel
theorem dX0_countOf_0 : decode cX0_countOf 0 = .ok (.iload_n 1, 1) := by decide +kernel
theorem dX0_countOf_1 : decode cX0_countOf 1 = .ok (.ifCond .lt 21, 3) := by decide +kernel
theorem dX0_countOf_4 : decode cX0_countOf 4 = .ok (.iload_n 1, 1) := by decide +kernel
theorem dX0_countOf_5 : decode cX0_countOf 5 = .ok (.aload_n 0, 1) := by decide +kernel
theorem dX0_countOf_6 : decode cX0_countOf 6 = .ok (.getfield 9, 3) := by decide +kernel
theorem dX0_countOf_9 : decode cX0_countOf 9 = .ok (.arraylength, 1) := by decide +kernel
theorem dX0_countOf_10 : decode cX0_countOf 10 = .ok (.if_icmp .ge 12, 3) := by decide +kernel
theorem dX0_countOf_13 : decode cX0_countOf 13 = .ok (.aload_n 0, 1) := by decide +kernel
theorem dX0_countOf_14 : decode cX0_countOf 14 = .ok (.getfield 9, 3) := by decide +kernel
theorem dX0_countOf_17 : decode cX0_countOf 17 = .ok (.iload_n 1, 1) := by decide +kernel
theorem dX0_countOf_18 : decode cX0_countOf 18 = .ok (.iaload, 1) := by decide +kernel
theorem dX0_countOf_19 : decode cX0_countOf 19 = .ok (.goto 4, 3) := by decide +kernel
theorem dX0_countOf_22 : decode cX0_countOf 22 = .ok (.iconst 0, 1) := by decide +kernel
theorem dX0_countOf_23 : decode cX0_countOf 23 = .ok (.ireturn, 1) := by decide +kernel
set_option maxRecDepth 20000 in
theorem ggX0_has_X0_countOf : GoodIn wsX0_has wsX0_countOf := goodIn_r _ [5, 6, 7, 8, 9, 10, 11, 12, 13, 14, 15, 16, 17, 18, 19, 20] (by decide +kernel) (by decide +kernel)
set_option maxRecDepth 20000 in
theorem gX0_has_X0_countOf : GoodIn wsX0_has (wsV RX0 77 RX0 yX0_countOf wsX0_countOf) := goodIn_app (goodIn_of _ (by decide +kernel)) ggX0_has_X0_countOf
theorem dX0_has_0 : decode cX0_has 0 = .ok (.iload_n 2, 1) := by decide +kernel
theorem dX0_has_1 : decode cX0_has 1 = .ok (.ifCond .lt 16, 3) := by decide +kernel
theorem dX0_has_4 : decode cX0_has 4 = .ok (.iload_n 2, 1) := by decide +kernel
theorem dX0_has_5 : decode cX0_has 5 = .ok (.aload_n 0, 1) := by decide +kernel
theorem dX0_has_6 : decode cX0_has 6 = .ok (.iload_n 1, 1) := by decide +kernel
theorem dX0_has_7 : decode cX0_has 7 = .ok (.invokevirtual 77, 3) := by decide +kernel
theorem dX0_has_10 : decode cX0_has 10 = .ok (.if_icmp .ge 7, 3) := by decide +kernel
theorem dX0_has_13 : decode cX0_has 13 = .ok (.iconst 1, 1) := by decide +kernel
theorem dX0_has_14 : decode cX0_has 14 = .ok (.goto 4, 3) := by decide +kernel
theorem dX0_has_17 : decode cX0_has 17 = .ok (.iconst 0, 1) := by decide +kernel
theorem dX0_has_18 : decode cX0_has 18 = .ok (.ireturn, 1) := by decide +kernel
set_option maxRecDepth 20000 in
theorem ggX0_isFull_X0_countOf : GoodIn wsX0_isFull wsX0_countOf := goodIn_r _ [5, 6, 10, 11, 12, 13, 14, 15, 16, 17, 18, 19, 20, 21, 22, 23] (by decide +kernel) (by decide +kernel)
set_option maxRecDepth 20000 in
theorem gX0_isFull_X0_countOf : GoodIn wsX0_isFull (wsV RX0 77 RX0 yX0_countOf wsX0_countOf) := goodIn_app (goodIn_of _ (by decide +kernel)) ggX0_isFull_X0_countOf
set_option maxRecDepth 20000 in
theorem ggX0_isFull_X11_cell : GoodIn wsX0_isFull wsX11_cell := goodIn_r _ [9] (by decide +kernel) (by decide +kernel)
set_option maxRecDepth 20000 in
theorem gX0_isFull_X11_cell_n102 : GoodIn wsX0_isFull (wsX11_cell) := ggX0_isFull_X11_cell
theorem dX0_isFull_0 : decode cX0_isFull 0 = .ok (.aload_n 0, 1) := by decide +kernel
theorem dX0_isFull_1 : decode cX0_isFull 1 = .ok (.iload_n 1, 1) := by decide +kernel
theorem dX0_isFull_2 : decode cX0_isFull 2 = .ok (.invokevirtual 77, 3) := by decide +kernel
theorem dX0_isFull_5 : decode cX0_isFull 5 = .ok (.getstatic 99, 3) := by decide +kernel
theorem dX0_isFull_8 : decode cX0_isFull 8 = .ok (.iload_n 1, 1) := by decide +kernel
theorem dX0_isFull_9 : decode cX0_isFull 9 = .ok (.invokestatic 102, 3) := by decide +kernel
theorem dX0_isFull_12 : decode cX0_isFull 12 = .ok (.if_icmp .lt 7, 3) := by decide +kernel
theorem dX0_isFull_15 : decode cX0_isFull 15 = .ok (.iconst 1, 1) := by decide +kernel
theorem dX0_isFull_16 : decode cX0_isFull 16 = .ok (.goto 4, 3) := by decide +kernel
theorem dX0_isFull_19 : decode cX0_isFull 19 = .ok (.iconst 0, 1) := by decide +kernel
theorem dX0_isFull_20 : decode cX0_isFull 20 = .ok (.ireturn, 1) := by decide +kernel
set_option maxRecDepth 20000 in
theorem ggX0_addOne_X0_countOf : GoodIn wsX0_addOne wsX0_countOf := goodIn_r _ [6, 1, 10, 11, 12, 13, 14, 15, 16, 17, 18, 19, 20, 21, 22, 23] (by decide +kernel) (by decide +kernel)
set_option maxRecDepth 20000 in
theorem gX0_addOne_X0_countOf : GoodIn wsX0_addOne (wsV RX0 77 RX0 yX0_countOf wsX0_countOf) := goodIn_app (goodIn_of _ (by decide +kernel)) ggX0_addOne_X0_countOf
set_option maxRecDepth 20000 in
theorem ggX0_addOne_X11_put : GoodIn wsX0_addOne wsX11_put := goodIn_r _ [9] (by decide +kernel) (by decide +kernel)
set_option maxRecDepth 20000 in
theorem gX0_addOne_X11_put_n106 : GoodIn wsX0_addOne (wsX11_put) := ggX0_addOne_X11_put
theorem dX0_addOne_0 : decode cX0_addOne 0 = .ok (.aload_n 0, 1) := by decide +kernel
theorem dX0_addOne_1 : decode cX0_addOne 1 = .ok (.iload_n 1, 1) := by decide +kernel
theorem dX0_addOne_2 : decode cX0_addOne 2 = .ok (.invokevirtual 77, 3) := by decide +kernel
theorem dX0_addOne_5 : decode cX0_addOne 5 = .ok (.istore_n 2, 1) := by decide +kernel
theorem dX0_addOne_6 : decode cX0_addOne 6 = .ok (.aload_n 0, 1) := by decide +kernel
theorem dX0_addOne_7 : decode cX0_addOne 7 = .ok (.getfield 9, 3) := by decide +kernel
theorem dX0_addOne_10 : decode cX0_addOne 10 = .ok (.iload_n 1, 1) := by decide +kernel
theorem dX0_addOne_11 : decode cX0_addOne 11 = .ok (.iload_n 2, 1) := by decide +kernel
theorem dX0_addOne_12 : decode cX0_addOne 12 = .ok (.iconst 1, 1) := by decide +kernel
theorem dX0_addOne_13 : decode cX0_addOne 13 = .ok (.iadd, 1) := by decide +kernel
theorem dX0_addOne_14 : decode cX0_addOne 14 = .ok (.invokestatic 106, 3) := by decide +kernel
theorem dX0_addOne_17 : decode cX0_addOne 17 = .ok (.iload_n 2, 1) := by decide +kernel
theorem dX0_addOne_18 : decode cX0_addOne 18 = .ok (.ireturn, 1) := by decide +kernel
theorem dX0_ruleAt_0 : decode cX0_ruleAt 0 = .ok (.iload_n 1, 1) := by decide +kernel
theorem dX0_ruleAt_1 : decode cX0_ruleAt 1 = .ok (.ifCond .lt 21, 3) := by decide +kernel
theorem dX0_ruleAt_4 : decode cX0_ruleAt 4 = .ok (.iload_n 1, 1) := by decide +kernel
theorem dX0_ruleAt_5 : decode cX0_ruleAt 5 = .ok (.aload_n 0, 1) := by decide +kernel
theorem dX0_ruleAt_6 : decode cX0_ruleAt 6 = .ok (.getfield 24, 3) := by decide +kernel
theorem dX0_ruleAt_9 : decode cX0_ruleAt 9 = .ok (.arraylength, 1) := by decide +kernel
theorem dX0_ruleAt_10 : decode cX0_ruleAt 10 = .ok (.if_icmp .ge 12, 3) := by decide +kernel
theorem dX0_ruleAt_13 : decode cX0_ruleAt 13 = .ok (.aload_n 0, 1) := by decide +kernel
theorem dX0_ruleAt_14 : decode cX0_ruleAt 14 = .ok (.getfield 24, 3) := by decide +kernel
theorem dX0_ruleAt_17 : decode cX0_ruleAt 17 = .ok (.iload_n 1, 1) := by decide +kernel
theorem dX0_ruleAt_18 : decode cX0_ruleAt 18 = .ok (.aaload, 1) := by decide +kernel
theorem dX0_ruleAt_19 : decode cX0_ruleAt 19 = .ok (.goto 7, 3) := by decide +kernel
theorem dX0_ruleAt_22 : decode cX0_ruleAt 22 = .ok (.aload_n 0, 1) := by decide +kernel
theorem dX0_ruleAt_23 : decode cX0_ruleAt 23 = .ok (.getfield 54, 3) := by decide +kernel
theorem dX0_ruleAt_26 : decode cX0_ruleAt 26 = .ok (.astore_n 2, 1) := by decide +kernel
theorem dX0_ruleAt_27 : decode cX0_ruleAt 27 = .ok (.aload_n 2, 1) := by decide +kernel
theorem dX0_ruleAt_28 : decode cX0_ruleAt 28 = .ok (.ifnull 7, 3) := by decide +kernel
theorem dX0_ruleAt_31 : decode cX0_ruleAt 31 = .ok (.aload_n 2, 1) := by decide +kernel
theorem dX0_ruleAt_32 : decode cX0_ruleAt 32 = .ok (.goto 7, 3) := by decide +kernel
theorem dX0_ruleAt_35 : decode cX0_ruleAt 35 = .ok (.aload_n 0, 1) := by decide +kernel
theorem dX0_ruleAt_36 : decode cX0_ruleAt 36 = .ok (.getfield 54, 3) := by decide +kernel
theorem dX0_ruleAt_39 : decode cX0_ruleAt 39 = .ok (.areturn, 1) := by decide +kernel
theorem dX0_personAt_0 : decode cX0_personAt 0 = .ok (.iload_n 1, 1) := by decide +kernel
theorem dX0_personAt_1 : decode cX0_personAt 1 = .ok (.ifCond .lt 21, 3) := by decide +kernel
theorem dX0_personAt_4 : decode cX0_personAt 4 = .ok (.iload_n 1, 1) := by decide +kernel
theorem dX0_personAt_5 : decode cX0_personAt 5 = .ok (.aload_n 0, 1) := by decide +kernel
theorem dX0_personAt_6 : decode cX0_personAt 6 = .ok (.getfield 30, 3) := by decide +kernel
theorem dX0_personAt_9 : decode cX0_personAt 9 = .ok (.arraylength, 1) := by decide +kernel
theorem dX0_personAt_10 : decode cX0_personAt 10 = .ok (.if_icmp .ge 12, 3) := by decide +kernel
theorem dX0_personAt_13 : decode cX0_personAt 13 = .ok (.aload_n 0, 1) := by decide +kernel
theorem dX0_personAt_14 : decode cX0_personAt 14 = .ok (.getfield 30, 3) := by decide +kernel
theorem dX0_personAt_17 : decode cX0_personAt 17 = .ok (.iload_n 1, 1) := by decide +kernel
theorem dX0_personAt_18 : decode cX0_personAt 18 = .ok (.aaload, 1) := by decide +kernel
theorem dX0_personAt_19 : decode cX0_personAt 19 = .ok (.goto 7, 3) := by decide +kernel
theorem dX0_personAt_22 : decode cX0_personAt 22 = .ok (.aload_n 0, 1) := by decide +kernel
theorem dX0_personAt_23 : decode cX0_personAt 23 = .ok (.getfield 59, 3) := by decide +kernel
theorem dX0_personAt_26 : decode cX0_personAt 26 = .ok (.astore_n 2, 1) := by decide +kernel
theorem dX0_personAt_27 : decode cX0_personAt 27 = .ok (.aload_n 2, 1) := by decide +kernel
theorem dX0_personAt_28 : decode cX0_personAt 28 = .ok (.ifnull 7, 3) := by decide +kernel
theorem dX0_personAt_31 : decode cX0_personAt 31 = .ok (.aload_n 2, 1) := by decide +kernel
theorem dX0_personAt_32 : decode cX0_personAt 32 = .ok (.goto 7, 3) := by decide +kernel
theorem dX0_personAt_35 : decode cX0_personAt 35 = .ok (.aload_n 0, 1) := by decide +kernel
theorem dX0_personAt_36 : decode cX0_personAt 36 = .ok (.getfield 59, 3) := by decide +kernel
theorem dX0_personAt_39 : decode cX0_personAt 39 = .ok (.areturn, 1) := by decide +kernel
set_option maxRecDepth 20000 in
theorem ggX0_putName_X11_within : GoodIn wsX0_putName wsX11_within := goodIn_r _ [4] (by decide +kernel) (by decide +kernel)
set_option maxRecDepth 20000 in
theorem gX0_putName_X11_within_n110 : GoodIn wsX0_putName (wsX11_within) := ggX0_putName_X11_within
theorem dX0_putName_0 : decode cX0_putName 0 = .ok (.iload_n 1, 1) := by decide +kernel
theorem dX0_putName_1 : decode cX0_putName 1 = .ok (.bipush 6, 2) := by decide +kernel
theorem dX0_putName_3 : decode cX0_putName 3 = .ok (.imul, 1) := by decide +kernel
theorem dX0_putName_4 : decode cX0_putName 4 = .ok (.iload_n 2, 1) := by decide +kernel
theorem dX0_putName_5 : decode cX0_putName 5 = .ok (.iadd, 1) := by decide +kernel
theorem dX0_putName_6 : decode cX0_putName 6 = .ok (.istore 5, 2) := by decide +kernel
theorem dX0_putName_8 : decode cX0_putName 8 = .ok (.iload 5, 2) := by decide +kernel
theorem dX0_putName_10 : decode cX0_putName 10 = .ok (.aload_n 0, 1) := by decide +kernel
theorem dX0_putName_11 : decode cX0_putName 11 = .ok (.getfield 15, 3) := by decide +kernel
theorem dX0_putName_14 : decode cX0_putName 14 = .ok (.arraylength, 1) := by decide +kernel
theorem dX0_putName_15 : decode cX0_putName 15 = .ok (.invokestatic 110, 3) := by decide +kernel
theorem dX0_putName_18 : decode cX0_putName 18 = .ok (.ifCond .eq 11, 3) := by decide +kernel
theorem dX0_putName_21 : decode cX0_putName 21 = .ok (.aload_n 0, 1) := by decide +kernel
theorem dX0_putName_22 : decode cX0_putName 22 = .ok (.getfield 15, 3) := by decide +kernel
theorem dX0_putName_25 : decode cX0_putName 25 = .ok (.iload 5, 2) := by decide +kernel
theorem dX0_putName_27 : decode cX0_putName 27 = .ok (.lload_n 3, 1) := by decide +kernel
theorem dX0_putName_28 : decode cX0_putName 28 = .ok (.lastore, 1) := by decide +kernel
theorem dX0_putName_29 : decode cX0_putName 29 = .ok (.return_, 1) := by decide +kernel
set_option maxRecDepth 20000 in
theorem ggX0_numberOf_X0_countOf : GoodIn wsX0_numberOf wsX0_countOf := goodIn_r _ [6, 7, 11, 12, 13, 14, 15, 16, 17, 18, 19, 20, 21, 22, 23, 24] (by decide +kernel) (by decide +kernel)
set_option maxRecDepth 20000 in
theorem gX0_numberOf_X0_countOf : GoodIn wsX0_numberOf (wsV RX0 77 RX0 yX0_countOf wsX0_countOf) := goodIn_app (goodIn_of _ (by decide +kernel)) ggX0_numberOf_X0_countOf
set_option maxRecDepth 20000 in
theorem ggX0_numberOf_X11_within : GoodIn wsX0_numberOf wsX11_within := goodIn_r _ [10] (by decide +kernel) (by decide +kernel)
set_option maxRecDepth 20000 in
theorem gX0_numberOf_X11_within_n110 : GoodIn wsX0_numberOf (wsX11_within) := ggX0_numberOf_X11_within
theorem dX0_numberOf_0 : decode cX0_numberOf 0 = .ok (.iconst 0, 1) := by decide +kernel
theorem dX0_numberOf_1 : decode cX0_numberOf 1 = .ok (.istore 4, 2) := by decide +kernel
theorem dX0_numberOf_3 : decode cX0_numberOf 3 = .ok (.iload 4, 2) := by decide +kernel
theorem dX0_numberOf_5 : decode cX0_numberOf 5 = .ok (.aload_n 0, 1) := by decide +kernel
theorem dX0_numberOf_6 : decode cX0_numberOf 6 = .ok (.iload_n 1, 1) := by decide +kernel
theorem dX0_numberOf_7 : decode cX0_numberOf 7 = .ok (.invokevirtual 77, 3) := by decide +kernel
theorem dX0_numberOf_10 : decode cX0_numberOf 10 = .ok (.if_icmp .ge 53, 3) := by decide +kernel
theorem dX0_numberOf_13 : decode cX0_numberOf 13 = .ok (.iload 4, 2) := by decide +kernel
theorem dX0_numberOf_15 : decode cX0_numberOf 15 = .ok (.bipush 6, 2) := by decide +kernel
theorem dX0_numberOf_17 : decode cX0_numberOf 17 = .ok (.if_icmp .ge 46, 3) := by decide +kernel
theorem dX0_numberOf_20 : decode cX0_numberOf 20 = .ok (.iload_n 1, 1) := by decide +kernel
theorem dX0_numberOf_21 : decode cX0_numberOf 21 = .ok (.bipush 6, 2) := by decide +kernel
theorem dX0_numberOf_23 : decode cX0_numberOf 23 = .ok (.imul, 1) := by decide +kernel
theorem dX0_numberOf_24 : decode cX0_numberOf 24 = .ok (.iload 4, 2) := by decide +kernel
theorem dX0_numberOf_26 : decode cX0_numberOf 26 = .ok (.iadd, 1) := by decide +kernel
theorem dX0_numberOf_27 : decode cX0_numberOf 27 = .ok (.istore 5, 2) := by decide +kernel
theorem dX0_numberOf_29 : decode cX0_numberOf 29 = .ok (.iload 5, 2) := by decide +kernel
theorem dX0_numberOf_31 : decode cX0_numberOf 31 = .ok (.aload_n 0, 1) := by decide +kernel
theorem dX0_numberOf_32 : decode cX0_numberOf 32 = .ok (.getfield 15, 3) := by decide +kernel
theorem dX0_numberOf_35 : decode cX0_numberOf 35 = .ok (.arraylength, 1) := by decide +kernel
theorem dX0_numberOf_36 : decode cX0_numberOf 36 = .ok (.invokestatic 110, 3) := by decide +kernel
theorem dX0_numberOf_39 : decode cX0_numberOf 39 = .ok (.ifCond .eq 18, 3) := by decide +kernel
theorem dX0_numberOf_42 : decode cX0_numberOf 42 = .ok (.aload_n 0, 1) := by decide +kernel
theorem dX0_numberOf_43 : decode cX0_numberOf 43 = .ok (.getfield 15, 3) := by decide +kernel
theorem dX0_numberOf_46 : decode cX0_numberOf 46 = .ok (.iload 5, 2) := by decide +kernel
theorem dX0_numberOf_48 : decode cX0_numberOf 48 = .ok (.laload, 1) := by decide +kernel
theorem dX0_numberOf_49 : decode cX0_numberOf 49 = .ok (.lload_n 2, 1) := by decide +kernel
theorem dX0_numberOf_50 : decode cX0_numberOf 50 = .ok (.lcmp, 1) := by decide +kernel
theorem dX0_numberOf_51 : decode cX0_numberOf 51 = .ok (.ifCond .ne 6, 3) := by decide +kernel
theorem dX0_numberOf_54 : decode cX0_numberOf 54 = .ok (.iload 4, 2) := by decide +kernel
theorem dX0_numberOf_56 : decode cX0_numberOf 56 = .ok (.ireturn, 1) := by decide +kernel
theorem dX0_numberOf_57 : decode cX0_numberOf 57 = .ok (.iinc 4 1, 3) := by decide +kernel
theorem dX0_numberOf_60 : decode cX0_numberOf 60 = .ok (.goto (-57), 3) := by decide +kernel
theorem dX0_numberOf_63 : decode cX0_numberOf 63 = .ok (.iconst (-1), 1) := by decide +kernel
theorem dX0_numberOf_64 : decode cX0_numberOf 64 = .ok (.ireturn, 1) := by decide +kernel
set_option maxRecDepth 20000 in
theorem ggX0_isTaken_X0_numberOf : GoodIn wsX0_isTaken wsX0_numberOf := goodIn_r _ [5, 6, 7, 8, 9, 4, 10, 11, 12, 13, 14, 15, 16, 17, 18, 19, 20, 21, 22, 23, 24, 25, 26, 27, 28] (by decide +kernel) (by decide +kernel)
set_option maxRecDepth 20000 in
theorem gX0_isTaken_X0_numberOf : GoodIn wsX0_isTaken (wsV RX0 114 RX0 yX0_numberOf wsX0_numberOf) := goodIn_app (goodIn_of _ (by decide +kernel)) ggX0_isTaken_X0_numberOf
theorem dX0_isTaken_0 : decode cX0_isTaken 0 = .ok (.aload_n 0, 1) := by decide +kernel
theorem dX0_isTaken_1 : decode cX0_isTaken 1 = .ok (.iconst 0, 1) := by decide +kernel
theorem dX0_isTaken_2 : decode cX0_isTaken 2 = .ok (.lload_n 1, 1) := by decide +kernel
theorem dX0_isTaken_3 : decode cX0_isTaken 3 = .ok (.invokevirtual 114, 3) := by decide +kernel
theorem dX0_isTaken_6 : decode cX0_isTaken 6 = .ok (.iconst (-1), 1) := by decide +kernel
theorem dX0_isTaken_7 : decode cX0_isTaken 7 = .ok (.if_icmp .ne 33, 3) := by decide +kernel
theorem dX0_isTaken_10 : decode cX0_isTaken 10 = .ok (.aload_n 0, 1) := by decide +kernel
theorem dX0_isTaken_11 : decode cX0_isTaken 11 = .ok (.iconst 1, 1) := by decide +kernel
theorem dX0_isTaken_12 : decode cX0_isTaken 12 = .ok (.lload_n 1, 1) := by decide +kernel
theorem dX0_isTaken_13 : decode cX0_isTaken 13 = .ok (.invokevirtual 114, 3) := by decide +kernel
theorem dX0_isTaken_16 : decode cX0_isTaken 16 = .ok (.iconst (-1), 1) := by decide +kernel
theorem dX0_isTaken_17 : decode cX0_isTaken 17 = .ok (.if_icmp .ne 23, 3) := by decide +kernel
theorem dX0_isTaken_20 : decode cX0_isTaken 20 = .ok (.aload_n 0, 1) := by decide +kernel
theorem dX0_isTaken_21 : decode cX0_isTaken 21 = .ok (.iconst 3, 1) := by decide +kernel
theorem dX0_isTaken_22 : decode cX0_isTaken 22 = .ok (.lload_n 1, 1) := by decide +kernel
theorem dX0_isTaken_23 : decode cX0_isTaken 23 = .ok (.invokevirtual 114, 3) := by decide +kernel
theorem dX0_isTaken_26 : decode cX0_isTaken 26 = .ok (.iconst (-1), 1) := by decide +kernel
theorem dX0_isTaken_27 : decode cX0_isTaken 27 = .ok (.if_icmp .ne 13, 3) := by decide +kernel
theorem dX0_isTaken_30 : decode cX0_isTaken 30 = .ok (.aload_n 0, 1) := by decide +kernel
theorem dX0_isTaken_31 : decode cX0_isTaken 31 = .ok (.iconst 4, 1) := by decide +kernel
theorem dX0_isTaken_32 : decode cX0_isTaken 32 = .ok (.lload_n 1, 1) := by decide +kernel
theorem dX0_isTaken_33 : decode cX0_isTaken 33 = .ok (.invokevirtual 114, 3) := by decide +kernel
theorem dX0_isTaken_36 : decode cX0_isTaken 36 = .ok (.iconst (-1), 1) := by decide +kernel
theorem dX0_isTaken_37 : decode cX0_isTaken 37 = .ok (.if_icmp .eq 7, 3) := by decide +kernel
theorem dX0_isTaken_40 : decode cX0_isTaken 40 = .ok (.iconst 1, 1) := by decide +kernel
theorem dX0_isTaken_41 : decode cX0_isTaken 41 = .ok (.goto 4, 3) := by decide +kernel
theorem dX0_isTaken_44 : decode cX0_isTaken 44 = .ok (.iconst 0, 1) := by decide +kernel
theorem dX0_isTaken_45 : decode cX0_isTaken 45 = .ok (.ireturn, 1) := by decide +kernel
set_option maxRecDepth 20000 in
theorem ggX0_dropRule_X0_countOf : GoodIn wsX0_dropRule wsX0_countOf := goodIn_r _ [6, 1, 30, 31, 32, 33, 34, 35, 36, 37, 38, 39, 40, 41, 42, 43] (by decide +kernel) (by decide +kernel)
set_option maxRecDepth 20000 in
theorem gX0_dropRule_X0_countOf : GoodIn wsX0_dropRule (wsV RX0 77 RX0 yX0_countOf wsX0_countOf) := goodIn_app (goodIn_of _ (by decide +kernel)) ggX0_dropRule_X0_countOf
set_option maxRecDepth 20000 in
theorem ggX0_dropRule_X0_ruleAt : GoodIn wsX0_dropRule wsX0_ruleAt := goodIn_r _ [10, 11, 12, 30, 31, 32, 33, 34, 35, 36, 37, 38, 39, 40, 41, 42, 43] (by decide +kernel) (by decide +kernel)
set_option maxRecDepth 20000 in
theorem gX0_dropRule_X0_ruleAt : GoodIn wsX0_dropRule (wsV RX0 81 RX0 yX0_ruleAt wsX0_ruleAt) := goodIn_app (goodIn_of _ (by decide +kernel)) ggX0_dropRule_X0_ruleAt
set_option maxRecDepth 20000 in
theorem ggX0_dropRule_X6_copyFrom : GoodIn wsX0_dropRule wsX6_copyFrom := goodIn_r _ [17, 18, 19, 20, 21, 22, 23, 24, 25, 26, 44, 45, 46, 47, 48, 49, 50, 51, 52] (by decide +kernel) (by decide +kernel)
set_option maxRecDepth 20000 in
theorem gX0_dropRule_X6_copyFrom : GoodIn wsX0_dropRule (wsV RX0 85 RX6 yX6_copyFrom wsX6_copyFrom) := goodIn_app (goodIn_of _ (by decide +kernel)) ggX0_dropRule_X6_copyFrom
set_option maxRecDepth 20000 in
theorem ggX0_dropRule_X11_put : GoodIn wsX0_dropRule wsX11_put := goodIn_r _ [29] (by decide +kernel) (by decide +kernel)
set_option maxRecDepth 20000 in
theorem gX0_dropRule_X11_put_n106 : GoodIn wsX0_dropRule (wsX11_put) := ggX0_dropRule_X11_put
theorem dX0_dropRule_0 : decode cX0_dropRule 0 = .ok (.iload_n 1, 1) := by decide +kernel
theorem dX0_dropRule_1 : decode cX0_dropRule 1 = .ok (.istore_n 2, 1) := by decide +kernel
theorem dX0_dropRule_2 : decode cX0_dropRule 2 = .ok (.iload_n 2, 1) := by decide +kernel
theorem dX0_dropRule_3 : decode cX0_dropRule 3 = .ok (.iconst 1, 1) := by decide +kernel
theorem dX0_dropRule_4 : decode cX0_dropRule 4 = .ok (.iadd, 1) := by decide +kernel
theorem dX0_dropRule_5 : decode cX0_dropRule 5 = .ok (.aload_n 0, 1) := by decide +kernel
theorem dX0_dropRule_6 : decode cX0_dropRule 6 = .ok (.iconst 2, 1) := by decide +kernel
theorem dX0_dropRule_7 : decode cX0_dropRule 7 = .ok (.invokevirtual 77, 3) := by decide +kernel
theorem dX0_dropRule_10 : decode cX0_dropRule 10 = .ok (.if_icmp .ge 24, 3) := by decide +kernel
theorem dX0_dropRule_13 : decode cX0_dropRule 13 = .ok (.aload_n 0, 1) := by decide +kernel
theorem dX0_dropRule_14 : decode cX0_dropRule 14 = .ok (.iload_n 2, 1) := by decide +kernel
theorem dX0_dropRule_15 : decode cX0_dropRule 15 = .ok (.invokevirtual 81, 3) := by decide +kernel
theorem dX0_dropRule_18 : decode cX0_dropRule 18 = .ok (.aload_n 0, 1) := by decide +kernel
theorem dX0_dropRule_19 : decode cX0_dropRule 19 = .ok (.iload_n 2, 1) := by decide +kernel
theorem dX0_dropRule_20 : decode cX0_dropRule 20 = .ok (.iconst 1, 1) := by decide +kernel
theorem dX0_dropRule_21 : decode cX0_dropRule 21 = .ok (.iadd, 1) := by decide +kernel
theorem dX0_dropRule_22 : decode cX0_dropRule 22 = .ok (.invokevirtual 81, 3) := by decide +kernel
theorem dX0_dropRule_25 : decode cX0_dropRule 25 = .ok (.invokevirtual 85, 3) := by decide +kernel
theorem dX0_dropRule_28 : decode cX0_dropRule 28 = .ok (.iinc 2 1, 3) := by decide +kernel
theorem dX0_dropRule_31 : decode cX0_dropRule 31 = .ok (.goto (-29), 3) := by decide +kernel
theorem dX0_dropRule_34 : decode cX0_dropRule 34 = .ok (.aload_n 0, 1) := by decide +kernel
theorem dX0_dropRule_35 : decode cX0_dropRule 35 = .ok (.getfield 9, 3) := by decide +kernel
theorem dX0_dropRule_38 : decode cX0_dropRule 38 = .ok (.iconst 2, 1) := by decide +kernel
theorem dX0_dropRule_39 : decode cX0_dropRule 39 = .ok (.aload_n 0, 1) := by decide +kernel
theorem dX0_dropRule_40 : decode cX0_dropRule 40 = .ok (.iconst 2, 1) := by decide +kernel
theorem dX0_dropRule_41 : decode cX0_dropRule 41 = .ok (.invokevirtual 77, 3) := by decide +kernel
theorem dX0_dropRule_44 : decode cX0_dropRule 44 = .ok (.iconst 1, 1) := by decide +kernel
theorem dX0_dropRule_45 : decode cX0_dropRule 45 = .ok (.isub, 1) := by decide +kernel
theorem dX0_dropRule_46 : decode cX0_dropRule 46 = .ok (.invokestatic 106, 3) := by decide +kernel
theorem dX0_dropRule_49 : decode cX0_dropRule 49 = .ok (.return_, 1) := by decide +kernel
set_option maxRecDepth 20000 in
theorem ggX0_setOfFate_X0_countOf : GoodIn wsX0_setOfFate wsX0_countOf := goodIn_r _ [6, 7, 19, 20, 21, 22, 23, 24, 25, 26, 27, 28, 29, 30, 31, 32] (by decide +kernel) (by decide +kernel)
set_option maxRecDepth 20000 in
theorem gX0_setOfFate_X0_countOf : GoodIn wsX0_setOfFate (wsV RX0 77 RX0 yX0_countOf wsX0_countOf) := goodIn_app (goodIn_of _ (by decide +kernel)) ggX0_setOfFate_X0_countOf
set_option maxRecDepth 20000 in
theorem ggX0_setOfFate_X0_personAt : GoodIn wsX0_setOfFate wsX0_personAt := goodIn_r _ [11, 12, 13, 19, 20, 21, 22, 23, 24, 25, 26, 27, 28, 29, 30, 31, 32] (by decide +kernel) (by decide +kernel)
set_option maxRecDepth 20000 in
theorem gX0_setOfFate_X0_personAt : GoodIn wsX0_setOfFate (wsV RX0 89 RX0 yX0_personAt wsX0_personAt) := goodIn_app (goodIn_of _ (by decide +kernel)) ggX0_setOfFate_X0_personAt
theorem dX0_setOfFate_0 : decode cX0_setOfFate 0 = .ok (.iconst 0, 1) := by decide +kernel
theorem dX0_setOfFate_1 : decode cX0_setOfFate 1 = .ok (.istore_n 2, 1) := by decide +kernel
theorem dX0_setOfFate_2 : decode cX0_setOfFate 2 = .ok (.iconst 0, 1) := by decide +kernel
theorem dX0_setOfFate_3 : decode cX0_setOfFate 3 = .ok (.istore_n 3, 1) := by decide +kernel
theorem dX0_setOfFate_4 : decode cX0_setOfFate 4 = .ok (.iload_n 3, 1) := by decide +kernel
theorem dX0_setOfFate_5 : decode cX0_setOfFate 5 = .ok (.aload_n 0, 1) := by decide +kernel
theorem dX0_setOfFate_6 : decode cX0_setOfFate 6 = .ok (.iconst 3, 1) := by decide +kernel
theorem dX0_setOfFate_7 : decode cX0_setOfFate 7 = .ok (.invokevirtual 77, 3) := by decide +kernel
theorem dX0_setOfFate_10 : decode cX0_setOfFate 10 = .ok (.if_icmp .ge 27, 3) := by decide +kernel
theorem dX0_setOfFate_13 : decode cX0_setOfFate 13 = .ok (.aload_n 0, 1) := by decide +kernel
theorem dX0_setOfFate_14 : decode cX0_setOfFate 14 = .ok (.iload_n 3, 1) := by decide +kernel
theorem dX0_setOfFate_15 : decode cX0_setOfFate 15 = .ok (.invokevirtual 89, 3) := by decide +kernel
theorem dX0_setOfFate_18 : decode cX0_setOfFate 18 = .ok (.getfield 118, 3) := by decide +kernel
theorem dX0_setOfFate_21 : decode cX0_setOfFate 21 = .ok (.iload_n 1, 1) := by decide +kernel
theorem dX0_setOfFate_22 : decode cX0_setOfFate 22 = .ok (.if_icmp .ne 9, 3) := by decide +kernel
theorem dX0_setOfFate_25 : decode cX0_setOfFate 25 = .ok (.iload_n 2, 1) := by decide +kernel
theorem dX0_setOfFate_26 : decode cX0_setOfFate 26 = .ok (.iconst 1, 1) := by decide +kernel
theorem dX0_setOfFate_27 : decode cX0_setOfFate 27 = .ok (.iload_n 3, 1) := by decide +kernel
theorem dX0_setOfFate_28 : decode cX0_setOfFate 28 = .ok (.ishl, 1) := by decide +kernel
theorem dX0_setOfFate_29 : decode cX0_setOfFate 29 = .ok (.ior, 1) := by decide +kernel
theorem dX0_setOfFate_30 : decode cX0_setOfFate 30 = .ok (.istore_n 2, 1) := by decide +kernel
theorem dX0_setOfFate_31 : decode cX0_setOfFate 31 = .ok (.iinc 3 1, 3) := by decide +kernel
theorem dX0_setOfFate_34 : decode cX0_setOfFate 34 = .ok (.goto (-30), 3) := by decide +kernel
theorem dX0_setOfFate_37 : decode cX0_setOfFate 37 = .ok (.iload_n 2, 1) := by decide +kernel
theorem dX0_setOfFate_38 : decode cX0_setOfFate 38 = .ok (.ireturn, 1) := by decide +kernel
set_option maxRecDepth 20000 in
theorem ggX0_guiltySet_X0_countOf : GoodIn wsX0_guiltySet wsX0_countOf := goodIn_r _ [6, 7, 19, 20, 21, 22, 23, 24, 25, 26, 27, 28, 29, 30, 31, 32] (by decide +kernel) (by decide +kernel)
set_option maxRecDepth 20000 in
theorem gX0_guiltySet_X0_countOf : GoodIn wsX0_guiltySet (wsV RX0 77 RX0 yX0_countOf wsX0_countOf) := goodIn_app (goodIn_of _ (by decide +kernel)) ggX0_guiltySet_X0_countOf
set_option maxRecDepth 20000 in
theorem ggX0_guiltySet_X0_personAt : GoodIn wsX0_guiltySet wsX0_personAt := goodIn_r _ [11, 12, 13, 19, 20, 21, 22, 23, 24, 25, 26, 27, 28, 29, 30, 31, 32] (by decide +kernel) (by decide +kernel)
set_option maxRecDepth 20000 in
theorem gX0_guiltySet_X0_personAt : GoodIn wsX0_guiltySet (wsV RX0 89 RX0 yX0_personAt wsX0_personAt) := goodIn_app (goodIn_of _ (by decide +kernel)) ggX0_guiltySet_X0_personAt
theorem dX0_guiltySet_0 : decode cX0_guiltySet 0 = .ok (.iconst 0, 1) := by decide +kernel
theorem dX0_guiltySet_1 : decode cX0_guiltySet 1 = .ok (.istore_n 1, 1) := by decide +kernel
theorem dX0_guiltySet_2 : decode cX0_guiltySet 2 = .ok (.iconst 0, 1) := by decide +kernel
theorem dX0_guiltySet_3 : decode cX0_guiltySet 3 = .ok (.istore_n 2, 1) := by decide +kernel
theorem dX0_guiltySet_4 : decode cX0_guiltySet 4 = .ok (.iload_n 2, 1) := by decide +kernel
theorem dX0_guiltySet_5 : decode cX0_guiltySet 5 = .ok (.aload_n 0, 1) := by decide +kernel
theorem dX0_guiltySet_6 : decode cX0_guiltySet 6 = .ok (.iconst 3, 1) := by decide +kernel
theorem dX0_guiltySet_7 : decode cX0_guiltySet 7 = .ok (.invokevirtual 77, 3) := by decide +kernel
theorem dX0_guiltySet_10 : decode cX0_guiltySet 10 = .ok (.if_icmp .ge 27, 3) := by decide +kernel
theorem dX0_guiltySet_13 : decode cX0_guiltySet 13 = .ok (.aload_n 0, 1) := by decide +kernel
theorem dX0_guiltySet_14 : decode cX0_guiltySet 14 = .ok (.iload_n 2, 1) := by decide +kernel
theorem dX0_guiltySet_15 : decode cX0_guiltySet 15 = .ok (.invokevirtual 89, 3) := by decide +kernel
theorem dX0_guiltySet_18 : decode cX0_guiltySet 18 = .ok (.getfield 121, 3) := by decide +kernel
theorem dX0_guiltySet_21 : decode cX0_guiltySet 21 = .ok (.iconst 1, 1) := by decide +kernel
theorem dX0_guiltySet_22 : decode cX0_guiltySet 22 = .ok (.if_icmp .ne 9, 3) := by decide +kernel
theorem dX0_guiltySet_25 : decode cX0_guiltySet 25 = .ok (.iload_n 1, 1) := by decide +kernel
theorem dX0_guiltySet_26 : decode cX0_guiltySet 26 = .ok (.iconst 1, 1) := by decide +kernel
theorem dX0_guiltySet_27 : decode cX0_guiltySet 27 = .ok (.iload_n 2, 1) := by decide +kernel
theorem dX0_guiltySet_28 : decode cX0_guiltySet 28 = .ok (.ishl, 1) := by decide +kernel
theorem dX0_guiltySet_29 : decode cX0_guiltySet 29 = .ok (.ior, 1) := by decide +kernel
theorem dX0_guiltySet_30 : decode cX0_guiltySet 30 = .ok (.istore_n 1, 1) := by decide +kernel
theorem dX0_guiltySet_31 : decode cX0_guiltySet 31 = .ok (.iinc 2 1, 3) := by decide +kernel
theorem dX0_guiltySet_34 : decode cX0_guiltySet 34 = .ok (.goto (-30), 3) := by decide +kernel
theorem dX0_guiltySet_37 : decode cX0_guiltySet 37 = .ok (.iload_n 1, 1) := by decide +kernel
theorem dX0_guiltySet_38 : decode cX0_guiltySet 38 = .ok (.ireturn, 1) := by decide +kernel
set_option maxRecDepth 20000 in
theorem ggX0_allFed_X0_countOf : GoodIn wsX0_allFed wsX0_countOf := goodIn_r _ [6, 7, 19, 20, 21, 22, 23, 24, 25, 26, 27, 28, 29, 30, 31, 32] (by decide +kernel) (by decide +kernel)
set_option maxRecDepth 20000 in
theorem gX0_allFed_X0_countOf : GoodIn wsX0_allFed (wsV RX0 77 RX0 yX0_countOf wsX0_countOf) := goodIn_app (goodIn_of _ (by decide +kernel)) ggX0_allFed_X0_countOf
set_option maxRecDepth 20000 in
theorem ggX0_allFed_X0_personAt : GoodIn wsX0_allFed wsX0_personAt := goodIn_r _ [11, 12, 13, 19, 20, 21, 22, 23, 24, 25, 26, 27, 28, 29, 30, 31, 32] (by decide +kernel) (by decide +kernel)
set_option maxRecDepth 20000 in
theorem gX0_allFed_X0_personAt : GoodIn wsX0_allFed (wsV RX0 89 RX0 yX0_personAt wsX0_personAt) := goodIn_app (goodIn_of _ (by decide +kernel)) ggX0_allFed_X0_personAt
theorem dX0_allFed_0 : decode cX0_allFed 0 = .ok (.iconst 0, 1) := by decide +kernel
theorem dX0_allFed_1 : decode cX0_allFed 1 = .ok (.istore_n 1, 1) := by decide +kernel
theorem dX0_allFed_2 : decode cX0_allFed 2 = .ok (.iconst 0, 1) := by decide +kernel
theorem dX0_allFed_3 : decode cX0_allFed 3 = .ok (.istore_n 2, 1) := by decide +kernel
theorem dX0_allFed_4 : decode cX0_allFed 4 = .ok (.iload_n 2, 1) := by decide +kernel
theorem dX0_allFed_5 : decode cX0_allFed 5 = .ok (.aload_n 0, 1) := by decide +kernel
theorem dX0_allFed_6 : decode cX0_allFed 6 = .ok (.iconst 3, 1) := by decide +kernel
theorem dX0_allFed_7 : decode cX0_allFed 7 = .ok (.invokevirtual 77, 3) := by decide +kernel
theorem dX0_allFed_10 : decode cX0_allFed 10 = .ok (.if_icmp .ge 20, 3) := by decide +kernel
theorem dX0_allFed_13 : decode cX0_allFed 13 = .ok (.iload_n 1, 1) := by decide +kernel
theorem dX0_allFed_14 : decode cX0_allFed 14 = .ok (.aload_n 0, 1) := by decide +kernel
theorem dX0_allFed_15 : decode cX0_allFed 15 = .ok (.iload_n 2, 1) := by decide +kernel
theorem dX0_allFed_16 : decode cX0_allFed 16 = .ok (.invokevirtual 89, 3) := by decide +kernel
theorem dX0_allFed_19 : decode cX0_allFed 19 = .ok (.getfield 124, 3) := by decide +kernel
theorem dX0_allFed_22 : decode cX0_allFed 22 = .ok (.iadd, 1) := by decide +kernel
theorem dX0_allFed_23 : decode cX0_allFed 23 = .ok (.istore_n 1, 1) := by decide +kernel
theorem dX0_allFed_24 : decode cX0_allFed 24 = .ok (.iinc 2 1, 3) := by decide +kernel
theorem dX0_allFed_27 : decode cX0_allFed 27 = .ok (.goto (-23), 3) := by decide +kernel
theorem dX0_allFed_30 : decode cX0_allFed 30 = .ok (.iload_n 1, 1) := by decide +kernel
theorem dX0_allFed_31 : decode cX0_allFed 31 = .ok (.ireturn, 1) := by decide +kernel
set_option maxRecDepth 20000 in
theorem ggX0_wordsOf_X0_countOf : GoodIn wsX0_wordsOf wsX0_countOf := goodIn_r _ [7, 8, 12, 13, 14, 15, 16, 17, 18, 19, 20, 21, 22, 23, 24, 25] (by decide +kernel) (by decide +kernel)
set_option maxRecDepth 20000 in
theorem gX0_wordsOf_X0_countOf : GoodIn wsX0_wordsOf (wsV RX0 77 RX0 yX0_countOf wsX0_countOf) := goodIn_app (goodIn_of _ (by decide +kernel)) ggX0_wordsOf_X0_countOf
set_option maxRecDepth 20000 in
theorem ggX0_wordsOf_X11_cell : GoodIn wsX0_wordsOf wsX11_cell := goodIn_r _ [11] (by decide +kernel) (by decide +kernel)
set_option maxRecDepth 20000 in
theorem gX0_wordsOf_X11_cell_n102 : GoodIn wsX0_wordsOf (wsX11_cell) := ggX0_wordsOf_X11_cell
theorem dX0_wordsOf_0 : decode cX0_wordsOf 0 = .ok (.iconst 0, 1) := by decide +kernel
theorem dX0_wordsOf_1 : decode cX0_wordsOf 1 = .ok (.istore_n 3, 1) := by decide +kernel
theorem dX0_wordsOf_2 : decode cX0_wordsOf 2 = .ok (.iconst 0, 1) := by decide +kernel
theorem dX0_wordsOf_3 : decode cX0_wordsOf 3 = .ok (.istore 4, 2) := by decide +kernel
theorem dX0_wordsOf_5 : decode cX0_wordsOf 5 = .ok (.iload 4, 2) := by decide +kernel
theorem dX0_wordsOf_7 : decode cX0_wordsOf 7 = .ok (.aload_n 0, 1) := by decide +kernel
theorem dX0_wordsOf_8 : decode cX0_wordsOf 8 = .ok (.iconst 5, 1) := by decide +kernel
theorem dX0_wordsOf_9 : decode cX0_wordsOf 9 = .ok (.invokevirtual 77, 3) := by decide +kernel
theorem dX0_wordsOf_12 : decode cX0_wordsOf 12 = .ok (.if_icmp .ge 42, 3) := by decide +kernel
theorem dX0_wordsOf_15 : decode cX0_wordsOf 15 = .ok (.aload_n 0, 1) := by decide +kernel
theorem dX0_wordsOf_16 : decode cX0_wordsOf 16 = .ok (.getfield 40, 3) := by decide +kernel
theorem dX0_wordsOf_19 : decode cX0_wordsOf 19 = .ok (.iload 4, 2) := by decide +kernel
theorem dX0_wordsOf_21 : decode cX0_wordsOf 21 = .ok (.invokestatic 102, 3) := by decide +kernel
theorem dX0_wordsOf_24 : decode cX0_wordsOf 24 = .ok (.iload_n 1, 1) := by decide +kernel
theorem dX0_wordsOf_25 : decode cX0_wordsOf 25 = .ok (.if_icmp .ne 23, 3) := by decide +kernel
theorem dX0_wordsOf_28 : decode cX0_wordsOf 28 = .ok (.aload_n 0, 1) := by decide +kernel
theorem dX0_wordsOf_29 : decode cX0_wordsOf 29 = .ok (.getfield 43, 3) := by decide +kernel
theorem dX0_wordsOf_32 : decode cX0_wordsOf 32 = .ok (.iload 4, 2) := by decide +kernel
theorem dX0_wordsOf_34 : decode cX0_wordsOf 34 = .ok (.invokestatic 102, 3) := by decide +kernel
theorem dX0_wordsOf_37 : decode cX0_wordsOf 37 = .ok (.iload_n 2, 1) := by decide +kernel
theorem dX0_wordsOf_38 : decode cX0_wordsOf 38 = .ok (.if_icmp .ne 10, 3) := by decide +kernel
theorem dX0_wordsOf_41 : decode cX0_wordsOf 41 = .ok (.iload_n 3, 1) := by decide +kernel
theorem dX0_wordsOf_42 : decode cX0_wordsOf 42 = .ok (.iconst 1, 1) := by decide +kernel
theorem dX0_wordsOf_43 : decode cX0_wordsOf 43 = .ok (.iload 4, 2) := by decide +kernel
theorem dX0_wordsOf_45 : decode cX0_wordsOf 45 = .ok (.ishl, 1) := by decide +kernel
theorem dX0_wordsOf_46 : decode cX0_wordsOf 46 = .ok (.ior, 1) := by decide +kernel
theorem dX0_wordsOf_47 : decode cX0_wordsOf 47 = .ok (.istore_n 3, 1) := by decide +kernel
theorem dX0_wordsOf_48 : decode cX0_wordsOf 48 = .ok (.iinc 4 1, 3) := by decide +kernel
theorem dX0_wordsOf_51 : decode cX0_wordsOf 51 = .ok (.goto (-46), 3) := by decide +kernel
theorem dX0_wordsOf_54 : decode cX0_wordsOf 54 = .ok (.iload_n 3, 1) := by decide +kernel
theorem dX0_wordsOf_55 : decode cX0_wordsOf 55 = .ok (.ireturn, 1) := by decide +kernel
set_option maxRecDepth 20000 in
theorem ggX0_votesOf_X0_countOf : GoodIn wsX0_votesOf wsX0_countOf := goodIn_r _ [6, 7, 13, 14, 15, 16, 17, 18, 19, 20, 21, 22, 23, 24, 25, 26] (by decide +kernel) (by decide +kernel)
set_option maxRecDepth 20000 in
theorem gX0_votesOf_X0_countOf : GoodIn wsX0_votesOf (wsV RX0 77 RX0 yX0_countOf wsX0_countOf) := goodIn_app (goodIn_of _ (by decide +kernel)) ggX0_votesOf_X0_countOf
set_option maxRecDepth 20000 in
theorem ggX0_votesOf_X11_isIn : GoodIn wsX0_votesOf wsX11_isIn := goodIn_r _ [10] (by decide +kernel) (by decide +kernel)
set_option maxRecDepth 20000 in
theorem gX0_votesOf_X11_isIn_n127 : GoodIn wsX0_votesOf (wsX11_isIn) := ggX0_votesOf_X11_isIn
set_option maxRecDepth 20000 in
theorem ggX0_votesOf_X11_cell : GoodIn wsX0_votesOf wsX11_cell := goodIn_r _ [12] (by decide +kernel) (by decide +kernel)
set_option maxRecDepth 20000 in
theorem gX0_votesOf_X11_cell_n102 : GoodIn wsX0_votesOf (wsX11_cell) := ggX0_votesOf_X11_cell
theorem dX0_votesOf_0 : decode cX0_votesOf 0 = .ok (.iconst 0, 1) := by decide +kernel
theorem dX0_votesOf_1 : decode cX0_votesOf 1 = .ok (.istore_n 2, 1) := by decide +kernel
theorem dX0_votesOf_2 : decode cX0_votesOf 2 = .ok (.iconst 0, 1) := by decide +kernel
theorem dX0_votesOf_3 : decode cX0_votesOf 3 = .ok (.istore_n 3, 1) := by decide +kernel
theorem dX0_votesOf_4 : decode cX0_votesOf 4 = .ok (.iload_n 3, 1) := by decide +kernel
theorem dX0_votesOf_5 : decode cX0_votesOf 5 = .ok (.aload_n 0, 1) := by decide +kernel
theorem dX0_votesOf_6 : decode cX0_votesOf 6 = .ok (.iconst 4, 1) := by decide +kernel
theorem dX0_votesOf_7 : decode cX0_votesOf 7 = .ok (.invokevirtual 77, 3) := by decide +kernel
theorem dX0_votesOf_10 : decode cX0_votesOf 10 = .ok (.if_icmp .ge 32, 3) := by decide +kernel
theorem dX0_votesOf_13 : decode cX0_votesOf 13 = .ok (.iload_n 2, 1) := by decide +kernel
theorem dX0_votesOf_14 : decode cX0_votesOf 14 = .ok (.iload_n 1, 1) := by decide +kernel
theorem dX0_votesOf_15 : decode cX0_votesOf 15 = .ok (.iload_n 3, 1) := by decide +kernel
theorem dX0_votesOf_16 : decode cX0_votesOf 16 = .ok (.invokestatic 127, 3) := by decide +kernel
theorem dX0_votesOf_19 : decode cX0_votesOf 19 = .ok (.ifCond .eq 14, 3) := by decide +kernel
theorem dX0_votesOf_22 : decode cX0_votesOf 22 = .ok (.aload_n 0, 1) := by decide +kernel
theorem dX0_votesOf_23 : decode cX0_votesOf 23 = .ok (.getfield 37, 3) := by decide +kernel
theorem dX0_votesOf_26 : decode cX0_votesOf 26 = .ok (.iload_n 3, 1) := by decide +kernel
theorem dX0_votesOf_27 : decode cX0_votesOf 27 = .ok (.invokestatic 102, 3) := by decide +kernel
theorem dX0_votesOf_30 : decode cX0_votesOf 30 = .ok (.goto 4, 3) := by decide +kernel
theorem dX0_votesOf_33 : decode cX0_votesOf 33 = .ok (.iconst 0, 1) := by decide +kernel
theorem dX0_votesOf_34 : decode cX0_votesOf 34 = .ok (.iadd, 1) := by decide +kernel
theorem dX0_votesOf_35 : decode cX0_votesOf 35 = .ok (.istore_n 2, 1) := by decide +kernel
theorem dX0_votesOf_36 : decode cX0_votesOf 36 = .ok (.iinc 3 1, 3) := by decide +kernel
theorem dX0_votesOf_39 : decode cX0_votesOf 39 = .ok (.goto (-35), 3) := by decide +kernel
theorem dX0_votesOf_42 : decode cX0_votesOf 42 = .ok (.iload_n 2, 1) := by decide +kernel
theorem dX0_votesOf_43 : decode cX0_votesOf 43 = .ok (.ireturn, 1) := by decide +kernel
set_option maxRecDepth 20000 in
theorem ggX0_rightWeight_X0_votesOf : GoodIn wsX0_rightWeight wsX0_votesOf := goodIn_r _ [5, 6, 7, 8, 9, 4, 10, 11, 12, 13, 14, 15, 16, 22, 23, 24, 25, 26, 27, 28, 29, 30, 31, 32, 33, 34, 35] (by decide +kernel) (by decide +kernel)
set_option maxRecDepth 20000 in
theorem gX0_rightWeight_X0_votesOf : GoodIn wsX0_rightWeight (wsV RX0 130 RX0 yX0_votesOf wsX0_votesOf) := goodIn_app (goodIn_of _ (by decide +kernel)) ggX0_rightWeight_X0_votesOf
set_option maxRecDepth 20000 in
theorem ggX0_rightWeight_X0_weightOf : GoodIn wsX0_rightWeight wsX0_weightOf := goodIn_r _ [20, 21, 7, 8, 9, 4, 10, 11, 12, 13, 14, 15, 16, 22, 23, 24, 25, 26, 27, 28, 29, 30, 31, 32, 33, 34, 35] (by decide +kernel) (by decide +kernel)
set_option maxRecDepth 20000 in
theorem gX0_rightWeight_X0_weightOf : GoodIn wsX0_rightWeight (wsV RX0 133 RX0 yX0_weightOf wsX0_weightOf) := goodIn_app (goodIn_of _ (by decide +kernel)) ggX0_rightWeight_X0_weightOf
theorem dX0_rightWeight_0 : decode cX0_rightWeight 0 = .ok (.lconst 0, 1) := by decide +kernel
theorem dX0_rightWeight_1 : decode cX0_rightWeight 1 = .ok (.lstore_n 2, 1) := by decide +kernel
theorem dX0_rightWeight_2 : decode cX0_rightWeight 2 = .ok (.iconst 1, 1) := by decide +kernel
theorem dX0_rightWeight_3 : decode cX0_rightWeight 3 = .ok (.istore 4, 2) := by decide +kernel
theorem dX0_rightWeight_5 : decode cX0_rightWeight 5 = .ok (.iload 4, 2) := by decide +kernel
theorem dX0_rightWeight_7 : decode cX0_rightWeight 7 = .ok (.iload_n 1, 1) := by decide +kernel
theorem dX0_rightWeight_8 : decode cX0_rightWeight 8 = .ok (.if_icmp .gt 56, 3) := by decide +kernel
theorem dX0_rightWeight_11 : decode cX0_rightWeight 11 = .ok (.iload 4, 2) := by decide +kernel
theorem dX0_rightWeight_13 : decode cX0_rightWeight 13 = .ok (.iload_n 1, 1) := by decide +kernel
theorem dX0_rightWeight_14 : decode cX0_rightWeight 14 = .ok (.iconst (-1), 1) := by decide +kernel
theorem dX0_rightWeight_15 : decode cX0_rightWeight 15 = .ok (.ixor, 1) := by decide +kernel
theorem dX0_rightWeight_16 : decode cX0_rightWeight 16 = .ok (.iand, 1) := by decide +kernel
theorem dX0_rightWeight_17 : decode cX0_rightWeight 17 = .ok (.ifCond .ne 7, 3) := by decide +kernel
theorem dX0_rightWeight_20 : decode cX0_rightWeight 20 = .ok (.iconst 1, 1) := by decide +kernel
theorem dX0_rightWeight_21 : decode cX0_rightWeight 21 = .ok (.goto 4, 3) := by decide +kernel
theorem dX0_rightWeight_24 : decode cX0_rightWeight 24 = .ok (.iconst 0, 1) := by decide +kernel
theorem dX0_rightWeight_25 : decode cX0_rightWeight 25 = .ok (.istore 5, 2) := by decide +kernel
theorem dX0_rightWeight_27 : decode cX0_rightWeight 27 = .ok (.iload 5, 2) := by decide +kernel
theorem dX0_rightWeight_29 : decode cX0_rightWeight 29 = .ok (.ifCond .eq 29, 3) := by decide +kernel
theorem dX0_rightWeight_32 : decode cX0_rightWeight 32 = .ok (.iconst 2, 1) := by decide +kernel
theorem dX0_rightWeight_33 : decode cX0_rightWeight 33 = .ok (.aload_n 0, 1) := by decide +kernel
theorem dX0_rightWeight_34 : decode cX0_rightWeight 34 = .ok (.iload 4, 2) := by decide +kernel
theorem dX0_rightWeight_36 : decode cX0_rightWeight 36 = .ok (.invokevirtual 130, 3) := by decide +kernel
theorem dX0_rightWeight_39 : decode cX0_rightWeight 39 = .ok (.imul, 1) := by decide +kernel
theorem dX0_rightWeight_40 : decode cX0_rightWeight 40 = .ok (.aload_n 0, 1) := by decide +kernel
theorem dX0_rightWeight_41 : decode cX0_rightWeight 41 = .ok (.iload_n 1, 1) := by decide +kernel
theorem dX0_rightWeight_42 : decode cX0_rightWeight 42 = .ok (.invokevirtual 130, 3) := by decide +kernel
theorem dX0_rightWeight_45 : decode cX0_rightWeight 45 = .ok (.if_icmp .le 13, 3) := by decide +kernel
theorem dX0_rightWeight_48 : decode cX0_rightWeight 48 = .ok (.lload_n 2, 1) := by decide +kernel
theorem dX0_rightWeight_49 : decode cX0_rightWeight 49 = .ok (.aload_n 0, 1) := by decide +kernel
theorem dX0_rightWeight_50 : decode cX0_rightWeight 50 = .ok (.iload_n 1, 1) := by decide +kernel
theorem dX0_rightWeight_51 : decode cX0_rightWeight 51 = .ok (.iload 4, 2) := by decide +kernel
theorem dX0_rightWeight_53 : decode cX0_rightWeight 53 = .ok (.invokevirtual 133, 3) := by decide +kernel
theorem dX0_rightWeight_56 : decode cX0_rightWeight 56 = .ok (.ladd, 1) := by decide +kernel
theorem dX0_rightWeight_57 : decode cX0_rightWeight 57 = .ok (.lstore_n 2, 1) := by decide +kernel
theorem dX0_rightWeight_58 : decode cX0_rightWeight 58 = .ok (.iinc 4 1, 3) := by decide +kernel
theorem dX0_rightWeight_61 : decode cX0_rightWeight 61 = .ok (.goto (-56), 3) := by decide +kernel
theorem dX0_rightWeight_64 : decode cX0_rightWeight 64 = .ok (.lload_n 2, 1) := by decide +kernel
theorem dX0_rightWeight_65 : decode cX0_rightWeight 65 = .ok (.lreturn, 1) := by decide +kernel
set_option maxRecDepth 20000 in
theorem ggX0_weightOf_X0_countOf : GoodIn wsX0_weightOf wsX0_countOf := goodIn_r _ [6, 7, 13, 14, 15, 16, 17, 18, 19, 20, 21, 22, 23, 24, 25, 26] (by decide +kernel) (by decide +kernel)
set_option maxRecDepth 20000 in
theorem gX0_weightOf_X0_countOf : GoodIn wsX0_weightOf (wsV RX0 77 RX0 yX0_countOf wsX0_countOf) := goodIn_app (goodIn_of _ (by decide +kernel)) ggX0_weightOf_X0_countOf
set_option maxRecDepth 20000 in
theorem ggX0_weightOf_X11_isIn : GoodIn wsX0_weightOf wsX11_isIn := goodIn_r _ [10] (by decide +kernel) (by decide +kernel)
set_option maxRecDepth 20000 in
theorem gX0_weightOf_X11_isIn_n127 : GoodIn wsX0_weightOf (wsX11_isIn) := ggX0_weightOf_X11_isIn
set_option maxRecDepth 20000 in
theorem ggX0_weightOf_X11_cell : GoodIn wsX0_weightOf wsX11_cell := goodIn_r _ [12] (by decide +kernel) (by decide +kernel)
set_option maxRecDepth 20000 in
theorem gX0_weightOf_X11_cell_n102 : GoodIn wsX0_weightOf (wsX11_cell) := ggX0_weightOf_X11_cell
theorem dX0_weightOf_0 : decode cX0_weightOf 0 = .ok (.lconst 1, 1) := by decide +kernel
theorem dX0_weightOf_1 : decode cX0_weightOf 1 = .ok (.lstore_n 3, 1) := by decide +kernel
theorem dX0_weightOf_2 : decode cX0_weightOf 2 = .ok (.iconst 0, 1) := by decide +kernel
theorem dX0_weightOf_3 : decode cX0_weightOf 3 = .ok (.istore 5, 2) := by decide +kernel
theorem dX0_weightOf_5 : decode cX0_weightOf 5 = .ok (.iload 5, 2) := by decide +kernel
theorem dX0_weightOf_7 : decode cX0_weightOf 7 = .ok (.aload_n 0, 1) := by decide +kernel
theorem dX0_weightOf_8 : decode cX0_weightOf 8 = .ok (.iconst 4, 1) := by decide +kernel
theorem dX0_weightOf_9 : decode cX0_weightOf 9 = .ok (.invokevirtual 77, 3) := by decide +kernel
theorem dX0_weightOf_12 : decode cX0_weightOf 12 = .ok (.if_icmp .ge 53, 3) := by decide +kernel
theorem dX0_weightOf_15 : decode cX0_weightOf 15 = .ok (.iload_n 1, 1) := by decide +kernel
theorem dX0_weightOf_16 : decode cX0_weightOf 16 = .ok (.iload 5, 2) := by decide +kernel
theorem dX0_weightOf_18 : decode cX0_weightOf 18 = .ok (.invokestatic 127, 3) := by decide +kernel
theorem dX0_weightOf_21 : decode cX0_weightOf 21 = .ok (.ifCond .eq 38, 3) := by decide +kernel
theorem dX0_weightOf_24 : decode cX0_weightOf 24 = .ok (.aload_n 0, 1) := by decide +kernel
theorem dX0_weightOf_25 : decode cX0_weightOf 25 = .ok (.getfield 34, 3) := by decide +kernel
theorem dX0_weightOf_28 : decode cX0_weightOf 28 = .ok (.iload 5, 2) := by decide +kernel
theorem dX0_weightOf_30 : decode cX0_weightOf 30 = .ok (.invokestatic 102, 3) := by decide +kernel
theorem dX0_weightOf_33 : decode cX0_weightOf 33 = .ok (.istore 6, 2) := by decide +kernel
theorem dX0_weightOf_35 : decode cX0_weightOf 35 = .ok (.lload_n 3, 1) := by decide +kernel
theorem dX0_weightOf_36 : decode cX0_weightOf 36 = .ok (.iload_n 2, 1) := by decide +kernel
theorem dX0_weightOf_37 : decode cX0_weightOf 37 = .ok (.iload 5, 2) := by decide +kernel
theorem dX0_weightOf_39 : decode cX0_weightOf 39 = .ok (.invokestatic 127, 3) := by decide +kernel
theorem dX0_weightOf_42 : decode cX0_weightOf 42 = .ok (.ifCond .eq 12, 3) := by decide +kernel
theorem dX0_weightOf_45 : decode cX0_weightOf 45 = .ok (.bipush 16, 2) := by decide +kernel
theorem dX0_weightOf_47 : decode cX0_weightOf 47 = .ok (.iload 6, 2) := by decide +kernel
theorem dX0_weightOf_49 : decode cX0_weightOf 49 = .ok (.isub, 1) := by decide +kernel
theorem dX0_weightOf_50 : decode cX0_weightOf 50 = .ok (.i2l, 1) := by decide +kernel
theorem dX0_weightOf_51 : decode cX0_weightOf 51 = .ok (.goto 6, 3) := by decide +kernel
theorem dX0_weightOf_54 : decode cX0_weightOf 54 = .ok (.iload 6, 2) := by decide +kernel
theorem dX0_weightOf_56 : decode cX0_weightOf 56 = .ok (.i2l, 1) := by decide +kernel
theorem dX0_weightOf_57 : decode cX0_weightOf 57 = .ok (.lmul, 1) := by decide +kernel
theorem dX0_weightOf_58 : decode cX0_weightOf 58 = .ok (.lstore_n 3, 1) := by decide +kernel
theorem dX0_weightOf_59 : decode cX0_weightOf 59 = .ok (.iinc 5 1, 3) := by decide +kernel
theorem dX0_weightOf_62 : decode cX0_weightOf 62 = .ok (.goto (-57), 3) := by decide +kernel
theorem dX0_weightOf_65 : decode cX0_weightOf 65 = .ok (.lload_n 3, 1) := by decide +kernel
theorem dX0_weightOf_66 : decode cX0_weightOf 66 = .ok (.lreturn, 1) := by decide +kernel
set_option maxRecDepth 20000 in
theorem ggX0_senseOf_X0_has : GoodIn wsX0_senseOf wsX0_has := goodIn_r _ [6, 7, 8, 9, 5, 10, 11, 15, 16, 17, 18, 19, 20, 21, 22, 23, 24, 25, 26, 27, 28] (by decide +kernel) (by decide +kernel)
set_option maxRecDepth 20000 in
theorem gX0_senseOf_X0_has : GoodIn wsX0_senseOf (wsV RX0 137 RX0 yX0_has wsX0_has) := goodIn_app (goodIn_of _ (by decide +kernel)) ggX0_senseOf_X0_has
set_option maxRecDepth 20000 in
theorem ggX0_senseOf_X11_cell : GoodIn wsX0_senseOf wsX11_cell := goodIn_r _ [14] (by decide +kernel) (by decide +kernel)
set_option maxRecDepth 20000 in
theorem gX0_senseOf_X11_cell_n102 : GoodIn wsX0_senseOf (wsX11_cell) := ggX0_senseOf_X11_cell
theorem dX0_senseOf_0 : decode cX0_senseOf 0 = .ok (.aload_n 0, 1) := by decide +kernel
theorem dX0_senseOf_1 : decode cX0_senseOf 1 = .ok (.iconst 1, 1) := by decide +kernel
theorem dX0_senseOf_2 : decode cX0_senseOf 2 = .ok (.iload_n 1, 1) := by decide +kernel
theorem dX0_senseOf_3 : decode cX0_senseOf 3 = .ok (.invokevirtual 137, 3) := by decide +kernel
theorem dX0_senseOf_6 : decode cX0_senseOf 6 = .ok (.ifCond .eq 14, 3) := by decide +kernel
theorem dX0_senseOf_9 : decode cX0_senseOf 9 = .ok (.aload_n 0, 1) := by decide +kernel
theorem dX0_senseOf_10 : decode cX0_senseOf 10 = .ok (.getfield 19, 3) := by decide +kernel
theorem dX0_senseOf_13 : decode cX0_senseOf 13 = .ok (.iload_n 1, 1) := by decide +kernel
theorem dX0_senseOf_14 : decode cX0_senseOf 14 = .ok (.invokestatic 102, 3) := by decide +kernel
theorem dX0_senseOf_17 : decode cX0_senseOf 17 = .ok (.goto 4, 3) := by decide +kernel
theorem dX0_senseOf_20 : decode cX0_senseOf 20 = .ok (.iconst 0, 1) := by decide +kernel
theorem dX0_senseOf_21 : decode cX0_senseOf 21 = .ok (.ireturn, 1) := by decide +kernel
set_option maxRecDepth 20000 in
theorem ggX0_ruleFor_X0_countOf : GoodIn wsX0_ruleFor wsX0_countOf := goodIn_r _ [5, 6, 24, 25, 26, 27, 28, 29, 30, 31, 32, 33, 34, 35, 36, 37] (by decide +kernel) (by decide +kernel)
set_option maxRecDepth 20000 in
theorem gX0_ruleFor_X0_countOf : GoodIn wsX0_ruleFor (wsV RX0 77 RX0 yX0_countOf wsX0_countOf) := goodIn_app (goodIn_of _ (by decide +kernel)) ggX0_ruleFor_X0_countOf
set_option maxRecDepth 20000 in
theorem ggX0_ruleFor_X0_ruleAt : GoodIn wsX0_ruleFor wsX0_ruleAt := goodIn_r _ [10, 11, 12, 24, 25, 26, 27, 28, 29, 30, 31, 32, 33, 34, 35, 36, 37] (by decide +kernel) (by decide +kernel)
set_option maxRecDepth 20000 in
theorem gX0_ruleFor_X0_ruleAt : GoodIn wsX0_ruleFor (wsV RX0 81 RX0 yX0_ruleAt wsX0_ruleAt) := goodIn_app (goodIn_of _ (by decide +kernel)) ggX0_ruleFor_X0_ruleAt
set_option maxRecDepth 20000 in
theorem ggX0_ruleFor_X6_bearsOn : GoodIn wsX0_ruleFor wsX6_bearsOn := goodIn_r _ [17, 18, 19, 20, 21, 22, 23, 38, 39, 40, 41, 42, 43, 44, 45, 46] (by decide +kernel) (by decide +kernel)
set_option maxRecDepth 20000 in
theorem gX0_ruleFor_X6_bearsOn : GoodIn wsX0_ruleFor (wsV RX0 140 RX6 yX6_bearsOn wsX6_bearsOn) := goodIn_app (goodIn_of _ (by decide +kernel)) ggX0_ruleFor_X6_bearsOn
theorem dX0_ruleFor_0 : decode cX0_ruleFor 0 = .ok (.iconst 0, 1) := by decide +kernel
theorem dX0_ruleFor_1 : decode cX0_ruleFor 1 = .ok (.istore 5, 2) := by decide +kernel
theorem dX0_ruleFor_3 : decode cX0_ruleFor 3 = .ok (.iload 5, 2) := by decide +kernel
theorem dX0_ruleFor_5 : decode cX0_ruleFor 5 = .ok (.aload_n 0, 1) := by decide +kernel
theorem dX0_ruleFor_6 : decode cX0_ruleFor 6 = .ok (.iconst 2, 1) := by decide +kernel
theorem dX0_ruleFor_7 : decode cX0_ruleFor 7 = .ok (.invokevirtual 77, 3) := by decide +kernel
theorem dX0_ruleFor_10 : decode cX0_ruleFor 10 = .ok (.if_icmp .ge 29, 3) := by decide +kernel
theorem dX0_ruleFor_13 : decode cX0_ruleFor 13 = .ok (.aload_n 0, 1) := by decide +kernel
theorem dX0_ruleFor_14 : decode cX0_ruleFor 14 = .ok (.iload 5, 2) := by decide +kernel
theorem dX0_ruleFor_16 : decode cX0_ruleFor 16 = .ok (.invokevirtual 81, 3) := by decide +kernel
theorem dX0_ruleFor_19 : decode cX0_ruleFor 19 = .ok (.iload_n 1, 1) := by decide +kernel
theorem dX0_ruleFor_20 : decode cX0_ruleFor 20 = .ok (.iload_n 2, 1) := by decide +kernel
theorem dX0_ruleFor_21 : decode cX0_ruleFor 21 = .ok (.iload_n 3, 1) := by decide +kernel
theorem dX0_ruleFor_22 : decode cX0_ruleFor 22 = .ok (.iload 4, 2) := by decide +kernel
theorem dX0_ruleFor_24 : decode cX0_ruleFor 24 = .ok (.invokevirtual 140, 3) := by decide +kernel
theorem dX0_ruleFor_27 : decode cX0_ruleFor 27 = .ok (.ifCond .eq 6, 3) := by decide +kernel
theorem dX0_ruleFor_30 : decode cX0_ruleFor 30 = .ok (.iload 5, 2) := by decide +kernel
theorem dX0_ruleFor_32 : decode cX0_ruleFor 32 = .ok (.ireturn, 1) := by decide +kernel
theorem dX0_ruleFor_33 : decode cX0_ruleFor 33 = .ok (.iinc 5 1, 3) := by decide +kernel
theorem dX0_ruleFor_36 : decode cX0_ruleFor 36 = .ok (.goto (-33), 3) := by decide +kernel
theorem dX0_ruleFor_39 : decode cX0_ruleFor 39 = .ok (.iconst (-1), 1) := by decide +kernel
theorem dX0_ruleFor_40 : decode cX0_ruleFor 40 = .ok (.ireturn, 1) := by decide +kernel
set_option maxRecDepth 20000 in
theorem ggX0_cueFor_X0_ruleFor : GoodIn wsX0_cueFor wsX0_ruleFor := goodIn_r _ [6, 7, 8, 9, 5, 10, 11, 12, 13, 14, 15, 16, 17, 18, 19, 20, 21, 22, 23, 24, 25, 26, 27, 28, 38, 39, 40, 41, 42, 43, 44, 45, 46, 47, 48, 49, 50, 51, 29, 30, 31, 32, 33, 34, 35, 36, 37] (by decide +kernel) (by decide +kernel)
set_option maxRecDepth 20000 in
theorem gX0_cueFor_X0_ruleFor : GoodIn wsX0_cueFor (wsV RX0 144 RX0 yX0_ruleFor wsX0_ruleFor) := goodIn_app (goodIn_of _ (by decide +kernel)) ggX0_cueFor_X0_ruleFor
set_option maxRecDepth 20000 in
theorem ggX0_cueFor_X0_countOf : GoodIn wsX0_cueFor wsX0_countOf := goodIn_r _ [10, 11, 38, 39, 40, 41, 42, 43, 44, 45, 46, 47, 48, 49, 50, 51] (by decide +kernel) (by decide +kernel)
set_option maxRecDepth 20000 in
theorem gX0_cueFor_X0_countOf : GoodIn wsX0_cueFor (wsV RX0 77 RX0 yX0_countOf wsX0_countOf) := goodIn_app (goodIn_of _ (by decide +kernel)) ggX0_cueFor_X0_countOf
set_option maxRecDepth 20000 in
theorem ggX0_cueFor_X0_ruleAt : GoodIn wsX0_cueFor wsX0_ruleAt := goodIn_r _ [15, 16, 17, 38, 39, 40, 41, 42, 43, 44, 45, 46, 47, 48, 49, 50, 51] (by decide +kernel) (by decide +kernel)
set_option maxRecDepth 20000 in
theorem gX0_cueFor_X0_ruleAt : GoodIn wsX0_cueFor (wsV RX0 81 RX0 yX0_ruleAt wsX0_ruleAt) := goodIn_app (goodIn_of _ (by decide +kernel)) ggX0_cueFor_X0_ruleAt
theorem dX0_cueFor_0 : decode cX0_cueFor 0 = .ok (.aload_n 0, 1) := by decide +kernel
theorem dX0_cueFor_1 : decode cX0_cueFor 1 = .ok (.iload_n 1, 1) := by decide +kernel
theorem dX0_cueFor_2 : decode cX0_cueFor 2 = .ok (.iload_n 2, 1) := by decide +kernel
theorem dX0_cueFor_3 : decode cX0_cueFor 3 = .ok (.iload_n 3, 1) := by decide +kernel
theorem dX0_cueFor_4 : decode cX0_cueFor 4 = .ok (.iload 4, 2) := by decide +kernel
theorem dX0_cueFor_6 : decode cX0_cueFor 6 = .ok (.invokevirtual 144, 3) := by decide +kernel
theorem dX0_cueFor_9 : decode cX0_cueFor 9 = .ok (.istore 5, 2) := by decide +kernel
theorem dX0_cueFor_11 : decode cX0_cueFor 11 = .ok (.iload 5, 2) := by decide +kernel
theorem dX0_cueFor_13 : decode cX0_cueFor 13 = .ok (.iconst (-1), 1) := by decide +kernel
theorem dX0_cueFor_14 : decode cX0_cueFor 14 = .ok (.if_icmp .ne 11, 3) := by decide +kernel
theorem dX0_cueFor_17 : decode cX0_cueFor 17 = .ok (.aload_n 0, 1) := by decide +kernel
theorem dX0_cueFor_18 : decode cX0_cueFor 18 = .ok (.iconst 1, 1) := by decide +kernel
theorem dX0_cueFor_19 : decode cX0_cueFor 19 = .ok (.invokevirtual 77, 3) := by decide +kernel
theorem dX0_cueFor_22 : decode cX0_cueFor 22 = .ok (.goto 12, 3) := by decide +kernel
theorem dX0_cueFor_25 : decode cX0_cueFor 25 = .ok (.aload_n 0, 1) := by decide +kernel
theorem dX0_cueFor_26 : decode cX0_cueFor 26 = .ok (.iload 5, 2) := by decide +kernel
theorem dX0_cueFor_28 : decode cX0_cueFor 28 = .ok (.invokevirtual 81, 3) := by decide +kernel
theorem dX0_cueFor_31 : decode cX0_cueFor 31 = .ok (.getfield 148, 3) := by decide +kernel
theorem dX0_cueFor_34 : decode cX0_cueFor 34 = .ok (.ireturn, 1) := by decide +kernel
set_option maxRecDepth 20000 in
theorem ggX0_cueBefore_X0_personAt : GoodIn wsX0_cueBefore wsX0_personAt := goodIn_r _ [9, 10, 11, 52, 53, 54, 55, 56, 57, 58, 59, 60, 61, 62, 63, 64, 65] (by decide +kernel) (by decide +kernel)
set_option maxRecDepth 20000 in
theorem gX0_cueBefore_X0_personAt : GoodIn wsX0_cueBefore (wsV RX0 89 RX0 yX0_personAt wsX0_personAt) := goodIn_app (goodIn_of _ (by decide +kernel)) ggX0_cueBefore_X0_personAt
set_option maxRecDepth 20000 in
theorem ggX0_cueBefore_X0_ruleFor : GoodIn wsX0_cueBefore wsX0_ruleFor := goodIn_r _ [15, 16, 17, 18, 8, 19, 20, 21, 22, 23, 24, 25, 26, 27, 28, 29, 30, 31, 32, 33, 34, 35, 36, 37, 52, 53, 54, 55, 56, 57, 58, 59, 60, 61, 62, 63, 64, 65, 43, 44, 45, 46, 47, 48, 49, 50, 51] (by decide +kernel) (by decide +kernel)
set_option maxRecDepth 20000 in
theorem gX0_cueBefore_X0_ruleFor : GoodIn wsX0_cueBefore (wsV RX0 144 RX0 yX0_ruleFor wsX0_ruleFor) := goodIn_app (goodIn_of _ (by decide +kernel)) ggX0_cueBefore_X0_ruleFor
set_option maxRecDepth 20000 in
theorem ggX0_cueBefore_X0_countOf : GoodIn wsX0_cueBefore wsX0_countOf := goodIn_r _ [19, 20, 52, 53, 54, 55, 56, 57, 58, 59, 60, 61, 62, 63, 64, 65] (by decide +kernel) (by decide +kernel)
set_option maxRecDepth 20000 in
theorem gX0_cueBefore_X0_countOf : GoodIn wsX0_cueBefore (wsV RX0 77 RX0 yX0_countOf wsX0_countOf) := goodIn_app (goodIn_of _ (by decide +kernel)) ggX0_cueBefore_X0_countOf
set_option maxRecDepth 20000 in
theorem ggX0_cueBefore_X0_ruleAt : GoodIn wsX0_cueBefore wsX0_ruleAt := goodIn_r _ [24, 25, 26, 52, 53, 54, 55, 56, 57, 58, 59, 60, 61, 62, 63, 64, 65] (by decide +kernel) (by decide +kernel)
set_option maxRecDepth 20000 in
theorem gX0_cueBefore_X0_ruleAt : GoodIn wsX0_cueBefore (wsV RX0 81 RX0 yX0_ruleAt wsX0_ruleAt) := goodIn_app (goodIn_of _ (by decide +kernel)) ggX0_cueBefore_X0_ruleAt
theorem dX0_cueBefore_0 : decode cX0_cueBefore 0 = .ok (.aload_n 0, 1) := by decide +kernel
theorem dX0_cueBefore_1 : decode cX0_cueBefore 1 = .ok (.iload_n 1, 1) := by decide +kernel
theorem dX0_cueBefore_2 : decode cX0_cueBefore 2 = .ok (.invokevirtual 89, 3) := by decide +kernel
theorem dX0_cueBefore_5 : decode cX0_cueBefore 5 = .ok (.astore_n 3, 1) := by decide +kernel
theorem dX0_cueBefore_6 : decode cX0_cueBefore 6 = .ok (.aload_n 0, 1) := by decide +kernel
theorem dX0_cueBefore_7 : decode cX0_cueBefore 7 = .ok (.aload_n 3, 1) := by decide +kernel
theorem dX0_cueBefore_8 : decode cX0_cueBefore 8 = .ok (.getfield 121, 3) := by decide +kernel
theorem dX0_cueBefore_11 : decode cX0_cueBefore 11 = .ok (.aload_n 3, 1) := by decide +kernel
theorem dX0_cueBefore_12 : decode cX0_cueBefore 12 = .ok (.getfield 124, 3) := by decide +kernel
theorem dX0_cueBefore_15 : decode cX0_cueBefore 15 = .ok (.iload_n 2, 1) := by decide +kernel
theorem dX0_cueBefore_16 : decode cX0_cueBefore 16 = .ok (.aload_n 3, 1) := by decide +kernel
theorem dX0_cueBefore_17 : decode cX0_cueBefore 17 = .ok (.getfield 151, 3) := by decide +kernel
theorem dX0_cueBefore_20 : decode cX0_cueBefore 20 = .ok (.invokevirtual 144, 3) := by decide +kernel
theorem dX0_cueBefore_23 : decode cX0_cueBefore 23 = .ok (.istore 4, 2) := by decide +kernel
theorem dX0_cueBefore_25 : decode cX0_cueBefore 25 = .ok (.iload 4, 2) := by decide +kernel
theorem dX0_cueBefore_27 : decode cX0_cueBefore 27 = .ok (.iconst (-1), 1) := by decide +kernel
theorem dX0_cueBefore_28 : decode cX0_cueBefore 28 = .ok (.if_icmp .ne 11, 3) := by decide +kernel
theorem dX0_cueBefore_31 : decode cX0_cueBefore 31 = .ok (.aload_n 0, 1) := by decide +kernel
theorem dX0_cueBefore_32 : decode cX0_cueBefore 32 = .ok (.iconst 1, 1) := by decide +kernel
theorem dX0_cueBefore_33 : decode cX0_cueBefore 33 = .ok (.invokevirtual 77, 3) := by decide +kernel
theorem dX0_cueBefore_36 : decode cX0_cueBefore 36 = .ok (.goto 12, 3) := by decide +kernel
theorem dX0_cueBefore_39 : decode cX0_cueBefore 39 = .ok (.aload_n 0, 1) := by decide +kernel
theorem dX0_cueBefore_40 : decode cX0_cueBefore 40 = .ok (.iload 4, 2) := by decide +kernel
theorem dX0_cueBefore_42 : decode cX0_cueBefore 42 = .ok (.invokevirtual 81, 3) := by decide +kernel
theorem dX0_cueBefore_45 : decode cX0_cueBefore 45 = .ok (.getfield 148, 3) := by decide +kernel
theorem dX0_cueBefore_48 : decode cX0_cueBefore 48 = .ok (.ireturn, 1) := by decide +kernel
set_option maxRecDepth 20000 in
theorem ggX0_senseBefore_X0_cueBefore : GoodIn wsX0_senseBefore wsX0_cueBefore := goodIn_r _ [5, 6, 7, 8, 9, 10, 11, 12, 4, 13, 14, 15, 16, 17, 18, 19, 20, 21, 22, 23, 24, 25, 26, 27, 28, 29, 30, 31, 32, 33, 34, 35, 36, 37, 38, 39, 40, 41, 54, 55, 56, 57, 58, 59, 60, 61, 62, 63, 64, 65, 66, 67, 68, 69, 70, 71, 72, 73, 74, 75, 76, 77, 78, 79, 80, 81] (by decide +kernel) (by decide +kernel)
set_option maxRecDepth 20000 in
theorem gX0_senseBefore_X0_cueBefore : GoodIn wsX0_senseBefore (wsV RX0 154 RX0 yX0_cueBefore wsX0_cueBefore) := goodIn_app (goodIn_of _ (by decide +kernel)) ggX0_senseBefore_X0_cueBefore
set_option maxRecDepth 20000 in
theorem ggX0_senseBefore_X0_senseOf : GoodIn wsX0_senseBefore wsX0_senseOf := goodIn_r _ [45, 46, 47, 48, 49, 4, 50, 20, 21, 22, 23, 24, 51, 52, 53, 68, 69, 70, 71, 72, 73, 74, 75, 76, 77, 78, 79, 80, 81] (by decide +kernel) (by decide +kernel)
set_option maxRecDepth 20000 in
theorem gX0_senseBefore_X0_senseOf : GoodIn wsX0_senseBefore (wsV RX0 158 RX0 yX0_senseOf wsX0_senseOf) := goodIn_app (goodIn_of _ (by decide +kernel)) ggX0_senseBefore_X0_senseOf
theorem dX0_senseBefore_0 : decode cX0_senseBefore 0 = .ok (.aload_n 0, 1) := by decide +kernel
theorem dX0_senseBefore_1 : decode cX0_senseBefore 1 = .ok (.aload_n 0, 1) := by decide +kernel
theorem dX0_senseBefore_2 : decode cX0_senseBefore 2 = .ok (.iload_n 1, 1) := by decide +kernel
theorem dX0_senseBefore_3 : decode cX0_senseBefore 3 = .ok (.iload_n 2, 1) := by decide +kernel
theorem dX0_senseBefore_4 : decode cX0_senseBefore 4 = .ok (.invokevirtual 154, 3) := by decide +kernel
theorem dX0_senseBefore_7 : decode cX0_senseBefore 7 = .ok (.invokevirtual 158, 3) := by decide +kernel
theorem dX0_senseBefore_10 : decode cX0_senseBefore 10 = .ok (.ireturn, 1) := by decide +kernel
theorem dX0_hasRoomFor_0 : decode cX0_hasRoomFor 0 = .ok (.aload_n 0, 1) := by decide +kernel
theorem dX0_hasRoomFor_1 : decode cX0_hasRoomFor 1 = .ok (.getfield 67, 3) := by decide +kernel
theorem dX0_hasRoomFor_4 : decode cX0_hasRoomFor 4 = .ok (.iload_n 1, 1) := by decide +kernel
theorem dX0_hasRoomFor_5 : decode cX0_hasRoomFor 5 = .ok (.iadd, 1) := by decide +kernel
theorem dX0_hasRoomFor_6 : decode cX0_hasRoomFor 6 = .ok (.sipush 9999, 3) := by decide +kernel
theorem dX0_hasRoomFor_9 : decode cX0_hasRoomFor 9 = .ok (.if_icmp .gt 7, 3) := by decide +kernel
theorem dX0_hasRoomFor_12 : decode cX0_hasRoomFor 12 = .ok (.iconst 1, 1) := by decide +kernel
theorem dX0_hasRoomFor_13 : decode cX0_hasRoomFor 13 = .ok (.goto 4, 3) := by decide +kernel
theorem dX0_hasRoomFor_16 : decode cX0_hasRoomFor 16 = .ok (.iconst 0, 1) := by decide +kernel
theorem dX0_hasRoomFor_17 : decode cX0_hasRoomFor 17 = .ok (.ireturn, 1) := by decide +kernel
set_option maxRecDepth 20000 in
theorem ggX0_canHoldTerm_X0_setOfFate : GoodIn wsX0_canHoldTerm wsX0_setOfFate := goodIn_r _ [5, 6, 7, 8, 9, 4, 10, 11, 12, 13, 14, 15, 16, 17, 30, 31, 32, 33, 34, 35, 36, 37, 38, 39, 40, 41, 42, 43, 44, 45, 46, 47, 48] (by decide +kernel) (by decide +kernel)
set_option maxRecDepth 20000 in
theorem gX0_canHoldTerm_X0_setOfFate : GoodIn wsX0_canHoldTerm (wsV RX0 161 RX0 yX0_setOfFate wsX0_setOfFate) := goodIn_app (goodIn_of _ (by decide +kernel)) ggX0_canHoldTerm_X0_setOfFate
set_option maxRecDepth 20000 in
theorem ggX0_canHoldTerm_J6_bitCount_0f7a4 : GoodIn wsX0_canHoldTerm wsJ6_bitCount_0f7a4 := goodIn_r _ [21, 22, 23, 24] (by decide +kernel) (by decide +kernel)
set_option maxRecDepth 20000 in
theorem gX0_canHoldTerm_J6_bitCount_0f7a4 : GoodIn wsX0_canHoldTerm (va_wsS RX0 164 yJ6_bitCount_0f7a4 wsJ6_bitCount_0f7a4) := goodIn_app (goodIn_of _ (by decide +kernel)) ggX0_canHoldTerm_J6_bitCount_0f7a4
set_option maxRecDepth 20000 in
theorem ggX0_canHoldTerm_X0_hasRoomFor : GoodIn wsX0_canHoldTerm wsX0_hasRoomFor := goodIn_r _ [28, 29, 35, 36, 37, 38, 39, 40, 41, 42, 43, 44, 45, 46, 47, 48] (by decide +kernel) (by decide +kernel)
set_option maxRecDepth 20000 in
theorem gX0_canHoldTerm_X0_hasRoomFor : GoodIn wsX0_canHoldTerm (wsV RX0 169 RX0 yX0_hasRoomFor wsX0_hasRoomFor) := goodIn_app (goodIn_of _ (by decide +kernel)) ggX0_canHoldTerm_X0_hasRoomFor
theorem dX0_canHoldTerm_0 : decode cX0_canHoldTerm 0 = .ok (.aload_n 0, 1) := by decide +kernel
theorem dX0_canHoldTerm_1 : decode cX0_canHoldTerm 1 = .ok (.iconst 0, 1) := by decide +kernel
theorem dX0_canHoldTerm_2 : decode cX0_canHoldTerm 2 = .ok (.invokevirtual 161, 3) := by decide +kernel
theorem dX0_canHoldTerm_5 : decode cX0_canHoldTerm 5 = .ok (.invokestatic 164, 3) := by decide +kernel
theorem dX0_canHoldTerm_8 : decode cX0_canHoldTerm 8 = .ok (.istore_n 1, 1) := by decide +kernel
theorem dX0_canHoldTerm_9 : decode cX0_canHoldTerm 9 = .ok (.iload_n 1, 1) := by decide +kernel
theorem dX0_canHoldTerm_10 : decode cX0_canHoldTerm 10 = .ok (.ifCond .le 15, 3) := by decide +kernel
theorem dX0_canHoldTerm_13 : decode cX0_canHoldTerm 13 = .ok (.aload_n 0, 1) := by decide +kernel
theorem dX0_canHoldTerm_14 : decode cX0_canHoldTerm 14 = .ok (.iload_n 1, 1) := by decide +kernel
theorem dX0_canHoldTerm_15 : decode cX0_canHoldTerm 15 = .ok (.invokevirtual 169, 3) := by decide +kernel
theorem dX0_canHoldTerm_18 : decode cX0_canHoldTerm 18 = .ok (.ifCond .eq 7, 3) := by decide +kernel
theorem dX0_canHoldTerm_21 : decode cX0_canHoldTerm 21 = .ok (.iconst 1, 1) := by decide +kernel
theorem dX0_canHoldTerm_22 : decode cX0_canHoldTerm 22 = .ok (.goto 4, 3) := by decide +kernel
theorem dX0_canHoldTerm_25 : decode cX0_canHoldTerm 25 = .ok (.iconst 0, 1) := by decide +kernel
theorem dX0_canHoldTerm_26 : decode cX0_canHoldTerm 26 = .ok (.ireturn, 1) := by decide +kernel
set_option maxRecDepth 20000 in
theorem ggX0_sitBefore_X0_cueBefore : GoodIn wsX0_sitBefore wsX0_cueBefore := goodIn_r _ [12, 13, 14, 15, 16, 17, 18, 19, 11, 20, 21, 22, 23, 24, 25, 26, 27, 28, 29, 30, 31, 32, 33, 34, 35, 36, 37, 38, 39, 40, 41, 42, 43, 44, 45, 46, 47, 48, 63, 64, 65, 66, 67, 68, 69, 70, 71, 72, 73, 74, 75, 76, 49, 50, 51, 52, 53, 54, 55, 56, 57, 58, 59, 60, 61, 62] (by decide +kernel) (by decide +kernel)
set_option maxRecDepth 20000 in
theorem gX0_sitBefore_X0_cueBefore : GoodIn wsX0_sitBefore (wsV RX0 154 RX0 yX0_cueBefore wsX0_cueBefore) := goodIn_app (goodIn_of _ (by decide +kernel)) ggX0_sitBefore_X0_cueBefore
set_option maxRecDepth 20000 in
theorem ggX0_sitBefore_X0_personAt : GoodIn wsX0_sitBefore wsX0_personAt := goodIn_r _ [20, 21, 22, 49, 50, 51, 52, 53, 54, 55, 56, 57, 58, 59, 60, 61, 62] (by decide +kernel) (by decide +kernel)
set_option maxRecDepth 20000 in
theorem gX0_sitBefore_X0_personAt : GoodIn wsX0_sitBefore (wsV RX0 89 RX0 yX0_personAt wsX0_personAt) := goodIn_app (goodIn_of _ (by decide +kernel)) ggX0_sitBefore_X0_personAt
theorem dX0_sitBefore_0 : decode cX0_sitBefore 0 = .ok (.aload_n 0, 1) := by decide +kernel
theorem dX0_sitBefore_1 : decode cX0_sitBefore 1 = .ok (.iload_n 1, 1) := by decide +kernel
theorem dX0_sitBefore_2 : decode cX0_sitBefore 2 = .ok (.aload_n 0, 1) := by decide +kernel
theorem dX0_sitBefore_3 : decode cX0_sitBefore 3 = .ok (.getfield 63, 3) := by decide +kernel
theorem dX0_sitBefore_6 : decode cX0_sitBefore 6 = .ok (.invokevirtual 154, 3) := by decide +kernel
theorem dX0_sitBefore_9 : decode cX0_sitBefore 9 = .ok (.istore_n 2, 1) := by decide +kernel
theorem dX0_sitBefore_10 : decode cX0_sitBefore 10 = .ok (.aload_n 0, 1) := by decide +kernel
theorem dX0_sitBefore_11 : decode cX0_sitBefore 11 = .ok (.bipush 9, 2) := by decide +kernel
theorem dX0_sitBefore_13 : decode cX0_sitBefore 13 = .ok (.aload_n 0, 1) := by decide +kernel
theorem dX0_sitBefore_14 : decode cX0_sitBefore 14 = .ok (.getfield 63, 3) := by decide +kernel
theorem dX0_sitBefore_17 : decode cX0_sitBefore 17 = .ok (.iconst 1, 1) := by decide +kernel
theorem dX0_sitBefore_18 : decode cX0_sitBefore 18 = .ok (.iadd, 1) := by decide +kernel
theorem dX0_sitBefore_19 : decode cX0_sitBefore 19 = .ok (.invokestatic 173, 3) := by decide +kernel
theorem dX0_sitBefore_22 : decode cX0_sitBefore 22 = .ok (.putfield 63, 3) := by decide +kernel
theorem dX0_sitBefore_25 : decode cX0_sitBefore 25 = .ok (.aload_n 0, 1) := by decide +kernel
theorem dX0_sitBefore_26 : decode cX0_sitBefore 26 = .ok (.dup, 1) := by decide +kernel
theorem dX0_sitBefore_27 : decode cX0_sitBefore 27 = .ok (.getfield 67, 3) := by decide +kernel
theorem dX0_sitBefore_30 : decode cX0_sitBefore 30 = .ok (.iconst 1, 1) := by decide +kernel
theorem dX0_sitBefore_31 : decode cX0_sitBefore 31 = .ok (.iadd, 1) := by decide +kernel
theorem dX0_sitBefore_32 : decode cX0_sitBefore 32 = .ok (.putfield 67, 3) := by decide +kernel
theorem dX0_sitBefore_35 : decode cX0_sitBefore 35 = .ok (.aload_n 0, 1) := by decide +kernel
theorem dX0_sitBefore_36 : decode cX0_sitBefore 36 = .ok (.iload_n 1, 1) := by decide +kernel
theorem dX0_sitBefore_37 : decode cX0_sitBefore 37 = .ok (.invokevirtual 89, 3) := by decide +kernel
theorem dX0_sitBefore_40 : decode cX0_sitBefore 40 = .ok (.dup, 1) := by decide +kernel
theorem dX0_sitBefore_41 : decode cX0_sitBefore 41 = .ok (.getfield 178, 3) := by decide +kernel
theorem dX0_sitBefore_44 : decode cX0_sitBefore 44 = .ok (.iconst 1, 1) := by decide +kernel
theorem dX0_sitBefore_45 : decode cX0_sitBefore 45 = .ok (.iadd, 1) := by decide +kernel
theorem dX0_sitBefore_46 : decode cX0_sitBefore 46 = .ok (.putfield 178, 3) := by decide +kernel
theorem dX0_sitBefore_49 : decode cX0_sitBefore 49 = .ok (.iload_n 2, 1) := by decide +kernel
theorem dX0_sitBefore_50 : decode cX0_sitBefore 50 = .ok (.ireturn, 1) := by decide +kernel
set_option maxRecDepth 20000 in
theorem ggX0_holdTerm_X0_countOf : GoodIn wsX0_holdTerm wsX0_countOf := goodIn_r _ [6, 7, 71, 72, 73, 74, 75, 76, 77, 78, 79, 80, 81, 82, 83, 84] (by decide +kernel) (by decide +kernel)
set_option maxRecDepth 20000 in
theorem gX0_holdTerm_X0_countOf : GoodIn wsX0_holdTerm (wsV RX0 77 RX0 yX0_countOf wsX0_countOf) := goodIn_app (goodIn_of _ (by decide +kernel)) ggX0_holdTerm_X0_countOf
set_option maxRecDepth 20000 in
theorem ggX0_holdTerm_X0_personAt : GoodIn wsX0_holdTerm wsX0_personAt := goodIn_r _ [11, 12, 13, 71, 72, 73, 74, 75, 76, 77, 78, 79, 80, 81, 82, 83, 84] (by decide +kernel) (by decide +kernel)
set_option maxRecDepth 20000 in
theorem gX0_holdTerm_X0_personAt : GoodIn wsX0_holdTerm (wsV RX0 89 RX0 yX0_personAt wsX0_personAt) := goodIn_app (goodIn_of _ (by decide +kernel)) ggX0_holdTerm_X0_personAt
set_option maxRecDepth 20000 in
theorem ggX0_holdTerm_X0_sitBefore : GoodIn wsX0_holdTerm wsX0_sitBefore := goodIn_r _ [17, 18, 19, 20, 21, 22, 23, 24, 25, 26, 27, 5, 28, 29, 30, 31, 32, 8, 9, 10, 11, 12, 13, 33, 34, 35, 36, 2, 3, 4, 6, 7, 37, 38, 39, 40, 41, 42, 43, 44, 45, 46, 47, 48, 49, 50, 51, 52, 53, 71, 72, 73, 74, 75, 76, 77, 78, 79, 80, 81, 82, 83, 84, 66, 67, 68, 69, 70, 85, 86, 87, 88, 89, 90, 91, 92, 93] (by decide +kernel) (by decide +kernel)
set_option maxRecDepth 20000 in
theorem gX0_holdTerm_X0_sitBefore : GoodIn wsX0_holdTerm (wsV RX0 179 RX0 yX0_sitBefore wsX0_sitBefore) := goodIn_app (goodIn_of _ (by decide +kernel)) ggX0_holdTerm_X0_sitBefore
set_option maxRecDepth 20000 in
theorem ggX0_holdTerm_X0_senseOf : GoodIn wsX0_holdTerm wsX0_senseOf := goodIn_r _ [57, 58, 59, 60, 61, 5, 62, 2, 3, 4, 6, 7, 63, 64, 65, 71, 72, 73, 74, 75, 76, 77, 78, 79, 80, 81, 82, 83, 84] (by decide +kernel) (by decide +kernel)
set_option maxRecDepth 20000 in
theorem gX0_holdTerm_X0_senseOf : GoodIn wsX0_holdTerm (wsV RX0 158 RX0 yX0_senseOf wsX0_senseOf) := goodIn_app (goodIn_of _ (by decide +kernel)) ggX0_holdTerm_X0_senseOf
theorem dX0_holdTerm_0 : decode cX0_holdTerm 0 = .ok (.iconst 0, 1) := by decide +kernel
theorem dX0_holdTerm_1 : decode cX0_holdTerm 1 = .ok (.istore_n 1, 1) := by decide +kernel
theorem dX0_holdTerm_2 : decode cX0_holdTerm 2 = .ok (.iconst 0, 1) := by decide +kernel
theorem dX0_holdTerm_3 : decode cX0_holdTerm 3 = .ok (.istore_n 2, 1) := by decide +kernel
theorem dX0_holdTerm_4 : decode cX0_holdTerm 4 = .ok (.iload_n 2, 1) := by decide +kernel
theorem dX0_holdTerm_5 : decode cX0_holdTerm 5 = .ok (.aload_n 0, 1) := by decide +kernel
theorem dX0_holdTerm_6 : decode cX0_holdTerm 6 = .ok (.iconst 3, 1) := by decide +kernel
theorem dX0_holdTerm_7 : decode cX0_holdTerm 7 = .ok (.invokevirtual 77, 3) := by decide +kernel
theorem dX0_holdTerm_10 : decode cX0_holdTerm 10 = .ok (.if_icmp .ge 74, 3) := by decide +kernel
theorem dX0_holdTerm_13 : decode cX0_holdTerm 13 = .ok (.aload_n 0, 1) := by decide +kernel
theorem dX0_holdTerm_14 : decode cX0_holdTerm 14 = .ok (.iload_n 2, 1) := by decide +kernel
theorem dX0_holdTerm_15 : decode cX0_holdTerm 15 = .ok (.invokevirtual 89, 3) := by decide +kernel
theorem dX0_holdTerm_18 : decode cX0_holdTerm 18 = .ok (.astore_n 3, 1) := by decide +kernel
theorem dX0_holdTerm_19 : decode cX0_holdTerm 19 = .ok (.aload_n 3, 1) := by decide +kernel
theorem dX0_holdTerm_20 : decode cX0_holdTerm 20 = .ok (.getfield 118, 3) := by decide +kernel
theorem dX0_holdTerm_23 : decode cX0_holdTerm 23 = .ok (.ifCond .ne 55, 3) := by decide +kernel
theorem dX0_holdTerm_26 : decode cX0_holdTerm 26 = .ok (.aload_n 0, 1) := by decide +kernel
theorem dX0_holdTerm_27 : decode cX0_holdTerm 27 = .ok (.aload_n 0, 1) := by decide +kernel
theorem dX0_holdTerm_28 : decode cX0_holdTerm 28 = .ok (.iload_n 2, 1) := by decide +kernel
theorem dX0_holdTerm_29 : decode cX0_holdTerm 29 = .ok (.invokevirtual 179, 3) := by decide +kernel
theorem dX0_holdTerm_32 : decode cX0_holdTerm 32 = .ok (.invokevirtual 158, 3) := by decide +kernel
theorem dX0_holdTerm_35 : decode cX0_holdTerm 35 = .ok (.istore 4, 2) := by decide +kernel
theorem dX0_holdTerm_37 : decode cX0_holdTerm 37 = .ok (.aload_n 3, 1) := by decide +kernel
theorem dX0_holdTerm_38 : decode cX0_holdTerm 38 = .ok (.iload 4, 2) := by decide +kernel
theorem dX0_holdTerm_40 : decode cX0_holdTerm 40 = .ok (.iconst 2, 1) := by decide +kernel
theorem dX0_holdTerm_41 : decode cX0_holdTerm 41 = .ok (.if_icmp .ne 7, 3) := by decide +kernel
theorem dX0_holdTerm_44 : decode cX0_holdTerm 44 = .ok (.iconst 1, 1) := by decide +kernel
theorem dX0_holdTerm_45 : decode cX0_holdTerm 45 = .ok (.goto 14, 3) := by decide +kernel
theorem dX0_holdTerm_48 : decode cX0_holdTerm 48 = .ok (.iload 4, 2) := by decide +kernel
theorem dX0_holdTerm_50 : decode cX0_holdTerm 50 = .ok (.iconst 1, 1) := by decide +kernel
theorem dX0_holdTerm_51 : decode cX0_holdTerm 51 = .ok (.if_icmp .ne 7, 3) := by decide +kernel
theorem dX0_holdTerm_54 : decode cX0_holdTerm 54 = .ok (.iconst 2, 1) := by decide +kernel
theorem dX0_holdTerm_55 : decode cX0_holdTerm 55 = .ok (.goto 4, 3) := by decide +kernel
theorem dX0_holdTerm_58 : decode cX0_holdTerm 58 = .ok (.iconst 0, 1) := by decide +kernel
theorem dX0_holdTerm_59 : decode cX0_holdTerm 59 = .ok (.putfield 118, 3) := by decide +kernel
theorem dX0_holdTerm_62 : decode cX0_holdTerm 62 = .ok (.iload_n 1, 1) := by decide +kernel
theorem dX0_holdTerm_63 : decode cX0_holdTerm 63 = .ok (.iload 4, 2) := by decide +kernel
theorem dX0_holdTerm_65 : decode cX0_holdTerm 65 = .ok (.iconst 2, 1) := by decide +kernel
theorem dX0_holdTerm_66 : decode cX0_holdTerm 66 = .ok (.if_icmp .ne 9, 3) := by decide +kernel
theorem dX0_holdTerm_69 : decode cX0_holdTerm 69 = .ok (.iconst 1, 1) := by decide +kernel
theorem dX0_holdTerm_70 : decode cX0_holdTerm 70 = .ok (.iload_n 2, 1) := by decide +kernel
theorem dX0_holdTerm_71 : decode cX0_holdTerm 71 = .ok (.ishl, 1) := by decide +kernel
theorem dX0_holdTerm_72 : decode cX0_holdTerm 72 = .ok (.goto 4, 3) := by decide +kernel
theorem dX0_holdTerm_75 : decode cX0_holdTerm 75 = .ok (.iconst 0, 1) := by decide +kernel
theorem dX0_holdTerm_76 : decode cX0_holdTerm 76 = .ok (.ior, 1) := by decide +kernel
theorem dX0_holdTerm_77 : decode cX0_holdTerm 77 = .ok (.istore_n 1, 1) := by decide +kernel
theorem dX0_holdTerm_78 : decode cX0_holdTerm 78 = .ok (.iinc 2 1, 3) := by decide +kernel
theorem dX0_holdTerm_81 : decode cX0_holdTerm 81 = .ok (.goto (-77), 3) := by decide +kernel
theorem dX0_holdTerm_84 : decode cX0_holdTerm 84 = .ok (.iload_n 1, 1) := by decide +kernel
theorem dX0_holdTerm_85 : decode cX0_holdTerm 85 = .ok (.ireturn, 1) := by decide +kernel
set_option maxRecDepth 20000 in
theorem ggX0_feedPerson_X0_personAt : GoodIn wsX0_feedPerson wsX0_personAt := goodIn_r _ [10, 11, 12, 18, 19, 20, 21, 22, 23, 24, 25, 26, 27, 28, 29, 30, 31] (by decide +kernel) (by decide +kernel)
set_option maxRecDepth 20000 in
theorem gX0_feedPerson_X0_personAt : GoodIn wsX0_feedPerson (wsV RX0 89 RX0 yX0_personAt wsX0_personAt) := goodIn_app (goodIn_of _ (by decide +kernel)) ggX0_feedPerson_X0_personAt
theorem dX0_feedPerson_0 : decode cX0_feedPerson 0 = .ok (.aload_n 0, 1) := by decide +kernel
theorem dX0_feedPerson_1 : decode cX0_feedPerson 1 = .ok (.iload_n 1, 1) := by decide +kernel
theorem dX0_feedPerson_2 : decode cX0_feedPerson 2 = .ok (.invokevirtual 89, 3) := by decide +kernel
theorem dX0_feedPerson_5 : decode cX0_feedPerson 5 = .ok (.astore_n 3, 1) := by decide +kernel
theorem dX0_feedPerson_6 : decode cX0_feedPerson 6 = .ok (.aload_n 3, 1) := by decide +kernel
theorem dX0_feedPerson_7 : decode cX0_feedPerson 7 = .ok (.getfield 124, 3) := by decide +kernel
theorem dX0_feedPerson_10 : decode cX0_feedPerson 10 = .ok (.bipush 99, 2) := by decide +kernel
theorem dX0_feedPerson_12 : decode cX0_feedPerson 12 = .ok (.if_icmp .lt 5, 3) := by decide +kernel
theorem dX0_feedPerson_15 : decode cX0_feedPerson 15 = .ok (.iconst 0, 1) := by decide +kernel
theorem dX0_feedPerson_16 : decode cX0_feedPerson 16 = .ok (.ireturn, 1) := by decide +kernel
theorem dX0_feedPerson_17 : decode cX0_feedPerson 17 = .ok (.aload_n 3, 1) := by decide +kernel
theorem dX0_feedPerson_18 : decode cX0_feedPerson 18 = .ok (.bipush 99, 2) := by decide +kernel
theorem dX0_feedPerson_20 : decode cX0_feedPerson 20 = .ok (.aload_n 3, 1) := by decide +kernel
theorem dX0_feedPerson_21 : decode cX0_feedPerson 21 = .ok (.getfield 124, 3) := by decide +kernel
theorem dX0_feedPerson_24 : decode cX0_feedPerson 24 = .ok (.iload_n 2, 1) := by decide +kernel
theorem dX0_feedPerson_25 : decode cX0_feedPerson 25 = .ok (.iadd, 1) := by decide +kernel
theorem dX0_feedPerson_26 : decode cX0_feedPerson 26 = .ok (.invokestatic 173, 3) := by decide +kernel
theorem dX0_feedPerson_29 : decode cX0_feedPerson 29 = .ok (.putfield 124, 3) := by decide +kernel
theorem dX0_feedPerson_32 : decode cX0_feedPerson 32 = .ok (.iconst 1, 1) := by decide +kernel
theorem dX0_feedPerson_33 : decode cX0_feedPerson 33 = .ok (.ireturn, 1) := by decide +kernel
set_option maxRecDepth 20000 in
theorem ggX0_setSmell_X0_personAt : GoodIn wsX0_setSmell wsX0_personAt := goodIn_r _ [6, 7, 8, 17, 18, 19, 20, 21, 22, 23, 24, 25, 26, 27, 28, 29, 30] (by decide +kernel) (by decide +kernel)
set_option maxRecDepth 20000 in
theorem gX0_setSmell_X0_personAt : GoodIn wsX0_setSmell (wsV RX0 89 RX0 yX0_personAt wsX0_personAt) := goodIn_app (goodIn_of _ (by decide +kernel)) ggX0_setSmell_X0_personAt
set_option maxRecDepth 20000 in
theorem ggX0_setSmell_X11_isIn : GoodIn wsX0_setSmell wsX11_isIn := goodIn_r _ [11] (by decide +kernel) (by decide +kernel)
set_option maxRecDepth 20000 in
theorem gX0_setSmell_X11_isIn_n127 : GoodIn wsX0_setSmell (wsX11_isIn) := ggX0_setSmell_X11_isIn
theorem dX0_setSmell_0 : decode cX0_setSmell 0 = .ok (.aload_n 0, 1) := by decide +kernel
theorem dX0_setSmell_1 : decode cX0_setSmell 1 = .ok (.iload_n 1, 1) := by decide +kernel
theorem dX0_setSmell_2 : decode cX0_setSmell 2 = .ok (.invokevirtual 89, 3) := by decide +kernel
theorem dX0_setSmell_5 : decode cX0_setSmell 5 = .ok (.astore 4, 2) := by decide +kernel
theorem dX0_setSmell_7 : decode cX0_setSmell 7 = .ok (.aload 4, 2) := by decide +kernel
theorem dX0_setSmell_9 : decode cX0_setSmell 9 = .ok (.getfield 151, 3) := by decide +kernel
theorem dX0_setSmell_12 : decode cX0_setSmell 12 = .ok (.iload_n 2, 1) := by decide +kernel
theorem dX0_setSmell_13 : decode cX0_setSmell 13 = .ok (.invokestatic 127, 3) := by decide +kernel
theorem dX0_setSmell_16 : decode cX0_setSmell 16 = .ok (.iload_n 3, 1) := by decide +kernel
theorem dX0_setSmell_17 : decode cX0_setSmell 17 = .ok (.if_icmp .ne 5, 3) := by decide +kernel
theorem dX0_setSmell_20 : decode cX0_setSmell 20 = .ok (.iconst 0, 1) := by decide +kernel
theorem dX0_setSmell_21 : decode cX0_setSmell 21 = .ok (.ireturn, 1) := by decide +kernel
theorem dX0_setSmell_22 : decode cX0_setSmell 22 = .ok (.aload 4, 2) := by decide +kernel
theorem dX0_setSmell_24 : decode cX0_setSmell 24 = .ok (.dup, 1) := by decide +kernel
theorem dX0_setSmell_25 : decode cX0_setSmell 25 = .ok (.getfield 151, 3) := by decide +kernel
theorem dX0_setSmell_28 : decode cX0_setSmell 28 = .ok (.iconst 1, 1) := by decide +kernel
theorem dX0_setSmell_29 : decode cX0_setSmell 29 = .ok (.iload_n 2, 1) := by decide +kernel
theorem dX0_setSmell_30 : decode cX0_setSmell 30 = .ok (.ishl, 1) := by decide +kernel
theorem dX0_setSmell_31 : decode cX0_setSmell 31 = .ok (.ixor, 1) := by decide +kernel
theorem dX0_setSmell_32 : decode cX0_setSmell 32 = .ok (.putfield 151, 3) := by decide +kernel
theorem dX0_setSmell_35 : decode cX0_setSmell 35 = .ok (.iconst 1, 1) := by decide +kernel
theorem dX0_setSmell_36 : decode cX0_setSmell 36 = .ok (.ireturn, 1) := by decide +kernel
theorem dX0_coolDown_0 : decode cX0_coolDown 0 = .ok (.aload_n 0, 1) := by decide +kernel
theorem dX0_coolDown_1 : decode cX0_coolDown 1 = .ok (.getfield 63, 3) := by decide +kernel
theorem dX0_coolDown_4 : decode cX0_coolDown 4 = .ok (.ifCond .le 7, 3) := by decide +kernel
theorem dX0_coolDown_7 : decode cX0_coolDown 7 = .ok (.iconst 1, 1) := by decide +kernel
theorem dX0_coolDown_8 : decode cX0_coolDown 8 = .ok (.goto 4, 3) := by decide +kernel
theorem dX0_coolDown_11 : decode cX0_coolDown 11 = .ok (.iconst 0, 1) := by decide +kernel
theorem dX0_coolDown_12 : decode cX0_coolDown 12 = .ok (.istore_n 1, 1) := by decide +kernel
theorem dX0_coolDown_13 : decode cX0_coolDown 13 = .ok (.aload_n 0, 1) := by decide +kernel
theorem dX0_coolDown_14 : decode cX0_coolDown 14 = .ok (.iconst 0, 1) := by decide +kernel
theorem dX0_coolDown_15 : decode cX0_coolDown 15 = .ok (.putfield 63, 3) := by decide +kernel
theorem dX0_coolDown_18 : decode cX0_coolDown 18 = .ok (.iload_n 1, 1) := by decide +kernel
theorem dX0_coolDown_19 : decode cX0_coolDown 19 = .ok (.ireturn, 1) := by decide +kernel
theorem dX1_init_0 : decode cX1_init 0 = .ok (.aload_n 0, 1) := by decide +kernel
theorem dX1_init_1 : decode cX1_init 1 = .ok (.invokespecial 3, 3) := by decide +kernel
theorem dX1_init_4 : decode cX1_init 4 = .ok (.aload_n 0, 1) := by decide +kernel
theorem dX1_init_5 : decode cX1_init 5 = .ok (.bipush 36, 2) := by decide +kernel
theorem dX1_init_7 : decode cX1_init 7 = .ok (.putfield 11, 3) := by decide +kernel
theorem dX1_init_10 : decode cX1_init 10 = .ok (.aload_n 0, 1) := by decide +kernel
theorem dX1_init_11 : decode cX1_init 11 = .ok (.iconst 0, 1) := by decide +kernel
theorem dX1_init_12 : decode cX1_init 12 = .ok (.putfield 15, 3) := by decide +kernel
theorem dX1_init_15 : decode cX1_init 15 = .ok (.return_, 1) := by decide +kernel
set_option maxRecDepth 20000 in
theorem ggX1_begin_X0_countOf : GoodIn wsX1_begin wsX0_countOf := goodIn_r _ [7, 8, 88, 89, 90, 91, 92, 93, 94, 95, 96, 97, 98, 99, 100, 101] (by decide +kernel) (by decide +kernel)
set_option maxRecDepth 20000 in
theorem gX1_begin_X0_countOf : GoodIn wsX1_begin (wsV RX1 18 RX0 yX0_countOf wsX0_countOf) := goodIn_app (goodIn_of _ (by decide +kernel)) ggX1_begin_X0_countOf
set_option maxRecDepth 20000 in
theorem ggX1_begin_X1_worth : GoodIn wsX1_begin wsX1_worth := goodIn_r _ [12, 13, 14, 15, 16, 6, 17, 18, 4, 5, 7, 8, 19, 20, 21, 22, 23, 24, 25, 26, 27, 28, 29, 30, 31, 32, 33, 34, 35, 36, 37, 38, 39, 40, 41, 42, 43, 44, 45, 46, 47, 48, 49, 50, 51, 52, 53, 54, 55, 56, 57, 58, 59, 60, 61, 62, 63, 64, 65, 66, 88, 89, 90, 91, 92, 93, 94, 95, 96, 97, 98, 99, 100, 101, 102, 103, 104, 105, 106, 107, 108, 109, 110, 111, 112, 113, 114, 115] (by decide +kernel) (by decide +kernel)
set_option maxRecDepth 20000 in
theorem gX1_begin_X1_worth : GoodIn wsX1_begin (va_wsS RX1 24 yX1_worth wsX1_worth) := goodIn_app (goodIn_of _ (by decide +kernel)) ggX1_begin_X1_worth
set_option maxRecDepth 20000 in
theorem ggX1_begin_X1_play : GoodIn wsX1_begin wsX1_play := goodIn_r _ [69, 2, 1, 70, 71, 72, 73, 74, 75, 76, 77, 78, 11, 79, 80, 14, 15, 16, 6, 17, 18, 4, 5, 7, 8, 81, 32, 33, 34, 35, 36, 9, 10, 12, 13, 19, 20, 21, 22, 23, 24, 25, 26, 27, 28, 29, 30, 31, 37, 38, 39, 40, 41, 42, 43, 44, 45, 46, 47, 48, 49, 50, 51, 52, 53, 54, 55, 56, 57, 58, 59, 60, 61, 62, 63, 64, 65, 66, 82, 83, 84, 85, 67, 68, 86, 87, 102, 103, 104, 105, 106, 88, 89, 90, 91, 92, 93, 94, 95, 96, 97, 98, 99, 100, 101, 107, 108, 109, 110, 111, 112, 113, 114, 115] (by decide +kernel) (by decide +kernel)
set_option maxRecDepth 20000 in
theorem gX1_begin_X1_play : GoodIn wsX1_begin (va_wsS RX1 28 yX1_play wsX1_play) := goodIn_app (goodIn_of _ (by decide +kernel)) ggX1_begin_X1_play
theorem dX1_begin_0 : decode cX1_begin 0 = .ok (.aload_n 0, 1) := by decide +kernel
theorem dX1_begin_1 : decode cX1_begin 1 = .ok (.bipush 36, 2) := by decide +kernel
theorem dX1_begin_3 : decode cX1_begin 3 = .ok (.putfield 11, 3) := by decide +kernel
theorem dX1_begin_6 : decode cX1_begin 6 = .ok (.iconst 0, 1) := by decide +kernel
theorem dX1_begin_7 : decode cX1_begin 7 = .ok (.istore_n 3, 1) := by decide +kernel
theorem dX1_begin_8 : decode cX1_begin 8 = .ok (.iconst 0, 1) := by decide +kernel
theorem dX1_begin_9 : decode cX1_begin 9 = .ok (.istore 4, 2) := by decide +kernel
theorem dX1_begin_11 : decode cX1_begin 11 = .ok (.iload 4, 2) := by decide +kernel
theorem dX1_begin_13 : decode cX1_begin 13 = .ok (.aload_n 1, 1) := by decide +kernel
theorem dX1_begin_14 : decode cX1_begin 14 = .ok (.iconst 3, 1) := by decide +kernel
theorem dX1_begin_15 : decode cX1_begin 15 = .ok (.invokevirtual 18, 3) := by decide +kernel
theorem dX1_begin_18 : decode cX1_begin 18 = .ok (.if_icmp .ge 18, 3) := by decide +kernel
theorem dX1_begin_21 : decode cX1_begin 21 = .ok (.iload_n 3, 1) := by decide +kernel
theorem dX1_begin_22 : decode cX1_begin 22 = .ok (.aload_n 1, 1) := by decide +kernel
theorem dX1_begin_23 : decode cX1_begin 23 = .ok (.iload 4, 2) := by decide +kernel
theorem dX1_begin_25 : decode cX1_begin 25 = .ok (.invokestatic 24, 3) := by decide +kernel
theorem dX1_begin_28 : decode cX1_begin 28 = .ok (.iadd, 1) := by decide +kernel
theorem dX1_begin_29 : decode cX1_begin 29 = .ok (.istore_n 3, 1) := by decide +kernel
theorem dX1_begin_30 : decode cX1_begin 30 = .ok (.iinc 4 1, 3) := by decide +kernel
theorem dX1_begin_33 : decode cX1_begin 33 = .ok (.goto (-22), 3) := by decide +kernel
theorem dX1_begin_36 : decode cX1_begin 36 = .ok (.aload_n 0, 1) := by decide +kernel
theorem dX1_begin_37 : decode cX1_begin 37 = .ok (.iload_n 3, 1) := by decide +kernel
theorem dX1_begin_38 : decode cX1_begin 38 = .ok (.putfield 15, 3) := by decide +kernel
theorem dX1_begin_41 : decode cX1_begin 41 = .ok (.aload_n 0, 1) := by decide +kernel
theorem dX1_begin_42 : decode cX1_begin 42 = .ok (.aload_n 1, 1) := by decide +kernel
theorem dX1_begin_43 : decode cX1_begin 43 = .ok (.iconst 0, 1) := by decide +kernel
theorem dX1_begin_44 : decode cX1_begin 44 = .ok (.iload_n 2, 1) := by decide +kernel
theorem dX1_begin_45 : decode cX1_begin 45 = .ok (.bipush (-7), 2) := by decide +kernel
theorem dX1_begin_47 : decode cX1_begin 47 = .ok (.bipush 7, 2) := by decide +kernel
theorem dX1_begin_49 : decode cX1_begin 49 = .ok (.invokestatic 28, 3) := by decide +kernel
theorem dX1_begin_52 : decode cX1_begin 52 = .ok (.ireturn, 1) := by decide +kernel
set_option maxRecDepth 20000 in
theorem ggX1_play_X1_canBe : GoodIn wsX1_play wsX1_canBe := goodIn_r _ [13, 14, 15, 16, 17, 18, 19, 20, 21, 22, 23, 24, 25, 26, 27, 28, 29, 30, 86, 87, 88, 89, 90, 91, 92, 93, 94, 95, 96, 97, 98, 99, 100, 101, 102, 103, 104] (by decide +kernel) (by decide +kernel)
set_option maxRecDepth 20000 in
theorem gX1_play_X1_canBe : GoodIn wsX1_play (va_wsS RX1 32 yX1_canBe wsX1_canBe) := goodIn_app (goodIn_of _ (by decide +kernel)) ggX1_play_X1_canBe
set_option maxRecDepth 20000 in
theorem ggX1_play_X1_worth : GoodIn wsX1_play wsX1_worth := goodIn_r _ [33, 34, 15, 16, 17, 18, 19, 20, 21, 22, 23, 24, 35, 36, 37, 38, 39, 40, 41, 42, 43, 44, 45, 46, 47, 26, 27, 28, 29, 30, 48, 49, 50, 51, 52, 53, 54, 55, 56, 57, 58, 59, 60, 61, 62, 63, 64, 65, 66, 67, 68, 69, 70, 71, 72, 73, 74, 75, 76, 77, 91, 92, 93, 94, 95, 96, 97, 98, 99, 100, 101, 102, 103, 104, 86, 87, 88, 89, 90, 105, 106, 107, 108, 109, 110, 111, 112, 113] (by decide +kernel) (by decide +kernel)
set_option maxRecDepth 20000 in
theorem gX1_play_X1_worth : GoodIn wsX1_play (va_wsS RX1 24 yX1_worth wsX1_worth) := goodIn_app (goodIn_of _ (by decide +kernel)) ggX1_play_X1_worth
set_option maxRecDepth 20000 in
theorem ggX1_play_X1_change : GoodIn wsX1_play wsX1_change := goodIn_r _ [80, 14, 81, 25, 26, 27, 18, 28, 29, 30, 86, 87, 88, 89, 90, 91, 92, 93, 94, 95, 96, 97, 98, 99, 100, 101, 102, 103, 104] (by decide +kernel) (by decide +kernel)
set_option maxRecDepth 20000 in
theorem gX1_play_X1_change : GoodIn wsX1_play (va_wsS RX1 36 yX1_change wsX1_change) := goodIn_app (goodIn_of _ (by decide +kernel)) ggX1_play_X1_change
set_option maxRecDepth 20000 in
theorem ggX1_play_X1_play : GoodIn wsX1_play wsX1_play := goodIn_r _ [0, 1, 2, 3, 4, 5, 6, 7, 8, 9, 10, 11, 12, 13, 14, 15, 16, 17, 18, 19, 20, 21, 22, 23, 24, 25, 26, 27, 28, 29, 30, 31, 32, 33, 34, 35, 36, 37, 38, 39, 40, 41, 42, 43, 44, 45, 46, 47, 48, 49, 50, 51, 52, 53, 54, 55, 56, 57, 58, 59, 60, 61, 62, 63, 64, 65, 66, 67, 68, 69, 70, 71, 72, 73, 74, 75, 76, 77, 78, 79, 80, 81, 82, 83, 84, 85, 86, 87, 88, 89, 90, 91, 92, 93, 94, 95, 96, 97, 98, 99, 100, 101, 102, 103, 104, 105, 106, 107, 108, 109, 110, 111, 112, 113] (by decide +kernel) (by decide +kernel)
set_option maxRecDepth 20000 in
theorem gX1_play_X1_play : GoodIn wsX1_play (va_wsS RX1 28 yX1_play wsX1_play) := goodIn_app (goodIn_of _ (by decide +kernel)) ggX1_play_X1_play
theorem dX1_play_0 : decode cX1_play 0 = .ok (.iload_n 2, 1) := by decide +kernel
theorem dX1_play_1 : decode cX1_play 1 = .ok (.iload_n 3, 1) := by decide +kernel
theorem dX1_play_2 : decode cX1_play 2 = .ok (.if_icmp .ge 8, 3) := by decide +kernel
theorem dX1_play_5 : decode cX1_play 5 = .ok (.iload_n 2, 1) := by decide +kernel
theorem dX1_play_6 : decode cX1_play 6 = .ok (.iconst 3, 1) := by decide +kernel
theorem dX1_play_7 : decode cX1_play 7 = .ok (.if_icmp .lt 8, 3) := by decide +kernel
theorem dX1_play_10 : decode cX1_play 10 = .ok (.aload_n 0, 1) := by decide +kernel
theorem dX1_play_11 : decode cX1_play 11 = .ok (.getfield 15, 3) := by decide +kernel
theorem dX1_play_14 : decode cX1_play 14 = .ok (.ireturn, 1) := by decide +kernel
theorem dX1_play_15 : decode cX1_play 15 = .ok (.iload_n 2, 1) := by decide +kernel
theorem dX1_play_16 : decode cX1_play 16 = .ok (.iconst 2, 1) := by decide +kernel
theorem dX1_play_17 : decode cX1_play 17 = .ok (.irem, 1) := by decide +kernel
theorem dX1_play_18 : decode cX1_play 18 = .ok (.ifCond .ne 7, 3) := by decide +kernel
theorem dX1_play_21 : decode cX1_play 21 = .ok (.iconst 1, 1) := by decide +kernel
theorem dX1_play_22 : decode cX1_play 22 = .ok (.goto 4, 3) := by decide +kernel
theorem dX1_play_25 : decode cX1_play 25 = .ok (.iconst 0, 1) := by decide +kernel
theorem dX1_play_26 : decode cX1_play 26 = .ok (.istore 6, 2) := by decide +kernel
theorem dX1_play_28 : decode cX1_play 28 = .ok (.iload 6, 2) := by decide +kernel
theorem dX1_play_30 : decode cX1_play 30 = .ok (.ifCond .eq 8, 3) := by decide +kernel
theorem dX1_play_33 : decode cX1_play 33 = .ok (.bipush (-7), 2) := by decide +kernel
theorem dX1_play_35 : decode cX1_play 35 = .ok (.goto 5, 3) := by decide +kernel
theorem dX1_play_38 : decode cX1_play 38 = .ok (.bipush 7, 2) := by decide +kernel
theorem dX1_play_40 : decode cX1_play 40 = .ok (.istore 7, 2) := by decide +kernel
theorem dX1_play_42 : decode cX1_play 42 = .ok (.iload 4, 2) := by decide +kernel
theorem dX1_play_44 : decode cX1_play 44 = .ok (.istore 8, 2) := by decide +kernel
theorem dX1_play_46 : decode cX1_play 46 = .ok (.iload 5, 2) := by decide +kernel
theorem dX1_play_48 : decode cX1_play 48 = .ok (.istore 9, 2) := by decide +kernel
theorem dX1_play_50 : decode cX1_play 50 = .ok (.iconst 0, 1) := by decide +kernel
theorem dX1_play_51 : decode cX1_play 51 = .ok (.istore 10, 2) := by decide +kernel
theorem dX1_play_53 : decode cX1_play 53 = .ok (.iload 10, 2) := by decide +kernel
theorem dX1_play_55 : decode cX1_play 55 = .ok (.bipush 36, 2) := by decide +kernel
theorem dX1_play_57 : decode cX1_play 57 = .ok (.if_icmp .gt 186, 3) := by decide +kernel
theorem dX1_play_60 : decode cX1_play 60 = .ok (.iload 8, 2) := by decide +kernel
theorem dX1_play_62 : decode cX1_play 62 = .ok (.iload 9, 2) := by decide +kernel
theorem dX1_play_64 : decode cX1_play 64 = .ok (.if_icmp .ge 179, 3) := by decide +kernel
theorem dX1_play_67 : decode cX1_play 67 = .ok (.aload_n 1, 1) := by decide +kernel
theorem dX1_play_68 : decode cX1_play 68 = .ok (.iload 10, 2) := by decide +kernel
theorem dX1_play_70 : decode cX1_play 70 = .ok (.invokestatic 32, 3) := by decide +kernel
theorem dX1_play_73 : decode cX1_play 73 = .ok (.ifCond .ne 6, 3) := by decide +kernel
theorem dX1_play_76 : decode cX1_play 76 = .ok (.goto 161, 3) := by decide +kernel
theorem dX1_play_79 : decode cX1_play 79 = .ok (.aload_n 0, 1) := by decide +kernel
theorem dX1_play_80 : decode cX1_play 80 = .ok (.getfield 15, 3) := by decide +kernel
theorem dX1_play_83 : decode cX1_play 83 = .ok (.istore 11, 2) := by decide +kernel
theorem dX1_play_85 : decode cX1_play 85 = .ok (.aload_n 0, 1) := by decide +kernel
theorem dX1_play_86 : decode cX1_play 86 = .ok (.dup, 1) := by decide +kernel
theorem dX1_play_87 : decode cX1_play 87 = .ok (.getfield 15, 3) := by decide +kernel
theorem dX1_play_90 : decode cX1_play 90 = .ok (.aload_n 1, 1) := by decide +kernel
theorem dX1_play_91 : decode cX1_play 91 = .ok (.iload 10, 2) := by decide +kernel
theorem dX1_play_93 : decode cX1_play 93 = .ok (.bipush 6, 2) := by decide +kernel
theorem dX1_play_95 : decode cX1_play 95 = .ok (.idiv, 1) := by decide +kernel
theorem dX1_play_96 : decode cX1_play 96 = .ok (.invokestatic 24, 3) := by decide +kernel
theorem dX1_play_99 : decode cX1_play 99 = .ok (.isub, 1) := by decide +kernel
theorem dX1_play_100 : decode cX1_play 100 = .ok (.putfield 15, 3) := by decide +kernel
theorem dX1_play_103 : decode cX1_play 103 = .ok (.aload_n 1, 1) := by decide +kernel
theorem dX1_play_104 : decode cX1_play 104 = .ok (.iload 10, 2) := by decide +kernel
theorem dX1_play_106 : decode cX1_play 106 = .ok (.iconst 1, 1) := by decide +kernel
theorem dX1_play_107 : decode cX1_play 107 = .ok (.invokestatic 36, 3) := by decide +kernel
theorem dX1_play_110 : decode cX1_play 110 = .ok (.aload_n 0, 1) := by decide +kernel
theorem dX1_play_111 : decode cX1_play 111 = .ok (.dup, 1) := by decide +kernel
theorem dX1_play_112 : decode cX1_play 112 = .ok (.getfield 15, 3) := by decide +kernel
theorem dX1_play_115 : decode cX1_play 115 = .ok (.aload_n 1, 1) := by decide +kernel
theorem dX1_play_116 : decode cX1_play 116 = .ok (.iload 10, 2) := by decide +kernel
theorem dX1_play_118 : decode cX1_play 118 = .ok (.bipush 6, 2) := by decide +kernel
theorem dX1_play_120 : decode cX1_play 120 = .ok (.idiv, 1) := by decide +kernel
theorem dX1_play_121 : decode cX1_play 121 = .ok (.invokestatic 24, 3) := by decide +kernel
theorem dX1_play_124 : decode cX1_play 124 = .ok (.iadd, 1) := by decide +kernel
theorem dX1_play_125 : decode cX1_play 125 = .ok (.putfield 15, 3) := by decide +kernel
theorem dX1_play_128 : decode cX1_play 128 = .ok (.aload_n 0, 1) := by decide +kernel
theorem dX1_play_129 : decode cX1_play 129 = .ok (.aload_n 1, 1) := by decide +kernel
theorem dX1_play_130 : decode cX1_play 130 = .ok (.iload_n 2, 1) := by decide +kernel
theorem dX1_play_131 : decode cX1_play 131 = .ok (.iconst 1, 1) := by decide +kernel
theorem dX1_play_132 : decode cX1_play 132 = .ok (.iadd, 1) := by decide +kernel
theorem dX1_play_133 : decode cX1_play 133 = .ok (.iload_n 3, 1) := by decide +kernel
theorem dX1_play_134 : decode cX1_play 134 = .ok (.iload 8, 2) := by decide +kernel
theorem dX1_play_136 : decode cX1_play 136 = .ok (.iload 9, 2) := by decide +kernel
theorem dX1_play_138 : decode cX1_play 138 = .ok (.invokestatic 28, 3) := by decide +kernel
theorem dX1_play_141 : decode cX1_play 141 = .ok (.istore 12, 2) := by decide +kernel
theorem dX1_play_143 : decode cX1_play 143 = .ok (.aload_n 1, 1) := by decide +kernel
theorem dX1_play_144 : decode cX1_play 144 = .ok (.iload 10, 2) := by decide +kernel
theorem dX1_play_146 : decode cX1_play 146 = .ok (.iconst (-1), 1) := by decide +kernel
theorem dX1_play_147 : decode cX1_play 147 = .ok (.invokestatic 36, 3) := by decide +kernel
theorem dX1_play_150 : decode cX1_play 150 = .ok (.aload_n 0, 1) := by decide +kernel
theorem dX1_play_151 : decode cX1_play 151 = .ok (.iload 11, 2) := by decide +kernel
theorem dX1_play_153 : decode cX1_play 153 = .ok (.putfield 15, 3) := by decide +kernel
theorem dX1_play_156 : decode cX1_play 156 = .ok (.iload 6, 2) := by decide +kernel
theorem dX1_play_158 : decode cX1_play 158 = .ok (.ifCond .eq 13, 3) := by decide +kernel
theorem dX1_play_161 : decode cX1_play 161 = .ok (.iload 12, 2) := by decide +kernel
theorem dX1_play_163 : decode cX1_play 163 = .ok (.iload 7, 2) := by decide +kernel
theorem dX1_play_165 : decode cX1_play 165 = .ok (.if_icmp .le 34, 3) := by decide +kernel
theorem dX1_play_168 : decode cX1_play 168 = .ok (.goto 10, 3) := by decide +kernel
theorem dX1_play_171 : decode cX1_play 171 = .ok (.iload 12, 2) := by decide +kernel
theorem dX1_play_173 : decode cX1_play 173 = .ok (.iload 7, 2) := by decide +kernel
theorem dX1_play_175 : decode cX1_play 175 = .ok (.if_icmp .ge 24, 3) := by decide +kernel
theorem dX1_play_178 : decode cX1_play 178 = .ok (.iload 12, 2) := by decide +kernel
theorem dX1_play_180 : decode cX1_play 180 = .ok (.istore 7, 2) := by decide +kernel
theorem dX1_play_182 : decode cX1_play 182 = .ok (.aload_n 0, 1) := by decide +kernel
theorem dX1_play_183 : decode cX1_play 183 = .ok (.iload_n 2, 1) := by decide +kernel
theorem dX1_play_184 : decode cX1_play 184 = .ok (.ifCond .ne 8, 3) := by decide +kernel
theorem dX1_play_187 : decode cX1_play 187 = .ok (.iload 10, 2) := by decide +kernel
theorem dX1_play_189 : decode cX1_play 189 = .ok (.goto 7, 3) := by decide +kernel
theorem dX1_play_192 : decode cX1_play 192 = .ok (.aload_n 0, 1) := by decide +kernel
theorem dX1_play_193 : decode cX1_play 193 = .ok (.getfield 11, 3) := by decide +kernel
theorem dX1_play_196 : decode cX1_play 196 = .ok (.putfield 11, 3) := by decide +kernel
theorem dX1_play_199 : decode cX1_play 199 = .ok (.iload 6, 2) := by decide +kernel
theorem dX1_play_201 : decode cX1_play 201 = .ok (.ifCond .eq 13, 3) := by decide +kernel
theorem dX1_play_204 : decode cX1_play 204 = .ok (.iload 8, 2) := by decide +kernel
theorem dX1_play_206 : decode cX1_play 206 = .ok (.iload 12, 2) := by decide +kernel
theorem dX1_play_208 : decode cX1_play 208 = .ok (.invokestatic 40, 3) := by decide +kernel
theorem dX1_play_211 : decode cX1_play 211 = .ok (.goto 5, 3) := by decide +kernel
theorem dX1_play_214 : decode cX1_play 214 = .ok (.iload 8, 2) := by decide +kernel
theorem dX1_play_216 : decode cX1_play 216 = .ok (.istore 8, 2) := by decide +kernel
theorem dX1_play_218 : decode cX1_play 218 = .ok (.iload 6, 2) := by decide +kernel
theorem dX1_play_220 : decode cX1_play 220 = .ok (.ifCond .eq 8, 3) := by decide +kernel
theorem dX1_play_223 : decode cX1_play 223 = .ok (.iload 9, 2) := by decide +kernel
theorem dX1_play_225 : decode cX1_play 225 = .ok (.goto 10, 3) := by decide +kernel
theorem dX1_play_228 : decode cX1_play 228 = .ok (.iload 9, 2) := by decide +kernel
theorem dX1_play_230 : decode cX1_play 230 = .ok (.iload 12, 2) := by decide +kernel
theorem dX1_play_232 : decode cX1_play 232 = .ok (.invokestatic 46, 3) := by decide +kernel
theorem dX1_play_235 : decode cX1_play 235 = .ok (.istore 9, 2) := by decide +kernel
theorem dX1_play_237 : decode cX1_play 237 = .ok (.iinc 10 1, 3) := by decide +kernel
theorem dX1_play_240 : decode cX1_play 240 = .ok (.goto (-187), 3) := by decide +kernel
theorem dX1_play_243 : decode cX1_play 243 = .ok (.iload 7, 2) := by decide +kernel
theorem dX1_play_245 : decode cX1_play 245 = .ok (.ireturn, 1) := by decide +kernel
set_option maxRecDepth 20000 in
theorem ggX1_canBe_X0_has : GoodIn wsX1_canBe wsX0_has := goodIn_r _ [6, 7, 8, 9, 5, 10, 11, 23, 24, 25, 26, 27, 28, 29, 30, 31, 32, 33, 34, 35, 36] (by decide +kernel) (by decide +kernel)
set_option maxRecDepth 20000 in
theorem gX1_canBe_X0_has : GoodIn wsX1_canBe (wsV RX1 49 RX0 yX0_has wsX0_has) := goodIn_app (goodIn_of _ (by decide +kernel)) ggX1_canBe_X0_has
set_option maxRecDepth 20000 in
theorem ggX1_canBe_X0_personAt : GoodIn wsX1_canBe wsX0_personAt := goodIn_r _ [15, 16, 17, 23, 24, 25, 26, 27, 28, 29, 30, 31, 32, 33, 34, 35, 36] (by decide +kernel) (by decide +kernel)
set_option maxRecDepth 20000 in
theorem gX1_canBe_X0_personAt : GoodIn wsX1_canBe (wsV RX1 53 RX0 yX0_personAt wsX0_personAt) := goodIn_app (goodIn_of _ (by decide +kernel)) ggX1_canBe_X0_personAt
theorem dX1_canBe_0 : decode cX1_canBe 0 = .ok (.iload_n 1, 1) := by decide +kernel
theorem dX1_canBe_1 : decode cX1_canBe 1 = .ok (.bipush 6, 2) := by decide +kernel
theorem dX1_canBe_3 : decode cX1_canBe 3 = .ok (.idiv, 1) := by decide +kernel
theorem dX1_canBe_4 : decode cX1_canBe 4 = .ok (.istore_n 2, 1) := by decide +kernel
theorem dX1_canBe_5 : decode cX1_canBe 5 = .ok (.iload_n 1, 1) := by decide +kernel
theorem dX1_canBe_6 : decode cX1_canBe 6 = .ok (.bipush 6, 2) := by decide +kernel
theorem dX1_canBe_8 : decode cX1_canBe 8 = .ok (.irem, 1) := by decide +kernel
theorem dX1_canBe_9 : decode cX1_canBe 9 = .ok (.istore_n 3, 1) := by decide +kernel
theorem dX1_canBe_10 : decode cX1_canBe 10 = .ok (.iload_n 1, 1) := by decide +kernel
theorem dX1_canBe_11 : decode cX1_canBe 11 = .ok (.bipush 36, 2) := by decide +kernel
theorem dX1_canBe_13 : decode cX1_canBe 13 = .ok (.if_icmp .lt 5, 3) := by decide +kernel
theorem dX1_canBe_16 : decode cX1_canBe 16 = .ok (.iconst 1, 1) := by decide +kernel
theorem dX1_canBe_17 : decode cX1_canBe 17 = .ok (.ireturn, 1) := by decide +kernel
theorem dX1_canBe_18 : decode cX1_canBe 18 = .ok (.aload_n 0, 1) := by decide +kernel
theorem dX1_canBe_19 : decode cX1_canBe 19 = .ok (.iconst 3, 1) := by decide +kernel
theorem dX1_canBe_20 : decode cX1_canBe 20 = .ok (.iload_n 2, 1) := by decide +kernel
theorem dX1_canBe_21 : decode cX1_canBe 21 = .ok (.invokevirtual 49, 3) := by decide +kernel
theorem dX1_canBe_24 : decode cX1_canBe 24 = .ok (.ifCond .ne 5, 3) := by decide +kernel
theorem dX1_canBe_27 : decode cX1_canBe 27 = .ok (.iconst 0, 1) := by decide +kernel
theorem dX1_canBe_28 : decode cX1_canBe 28 = .ok (.ireturn, 1) := by decide +kernel
theorem dX1_canBe_29 : decode cX1_canBe 29 = .ok (.iload_n 3, 1) := by decide +kernel
theorem dX1_canBe_30 : decode cX1_canBe 30 = .ok (.ifCond .ne 24, 3) := by decide +kernel
theorem dX1_canBe_33 : decode cX1_canBe 33 = .ok (.aload_n 0, 1) := by decide +kernel
theorem dX1_canBe_34 : decode cX1_canBe 34 = .ok (.iload_n 2, 1) := by decide +kernel
theorem dX1_canBe_35 : decode cX1_canBe 35 = .ok (.invokevirtual 53, 3) := by decide +kernel
theorem dX1_canBe_38 : decode cX1_canBe 38 = .ok (.getfield 57, 3) := by decide +kernel
theorem dX1_canBe_41 : decode cX1_canBe 41 = .ok (.bipush 99, 2) := by decide +kernel
theorem dX1_canBe_43 : decode cX1_canBe 43 = .ok (.if_icmp .ge 7, 3) := by decide +kernel
theorem dX1_canBe_46 : decode cX1_canBe 46 = .ok (.iconst 1, 1) := by decide +kernel
theorem dX1_canBe_47 : decode cX1_canBe 47 = .ok (.goto 15, 3) := by decide +kernel
theorem dX1_canBe_50 : decode cX1_canBe 50 = .ok (.iconst 0, 1) := by decide +kernel
theorem dX1_canBe_51 : decode cX1_canBe 51 = .ok (.goto 11, 3) := by decide +kernel
theorem dX1_canBe_54 : decode cX1_canBe 54 = .ok (.aload_n 0, 1) := by decide +kernel
theorem dX1_canBe_55 : decode cX1_canBe 55 = .ok (.iconst 0, 1) := by decide +kernel
theorem dX1_canBe_56 : decode cX1_canBe 56 = .ok (.iload_n 3, 1) := by decide +kernel
theorem dX1_canBe_57 : decode cX1_canBe 57 = .ok (.iconst 1, 1) := by decide +kernel
theorem dX1_canBe_58 : decode cX1_canBe 58 = .ok (.isub, 1) := by decide +kernel
theorem dX1_canBe_59 : decode cX1_canBe 59 = .ok (.invokevirtual 49, 3) := by decide +kernel
theorem dX1_canBe_62 : decode cX1_canBe 62 = .ok (.ireturn, 1) := by decide +kernel
set_option maxRecDepth 20000 in
theorem ggX1_change_X0_personAt : GoodIn wsX1_change wsX0_personAt := goodIn_r _ [7, 8, 9, 15, 16, 17, 18, 19, 20, 21, 22, 23, 24, 25, 26, 27, 28] (by decide +kernel) (by decide +kernel)
set_option maxRecDepth 20000 in
theorem gX1_change_X0_personAt : GoodIn wsX1_change (wsV RX1 53 RX0 yX0_personAt wsX0_personAt) := goodIn_app (goodIn_of _ (by decide +kernel)) ggX1_change_X0_personAt
theorem dX1_change_0 : decode cX1_change 0 = .ok (.aload_n 0, 1) := by decide +kernel
theorem dX1_change_1 : decode cX1_change 1 = .ok (.iload_n 1, 1) := by decide +kernel
theorem dX1_change_2 : decode cX1_change 2 = .ok (.bipush 6, 2) := by decide +kernel
theorem dX1_change_4 : decode cX1_change 4 = .ok (.idiv, 1) := by decide +kernel
theorem dX1_change_5 : decode cX1_change 5 = .ok (.invokevirtual 53, 3) := by decide +kernel
theorem dX1_change_8 : decode cX1_change 8 = .ok (.astore_n 3, 1) := by decide +kernel
theorem dX1_change_9 : decode cX1_change 9 = .ok (.iload_n 1, 1) := by decide +kernel
theorem dX1_change_10 : decode cX1_change 10 = .ok (.bipush 6, 2) := by decide +kernel
theorem dX1_change_12 : decode cX1_change 12 = .ok (.irem, 1) := by decide +kernel
theorem dX1_change_13 : decode cX1_change 13 = .ok (.istore 4, 2) := by decide +kernel
theorem dX1_change_15 : decode cX1_change 15 = .ok (.iload_n 1, 1) := by decide +kernel
theorem dX1_change_16 : decode cX1_change 16 = .ok (.bipush 36, 2) := by decide +kernel
theorem dX1_change_18 : decode cX1_change 18 = .ok (.if_icmp .ge 21, 3) := by decide +kernel
theorem dX1_change_21 : decode cX1_change 21 = .ok (.iload 4, 2) := by decide +kernel
theorem dX1_change_23 : decode cX1_change 23 = .ok (.ifCond .ne 16, 3) := by decide +kernel
theorem dX1_change_26 : decode cX1_change 26 = .ok (.aload_n 3, 1) := by decide +kernel
theorem dX1_change_27 : decode cX1_change 27 = .ok (.dup, 1) := by decide +kernel
theorem dX1_change_28 : decode cX1_change 28 = .ok (.getfield 57, 3) := by decide +kernel
theorem dX1_change_31 : decode cX1_change 31 = .ok (.iload_n 2, 1) := by decide +kernel
theorem dX1_change_32 : decode cX1_change 32 = .ok (.iadd, 1) := by decide +kernel
theorem dX1_change_33 : decode cX1_change 33 = .ok (.putfield 57, 3) := by decide +kernel
theorem dX1_change_36 : decode cX1_change 36 = .ok (.goto 24, 3) := by decide +kernel
theorem dX1_change_39 : decode cX1_change 39 = .ok (.iload_n 1, 1) := by decide +kernel
theorem dX1_change_40 : decode cX1_change 40 = .ok (.bipush 36, 2) := by decide +kernel
theorem dX1_change_42 : decode cX1_change 42 = .ok (.if_icmp .ge 18, 3) := by decide +kernel
theorem dX1_change_45 : decode cX1_change 45 = .ok (.aload_n 3, 1) := by decide +kernel
theorem dX1_change_46 : decode cX1_change 46 = .ok (.dup, 1) := by decide +kernel
theorem dX1_change_47 : decode cX1_change 47 = .ok (.getfield 62, 3) := by decide +kernel
theorem dX1_change_50 : decode cX1_change 50 = .ok (.iconst 1, 1) := by decide +kernel
theorem dX1_change_51 : decode cX1_change 51 = .ok (.iload 4, 2) := by decide +kernel
theorem dX1_change_53 : decode cX1_change 53 = .ok (.iconst 1, 1) := by decide +kernel
theorem dX1_change_54 : decode cX1_change 54 = .ok (.isub, 1) := by decide +kernel
theorem dX1_change_55 : decode cX1_change 55 = .ok (.ishl, 1) := by decide +kernel
theorem dX1_change_56 : decode cX1_change 56 = .ok (.ixor, 1) := by decide +kernel
theorem dX1_change_57 : decode cX1_change 57 = .ok (.putfield 62, 3) := by decide +kernel
theorem dX1_change_60 : decode cX1_change 60 = .ok (.return_, 1) := by decide +kernel
set_option maxRecDepth 20000 in
theorem ggX1_worth_X0_has : GoodIn wsX1_worth wsX0_has := goodIn_r _ [6, 7, 8, 9, 5, 10, 11, 60, 61, 62, 63, 64, 65, 66, 67, 68, 69, 70, 71, 72, 73] (by decide +kernel) (by decide +kernel)
set_option maxRecDepth 20000 in
theorem gX1_worth_X0_has : GoodIn wsX1_worth (wsV RX1 49 RX0 yX0_has wsX0_has) := goodIn_app (goodIn_of _ (by decide +kernel)) ggX1_worth_X0_has
set_option maxRecDepth 20000 in
theorem ggX1_worth_X0_senseBefore : GoodIn wsX1_worth wsX0_senseBefore := goodIn_r _ [15, 16, 17, 18, 5, 19, 20, 21, 22, 23, 24, 25, 26, 27, 28, 29, 30, 31, 32, 33, 7, 8, 9, 10, 11, 34, 35, 36, 37, 38, 39, 40, 41, 42, 43, 44, 45, 46, 47, 48, 49, 50, 51, 52, 53, 54, 55, 56, 3, 4, 6, 57, 58, 59, 74, 75, 76, 77, 78, 79, 80, 81, 82, 83, 84, 85, 86, 87, 60, 61, 62, 63, 64, 65, 66, 67, 68, 69, 70, 71, 72, 73] (by decide +kernel) (by decide +kernel)
set_option maxRecDepth 20000 in
theorem gX1_worth_X0_senseBefore : GoodIn wsX1_worth (wsV RX1 68 RX0 yX0_senseBefore wsX0_senseBefore) := goodIn_app (goodIn_of _ (by decide +kernel)) ggX1_worth_X0_senseBefore
theorem dX1_worth_0 : decode cX1_worth 0 = .ok (.aload_n 0, 1) := by decide +kernel
theorem dX1_worth_1 : decode cX1_worth 1 = .ok (.iconst 3, 1) := by decide +kernel
theorem dX1_worth_2 : decode cX1_worth 2 = .ok (.iload_n 1, 1) := by decide +kernel
theorem dX1_worth_3 : decode cX1_worth 3 = .ok (.invokevirtual 49, 3) := by decide +kernel
theorem dX1_worth_6 : decode cX1_worth 6 = .ok (.ifCond .eq 15, 3) := by decide +kernel
theorem dX1_worth_9 : decode cX1_worth 9 = .ok (.aload_n 0, 1) := by decide +kernel
theorem dX1_worth_10 : decode cX1_worth 10 = .ok (.iload_n 1, 1) := by decide +kernel
theorem dX1_worth_11 : decode cX1_worth 11 = .ok (.aload_n 0, 1) := by decide +kernel
theorem dX1_worth_12 : decode cX1_worth 12 = .ok (.getfield 65, 3) := by decide +kernel
theorem dX1_worth_15 : decode cX1_worth 15 = .ok (.invokevirtual 68, 3) := by decide +kernel
theorem dX1_worth_18 : decode cX1_worth 18 = .ok (.goto 4, 3) := by decide +kernel
theorem dX1_worth_21 : decode cX1_worth 21 = .ok (.iconst 0, 1) := by decide +kernel
theorem dX1_worth_22 : decode cX1_worth 22 = .ok (.istore_n 2, 1) := by decide +kernel
theorem dX1_worth_23 : decode cX1_worth 23 = .ok (.iload_n 2, 1) := by decide +kernel
theorem dX1_worth_24 : decode cX1_worth 24 = .ok (.iconst 2, 1) := by decide +kernel
theorem dX1_worth_25 : decode cX1_worth 25 = .ok (.if_icmp .ne 7, 3) := by decide +kernel
theorem dX1_worth_28 : decode cX1_worth 28 = .ok (.iconst 1, 1) := by decide +kernel
theorem dX1_worth_29 : decode cX1_worth 29 = .ok (.goto 13, 3) := by decide +kernel
theorem dX1_worth_32 : decode cX1_worth 32 = .ok (.iload_n 2, 1) := by decide +kernel
theorem dX1_worth_33 : decode cX1_worth 33 = .ok (.iconst 1, 1) := by decide +kernel
theorem dX1_worth_34 : decode cX1_worth 34 = .ok (.if_icmp .ne 7, 3) := by decide +kernel
theorem dX1_worth_37 : decode cX1_worth 37 = .ok (.iconst (-1), 1) := by decide +kernel
theorem dX1_worth_38 : decode cX1_worth 38 = .ok (.goto 4, 3) := by decide +kernel
theorem dX1_worth_41 : decode cX1_worth 41 = .ok (.iconst 0, 1) := by decide +kernel
theorem dX1_worth_42 : decode cX1_worth 42 = .ok (.ireturn, 1) := by decide +kernel
theorem dX2_init_0 : decode cX2_init 0 = .ok (.aload_n 0, 1) := by decide +kernel
theorem dX2_init_1 : decode cX2_init 1 = .ok (.invokespecial 3, 3) := by decide +kernel
theorem dX2_init_4 : decode cX2_init 4 = .ok (.aload_n 0, 1) := by decide +kernel
theorem dX2_init_5 : decode cX2_init 5 = .ok (.iconst 5, 1) := by decide +kernel
theorem dX2_init_6 : decode cX2_init 6 = .ok (.newarray .int, 2) := by decide +kernel
theorem dX2_init_8 : decode cX2_init 8 = .ok (.putfield 11, 3) := by decide +kernel
theorem dX2_init_11 : decode cX2_init 11 = .ok (.aload_n 0, 1) := by decide +kernel
theorem dX2_init_12 : decode cX2_init 12 = .ok (.iconst 0, 1) := by decide +kernel
theorem dX2_init_13 : decode cX2_init 13 = .ok (.putfield 15, 3) := by decide +kernel
theorem dX2_init_16 : decode cX2_init 16 = .ok (.aload_n 0, 1) := by decide +kernel
theorem dX2_init_17 : decode cX2_init 17 = .ok (.iconst 0, 1) := by decide +kernel
theorem dX2_init_18 : decode cX2_init 18 = .ok (.putfield 19, 3) := by decide +kernel
theorem dX2_init_21 : decode cX2_init 21 = .ok (.aload_n 0, 1) := by decide +kernel
theorem dX2_init_22 : decode cX2_init 22 = .ok (.iconst 0, 1) := by decide +kernel
theorem dX2_init_23 : decode cX2_init 23 = .ok (.putfield 23, 3) := by decide +kernel
theorem dX2_init_26 : decode cX2_init 26 = .ok (.aload_n 0, 1) := by decide +kernel
theorem dX2_init_27 : decode cX2_init 27 = .ok (.iconst 0, 1) := by decide +kernel
theorem dX2_init_28 : decode cX2_init 28 = .ok (.putfield 26, 3) := by decide +kernel
theorem dX2_init_31 : decode cX2_init 31 = .ok (.aload_n 0, 1) := by decide +kernel
theorem dX2_init_32 : decode cX2_init 32 = .ok (.iconst 0, 1) := by decide +kernel
theorem dX2_init_33 : decode cX2_init 33 = .ok (.putfield 29, 3) := by decide +kernel
theorem dX2_init_36 : decode cX2_init 36 = .ok (.aload_n 0, 1) := by decide +kernel
theorem dX2_init_37 : decode cX2_init 37 = .ok (.iconst 0, 1) := by decide +kernel
theorem dX2_init_38 : decode cX2_init 38 = .ok (.putfield 32, 3) := by decide +kernel
theorem dX2_init_41 : decode cX2_init 41 = .ok (.return_, 1) := by decide +kernel
theorem dX2_begin_0 : decode cX2_begin 0 = .ok (.aload_n 0, 1) := by decide +kernel
theorem dX2_begin_1 : decode cX2_begin 1 = .ok (.iload_n 1, 1) := by decide +kernel
theorem dX2_begin_2 : decode cX2_begin 2 = .ok (.putfield 19, 3) := by decide +kernel
theorem dX2_begin_5 : decode cX2_begin 5 = .ok (.aload_n 0, 1) := by decide +kernel
theorem dX2_begin_6 : decode cX2_begin 6 = .ok (.iconst 0, 1) := by decide +kernel
theorem dX2_begin_7 : decode cX2_begin 7 = .ok (.putfield 23, 3) := by decide +kernel
theorem dX2_begin_10 : decode cX2_begin 10 = .ok (.aload_n 0, 1) := by decide +kernel
theorem dX2_begin_11 : decode cX2_begin 11 = .ok (.iconst 0, 1) := by decide +kernel
theorem dX2_begin_12 : decode cX2_begin 12 = .ok (.putfield 26, 3) := by decide +kernel
theorem dX2_begin_15 : decode cX2_begin 15 = .ok (.aload_n 0, 1) := by decide +kernel
theorem dX2_begin_16 : decode cX2_begin 16 = .ok (.iconst 0, 1) := by decide +kernel
theorem dX2_begin_17 : decode cX2_begin 17 = .ok (.putfield 29, 3) := by decide +kernel
theorem dX2_begin_20 : decode cX2_begin 20 = .ok (.aload_n 0, 1) := by decide +kernel
theorem dX2_begin_21 : decode cX2_begin 21 = .ok (.iconst 0, 1) := by decide +kernel
theorem dX2_begin_22 : decode cX2_begin 22 = .ok (.putfield 32, 3) := by decide +kernel
theorem dX2_begin_25 : decode cX2_begin 25 = .ok (.return_, 1) := by decide +kernel
set_option maxRecDepth 20000 in
theorem ggX2_keep_X11_put : GoodIn wsX2_keep wsX11_put := goodIn_r _ [4] (by decide +kernel) (by decide +kernel)
set_option maxRecDepth 20000 in
theorem gX2_keep_X11_put_n35 : GoodIn wsX2_keep (wsX11_put) := ggX2_keep_X11_put
theorem dX2_keep_0 : decode cX2_keep 0 = .ok (.aload_n 0, 1) := by decide +kernel
theorem dX2_keep_1 : decode cX2_keep 1 = .ok (.getfield 11, 3) := by decide +kernel
theorem dX2_keep_4 : decode cX2_keep 4 = .ok (.iload_n 1, 1) := by decide +kernel
theorem dX2_keep_5 : decode cX2_keep 5 = .ok (.iload_n 2, 1) := by decide +kernel
theorem dX2_keep_6 : decode cX2_keep 6 = .ok (.invokestatic 35, 3) := by decide +kernel
theorem dX2_keep_9 : decode cX2_keep 9 = .ok (.return_, 1) := by decide +kernel
set_option maxRecDepth 20000 in
theorem ggX2_keepSteps_X2_keep : GoodIn wsX2_keepSteps wsX2_keep := goodIn_r _ [8, 9, 10, 11, 12, 13, 14, 15, 16, 17, 18, 19] (by decide +kernel) (by decide +kernel)
set_option maxRecDepth 20000 in
theorem gX2_keepSteps_X2_keep : GoodIn wsX2_keepSteps (wsV RX2 39 RX2 yX2_keep wsX2_keep) := goodIn_app (goodIn_of _ (by decide +kernel)) ggX2_keepSteps_X2_keep
theorem dX2_keepSteps_0 : decode cX2_keepSteps 0 = .ok (.aload_n 0, 1) := by decide +kernel
theorem dX2_keepSteps_1 : decode cX2_keepSteps 1 = .ok (.iconst 0, 1) := by decide +kernel
theorem dX2_keepSteps_2 : decode cX2_keepSteps 2 = .ok (.aload_n 0, 1) := by decide +kernel
theorem dX2_keepSteps_3 : decode cX2_keepSteps 3 = .ok (.getfield 26, 3) := by decide +kernel
theorem dX2_keepSteps_6 : decode cX2_keepSteps 6 = .ok (.invokevirtual 39, 3) := by decide +kernel
theorem dX2_keepSteps_9 : decode cX2_keepSteps 9 = .ok (.aload_n 0, 1) := by decide +kernel
theorem dX2_keepSteps_10 : decode cX2_keepSteps 10 = .ok (.iconst 4, 1) := by decide +kernel
theorem dX2_keepSteps_11 : decode cX2_keepSteps 11 = .ok (.aload_n 0, 1) := by decide +kernel
theorem dX2_keepSteps_12 : decode cX2_keepSteps 12 = .ok (.getfield 29, 3) := by decide +kernel
theorem dX2_keepSteps_15 : decode cX2_keepSteps 15 = .ok (.invokevirtual 39, 3) := by decide +kernel
theorem dX2_keepSteps_18 : decode cX2_keepSteps 18 = .ok (.aload_n 0, 1) := by decide +kernel
theorem dX2_keepSteps_19 : decode cX2_keepSteps 19 = .ok (.iconst 1, 1) := by decide +kernel
theorem dX2_keepSteps_20 : decode cX2_keepSteps 20 = .ok (.putfield 15, 3) := by decide +kernel
theorem dX2_keepSteps_23 : decode cX2_keepSteps 23 = .ok (.return_, 1) := by decide +kernel
set_option maxRecDepth 20000 in
theorem ggX2_runSteps_X2_comesTo : GoodIn wsX2_runSteps wsX2_comesTo := goodIn_r _ [8, 2, 9, 10, 159, 160, 161, 162, 163, 164, 165] (by decide +kernel) (by decide +kernel)
set_option maxRecDepth 20000 in
theorem gX2_runSteps_X2_comesTo : GoodIn wsX2_runSteps (wsV RX2 51 RX2 yX2_comesTo wsX2_comesTo) := goodIn_app (goodIn_of _ (by decide +kernel)) ggX2_runSteps_X2_comesTo
set_option maxRecDepth 20000 in
theorem ggX2_runSteps_X9_cellAt : GoodIn wsX2_runSteps wsX9_cellAt := goodIn_r _ [15, 16, 17, 18, 19, 166, 167, 168] (by decide +kernel) (by decide +kernel)
set_option maxRecDepth 20000 in
theorem gX2_runSteps_X9_cellAt : GoodIn wsX2_runSteps (wsV RX2 55 RX9 yX9_cellAt wsX9_cellAt) := goodIn_app (goodIn_of _ (by decide +kernel)) ggX2_runSteps_X9_cellAt
set_option maxRecDepth 20000 in
theorem ggX2_runSteps_X2_holds : GoodIn wsX2_runSteps wsX2_holds := goodIn_r _ [22, 1, 23, 24, 11, 12, 13, 14, 15, 16, 17, 18, 19, 25, 26, 27, 28, 29, 30, 31, 32, 33, 34, 35, 36, 37, 38, 39, 40, 41, 42, 43, 44, 45, 46, 47, 48, 49, 50, 51, 52, 53, 54, 55, 56, 57, 58, 59, 60, 61, 62, 63, 64, 65, 66, 145, 146, 147, 148, 149, 150, 151, 152, 153, 154, 155, 156, 157, 158, 169, 170, 171, 172, 173, 166, 167, 168, 174, 175, 176, 177, 178, 179, 180, 181, 182] (by decide +kernel) (by decide +kernel)
set_option maxRecDepth 20000 in
theorem gX2_runSteps_X2_holds : GoodIn wsX2_runSteps (va_wsS RX2 59 yX2_holds wsX2_holds) := goodIn_app (goodIn_of _ (by decide +kernel)) ggX2_runSteps_X2_holds
set_option maxRecDepth 20000 in
theorem ggX2_runSteps_X2_runSteps : GoodIn wsX2_runSteps wsX2_runSteps := goodIn_r _ [0, 1, 2, 3, 4, 5, 6, 7, 8, 9, 10, 11, 12, 13, 14, 15, 16, 17, 18, 19, 20, 21, 22, 23, 24, 25, 26, 27, 28, 29, 30, 31, 32, 33, 34, 35, 36, 37, 38, 39, 40, 41, 42, 43, 44, 45, 46, 47, 48, 49, 50, 51, 52, 53, 54, 55, 56, 57, 58, 59, 60, 61, 62, 63, 64, 65, 66, 67, 68, 69, 70, 71, 72, 73, 74, 75, 76, 77, 78, 79, 80, 81, 82, 83, 84, 85, 86, 87, 88, 89, 90, 91, 92, 93, 94, 95, 96, 97, 98, 99, 100, 101, 102, 103, 104, 105, 106, 107, 108, 109, 110, 111, 112, 113, 114, 115, 116, 117, 118, 119, 120, 121, 122, 123, 124, 125, 126, 127, 128, 129, 130, 131, 132, 133, 134, 135, 136, 137, 138, 139, 140, 141, 142, 143, 144, 145, 146, 147, 148, 149, 150, 151, 152, 153, 154, 155, 156, 157, 158, 159, 160, 161, 162, 163, 164, 165, 166, 167, 168, 169, 170, 171, 172, 173, 174, 175, 176, 177, 178, 179, 180, 181, 182] (by decide +kernel) (by decide +kernel)
set_option maxRecDepth 20000 in
theorem gX2_runSteps_X2_runSteps : GoodIn wsX2_runSteps (va_wsS RX2 63 yX2_runSteps wsX2_runSteps) := goodIn_app (goodIn_of _ (by decide +kernel)) ggX2_runSteps_X2_runSteps
set_option maxRecDepth 20000 in
theorem ggX2_runSteps_X2_does : GoodIn wsX2_runSteps wsX2_does := goodIn_r _ [72, 1, 2, 11, 12, 13, 14, 15, 16, 17, 18, 19, 73, 74, 75, 28, 76, 77, 78, 79, 80, 81, 82, 83, 84, 85, 86, 87, 88, 26, 27, 29, 30, 31, 32, 33, 34, 35, 36, 37, 38, 39, 40, 41, 42, 43, 44, 45, 46, 47, 48, 49, 50, 51, 52, 53, 54, 55, 56, 57, 58, 59, 60, 61, 62, 63, 64, 65, 89, 90, 91, 92, 93, 94, 95, 96, 97, 98, 99, 100, 101, 102, 103, 104, 105, 106, 107, 108, 109, 110, 111, 112, 113, 114, 115, 116, 117, 118, 119, 120, 121, 122, 123, 124, 125, 126, 127, 128, 129, 130, 131, 132, 133, 134, 135, 136, 7, 137, 138, 139, 140, 141, 142, 143, 144, 145, 146, 147, 148, 149, 150, 151, 152, 153, 154, 155, 156, 157, 158, 159, 160, 161, 162, 163, 164, 165, 166, 167, 168, 169, 170, 171, 172, 173, 174, 175, 176, 177, 178, 179, 180, 181, 182] (by decide +kernel) (by decide +kernel)
set_option maxRecDepth 20000 in
theorem gX2_runSteps_X2_does : GoodIn wsX2_runSteps (wsV RX2 67 RX2 yX2_does wsX2_does) := goodIn_app (goodIn_of _ (by decide +kernel)) ggX2_runSteps_X2_does
theorem dX2_runSteps_0 : decode cX2_runSteps 0 = .ok (.aload_n 1, 1) := by decide +kernel
theorem dX2_runSteps_1 : decode cX2_runSteps 1 = .ok (.getfield 43, 3) := by decide +kernel
theorem dX2_runSteps_4 : decode cX2_runSteps 4 = .ok (.astore 5, 2) := by decide +kernel
theorem dX2_runSteps_6 : decode cX2_runSteps 6 = .ok (.iload_n 2, 1) := by decide +kernel
theorem dX2_runSteps_7 : decode cX2_runSteps 7 = .ok (.istore 6, 2) := by decide +kernel
theorem dX2_runSteps_9 : decode cX2_runSteps 9 = .ok (.iconst 0, 1) := by decide +kernel
theorem dX2_runSteps_10 : decode cX2_runSteps 10 = .ok (.istore 7, 2) := by decide +kernel
theorem dX2_runSteps_12 : decode cX2_runSteps 12 = .ok (.iload 7, 2) := by decide +kernel
theorem dX2_runSteps_14 : decode cX2_runSteps 14 = .ok (.bipush 30, 2) := by decide +kernel
theorem dX2_runSteps_16 : decode cX2_runSteps 16 = .ok (.if_icmp .ge 173, 3) := by decide +kernel
theorem dX2_runSteps_19 : decode cX2_runSteps 19 = .ok (.iload 6, 2) := by decide +kernel
theorem dX2_runSteps_21 : decode cX2_runSteps 21 = .ok (.iload_n 3, 1) := by decide +kernel
theorem dX2_runSteps_22 : decode cX2_runSteps 22 = .ok (.if_icmp .ge 167, 3) := by decide +kernel
theorem dX2_runSteps_25 : decode cX2_runSteps 25 = .ok (.aload_n 0, 1) := by decide +kernel
theorem dX2_runSteps_26 : decode cX2_runSteps 26 = .ok (.invokevirtual 51, 3) := by decide +kernel
theorem dX2_runSteps_29 : decode cX2_runSteps 29 = .ok (.ifCond .eq 160, 3) := by decide +kernel
theorem dX2_runSteps_32 : decode cX2_runSteps 32 = .ok (.aload 5, 2) := by decide +kernel
theorem dX2_runSteps_34 : decode cX2_runSteps 34 = .ok (.iload 6, 2) := by decide +kernel
theorem dX2_runSteps_36 : decode cX2_runSteps 36 = .ok (.iconst 0, 1) := by decide +kernel
theorem dX2_runSteps_37 : decode cX2_runSteps 37 = .ok (.invokevirtual 55, 3) := by decide +kernel
theorem dX2_runSteps_40 : decode cX2_runSteps 40 = .ok (.istore 8, 2) := by decide +kernel
theorem dX2_runSteps_42 : decode cX2_runSteps 42 = .ok (.iload 6, 2) := by decide +kernel
theorem dX2_runSteps_44 : decode cX2_runSteps 44 = .ok (.iconst 1, 1) := by decide +kernel
theorem dX2_runSteps_45 : decode cX2_runSteps 45 = .ok (.iadd, 1) := by decide +kernel
theorem dX2_runSteps_46 : decode cX2_runSteps 46 = .ok (.istore 9, 2) := by decide +kernel
theorem dX2_runSteps_48 : decode cX2_runSteps 48 = .ok (.iload 8, 2) := by decide +kernel
theorem dX2_runSteps_50 : decode cX2_runSteps 50 = .ok (.bipush 22, 2) := by decide +kernel
theorem dX2_runSteps_52 : decode cX2_runSteps 52 = .ok (.if_icmp .eq 10, 3) := by decide +kernel
theorem dX2_runSteps_55 : decode cX2_runSteps 55 = .ok (.iload 8, 2) := by decide +kernel
theorem dX2_runSteps_57 : decode cX2_runSteps 57 = .ok (.bipush 23, 2) := by decide +kernel
theorem dX2_runSteps_59 : decode cX2_runSteps 59 = .ok (.if_icmp .ne 94, 3) := by decide +kernel
theorem dX2_runSteps_62 : decode cX2_runSteps 62 = .ok (.aload 5, 2) := by decide +kernel
theorem dX2_runSteps_64 : decode cX2_runSteps 64 = .ok (.iload 6, 2) := by decide +kernel
theorem dX2_runSteps_66 : decode cX2_runSteps 66 = .ok (.iconst 4, 1) := by decide +kernel
theorem dX2_runSteps_67 : decode cX2_runSteps 67 = .ok (.invokevirtual 55, 3) := by decide +kernel
theorem dX2_runSteps_70 : decode cX2_runSteps 70 = .ok (.istore 9, 2) := by decide +kernel
theorem dX2_runSteps_72 : decode cX2_runSteps 72 = .ok (.iload 8, 2) := by decide +kernel
theorem dX2_runSteps_74 : decode cX2_runSteps 74 = .ok (.bipush 23, 2) := by decide +kernel
theorem dX2_runSteps_76 : decode cX2_runSteps 76 = .ok (.if_icmp .ne 14, 3) := by decide +kernel
theorem dX2_runSteps_79 : decode cX2_runSteps 79 = .ok (.aload 5, 2) := by decide +kernel
theorem dX2_runSteps_81 : decode cX2_runSteps 81 = .ok (.iload 6, 2) := by decide +kernel
theorem dX2_runSteps_83 : decode cX2_runSteps 83 = .ok (.iconst 2, 1) := by decide +kernel
theorem dX2_runSteps_84 : decode cX2_runSteps 84 = .ok (.invokevirtual 55, 3) := by decide +kernel
theorem dX2_runSteps_87 : decode cX2_runSteps 87 = .ok (.goto 17, 3) := by decide +kernel
theorem dX2_runSteps_90 : decode cX2_runSteps 90 = .ok (.aload_n 1, 1) := by decide +kernel
theorem dX2_runSteps_91 : decode cX2_runSteps 91 = .ok (.iload 6, 2) := by decide +kernel
theorem dX2_runSteps_93 : decode cX2_runSteps 93 = .ok (.invokestatic 59, 3) := by decide +kernel
theorem dX2_runSteps_96 : decode cX2_runSteps 96 = .ok (.ifCond .eq 7, 3) := by decide +kernel
theorem dX2_runSteps_99 : decode cX2_runSteps 99 = .ok (.iconst 1, 1) := by decide +kernel
theorem dX2_runSteps_100 : decode cX2_runSteps 100 = .ok (.goto 4, 3) := by decide +kernel
theorem dX2_runSteps_103 : decode cX2_runSteps 103 = .ok (.iconst 0, 1) := by decide +kernel
theorem dX2_runSteps_104 : decode cX2_runSteps 104 = .ok (.istore 10, 2) := by decide +kernel
theorem dX2_runSteps_106 : decode cX2_runSteps 106 = .ok (.iconst 0, 1) := by decide +kernel
theorem dX2_runSteps_107 : decode cX2_runSteps 107 = .ok (.istore 11, 2) := by decide +kernel
theorem dX2_runSteps_109 : decode cX2_runSteps 109 = .ok (.iload 11, 2) := by decide +kernel
theorem dX2_runSteps_111 : decode cX2_runSteps 111 = .ok (.iload 10, 2) := by decide +kernel
theorem dX2_runSteps_113 : decode cX2_runSteps 113 = .ok (.if_icmp .ge 37, 3) := by decide +kernel
theorem dX2_runSteps_116 : decode cX2_runSteps 116 = .ok (.iload 4, 2) := by decide +kernel
theorem dX2_runSteps_118 : decode cX2_runSteps 118 = .ok (.iconst 3, 1) := by decide +kernel
theorem dX2_runSteps_119 : decode cX2_runSteps 119 = .ok (.if_icmp .ge 31, 3) := by decide +kernel
theorem dX2_runSteps_122 : decode cX2_runSteps 122 = .ok (.aload_n 0, 1) := by decide +kernel
theorem dX2_runSteps_123 : decode cX2_runSteps 123 = .ok (.getfield 32, 3) := by decide +kernel
theorem dX2_runSteps_126 : decode cX2_runSteps 126 = .ok (.ifCond .ne 24, 3) := by decide +kernel
theorem dX2_runSteps_129 : decode cX2_runSteps 129 = .ok (.aload_n 0, 1) := by decide +kernel
theorem dX2_runSteps_130 : decode cX2_runSteps 130 = .ok (.aload_n 1, 1) := by decide +kernel
theorem dX2_runSteps_131 : decode cX2_runSteps 131 = .ok (.iload 6, 2) := by decide +kernel
theorem dX2_runSteps_133 : decode cX2_runSteps 133 = .ok (.iconst 1, 1) := by decide +kernel
theorem dX2_runSteps_134 : decode cX2_runSteps 134 = .ok (.iadd, 1) := by decide +kernel
theorem dX2_runSteps_135 : decode cX2_runSteps 135 = .ok (.iload 9, 2) := by decide +kernel
theorem dX2_runSteps_137 : decode cX2_runSteps 137 = .ok (.iload 4, 2) := by decide +kernel
theorem dX2_runSteps_139 : decode cX2_runSteps 139 = .ok (.iconst 1, 1) := by decide +kernel
theorem dX2_runSteps_140 : decode cX2_runSteps 140 = .ok (.iadd, 1) := by decide +kernel
theorem dX2_runSteps_141 : decode cX2_runSteps 141 = .ok (.invokestatic 63, 3) := by decide +kernel
theorem dX2_runSteps_144 : decode cX2_runSteps 144 = .ok (.iinc 11 1, 3) := by decide +kernel
theorem dX2_runSteps_147 : decode cX2_runSteps 147 = .ok (.goto (-38), 3) := by decide +kernel
theorem dX2_runSteps_150 : decode cX2_runSteps 150 = .ok (.goto 29, 3) := by decide +kernel
theorem dX2_runSteps_153 : decode cX2_runSteps 153 = .ok (.aload_n 0, 1) := by decide +kernel
theorem dX2_runSteps_154 : decode cX2_runSteps 154 = .ok (.dup, 1) := by decide +kernel
theorem dX2_runSteps_155 : decode cX2_runSteps 155 = .ok (.getfield 26, 3) := by decide +kernel
theorem dX2_runSteps_158 : decode cX2_runSteps 158 = .ok (.aload_n 0, 1) := by decide +kernel
theorem dX2_runSteps_159 : decode cX2_runSteps 159 = .ok (.aload_n 1, 1) := by decide +kernel
theorem dX2_runSteps_160 : decode cX2_runSteps 160 = .ok (.iload 8, 2) := by decide +kernel
theorem dX2_runSteps_162 : decode cX2_runSteps 162 = .ok (.iload 6, 2) := by decide +kernel
theorem dX2_runSteps_164 : decode cX2_runSteps 164 = .ok (.invokevirtual 67, 3) := by decide +kernel
theorem dX2_runSteps_167 : decode cX2_runSteps 167 = .ok (.ifCond .eq 7, 3) := by decide +kernel
theorem dX2_runSteps_170 : decode cX2_runSteps 170 = .ok (.iconst 0, 1) := by decide +kernel
theorem dX2_runSteps_171 : decode cX2_runSteps 171 = .ok (.goto 4, 3) := by decide +kernel
theorem dX2_runSteps_174 : decode cX2_runSteps 174 = .ok (.iconst 1, 1) := by decide +kernel
theorem dX2_runSteps_175 : decode cX2_runSteps 175 = .ok (.iadd, 1) := by decide +kernel
theorem dX2_runSteps_176 : decode cX2_runSteps 176 = .ok (.putfield 26, 3) := by decide +kernel
theorem dX2_runSteps_179 : decode cX2_runSteps 179 = .ok (.iload 9, 2) := by decide +kernel
theorem dX2_runSteps_181 : decode cX2_runSteps 181 = .ok (.istore 6, 2) := by decide +kernel
theorem dX2_runSteps_183 : decode cX2_runSteps 183 = .ok (.iinc 7 1, 3) := by decide +kernel
theorem dX2_runSteps_186 : decode cX2_runSteps 186 = .ok (.goto (-174), 3) := by decide +kernel
theorem dX2_runSteps_189 : decode cX2_runSteps 189 = .ok (.return_, 1) := by decide +kernel
theorem dX2_comesTo_0 : decode cX2_comesTo 0 = .ok (.aload_n 0, 1) := by decide +kernel
theorem dX2_comesTo_1 : decode cX2_comesTo 1 = .ok (.getfield 32, 3) := by decide +kernel
theorem dX2_comesTo_4 : decode cX2_comesTo 4 = .ok (.ifCond .eq 5, 3) := by decide +kernel
theorem dX2_comesTo_7 : decode cX2_comesTo 7 = .ok (.iconst 0, 1) := by decide +kernel
theorem dX2_comesTo_8 : decode cX2_comesTo 8 = .ok (.ireturn, 1) := by decide +kernel
theorem dX2_comesTo_9 : decode cX2_comesTo 9 = .ok (.aload_n 0, 1) := by decide +kernel
theorem dX2_comesTo_10 : decode cX2_comesTo 10 = .ok (.getfield 23, 3) := by decide +kernel
theorem dX2_comesTo_13 : decode cX2_comesTo 13 = .ok (.sipush 300, 3) := by decide +kernel
theorem dX2_comesTo_16 : decode cX2_comesTo 16 = .ok (.if_icmp .lt 15, 3) := by decide +kernel
theorem dX2_comesTo_19 : decode cX2_comesTo 19 = .ok (.aload_n 0, 1) := by decide +kernel
theorem dX2_comesTo_20 : decode cX2_comesTo 20 = .ok (.iconst 1, 1) := by decide +kernel
theorem dX2_comesTo_21 : decode cX2_comesTo 21 = .ok (.putfield 29, 3) := by decide +kernel
theorem dX2_comesTo_24 : decode cX2_comesTo 24 = .ok (.aload_n 0, 1) := by decide +kernel
theorem dX2_comesTo_25 : decode cX2_comesTo 25 = .ok (.iconst 1, 1) := by decide +kernel
theorem dX2_comesTo_26 : decode cX2_comesTo 26 = .ok (.putfield 32, 3) := by decide +kernel
theorem dX2_comesTo_29 : decode cX2_comesTo 29 = .ok (.iconst 0, 1) := by decide +kernel
theorem dX2_comesTo_30 : decode cX2_comesTo 30 = .ok (.ireturn, 1) := by decide +kernel
theorem dX2_comesTo_31 : decode cX2_comesTo 31 = .ok (.aload_n 0, 1) := by decide +kernel
theorem dX2_comesTo_32 : decode cX2_comesTo 32 = .ok (.dup, 1) := by decide +kernel
theorem dX2_comesTo_33 : decode cX2_comesTo 33 = .ok (.getfield 23, 3) := by decide +kernel
theorem dX2_comesTo_36 : decode cX2_comesTo 36 = .ok (.iconst 1, 1) := by decide +kernel
theorem dX2_comesTo_37 : decode cX2_comesTo 37 = .ok (.iadd, 1) := by decide +kernel
theorem dX2_comesTo_38 : decode cX2_comesTo 38 = .ok (.putfield 23, 3) := by decide +kernel
theorem dX2_comesTo_41 : decode cX2_comesTo 41 = .ok (.iconst 1, 1) := by decide +kernel
theorem dX2_comesTo_42 : decode cX2_comesTo 42 = .ok (.ireturn, 1) := by decide +kernel
set_option maxRecDepth 20000 in
theorem ggX2_holds_X9_cellAt : GoodIn wsX2_holds wsX9_cellAt := goodIn_r _ [8, 9, 10, 11, 12, 74, 75, 76] (by decide +kernel) (by decide +kernel)
set_option maxRecDepth 20000 in
theorem gX2_holds_X9_cellAt : GoodIn wsX2_holds (wsV RX2 55 RX9 yX9_cellAt wsX9_cellAt) := goodIn_app (goodIn_of _ (by decide +kernel)) ggX2_holds_X9_cellAt
set_option maxRecDepth 20000 in
theorem ggX2_holds_X0_cueBefore : GoodIn wsX2_holds wsX0_cueBefore := goodIn_r _ [17, 18, 19, 20, 21, 22, 23, 24, 16, 25, 26, 27, 28, 29, 30, 31, 32, 33, 34, 35, 36, 37, 38, 39, 40, 41, 42, 43, 44, 45, 46, 47, 48, 49, 50, 51, 52, 53, 69, 70, 71, 72, 73, 77, 78, 79, 80, 81, 82, 83, 84, 85, 55, 56, 57, 58, 59, 60, 61, 62, 63, 64, 65, 66, 67, 68] (by decide +kernel) (by decide +kernel)
set_option maxRecDepth 20000 in
theorem gX2_holds_X0_cueBefore : GoodIn wsX2_holds (wsV RX2 74 RX0 yX0_cueBefore wsX0_cueBefore) := goodIn_app (goodIn_of _ (by decide +kernel)) ggX2_holds_X0_cueBefore
set_option maxRecDepth 20000 in
theorem ggX2_holds_X0_personAt : GoodIn wsX2_holds wsX0_personAt := goodIn_r _ [25, 26, 27, 55, 56, 57, 58, 59, 60, 61, 62, 63, 64, 65, 66, 67, 68] (by decide +kernel) (by decide +kernel)
set_option maxRecDepth 20000 in
theorem gX2_holds_X0_personAt : GoodIn wsX2_holds (wsV RX2 77 RX0 yX0_personAt wsX0_personAt) := goodIn_app (goodIn_of _ (by decide +kernel)) ggX2_holds_X0_personAt
theorem dX2_holds_0 : decode cX2_holds 0 = .ok (.aload_n 0, 1) := by decide +kernel
theorem dX2_holds_1 : decode cX2_holds 1 = .ok (.getfield 43, 3) := by decide +kernel
theorem dX2_holds_4 : decode cX2_holds 4 = .ok (.iload_n 1, 1) := by decide +kernel
theorem dX2_holds_5 : decode cX2_holds 5 = .ok (.iconst 2, 1) := by decide +kernel
theorem dX2_holds_6 : decode cX2_holds 6 = .ok (.invokevirtual 55, 3) := by decide +kernel
theorem dX2_holds_9 : decode cX2_holds 9 = .ok (.istore_n 2, 1) := by decide +kernel
theorem dX2_holds_10 : decode cX2_holds 10 = .ok (.aload_n 0, 1) := by decide +kernel
theorem dX2_holds_11 : decode cX2_holds 11 = .ok (.getfield 43, 3) := by decide +kernel
theorem dX2_holds_14 : decode cX2_holds 14 = .ok (.iload_n 1, 1) := by decide +kernel
theorem dX2_holds_15 : decode cX2_holds 15 = .ok (.iconst 3, 1) := by decide +kernel
theorem dX2_holds_16 : decode cX2_holds 16 = .ok (.invokevirtual 55, 3) := by decide +kernel
theorem dX2_holds_19 : decode cX2_holds 19 = .ok (.istore_n 3, 1) := by decide +kernel
theorem dX2_holds_20 : decode cX2_holds 20 = .ok (.aload_n 0, 1) := by decide +kernel
theorem dX2_holds_21 : decode cX2_holds 21 = .ok (.getfield 43, 3) := by decide +kernel
theorem dX2_holds_24 : decode cX2_holds 24 = .ok (.iload_n 1, 1) := by decide +kernel
theorem dX2_holds_25 : decode cX2_holds 25 = .ok (.iconst 1, 1) := by decide +kernel
theorem dX2_holds_26 : decode cX2_holds 26 = .ok (.invokevirtual 55, 3) := by decide +kernel
theorem dX2_holds_29 : decode cX2_holds 29 = .ok (.tableswitch 82 25 27 #[27, 46, 64], 27) := by decide +kernel
theorem dX2_holds_56 : decode cX2_holds 56 = .ok (.aload_n 0, 1) := by decide +kernel
theorem dX2_holds_57 : decode cX2_holds 57 = .ok (.iload_n 2, 1) := by decide +kernel
theorem dX2_holds_58 : decode cX2_holds 58 = .ok (.aload_n 0, 1) := by decide +kernel
theorem dX2_holds_59 : decode cX2_holds 59 = .ok (.getfield 71, 3) := by decide +kernel
theorem dX2_holds_62 : decode cX2_holds 62 = .ok (.invokevirtual 74, 3) := by decide +kernel
theorem dX2_holds_65 : decode cX2_holds 65 = .ok (.iload_n 3, 1) := by decide +kernel
theorem dX2_holds_66 : decode cX2_holds 66 = .ok (.if_icmp .ne 7, 3) := by decide +kernel
theorem dX2_holds_69 : decode cX2_holds 69 = .ok (.iconst 1, 1) := by decide +kernel
theorem dX2_holds_70 : decode cX2_holds 70 = .ok (.goto 4, 3) := by decide +kernel
theorem dX2_holds_73 : decode cX2_holds 73 = .ok (.iconst 0, 1) := by decide +kernel
theorem dX2_holds_74 : decode cX2_holds 74 = .ok (.ireturn, 1) := by decide +kernel
theorem dX2_holds_75 : decode cX2_holds 75 = .ok (.aload_n 0, 1) := by decide +kernel
theorem dX2_holds_76 : decode cX2_holds 76 = .ok (.iload_n 2, 1) := by decide +kernel
theorem dX2_holds_77 : decode cX2_holds 77 = .ok (.invokevirtual 77, 3) := by decide +kernel
theorem dX2_holds_80 : decode cX2_holds 80 = .ok (.getfield 81, 3) := by decide +kernel
theorem dX2_holds_83 : decode cX2_holds 83 = .ok (.iconst 2, 1) := by decide +kernel
theorem dX2_holds_84 : decode cX2_holds 84 = .ok (.if_icmp .ne 7, 3) := by decide +kernel
theorem dX2_holds_87 : decode cX2_holds 87 = .ok (.iconst 1, 1) := by decide +kernel
theorem dX2_holds_88 : decode cX2_holds 88 = .ok (.goto 4, 3) := by decide +kernel
theorem dX2_holds_91 : decode cX2_holds 91 = .ok (.iconst 0, 1) := by decide +kernel
theorem dX2_holds_92 : decode cX2_holds 92 = .ok (.ireturn, 1) := by decide +kernel
theorem dX2_holds_93 : decode cX2_holds 93 = .ok (.aload_n 0, 1) := by decide +kernel
theorem dX2_holds_94 : decode cX2_holds 94 = .ok (.iload_n 2, 1) := by decide +kernel
theorem dX2_holds_95 : decode cX2_holds 95 = .ok (.invokevirtual 77, 3) := by decide +kernel
theorem dX2_holds_98 : decode cX2_holds 98 = .ok (.getfield 81, 3) := by decide +kernel
theorem dX2_holds_101 : decode cX2_holds 101 = .ok (.iconst 1, 1) := by decide +kernel
theorem dX2_holds_102 : decode cX2_holds 102 = .ok (.if_icmp .ne 7, 3) := by decide +kernel
theorem dX2_holds_105 : decode cX2_holds 105 = .ok (.iconst 1, 1) := by decide +kernel
theorem dX2_holds_106 : decode cX2_holds 106 = .ok (.goto 4, 3) := by decide +kernel
theorem dX2_holds_109 : decode cX2_holds 109 = .ok (.iconst 0, 1) := by decide +kernel
theorem dX2_holds_110 : decode cX2_holds 110 = .ok (.ireturn, 1) := by decide +kernel
theorem dX2_holds_111 : decode cX2_holds 111 = .ok (.aload_n 0, 1) := by decide +kernel
theorem dX2_holds_112 : decode cX2_holds 112 = .ok (.getfield 71, 3) := by decide +kernel
theorem dX2_holds_115 : decode cX2_holds 115 = .ok (.iload_n 2, 1) := by decide +kernel
theorem dX2_holds_116 : decode cX2_holds 116 = .ok (.if_icmp .lt 15, 3) := by decide +kernel
theorem dX2_holds_119 : decode cX2_holds 119 = .ok (.aload_n 0, 1) := by decide +kernel
theorem dX2_holds_120 : decode cX2_holds 120 = .ok (.getfield 71, 3) := by decide +kernel
theorem dX2_holds_123 : decode cX2_holds 123 = .ok (.iload_n 3, 1) := by decide +kernel
theorem dX2_holds_124 : decode cX2_holds 124 = .ok (.if_icmp .gt 7, 3) := by decide +kernel
theorem dX2_holds_127 : decode cX2_holds 127 = .ok (.iconst 1, 1) := by decide +kernel
theorem dX2_holds_128 : decode cX2_holds 128 = .ok (.goto 4, 3) := by decide +kernel
theorem dX2_holds_131 : decode cX2_holds 131 = .ok (.iconst 0, 1) := by decide +kernel
theorem dX2_holds_132 : decode cX2_holds 132 = .ok (.ireturn, 1) := by decide +kernel
set_option maxRecDepth 20000 in
theorem ggX2_does_X9_cellAt : GoodIn wsX2_does wsX9_cellAt := goodIn_r _ [7, 8, 9, 10, 11, 146, 147, 148] (by decide +kernel) (by decide +kernel)
set_option maxRecDepth 20000 in
theorem gX2_does_X9_cellAt : GoodIn wsX2_does (wsV RX2 55 RX9 yX9_cellAt wsX9_cellAt) := goodIn_app (goodIn_of _ (by decide +kernel)) ggX2_does_X9_cellAt
set_option maxRecDepth 20000 in
theorem ggX2_does_X0_hasRoomFor : GoodIn wsX2_does wsX0_hasRoomFor := goodIn_r _ [16, 17, 125, 126, 127, 128, 129, 130, 131, 132, 133, 134, 135, 136, 137, 138] (by decide +kernel) (by decide +kernel)
set_option maxRecDepth 20000 in
theorem gX2_does_X0_hasRoomFor : GoodIn wsX2_does (wsV RX2 86 RX0 yX0_hasRoomFor wsX0_hasRoomFor) := goodIn_app (goodIn_of _ (by decide +kernel)) ggX2_does_X0_hasRoomFor
set_option maxRecDepth 20000 in
theorem ggX2_does_X0_sitBefore : GoodIn wsX2_does wsX0_sitBefore := goodIn_r _ [21, 22, 23, 24, 25, 26, 17, 27, 28, 29, 30, 15, 31, 32, 33, 34, 35, 36, 37, 38, 39, 40, 41, 42, 43, 44, 45, 46, 47, 48, 49, 50, 51, 52, 53, 54, 55, 56, 57, 58, 59, 60, 61, 62, 63, 64, 65, 66, 67, 125, 126, 127, 128, 129, 130, 131, 132, 133, 134, 135, 136, 137, 138, 149, 150, 151, 152, 153, 154, 155, 156, 157, 158, 159, 160, 161, 162] (by decide +kernel) (by decide +kernel)
set_option maxRecDepth 20000 in
theorem gX2_does_X0_sitBefore : GoodIn wsX2_does (wsV RX2 90 RX0 yX0_sitBefore wsX0_sitBefore) := goodIn_app (goodIn_of _ (by decide +kernel)) ggX2_does_X0_sitBefore
set_option maxRecDepth 20000 in
theorem ggX2_does_X0_canHoldTerm : GoodIn wsX2_does wsX0_canHoldTerm := goodIn_r _ [71, 72, 73, 74, 15, 75, 76, 46, 47, 48, 49, 50, 36, 37, 38, 39, 40, 41, 77, 78, 79, 80, 81, 82, 83, 84, 13, 14, 16, 17, 149, 150, 151, 152, 153, 125, 126, 127, 128, 129, 130, 131, 132, 133, 134, 135, 136, 137, 138] (by decide +kernel) (by decide +kernel)
set_option maxRecDepth 20000 in
theorem gX2_does_X0_canHoldTerm : GoodIn wsX2_does (wsV RX2 94 RX0 yX0_canHoldTerm wsX0_canHoldTerm) := goodIn_app (goodIn_of _ (by decide +kernel)) ggX2_does_X0_canHoldTerm
set_option maxRecDepth 20000 in
theorem ggX2_does_X0_holdTerm : GoodIn wsX2_does wsX0_holdTerm := goodIn_r _ [88, 76, 46, 47, 48, 15, 49, 50, 36, 37, 38, 39, 40, 41, 89, 19, 20, 21, 22, 23, 24, 25, 26, 17, 27, 28, 29, 30, 31, 32, 33, 34, 35, 42, 43, 44, 45, 51, 52, 53, 54, 55, 56, 57, 58, 59, 60, 61, 62, 63, 64, 65, 66, 67, 90, 91, 92, 93, 94, 95, 96, 97, 98, 9, 10, 11, 149, 150, 151, 152, 153, 125, 126, 127, 128, 129, 130, 131, 132, 133, 134, 135, 136, 137, 138, 154, 155, 156, 157, 158, 159, 160, 161, 162] (by decide +kernel) (by decide +kernel)
set_option maxRecDepth 20000 in
theorem gX2_does_X0_holdTerm : GoodIn wsX2_does (wsV RX2 97 RX0 yX0_holdTerm wsX0_holdTerm) := goodIn_app (goodIn_of _ (by decide +kernel)) ggX2_does_X0_holdTerm
set_option maxRecDepth 20000 in
theorem ggX2_does_X0_feedPerson : GoodIn wsX2_does wsX0_feedPerson := goodIn_r _ [102, 33, 23, 24, 25, 26, 36, 37, 38, 15, 39, 40, 41, 149, 150, 151, 152, 153, 125, 126, 127, 128, 129, 130, 131, 132, 133, 134, 135, 136, 137, 138] (by decide +kernel) (by decide +kernel)
set_option maxRecDepth 20000 in
theorem gX2_does_X0_feedPerson : GoodIn wsX2_does (wsV RX2 101 RX0 yX0_feedPerson wsX0_feedPerson) := goodIn_app (goodIn_of _ (by decide +kernel)) ggX2_does_X0_feedPerson
set_option maxRecDepth 20000 in
theorem ggX2_does_X0_setSmell : GoodIn wsX2_does wsX0_setSmell := goodIn_r _ [106, 34, 36, 37, 38, 15, 39, 40, 41, 107, 10, 108, 149, 150, 151, 152, 153, 125, 126, 127, 128, 129, 130, 131, 132, 133, 134, 135, 136, 137, 138] (by decide +kernel) (by decide +kernel)
set_option maxRecDepth 20000 in
theorem gX2_does_X0_setSmell : GoodIn wsX2_does (wsV RX2 105 RX0 yX0_setSmell wsX0_setSmell) := goodIn_app (goodIn_of _ (by decide +kernel)) ggX2_does_X0_setSmell
set_option maxRecDepth 20000 in
theorem ggX2_does_X0_coolDown : GoodIn wsX2_does wsX0_coolDown := goodIn_r _ [112, 22, 125, 126, 127, 128, 129, 130, 131, 132, 133, 134, 135, 136, 137, 138] (by decide +kernel) (by decide +kernel)
set_option maxRecDepth 20000 in
theorem gX2_does_X0_coolDown : GoodIn wsX2_does (wsV RX2 109 RX0 yX0_coolDown wsX0_coolDown) := goodIn_app (goodIn_of _ (by decide +kernel)) ggX2_does_X0_coolDown
set_option maxRecDepth 20000 in
theorem ggX2_does_X2_feedsAny : GoodIn wsX2_does wsX2_feedsAny := goodIn_r _ [117, 118, 47, 48, 15, 49, 50, 119, 120, 121, 116, 122, 123, 124, 99, 100, 101, 102, 33, 23, 24, 25, 26, 36, 37, 38, 39, 40, 41, 125, 126, 127, 128, 129, 130, 131, 132, 133, 134, 135, 136, 137, 138, 139, 140, 141, 142, 143, 144, 145, 149, 150, 151, 152, 153] (by decide +kernel) (by decide +kernel)
set_option maxRecDepth 20000 in
theorem gX2_does_X2_feedsAny : GoodIn wsX2_does (wsV RX2 112 RX2 yX2_feedsAny wsX2_feedsAny) := goodIn_app (goodIn_of _ (by decide +kernel)) ggX2_does_X2_feedsAny
theorem dX2_does_0 : decode cX2_does 0 = .ok (.aload_n 1, 1) := by decide +kernel
theorem dX2_does_1 : decode cX2_does 1 = .ok (.getfield 43, 3) := by decide +kernel
theorem dX2_does_4 : decode cX2_does 4 = .ok (.iload_n 3, 1) := by decide +kernel
theorem dX2_does_5 : decode cX2_does 5 = .ok (.iconst 2, 1) := by decide +kernel
theorem dX2_does_6 : decode cX2_does 6 = .ok (.invokevirtual 55, 3) := by decide +kernel
theorem dX2_does_9 : decode cX2_does 9 = .ok (.istore 4, 2) := by decide +kernel
theorem dX2_does_11 : decode cX2_does 11 = .ok (.aload_n 1, 1) := by decide +kernel
theorem dX2_does_12 : decode cX2_does 12 = .ok (.getfield 43, 3) := by decide +kernel
theorem dX2_does_15 : decode cX2_does 15 = .ok (.iload_n 3, 1) := by decide +kernel
theorem dX2_does_16 : decode cX2_does 16 = .ok (.iconst 3, 1) := by decide +kernel
theorem dX2_does_17 : decode cX2_does 17 = .ok (.invokevirtual 55, 3) := by decide +kernel
theorem dX2_does_20 : decode cX2_does 20 = .ok (.istore 5, 2) := by decide +kernel
theorem dX2_does_22 : decode cX2_does 22 = .ok (.iload_n 2, 1) := by decide +kernel
theorem dX2_does_23 : decode cX2_does 23 = .ok (.tableswitch 116 15 21 #[41, 60, 76, 85, 95, 105, 110], 41) := by decide +kernel
theorem dX2_does_64 : decode cX2_does 64 = .ok (.aload_n 1, 1) := by decide +kernel
theorem dX2_does_65 : decode cX2_does 65 = .ok (.iconst 1, 1) := by decide +kernel
theorem dX2_does_66 : decode cX2_does 66 = .ok (.invokevirtual 86, 3) := by decide +kernel
theorem dX2_does_69 : decode cX2_does 69 = .ok (.ifCond .ne 5, 3) := by decide +kernel
theorem dX2_does_72 : decode cX2_does 72 = .ok (.iconst 0, 1) := by decide +kernel
theorem dX2_does_73 : decode cX2_does 73 = .ok (.ireturn, 1) := by decide +kernel
theorem dX2_does_74 : decode cX2_does 74 = .ok (.aload_n 1, 1) := by decide +kernel
theorem dX2_does_75 : decode cX2_does 75 = .ok (.iload 4, 2) := by decide +kernel
theorem dX2_does_77 : decode cX2_does 77 = .ok (.invokevirtual 90, 3) := by decide +kernel
theorem dX2_does_80 : decode cX2_does 80 = .ok (.pop, 1) := by decide +kernel
theorem dX2_does_81 : decode cX2_does 81 = .ok (.iconst 1, 1) := by decide +kernel
theorem dX2_does_82 : decode cX2_does 82 = .ok (.ireturn, 1) := by decide +kernel
theorem dX2_does_83 : decode cX2_does 83 = .ok (.aload_n 1, 1) := by decide +kernel
theorem dX2_does_84 : decode cX2_does 84 = .ok (.invokevirtual 94, 3) := by decide +kernel
theorem dX2_does_87 : decode cX2_does 87 = .ok (.ifCond .ne 5, 3) := by decide +kernel
theorem dX2_does_90 : decode cX2_does 90 = .ok (.iconst 0, 1) := by decide +kernel
theorem dX2_does_91 : decode cX2_does 91 = .ok (.ireturn, 1) := by decide +kernel
theorem dX2_does_92 : decode cX2_does 92 = .ok (.aload_n 1, 1) := by decide +kernel
theorem dX2_does_93 : decode cX2_does 93 = .ok (.invokevirtual 97, 3) := by decide +kernel
theorem dX2_does_96 : decode cX2_does 96 = .ok (.pop, 1) := by decide +kernel
theorem dX2_does_97 : decode cX2_does 97 = .ok (.iconst 1, 1) := by decide +kernel
theorem dX2_does_98 : decode cX2_does 98 = .ok (.ireturn, 1) := by decide +kernel
theorem dX2_does_99 : decode cX2_does 99 = .ok (.aload_n 1, 1) := by decide +kernel
theorem dX2_does_100 : decode cX2_does 100 = .ok (.iload 4, 2) := by decide +kernel
theorem dX2_does_102 : decode cX2_does 102 = .ok (.iload 5, 2) := by decide +kernel
theorem dX2_does_104 : decode cX2_does 104 = .ok (.invokevirtual 101, 3) := by decide +kernel
theorem dX2_does_107 : decode cX2_does 107 = .ok (.ireturn, 1) := by decide +kernel
theorem dX2_does_108 : decode cX2_does 108 = .ok (.aload_n 1, 1) := by decide +kernel
theorem dX2_does_109 : decode cX2_does 109 = .ok (.iload 4, 2) := by decide +kernel
theorem dX2_does_111 : decode cX2_does 111 = .ok (.iload 5, 2) := by decide +kernel
theorem dX2_does_113 : decode cX2_does 113 = .ok (.iconst 1, 1) := by decide +kernel
theorem dX2_does_114 : decode cX2_does 114 = .ok (.invokevirtual 105, 3) := by decide +kernel
theorem dX2_does_117 : decode cX2_does 117 = .ok (.ireturn, 1) := by decide +kernel
theorem dX2_does_118 : decode cX2_does 118 = .ok (.aload_n 1, 1) := by decide +kernel
theorem dX2_does_119 : decode cX2_does 119 = .ok (.iload 4, 2) := by decide +kernel
theorem dX2_does_121 : decode cX2_does 121 = .ok (.iload 5, 2) := by decide +kernel
theorem dX2_does_123 : decode cX2_does 123 = .ok (.iconst 0, 1) := by decide +kernel
theorem dX2_does_124 : decode cX2_does 124 = .ok (.invokevirtual 105, 3) := by decide +kernel
theorem dX2_does_127 : decode cX2_does 127 = .ok (.ireturn, 1) := by decide +kernel
theorem dX2_does_128 : decode cX2_does 128 = .ok (.aload_n 1, 1) := by decide +kernel
theorem dX2_does_129 : decode cX2_does 129 = .ok (.invokevirtual 109, 3) := by decide +kernel
theorem dX2_does_132 : decode cX2_does 132 = .ok (.ireturn, 1) := by decide +kernel
theorem dX2_does_133 : decode cX2_does 133 = .ok (.aload_n 0, 1) := by decide +kernel
theorem dX2_does_134 : decode cX2_does 134 = .ok (.aload_n 1, 1) := by decide +kernel
theorem dX2_does_135 : decode cX2_does 135 = .ok (.invokevirtual 112, 3) := by decide +kernel
theorem dX2_does_138 : decode cX2_does 138 = .ok (.ireturn, 1) := by decide +kernel
theorem dX2_does_139 : decode cX2_does 139 = .ok (.aload_n 0, 1) := by decide +kernel
theorem dX2_does_140 : decode cX2_does 140 = .ok (.iconst 1, 1) := by decide +kernel
theorem dX2_does_141 : decode cX2_does 141 = .ok (.putfield 32, 3) := by decide +kernel
theorem dX2_does_144 : decode cX2_does 144 = .ok (.iconst 1, 1) := by decide +kernel
theorem dX2_does_145 : decode cX2_does 145 = .ok (.ireturn, 1) := by decide +kernel
set_option maxRecDepth 20000 in
theorem ggX2_feedsAny_X0_countOf : GoodIn wsX2_feedsAny wsX0_countOf := goodIn_r _ [5, 6, 29, 30, 31, 32, 33, 34, 35, 36, 37, 38, 39, 40, 41, 42] (by decide +kernel) (by decide +kernel)
set_option maxRecDepth 20000 in
theorem gX2_feedsAny_X0_countOf : GoodIn wsX2_feedsAny (wsV RX2 116 RX0 yX0_countOf wsX0_countOf) := goodIn_app (goodIn_of _ (by decide +kernel)) ggX2_feedsAny_X0_countOf
set_option maxRecDepth 20000 in
theorem ggX2_feedsAny_X2_draw : GoodIn wsX2_feedsAny wsX2_draw := goodIn_r _ [11, 12, 13, 43, 44, 45, 46, 47, 48, 49] (by decide +kernel) (by decide +kernel)
set_option maxRecDepth 20000 in
theorem gX2_feedsAny_X2_draw : GoodIn wsX2_feedsAny (wsV RX2 119 RX2 yX2_draw wsX2_draw) := goodIn_app (goodIn_of _ (by decide +kernel)) ggX2_feedsAny_X2_draw
set_option maxRecDepth 20000 in
theorem ggX2_feedsAny_X0_feedPerson : GoodIn wsX2_feedsAny wsX0_feedPerson := goodIn_r _ [17, 18, 19, 20, 21, 22, 23, 24, 25, 4, 26, 27, 28, 50, 51, 52, 53, 54, 29, 30, 31, 32, 33, 34, 35, 36, 37, 38, 39, 40, 41, 42] (by decide +kernel) (by decide +kernel)
set_option maxRecDepth 20000 in
theorem gX2_feedsAny_X0_feedPerson : GoodIn wsX2_feedsAny (wsV RX2 101 RX0 yX0_feedPerson wsX0_feedPerson) := goodIn_app (goodIn_of _ (by decide +kernel)) ggX2_feedsAny_X0_feedPerson
theorem dX2_feedsAny_0 : decode cX2_feedsAny 0 = .ok (.aload_n 1, 1) := by decide +kernel
theorem dX2_feedsAny_1 : decode cX2_feedsAny 1 = .ok (.iconst 3, 1) := by decide +kernel
theorem dX2_feedsAny_2 : decode cX2_feedsAny 2 = .ok (.invokevirtual 116, 3) := by decide +kernel
theorem dX2_feedsAny_5 : decode cX2_feedsAny 5 = .ok (.ifCond .gt 5, 3) := by decide +kernel
theorem dX2_feedsAny_8 : decode cX2_feedsAny 8 = .ok (.iconst 0, 1) := by decide +kernel
theorem dX2_feedsAny_9 : decode cX2_feedsAny 9 = .ok (.ireturn, 1) := by decide +kernel
theorem dX2_feedsAny_10 : decode cX2_feedsAny 10 = .ok (.aload_n 0, 1) := by decide +kernel
theorem dX2_feedsAny_11 : decode cX2_feedsAny 11 = .ok (.aload_n 1, 1) := by decide +kernel
theorem dX2_feedsAny_12 : decode cX2_feedsAny 12 = .ok (.iconst 3, 1) := by decide +kernel
theorem dX2_feedsAny_13 : decode cX2_feedsAny 13 = .ok (.invokevirtual 116, 3) := by decide +kernel
theorem dX2_feedsAny_16 : decode cX2_feedsAny 16 = .ok (.invokevirtual 119, 3) := by decide +kernel
theorem dX2_feedsAny_19 : decode cX2_feedsAny 19 = .ok (.istore_n 2, 1) := by decide +kernel
theorem dX2_feedsAny_20 : decode cX2_feedsAny 20 = .ok (.aload_n 0, 1) := by decide +kernel
theorem dX2_feedsAny_21 : decode cX2_feedsAny 21 = .ok (.iconst 4, 1) := by decide +kernel
theorem dX2_feedsAny_22 : decode cX2_feedsAny 22 = .ok (.invokevirtual 119, 3) := by decide +kernel
theorem dX2_feedsAny_25 : decode cX2_feedsAny 25 = .ok (.istore_n 3, 1) := by decide +kernel
theorem dX2_feedsAny_26 : decode cX2_feedsAny 26 = .ok (.iload_n 3, 1) := by decide +kernel
theorem dX2_feedsAny_27 : decode cX2_feedsAny 27 = .ok (.ifCond .le 16, 3) := by decide +kernel
theorem dX2_feedsAny_30 : decode cX2_feedsAny 30 = .ok (.aload_n 1, 1) := by decide +kernel
theorem dX2_feedsAny_31 : decode cX2_feedsAny 31 = .ok (.iload_n 2, 1) := by decide +kernel
theorem dX2_feedsAny_32 : decode cX2_feedsAny 32 = .ok (.iload_n 3, 1) := by decide +kernel
theorem dX2_feedsAny_33 : decode cX2_feedsAny 33 = .ok (.invokevirtual 101, 3) := by decide +kernel
theorem dX2_feedsAny_36 : decode cX2_feedsAny 36 = .ok (.ifCond .eq 7, 3) := by decide +kernel
theorem dX2_feedsAny_39 : decode cX2_feedsAny 39 = .ok (.iconst 1, 1) := by decide +kernel
theorem dX2_feedsAny_40 : decode cX2_feedsAny 40 = .ok (.goto 4, 3) := by decide +kernel
theorem dX2_feedsAny_43 : decode cX2_feedsAny 43 = .ok (.iconst 0, 1) := by decide +kernel
theorem dX2_feedsAny_44 : decode cX2_feedsAny 44 = .ok (.ireturn, 1) := by decide +kernel
theorem dX2_draw_0 : decode cX2_draw 0 = .ok (.aload_n 0, 1) := by decide +kernel
theorem dX2_draw_1 : decode cX2_draw 1 = .ok (.aload_n 0, 1) := by decide +kernel
theorem dX2_draw_2 : decode cX2_draw 2 = .ok (.getfield 19, 3) := by decide +kernel
theorem dX2_draw_5 : decode cX2_draw 5 = .ok (.sipush 3181, 3) := by decide +kernel
theorem dX2_draw_8 : decode cX2_draw 8 = .ok (.imul, 1) := by decide +kernel
theorem dX2_draw_9 : decode cX2_draw 9 = .ok (.sipush 11399, 3) := by decide +kernel
theorem dX2_draw_12 : decode cX2_draw 12 = .ok (.iadd, 1) := by decide +kernel
theorem dX2_draw_13 : decode cX2_draw 13 = .ok (.ldc 122, 2) := by decide +kernel
theorem dX2_draw_15 : decode cX2_draw 15 = .ok (.irem, 1) := by decide +kernel
theorem dX2_draw_16 : decode cX2_draw 16 = .ok (.putfield 19, 3) := by decide +kernel
theorem dX2_draw_19 : decode cX2_draw 19 = .ok (.iload_n 1, 1) := by decide +kernel
theorem dX2_draw_20 : decode cX2_draw 20 = .ok (.ifCond .le 15, 3) := by decide +kernel
theorem dX2_draw_23 : decode cX2_draw 23 = .ok (.aload_n 0, 1) := by decide +kernel
theorem dX2_draw_24 : decode cX2_draw 24 = .ok (.getfield 19, 3) := by decide +kernel
theorem dX2_draw_27 : decode cX2_draw 27 = .ok (.bipush 8, 2) := by decide +kernel
theorem dX2_draw_29 : decode cX2_draw 29 = .ok (.idiv, 1) := by decide +kernel
theorem dX2_draw_30 : decode cX2_draw 30 = .ok (.iload_n 1, 1) := by decide +kernel
theorem dX2_draw_31 : decode cX2_draw 31 = .ok (.irem, 1) := by decide +kernel
theorem dX2_draw_32 : decode cX2_draw 32 = .ok (.goto 4, 3) := by decide +kernel
theorem dX2_draw_35 : decode cX2_draw 35 = .ok (.iconst 0, 1) := by decide +kernel
theorem dX2_draw_36 : decode cX2_draw 36 = .ok (.ireturn, 1) := by decide +kernel
theorem dX3_init_0 : decode cX3_init 0 = .ok (.aload_n 0, 1) := by decide +kernel
theorem dX3_init_1 : decode cX3_init 1 = .ok (.invokespecial 3, 3) := by decide +kernel
theorem dX3_init_4 : decode cX3_init 4 = .ok (.aload_n 0, 1) := by decide +kernel
theorem dX3_init_5 : decode cX3_init 5 = .ok (.bipush 64, 2) := by decide +kernel
theorem dX3_init_7 : decode cX3_init 7 = .ok (.newarray .int, 2) := by decide +kernel
theorem dX3_init_9 : decode cX3_init 9 = .ok (.putfield 9, 3) := by decide +kernel
theorem dX3_init_12 : decode cX3_init 12 = .ok (.aload_n 0, 1) := by decide +kernel
theorem dX3_init_13 : decode cX3_init 13 = .ok (.bipush 6, 2) := by decide +kernel
theorem dX3_init_15 : decode cX3_init 15 = .ok (.newarray .int, 2) := by decide +kernel
theorem dX3_init_17 : decode cX3_init 17 = .ok (.putfield 15, 3) := by decide +kernel
theorem dX3_init_20 : decode cX3_init 20 = .ok (.aload_n 0, 1) := by decide +kernel
theorem dX3_init_21 : decode cX3_init 21 = .ok (.iconst 0, 1) := by decide +kernel
theorem dX3_init_22 : decode cX3_init 22 = .ok (.putfield 18, 3) := by decide +kernel
theorem dX3_init_25 : decode cX3_init 25 = .ok (.return_, 1) := by decide +kernel
set_option maxRecDepth 20000 in
theorem ggX3_settle_X0_setOfFate : GoodIn wsX3_settle wsX0_setOfFate := goodIn_r _ [8, 9, 10, 11, 12, 7, 13, 14, 15, 16, 17, 18, 19, 20, 102, 103, 104, 105, 106, 107, 108, 109, 110, 111, 112, 113, 114, 115, 116, 117, 118, 119, 120] (by decide +kernel) (by decide +kernel)
set_option maxRecDepth 20000 in
theorem gX3_settle_X0_setOfFate : GoodIn wsX3_settle (wsV RX3 22 RX0 yX0_setOfFate wsX0_setOfFate) := goodIn_app (goodIn_of _ (by decide +kernel)) ggX3_settle_X0_setOfFate
set_option maxRecDepth 20000 in
theorem ggX3_settle_J6_bitCount_0f7a4 : GoodIn wsX3_settle wsJ6_bitCount_0f7a4 := goodIn_r _ [24, 25, 26, 27] (by decide +kernel) (by decide +kernel)
set_option maxRecDepth 20000 in
theorem gX3_settle_J6_bitCount_0f7a4 : GoodIn wsX3_settle (va_wsS RX3 28 yJ6_bitCount_0f7a4 wsJ6_bitCount_0f7a4) := goodIn_app (goodIn_of _ (by decide +kernel)) ggX3_settle_J6_bitCount_0f7a4
set_option maxRecDepth 20000 in
theorem ggX3_settle_X3_mostFrom : GoodIn wsX3_settle wsX3_mostFrom := goodIn_r _ [32, 33, 34, 35, 36, 37, 11, 12, 7, 13, 14, 38, 39, 40, 41, 42, 43, 31, 44, 45, 46, 47, 48, 2, 21, 22, 23, 24, 25, 26, 27, 49, 50, 51, 52, 53, 54, 55, 56, 57, 58, 59, 60, 15, 16, 17, 18, 19, 20, 61, 62, 63, 64, 10, 65, 66, 67, 68, 69, 70, 71, 72, 73, 74, 75, 76, 77, 78, 79, 80, 81, 82, 83, 84, 85, 86, 87, 88, 89, 90, 91, 92, 107, 108, 109, 110, 111, 112, 113, 114, 115, 116, 117, 118, 119, 120, 99, 100, 101, 102, 103, 104, 105, 106, 121, 122, 123, 124, 125, 126, 127, 128, 129] (by decide +kernel) (by decide +kernel)
set_option maxRecDepth 20000 in
theorem gX3_settle_X3_mostFrom : GoodIn wsX3_settle (wsV RX3 33 RX3 yX3_mostFrom wsX3_mostFrom) := goodIn_app (goodIn_of _ (by decide +kernel)) ggX3_settle_X3_mostFrom
set_option maxRecDepth 20000 in
theorem ggX3_settle_X11_put : GoodIn wsX3_settle wsX11_put := goodIn_r _ [94] (by decide +kernel) (by decide +kernel)
set_option maxRecDepth 20000 in
theorem gX3_settle_X11_put_n37 : GoodIn wsX3_settle (wsX11_put) := ggX3_settle_X11_put
set_option maxRecDepth 20000 in
theorem ggX3_settle_X3_firstOfBest : GoodIn wsX3_settle wsX3_firstOfBest := goodIn_r _ [98, 2, 37, 11, 12, 7, 13, 14, 38, 39, 40, 41, 42, 43, 31, 44, 45, 46, 47, 35, 48, 21, 22, 23, 24, 25, 26, 27, 49, 50, 51, 52, 53, 54, 55, 56, 57, 58, 59, 60, 15, 16, 17, 18, 19, 20, 61, 62, 63, 64, 10, 65, 66, 67, 68, 69, 70, 71, 72, 73, 74, 75, 76, 77, 78, 79, 80, 81, 82, 83, 84, 85, 86, 87, 88, 89, 90, 91, 92, 99, 100, 101, 107, 108, 109, 110, 111, 112, 113, 114, 115, 116, 117, 118, 119, 120, 102, 103, 104, 105, 106, 121, 122, 123, 124, 125, 126, 127, 128, 129] (by decide +kernel) (by decide +kernel)
set_option maxRecDepth 20000 in
theorem gX3_settle_X3_firstOfBest : GoodIn wsX3_settle (wsV RX3 41 RX3 yX3_firstOfBest wsX3_firstOfBest) := goodIn_app (goodIn_of _ (by decide +kernel)) ggX3_settle_X3_firstOfBest
theorem dX3_settle_0 : decode cX3_settle 0 = .ok (.aload_n 1, 1) := by decide +kernel
theorem dX3_settle_1 : decode cX3_settle 1 = .ok (.iconst 0, 1) := by decide +kernel
theorem dX3_settle_2 : decode cX3_settle 2 = .ok (.invokevirtual 22, 3) := by decide +kernel
theorem dX3_settle_5 : decode cX3_settle 5 = .ok (.istore_n 2, 1) := by decide +kernel
theorem dX3_settle_6 : decode cX3_settle 6 = .ok (.aload_n 0, 1) := by decide +kernel
theorem dX3_settle_7 : decode cX3_settle 7 = .ok (.iload_n 2, 1) := by decide +kernel
theorem dX3_settle_8 : decode cX3_settle 8 = .ok (.invokestatic 28, 3) := by decide +kernel
theorem dX3_settle_11 : decode cX3_settle 11 = .ok (.putfield 18, 3) := by decide +kernel
theorem dX3_settle_14 : decode cX3_settle 14 = .ok (.iload_n 2, 1) := by decide +kernel
theorem dX3_settle_15 : decode cX3_settle 15 = .ok (.istore_n 3, 1) := by decide +kernel
theorem dX3_settle_16 : decode cX3_settle 16 = .ok (.iload_n 3, 1) := by decide +kernel
theorem dX3_settle_17 : decode cX3_settle 17 = .ok (.ifCond .lt 32, 3) := by decide +kernel
theorem dX3_settle_20 : decode cX3_settle 20 = .ok (.iload_n 3, 1) := by decide +kernel
theorem dX3_settle_21 : decode cX3_settle 21 = .ok (.iload_n 2, 1) := by decide +kernel
theorem dX3_settle_22 : decode cX3_settle 22 = .ok (.iconst (-1), 1) := by decide +kernel
theorem dX3_settle_23 : decode cX3_settle 23 = .ok (.ixor, 1) := by decide +kernel
theorem dX3_settle_24 : decode cX3_settle 24 = .ok (.iand, 1) := by decide +kernel
theorem dX3_settle_25 : decode cX3_settle 25 = .ok (.ifCond .ne 18, 3) := by decide +kernel
theorem dX3_settle_28 : decode cX3_settle 28 = .ok (.aload_n 0, 1) := by decide +kernel
theorem dX3_settle_29 : decode cX3_settle 29 = .ok (.getfield 9, 3) := by decide +kernel
theorem dX3_settle_32 : decode cX3_settle 32 = .ok (.iload_n 3, 1) := by decide +kernel
theorem dX3_settle_33 : decode cX3_settle 33 = .ok (.aload_n 0, 1) := by decide +kernel
theorem dX3_settle_34 : decode cX3_settle 34 = .ok (.aload_n 1, 1) := by decide +kernel
theorem dX3_settle_35 : decode cX3_settle 35 = .ok (.iload_n 2, 1) := by decide +kernel
theorem dX3_settle_36 : decode cX3_settle 36 = .ok (.iload_n 3, 1) := by decide +kernel
theorem dX3_settle_37 : decode cX3_settle 37 = .ok (.invokevirtual 33, 3) := by decide +kernel
theorem dX3_settle_40 : decode cX3_settle 40 = .ok (.invokestatic 37, 3) := by decide +kernel
theorem dX3_settle_43 : decode cX3_settle 43 = .ok (.iinc 3 (-1), 3) := by decide +kernel
theorem dX3_settle_46 : decode cX3_settle 46 = .ok (.goto (-30), 3) := by decide +kernel
theorem dX3_settle_49 : decode cX3_settle 49 = .ok (.iconst 0, 1) := by decide +kernel
theorem dX3_settle_50 : decode cX3_settle 50 = .ok (.istore_n 3, 1) := by decide +kernel
theorem dX3_settle_51 : decode cX3_settle 51 = .ok (.iconst 0, 1) := by decide +kernel
theorem dX3_settle_52 : decode cX3_settle 52 = .ok (.istore 4, 2) := by decide +kernel
theorem dX3_settle_54 : decode cX3_settle 54 = .ok (.iload 4, 2) := by decide +kernel
theorem dX3_settle_56 : decode cX3_settle 56 = .ok (.aload_n 0, 1) := by decide +kernel
theorem dX3_settle_57 : decode cX3_settle 57 = .ok (.getfield 18, 3) := by decide +kernel
theorem dX3_settle_60 : decode cX3_settle 60 = .ok (.if_icmp .ge 36, 3) := by decide +kernel
theorem dX3_settle_63 : decode cX3_settle 63 = .ok (.aload_n 0, 1) := by decide +kernel
theorem dX3_settle_64 : decode cX3_settle 64 = .ok (.aload_n 1, 1) := by decide +kernel
theorem dX3_settle_65 : decode cX3_settle 65 = .ok (.iload_n 2, 1) := by decide +kernel
theorem dX3_settle_66 : decode cX3_settle 66 = .ok (.iload_n 3, 1) := by decide +kernel
theorem dX3_settle_67 : decode cX3_settle 67 = .ok (.invokevirtual 41, 3) := by decide +kernel
theorem dX3_settle_70 : decode cX3_settle 70 = .ok (.istore 5, 2) := by decide +kernel
theorem dX3_settle_72 : decode cX3_settle 72 = .ok (.aload_n 0, 1) := by decide +kernel
theorem dX3_settle_73 : decode cX3_settle 73 = .ok (.getfield 15, 3) := by decide +kernel
theorem dX3_settle_76 : decode cX3_settle 76 = .ok (.iload 4, 2) := by decide +kernel
theorem dX3_settle_78 : decode cX3_settle 78 = .ok (.iload 5, 2) := by decide +kernel
theorem dX3_settle_80 : decode cX3_settle 80 = .ok (.invokestatic 37, 3) := by decide +kernel
theorem dX3_settle_83 : decode cX3_settle 83 = .ok (.iload_n 3, 1) := by decide +kernel
theorem dX3_settle_84 : decode cX3_settle 84 = .ok (.iconst 1, 1) := by decide +kernel
theorem dX3_settle_85 : decode cX3_settle 85 = .ok (.iload 5, 2) := by decide +kernel
theorem dX3_settle_87 : decode cX3_settle 87 = .ok (.ishl, 1) := by decide +kernel
theorem dX3_settle_88 : decode cX3_settle 88 = .ok (.ior, 1) := by decide +kernel
theorem dX3_settle_89 : decode cX3_settle 89 = .ok (.istore_n 3, 1) := by decide +kernel
theorem dX3_settle_90 : decode cX3_settle 90 = .ok (.iinc 4 1, 3) := by decide +kernel
theorem dX3_settle_93 : decode cX3_settle 93 = .ok (.goto (-39), 3) := by decide +kernel
theorem dX3_settle_96 : decode cX3_settle 96 = .ok (.return_, 1) := by decide +kernel
set_option maxRecDepth 20000 in
theorem ggX3_mostFree_X11_cell : GoodIn wsX3_mostFree wsX11_cell := goodIn_r _ [4] (by decide +kernel) (by decide +kernel)
set_option maxRecDepth 20000 in
theorem gX3_mostFree_X11_cell_n44 : GoodIn wsX3_mostFree (wsX11_cell) := ggX3_mostFree_X11_cell
theorem dX3_mostFree_0 : decode cX3_mostFree 0 = .ok (.aload_n 0, 1) := by decide +kernel
theorem dX3_mostFree_1 : decode cX3_mostFree 1 = .ok (.getfield 9, 3) := by decide +kernel
theorem dX3_mostFree_4 : decode cX3_mostFree 4 = .ok (.iconst 0, 1) := by decide +kernel
theorem dX3_mostFree_5 : decode cX3_mostFree 5 = .ok (.invokestatic 44, 3) := by decide +kernel
theorem dX3_mostFree_8 : decode cX3_mostFree 8 = .ok (.ireturn, 1) := by decide +kernel
set_option maxRecDepth 20000 in
theorem ggX3_mostFrom_X0_countOf : GoodIn wsX3_mostFrom wsX0_countOf := goodIn_r _ [9, 10, 82, 83, 84, 85, 86, 87, 88, 89, 90, 91, 92, 93, 94, 95] (by decide +kernel) (by decide +kernel)
set_option maxRecDepth 20000 in
theorem gX3_mostFrom_X0_countOf : GoodIn wsX3_mostFrom (wsV RX3 48 RX0 yX0_countOf wsX0_countOf) := goodIn_app (goodIn_of _ (by decide +kernel)) ggX3_mostFrom_X0_countOf
set_option maxRecDepth 20000 in
theorem ggX3_mostFrom_X11_isIn : GoodIn wsX3_mostFrom wsX11_isIn := goodIn_r _ [13] (by decide +kernel) (by decide +kernel)
set_option maxRecDepth 20000 in
theorem gX3_mostFrom_X11_isIn_n51 : GoodIn wsX3_mostFrom (wsX11_isIn) := ggX3_mostFrom_X11_isIn
set_option maxRecDepth 20000 in
theorem ggX3_mostFrom_X3_freeWith : GoodIn wsX3_mostFrom wsX3_freeWith := goodIn_r _ [18, 19, 20, 21, 3, 22, 23, 24, 25, 26, 27, 28, 29, 30, 31, 32, 33, 8, 34, 35, 36, 37, 38, 39, 40, 41, 42, 43, 44, 45, 46, 47, 48, 49, 50, 51, 52, 53, 6, 7, 9, 10, 54, 55, 56, 57, 58, 59, 60, 61, 62, 63, 64, 65, 66, 67, 68, 69, 70, 71, 72, 73, 74, 75, 76, 77, 78, 79, 80, 12, 81, 82, 83, 84, 85, 86, 87, 88, 89, 90, 91, 92, 93, 94, 95, 96, 97, 98, 99, 100, 101, 102, 103, 104, 105, 106, 107, 108, 109, 110, 111, 112] (by decide +kernel) (by decide +kernel)
set_option maxRecDepth 20000 in
theorem gX3_mostFrom_X3_freeWith : GoodIn wsX3_mostFrom (wsV RX3 55 RX3 yX3_freeWith wsX3_freeWith) := goodIn_app (goodIn_of _ (by decide +kernel)) ggX3_mostFrom_X3_freeWith
theorem dX3_mostFrom_0 : decode cX3_mostFrom 0 = .ok (.iconst 0, 1) := by decide +kernel
theorem dX3_mostFrom_1 : decode cX3_mostFrom 1 = .ok (.istore 4, 2) := by decide +kernel
theorem dX3_mostFrom_3 : decode cX3_mostFrom 3 = .ok (.iconst 0, 1) := by decide +kernel
theorem dX3_mostFrom_4 : decode cX3_mostFrom 4 = .ok (.istore 5, 2) := by decide +kernel
theorem dX3_mostFrom_6 : decode cX3_mostFrom 6 = .ok (.iload 5, 2) := by decide +kernel
theorem dX3_mostFrom_8 : decode cX3_mostFrom 8 = .ok (.aload_n 1, 1) := by decide +kernel
theorem dX3_mostFrom_9 : decode cX3_mostFrom 9 = .ok (.iconst 3, 1) := by decide +kernel
theorem dX3_mostFrom_10 : decode cX3_mostFrom 10 = .ok (.invokevirtual 48, 3) := by decide +kernel
theorem dX3_mostFrom_13 : decode cX3_mostFrom 13 = .ok (.if_icmp .ge 37, 3) := by decide +kernel
theorem dX3_mostFrom_16 : decode cX3_mostFrom 16 = .ok (.iload_n 2, 1) := by decide +kernel
theorem dX3_mostFrom_17 : decode cX3_mostFrom 17 = .ok (.iload_n 3, 1) := by decide +kernel
theorem dX3_mostFrom_18 : decode cX3_mostFrom 18 = .ok (.iconst (-1), 1) := by decide +kernel
theorem dX3_mostFrom_19 : decode cX3_mostFrom 19 = .ok (.ixor, 1) := by decide +kernel
theorem dX3_mostFrom_20 : decode cX3_mostFrom 20 = .ok (.iand, 1) := by decide +kernel
theorem dX3_mostFrom_21 : decode cX3_mostFrom 21 = .ok (.iload 5, 2) := by decide +kernel
theorem dX3_mostFrom_23 : decode cX3_mostFrom 23 = .ok (.invokestatic 51, 3) := by decide +kernel
theorem dX3_mostFrom_26 : decode cX3_mostFrom 26 = .ok (.ifCond .eq 18, 3) := by decide +kernel
theorem dX3_mostFrom_29 : decode cX3_mostFrom 29 = .ok (.iload 4, 2) := by decide +kernel
theorem dX3_mostFrom_31 : decode cX3_mostFrom 31 = .ok (.aload_n 0, 1) := by decide +kernel
theorem dX3_mostFrom_32 : decode cX3_mostFrom 32 = .ok (.aload_n 1, 1) := by decide +kernel
theorem dX3_mostFrom_33 : decode cX3_mostFrom 33 = .ok (.iload_n 3, 1) := by decide +kernel
theorem dX3_mostFrom_34 : decode cX3_mostFrom 34 = .ok (.iload 5, 2) := by decide +kernel
theorem dX3_mostFrom_36 : decode cX3_mostFrom 36 = .ok (.invokevirtual 55, 3) := by decide +kernel
theorem dX3_mostFrom_39 : decode cX3_mostFrom 39 = .ok (.invokestatic 58, 3) := by decide +kernel
theorem dX3_mostFrom_42 : decode cX3_mostFrom 42 = .ok (.istore 4, 2) := by decide +kernel
theorem dX3_mostFrom_44 : decode cX3_mostFrom 44 = .ok (.iinc 5 1, 3) := by decide +kernel
theorem dX3_mostFrom_47 : decode cX3_mostFrom 47 = .ok (.goto (-41), 3) := by decide +kernel
theorem dX3_mostFrom_50 : decode cX3_mostFrom 50 = .ok (.iload 4, 2) := by decide +kernel
theorem dX3_mostFrom_52 : decode cX3_mostFrom 52 = .ok (.ireturn, 1) := by decide +kernel
set_option maxRecDepth 20000 in
theorem ggX3_firstOfBest_X0_countOf : GoodIn wsX3_firstOfBest wsX0_countOf := goodIn_r _ [6, 7, 82, 83, 84, 85, 86, 87, 88, 89, 90, 91, 92, 93, 94, 95] (by decide +kernel) (by decide +kernel)
set_option maxRecDepth 20000 in
theorem gX3_firstOfBest_X0_countOf : GoodIn wsX3_firstOfBest (wsV RX3 48 RX0 yX0_countOf wsX0_countOf) := goodIn_app (goodIn_of _ (by decide +kernel)) ggX3_firstOfBest_X0_countOf
set_option maxRecDepth 20000 in
theorem ggX3_firstOfBest_X11_isIn : GoodIn wsX3_firstOfBest wsX11_isIn := goodIn_r _ [10] (by decide +kernel) (by decide +kernel)
set_option maxRecDepth 20000 in
theorem gX3_firstOfBest_X11_isIn_n51 : GoodIn wsX3_firstOfBest (wsX11_isIn) := ggX3_firstOfBest_X11_isIn
set_option maxRecDepth 20000 in
theorem ggX3_firstOfBest_X3_freeWith : GoodIn wsX3_firstOfBest wsX3_freeWith := goodIn_r _ [15, 16, 17, 18, 19, 20, 1, 21, 22, 23, 24, 25, 26, 27, 28, 29, 30, 5, 31, 32, 33, 34, 35, 36, 37, 38, 39, 40, 41, 42, 43, 44, 45, 46, 47, 48, 49, 50, 3, 4, 6, 7, 51, 52, 53, 54, 55, 56, 57, 58, 59, 60, 61, 62, 63, 64, 65, 66, 67, 68, 69, 70, 71, 72, 73, 74, 75, 76, 77, 9, 78, 82, 83, 84, 85, 86, 87, 88, 89, 90, 91, 92, 93, 94, 95, 79, 80, 81, 96, 97, 98, 99, 100, 101, 102, 103, 104, 105, 106, 107, 108, 109] (by decide +kernel) (by decide +kernel)
set_option maxRecDepth 20000 in
theorem gX3_firstOfBest_X3_freeWith : GoodIn wsX3_firstOfBest (wsV RX3 55 RX3 yX3_freeWith wsX3_freeWith) := goodIn_app (goodIn_of _ (by decide +kernel)) ggX3_firstOfBest_X3_freeWith
set_option maxRecDepth 20000 in
theorem ggX3_firstOfBest_X11_cell : GoodIn wsX3_firstOfBest wsX11_cell := goodIn_r _ [78] (by decide +kernel) (by decide +kernel)
set_option maxRecDepth 20000 in
theorem gX3_firstOfBest_X11_cell_n44 : GoodIn wsX3_firstOfBest (wsX11_cell) := ggX3_firstOfBest_X11_cell
theorem dX3_firstOfBest_0 : decode cX3_firstOfBest 0 = .ok (.iconst 0, 1) := by decide +kernel
theorem dX3_firstOfBest_1 : decode cX3_firstOfBest 1 = .ok (.istore 4, 2) := by decide +kernel
theorem dX3_firstOfBest_3 : decode cX3_firstOfBest 3 = .ok (.iload 4, 2) := by decide +kernel
theorem dX3_firstOfBest_5 : decode cX3_firstOfBest 5 = .ok (.aload_n 1, 1) := by decide +kernel
theorem dX3_firstOfBest_6 : decode cX3_firstOfBest 6 = .ok (.iconst 3, 1) := by decide +kernel
theorem dX3_firstOfBest_7 : decode cX3_firstOfBest 7 = .ok (.invokevirtual 48, 3) := by decide +kernel
theorem dX3_firstOfBest_10 : decode cX3_firstOfBest 10 = .ok (.if_icmp .ge 44, 3) := by decide +kernel
theorem dX3_firstOfBest_13 : decode cX3_firstOfBest 13 = .ok (.iload_n 2, 1) := by decide +kernel
theorem dX3_firstOfBest_14 : decode cX3_firstOfBest 14 = .ok (.iload_n 3, 1) := by decide +kernel
theorem dX3_firstOfBest_15 : decode cX3_firstOfBest 15 = .ok (.iconst (-1), 1) := by decide +kernel
theorem dX3_firstOfBest_16 : decode cX3_firstOfBest 16 = .ok (.ixor, 1) := by decide +kernel
theorem dX3_firstOfBest_17 : decode cX3_firstOfBest 17 = .ok (.iand, 1) := by decide +kernel
theorem dX3_firstOfBest_18 : decode cX3_firstOfBest 18 = .ok (.iload 4, 2) := by decide +kernel
theorem dX3_firstOfBest_20 : decode cX3_firstOfBest 20 = .ok (.invokestatic 51, 3) := by decide +kernel
theorem dX3_firstOfBest_23 : decode cX3_firstOfBest 23 = .ok (.ifCond .eq 25, 3) := by decide +kernel
theorem dX3_firstOfBest_26 : decode cX3_firstOfBest 26 = .ok (.aload_n 0, 1) := by decide +kernel
theorem dX3_firstOfBest_27 : decode cX3_firstOfBest 27 = .ok (.aload_n 1, 1) := by decide +kernel
theorem dX3_firstOfBest_28 : decode cX3_firstOfBest 28 = .ok (.iload_n 3, 1) := by decide +kernel
theorem dX3_firstOfBest_29 : decode cX3_firstOfBest 29 = .ok (.iload 4, 2) := by decide +kernel
theorem dX3_firstOfBest_31 : decode cX3_firstOfBest 31 = .ok (.invokevirtual 55, 3) := by decide +kernel
theorem dX3_firstOfBest_34 : decode cX3_firstOfBest 34 = .ok (.aload_n 0, 1) := by decide +kernel
theorem dX3_firstOfBest_35 : decode cX3_firstOfBest 35 = .ok (.getfield 9, 3) := by decide +kernel
theorem dX3_firstOfBest_38 : decode cX3_firstOfBest 38 = .ok (.iload_n 3, 1) := by decide +kernel
theorem dX3_firstOfBest_39 : decode cX3_firstOfBest 39 = .ok (.invokestatic 44, 3) := by decide +kernel
theorem dX3_firstOfBest_42 : decode cX3_firstOfBest 42 = .ok (.if_icmp .ne 6, 3) := by decide +kernel
theorem dX3_firstOfBest_45 : decode cX3_firstOfBest 45 = .ok (.iload 4, 2) := by decide +kernel
theorem dX3_firstOfBest_47 : decode cX3_firstOfBest 47 = .ok (.ireturn, 1) := by decide +kernel
theorem dX3_firstOfBest_48 : decode cX3_firstOfBest 48 = .ok (.iinc 4 1, 3) := by decide +kernel
theorem dX3_firstOfBest_51 : decode cX3_firstOfBest 51 = .ok (.goto (-48), 3) := by decide +kernel
theorem dX3_firstOfBest_54 : decode cX3_firstOfBest 54 = .ok (.iconst 0, 1) := by decide +kernel
theorem dX3_firstOfBest_55 : decode cX3_firstOfBest 55 = .ok (.ireturn, 1) := by decide +kernel
set_option maxRecDepth 20000 in
theorem ggX3_freeWith_J6_bitCount_0f7a4 : GoodIn wsX3_freeWith wsJ6_bitCount_0f7a4 := goodIn_r _ [10, 11, 12, 13] (by decide +kernel) (by decide +kernel)
set_option maxRecDepth 20000 in
theorem gX3_freeWith_J6_bitCount_0f7a4 : GoodIn wsX3_freeWith (va_wsS RX3 28 yJ6_bitCount_0f7a4 wsJ6_bitCount_0f7a4) := goodIn_app (goodIn_of _ (by decide +kernel)) ggX3_freeWith_J6_bitCount_0f7a4
set_option maxRecDepth 20000 in
theorem ggX3_freeWith_X0_senseBefore : GoodIn wsX3_freeWith wsX0_senseBefore := goodIn_r _ [18, 19, 20, 21, 17, 22, 23, 24, 25, 26, 27, 28, 29, 30, 31, 32, 33, 34, 35, 36, 37, 38, 39, 40, 41, 42, 43, 44, 45, 46, 47, 48, 49, 50, 51, 52, 53, 54, 55, 56, 57, 58, 59, 60, 61, 62, 63, 64, 65, 66, 67, 68, 69, 70, 88, 89, 90, 91, 92, 93, 94, 95, 96, 97, 98, 99, 100, 101, 71, 72, 73, 74, 75, 76, 77, 78, 79, 80, 81, 82, 83, 84] (by decide +kernel) (by decide +kernel)
set_option maxRecDepth 20000 in
theorem gX3_freeWith_X0_senseBefore : GoodIn wsX3_freeWith (wsV RX3 70 RX0 yX0_senseBefore wsX0_senseBefore) := goodIn_app (goodIn_of _ (by decide +kernel)) ggX3_freeWith_X0_senseBefore
set_option maxRecDepth 20000 in
theorem ggX3_freeWith_X11_cell : GoodIn wsX3_freeWith wsX11_cell := goodIn_r _ [70] (by decide +kernel) (by decide +kernel)
set_option maxRecDepth 20000 in
theorem gX3_freeWith_X11_cell_n44 : GoodIn wsX3_freeWith (wsX11_cell) := ggX3_freeWith_X11_cell
theorem dX3_freeWith_0 : decode cX3_freeWith 0 = .ok (.bipush 9, 2) := by decide +kernel
theorem dX3_freeWith_2 : decode cX3_freeWith 2 = .ok (.aload_n 1, 1) := by decide +kernel
theorem dX3_freeWith_3 : decode cX3_freeWith 3 = .ok (.getfield 64, 3) := by decide +kernel
theorem dX3_freeWith_6 : decode cX3_freeWith 6 = .ok (.iload_n 2, 1) := by decide +kernel
theorem dX3_freeWith_7 : decode cX3_freeWith 7 = .ok (.invokestatic 28, 3) := by decide +kernel
theorem dX3_freeWith_10 : decode cX3_freeWith 10 = .ok (.iadd, 1) := by decide +kernel
theorem dX3_freeWith_11 : decode cX3_freeWith 11 = .ok (.invokestatic 67, 3) := by decide +kernel
theorem dX3_freeWith_14 : decode cX3_freeWith 14 = .ok (.istore 4, 2) := by decide +kernel
theorem dX3_freeWith_16 : decode cX3_freeWith 16 = .ok (.aload_n 1, 1) := by decide +kernel
theorem dX3_freeWith_17 : decode cX3_freeWith 17 = .ok (.iload_n 3, 1) := by decide +kernel
theorem dX3_freeWith_18 : decode cX3_freeWith 18 = .ok (.iload 4, 2) := by decide +kernel
theorem dX3_freeWith_20 : decode cX3_freeWith 20 = .ok (.invokevirtual 70, 3) := by decide +kernel
theorem dX3_freeWith_23 : decode cX3_freeWith 23 = .ok (.iconst 2, 1) := by decide +kernel
theorem dX3_freeWith_24 : decode cX3_freeWith 24 = .ok (.if_icmp .ne 7, 3) := by decide +kernel
theorem dX3_freeWith_27 : decode cX3_freeWith 27 = .ok (.iconst 1, 1) := by decide +kernel
theorem dX3_freeWith_28 : decode cX3_freeWith 28 = .ok (.goto 4, 3) := by decide +kernel
theorem dX3_freeWith_31 : decode cX3_freeWith 31 = .ok (.iconst 0, 1) := by decide +kernel
theorem dX3_freeWith_32 : decode cX3_freeWith 32 = .ok (.istore 5, 2) := by decide +kernel
theorem dX3_freeWith_34 : decode cX3_freeWith 34 = .ok (.iload 5, 2) := by decide +kernel
theorem dX3_freeWith_36 : decode cX3_freeWith 36 = .ok (.aload_n 0, 1) := by decide +kernel
theorem dX3_freeWith_37 : decode cX3_freeWith 37 = .ok (.getfield 9, 3) := by decide +kernel
theorem dX3_freeWith_40 : decode cX3_freeWith 40 = .ok (.iload_n 2, 1) := by decide +kernel
theorem dX3_freeWith_41 : decode cX3_freeWith 41 = .ok (.iconst 1, 1) := by decide +kernel
theorem dX3_freeWith_42 : decode cX3_freeWith 42 = .ok (.iload_n 3, 1) := by decide +kernel
theorem dX3_freeWith_43 : decode cX3_freeWith 43 = .ok (.ishl, 1) := by decide +kernel
theorem dX3_freeWith_44 : decode cX3_freeWith 44 = .ok (.ior, 1) := by decide +kernel
theorem dX3_freeWith_45 : decode cX3_freeWith 45 = .ok (.invokestatic 44, 3) := by decide +kernel
theorem dX3_freeWith_48 : decode cX3_freeWith 48 = .ok (.iadd, 1) := by decide +kernel
theorem dX3_freeWith_49 : decode cX3_freeWith 49 = .ok (.ireturn, 1) := by decide +kernel
theorem dX4_init_0 : decode cX4_init 0 = .ok (.aload_n 0, 1) := by decide +kernel
theorem dX4_init_1 : decode cX4_init 1 = .ok (.invokespecial 3, 3) := by decide +kernel
theorem dX4_init_4 : decode cX4_init 4 = .ok (.aload_n 0, 1) := by decide +kernel
theorem dX4_init_5 : decode cX4_init 5 = .ok (.iconst 3, 1) := by decide +kernel
theorem dX4_init_6 : decode cX4_init 6 = .ok (.newarray .int, 2) := by decide +kernel
theorem dX4_init_8 : decode cX4_init 8 = .ok (.putfield 11, 3) := by decide +kernel
theorem dX4_init_11 : decode cX4_init 11 = .ok (.aload_n 0, 1) := by decide +kernel
theorem dX4_init_12 : decode cX4_init 12 = .ok (.iconst 0, 1) := by decide +kernel
theorem dX4_init_13 : decode cX4_init 13 = .ok (.putfield 15, 3) := by decide +kernel
theorem dX4_init_16 : decode cX4_init 16 = .ok (.aload_n 0, 1) := by decide +kernel
theorem dX4_init_17 : decode cX4_init 17 = .ok (.iconst 0, 1) := by decide +kernel
theorem dX4_init_18 : decode cX4_init 18 = .ok (.putfield 19, 3) := by decide +kernel
theorem dX4_init_21 : decode cX4_init 21 = .ok (.aload_n 0, 1) := by decide +kernel
theorem dX4_init_22 : decode cX4_init 22 = .ok (.iconst 0, 1) := by decide +kernel
theorem dX4_init_23 : decode cX4_init 23 = .ok (.putfield 22, 3) := by decide +kernel
theorem dX4_init_26 : decode cX4_init 26 = .ok (.aload_n 0, 1) := by decide +kernel
theorem dX4_init_27 : decode cX4_init 27 = .ok (.iconst 0, 1) := by decide +kernel
theorem dX4_init_28 : decode cX4_init 28 = .ok (.putfield 25, 3) := by decide +kernel
theorem dX4_init_31 : decode cX4_init 31 = .ok (.aload_n 0, 1) := by decide +kernel
theorem dX4_init_32 : decode cX4_init 32 = .ok (.aload_n 1, 1) := by decide +kernel
theorem dX4_init_33 : decode cX4_init 33 = .ok (.putfield 28, 3) := by decide +kernel
theorem dX4_init_36 : decode cX4_init 36 = .ok (.return_, 1) := by decide +kernel
set_option maxRecDepth 20000 in
theorem ggX4_readCourt_X0_clear : GoodIn wsX4_readCourt wsX0_clear := goodIn_r _ [7, 8, 9, 10, 11, 12, 13, 14, 15, 16, 17, 18, 238, 239, 240, 241, 242, 243, 244, 245, 246, 247, 248, 249, 250, 251, 252, 253, 254] (by decide +kernel) (by decide +kernel)
set_option maxRecDepth 20000 in
theorem gX4_readCourt_X0_clear : GoodIn wsX4_readCourt (wsV RX4 32 RX0 yX0_clear wsX0_clear) := goodIn_app (goodIn_of _ (by decide +kernel)) ggX4_readCourt_X0_clear
set_option maxRecDepth 20000 in
theorem ggX4_readCourt_X7_begin : GoodIn wsX4_readCourt wsX7_begin := goodIn_r _ [23, 24, 25, 26, 27, 28, 29, 30, 22, 31, 32, 33, 34, 35, 36, 37, 38, 39, 40, 41, 42, 43, 44, 45, 46, 47, 48, 49, 50, 51, 52, 53, 54, 55, 56, 57, 58, 59, 60, 61, 62, 227, 228, 229, 230, 231, 232, 233, 234, 235, 236, 237] (by decide +kernel) (by decide +kernel)
set_option maxRecDepth 20000 in
theorem gX4_readCourt_X7_begin : GoodIn wsX4_readCourt (wsV RX4 37 RX7 yX7_begin wsX7_begin) := goodIn_app (goodIn_of _ (by decide +kernel)) ggX4_readCourt_X7_begin
set_option maxRecDepth 20000 in
theorem ggX4_readCourt_X4_beginPart : GoodIn wsX4_readCourt wsX4_beginPart := goodIn_r _ [67, 1, 68, 69, 70, 22, 71, 33, 26, 32, 27, 72, 73, 74, 6, 75, 76, 77, 78, 79, 8, 80, 81, 82, 83, 29, 30, 31, 25, 24, 34, 35, 36, 37, 38, 39, 40, 41, 42, 43, 44, 45, 46, 47, 48, 49, 50, 51, 52, 53, 54, 55, 56, 57, 58, 59, 60, 61, 62, 221, 222, 223, 224, 225, 226, 227, 228, 229, 230, 231, 232, 233, 234, 235, 236, 237, 238, 239, 240, 241, 242, 243, 244, 245, 246, 247, 248, 249, 250, 251] (by decide +kernel) (by decide +kernel)
set_option maxRecDepth 20000 in
theorem gX4_readCourt_X4_beginPart : GoodIn wsX4_readCourt (wsV RX4 46 RX4 yX4_beginPart wsX4_beginPart) := goodIn_app (goodIn_of _ (by decide +kernel)) ggX4_readCourt_X4_beginPart
set_option maxRecDepth 20000 in
theorem ggX4_readCourt_X4_readPart : GoodIn wsX4_readCourt wsX4_readPart := goodIn_r _ [87, 88, 89, 90, 66, 91, 1, 2, 92, 93, 68, 69, 70, 22, 71, 33, 26, 32, 27, 94, 95, 96, 6, 97, 98, 99, 100, 101, 102, 76, 77, 78, 79, 8, 103, 81, 104, 105, 106, 107, 108, 109, 110, 111, 112, 113, 114, 83, 29, 30, 31, 25, 24, 34, 35, 36, 37, 38, 39, 40, 41, 42, 43, 44, 45, 46, 47, 48, 49, 50, 51, 52, 53, 54, 55, 56, 57, 58, 59, 60, 61, 62, 115, 116, 117, 118, 119, 120, 121, 122, 123, 124, 125, 126, 127, 128, 129, 130, 131, 132, 133, 134, 135, 136, 137, 138, 139, 140, 141, 142, 143, 144, 145, 146, 147, 148, 149, 150, 151, 152, 153, 154, 155, 156, 157, 158, 159, 160, 161, 162, 163, 164, 165, 166, 167, 168, 169, 170, 171, 172, 173, 174, 175, 176, 177, 178, 179, 180, 181, 182, 183, 184, 185, 186, 187, 188, 189, 190, 191, 192, 193, 194, 195, 196, 197, 198, 199, 200, 201, 202, 203, 204, 205, 206, 207, 208, 209, 210, 211, 212, 213, 214, 215, 216, 217, 218, 219, 220, 221, 222, 223, 224, 225, 226, 227, 228, 229, 230, 231, 232, 233, 234, 235, 236, 237, 238, 239, 240, 241, 242, 243, 244, 245, 246, 247, 248, 249, 250, 251, 255, 256, 257, 258, 259, 260, 261, 262, 263, 264, 265, 266, 267, 268] (by decide +kernel) (by decide +kernel)
set_option maxRecDepth 20000 in
theorem gX4_readCourt_X4_readPart : GoodIn wsX4_readCourt (wsV RX4 50 RX4 yX4_readPart wsX4_readPart) := goodIn_app (goodIn_of _ (by decide +kernel)) ggX4_readCourt_X4_readPart
set_option maxRecDepth 20000 in
theorem ggX4_readCourt_X4_take : GoodIn wsX4_readCourt wsX4_take := goodIn_r _ [123, 1, 124, 125, 126, 66, 127, 2, 83, 29, 30, 22, 31, 25, 24, 32, 33, 34, 35, 36, 37, 38, 39, 40, 41, 42, 43, 44, 45, 46, 47, 48, 49, 50, 51, 52, 53, 54, 55, 56, 57, 58, 59, 60, 61, 62, 68, 69, 70, 71, 26, 27, 221, 222, 223, 224, 225, 226, 227, 228, 229, 230, 231, 232, 233, 234, 235, 236, 237] (by decide +kernel) (by decide +kernel)
set_option maxRecDepth 20000 in
theorem gX4_readCourt_X4_take : GoodIn wsX4_readCourt (wsV RX4 53 RX4 yX4_take wsX4_take) := goodIn_app (goodIn_of _ (by decide +kernel)) ggX4_readCourt_X4_take
theorem dX4_readCourt_0 : decode cX4_readCourt 0 = .ok (.aload_n 2, 1) := by decide +kernel
theorem dX4_readCourt_1 : decode cX4_readCourt 1 = .ok (.invokevirtual 32, 3) := by decide +kernel
theorem dX4_readCourt_4 : decode cX4_readCourt 4 = .ok (.aload_n 0, 1) := by decide +kernel
theorem dX4_readCourt_5 : decode cX4_readCourt 5 = .ok (.getfield 28, 3) := by decide +kernel
theorem dX4_readCourt_8 : decode cX4_readCourt 8 = .ok (.iload_n 1, 1) := by decide +kernel
theorem dX4_readCourt_9 : decode cX4_readCourt 9 = .ok (.invokevirtual 37, 3) := by decide +kernel
theorem dX4_readCourt_12 : decode cX4_readCourt 12 = .ok (.iconst 0, 1) := by decide +kernel
theorem dX4_readCourt_13 : decode cX4_readCourt 13 = .ok (.istore_n 3, 1) := by decide +kernel
theorem dX4_readCourt_14 : decode cX4_readCourt 14 = .ok (.iload_n 3, 1) := by decide +kernel
theorem dX4_readCourt_15 : decode cX4_readCourt 15 = .ok (.sipush 900, 3) := by decide +kernel
theorem dX4_readCourt_18 : decode cX4_readCourt 18 = .ok (.if_icmp .ge 61, 3) := by decide +kernel
theorem dX4_readCourt_21 : decode cX4_readCourt 21 = .ok (.aload_n 0, 1) := by decide +kernel
theorem dX4_readCourt_22 : decode cX4_readCourt 22 = .ok (.getfield 28, 3) := by decide +kernel
theorem dX4_readCourt_25 : decode cX4_readCourt 25 = .ok (.getfield 43, 3) := by decide +kernel
theorem dX4_readCourt_28 : decode cX4_readCourt 28 = .ok (.bipush 32, 2) := by decide +kernel
theorem dX4_readCourt_30 : decode cX4_readCourt 30 = .ok (.if_icmp .eq 49, 3) := by decide +kernel
theorem dX4_readCourt_33 : decode cX4_readCourt 33 = .ok (.aload_n 0, 1) := by decide +kernel
theorem dX4_readCourt_34 : decode cX4_readCourt 34 = .ok (.getfield 28, 3) := by decide +kernel
theorem dX4_readCourt_37 : decode cX4_readCourt 37 = .ok (.getfield 43, 3) := by decide +kernel
theorem dX4_readCourt_40 : decode cX4_readCourt 40 = .ok (.istore 4, 2) := by decide +kernel
theorem dX4_readCourt_42 : decode cX4_readCourt 42 = .ok (.aload_n 0, 1) := by decide +kernel
theorem dX4_readCourt_43 : decode cX4_readCourt 43 = .ok (.iload 4, 2) := by decide +kernel
theorem dX4_readCourt_45 : decode cX4_readCourt 45 = .ok (.aload_n 2, 1) := by decide +kernel
theorem dX4_readCourt_46 : decode cX4_readCourt 46 = .ok (.invokevirtual 46, 3) := by decide +kernel
theorem dX4_readCourt_49 : decode cX4_readCourt 49 = .ok (.ifCond .eq 22, 3) := by decide +kernel
theorem dX4_readCourt_52 : decode cX4_readCourt 52 = .ok (.aload_n 0, 1) := by decide +kernel
theorem dX4_readCourt_53 : decode cX4_readCourt 53 = .ok (.iload 4, 2) := by decide +kernel
theorem dX4_readCourt_55 : decode cX4_readCourt 55 = .ok (.aload_n 2, 1) := by decide +kernel
theorem dX4_readCourt_56 : decode cX4_readCourt 56 = .ok (.invokevirtual 50, 3) := by decide +kernel
theorem dX4_readCourt_59 : decode cX4_readCourt 59 = .ok (.ifCond .eq 12, 3) := by decide +kernel
theorem dX4_readCourt_62 : decode cX4_readCourt 62 = .ok (.aload_n 0, 1) := by decide +kernel
theorem dX4_readCourt_63 : decode cX4_readCourt 63 = .ok (.bipush 59, 2) := by decide +kernel
theorem dX4_readCourt_65 : decode cX4_readCourt 65 = .ok (.invokevirtual 53, 3) := by decide +kernel
theorem dX4_readCourt_68 : decode cX4_readCourt 68 = .ok (.ifCond .ne 5, 3) := by decide +kernel
theorem dX4_readCourt_71 : decode cX4_readCourt 71 = .ok (.iconst 0, 1) := by decide +kernel
theorem dX4_readCourt_72 : decode cX4_readCourt 72 = .ok (.ireturn, 1) := by decide +kernel
theorem dX4_readCourt_73 : decode cX4_readCourt 73 = .ok (.iinc 3 1, 3) := by decide +kernel
theorem dX4_readCourt_76 : decode cX4_readCourt 76 = .ok (.goto (-62), 3) := by decide +kernel
theorem dX4_readCourt_79 : decode cX4_readCourt 79 = .ok (.iconst 1, 1) := by decide +kernel
theorem dX4_readCourt_80 : decode cX4_readCourt 80 = .ok (.ireturn, 1) := by decide +kernel
set_option maxRecDepth 20000 in
theorem ggX4_beginPart_X7_refuse : GoodIn wsX4_beginPart wsX7_refuse := goodIn_r _ [6, 7, 8, 9, 10, 65, 66, 67, 68, 69, 70, 71, 72, 73, 74, 75] (by decide +kernel) (by decide +kernel)
set_option maxRecDepth 20000 in
theorem gX4_beginPart_X7_refuse : GoodIn wsX4_beginPart (wsV RX4 57 RX7 yX7_refuse wsX7_refuse) := goodIn_app (goodIn_of _ (by decide +kernel)) ggX4_beginPart_X7_refuse
set_option maxRecDepth 20000 in
theorem ggX4_beginPart_X0_isFull : GoodIn wsX4_beginPart wsX0_isFull := goodIn_r _ [15, 16, 17, 18, 14, 19, 20, 21, 22, 23, 76, 77, 78, 79, 80, 81, 82, 83, 84, 85, 86, 87, 88, 89] (by decide +kernel) (by decide +kernel)
set_option maxRecDepth 20000 in
theorem gX4_beginPart_X0_isFull : GoodIn wsX4_beginPart (wsV RX4 60 RX0 yX0_isFull wsX0_isFull) := goodIn_app (goodIn_of _ (by decide +kernel)) ggX4_beginPart_X0_isFull
set_option maxRecDepth 20000 in
theorem ggX4_beginPart_X7_goOn : GoodIn wsX4_beginPart wsX7_goOn := goodIn_r _ [27, 28, 29, 9, 7, 30, 31, 32, 33, 34, 5, 35, 36, 37, 38, 39, 40, 41, 42, 43, 44, 45, 46, 47, 48, 49, 50, 51, 52, 53, 54, 55, 56, 57, 58, 65, 66, 67, 68, 69, 70, 71, 72, 73, 74, 75] (by decide +kernel) (by decide +kernel)
set_option maxRecDepth 20000 in
theorem gX4_beginPart_X7_goOn : GoodIn wsX4_beginPart (wsV RX4 63 RX7 yX7_goOn wsX7_goOn) := goodIn_app (goodIn_of _ (by decide +kernel)) ggX4_beginPart_X7_goOn
theorem dX4_beginPart_0 : decode cX4_beginPart 0 = .ok (.iload_n 1, 1) := by decide +kernel
theorem dX4_beginPart_1 : decode cX4_beginPart 1 = .ok (.ifCond .lt 8, 3) := by decide +kernel
theorem dX4_beginPart_4 : decode cX4_beginPart 4 = .ok (.iload_n 1, 1) := by decide +kernel
theorem dX4_beginPart_5 : decode cX4_beginPart 5 = .ok (.iconst 5, 1) := by decide +kernel
theorem dX4_beginPart_6 : decode cX4_beginPart 6 = .ok (.if_icmp .le 12, 3) := by decide +kernel
theorem dX4_beginPart_9 : decode cX4_beginPart 9 = .ok (.aload_n 0, 1) := by decide +kernel
theorem dX4_beginPart_10 : decode cX4_beginPart 10 = .ok (.getfield 28, 3) := by decide +kernel
theorem dX4_beginPart_13 : decode cX4_beginPart 13 = .ok (.iconst 2, 1) := by decide +kernel
theorem dX4_beginPart_14 : decode cX4_beginPart 14 = .ok (.invokevirtual 57, 3) := by decide +kernel
theorem dX4_beginPart_17 : decode cX4_beginPart 17 = .ok (.ireturn, 1) := by decide +kernel
theorem dX4_beginPart_18 : decode cX4_beginPart 18 = .ok (.aload_n 2, 1) := by decide +kernel
theorem dX4_beginPart_19 : decode cX4_beginPart 19 = .ok (.iload_n 1, 1) := by decide +kernel
theorem dX4_beginPart_20 : decode cX4_beginPart 20 = .ok (.invokevirtual 60, 3) := by decide +kernel
theorem dX4_beginPart_23 : decode cX4_beginPart 23 = .ok (.ifCond .eq 13, 3) := by decide +kernel
theorem dX4_beginPart_26 : decode cX4_beginPart 26 = .ok (.aload_n 0, 1) := by decide +kernel
theorem dX4_beginPart_27 : decode cX4_beginPart 27 = .ok (.getfield 28, 3) := by decide +kernel
theorem dX4_beginPart_30 : decode cX4_beginPart 30 = .ok (.bipush 6, 2) := by decide +kernel
theorem dX4_beginPart_32 : decode cX4_beginPart 32 = .ok (.invokevirtual 57, 3) := by decide +kernel
theorem dX4_beginPart_35 : decode cX4_beginPart 35 = .ok (.ireturn, 1) := by decide +kernel
theorem dX4_beginPart_36 : decode cX4_beginPart 36 = .ok (.aload_n 0, 1) := by decide +kernel
theorem dX4_beginPart_37 : decode cX4_beginPart 37 = .ok (.getfield 28, 3) := by decide +kernel
theorem dX4_beginPart_40 : decode cX4_beginPart 40 = .ok (.invokevirtual 63, 3) := by decide +kernel
theorem dX4_beginPart_43 : decode cX4_beginPart 43 = .ok (.iconst 1, 1) := by decide +kernel
theorem dX4_beginPart_44 : decode cX4_beginPart 44 = .ok (.ireturn, 1) := by decide +kernel
set_option maxRecDepth 20000 in
theorem ggX4_readPart_X4_takeNewName : GoodIn wsX4_readPart wsX4_takeNewName := goodIn_r _ [5, 6, 7, 8, 9, 10, 11, 12, 13, 14, 15, 16, 17, 18, 19, 20, 21, 22, 23, 24, 25, 26, 27, 28, 29, 30, 31, 32, 33, 34, 35, 36, 37, 38, 39, 40, 41, 42, 43, 44, 45, 46, 47, 48, 49, 50, 51, 52, 53, 54, 55, 56, 57, 58, 59, 60, 61, 62, 63, 64, 65, 66, 67, 68, 69, 70, 71, 72, 73, 74, 75, 76, 77, 78, 79, 80, 81, 188, 189, 190, 191, 192, 193, 194, 195, 196, 197, 198, 199, 200, 201, 202, 203, 204, 205, 206, 207, 208, 209, 210, 211, 212, 213, 214, 215, 216, 217, 218] (by decide +kernel) (by decide +kernel)
set_option maxRecDepth 20000 in
theorem gX4_readPart_X4_takeNewName : GoodIn wsX4_readPart (wsV RX4 66 RX4 yX4_takeNewName wsX4_takeNewName) := goodIn_app (goodIn_of _ (by decide +kernel)) ggX4_readPart_X4_takeNewName
set_option maxRecDepth 20000 in
theorem ggX4_readPart_X4_readSense : GoodIn wsX4_readPart wsX4_readSense := goodIn_r _ [85, 9, 6, 7, 86, 87, 88, 89, 4, 90, 91, 92, 93, 94, 47, 48, 49, 13, 50, 51, 52, 17, 15, 53, 54, 55, 56, 57, 58, 59, 60, 61, 62, 63, 64, 65, 66, 67, 68, 69, 70, 71, 72, 73, 74, 75, 76, 77, 78, 79, 80, 81, 10, 11, 12, 14, 16, 18, 95, 96, 97, 98, 41, 35, 42, 188, 189, 190, 191, 192, 193, 194, 195, 196, 197, 198, 199, 200, 201, 202, 203, 204, 205, 206, 207, 208, 209, 210, 211, 212, 213, 214, 215, 216, 217, 218] (by decide +kernel) (by decide +kernel)
set_option maxRecDepth 20000 in
theorem gX4_readPart_X4_readSense : GoodIn wsX4_readPart (wsV RX4 69 RX4 yX4_readSense wsX4_readSense) := goodIn_app (goodIn_of _ (by decide +kernel)) ggX4_readPart_X4_readSense
set_option maxRecDepth 20000 in
theorem ggX4_readPart_X4_takeName : GoodIn wsX4_readPart wsX4_takeName := goodIn_r _ [102, 6, 7, 8, 9, 10, 11, 12, 13, 14, 15, 16, 17, 18, 103, 25, 26, 22, 27, 28, 29, 30, 31, 32, 33, 34, 35, 36, 47, 48, 49, 50, 51, 52, 53, 54, 55, 56, 57, 58, 59, 60, 61, 62, 63, 64, 65, 66, 67, 68, 69, 70, 71, 72, 73, 74, 75, 76, 77, 78, 79, 80, 81, 188, 189, 190, 191, 192, 193, 194, 195, 196, 197, 198, 199, 200, 201, 202, 203, 204, 205, 206, 207, 208, 209, 210, 211, 212, 213, 214, 215, 216, 217, 218] (by decide +kernel) (by decide +kernel)
set_option maxRecDepth 20000 in
theorem gX4_readPart_X4_takeName : GoodIn wsX4_readPart (wsV RX4 73 RX4 yX4_takeName wsX4_takeName) := goodIn_app (goodIn_of _ (by decide +kernel)) ggX4_readPart_X4_takeName
set_option maxRecDepth 20000 in
theorem ggX4_readPart_X4_readRule : GoodIn wsX4_readPart wsX4_readRule := goodIn_r _ [107, 9, 108, 6, 109, 110, 111, 112, 113, 114, 115, 116, 117, 37, 38, 39, 22, 40, 33, 29, 30, 31, 32, 41, 35, 42, 118, 119, 120, 121, 122, 123, 124, 125, 126, 127, 128, 129, 130, 131, 132, 133, 134, 135, 136, 137, 95, 96, 97, 4, 98, 7, 47, 48, 49, 13, 50, 51, 52, 17, 15, 53, 54, 55, 56, 57, 58, 59, 60, 61, 62, 63, 64, 65, 66, 67, 68, 69, 70, 71, 72, 73, 74, 75, 76, 77, 78, 79, 80, 81, 91, 92, 93, 94, 138, 139, 140, 141, 10, 11, 12, 14, 16, 18, 142, 143, 144, 145, 146, 99, 100, 101, 102, 8, 103, 25, 26, 27, 28, 34, 36, 188, 189, 190, 191, 192, 193, 219, 220, 221, 222, 223, 224, 225, 226, 227, 205, 206, 207, 208, 209, 210, 211, 212, 213, 214, 215, 216, 217, 218, 194, 195, 196, 197, 198, 199, 200, 201, 202, 203, 204] (by decide +kernel) (by decide +kernel)
set_option maxRecDepth 20000 in
theorem gX4_readPart_X4_readRule : GoodIn wsX4_readPart (wsV RX4 76 RX4 yX4_readRule wsX4_readRule) := goodIn_app (goodIn_of _ (by decide +kernel)) ggX4_readPart_X4_readRule
set_option maxRecDepth 20000 in
theorem ggX4_readPart_X4_readPerson : GoodIn wsX4_readPart wsX4_readPerson := goodIn_r _ [150, 9, 151, 152, 153, 154, 155, 22, 156, 157, 158, 159, 160, 161, 162, 163, 164, 165, 166, 167, 168, 91, 92, 93, 4, 94, 6, 7, 47, 48, 49, 13, 50, 51, 52, 17, 15, 53, 54, 55, 56, 57, 58, 59, 60, 61, 62, 63, 64, 65, 66, 67, 68, 69, 70, 71, 72, 73, 74, 75, 76, 77, 78, 79, 80, 81, 142, 143, 144, 145, 146, 10, 11, 12, 14, 16, 18, 169, 170, 171, 172, 8, 173, 103, 25, 26, 27, 28, 29, 30, 31, 32, 33, 34, 35, 36, 174, 175, 188, 189, 190, 191, 192, 193, 228, 229, 230, 231, 232, 205, 206, 207, 208, 209, 210, 211, 212, 213, 214, 215, 216, 217, 218, 194, 195, 196, 197, 198, 199, 200, 201, 202, 203, 204] (by decide +kernel) (by decide +kernel)
set_option maxRecDepth 20000 in
theorem gX4_readPart_X4_readPerson : GoodIn wsX4_readPart (wsV RX4 79 RX4 yX4_readPerson wsX4_readPerson) := goodIn_app (goodIn_of _ (by decide +kernel)) ggX4_readPart_X4_readPerson
set_option maxRecDepth 20000 in
theorem ggX4_readPart_X4_readReader : GoodIn wsX4_readPart wsX4_readReader := goodIn_r _ [179, 9, 180, 181, 87, 88, 89, 4, 90, 6, 91, 92, 93, 94, 7, 47, 48, 49, 13, 50, 51, 52, 17, 15, 53, 54, 55, 56, 57, 58, 59, 60, 61, 62, 63, 64, 65, 66, 67, 68, 69, 70, 71, 72, 73, 74, 75, 76, 77, 78, 79, 80, 81, 10, 11, 12, 14, 16, 18, 142, 143, 144, 145, 146, 41, 35, 42, 188, 189, 190, 191, 192, 193, 205, 206, 207, 208, 209, 210, 211, 212, 213, 214, 215, 216, 217, 218, 194, 195, 196, 197, 198, 199, 200, 201, 202, 203, 204] (by decide +kernel) (by decide +kernel)
set_option maxRecDepth 20000 in
theorem gX4_readPart_X4_readReader : GoodIn wsX4_readPart (wsV RX4 82 RX4 yX4_readReader wsX4_readReader) := goodIn_app (goodIn_of _ (by decide +kernel)) ggX4_readPart_X4_readReader
set_option maxRecDepth 20000 in
theorem ggX4_readPart_X4_readWord : GoodIn wsX4_readPart wsX4_readWord := goodIn_r _ [185, 6, 186, 9, 187, 95, 96, 97, 4, 98, 7, 10, 11, 12, 13, 14, 15, 16, 17, 18, 37, 38, 39, 22, 40, 33, 29, 30, 31, 32, 41, 35, 42, 47, 48, 49, 50, 51, 52, 53, 54, 55, 56, 57, 58, 59, 60, 61, 62, 63, 64, 65, 66, 67, 68, 69, 70, 71, 72, 73, 74, 75, 76, 77, 78, 79, 80, 81, 188, 189, 190, 191, 192, 193, 205, 206, 207, 208, 209, 210, 211, 212, 213, 214, 215, 216, 217, 218, 194, 195, 196, 197, 198, 199, 200, 201, 202, 203, 204] (by decide +kernel) (by decide +kernel)
set_option maxRecDepth 20000 in
theorem gX4_readPart_X4_readWord : GoodIn wsX4_readPart (wsV RX4 85 RX4 yX4_readWord wsX4_readWord) := goodIn_app (goodIn_of _ (by decide +kernel)) ggX4_readPart_X4_readWord
theorem dX4_readPart_0 : decode cX4_readPart 0 = .ok (.iload_n 1, 1) := by decide +kernel
theorem dX4_readPart_1 : decode cX4_readPart 1 = .ok (.tableswitch 134 0 4 #[35, 42, 65, 88, 111], 35) := by decide +kernel
theorem dX4_readPart_36 : decode cX4_readPart 36 = .ok (.aload_n 0, 1) := by decide +kernel
theorem dX4_readPart_37 : decode cX4_readPart 37 = .ok (.iconst 0, 1) := by decide +kernel
theorem dX4_readPart_38 : decode cX4_readPart 38 = .ok (.aload_n 2, 1) := by decide +kernel
theorem dX4_readPart_39 : decode cX4_readPart 39 = .ok (.invokevirtual 66, 3) := by decide +kernel
theorem dX4_readPart_42 : decode cX4_readPart 42 = .ok (.ireturn, 1) := by decide +kernel
theorem dX4_readPart_43 : decode cX4_readPart 43 = .ok (.aload_n 0, 1) := by decide +kernel
theorem dX4_readPart_44 : decode cX4_readPart 44 = .ok (.iconst 1, 1) := by decide +kernel
theorem dX4_readPart_45 : decode cX4_readPart 45 = .ok (.aload_n 2, 1) := by decide +kernel
theorem dX4_readPart_46 : decode cX4_readPart 46 = .ok (.invokevirtual 66, 3) := by decide +kernel
theorem dX4_readPart_49 : decode cX4_readPart 49 = .ok (.ifCond .eq 15, 3) := by decide +kernel
theorem dX4_readPart_52 : decode cX4_readPart 52 = .ok (.aload_n 0, 1) := by decide +kernel
theorem dX4_readPart_53 : decode cX4_readPart 53 = .ok (.aload_n 2, 1) := by decide +kernel
theorem dX4_readPart_54 : decode cX4_readPart 54 = .ok (.invokevirtual 69, 3) := by decide +kernel
theorem dX4_readPart_57 : decode cX4_readPart 57 = .ok (.ifCond .eq 7, 3) := by decide +kernel
theorem dX4_readPart_60 : decode cX4_readPart 60 = .ok (.iconst 1, 1) := by decide +kernel
theorem dX4_readPart_61 : decode cX4_readPart 61 = .ok (.goto 4, 3) := by decide +kernel
theorem dX4_readPart_64 : decode cX4_readPart 64 = .ok (.iconst 0, 1) := by decide +kernel
theorem dX4_readPart_65 : decode cX4_readPart 65 = .ok (.ireturn, 1) := by decide +kernel
theorem dX4_readPart_66 : decode cX4_readPart 66 = .ok (.aload_n 0, 1) := by decide +kernel
theorem dX4_readPart_67 : decode cX4_readPart 67 = .ok (.iconst 1, 1) := by decide +kernel
theorem dX4_readPart_68 : decode cX4_readPart 68 = .ok (.aload_n 2, 1) := by decide +kernel
theorem dX4_readPart_69 : decode cX4_readPart 69 = .ok (.invokevirtual 73, 3) := by decide +kernel
theorem dX4_readPart_72 : decode cX4_readPart 72 = .ok (.ifCond .eq 15, 3) := by decide +kernel
theorem dX4_readPart_75 : decode cX4_readPart 75 = .ok (.aload_n 0, 1) := by decide +kernel
theorem dX4_readPart_76 : decode cX4_readPart 76 = .ok (.aload_n 2, 1) := by decide +kernel
theorem dX4_readPart_77 : decode cX4_readPart 77 = .ok (.invokevirtual 76, 3) := by decide +kernel
theorem dX4_readPart_80 : decode cX4_readPart 80 = .ok (.ifCond .eq 7, 3) := by decide +kernel
theorem dX4_readPart_83 : decode cX4_readPart 83 = .ok (.iconst 1, 1) := by decide +kernel
theorem dX4_readPart_84 : decode cX4_readPart 84 = .ok (.goto 4, 3) := by decide +kernel
theorem dX4_readPart_87 : decode cX4_readPart 87 = .ok (.iconst 0, 1) := by decide +kernel
theorem dX4_readPart_88 : decode cX4_readPart 88 = .ok (.ireturn, 1) := by decide +kernel
theorem dX4_readPart_89 : decode cX4_readPart 89 = .ok (.aload_n 0, 1) := by decide +kernel
theorem dX4_readPart_90 : decode cX4_readPart 90 = .ok (.iconst 3, 1) := by decide +kernel
theorem dX4_readPart_91 : decode cX4_readPart 91 = .ok (.aload_n 2, 1) := by decide +kernel
theorem dX4_readPart_92 : decode cX4_readPart 92 = .ok (.invokevirtual 66, 3) := by decide +kernel
theorem dX4_readPart_95 : decode cX4_readPart 95 = .ok (.ifCond .eq 15, 3) := by decide +kernel
theorem dX4_readPart_98 : decode cX4_readPart 98 = .ok (.aload_n 0, 1) := by decide +kernel
theorem dX4_readPart_99 : decode cX4_readPart 99 = .ok (.aload_n 2, 1) := by decide +kernel
theorem dX4_readPart_100 : decode cX4_readPart 100 = .ok (.invokevirtual 79, 3) := by decide +kernel
theorem dX4_readPart_103 : decode cX4_readPart 103 = .ok (.ifCond .eq 7, 3) := by decide +kernel
theorem dX4_readPart_106 : decode cX4_readPart 106 = .ok (.iconst 1, 1) := by decide +kernel
theorem dX4_readPart_107 : decode cX4_readPart 107 = .ok (.goto 4, 3) := by decide +kernel
theorem dX4_readPart_110 : decode cX4_readPart 110 = .ok (.iconst 0, 1) := by decide +kernel
theorem dX4_readPart_111 : decode cX4_readPart 111 = .ok (.ireturn, 1) := by decide +kernel
theorem dX4_readPart_112 : decode cX4_readPart 112 = .ok (.aload_n 0, 1) := by decide +kernel
theorem dX4_readPart_113 : decode cX4_readPart 113 = .ok (.iconst 4, 1) := by decide +kernel
theorem dX4_readPart_114 : decode cX4_readPart 114 = .ok (.aload_n 2, 1) := by decide +kernel
theorem dX4_readPart_115 : decode cX4_readPart 115 = .ok (.invokevirtual 66, 3) := by decide +kernel
theorem dX4_readPart_118 : decode cX4_readPart 118 = .ok (.ifCond .eq 15, 3) := by decide +kernel
theorem dX4_readPart_121 : decode cX4_readPart 121 = .ok (.aload_n 0, 1) := by decide +kernel
theorem dX4_readPart_122 : decode cX4_readPart 122 = .ok (.aload_n 2, 1) := by decide +kernel
theorem dX4_readPart_123 : decode cX4_readPart 123 = .ok (.invokevirtual 82, 3) := by decide +kernel
theorem dX4_readPart_126 : decode cX4_readPart 126 = .ok (.ifCond .eq 7, 3) := by decide +kernel
theorem dX4_readPart_129 : decode cX4_readPart 129 = .ok (.iconst 1, 1) := by decide +kernel
theorem dX4_readPart_130 : decode cX4_readPart 130 = .ok (.goto 4, 3) := by decide +kernel
theorem dX4_readPart_133 : decode cX4_readPart 133 = .ok (.iconst 0, 1) := by decide +kernel
theorem dX4_readPart_134 : decode cX4_readPart 134 = .ok (.ireturn, 1) := by decide +kernel
theorem dX4_readPart_135 : decode cX4_readPart 135 = .ok (.aload_n 0, 1) := by decide +kernel
theorem dX4_readPart_136 : decode cX4_readPart 136 = .ok (.iconst 3, 1) := by decide +kernel
theorem dX4_readPart_137 : decode cX4_readPart 137 = .ok (.aload_n 2, 1) := by decide +kernel
theorem dX4_readPart_138 : decode cX4_readPart 138 = .ok (.invokevirtual 73, 3) := by decide +kernel
theorem dX4_readPart_141 : decode cX4_readPart 141 = .ok (.ifCond .eq 15, 3) := by decide +kernel
theorem dX4_readPart_144 : decode cX4_readPart 144 = .ok (.aload_n 0, 1) := by decide +kernel
theorem dX4_readPart_145 : decode cX4_readPart 145 = .ok (.aload_n 2, 1) := by decide +kernel
theorem dX4_readPart_146 : decode cX4_readPart 146 = .ok (.invokevirtual 85, 3) := by decide +kernel
theorem dX4_readPart_149 : decode cX4_readPart 149 = .ok (.ifCond .eq 7, 3) := by decide +kernel
theorem dX4_readPart_152 : decode cX4_readPart 152 = .ok (.iconst 1, 1) := by decide +kernel
theorem dX4_readPart_153 : decode cX4_readPart 153 = .ok (.goto 4, 3) := by decide +kernel
theorem dX4_readPart_156 : decode cX4_readPart 156 = .ok (.iconst 0, 1) := by decide +kernel
theorem dX4_readPart_157 : decode cX4_readPart 157 = .ok (.ireturn, 1) := by decide +kernel
set_option maxRecDepth 20000 in
theorem ggX4_readSense_X4_take : GoodIn wsX4_readSense wsX4_take := goodIn_r _ [9, 2, 10, 11, 12, 8, 13, 3, 14, 15, 16, 17, 18, 19, 20, 21, 22, 23, 24, 25, 26, 27, 28, 29, 30, 31, 32, 33, 34, 35, 36, 37, 38, 39, 40, 41, 42, 43, 44, 45, 46, 47, 48, 49, 50, 51, 52, 53, 54, 55, 56, 57, 65, 66, 67, 68, 69, 70, 71, 72, 73, 74, 75, 76, 77, 78, 79, 80, 81] (by decide +kernel) (by decide +kernel)
set_option maxRecDepth 20000 in
theorem gX4_readSense_X4_take : GoodIn wsX4_readSense (wsV RX4 53 RX4 yX4_take wsX4_take) := goodIn_app (goodIn_of _ (by decide +kernel)) ggX4_readSense_X4_take
set_option maxRecDepth 20000 in
theorem ggX4_readSense_X4_guiltHere : GoodIn wsX4_readSense wsX4_guiltHere := goodIn_r _ [61, 2, 3, 65, 66, 67, 68, 69, 70, 71, 72, 73, 74, 75, 76, 77, 78, 79, 80, 81] (by decide +kernel) (by decide +kernel)
set_option maxRecDepth 20000 in
theorem gX4_readSense_X4_guiltHere : GoodIn wsX4_readSense (wsV RX4 88 RX4 yX4_guiltHere wsX4_guiltHere) := goodIn_app (goodIn_of _ (by decide +kernel)) ggX4_readSense_X4_guiltHere
set_option maxRecDepth 20000 in
theorem ggX4_readSense_X7_refuse : GoodIn wsX4_readSense wsX7_refuse := goodIn_r _ [55, 22, 56, 21, 57, 71, 72, 73, 74, 75, 76, 77, 78, 79, 80, 81] (by decide +kernel) (by decide +kernel)
set_option maxRecDepth 20000 in
theorem gX4_readSense_X7_refuse : GoodIn wsX4_readSense (wsV RX4 57 RX7 yX7_refuse wsX7_refuse) := goodIn_app (goodIn_of _ (by decide +kernel)) ggX4_readSense_X7_refuse
set_option maxRecDepth 20000 in
theorem ggX4_readSense_X11_put : GoodIn wsX4_readSense wsX11_put := goodIn_r _ [64] (by decide +kernel) (by decide +kernel)
set_option maxRecDepth 20000 in
theorem gX4_readSense_X11_put_n95 : GoodIn wsX4_readSense (wsX11_put) := ggX4_readSense_X11_put
set_option maxRecDepth 20000 in
theorem ggX4_readSense_X7_goOn : GoodIn wsX4_readSense wsX7_goOn := goodIn_r _ [18, 19, 20, 21, 22, 23, 24, 25, 26, 27, 17, 28, 29, 30, 31, 32, 33, 34, 35, 36, 37, 38, 39, 40, 41, 42, 43, 44, 45, 46, 47, 48, 49, 50, 51, 71, 72, 73, 74, 75, 76, 77, 78, 79, 80, 81] (by decide +kernel) (by decide +kernel)
set_option maxRecDepth 20000 in
theorem gX4_readSense_X7_goOn : GoodIn wsX4_readSense (wsV RX4 63 RX7 yX7_goOn wsX7_goOn) := goodIn_app (goodIn_of _ (by decide +kernel)) ggX4_readSense_X7_goOn
theorem dX4_readSense_0 : decode cX4_readSense 0 = .ok (.aload_n 0, 1) := by decide +kernel
theorem dX4_readSense_1 : decode cX4_readSense 1 = .ok (.getfield 19, 3) := by decide +kernel
theorem dX4_readSense_4 : decode cX4_readSense 4 = .ok (.istore_n 2, 1) := by decide +kernel
theorem dX4_readSense_5 : decode cX4_readSense 5 = .ok (.aload_n 0, 1) := by decide +kernel
theorem dX4_readSense_6 : decode cX4_readSense 6 = .ok (.bipush 6, 2) := by decide +kernel
theorem dX4_readSense_8 : decode cX4_readSense 8 = .ok (.invokevirtual 53, 3) := by decide +kernel
theorem dX4_readSense_11 : decode cX4_readSense 11 = .ok (.ifCond .ne 5, 3) := by decide +kernel
theorem dX4_readSense_14 : decode cX4_readSense 14 = .ok (.iconst 0, 1) := by decide +kernel
theorem dX4_readSense_15 : decode cX4_readSense 15 = .ok (.ireturn, 1) := by decide +kernel
theorem dX4_readSense_16 : decode cX4_readSense 16 = .ok (.aload_n 0, 1) := by decide +kernel
theorem dX4_readSense_17 : decode cX4_readSense 17 = .ok (.invokevirtual 88, 3) := by decide +kernel
theorem dX4_readSense_20 : decode cX4_readSense 20 = .ok (.istore_n 3, 1) := by decide +kernel
theorem dX4_readSense_21 : decode cX4_readSense 21 = .ok (.iload_n 3, 1) := by decide +kernel
theorem dX4_readSense_22 : decode cX4_readSense 22 = .ok (.ifCond .ne 24, 3) := by decide +kernel
theorem dX4_readSense_25 : decode cX4_readSense 25 = .ok (.aload_n 0, 1) := by decide +kernel
theorem dX4_readSense_26 : decode cX4_readSense 26 = .ok (.getfield 28, 3) := by decide +kernel
theorem dX4_readSense_29 : decode cX4_readSense 29 = .ok (.getfield 43, 3) := by decide +kernel
theorem dX4_readSense_32 : decode cX4_readSense 32 = .ok (.bipush 9, 2) := by decide +kernel
theorem dX4_readSense_34 : decode cX4_readSense 34 = .ok (.if_icmp .eq 12, 3) := by decide +kernel
theorem dX4_readSense_37 : decode cX4_readSense 37 = .ok (.aload_n 0, 1) := by decide +kernel
theorem dX4_readSense_38 : decode cX4_readSense 38 = .ok (.getfield 28, 3) := by decide +kernel
theorem dX4_readSense_41 : decode cX4_readSense 41 = .ok (.iconst 2, 1) := by decide +kernel
theorem dX4_readSense_42 : decode cX4_readSense 42 = .ok (.invokevirtual 57, 3) := by decide +kernel
theorem dX4_readSense_45 : decode cX4_readSense 45 = .ok (.ireturn, 1) := by decide +kernel
theorem dX4_readSense_46 : decode cX4_readSense 46 = .ok (.aload_n 1, 1) := by decide +kernel
theorem dX4_readSense_47 : decode cX4_readSense 47 = .ok (.getfield 92, 3) := by decide +kernel
theorem dX4_readSense_50 : decode cX4_readSense 50 = .ok (.iload_n 2, 1) := by decide +kernel
theorem dX4_readSense_51 : decode cX4_readSense 51 = .ok (.iload_n 3, 1) := by decide +kernel
theorem dX4_readSense_52 : decode cX4_readSense 52 = .ok (.invokestatic 95, 3) := by decide +kernel
theorem dX4_readSense_55 : decode cX4_readSense 55 = .ok (.aload_n 0, 1) := by decide +kernel
theorem dX4_readSense_56 : decode cX4_readSense 56 = .ok (.getfield 28, 3) := by decide +kernel
theorem dX4_readSense_59 : decode cX4_readSense 59 = .ok (.invokevirtual 63, 3) := by decide +kernel
theorem dX4_readSense_62 : decode cX4_readSense 62 = .ok (.iconst 1, 1) := by decide +kernel
theorem dX4_readSense_63 : decode cX4_readSense 63 = .ok (.ireturn, 1) := by decide +kernel
set_option maxRecDepth 20000 in
theorem ggX4_readRule_X0_addOne : GoodIn wsX4_readRule wsX0_addOne := goodIn_r _ [17, 18, 19, 20, 21, 16, 22, 23, 24, 25, 136, 137, 138, 139, 140, 141, 142, 143, 144, 145, 146, 147, 148, 149] (by decide +kernel) (by decide +kernel)
set_option maxRecDepth 20000 in
theorem gX4_readRule_X0_addOne : GoodIn wsX4_readRule (wsV RX4 99 RX0 yX0_addOne wsX0_addOne) := goodIn_app (goodIn_of _ (by decide +kernel)) ggX4_readRule_X0_addOne
set_option maxRecDepth 20000 in
theorem ggX4_readRule_X0_ruleAt : GoodIn wsX4_readRule wsX0_ruleAt := goodIn_r _ [29, 30, 31, 136, 137, 138, 139, 140, 141, 142, 143, 144, 145, 146, 147, 148, 149] (by decide +kernel) (by decide +kernel)
set_option maxRecDepth 20000 in
theorem gX4_readRule_X0_ruleAt : GoodIn wsX4_readRule (wsV RX4 103 RX0 yX0_ruleAt wsX0_ruleAt) := goodIn_app (goodIn_of _ (by decide +kernel)) ggX4_readRule_X0_ruleAt
set_option maxRecDepth 20000 in
theorem ggX4_readRule_X6_renew : GoodIn wsX4_readRule wsX6_renew := goodIn_r _ [36, 37, 38, 39, 40, 41, 42, 43, 44, 45, 127, 128, 129, 130, 131, 132, 133, 134, 135] (by decide +kernel) (by decide +kernel)
set_option maxRecDepth 20000 in
theorem gX4_readRule_X6_renew : GoodIn wsX4_readRule (wsV RX4 107 RX6 yX6_renew wsX6_renew) := goodIn_app (goodIn_of _ (by decide +kernel)) ggX4_readRule_X6_renew
set_option maxRecDepth 20000 in
theorem ggX4_readRule_X4_guiltHere : GoodIn wsX4_readRule wsX4_guiltHere := goodIn_r _ [50, 3, 51, 121, 122, 123, 124, 125, 126, 150, 151, 152, 153, 154, 155, 156, 157, 158, 159, 160] (by decide +kernel) (by decide +kernel)
set_option maxRecDepth 20000 in
theorem gX4_readRule_X4_guiltHere : GoodIn wsX4_readRule (wsV RX4 88 RX4 yX4_guiltHere wsX4_guiltHere) := goodIn_app (goodIn_of _ (by decide +kernel)) ggX4_readRule_X4_guiltHere
set_option maxRecDepth 20000 in
theorem ggX4_readRule_X7_goOn : GoodIn wsX4_readRule wsX7_goOn := goodIn_r _ [56, 57, 58, 59, 60, 61, 62, 63, 64, 65, 55, 66, 67, 68, 69, 70, 71, 72, 73, 74, 75, 76, 77, 78, 79, 80, 81, 82, 83, 84, 85, 86, 87, 88, 89, 150, 151, 152, 153, 154, 155, 156, 157, 158, 159, 160] (by decide +kernel) (by decide +kernel)
set_option maxRecDepth 20000 in
theorem gX4_readRule_X7_goOn : GoodIn wsX4_readRule (wsV RX4 63 RX7 yX7_goOn wsX7_goOn) := goodIn_app (goodIn_of _ (by decide +kernel)) ggX4_readRule_X7_goOn
set_option maxRecDepth 20000 in
theorem ggX4_readRule_X4_skip : GoodIn wsX4_readRule wsX4_skip := goodIn_r _ [93, 3, 51, 52, 53, 54, 55, 56, 57, 58, 59, 60, 61, 62, 63, 64, 65, 66, 67, 68, 69, 70, 71, 72, 73, 74, 75, 76, 77, 78, 79, 80, 81, 82, 83, 84, 85, 86, 87, 88, 89, 121, 122, 123, 124, 125, 126, 150, 151, 152, 153, 154, 155, 156, 157, 158, 159, 160] (by decide +kernel) (by decide +kernel)
set_option maxRecDepth 20000 in
theorem gX4_readRule_X4_skip : GoodIn wsX4_readRule (wsV RX4 115 RX4 yX4_skip wsX4_skip) := goodIn_app (goodIn_of _ (by decide +kernel)) ggX4_readRule_X4_skip
set_option maxRecDepth 20000 in
theorem ggX4_readRule_X4_takeCompare : GoodIn wsX4_readRule wsX4_takeCompare := goodIn_r _ [97, 3, 51, 1, 5, 7, 98, 99, 100, 55, 101, 60, 102, 59, 103, 52, 53, 54, 56, 57, 58, 61, 62, 63, 64, 65, 66, 67, 68, 69, 70, 71, 72, 73, 74, 75, 76, 77, 78, 79, 80, 81, 82, 83, 84, 85, 86, 87, 88, 89, 104, 105, 106, 49, 107, 108, 121, 122, 123, 124, 125, 126, 150, 151, 152, 153, 154, 155, 156, 157, 158, 159, 160] (by decide +kernel) (by decide +kernel)
set_option maxRecDepth 20000 in
theorem gX4_readRule_X4_takeCompare : GoodIn wsX4_readRule (wsV RX4 118 RX4 yX4_takeCompare wsX4_takeCompare) := goodIn_app (goodIn_of _ (by decide +kernel)) ggX4_readRule_X4_takeCompare
set_option maxRecDepth 20000 in
theorem ggX4_readRule_X4_takeName : GoodIn wsX4_readRule wsX4_takeName := goodIn_r _ [112, 3, 51, 113, 1, 98, 99, 100, 55, 101, 60, 102, 59, 103, 114, 115, 116, 16, 117, 118, 19, 20, 21, 22, 18, 119, 24, 120, 52, 53, 54, 56, 57, 58, 61, 62, 63, 64, 65, 66, 67, 68, 69, 70, 71, 72, 73, 74, 75, 76, 77, 78, 79, 80, 81, 82, 83, 84, 85, 86, 87, 88, 89, 121, 122, 123, 124, 125, 126, 150, 151, 152, 153, 154, 155, 156, 157, 158, 159, 160, 136, 137, 138, 139, 140, 141, 142, 143, 144, 145, 146, 147, 148, 149] (by decide +kernel) (by decide +kernel)
set_option maxRecDepth 20000 in
theorem gX4_readRule_X4_takeName : GoodIn wsX4_readRule (wsV RX4 73 RX4 yX4_takeName wsX4_takeName) := goodIn_app (goodIn_of _ (by decide +kernel)) ggX4_readRule_X4_takeName
theorem dX4_readRule_0 : decode cX4_readRule 0 = .ok (.aload_n 1, 1) := by decide +kernel
theorem dX4_readRule_1 : decode cX4_readRule 1 = .ok (.aload_n 1, 1) := by decide +kernel
theorem dX4_readRule_2 : decode cX4_readRule 2 = .ok (.iconst 2, 1) := by decide +kernel
theorem dX4_readRule_3 : decode cX4_readRule 3 = .ok (.invokevirtual 99, 3) := by decide +kernel
theorem dX4_readRule_6 : decode cX4_readRule 6 = .ok (.invokevirtual 103, 3) := by decide +kernel
theorem dX4_readRule_9 : decode cX4_readRule 9 = .ok (.astore_n 2, 1) := by decide +kernel
theorem dX4_readRule_10 : decode cX4_readRule 10 = .ok (.aload_n 2, 1) := by decide +kernel
theorem dX4_readRule_11 : decode cX4_readRule 11 = .ok (.aload_n 0, 1) := by decide +kernel
theorem dX4_readRule_12 : decode cX4_readRule 12 = .ok (.getfield 19, 3) := by decide +kernel
theorem dX4_readRule_15 : decode cX4_readRule 15 = .ok (.invokevirtual 107, 3) := by decide +kernel
theorem dX4_readRule_18 : decode cX4_readRule 18 = .ok (.aload_n 2, 1) := by decide +kernel
theorem dX4_readRule_19 : decode cX4_readRule 19 = .ok (.aload_n 0, 1) := by decide +kernel
theorem dX4_readRule_20 : decode cX4_readRule 20 = .ok (.invokevirtual 88, 3) := by decide +kernel
theorem dX4_readRule_23 : decode cX4_readRule 23 = .ok (.putfield 112, 3) := by decide +kernel
theorem dX4_readRule_26 : decode cX4_readRule 26 = .ok (.aload_n 2, 1) := by decide +kernel
theorem dX4_readRule_27 : decode cX4_readRule 27 = .ok (.getfield 112, 3) := by decide +kernel
theorem dX4_readRule_30 : decode cX4_readRule 30 = .ok (.ifCond .eq 10, 3) := by decide +kernel
theorem dX4_readRule_33 : decode cX4_readRule 33 = .ok (.aload_n 0, 1) := by decide +kernel
theorem dX4_readRule_34 : decode cX4_readRule 34 = .ok (.getfield 28, 3) := by decide +kernel
theorem dX4_readRule_37 : decode cX4_readRule 37 = .ok (.invokevirtual 63, 3) := by decide +kernel
theorem dX4_readRule_40 : decode cX4_readRule 40 = .ok (.aload_n 0, 1) := by decide +kernel
theorem dX4_readRule_41 : decode cX4_readRule 41 = .ok (.bipush 10, 2) := by decide +kernel
theorem dX4_readRule_43 : decode cX4_readRule 43 = .ok (.invokevirtual 115, 3) := by decide +kernel
theorem dX4_readRule_46 : decode cX4_readRule 46 = .ok (.ifCond .eq 38, 3) := by decide +kernel
theorem dX4_readRule_49 : decode cX4_readRule 49 = .ok (.aload_n 0, 1) := by decide +kernel
theorem dX4_readRule_50 : decode cX4_readRule 50 = .ok (.bipush 99, 2) := by decide +kernel
theorem dX4_readRule_52 : decode cX4_readRule 52 = .ok (.invokevirtual 118, 3) := by decide +kernel
theorem dX4_readRule_55 : decode cX4_readRule 55 = .ok (.ifCond .ne 5, 3) := by decide +kernel
theorem dX4_readRule_58 : decode cX4_readRule 58 = .ok (.iconst 0, 1) := by decide +kernel
theorem dX4_readRule_59 : decode cX4_readRule 59 = .ok (.ireturn, 1) := by decide +kernel
theorem dX4_readRule_60 : decode cX4_readRule 60 = .ok (.aload_n 2, 1) := by decide +kernel
theorem dX4_readRule_61 : decode cX4_readRule 61 = .ok (.aload_n 0, 1) := by decide +kernel
theorem dX4_readRule_62 : decode cX4_readRule 62 = .ok (.getfield 19, 3) := by decide +kernel
theorem dX4_readRule_65 : decode cX4_readRule 65 = .ok (.putfield 121, 3) := by decide +kernel
theorem dX4_readRule_68 : decode cX4_readRule 68 = .ok (.aload_n 2, 1) := by decide +kernel
theorem dX4_readRule_69 : decode cX4_readRule 69 = .ok (.aload_n 0, 1) := by decide +kernel
theorem dX4_readRule_70 : decode cX4_readRule 70 = .ok (.getfield 22, 3) := by decide +kernel
theorem dX4_readRule_73 : decode cX4_readRule 73 = .ok (.putfield 124, 3) := by decide +kernel
theorem dX4_readRule_76 : decode cX4_readRule 76 = .ok (.aload_n 2, 1) := by decide +kernel
theorem dX4_readRule_77 : decode cX4_readRule 77 = .ok (.aload_n 0, 1) := by decide +kernel
theorem dX4_readRule_78 : decode cX4_readRule 78 = .ok (.getfield 25, 3) := by decide +kernel
theorem dX4_readRule_81 : decode cX4_readRule 81 = .ok (.putfield 127, 3) := by decide +kernel
theorem dX4_readRule_84 : decode cX4_readRule 84 = .ok (.aload_n 0, 1) := by decide +kernel
theorem dX4_readRule_85 : decode cX4_readRule 85 = .ok (.bipush 11, 2) := by decide +kernel
theorem dX4_readRule_87 : decode cX4_readRule 87 = .ok (.invokevirtual 115, 3) := by decide +kernel
theorem dX4_readRule_90 : decode cX4_readRule 90 = .ok (.ifCond .eq 38, 3) := by decide +kernel
theorem dX4_readRule_93 : decode cX4_readRule 93 = .ok (.aload_n 0, 1) := by decide +kernel
theorem dX4_readRule_94 : decode cX4_readRule 94 = .ok (.bipush 9, 2) := by decide +kernel
theorem dX4_readRule_96 : decode cX4_readRule 96 = .ok (.invokevirtual 118, 3) := by decide +kernel
theorem dX4_readRule_99 : decode cX4_readRule 99 = .ok (.ifCond .ne 5, 3) := by decide +kernel
theorem dX4_readRule_102 : decode cX4_readRule 102 = .ok (.iconst 0, 1) := by decide +kernel
theorem dX4_readRule_103 : decode cX4_readRule 103 = .ok (.ireturn, 1) := by decide +kernel
theorem dX4_readRule_104 : decode cX4_readRule 104 = .ok (.aload_n 2, 1) := by decide +kernel
theorem dX4_readRule_105 : decode cX4_readRule 105 = .ok (.aload_n 0, 1) := by decide +kernel
theorem dX4_readRule_106 : decode cX4_readRule 106 = .ok (.getfield 19, 3) := by decide +kernel
theorem dX4_readRule_109 : decode cX4_readRule 109 = .ok (.putfield 130, 3) := by decide +kernel
theorem dX4_readRule_112 : decode cX4_readRule 112 = .ok (.aload_n 2, 1) := by decide +kernel
theorem dX4_readRule_113 : decode cX4_readRule 113 = .ok (.aload_n 0, 1) := by decide +kernel
theorem dX4_readRule_114 : decode cX4_readRule 114 = .ok (.getfield 22, 3) := by decide +kernel
theorem dX4_readRule_117 : decode cX4_readRule 117 = .ok (.putfield 133, 3) := by decide +kernel
theorem dX4_readRule_120 : decode cX4_readRule 120 = .ok (.aload_n 2, 1) := by decide +kernel
theorem dX4_readRule_121 : decode cX4_readRule 121 = .ok (.aload_n 0, 1) := by decide +kernel
theorem dX4_readRule_122 : decode cX4_readRule 122 = .ok (.getfield 25, 3) := by decide +kernel
theorem dX4_readRule_125 : decode cX4_readRule 125 = .ok (.putfield 136, 3) := by decide +kernel
theorem dX4_readRule_128 : decode cX4_readRule 128 = .ok (.aload_n 0, 1) := by decide +kernel
theorem dX4_readRule_129 : decode cX4_readRule 129 = .ok (.bipush 12, 2) := by decide +kernel
theorem dX4_readRule_131 : decode cX4_readRule 131 = .ok (.invokevirtual 115, 3) := by decide +kernel
theorem dX4_readRule_134 : decode cX4_readRule 134 = .ok (.ifCond .eq 22, 3) := by decide +kernel
theorem dX4_readRule_137 : decode cX4_readRule 137 = .ok (.aload_n 0, 1) := by decide +kernel
theorem dX4_readRule_138 : decode cX4_readRule 138 = .ok (.iconst 0, 1) := by decide +kernel
theorem dX4_readRule_139 : decode cX4_readRule 139 = .ok (.aload_n 1, 1) := by decide +kernel
theorem dX4_readRule_140 : decode cX4_readRule 140 = .ok (.invokevirtual 73, 3) := by decide +kernel
theorem dX4_readRule_143 : decode cX4_readRule 143 = .ok (.ifCond .ne 5, 3) := by decide +kernel
theorem dX4_readRule_146 : decode cX4_readRule 146 = .ok (.iconst 0, 1) := by decide +kernel
theorem dX4_readRule_147 : decode cX4_readRule 147 = .ok (.ireturn, 1) := by decide +kernel
theorem dX4_readRule_148 : decode cX4_readRule 148 = .ok (.aload_n 2, 1) := by decide +kernel
theorem dX4_readRule_149 : decode cX4_readRule 149 = .ok (.aload_n 0, 1) := by decide +kernel
theorem dX4_readRule_150 : decode cX4_readRule 150 = .ok (.getfield 19, 3) := by decide +kernel
theorem dX4_readRule_153 : decode cX4_readRule 153 = .ok (.putfield 139, 3) := by decide +kernel
theorem dX4_readRule_156 : decode cX4_readRule 156 = .ok (.iconst 1, 1) := by decide +kernel
theorem dX4_readRule_157 : decode cX4_readRule 157 = .ok (.ireturn, 1) := by decide +kernel
set_option maxRecDepth 20000 in
theorem ggX4_readPerson_X0_personAt : GoodIn wsX4_readPerson wsX0_personAt := goodIn_r _ [8, 9, 10, 109, 110, 111, 112, 113, 114, 115, 116, 117, 118, 119, 120, 121, 122] (by decide +kernel) (by decide +kernel)
set_option maxRecDepth 20000 in
theorem gX4_readPerson_X0_personAt : GoodIn wsX4_readPerson (wsV RX4 142 RX0 yX0_personAt wsX0_personAt) := goodIn_app (goodIn_of _ (by decide +kernel)) ggX4_readPerson_X0_personAt
set_option maxRecDepth 20000 in
theorem ggX4_readPerson_X5_renew : GoodIn wsX4_readPerson wsX5_renew := goodIn_r _ [15, 16, 17, 18, 19, 20, 104, 105, 106, 107, 108] (by decide +kernel) (by decide +kernel)
set_option maxRecDepth 20000 in
theorem gX4_readPerson_X5_renew : GoodIn wsX4_readPerson (wsV RX4 146 RX5 yX5_renew wsX5_renew) := goodIn_app (goodIn_of _ (by decide +kernel)) ggX4_readPerson_X5_renew
set_option maxRecDepth 20000 in
theorem ggX4_readPerson_X4_skip : GoodIn wsX4_readPerson wsX4_skip := goodIn_r _ [25, 26, 27, 28, 29, 30, 31, 32, 33, 34, 35, 36, 37, 38, 39, 40, 41, 42, 43, 44, 45, 46, 47, 48, 49, 50, 51, 52, 53, 54, 55, 56, 57, 58, 59, 60, 61, 62, 63, 64, 65, 98, 99, 100, 101, 102, 103, 123, 124, 125, 126, 127, 128, 129, 130, 131, 132, 133] (by decide +kernel) (by decide +kernel)
set_option maxRecDepth 20000 in
theorem gX4_readPerson_X4_skip : GoodIn wsX4_readPerson (wsV RX4 115 RX4 yX4_skip wsX4_skip) := goodIn_app (goodIn_of _ (by decide +kernel)) ggX4_readPerson_X4_skip
set_option maxRecDepth 20000 in
theorem ggX4_readPerson_X4_takeNumber : GoodIn wsX4_readPerson wsX4_takeNumber := goodIn_r _ [69, 26, 27, 70, 1, 71, 72, 73, 31, 74, 36, 75, 35, 76, 28, 29, 30, 32, 33, 34, 37, 38, 39, 40, 41, 42, 43, 44, 45, 46, 47, 48, 49, 50, 51, 52, 53, 54, 55, 56, 57, 58, 59, 60, 61, 62, 63, 64, 65, 98, 99, 100, 101, 102, 103, 123, 124, 125, 126, 127, 128, 129, 130, 131, 132, 133] (by decide +kernel) (by decide +kernel)
set_option maxRecDepth 20000 in
theorem gX4_readPerson_X4_takeNumber : GoodIn wsX4_readPerson (wsV RX4 151 RX4 yX4_takeNumber wsX4_takeNumber) := goodIn_app (goodIn_of _ (by decide +kernel)) ggX4_readPerson_X4_takeNumber
set_option maxRecDepth 20000 in
theorem ggX4_readPerson_X4_readSmells : GoodIn wsX4_readPerson wsX4_readSmells := goodIn_r _ [80, 26, 27, 81, 82, 83, 84, 85, 7, 86, 87, 88, 89, 90, 91, 92, 93, 94, 95, 71, 72, 73, 31, 74, 36, 75, 35, 76, 96, 97, 28, 29, 30, 32, 33, 34, 37, 38, 39, 40, 41, 42, 43, 44, 45, 46, 47, 48, 49, 50, 51, 52, 53, 54, 55, 56, 57, 58, 59, 60, 61, 62, 63, 64, 65, 98, 99, 100, 101, 102, 103, 123, 124, 125, 126, 127, 128, 129, 130, 131, 132, 133, 104, 105, 106, 107, 108, 109, 110, 111, 112, 113, 114, 115, 116, 117, 118, 119, 120, 121, 122] (by decide +kernel) (by decide +kernel)
set_option maxRecDepth 20000 in
theorem gX4_readPerson_X4_readSmells : GoodIn wsX4_readPerson (wsV RX4 158 RX4 yX4_readSmells wsX4_readSmells) := goodIn_app (goodIn_of _ (by decide +kernel)) ggX4_readPerson_X4_readSmells
theorem dX4_readPerson_0 : decode cX4_readPerson 0 = .ok (.aload_n 1, 1) := by decide +kernel
theorem dX4_readPerson_1 : decode cX4_readPerson 1 = .ok (.aload_n 0, 1) := by decide +kernel
theorem dX4_readPerson_2 : decode cX4_readPerson 2 = .ok (.getfield 19, 3) := by decide +kernel
theorem dX4_readPerson_5 : decode cX4_readPerson 5 = .ok (.invokevirtual 142, 3) := by decide +kernel
theorem dX4_readPerson_8 : decode cX4_readPerson 8 = .ok (.astore_n 2, 1) := by decide +kernel
theorem dX4_readPerson_9 : decode cX4_readPerson 9 = .ok (.aload_n 2, 1) := by decide +kernel
theorem dX4_readPerson_10 : decode cX4_readPerson 10 = .ok (.invokevirtual 146, 3) := by decide +kernel
theorem dX4_readPerson_13 : decode cX4_readPerson 13 = .ok (.aload_n 0, 1) := by decide +kernel
theorem dX4_readPerson_14 : decode cX4_readPerson 14 = .ok (.bipush 7, 2) := by decide +kernel
theorem dX4_readPerson_16 : decode cX4_readPerson 16 = .ok (.invokevirtual 115, 3) := by decide +kernel
theorem dX4_readPerson_19 : decode cX4_readPerson 19 = .ok (.ifCond .eq 8, 3) := by decide +kernel
theorem dX4_readPerson_22 : decode cX4_readPerson 22 = .ok (.aload_n 2, 1) := by decide +kernel
theorem dX4_readPerson_23 : decode cX4_readPerson 23 = .ok (.iconst 1, 1) := by decide +kernel
theorem dX4_readPerson_24 : decode cX4_readPerson 24 = .ok (.putfield 150, 3) := by decide +kernel
theorem dX4_readPerson_27 : decode cX4_readPerson 27 = .ok (.aload_n 0, 1) := by decide +kernel
theorem dX4_readPerson_28 : decode cX4_readPerson 28 = .ok (.bipush 10, 2) := by decide +kernel
theorem dX4_readPerson_30 : decode cX4_readPerson 30 = .ok (.invokevirtual 115, 3) := by decide +kernel
theorem dX4_readPerson_33 : decode cX4_readPerson 33 = .ok (.ifCond .eq 23, 3) := by decide +kernel
theorem dX4_readPerson_36 : decode cX4_readPerson 36 = .ok (.aload_n 0, 1) := by decide +kernel
theorem dX4_readPerson_37 : decode cX4_readPerson 37 = .ok (.iconst 0, 1) := by decide +kernel
theorem dX4_readPerson_38 : decode cX4_readPerson 38 = .ok (.bipush 99, 2) := by decide +kernel
theorem dX4_readPerson_40 : decode cX4_readPerson 40 = .ok (.invokevirtual 151, 3) := by decide +kernel
theorem dX4_readPerson_43 : decode cX4_readPerson 43 = .ok (.ifCond .ne 5, 3) := by decide +kernel
theorem dX4_readPerson_46 : decode cX4_readPerson 46 = .ok (.iconst 0, 1) := by decide +kernel
theorem dX4_readPerson_47 : decode cX4_readPerson 47 = .ok (.ireturn, 1) := by decide +kernel
theorem dX4_readPerson_48 : decode cX4_readPerson 48 = .ok (.aload_n 2, 1) := by decide +kernel
theorem dX4_readPerson_49 : decode cX4_readPerson 49 = .ok (.aload_n 0, 1) := by decide +kernel
theorem dX4_readPerson_50 : decode cX4_readPerson 50 = .ok (.getfield 19, 3) := by decide +kernel
theorem dX4_readPerson_53 : decode cX4_readPerson 53 = .ok (.putfield 155, 3) := by decide +kernel
theorem dX4_readPerson_56 : decode cX4_readPerson 56 = .ok (.aload_n 0, 1) := by decide +kernel
theorem dX4_readPerson_57 : decode cX4_readPerson 57 = .ok (.bipush 12, 2) := by decide +kernel
theorem dX4_readPerson_59 : decode cX4_readPerson 59 = .ok (.invokevirtual 115, 3) := by decide +kernel
theorem dX4_readPerson_62 : decode cX4_readPerson 62 = .ok (.ifCond .eq 12, 3) := by decide +kernel
theorem dX4_readPerson_65 : decode cX4_readPerson 65 = .ok (.aload_n 0, 1) := by decide +kernel
theorem dX4_readPerson_66 : decode cX4_readPerson 66 = .ok (.aload_n 2, 1) := by decide +kernel
theorem dX4_readPerson_67 : decode cX4_readPerson 67 = .ok (.aload_n 1, 1) := by decide +kernel
theorem dX4_readPerson_68 : decode cX4_readPerson 68 = .ok (.invokevirtual 158, 3) := by decide +kernel
theorem dX4_readPerson_71 : decode cX4_readPerson 71 = .ok (.ifCond .eq 7, 3) := by decide +kernel
theorem dX4_readPerson_74 : decode cX4_readPerson 74 = .ok (.iconst 1, 1) := by decide +kernel
theorem dX4_readPerson_75 : decode cX4_readPerson 75 = .ok (.goto 4, 3) := by decide +kernel
theorem dX4_readPerson_78 : decode cX4_readPerson 78 = .ok (.iconst 0, 1) := by decide +kernel
theorem dX4_readPerson_79 : decode cX4_readPerson 79 = .ok (.ireturn, 1) := by decide +kernel
set_option maxRecDepth 20000 in
theorem ggX4_readSmells_X0_numberOf : GoodIn wsX4_readSmells wsX0_numberOf := goodIn_r _ [9, 10, 11, 12, 13, 8, 14, 15, 16, 17, 18, 87, 88, 89, 90, 91, 92, 93, 94, 95, 96, 97, 98, 99, 100] (by decide +kernel) (by decide +kernel)
set_option maxRecDepth 20000 in
theorem gX4_readSmells_X0_numberOf : GoodIn wsX4_readSmells (wsV RX4 166 RX0 yX0_numberOf wsX0_numberOf) := goodIn_app (goodIn_of _ (by decide +kernel)) ggX4_readSmells_X0_numberOf
set_option maxRecDepth 20000 in
theorem ggX4_readSmells_X7_refuse : GoodIn wsX4_readSmells wsX7_refuse := goodIn_r _ [23, 24, 25, 26, 27, 71, 72, 73, 74, 75, 76, 77, 78, 79, 80, 81] (by decide +kernel) (by decide +kernel)
set_option maxRecDepth 20000 in
theorem gX4_readSmells_X7_refuse : GoodIn wsX4_readSmells (wsV RX4 57 RX7 yX7_refuse wsX7_refuse) := goodIn_app (goodIn_of _ (by decide +kernel)) ggX4_readSmells_X7_refuse
set_option maxRecDepth 20000 in
theorem ggX4_readSmells_X11_isIn : GoodIn wsX4_readSmells wsX11_isIn := goodIn_r _ [29] (by decide +kernel) (by decide +kernel)
set_option maxRecDepth 20000 in
theorem gX4_readSmells_X11_isIn_n173 : GoodIn wsX4_readSmells (wsX11_isIn) := ggX4_readSmells_X11_isIn
set_option maxRecDepth 20000 in
theorem ggX4_readSmells_X7_goOn : GoodIn wsX4_readSmells wsX7_goOn := goodIn_r _ [33, 34, 35, 26, 24, 36, 37, 38, 39, 40, 22, 41, 42, 43, 44, 45, 46, 47, 48, 49, 50, 51, 52, 53, 54, 55, 56, 57, 58, 59, 60, 61, 62, 63, 64, 71, 72, 73, 74, 75, 76, 77, 78, 79, 80, 81] (by decide +kernel) (by decide +kernel)
set_option maxRecDepth 20000 in
theorem gX4_readSmells_X7_goOn : GoodIn wsX4_readSmells (wsV RX4 63 RX7 yX7_goOn wsX7_goOn) := goodIn_app (goodIn_of _ (by decide +kernel)) ggX4_readSmells_X7_goOn
theorem dX4_readSmells_0 : decode cX4_readSmells 0 = .ok (.iconst 0, 1) := by decide +kernel
theorem dX4_readSmells_1 : decode cX4_readSmells 1 = .ok (.istore_n 3, 1) := by decide +kernel
theorem dX4_readSmells_2 : decode cX4_readSmells 2 = .ok (.iload_n 3, 1) := by decide +kernel
theorem dX4_readSmells_3 : decode cX4_readSmells 3 = .ok (.iconst 5, 1) := by decide +kernel
theorem dX4_readSmells_4 : decode cX4_readSmells 4 = .ok (.if_icmp .gt 91, 3) := by decide +kernel
theorem dX4_readSmells_7 : decode cX4_readSmells 7 = .ok (.aload_n 0, 1) := by decide +kernel
theorem dX4_readSmells_8 : decode cX4_readSmells 8 = .ok (.getfield 28, 3) := by decide +kernel
theorem dX4_readSmells_11 : decode cX4_readSmells 11 = .ok (.getfield 43, 3) := by decide +kernel
theorem dX4_readSmells_14 : decode cX4_readSmells 14 = .ok (.bipush 29, 2) := by decide +kernel
theorem dX4_readSmells_16 : decode cX4_readSmells 16 = .ok (.if_icmp .ne 79, 3) := by decide +kernel
theorem dX4_readSmells_19 : decode cX4_readSmells 19 = .ok (.aload_n 2, 1) := by decide +kernel
theorem dX4_readSmells_20 : decode cX4_readSmells 20 = .ok (.iconst 0, 1) := by decide +kernel
theorem dX4_readSmells_21 : decode cX4_readSmells 21 = .ok (.aload_n 0, 1) := by decide +kernel
theorem dX4_readSmells_22 : decode cX4_readSmells 22 = .ok (.getfield 28, 3) := by decide +kernel
theorem dX4_readSmells_25 : decode cX4_readSmells 25 = .ok (.getfield 162, 3) := by decide +kernel
theorem dX4_readSmells_28 : decode cX4_readSmells 28 = .ok (.invokevirtual 166, 3) := by decide +kernel
theorem dX4_readSmells_31 : decode cX4_readSmells 31 = .ok (.istore 4, 2) := by decide +kernel
theorem dX4_readSmells_33 : decode cX4_readSmells 33 = .ok (.iload 4, 2) := by decide +kernel
theorem dX4_readSmells_35 : decode cX4_readSmells 35 = .ok (.iconst (-1), 1) := by decide +kernel
theorem dX4_readSmells_36 : decode cX4_readSmells 36 = .ok (.if_icmp .ne 12, 3) := by decide +kernel
theorem dX4_readSmells_39 : decode cX4_readSmells 39 = .ok (.aload_n 0, 1) := by decide +kernel
theorem dX4_readSmells_40 : decode cX4_readSmells 40 = .ok (.getfield 28, 3) := by decide +kernel
theorem dX4_readSmells_43 : decode cX4_readSmells 43 = .ok (.iconst 3, 1) := by decide +kernel
theorem dX4_readSmells_44 : decode cX4_readSmells 44 = .ok (.invokevirtual 57, 3) := by decide +kernel
theorem dX4_readSmells_47 : decode cX4_readSmells 47 = .ok (.ireturn, 1) := by decide +kernel
theorem dX4_readSmells_48 : decode cX4_readSmells 48 = .ok (.aload_n 1, 1) := by decide +kernel
theorem dX4_readSmells_49 : decode cX4_readSmells 49 = .ok (.getfield 170, 3) := by decide +kernel
theorem dX4_readSmells_52 : decode cX4_readSmells 52 = .ok (.iload 4, 2) := by decide +kernel
theorem dX4_readSmells_54 : decode cX4_readSmells 54 = .ok (.invokestatic 173, 3) := by decide +kernel
theorem dX4_readSmells_57 : decode cX4_readSmells 57 = .ok (.ifCond .eq 12, 3) := by decide +kernel
theorem dX4_readSmells_60 : decode cX4_readSmells 60 = .ok (.aload_n 0, 1) := by decide +kernel
theorem dX4_readSmells_61 : decode cX4_readSmells 61 = .ok (.getfield 28, 3) := by decide +kernel
theorem dX4_readSmells_64 : decode cX4_readSmells 64 = .ok (.iconst 5, 1) := by decide +kernel
theorem dX4_readSmells_65 : decode cX4_readSmells 65 = .ok (.invokevirtual 57, 3) := by decide +kernel
theorem dX4_readSmells_68 : decode cX4_readSmells 68 = .ok (.ireturn, 1) := by decide +kernel
theorem dX4_readSmells_69 : decode cX4_readSmells 69 = .ok (.aload_n 1, 1) := by decide +kernel
theorem dX4_readSmells_70 : decode cX4_readSmells 70 = .ok (.dup, 1) := by decide +kernel
theorem dX4_readSmells_71 : decode cX4_readSmells 71 = .ok (.getfield 170, 3) := by decide +kernel
theorem dX4_readSmells_74 : decode cX4_readSmells 74 = .ok (.iconst 1, 1) := by decide +kernel
theorem dX4_readSmells_75 : decode cX4_readSmells 75 = .ok (.iload 4, 2) := by decide +kernel
theorem dX4_readSmells_77 : decode cX4_readSmells 77 = .ok (.ishl, 1) := by decide +kernel
theorem dX4_readSmells_78 : decode cX4_readSmells 78 = .ok (.ior, 1) := by decide +kernel
theorem dX4_readSmells_79 : decode cX4_readSmells 79 = .ok (.putfield 170, 3) := by decide +kernel
theorem dX4_readSmells_82 : decode cX4_readSmells 82 = .ok (.aload_n 0, 1) := by decide +kernel
theorem dX4_readSmells_83 : decode cX4_readSmells 83 = .ok (.getfield 28, 3) := by decide +kernel
theorem dX4_readSmells_86 : decode cX4_readSmells 86 = .ok (.invokevirtual 63, 3) := by decide +kernel
theorem dX4_readSmells_89 : decode cX4_readSmells 89 = .ok (.iinc 3 1, 3) := by decide +kernel
theorem dX4_readSmells_92 : decode cX4_readSmells 92 = .ok (.goto (-90), 3) := by decide +kernel
theorem dX4_readSmells_95 : decode cX4_readSmells 95 = .ok (.iconst 1, 1) := by decide +kernel
theorem dX4_readSmells_96 : decode cX4_readSmells 96 = .ok (.ireturn, 1) := by decide +kernel
set_option maxRecDepth 20000 in
theorem ggX4_readReader_X4_take : GoodIn wsX4_readReader wsX4_take := goodIn_r _ [8, 9, 10, 11, 12, 7, 13, 14, 15, 16, 17, 18, 19, 20, 21, 22, 23, 24, 25, 26, 27, 28, 29, 30, 31, 32, 33, 34, 35, 36, 37, 38, 39, 40, 41, 42, 43, 44, 45, 46, 47, 48, 49, 50, 51, 52, 53, 54, 55, 56, 57, 58, 67, 68, 69, 70, 71, 72, 87, 88, 89, 90, 91, 92, 93, 94, 95, 96, 97] (by decide +kernel) (by decide +kernel)
set_option maxRecDepth 20000 in
theorem gX4_readReader_X4_take : GoodIn wsX4_readReader (wsV RX4 53 RX4 yX4_take wsX4_take) := goodIn_app (goodIn_of _ (by decide +kernel)) ggX4_readReader_X4_take
set_option maxRecDepth 20000 in
theorem ggX4_readReader_X4_takeNumber : GoodIn wsX4_readReader wsX4_takeNumber := goodIn_r _ [62, 9, 14, 63, 1, 53, 54, 55, 18, 56, 23, 57, 22, 58, 15, 16, 17, 19, 20, 21, 24, 25, 26, 27, 28, 29, 30, 31, 32, 33, 34, 35, 36, 37, 38, 39, 40, 41, 42, 43, 44, 45, 46, 47, 48, 49, 50, 51, 52, 67, 68, 69, 70, 71, 72, 87, 88, 89, 90, 91, 92, 93, 94, 95, 96, 97] (by decide +kernel) (by decide +kernel)
set_option maxRecDepth 20000 in
theorem gX4_readReader_X4_takeNumber : GoodIn wsX4_readReader (wsV RX4 151 RX4 yX4_takeNumber wsX4_takeNumber) := goodIn_app (goodIn_of _ (by decide +kernel)) ggX4_readReader_X4_takeNumber
set_option maxRecDepth 20000 in
theorem ggX4_readReader_X11_put : GoodIn wsX4_readReader wsX11_put := goodIn_r _ [66] (by decide +kernel) (by decide +kernel)
set_option maxRecDepth 20000 in
theorem gX4_readReader_X11_put_n95 : GoodIn wsX4_readReader (wsX11_put) := ggX4_readReader_X11_put
theorem dX4_readReader_0 : decode cX4_readReader 0 = .ok (.aload_n 0, 1) := by decide +kernel
theorem dX4_readReader_1 : decode cX4_readReader 1 = .ok (.getfield 19, 3) := by decide +kernel
theorem dX4_readReader_4 : decode cX4_readReader 4 = .ok (.istore_n 2, 1) := by decide +kernel
theorem dX4_readReader_5 : decode cX4_readReader 5 = .ok (.aload_n 0, 1) := by decide +kernel
theorem dX4_readReader_6 : decode cX4_readReader 6 = .ok (.bipush 13, 2) := by decide +kernel
theorem dX4_readReader_8 : decode cX4_readReader 8 = .ok (.invokevirtual 53, 3) := by decide +kernel
theorem dX4_readReader_11 : decode cX4_readReader 11 = .ok (.ifCond .eq 13, 3) := by decide +kernel
theorem dX4_readReader_14 : decode cX4_readReader 14 = .ok (.aload_n 0, 1) := by decide +kernel
theorem dX4_readReader_15 : decode cX4_readReader 15 = .ok (.iconst 0, 1) := by decide +kernel
theorem dX4_readReader_16 : decode cX4_readReader 16 = .ok (.bipush 16, 2) := by decide +kernel
theorem dX4_readReader_18 : decode cX4_readReader 18 = .ok (.invokevirtual 151, 3) := by decide +kernel
theorem dX4_readReader_21 : decode cX4_readReader 21 = .ok (.ifCond .ne 5, 3) := by decide +kernel
theorem dX4_readReader_24 : decode cX4_readReader 24 = .ok (.iconst 0, 1) := by decide +kernel
theorem dX4_readReader_25 : decode cX4_readReader 25 = .ok (.ireturn, 1) := by decide +kernel
theorem dX4_readReader_26 : decode cX4_readReader 26 = .ok (.aload_n 1, 1) := by decide +kernel
theorem dX4_readReader_27 : decode cX4_readReader 27 = .ok (.getfield 176, 3) := by decide +kernel
theorem dX4_readReader_30 : decode cX4_readReader 30 = .ok (.iload_n 2, 1) := by decide +kernel
theorem dX4_readReader_31 : decode cX4_readReader 31 = .ok (.aload_n 0, 1) := by decide +kernel
theorem dX4_readReader_32 : decode cX4_readReader 32 = .ok (.getfield 19, 3) := by decide +kernel
theorem dX4_readReader_35 : decode cX4_readReader 35 = .ok (.invokestatic 95, 3) := by decide +kernel
theorem dX4_readReader_38 : decode cX4_readReader 38 = .ok (.aload_n 0, 1) := by decide +kernel
theorem dX4_readReader_39 : decode cX4_readReader 39 = .ok (.bipush 14, 2) := by decide +kernel
theorem dX4_readReader_41 : decode cX4_readReader 41 = .ok (.invokevirtual 53, 3) := by decide +kernel
theorem dX4_readReader_44 : decode cX4_readReader 44 = .ok (.ifCond .eq 13, 3) := by decide +kernel
theorem dX4_readReader_47 : decode cX4_readReader 47 = .ok (.aload_n 0, 1) := by decide +kernel
theorem dX4_readReader_48 : decode cX4_readReader 48 = .ok (.iconst 1, 1) := by decide +kernel
theorem dX4_readReader_49 : decode cX4_readReader 49 = .ok (.bipush 9, 2) := by decide +kernel
theorem dX4_readReader_51 : decode cX4_readReader 51 = .ok (.invokevirtual 151, 3) := by decide +kernel
theorem dX4_readReader_54 : decode cX4_readReader 54 = .ok (.ifCond .ne 5, 3) := by decide +kernel
theorem dX4_readReader_57 : decode cX4_readReader 57 = .ok (.iconst 0, 1) := by decide +kernel
theorem dX4_readReader_58 : decode cX4_readReader 58 = .ok (.ireturn, 1) := by decide +kernel
theorem dX4_readReader_59 : decode cX4_readReader 59 = .ok (.aload_n 1, 1) := by decide +kernel
theorem dX4_readReader_60 : decode cX4_readReader 60 = .ok (.getfield 179, 3) := by decide +kernel
theorem dX4_readReader_63 : decode cX4_readReader 63 = .ok (.iload_n 2, 1) := by decide +kernel
theorem dX4_readReader_64 : decode cX4_readReader 64 = .ok (.aload_n 0, 1) := by decide +kernel
theorem dX4_readReader_65 : decode cX4_readReader 65 = .ok (.getfield 19, 3) := by decide +kernel
theorem dX4_readReader_68 : decode cX4_readReader 68 = .ok (.invokestatic 95, 3) := by decide +kernel
theorem dX4_readReader_71 : decode cX4_readReader 71 = .ok (.iconst 1, 1) := by decide +kernel
theorem dX4_readReader_72 : decode cX4_readReader 72 = .ok (.ireturn, 1) := by decide +kernel
set_option maxRecDepth 20000 in
theorem ggX4_readWord_X4_guiltHere : GoodIn wsX4_readWord wsX4_guiltHere := goodIn_r _ [9, 1, 10, 68, 69, 70, 71, 72, 73, 88, 89, 90, 91, 92, 93, 94, 95, 96, 97, 98] (by decide +kernel) (by decide +kernel)
set_option maxRecDepth 20000 in
theorem gX4_readWord_X4_guiltHere : GoodIn wsX4_readWord (wsV RX4 88 RX4 yX4_guiltHere wsX4_guiltHere) := goodIn_app (goodIn_of _ (by decide +kernel)) ggX4_readWord_X4_guiltHere
set_option maxRecDepth 20000 in
theorem ggX4_readWord_X7_refuse : GoodIn wsX4_readWord wsX7_refuse := goodIn_r _ [15, 16, 17, 18, 19, 88, 89, 90, 91, 92, 93, 94, 95, 96, 97, 98] (by decide +kernel) (by decide +kernel)
set_option maxRecDepth 20000 in
theorem gX4_readWord_X7_refuse : GoodIn wsX4_readWord (wsV RX4 57 RX7 yX7_refuse wsX7_refuse) := goodIn_app (goodIn_of _ (by decide +kernel)) ggX4_readWord_X7_refuse
set_option maxRecDepth 20000 in
theorem ggX4_readWord_X0_addOne : GoodIn wsX4_readWord wsX0_addOne := goodIn_r _ [24, 25, 26, 27, 28, 23, 29, 30, 31, 32, 74, 75, 76, 77, 78, 79, 80, 81, 82, 83, 84, 85, 86, 87] (by decide +kernel) (by decide +kernel)
set_option maxRecDepth 20000 in
theorem gX4_readWord_X0_addOne : GoodIn wsX4_readWord (wsV RX4 99 RX0 yX0_addOne wsX0_addOne) := goodIn_app (goodIn_of _ (by decide +kernel)) ggX4_readWord_X0_addOne
set_option maxRecDepth 20000 in
theorem ggX4_readWord_X11_put : GoodIn wsX4_readWord wsX11_put := goodIn_r _ [32] (by decide +kernel) (by decide +kernel)
set_option maxRecDepth 20000 in
theorem gX4_readWord_X11_put_n95 : GoodIn wsX4_readWord (wsX11_put) := ggX4_readWord_X11_put
set_option maxRecDepth 20000 in
theorem ggX4_readWord_X7_goOn : GoodIn wsX4_readWord wsX7_goOn := goodIn_r _ [36, 37, 38, 18, 16, 39, 40, 41, 42, 43, 14, 44, 45, 46, 47, 48, 49, 50, 51, 52, 53, 54, 55, 56, 57, 58, 59, 60, 61, 62, 63, 64, 65, 66, 67, 88, 89, 90, 91, 92, 93, 94, 95, 96, 97, 98] (by decide +kernel) (by decide +kernel)
set_option maxRecDepth 20000 in
theorem gX4_readWord_X7_goOn : GoodIn wsX4_readWord (wsV RX4 63 RX7 yX7_goOn wsX7_goOn) := goodIn_app (goodIn_of _ (by decide +kernel)) ggX4_readWord_X7_goOn
theorem dX4_readWord_0 : decode cX4_readWord 0 = .ok (.aload_n 0, 1) := by decide +kernel
theorem dX4_readWord_1 : decode cX4_readWord 1 = .ok (.invokevirtual 88, 3) := by decide +kernel
theorem dX4_readWord_4 : decode cX4_readWord 4 = .ok (.istore_n 2, 1) := by decide +kernel
theorem dX4_readWord_5 : decode cX4_readWord 5 = .ok (.iload_n 2, 1) := by decide +kernel
theorem dX4_readWord_6 : decode cX4_readWord 6 = .ok (.ifCond .ne 12, 3) := by decide +kernel
theorem dX4_readWord_9 : decode cX4_readWord 9 = .ok (.aload_n 0, 1) := by decide +kernel
theorem dX4_readWord_10 : decode cX4_readWord 10 = .ok (.getfield 28, 3) := by decide +kernel
theorem dX4_readWord_13 : decode cX4_readWord 13 = .ok (.iconst 2, 1) := by decide +kernel
theorem dX4_readWord_14 : decode cX4_readWord 14 = .ok (.invokevirtual 57, 3) := by decide +kernel
theorem dX4_readWord_17 : decode cX4_readWord 17 = .ok (.ireturn, 1) := by decide +kernel
theorem dX4_readWord_18 : decode cX4_readWord 18 = .ok (.aload_n 1, 1) := by decide +kernel
theorem dX4_readWord_19 : decode cX4_readWord 19 = .ok (.iconst 5, 1) := by decide +kernel
theorem dX4_readWord_20 : decode cX4_readWord 20 = .ok (.invokevirtual 99, 3) := by decide +kernel
theorem dX4_readWord_23 : decode cX4_readWord 23 = .ok (.istore_n 3, 1) := by decide +kernel
theorem dX4_readWord_24 : decode cX4_readWord 24 = .ok (.aload_n 1, 1) := by decide +kernel
theorem dX4_readWord_25 : decode cX4_readWord 25 = .ok (.getfield 182, 3) := by decide +kernel
theorem dX4_readWord_28 : decode cX4_readWord 28 = .ok (.iload_n 3, 1) := by decide +kernel
theorem dX4_readWord_29 : decode cX4_readWord 29 = .ok (.aload_n 0, 1) := by decide +kernel
theorem dX4_readWord_30 : decode cX4_readWord 30 = .ok (.getfield 19, 3) := by decide +kernel
theorem dX4_readWord_33 : decode cX4_readWord 33 = .ok (.invokestatic 95, 3) := by decide +kernel
theorem dX4_readWord_36 : decode cX4_readWord 36 = .ok (.aload_n 1, 1) := by decide +kernel
theorem dX4_readWord_37 : decode cX4_readWord 37 = .ok (.getfield 185, 3) := by decide +kernel
theorem dX4_readWord_40 : decode cX4_readWord 40 = .ok (.iload_n 3, 1) := by decide +kernel
theorem dX4_readWord_41 : decode cX4_readWord 41 = .ok (.iload_n 2, 1) := by decide +kernel
theorem dX4_readWord_42 : decode cX4_readWord 42 = .ok (.invokestatic 95, 3) := by decide +kernel
theorem dX4_readWord_45 : decode cX4_readWord 45 = .ok (.aload_n 0, 1) := by decide +kernel
theorem dX4_readWord_46 : decode cX4_readWord 46 = .ok (.getfield 28, 3) := by decide +kernel
theorem dX4_readWord_49 : decode cX4_readWord 49 = .ok (.invokevirtual 63, 3) := by decide +kernel
theorem dX4_readWord_52 : decode cX4_readWord 52 = .ok (.iconst 1, 1) := by decide +kernel
theorem dX4_readWord_53 : decode cX4_readWord 53 = .ok (.ireturn, 1) := by decide +kernel
set_option maxRecDepth 20000 in
theorem ggX4_readWeeks_X9_clear : GoodIn wsX4_readWeeks wsX9_clear := goodIn_r _ [10, 11, 12, 149, 150, 151] (by decide +kernel) (by decide +kernel)
set_option maxRecDepth 20000 in
theorem gX4_readWeeks_X9_clear : GoodIn wsX4_readWeeks (wsV RX4 188 RX9 yX9_clear wsX9_clear) := goodIn_app (goodIn_of _ (by decide +kernel)) ggX4_readWeeks_X9_clear
set_option maxRecDepth 20000 in
theorem ggX4_readWeeks_X7_begin : GoodIn wsX4_readWeeks wsX7_begin := goodIn_r _ [17, 18, 19, 20, 21, 22, 23, 24, 16, 25, 26, 27, 28, 29, 30, 31, 32, 33, 34, 35, 36, 37, 38, 39, 40, 41, 42, 43, 44, 45, 46, 47, 48, 49, 50, 51, 52, 53, 54, 55, 56, 138, 139, 140, 141, 142, 143, 144, 145, 146, 147, 148] (by decide +kernel) (by decide +kernel)
set_option maxRecDepth 20000 in
theorem gX4_readWeeks_X7_begin : GoodIn wsX4_readWeeks (wsV RX4 37 RX7 yX7_begin wsX7_begin) := goodIn_app (goodIn_of _ (by decide +kernel)) ggX4_readWeeks_X7_begin
set_option maxRecDepth 20000 in
theorem ggX4_readWeeks_X4_closeStep : GoodIn wsX4_readWeeks wsX4_closeStep := goodIn_r _ [61, 1, 2, 62, 4, 63, 64, 65, 16, 66, 27, 20, 26, 21, 67, 68, 69, 70, 71, 72, 9, 73, 74, 75, 76, 77, 23, 24, 25, 19, 18, 28, 29, 30, 31, 32, 33, 34, 35, 36, 37, 38, 39, 40, 41, 42, 43, 44, 45, 46, 47, 48, 49, 50, 51, 52, 53, 54, 55, 56, 132, 133, 134, 135, 136, 137, 149, 150, 151, 138, 139, 140, 141, 142, 143, 144, 145, 146, 147, 148] (by decide +kernel) (by decide +kernel)
set_option maxRecDepth 20000 in
theorem gX4_readWeeks_X4_closeStep : GoodIn wsX4_readWeeks (wsV RX4 194 RX4 yX4_closeStep wsX4_closeStep) := goodIn_app (goodIn_of _ (by decide +kernel)) ggX4_readWeeks_X4_closeStep
set_option maxRecDepth 20000 in
theorem ggX4_readWeeks_X4_beginStep : GoodIn wsX4_readWeeks wsX4_beginStep := goodIn_r _ [81, 2, 4, 1, 62, 63, 64, 65, 16, 66, 27, 20, 26, 21, 70, 71, 72, 9, 73, 74, 75, 68, 76, 77, 23, 24, 25, 19, 18, 28, 29, 30, 31, 32, 33, 34, 35, 36, 37, 38, 39, 40, 41, 42, 43, 44, 45, 46, 47, 48, 49, 50, 51, 52, 53, 54, 55, 56, 132, 133, 134, 135, 136, 137, 149, 150, 151, 138, 139, 140, 141, 142, 143, 144, 145, 146, 147, 148] (by decide +kernel) (by decide +kernel)
set_option maxRecDepth 20000 in
theorem gX4_readWeeks_X4_beginStep : GoodIn wsX4_readWeeks (wsV RX4 198 RX4 yX4_beginStep wsX4_beginStep) := goodIn_app (goodIn_of _ (by decide +kernel)) ggX4_readWeeks_X4_beginStep
set_option maxRecDepth 20000 in
theorem ggX4_readWeeks_X4_readStep : GoodIn wsX4_readWeeks wsX4_readStep := goodIn_r _ [85, 86, 87, 88, 60, 89, 2, 3, 90, 91, 63, 64, 65, 16, 66, 27, 20, 26, 21, 92, 93, 94, 95, 96, 97, 98, 99, 100, 101, 102, 103, 68, 104, 77, 23, 24, 25, 19, 18, 28, 29, 30, 31, 32, 33, 34, 35, 36, 37, 38, 39, 40, 41, 42, 43, 44, 45, 46, 47, 48, 49, 50, 51, 52, 53, 54, 55, 56, 105, 106, 107, 108, 70, 71, 72, 9, 73, 74, 75, 76, 109, 110, 111, 112, 113, 114, 115, 116, 117, 118, 119, 120, 121, 122, 123, 132, 133, 134, 135, 136, 137, 138, 139, 140, 141, 142, 143, 144, 145, 146, 147, 148, 152, 153, 154, 155, 156, 157, 158, 159, 160, 161, 162, 163, 164, 165, 149, 150, 151] (by decide +kernel) (by decide +kernel)
set_option maxRecDepth 20000 in
theorem gX4_readWeeks_X4_readStep : GoodIn wsX4_readWeeks (wsV RX4 202 RX4 yX4_readStep wsX4_readStep) := goodIn_app (goodIn_of _ (by decide +kernel)) ggX4_readWeeks_X4_readStep
set_option maxRecDepth 20000 in
theorem ggX4_readWeeks_X4_take : GoodIn wsX4_readWeeks wsX4_take := goodIn_r _ [127, 2, 128, 129, 130, 60, 131, 3, 77, 23, 24, 16, 25, 19, 18, 26, 27, 28, 29, 30, 31, 32, 33, 34, 35, 36, 37, 38, 39, 40, 41, 42, 43, 44, 45, 46, 47, 48, 49, 50, 51, 52, 53, 54, 55, 56, 63, 64, 65, 66, 20, 21, 132, 133, 134, 135, 136, 137, 138, 139, 140, 141, 142, 143, 144, 145, 146, 147, 148] (by decide +kernel) (by decide +kernel)
set_option maxRecDepth 20000 in
theorem gX4_readWeeks_X4_take : GoodIn wsX4_readWeeks (wsV RX4 53 RX4 yX4_take wsX4_take) := goodIn_app (goodIn_of _ (by decide +kernel)) ggX4_readWeeks_X4_take
set_option maxRecDepth 20000 in
theorem ggX4_readWeeks_X7_refuse : GoodIn wsX4_readWeeks wsX7_refuse := goodIn_r _ [66, 27, 20, 26, 21, 138, 139, 140, 141, 142, 143, 144, 145, 146, 147, 148] (by decide +kernel) (by decide +kernel)
set_option maxRecDepth 20000 in
theorem gX4_readWeeks_X7_refuse : GoodIn wsX4_readWeeks (wsV RX4 57 RX7 yX7_refuse wsX7_refuse) := goodIn_app (goodIn_of _ (by decide +kernel)) ggX4_readWeeks_X7_refuse
theorem dX4_readWeeks_0 : decode cX4_readWeeks 0 = .ok (.aload_n 3, 1) := by decide +kernel
theorem dX4_readWeeks_1 : decode cX4_readWeeks 1 = .ok (.invokevirtual 188, 3) := by decide +kernel
theorem dX4_readWeeks_4 : decode cX4_readWeeks 4 = .ok (.aload_n 0, 1) := by decide +kernel
theorem dX4_readWeeks_5 : decode cX4_readWeeks 5 = .ok (.iconst 0, 1) := by decide +kernel
theorem dX4_readWeeks_6 : decode cX4_readWeeks 6 = .ok (.putfield 15, 3) := by decide +kernel
theorem dX4_readWeeks_9 : decode cX4_readWeeks 9 = .ok (.aload_n 0, 1) := by decide +kernel
theorem dX4_readWeeks_10 : decode cX4_readWeeks 10 = .ok (.getfield 28, 3) := by decide +kernel
theorem dX4_readWeeks_13 : decode cX4_readWeeks 13 = .ok (.iload_n 1, 1) := by decide +kernel
theorem dX4_readWeeks_14 : decode cX4_readWeeks 14 = .ok (.invokevirtual 37, 3) := by decide +kernel
theorem dX4_readWeeks_17 : decode cX4_readWeeks 17 = .ok (.iconst 0, 1) := by decide +kernel
theorem dX4_readWeeks_18 : decode cX4_readWeeks 18 = .ok (.istore 4, 2) := by decide +kernel
theorem dX4_readWeeks_20 : decode cX4_readWeeks 20 = .ok (.iload 4, 2) := by decide +kernel
theorem dX4_readWeeks_22 : decode cX4_readWeeks 22 = .ok (.sipush 900, 3) := by decide +kernel
theorem dX4_readWeeks_25 : decode cX4_readWeeks 25 = .ok (.if_icmp .ge 97, 3) := by decide +kernel
theorem dX4_readWeeks_28 : decode cX4_readWeeks 28 = .ok (.aload_n 0, 1) := by decide +kernel
theorem dX4_readWeeks_29 : decode cX4_readWeeks 29 = .ok (.getfield 28, 3) := by decide +kernel
theorem dX4_readWeeks_32 : decode cX4_readWeeks 32 = .ok (.getfield 43, 3) := by decide +kernel
theorem dX4_readWeeks_35 : decode cX4_readWeeks 35 = .ok (.bipush 32, 2) := by decide +kernel
theorem dX4_readWeeks_37 : decode cX4_readWeeks 37 = .ok (.if_icmp .eq 85, 3) := by decide +kernel
theorem dX4_readWeeks_40 : decode cX4_readWeeks 40 = .ok (.aload_n 0, 1) := by decide +kernel
theorem dX4_readWeeks_41 : decode cX4_readWeeks 41 = .ok (.getfield 28, 3) := by decide +kernel
theorem dX4_readWeeks_44 : decode cX4_readWeeks 44 = .ok (.getfield 43, 3) := by decide +kernel
theorem dX4_readWeeks_47 : decode cX4_readWeeks 47 = .ok (.istore 5, 2) := by decide +kernel
theorem dX4_readWeeks_49 : decode cX4_readWeeks 49 = .ok (.aload_n 3, 1) := by decide +kernel
theorem dX4_readWeeks_50 : decode cX4_readWeeks 50 = .ok (.getfield 191, 3) := by decide +kernel
theorem dX4_readWeeks_53 : decode cX4_readWeeks 53 = .ok (.istore 6, 2) := by decide +kernel
theorem dX4_readWeeks_55 : decode cX4_readWeeks 55 = .ok (.iload 5, 2) := by decide +kernel
theorem dX4_readWeeks_57 : decode cX4_readWeeks 57 = .ok (.bipush 28, 2) := by decide +kernel
theorem dX4_readWeeks_59 : decode cX4_readWeeks 59 = .ok (.if_icmp .ne 11, 3) := by decide +kernel
theorem dX4_readWeeks_62 : decode cX4_readWeeks 62 = .ok (.aload_n 0, 1) := by decide +kernel
theorem dX4_readWeeks_63 : decode cX4_readWeeks 63 = .ok (.aload_n 3, 1) := by decide +kernel
theorem dX4_readWeeks_64 : decode cX4_readWeeks 64 = .ok (.invokevirtual 194, 3) := by decide +kernel
theorem dX4_readWeeks_67 : decode cX4_readWeeks 67 = .ok (.goto 31, 3) := by decide +kernel
theorem dX4_readWeeks_70 : decode cX4_readWeeks 70 = .ok (.aload_n 0, 1) := by decide +kernel
theorem dX4_readWeeks_71 : decode cX4_readWeeks 71 = .ok (.iload 5, 2) := by decide +kernel
theorem dX4_readWeeks_73 : decode cX4_readWeeks 73 = .ok (.aload_n 3, 1) := by decide +kernel
theorem dX4_readWeeks_74 : decode cX4_readWeeks 74 = .ok (.invokevirtual 198, 3) := by decide +kernel
theorem dX4_readWeeks_77 : decode cX4_readWeeks 77 = .ok (.ifCond .eq 20, 3) := by decide +kernel
theorem dX4_readWeeks_80 : decode cX4_readWeeks 80 = .ok (.aload_n 0, 1) := by decide +kernel
theorem dX4_readWeeks_81 : decode cX4_readWeeks 81 = .ok (.iload 5, 2) := by decide +kernel
theorem dX4_readWeeks_83 : decode cX4_readWeeks 83 = .ok (.iload 6, 2) := by decide +kernel
theorem dX4_readWeeks_85 : decode cX4_readWeeks 85 = .ok (.aload_n 2, 1) := by decide +kernel
theorem dX4_readWeeks_86 : decode cX4_readWeeks 86 = .ok (.aload_n 3, 1) := by decide +kernel
theorem dX4_readWeeks_87 : decode cX4_readWeeks 87 = .ok (.invokevirtual 202, 3) := by decide +kernel
theorem dX4_readWeeks_90 : decode cX4_readWeeks 90 = .ok (.ifCond .eq 7, 3) := by decide +kernel
theorem dX4_readWeeks_93 : decode cX4_readWeeks 93 = .ok (.iconst 1, 1) := by decide +kernel
theorem dX4_readWeeks_94 : decode cX4_readWeeks 94 = .ok (.goto 4, 3) := by decide +kernel
theorem dX4_readWeeks_97 : decode cX4_readWeeks 97 = .ok (.iconst 0, 1) := by decide +kernel
theorem dX4_readWeeks_98 : decode cX4_readWeeks 98 = .ok (.istore 7, 2) := by decide +kernel
theorem dX4_readWeeks_100 : decode cX4_readWeeks 100 = .ok (.iload 7, 2) := by decide +kernel
theorem dX4_readWeeks_102 : decode cX4_readWeeks 102 = .ok (.ifCond .eq 12, 3) := by decide +kernel
theorem dX4_readWeeks_105 : decode cX4_readWeeks 105 = .ok (.aload_n 0, 1) := by decide +kernel
theorem dX4_readWeeks_106 : decode cX4_readWeeks 106 = .ok (.bipush 59, 2) := by decide +kernel
theorem dX4_readWeeks_108 : decode cX4_readWeeks 108 = .ok (.invokevirtual 53, 3) := by decide +kernel
theorem dX4_readWeeks_111 : decode cX4_readWeeks 111 = .ok (.ifCond .ne 5, 3) := by decide +kernel
theorem dX4_readWeeks_114 : decode cX4_readWeeks 114 = .ok (.iconst 0, 1) := by decide +kernel
theorem dX4_readWeeks_115 : decode cX4_readWeeks 115 = .ok (.ireturn, 1) := by decide +kernel
theorem dX4_readWeeks_116 : decode cX4_readWeeks 116 = .ok (.iinc 4 1, 3) := by decide +kernel
theorem dX4_readWeeks_119 : decode cX4_readWeeks 119 = .ok (.goto (-99), 3) := by decide +kernel
theorem dX4_readWeeks_122 : decode cX4_readWeeks 122 = .ok (.aload_n 0, 1) := by decide +kernel
theorem dX4_readWeeks_123 : decode cX4_readWeeks 123 = .ok (.getfield 15, 3) := by decide +kernel
theorem dX4_readWeeks_126 : decode cX4_readWeeks 126 = .ok (.ifCond .le 12, 3) := by decide +kernel
theorem dX4_readWeeks_129 : decode cX4_readWeeks 129 = .ok (.aload_n 0, 1) := by decide +kernel
theorem dX4_readWeeks_130 : decode cX4_readWeeks 130 = .ok (.getfield 28, 3) := by decide +kernel
theorem dX4_readWeeks_133 : decode cX4_readWeeks 133 = .ok (.iconst 2, 1) := by decide +kernel
theorem dX4_readWeeks_134 : decode cX4_readWeeks 134 = .ok (.invokevirtual 57, 3) := by decide +kernel
theorem dX4_readWeeks_137 : decode cX4_readWeeks 137 = .ok (.ireturn, 1) := by decide +kernel
theorem dX4_readWeeks_138 : decode cX4_readWeeks 138 = .ok (.aload_n 3, 1) := by decide +kernel
theorem dX4_readWeeks_139 : decode cX4_readWeeks 139 = .ok (.iconst 1, 1) := by decide +kernel
theorem dX4_readWeeks_140 : decode cX4_readWeeks 140 = .ok (.putfield 206, 3) := by decide +kernel
theorem dX4_readWeeks_143 : decode cX4_readWeeks 143 = .ok (.iconst 1, 1) := by decide +kernel
theorem dX4_readWeeks_144 : decode cX4_readWeeks 144 = .ok (.ireturn, 1) := by decide +kernel
set_option maxRecDepth 20000 in
theorem ggX4_closeStep_X7_refuse : GoodIn wsX4_closeStep wsX7_refuse := goodIn_r _ [9, 10, 11, 12, 13, 69, 70, 71, 72, 73, 74, 75, 76, 77, 78, 79] (by decide +kernel) (by decide +kernel)
set_option maxRecDepth 20000 in
theorem gX4_closeStep_X7_refuse : GoodIn wsX4_closeStep (wsV RX4 57 RX7 yX7_refuse wsX7_refuse) := goodIn_app (goodIn_of _ (by decide +kernel)) ggX4_closeStep_X7_refuse
set_option maxRecDepth 20000 in
theorem ggX4_closeStep_X11_cell : GoodIn wsX4_closeStep wsX11_cell := goodIn_r _ [16] (by decide +kernel) (by decide +kernel)
set_option maxRecDepth 20000 in
theorem gX4_closeStep_X11_cell_n210 : GoodIn wsX4_closeStep (wsX11_cell) := ggX4_closeStep_X11_cell
set_option maxRecDepth 20000 in
theorem ggX4_closeStep_X9_putCell : GoodIn wsX4_closeStep wsX9_putCell := goodIn_r _ [21, 22, 23, 15, 24, 66, 67, 68] (by decide +kernel) (by decide +kernel)
set_option maxRecDepth 20000 in
theorem gX4_closeStep_X9_putCell : GoodIn wsX4_closeStep (wsV RX4 214 RX9 yX9_putCell wsX9_putCell) := goodIn_app (goodIn_of _ (by decide +kernel)) ggX4_closeStep_X9_putCell
set_option maxRecDepth 20000 in
theorem ggX4_closeStep_X7_goOn : GoodIn wsX4_closeStep wsX7_goOn := goodIn_r _ [28, 29, 30, 12, 10, 31, 32, 33, 34, 35, 8, 36, 37, 38, 39, 40, 41, 42, 43, 44, 45, 46, 47, 48, 49, 50, 51, 52, 53, 54, 55, 56, 57, 58, 59, 69, 70, 71, 72, 73, 74, 75, 76, 77, 78, 79] (by decide +kernel) (by decide +kernel)
set_option maxRecDepth 20000 in
theorem gX4_closeStep_X7_goOn : GoodIn wsX4_closeStep (wsV RX4 63 RX7 yX7_goOn wsX7_goOn) := goodIn_app (goodIn_of _ (by decide +kernel)) ggX4_closeStep_X7_goOn
theorem dX4_closeStep_0 : decode cX4_closeStep 0 = .ok (.aload_n 0, 1) := by decide +kernel
theorem dX4_closeStep_1 : decode cX4_closeStep 1 = .ok (.getfield 15, 3) := by decide +kernel
theorem dX4_closeStep_4 : decode cX4_closeStep 4 = .ok (.ifCond .gt 12, 3) := by decide +kernel
theorem dX4_closeStep_7 : decode cX4_closeStep 7 = .ok (.aload_n 0, 1) := by decide +kernel
theorem dX4_closeStep_8 : decode cX4_closeStep 8 = .ok (.getfield 28, 3) := by decide +kernel
theorem dX4_closeStep_11 : decode cX4_closeStep 11 = .ok (.iconst 2, 1) := by decide +kernel
theorem dX4_closeStep_12 : decode cX4_closeStep 12 = .ok (.invokevirtual 57, 3) := by decide +kernel
theorem dX4_closeStep_15 : decode cX4_closeStep 15 = .ok (.ireturn, 1) := by decide +kernel
theorem dX4_closeStep_16 : decode cX4_closeStep 16 = .ok (.aload_n 0, 1) := by decide +kernel
theorem dX4_closeStep_17 : decode cX4_closeStep 17 = .ok (.dup, 1) := by decide +kernel
theorem dX4_closeStep_18 : decode cX4_closeStep 18 = .ok (.getfield 15, 3) := by decide +kernel
theorem dX4_closeStep_21 : decode cX4_closeStep 21 = .ok (.iconst 1, 1) := by decide +kernel
theorem dX4_closeStep_22 : decode cX4_closeStep 22 = .ok (.isub, 1) := by decide +kernel
theorem dX4_closeStep_23 : decode cX4_closeStep 23 = .ok (.putfield 15, 3) := by decide +kernel
theorem dX4_closeStep_26 : decode cX4_closeStep 26 = .ok (.aload_n 1, 1) := by decide +kernel
theorem dX4_closeStep_27 : decode cX4_closeStep 27 = .ok (.aload_n 0, 1) := by decide +kernel
theorem dX4_closeStep_28 : decode cX4_closeStep 28 = .ok (.getfield 11, 3) := by decide +kernel
theorem dX4_closeStep_31 : decode cX4_closeStep 31 = .ok (.aload_n 0, 1) := by decide +kernel
theorem dX4_closeStep_32 : decode cX4_closeStep 32 = .ok (.getfield 15, 3) := by decide +kernel
theorem dX4_closeStep_35 : decode cX4_closeStep 35 = .ok (.invokestatic 210, 3) := by decide +kernel
theorem dX4_closeStep_38 : decode cX4_closeStep 38 = .ok (.iconst 4, 1) := by decide +kernel
theorem dX4_closeStep_39 : decode cX4_closeStep 39 = .ok (.aload_n 1, 1) := by decide +kernel
theorem dX4_closeStep_40 : decode cX4_closeStep 40 = .ok (.getfield 191, 3) := by decide +kernel
theorem dX4_closeStep_43 : decode cX4_closeStep 43 = .ok (.invokevirtual 214, 3) := by decide +kernel
theorem dX4_closeStep_46 : decode cX4_closeStep 46 = .ok (.aload_n 0, 1) := by decide +kernel
theorem dX4_closeStep_47 : decode cX4_closeStep 47 = .ok (.getfield 28, 3) := by decide +kernel
theorem dX4_closeStep_50 : decode cX4_closeStep 50 = .ok (.invokevirtual 63, 3) := by decide +kernel
theorem dX4_closeStep_53 : decode cX4_closeStep 53 = .ok (.iconst 1, 1) := by decide +kernel
theorem dX4_closeStep_54 : decode cX4_closeStep 54 = .ok (.ireturn, 1) := by decide +kernel
set_option maxRecDepth 20000 in
theorem ggX4_beginStep_X7_refuse : GoodIn wsX4_beginStep wsX7_refuse := goodIn_r _ [9, 10, 11, 12, 13, 67, 68, 69, 70, 71, 72, 73, 74, 75, 76, 77] (by decide +kernel) (by decide +kernel)
set_option maxRecDepth 20000 in
theorem gX4_beginStep_X7_refuse : GoodIn wsX4_beginStep (wsV RX4 57 RX7 yX7_refuse wsX7_refuse) := goodIn_app (goodIn_of _ (by decide +kernel)) ggX4_beginStep_X7_refuse
set_option maxRecDepth 20000 in
theorem ggX4_beginStep_X9_putCell : GoodIn wsX4_beginStep wsX9_putCell := goodIn_r _ [18, 19, 20, 21, 22, 64, 65, 66] (by decide +kernel) (by decide +kernel)
set_option maxRecDepth 20000 in
theorem gX4_beginStep_X9_putCell : GoodIn wsX4_beginStep (wsV RX4 214 RX9 yX9_putCell wsX9_putCell) := goodIn_app (goodIn_of _ (by decide +kernel)) ggX4_beginStep_X9_putCell
set_option maxRecDepth 20000 in
theorem ggX4_beginStep_X11_put : GoodIn wsX4_beginStep wsX11_put := goodIn_r _ [22] (by decide +kernel) (by decide +kernel)
set_option maxRecDepth 20000 in
theorem gX4_beginStep_X11_put_n95 : GoodIn wsX4_beginStep (wsX11_put) := ggX4_beginStep_X11_put
set_option maxRecDepth 20000 in
theorem ggX4_beginStep_X7_goOn : GoodIn wsX4_beginStep wsX7_goOn := goodIn_r _ [26, 27, 28, 12, 10, 29, 30, 31, 32, 33, 8, 34, 35, 36, 37, 38, 39, 40, 41, 42, 43, 44, 45, 46, 47, 48, 49, 50, 51, 52, 53, 54, 55, 56, 57, 67, 68, 69, 70, 71, 72, 73, 74, 75, 76, 77] (by decide +kernel) (by decide +kernel)
set_option maxRecDepth 20000 in
theorem gX4_beginStep_X7_goOn : GoodIn wsX4_beginStep (wsV RX4 63 RX7 yX7_goOn wsX7_goOn) := goodIn_app (goodIn_of _ (by decide +kernel)) ggX4_beginStep_X7_goOn
theorem dX4_beginStep_0 : decode cX4_beginStep 0 = .ok (.iload_n 1, 1) := by decide +kernel
theorem dX4_beginStep_1 : decode cX4_beginStep 1 = .ok (.bipush 15, 2) := by decide +kernel
theorem dX4_beginStep_3 : decode cX4_beginStep 3 = .ok (.if_icmp .lt 9, 3) := by decide +kernel
theorem dX4_beginStep_6 : decode cX4_beginStep 6 = .ok (.iload_n 1, 1) := by decide +kernel
theorem dX4_beginStep_7 : decode cX4_beginStep 7 = .ok (.bipush 24, 2) := by decide +kernel
theorem dX4_beginStep_9 : decode cX4_beginStep 9 = .ok (.if_icmp .le 12, 3) := by decide +kernel
theorem dX4_beginStep_12 : decode cX4_beginStep 12 = .ok (.aload_n 0, 1) := by decide +kernel
theorem dX4_beginStep_13 : decode cX4_beginStep 13 = .ok (.getfield 28, 3) := by decide +kernel
theorem dX4_beginStep_16 : decode cX4_beginStep 16 = .ok (.iconst 2, 1) := by decide +kernel
theorem dX4_beginStep_17 : decode cX4_beginStep 17 = .ok (.invokevirtual 57, 3) := by decide +kernel
theorem dX4_beginStep_20 : decode cX4_beginStep 20 = .ok (.ireturn, 1) := by decide +kernel
theorem dX4_beginStep_21 : decode cX4_beginStep 21 = .ok (.aload_n 2, 1) := by decide +kernel
theorem dX4_beginStep_22 : decode cX4_beginStep 22 = .ok (.getfield 191, 3) := by decide +kernel
theorem dX4_beginStep_25 : decode cX4_beginStep 25 = .ok (.bipush 30, 2) := by decide +kernel
theorem dX4_beginStep_27 : decode cX4_beginStep 27 = .ok (.if_icmp .lt 13, 3) := by decide +kernel
theorem dX4_beginStep_30 : decode cX4_beginStep 30 = .ok (.aload_n 0, 1) := by decide +kernel
theorem dX4_beginStep_31 : decode cX4_beginStep 31 = .ok (.getfield 28, 3) := by decide +kernel
theorem dX4_beginStep_34 : decode cX4_beginStep 34 = .ok (.bipush 6, 2) := by decide +kernel
theorem dX4_beginStep_36 : decode cX4_beginStep 36 = .ok (.invokevirtual 57, 3) := by decide +kernel
theorem dX4_beginStep_39 : decode cX4_beginStep 39 = .ok (.ireturn, 1) := by decide +kernel
theorem dX4_beginStep_40 : decode cX4_beginStep 40 = .ok (.iload_n 1, 1) := by decide +kernel
theorem dX4_beginStep_41 : decode cX4_beginStep 41 = .ok (.bipush 22, 2) := by decide +kernel
theorem dX4_beginStep_43 : decode cX4_beginStep 43 = .ok (.if_icmp .eq 9, 3) := by decide +kernel
theorem dX4_beginStep_46 : decode cX4_beginStep 46 = .ok (.iload_n 1, 1) := by decide +kernel
theorem dX4_beginStep_47 : decode cX4_beginStep 47 = .ok (.bipush 23, 2) := by decide +kernel
theorem dX4_beginStep_49 : decode cX4_beginStep 49 = .ok (.if_icmp .ne 7, 3) := by decide +kernel
theorem dX4_beginStep_52 : decode cX4_beginStep 52 = .ok (.iconst 1, 1) := by decide +kernel
theorem dX4_beginStep_53 : decode cX4_beginStep 53 = .ok (.goto 4, 3) := by decide +kernel
theorem dX4_beginStep_56 : decode cX4_beginStep 56 = .ok (.iconst 0, 1) := by decide +kernel
theorem dX4_beginStep_57 : decode cX4_beginStep 57 = .ok (.istore_n 3, 1) := by decide +kernel
theorem dX4_beginStep_58 : decode cX4_beginStep 58 = .ok (.iload_n 3, 1) := by decide +kernel
theorem dX4_beginStep_59 : decode cX4_beginStep 59 = .ok (.ifCond .eq 21, 3) := by decide +kernel
theorem dX4_beginStep_62 : decode cX4_beginStep 62 = .ok (.aload_n 0, 1) := by decide +kernel
theorem dX4_beginStep_63 : decode cX4_beginStep 63 = .ok (.getfield 15, 3) := by decide +kernel
theorem dX4_beginStep_66 : decode cX4_beginStep 66 = .ok (.iconst 3, 1) := by decide +kernel
theorem dX4_beginStep_67 : decode cX4_beginStep 67 = .ok (.if_icmp .lt 13, 3) := by decide +kernel
theorem dX4_beginStep_70 : decode cX4_beginStep 70 = .ok (.aload_n 0, 1) := by decide +kernel
theorem dX4_beginStep_71 : decode cX4_beginStep 71 = .ok (.getfield 28, 3) := by decide +kernel
theorem dX4_beginStep_74 : decode cX4_beginStep 74 = .ok (.bipush 7, 2) := by decide +kernel
theorem dX4_beginStep_76 : decode cX4_beginStep 76 = .ok (.invokevirtual 57, 3) := by decide +kernel
theorem dX4_beginStep_79 : decode cX4_beginStep 79 = .ok (.ireturn, 1) := by decide +kernel
theorem dX4_beginStep_80 : decode cX4_beginStep 80 = .ok (.aload_n 2, 1) := by decide +kernel
theorem dX4_beginStep_81 : decode cX4_beginStep 81 = .ok (.getfield 191, 3) := by decide +kernel
theorem dX4_beginStep_84 : decode cX4_beginStep 84 = .ok (.istore 4, 2) := by decide +kernel
theorem dX4_beginStep_86 : decode cX4_beginStep 86 = .ok (.aload_n 2, 1) := by decide +kernel
theorem dX4_beginStep_87 : decode cX4_beginStep 87 = .ok (.dup, 1) := by decide +kernel
theorem dX4_beginStep_88 : decode cX4_beginStep 88 = .ok (.getfield 191, 3) := by decide +kernel
theorem dX4_beginStep_91 : decode cX4_beginStep 91 = .ok (.iconst 1, 1) := by decide +kernel
theorem dX4_beginStep_92 : decode cX4_beginStep 92 = .ok (.iadd, 1) := by decide +kernel
theorem dX4_beginStep_93 : decode cX4_beginStep 93 = .ok (.putfield 191, 3) := by decide +kernel
theorem dX4_beginStep_96 : decode cX4_beginStep 96 = .ok (.aload_n 2, 1) := by decide +kernel
theorem dX4_beginStep_97 : decode cX4_beginStep 97 = .ok (.iload 4, 2) := by decide +kernel
theorem dX4_beginStep_99 : decode cX4_beginStep 99 = .ok (.iconst 0, 1) := by decide +kernel
theorem dX4_beginStep_100 : decode cX4_beginStep 100 = .ok (.iload_n 1, 1) := by decide +kernel
theorem dX4_beginStep_101 : decode cX4_beginStep 101 = .ok (.invokevirtual 214, 3) := by decide +kernel
theorem dX4_beginStep_104 : decode cX4_beginStep 104 = .ok (.iload_n 3, 1) := by decide +kernel
theorem dX4_beginStep_105 : decode cX4_beginStep 105 = .ok (.ifCond .eq 26, 3) := by decide +kernel
theorem dX4_beginStep_108 : decode cX4_beginStep 108 = .ok (.aload_n 0, 1) := by decide +kernel
theorem dX4_beginStep_109 : decode cX4_beginStep 109 = .ok (.getfield 11, 3) := by decide +kernel
theorem dX4_beginStep_112 : decode cX4_beginStep 112 = .ok (.aload_n 0, 1) := by decide +kernel
theorem dX4_beginStep_113 : decode cX4_beginStep 113 = .ok (.getfield 15, 3) := by decide +kernel
theorem dX4_beginStep_116 : decode cX4_beginStep 116 = .ok (.iload 4, 2) := by decide +kernel
theorem dX4_beginStep_118 : decode cX4_beginStep 118 = .ok (.invokestatic 95, 3) := by decide +kernel
theorem dX4_beginStep_121 : decode cX4_beginStep 121 = .ok (.aload_n 0, 1) := by decide +kernel
theorem dX4_beginStep_122 : decode cX4_beginStep 122 = .ok (.dup, 1) := by decide +kernel
theorem dX4_beginStep_123 : decode cX4_beginStep 123 = .ok (.getfield 15, 3) := by decide +kernel
theorem dX4_beginStep_126 : decode cX4_beginStep 126 = .ok (.iconst 1, 1) := by decide +kernel
theorem dX4_beginStep_127 : decode cX4_beginStep 127 = .ok (.iadd, 1) := by decide +kernel
theorem dX4_beginStep_128 : decode cX4_beginStep 128 = .ok (.putfield 15, 3) := by decide +kernel
theorem dX4_beginStep_131 : decode cX4_beginStep 131 = .ok (.aload_n 0, 1) := by decide +kernel
theorem dX4_beginStep_132 : decode cX4_beginStep 132 = .ok (.getfield 28, 3) := by decide +kernel
theorem dX4_beginStep_135 : decode cX4_beginStep 135 = .ok (.invokevirtual 63, 3) := by decide +kernel
theorem dX4_beginStep_138 : decode cX4_beginStep 138 = .ok (.iconst 1, 1) := by decide +kernel
theorem dX4_beginStep_139 : decode cX4_beginStep 139 = .ok (.ireturn, 1) := by decide +kernel
set_option maxRecDepth 20000 in
theorem ggX4_readStep_X4_takeName : GoodIn wsX4_readStep wsX4_takeName := goodIn_r _ [5, 6, 7, 8, 9, 10, 11, 12, 13, 14, 15, 16, 17, 18, 19, 20, 21, 22, 23, 24, 25, 26, 27, 28, 29, 30, 31, 32, 33, 34, 35, 36, 37, 38, 39, 40, 41, 42, 43, 44, 45, 46, 47, 48, 49, 50, 51, 52, 53, 54, 55, 56, 57, 58, 59, 60, 61, 62, 63, 64, 65, 66, 67, 95, 96, 97, 98, 99, 100, 101, 102, 103, 104, 105, 106, 107, 108, 109, 110, 111, 112, 113, 114, 115, 116, 117, 118, 119, 120, 121, 122, 123, 124, 125] (by decide +kernel) (by decide +kernel)
set_option maxRecDepth 20000 in
theorem gX4_readStep_X4_takeName : GoodIn wsX4_readStep (wsV RX4 73 RX4 yX4_takeName wsX4_takeName) := goodIn_app (goodIn_of _ (by decide +kernel)) ggX4_readStep_X4_takeName
set_option maxRecDepth 20000 in
theorem ggX4_readStep_X4_keepFound : GoodIn wsX4_readStep wsX4_keepFound := goodIn_r _ [71, 9, 72, 73, 74, 75, 76, 77, 78, 31, 79, 95, 96, 97, 98, 99, 100, 126, 127, 128] (by decide +kernel) (by decide +kernel)
set_option maxRecDepth 20000 in
theorem gX4_readStep_X4_keepFound : GoodIn wsX4_readStep (wsV RX4 218 RX4 yX4_keepFound wsX4_keepFound) := goodIn_app (goodIn_of _ (by decide +kernel)) ggX4_readStep_X4_keepFound
set_option maxRecDepth 20000 in
theorem ggX4_readStep_X4_takeNumber : GoodIn wsX4_readStep wsX4_takeNumber := goodIn_r _ [83, 6, 7, 84, 9, 10, 11, 12, 13, 14, 15, 16, 17, 18, 33, 34, 35, 36, 37, 38, 39, 40, 41, 42, 43, 44, 45, 46, 47, 48, 49, 50, 51, 52, 53, 54, 55, 56, 57, 58, 59, 60, 61, 62, 63, 64, 65, 66, 67, 95, 96, 97, 98, 99, 100, 101, 102, 103, 104, 105, 106, 107, 108, 109, 110, 111] (by decide +kernel) (by decide +kernel)
set_option maxRecDepth 20000 in
theorem gX4_readStep_X4_takeNumber : GoodIn wsX4_readStep (wsV RX4 151 RX4 yX4_takeNumber wsX4_takeNumber) := goodIn_app (goodIn_of _ (by decide +kernel)) ggX4_readStep_X4_takeNumber
set_option maxRecDepth 20000 in
theorem ggX4_readStep_X4_readTest : GoodIn wsX4_readStep wsX4_readTest := goodIn_r _ [88, 6, 7, 89, 90, 10, 11, 12, 13, 14, 15, 16, 17, 18, 72, 73, 74, 75, 76, 77, 78, 31, 79, 33, 34, 35, 36, 37, 38, 39, 40, 41, 42, 43, 44, 45, 46, 47, 48, 49, 50, 51, 52, 53, 54, 55, 56, 57, 58, 59, 60, 61, 62, 63, 64, 65, 66, 67, 91, 92, 93, 4, 94, 9, 80, 81, 82, 83, 84, 1, 2, 3, 5, 8, 19, 20, 21, 22, 23, 24, 25, 26, 27, 28, 29, 30, 32, 68, 69, 70, 71, 95, 96, 97, 98, 99, 100, 101, 102, 103, 104, 105, 106, 107, 108, 109, 110, 111, 126, 127, 128, 112, 113, 114, 115, 116, 117, 118, 119, 120, 121, 122, 123, 124, 125] (by decide +kernel) (by decide +kernel)
set_option maxRecDepth 20000 in
theorem gX4_readStep_X4_readTest : GoodIn wsX4_readStep (wsV RX4 222 RX4 yX4_readTest wsX4_readTest) := goodIn_app (goodIn_of _ (by decide +kernel)) ggX4_readStep_X4_readTest
theorem dX4_readStep_0 : decode cX4_readStep 0 = .ok (.iload_n 1, 1) := by decide +kernel
theorem dX4_readStep_1 : decode cX4_readStep 1 = .ok (.tableswitch 206 15 23 #[51, 206, 77, 124, 124, 206, 206, 170, 179], 51) := by decide +kernel
theorem dX4_readStep_52 : decode cX4_readStep 52 = .ok (.aload_n 0, 1) := by decide +kernel
theorem dX4_readStep_53 : decode cX4_readStep 53 = .ok (.iconst 3, 1) := by decide +kernel
theorem dX4_readStep_54 : decode cX4_readStep 54 = .ok (.aload_n 3, 1) := by decide +kernel
theorem dX4_readStep_55 : decode cX4_readStep 55 = .ok (.invokevirtual 73, 3) := by decide +kernel
theorem dX4_readStep_58 : decode cX4_readStep 58 = .ok (.ifCond .eq 18, 3) := by decide +kernel
theorem dX4_readStep_61 : decode cX4_readStep 61 = .ok (.aload_n 0, 1) := by decide +kernel
theorem dX4_readStep_62 : decode cX4_readStep 62 = .ok (.aload 4, 2) := by decide +kernel
theorem dX4_readStep_64 : decode cX4_readStep 64 = .ok (.iload_n 2, 1) := by decide +kernel
theorem dX4_readStep_65 : decode cX4_readStep 65 = .ok (.iconst 2, 1) := by decide +kernel
theorem dX4_readStep_66 : decode cX4_readStep 66 = .ok (.invokevirtual 218, 3) := by decide +kernel
theorem dX4_readStep_69 : decode cX4_readStep 69 = .ok (.ifCond .eq 7, 3) := by decide +kernel
theorem dX4_readStep_72 : decode cX4_readStep 72 = .ok (.iconst 1, 1) := by decide +kernel
theorem dX4_readStep_73 : decode cX4_readStep 73 = .ok (.goto 4, 3) := by decide +kernel
theorem dX4_readStep_76 : decode cX4_readStep 76 = .ok (.iconst 0, 1) := by decide +kernel
theorem dX4_readStep_77 : decode cX4_readStep 77 = .ok (.ireturn, 1) := by decide +kernel
theorem dX4_readStep_78 : decode cX4_readStep 78 = .ok (.aload_n 0, 1) := by decide +kernel
theorem dX4_readStep_79 : decode cX4_readStep 79 = .ok (.iconst 3, 1) := by decide +kernel
theorem dX4_readStep_80 : decode cX4_readStep 80 = .ok (.aload_n 3, 1) := by decide +kernel
theorem dX4_readStep_81 : decode cX4_readStep 81 = .ok (.invokevirtual 73, 3) := by decide +kernel
theorem dX4_readStep_84 : decode cX4_readStep 84 = .ok (.ifCond .eq 39, 3) := by decide +kernel
theorem dX4_readStep_87 : decode cX4_readStep 87 = .ok (.aload_n 0, 1) := by decide +kernel
theorem dX4_readStep_88 : decode cX4_readStep 88 = .ok (.aload 4, 2) := by decide +kernel
theorem dX4_readStep_90 : decode cX4_readStep 90 = .ok (.iload_n 2, 1) := by decide +kernel
theorem dX4_readStep_91 : decode cX4_readStep 91 = .ok (.iconst 2, 1) := by decide +kernel
theorem dX4_readStep_92 : decode cX4_readStep 92 = .ok (.invokevirtual 218, 3) := by decide +kernel
theorem dX4_readStep_95 : decode cX4_readStep 95 = .ok (.ifCond .eq 28, 3) := by decide +kernel
theorem dX4_readStep_98 : decode cX4_readStep 98 = .ok (.aload_n 0, 1) := by decide +kernel
theorem dX4_readStep_99 : decode cX4_readStep 99 = .ok (.iconst 1, 1) := by decide +kernel
theorem dX4_readStep_100 : decode cX4_readStep 100 = .ok (.bipush 9, 2) := by decide +kernel
theorem dX4_readStep_102 : decode cX4_readStep 102 = .ok (.invokevirtual 151, 3) := by decide +kernel
theorem dX4_readStep_105 : decode cX4_readStep 105 = .ok (.ifCond .eq 18, 3) := by decide +kernel
theorem dX4_readStep_108 : decode cX4_readStep 108 = .ok (.aload_n 0, 1) := by decide +kernel
theorem dX4_readStep_109 : decode cX4_readStep 109 = .ok (.aload 4, 2) := by decide +kernel
theorem dX4_readStep_111 : decode cX4_readStep 111 = .ok (.iload_n 2, 1) := by decide +kernel
theorem dX4_readStep_112 : decode cX4_readStep 112 = .ok (.iconst 3, 1) := by decide +kernel
theorem dX4_readStep_113 : decode cX4_readStep 113 = .ok (.invokevirtual 218, 3) := by decide +kernel
theorem dX4_readStep_116 : decode cX4_readStep 116 = .ok (.ifCond .eq 7, 3) := by decide +kernel
theorem dX4_readStep_119 : decode cX4_readStep 119 = .ok (.iconst 1, 1) := by decide +kernel
theorem dX4_readStep_120 : decode cX4_readStep 120 = .ok (.goto 4, 3) := by decide +kernel
theorem dX4_readStep_123 : decode cX4_readStep 123 = .ok (.iconst 0, 1) := by decide +kernel
theorem dX4_readStep_124 : decode cX4_readStep 124 = .ok (.ireturn, 1) := by decide +kernel
theorem dX4_readStep_125 : decode cX4_readStep 125 = .ok (.aload_n 0, 1) := by decide +kernel
theorem dX4_readStep_126 : decode cX4_readStep 126 = .ok (.iconst 3, 1) := by decide +kernel
theorem dX4_readStep_127 : decode cX4_readStep 127 = .ok (.aload_n 3, 1) := by decide +kernel
theorem dX4_readStep_128 : decode cX4_readStep 128 = .ok (.invokevirtual 73, 3) := by decide +kernel
theorem dX4_readStep_131 : decode cX4_readStep 131 = .ok (.ifCond .eq 38, 3) := by decide +kernel
theorem dX4_readStep_134 : decode cX4_readStep 134 = .ok (.aload_n 0, 1) := by decide +kernel
theorem dX4_readStep_135 : decode cX4_readStep 135 = .ok (.aload 4, 2) := by decide +kernel
theorem dX4_readStep_137 : decode cX4_readStep 137 = .ok (.iload_n 2, 1) := by decide +kernel
theorem dX4_readStep_138 : decode cX4_readStep 138 = .ok (.iconst 2, 1) := by decide +kernel
theorem dX4_readStep_139 : decode cX4_readStep 139 = .ok (.invokevirtual 218, 3) := by decide +kernel
theorem dX4_readStep_142 : decode cX4_readStep 142 = .ok (.ifCond .eq 27, 3) := by decide +kernel
theorem dX4_readStep_145 : decode cX4_readStep 145 = .ok (.aload_n 0, 1) := by decide +kernel
theorem dX4_readStep_146 : decode cX4_readStep 146 = .ok (.iconst 0, 1) := by decide +kernel
theorem dX4_readStep_147 : decode cX4_readStep 147 = .ok (.aload_n 3, 1) := by decide +kernel
theorem dX4_readStep_148 : decode cX4_readStep 148 = .ok (.invokevirtual 73, 3) := by decide +kernel
theorem dX4_readStep_151 : decode cX4_readStep 151 = .ok (.ifCond .eq 18, 3) := by decide +kernel
theorem dX4_readStep_154 : decode cX4_readStep 154 = .ok (.aload_n 0, 1) := by decide +kernel
theorem dX4_readStep_155 : decode cX4_readStep 155 = .ok (.aload 4, 2) := by decide +kernel
theorem dX4_readStep_157 : decode cX4_readStep 157 = .ok (.iload_n 2, 1) := by decide +kernel
theorem dX4_readStep_158 : decode cX4_readStep 158 = .ok (.iconst 3, 1) := by decide +kernel
theorem dX4_readStep_159 : decode cX4_readStep 159 = .ok (.invokevirtual 218, 3) := by decide +kernel
theorem dX4_readStep_162 : decode cX4_readStep 162 = .ok (.ifCond .eq 7, 3) := by decide +kernel
theorem dX4_readStep_165 : decode cX4_readStep 165 = .ok (.iconst 1, 1) := by decide +kernel
theorem dX4_readStep_166 : decode cX4_readStep 166 = .ok (.goto 4, 3) := by decide +kernel
theorem dX4_readStep_169 : decode cX4_readStep 169 = .ok (.iconst 0, 1) := by decide +kernel
theorem dX4_readStep_170 : decode cX4_readStep 170 = .ok (.ireturn, 1) := by decide +kernel
theorem dX4_readStep_171 : decode cX4_readStep 171 = .ok (.aload_n 0, 1) := by decide +kernel
theorem dX4_readStep_172 : decode cX4_readStep 172 = .ok (.iload_n 2, 1) := by decide +kernel
theorem dX4_readStep_173 : decode cX4_readStep 173 = .ok (.aload_n 3, 1) := by decide +kernel
theorem dX4_readStep_174 : decode cX4_readStep 174 = .ok (.aload 4, 2) := by decide +kernel
theorem dX4_readStep_176 : decode cX4_readStep 176 = .ok (.invokevirtual 222, 3) := by decide +kernel
theorem dX4_readStep_179 : decode cX4_readStep 179 = .ok (.ireturn, 1) := by decide +kernel
theorem dX4_readStep_180 : decode cX4_readStep 180 = .ok (.aload_n 0, 1) := by decide +kernel
theorem dX4_readStep_181 : decode cX4_readStep 181 = .ok (.iconst 1, 1) := by decide +kernel
theorem dX4_readStep_182 : decode cX4_readStep 182 = .ok (.bipush 99, 2) := by decide +kernel
theorem dX4_readStep_184 : decode cX4_readStep 184 = .ok (.invokevirtual 151, 3) := by decide +kernel
theorem dX4_readStep_187 : decode cX4_readStep 187 = .ok (.ifCond .eq 18, 3) := by decide +kernel
theorem dX4_readStep_190 : decode cX4_readStep 190 = .ok (.aload_n 0, 1) := by decide +kernel
theorem dX4_readStep_191 : decode cX4_readStep 191 = .ok (.aload 4, 2) := by decide +kernel
theorem dX4_readStep_193 : decode cX4_readStep 193 = .ok (.iload_n 2, 1) := by decide +kernel
theorem dX4_readStep_194 : decode cX4_readStep 194 = .ok (.iconst 2, 1) := by decide +kernel
theorem dX4_readStep_195 : decode cX4_readStep 195 = .ok (.invokevirtual 218, 3) := by decide +kernel
theorem dX4_readStep_198 : decode cX4_readStep 198 = .ok (.ifCond .eq 7, 3) := by decide +kernel
theorem dX4_readStep_201 : decode cX4_readStep 201 = .ok (.iconst 1, 1) := by decide +kernel
theorem dX4_readStep_202 : decode cX4_readStep 202 = .ok (.goto 4, 3) := by decide +kernel
theorem dX4_readStep_205 : decode cX4_readStep 205 = .ok (.iconst 0, 1) := by decide +kernel
theorem dX4_readStep_206 : decode cX4_readStep 206 = .ok (.ireturn, 1) := by decide +kernel
theorem dX4_readStep_207 : decode cX4_readStep 207 = .ok (.iconst 1, 1) := by decide +kernel
theorem dX4_readStep_208 : decode cX4_readStep 208 = .ok (.ireturn, 1) := by decide +kernel
set_option maxRecDepth 20000 in
theorem ggX4_readTest_X7_refuse : GoodIn wsX4_readTest wsX7_refuse := goodIn_r _ [9, 10, 11, 12, 13, 97, 98, 99, 100, 101, 102, 103, 104, 105, 106, 107] (by decide +kernel) (by decide +kernel)
set_option maxRecDepth 20000 in
theorem gX4_readTest_X7_refuse : GoodIn wsX4_readTest (wsV RX4 57 RX7 yX7_refuse wsX7_refuse) := goodIn_app (goodIn_of _ (by decide +kernel)) ggX4_readTest_X7_refuse
set_option maxRecDepth 20000 in
theorem ggX4_readTest_X9_putCell : GoodIn wsX4_readTest wsX9_putCell := goodIn_r _ [18, 19, 20, 21, 22, 108, 109, 110] (by decide +kernel) (by decide +kernel)
set_option maxRecDepth 20000 in
theorem gX4_readTest_X9_putCell : GoodIn wsX4_readTest (wsV RX4 214 RX9 yX9_putCell wsX9_putCell) := goodIn_app (goodIn_of _ (by decide +kernel)) ggX4_readTest_X9_putCell
set_option maxRecDepth 20000 in
theorem ggX4_readTest_X7_goOn : GoodIn wsX4_readTest wsX7_goOn := goodIn_r _ [26, 27, 28, 12, 10, 29, 30, 31, 32, 33, 8, 34, 35, 36, 37, 38, 39, 40, 41, 42, 43, 44, 45, 46, 47, 48, 49, 50, 51, 52, 53, 54, 55, 56, 57, 97, 98, 99, 100, 101, 102, 103, 104, 105, 106, 107] (by decide +kernel) (by decide +kernel)
set_option maxRecDepth 20000 in
theorem gX4_readTest_X7_goOn : GoodIn wsX4_readTest (wsV RX4 63 RX7 yX7_goOn wsX7_goOn) := goodIn_app (goodIn_of _ (by decide +kernel)) ggX4_readTest_X7_goOn
set_option maxRecDepth 20000 in
theorem ggX4_readTest_X4_takeCompare : GoodIn wsX4_readTest wsX4_takeCompare := goodIn_r _ [62, 1, 2, 63, 3, 4, 5, 6, 7, 8, 9, 10, 11, 12, 13, 23, 24, 25, 26, 27, 28, 29, 30, 31, 32, 33, 34, 35, 36, 37, 38, 39, 40, 41, 42, 43, 44, 45, 46, 47, 48, 49, 50, 51, 52, 53, 54, 55, 56, 57, 64, 65, 66, 61, 67, 68, 91, 92, 93, 94, 95, 96, 97, 98, 99, 100, 101, 102, 103, 104, 105, 106, 107] (by decide +kernel) (by decide +kernel)
set_option maxRecDepth 20000 in
theorem gX4_readTest_X4_takeCompare : GoodIn wsX4_readTest (wsV RX4 118 RX4 yX4_takeCompare wsX4_takeCompare) := goodIn_app (goodIn_of _ (by decide +kernel)) ggX4_readTest_X4_takeCompare
set_option maxRecDepth 20000 in
theorem ggX4_readTest_X4_takeName : GoodIn wsX4_readTest wsX4_takeName := goodIn_r _ [72, 1, 2, 73, 63, 5, 6, 7, 8, 9, 10, 11, 12, 13, 74, 75, 76, 77, 78, 79, 80, 81, 82, 83, 84, 85, 21, 86, 23, 24, 25, 26, 27, 28, 29, 30, 31, 32, 33, 34, 35, 36, 37, 38, 39, 40, 41, 42, 43, 44, 45, 46, 47, 48, 49, 50, 51, 52, 53, 54, 55, 56, 57, 91, 92, 93, 94, 95, 96, 97, 98, 99, 100, 101, 102, 103, 104, 105, 106, 107, 111, 112, 113, 114, 115, 116, 117, 118, 119, 120, 121, 122, 123, 124] (by decide +kernel) (by decide +kernel)
set_option maxRecDepth 20000 in
theorem gX4_readTest_X4_takeName : GoodIn wsX4_readTest (wsV RX4 73 RX4 yX4_takeName wsX4_takeName) := goodIn_app (goodIn_of _ (by decide +kernel)) ggX4_readTest_X4_takeName
set_option maxRecDepth 20000 in
theorem ggX4_readTest_X4_keepFound : GoodIn wsX4_readTest wsX4_keepFound := goodIn_r _ [90, 63, 14, 15, 16, 17, 18, 19, 20, 21, 22, 91, 92, 93, 94, 95, 96, 108, 109, 110] (by decide +kernel) (by decide +kernel)
set_option maxRecDepth 20000 in
theorem gX4_readTest_X4_keepFound : GoodIn wsX4_readTest (wsV RX4 218 RX4 yX4_keepFound wsX4_keepFound) := goodIn_app (goodIn_of _ (by decide +kernel)) ggX4_readTest_X4_keepFound
theorem dX4_readTest_0 : decode cX4_readTest 0 = .ok (.aload_n 0, 1) := by decide +kernel
theorem dX4_readTest_1 : decode cX4_readTest 1 = .ok (.getfield 28, 3) := by decide +kernel
theorem dX4_readTest_4 : decode cX4_readTest 4 = .ok (.getfield 43, 3) := by decide +kernel
theorem dX4_readTest_7 : decode cX4_readTest 7 = .ok (.istore 4, 2) := by decide +kernel
theorem dX4_readTest_9 : decode cX4_readTest 9 = .ok (.iload 4, 2) := by decide +kernel
theorem dX4_readTest_11 : decode cX4_readTest 11 = .ok (.bipush 25, 2) := by decide +kernel
theorem dX4_readTest_13 : decode cX4_readTest 13 = .ok (.if_icmp .eq 33, 3) := by decide +kernel
theorem dX4_readTest_16 : decode cX4_readTest 16 = .ok (.iload 4, 2) := by decide +kernel
theorem dX4_readTest_18 : decode cX4_readTest 18 = .ok (.bipush 26, 2) := by decide +kernel
theorem dX4_readTest_20 : decode cX4_readTest 20 = .ok (.if_icmp .eq 26, 3) := by decide +kernel
theorem dX4_readTest_23 : decode cX4_readTest 23 = .ok (.iload 4, 2) := by decide +kernel
theorem dX4_readTest_25 : decode cX4_readTest 25 = .ok (.bipush 27, 2) := by decide +kernel
theorem dX4_readTest_27 : decode cX4_readTest 27 = .ok (.if_icmp .eq 19, 3) := by decide +kernel
theorem dX4_readTest_30 : decode cX4_readTest 30 = .ok (.iload 4, 2) := by decide +kernel
theorem dX4_readTest_32 : decode cX4_readTest 32 = .ok (.bipush 11, 2) := by decide +kernel
theorem dX4_readTest_34 : decode cX4_readTest 34 = .ok (.if_icmp .eq 12, 3) := by decide +kernel
theorem dX4_readTest_37 : decode cX4_readTest 37 = .ok (.aload_n 0, 1) := by decide +kernel
theorem dX4_readTest_38 : decode cX4_readTest 38 = .ok (.getfield 28, 3) := by decide +kernel
theorem dX4_readTest_41 : decode cX4_readTest 41 = .ok (.iconst 2, 1) := by decide +kernel
theorem dX4_readTest_42 : decode cX4_readTest 42 = .ok (.invokevirtual 57, 3) := by decide +kernel
theorem dX4_readTest_45 : decode cX4_readTest 45 = .ok (.ireturn, 1) := by decide +kernel
theorem dX4_readTest_46 : decode cX4_readTest 46 = .ok (.aload_n 3, 1) := by decide +kernel
theorem dX4_readTest_47 : decode cX4_readTest 47 = .ok (.iload_n 1, 1) := by decide +kernel
theorem dX4_readTest_48 : decode cX4_readTest 48 = .ok (.iconst 1, 1) := by decide +kernel
theorem dX4_readTest_49 : decode cX4_readTest 49 = .ok (.iload 4, 2) := by decide +kernel
theorem dX4_readTest_51 : decode cX4_readTest 51 = .ok (.invokevirtual 214, 3) := by decide +kernel
theorem dX4_readTest_54 : decode cX4_readTest 54 = .ok (.aload_n 0, 1) := by decide +kernel
theorem dX4_readTest_55 : decode cX4_readTest 55 = .ok (.getfield 28, 3) := by decide +kernel
theorem dX4_readTest_58 : decode cX4_readTest 58 = .ok (.invokevirtual 63, 3) := by decide +kernel
theorem dX4_readTest_61 : decode cX4_readTest 61 = .ok (.iload 4, 2) := by decide +kernel
theorem dX4_readTest_63 : decode cX4_readTest 63 = .ok (.bipush 11, 2) := by decide +kernel
theorem dX4_readTest_65 : decode cX4_readTest 65 = .ok (.if_icmp .ne 36, 3) := by decide +kernel
theorem dX4_readTest_68 : decode cX4_readTest 68 = .ok (.aload_n 0, 1) := by decide +kernel
theorem dX4_readTest_69 : decode cX4_readTest 69 = .ok (.bipush 9, 2) := by decide +kernel
theorem dX4_readTest_71 : decode cX4_readTest 71 = .ok (.invokevirtual 118, 3) := by decide +kernel
theorem dX4_readTest_74 : decode cX4_readTest 74 = .ok (.ifCond .ne 5, 3) := by decide +kernel
theorem dX4_readTest_77 : decode cX4_readTest 77 = .ok (.iconst 0, 1) := by decide +kernel
theorem dX4_readTest_78 : decode cX4_readTest 78 = .ok (.ireturn, 1) := by decide +kernel
theorem dX4_readTest_79 : decode cX4_readTest 79 = .ok (.aload_n 3, 1) := by decide +kernel
theorem dX4_readTest_80 : decode cX4_readTest 80 = .ok (.iload_n 1, 1) := by decide +kernel
theorem dX4_readTest_81 : decode cX4_readTest 81 = .ok (.iconst 2, 1) := by decide +kernel
theorem dX4_readTest_82 : decode cX4_readTest 82 = .ok (.aload_n 0, 1) := by decide +kernel
theorem dX4_readTest_83 : decode cX4_readTest 83 = .ok (.getfield 22, 3) := by decide +kernel
theorem dX4_readTest_86 : decode cX4_readTest 86 = .ok (.invokevirtual 214, 3) := by decide +kernel
theorem dX4_readTest_89 : decode cX4_readTest 89 = .ok (.aload_n 3, 1) := by decide +kernel
theorem dX4_readTest_90 : decode cX4_readTest 90 = .ok (.iload_n 1, 1) := by decide +kernel
theorem dX4_readTest_91 : decode cX4_readTest 91 = .ok (.iconst 3, 1) := by decide +kernel
theorem dX4_readTest_92 : decode cX4_readTest 92 = .ok (.aload_n 0, 1) := by decide +kernel
theorem dX4_readTest_93 : decode cX4_readTest 93 = .ok (.getfield 25, 3) := by decide +kernel
theorem dX4_readTest_96 : decode cX4_readTest 96 = .ok (.invokevirtual 214, 3) := by decide +kernel
theorem dX4_readTest_99 : decode cX4_readTest 99 = .ok (.iconst 1, 1) := by decide +kernel
theorem dX4_readTest_100 : decode cX4_readTest 100 = .ok (.ireturn, 1) := by decide +kernel
theorem dX4_readTest_101 : decode cX4_readTest 101 = .ok (.aload_n 0, 1) := by decide +kernel
theorem dX4_readTest_102 : decode cX4_readTest 102 = .ok (.iconst 3, 1) := by decide +kernel
theorem dX4_readTest_103 : decode cX4_readTest 103 = .ok (.aload_n 2, 1) := by decide +kernel
theorem dX4_readTest_104 : decode cX4_readTest 104 = .ok (.invokevirtual 73, 3) := by decide +kernel
theorem dX4_readTest_107 : decode cX4_readTest 107 = .ok (.ifCond .eq 13, 3) := by decide +kernel
theorem dX4_readTest_110 : decode cX4_readTest 110 = .ok (.aload_n 0, 1) := by decide +kernel
theorem dX4_readTest_111 : decode cX4_readTest 111 = .ok (.aload_n 3, 1) := by decide +kernel
theorem dX4_readTest_112 : decode cX4_readTest 112 = .ok (.iload_n 1, 1) := by decide +kernel
theorem dX4_readTest_113 : decode cX4_readTest 113 = .ok (.iconst 2, 1) := by decide +kernel
theorem dX4_readTest_114 : decode cX4_readTest 114 = .ok (.invokevirtual 218, 3) := by decide +kernel
theorem dX4_readTest_117 : decode cX4_readTest 117 = .ok (.ifCond .ne 5, 3) := by decide +kernel
theorem dX4_readTest_120 : decode cX4_readTest 120 = .ok (.iconst 0, 1) := by decide +kernel
theorem dX4_readTest_121 : decode cX4_readTest 121 = .ok (.ireturn, 1) := by decide +kernel
theorem dX4_readTest_122 : decode cX4_readTest 122 = .ok (.iload 4, 2) := by decide +kernel
theorem dX4_readTest_124 : decode cX4_readTest 124 = .ok (.bipush 25, 2) := by decide +kernel
theorem dX4_readTest_126 : decode cX4_readTest 126 = .ok (.if_icmp .ne 22, 3) := by decide +kernel
theorem dX4_readTest_129 : decode cX4_readTest 129 = .ok (.aload_n 0, 1) := by decide +kernel
theorem dX4_readTest_130 : decode cX4_readTest 130 = .ok (.iconst 1, 1) := by decide +kernel
theorem dX4_readTest_131 : decode cX4_readTest 131 = .ok (.aload_n 2, 1) := by decide +kernel
theorem dX4_readTest_132 : decode cX4_readTest 132 = .ok (.invokevirtual 73, 3) := by decide +kernel
theorem dX4_readTest_135 : decode cX4_readTest 135 = .ok (.ifCond .eq 17, 3) := by decide +kernel
theorem dX4_readTest_138 : decode cX4_readTest 138 = .ok (.aload_n 0, 1) := by decide +kernel
theorem dX4_readTest_139 : decode cX4_readTest 139 = .ok (.aload_n 3, 1) := by decide +kernel
theorem dX4_readTest_140 : decode cX4_readTest 140 = .ok (.iload_n 1, 1) := by decide +kernel
theorem dX4_readTest_141 : decode cX4_readTest 141 = .ok (.iconst 3, 1) := by decide +kernel
theorem dX4_readTest_142 : decode cX4_readTest 142 = .ok (.invokevirtual 218, 3) := by decide +kernel
theorem dX4_readTest_145 : decode cX4_readTest 145 = .ok (.ifCond .eq 7, 3) := by decide +kernel
theorem dX4_readTest_148 : decode cX4_readTest 148 = .ok (.iconst 1, 1) := by decide +kernel
theorem dX4_readTest_149 : decode cX4_readTest 149 = .ok (.goto 4, 3) := by decide +kernel
theorem dX4_readTest_152 : decode cX4_readTest 152 = .ok (.iconst 0, 1) := by decide +kernel
theorem dX4_readTest_153 : decode cX4_readTest 153 = .ok (.ireturn, 1) := by decide +kernel
set_option maxRecDepth 20000 in
theorem ggX4_keepFound_X9_putCell : GoodIn wsX4_keepFound wsX9_putCell := goodIn_r _ [6, 7, 8, 9, 10, 17, 18, 19] (by decide +kernel) (by decide +kernel)
set_option maxRecDepth 20000 in
theorem gX4_keepFound_X9_putCell : GoodIn wsX4_keepFound (wsV RX4 214 RX9 yX9_putCell wsX9_putCell) := goodIn_app (goodIn_of _ (by decide +kernel)) ggX4_keepFound_X9_putCell
theorem dX4_keepFound_0 : decode cX4_keepFound 0 = .ok (.aload_n 1, 1) := by decide +kernel
theorem dX4_keepFound_1 : decode cX4_keepFound 1 = .ok (.iload_n 2, 1) := by decide +kernel
theorem dX4_keepFound_2 : decode cX4_keepFound 2 = .ok (.iload_n 3, 1) := by decide +kernel
theorem dX4_keepFound_3 : decode cX4_keepFound 3 = .ok (.aload_n 0, 1) := by decide +kernel
theorem dX4_keepFound_4 : decode cX4_keepFound 4 = .ok (.getfield 19, 3) := by decide +kernel
theorem dX4_keepFound_7 : decode cX4_keepFound 7 = .ok (.invokevirtual 214, 3) := by decide +kernel
theorem dX4_keepFound_10 : decode cX4_keepFound 10 = .ok (.iconst 1, 1) := by decide +kernel
theorem dX4_keepFound_11 : decode cX4_keepFound 11 = .ok (.ireturn, 1) := by decide +kernel
theorem dX4_guiltHere_0 : decode cX4_guiltHere 0 = .ok (.aload_n 0, 1) := by decide +kernel
theorem dX4_guiltHere_1 : decode cX4_guiltHere 1 = .ok (.getfield 28, 3) := by decide +kernel
theorem dX4_guiltHere_4 : decode cX4_guiltHere 4 = .ok (.getfield 43, 3) := by decide +kernel
theorem dX4_guiltHere_7 : decode cX4_guiltHere 7 = .ok (.bipush 7, 2) := by decide +kernel
theorem dX4_guiltHere_9 : decode cX4_guiltHere 9 = .ok (.if_icmp .ne 7, 3) := by decide +kernel
theorem dX4_guiltHere_12 : decode cX4_guiltHere 12 = .ok (.iconst 1, 1) := by decide +kernel
theorem dX4_guiltHere_13 : decode cX4_guiltHere 13 = .ok (.goto 20, 3) := by decide +kernel
theorem dX4_guiltHere_16 : decode cX4_guiltHere 16 = .ok (.aload_n 0, 1) := by decide +kernel
theorem dX4_guiltHere_17 : decode cX4_guiltHere 17 = .ok (.getfield 28, 3) := by decide +kernel
theorem dX4_guiltHere_20 : decode cX4_guiltHere 20 = .ok (.getfield 43, 3) := by decide +kernel
theorem dX4_guiltHere_23 : decode cX4_guiltHere 23 = .ok (.bipush 8, 2) := by decide +kernel
theorem dX4_guiltHere_25 : decode cX4_guiltHere 25 = .ok (.if_icmp .ne 7, 3) := by decide +kernel
theorem dX4_guiltHere_28 : decode cX4_guiltHere 28 = .ok (.iconst 2, 1) := by decide +kernel
theorem dX4_guiltHere_29 : decode cX4_guiltHere 29 = .ok (.goto 4, 3) := by decide +kernel
theorem dX4_guiltHere_32 : decode cX4_guiltHere 32 = .ok (.iconst 0, 1) := by decide +kernel
theorem dX4_guiltHere_33 : decode cX4_guiltHere 33 = .ok (.ireturn, 1) := by decide +kernel
set_option maxRecDepth 20000 in
theorem ggX4_skip_X7_goOn : GoodIn wsX4_skip wsX7_goOn := goodIn_r _ [7, 8, 9, 10, 11, 12, 13, 14, 15, 16, 6, 17, 18, 19, 20, 21, 22, 23, 24, 25, 26, 27, 28, 29, 30, 31, 32, 33, 34, 35, 36, 37, 38, 39, 40, 47, 48, 49, 50, 51, 52, 53, 54, 55, 56, 57] (by decide +kernel) (by decide +kernel)
set_option maxRecDepth 20000 in
theorem gX4_skip_X7_goOn : GoodIn wsX4_skip (wsV RX4 63 RX7 yX7_goOn wsX7_goOn) := goodIn_app (goodIn_of _ (by decide +kernel)) ggX4_skip_X7_goOn
theorem dX4_skip_0 : decode cX4_skip 0 = .ok (.aload_n 0, 1) := by decide +kernel
theorem dX4_skip_1 : decode cX4_skip 1 = .ok (.getfield 28, 3) := by decide +kernel
theorem dX4_skip_4 : decode cX4_skip 4 = .ok (.getfield 43, 3) := by decide +kernel
theorem dX4_skip_7 : decode cX4_skip 7 = .ok (.iload_n 1, 1) := by decide +kernel
theorem dX4_skip_8 : decode cX4_skip 8 = .ok (.if_icmp .eq 5, 3) := by decide +kernel
theorem dX4_skip_11 : decode cX4_skip 11 = .ok (.iconst 0, 1) := by decide +kernel
theorem dX4_skip_12 : decode cX4_skip 12 = .ok (.ireturn, 1) := by decide +kernel
theorem dX4_skip_13 : decode cX4_skip 13 = .ok (.aload_n 0, 1) := by decide +kernel
theorem dX4_skip_14 : decode cX4_skip 14 = .ok (.getfield 28, 3) := by decide +kernel
theorem dX4_skip_17 : decode cX4_skip 17 = .ok (.invokevirtual 63, 3) := by decide +kernel
theorem dX4_skip_20 : decode cX4_skip 20 = .ok (.iconst 1, 1) := by decide +kernel
theorem dX4_skip_21 : decode cX4_skip 21 = .ok (.ireturn, 1) := by decide +kernel
set_option maxRecDepth 20000 in
theorem ggX4_take_X4_skip : GoodIn wsX4_take wsX4_skip := goodIn_r _ [6, 1, 7, 8, 9, 10, 11, 12, 13, 14, 15, 16, 17, 18, 19, 20, 21, 22, 23, 24, 25, 26, 27, 28, 29, 30, 31, 32, 33, 34, 35, 36, 37, 38, 39, 40, 41, 42, 43, 44, 45, 52, 53, 54, 55, 56, 57, 58, 59, 60, 61, 62, 63, 64, 65, 66, 67, 68] (by decide +kernel) (by decide +kernel)
set_option maxRecDepth 20000 in
theorem gX4_take_X4_skip : GoodIn wsX4_take (wsV RX4 115 RX4 yX4_skip wsX4_skip) := goodIn_app (goodIn_of _ (by decide +kernel)) ggX4_take_X4_skip
set_option maxRecDepth 20000 in
theorem ggX4_take_X7_refuse : GoodIn wsX4_take wsX7_refuse := goodIn_r _ [49, 16, 50, 15, 51, 58, 59, 60, 61, 62, 63, 64, 65, 66, 67, 68] (by decide +kernel) (by decide +kernel)
set_option maxRecDepth 20000 in
theorem gX4_take_X7_refuse : GoodIn wsX4_take (wsV RX4 57 RX7 yX7_refuse wsX7_refuse) := goodIn_app (goodIn_of _ (by decide +kernel)) ggX4_take_X7_refuse
theorem dX4_take_0 : decode cX4_take 0 = .ok (.aload_n 0, 1) := by decide +kernel
theorem dX4_take_1 : decode cX4_take 1 = .ok (.iload_n 1, 1) := by decide +kernel
theorem dX4_take_2 : decode cX4_take 2 = .ok (.invokevirtual 115, 3) := by decide +kernel
theorem dX4_take_5 : decode cX4_take 5 = .ok (.ifCond .ne 14, 3) := by decide +kernel
theorem dX4_take_8 : decode cX4_take 8 = .ok (.aload_n 0, 1) := by decide +kernel
theorem dX4_take_9 : decode cX4_take 9 = .ok (.getfield 28, 3) := by decide +kernel
theorem dX4_take_12 : decode cX4_take 12 = .ok (.iconst 2, 1) := by decide +kernel
theorem dX4_take_13 : decode cX4_take 13 = .ok (.invokevirtual 57, 3) := by decide +kernel
theorem dX4_take_16 : decode cX4_take 16 = .ok (.ifCond .eq 7, 3) := by decide +kernel
theorem dX4_take_19 : decode cX4_take 19 = .ok (.iconst 1, 1) := by decide +kernel
theorem dX4_take_20 : decode cX4_take 20 = .ok (.goto 4, 3) := by decide +kernel
theorem dX4_take_23 : decode cX4_take 23 = .ok (.iconst 0, 1) := by decide +kernel
theorem dX4_take_24 : decode cX4_take 24 = .ok (.ireturn, 1) := by decide +kernel
set_option maxRecDepth 20000 in
theorem ggX4_takeNewName_X7_refuse : GoodIn wsX4_takeNewName wsX7_refuse := goodIn_r _ [9, 10, 11, 12, 13, 83, 84, 85, 86, 87, 88, 89, 90, 91, 92, 93] (by decide +kernel) (by decide +kernel)
set_option maxRecDepth 20000 in
theorem gX4_takeNewName_X7_refuse : GoodIn wsX4_takeNewName (wsV RX4 57 RX7 yX7_refuse wsX7_refuse) := goodIn_app (goodIn_of _ (by decide +kernel)) ggX4_takeNewName_X7_refuse
set_option maxRecDepth 20000 in
theorem ggX4_takeNewName_X0_isTaken : GoodIn wsX4_takeNewName wsX0_isTaken := goodIn_r _ [18, 19, 20, 21, 17, 22, 23, 24, 25, 26, 27, 28, 29, 30, 31, 94, 95, 96, 97, 98, 99, 100, 101, 102, 103, 104, 105, 106, 107] (by decide +kernel) (by decide +kernel)
set_option maxRecDepth 20000 in
theorem gX4_takeNewName_X0_isTaken : GoodIn wsX4_takeNewName (wsV RX4 226 RX0 yX0_isTaken wsX0_isTaken) := goodIn_app (goodIn_of _ (by decide +kernel)) ggX4_takeNewName_X0_isTaken
set_option maxRecDepth 20000 in
theorem ggX4_takeNewName_X0_addOne : GoodIn wsX4_takeNewName wsX0_addOne := goodIn_r _ [35, 28, 24, 25, 26, 17, 27, 36, 30, 37, 94, 95, 96, 97, 98, 99, 100, 101, 102, 103, 104, 105, 106, 107] (by decide +kernel) (by decide +kernel)
set_option maxRecDepth 20000 in
theorem gX4_takeNewName_X0_addOne : GoodIn wsX4_takeNewName (wsV RX4 99 RX0 yX0_addOne wsX0_addOne) := goodIn_app (goodIn_of _ (by decide +kernel)) ggX4_takeNewName_X0_addOne
set_option maxRecDepth 20000 in
theorem ggX4_takeNewName_X0_putName : GoodIn wsX4_takeNewName wsX0_putName := goodIn_r _ [41, 23, 29, 30, 31, 94, 95, 96, 97, 98, 99, 100, 101, 102, 103, 104, 105, 106, 107] (by decide +kernel) (by decide +kernel)
set_option maxRecDepth 20000 in
theorem gX4_takeNewName_X0_putName : GoodIn wsX4_takeNewName (wsV RX4 230 RX0 yX0_putName wsX0_putName) := goodIn_app (goodIn_of _ (by decide +kernel)) ggX4_takeNewName_X0_putName
set_option maxRecDepth 20000 in
theorem ggX4_takeNewName_X7_goOn : GoodIn wsX4_takeNewName wsX7_goOn := goodIn_r _ [45, 46, 47, 12, 10, 48, 49, 50, 51, 52, 8, 53, 54, 55, 56, 57, 58, 59, 60, 61, 62, 63, 64, 65, 66, 67, 68, 69, 70, 71, 72, 73, 74, 75, 76, 83, 84, 85, 86, 87, 88, 89, 90, 91, 92, 93] (by decide +kernel) (by decide +kernel)
set_option maxRecDepth 20000 in
theorem gX4_takeNewName_X7_goOn : GoodIn wsX4_takeNewName (wsV RX4 63 RX7 yX7_goOn wsX7_goOn) := goodIn_app (goodIn_of _ (by decide +kernel)) ggX4_takeNewName_X7_goOn
theorem dX4_takeNewName_0 : decode cX4_takeNewName 0 = .ok (.aload_n 0, 1) := by decide +kernel
theorem dX4_takeNewName_1 : decode cX4_takeNewName 1 = .ok (.getfield 28, 3) := by decide +kernel
theorem dX4_takeNewName_4 : decode cX4_takeNewName 4 = .ok (.getfield 43, 3) := by decide +kernel
theorem dX4_takeNewName_7 : decode cX4_takeNewName 7 = .ok (.bipush 29, 2) := by decide +kernel
theorem dX4_takeNewName_9 : decode cX4_takeNewName 9 = .ok (.if_icmp .eq 12, 3) := by decide +kernel
theorem dX4_takeNewName_12 : decode cX4_takeNewName 12 = .ok (.aload_n 0, 1) := by decide +kernel
theorem dX4_takeNewName_13 : decode cX4_takeNewName 13 = .ok (.getfield 28, 3) := by decide +kernel
theorem dX4_takeNewName_16 : decode cX4_takeNewName 16 = .ok (.iconst 2, 1) := by decide +kernel
theorem dX4_takeNewName_17 : decode cX4_takeNewName 17 = .ok (.invokevirtual 57, 3) := by decide +kernel
theorem dX4_takeNewName_20 : decode cX4_takeNewName 20 = .ok (.ireturn, 1) := by decide +kernel
theorem dX4_takeNewName_21 : decode cX4_takeNewName 21 = .ok (.aload_n 2, 1) := by decide +kernel
theorem dX4_takeNewName_22 : decode cX4_takeNewName 22 = .ok (.aload_n 0, 1) := by decide +kernel
theorem dX4_takeNewName_23 : decode cX4_takeNewName 23 = .ok (.getfield 28, 3) := by decide +kernel
theorem dX4_takeNewName_26 : decode cX4_takeNewName 26 = .ok (.getfield 162, 3) := by decide +kernel
theorem dX4_takeNewName_29 : decode cX4_takeNewName 29 = .ok (.invokevirtual 226, 3) := by decide +kernel
theorem dX4_takeNewName_32 : decode cX4_takeNewName 32 = .ok (.ifCond .eq 12, 3) := by decide +kernel
theorem dX4_takeNewName_35 : decode cX4_takeNewName 35 = .ok (.aload_n 0, 1) := by decide +kernel
theorem dX4_takeNewName_36 : decode cX4_takeNewName 36 = .ok (.getfield 28, 3) := by decide +kernel
theorem dX4_takeNewName_39 : decode cX4_takeNewName 39 = .ok (.iconst 3, 1) := by decide +kernel
theorem dX4_takeNewName_40 : decode cX4_takeNewName 40 = .ok (.invokevirtual 57, 3) := by decide +kernel
theorem dX4_takeNewName_43 : decode cX4_takeNewName 43 = .ok (.ireturn, 1) := by decide +kernel
theorem dX4_takeNewName_44 : decode cX4_takeNewName 44 = .ok (.aload_n 0, 1) := by decide +kernel
theorem dX4_takeNewName_45 : decode cX4_takeNewName 45 = .ok (.aload_n 2, 1) := by decide +kernel
theorem dX4_takeNewName_46 : decode cX4_takeNewName 46 = .ok (.iload_n 1, 1) := by decide +kernel
theorem dX4_takeNewName_47 : decode cX4_takeNewName 47 = .ok (.invokevirtual 99, 3) := by decide +kernel
theorem dX4_takeNewName_50 : decode cX4_takeNewName 50 = .ok (.putfield 19, 3) := by decide +kernel
theorem dX4_takeNewName_53 : decode cX4_takeNewName 53 = .ok (.aload_n 2, 1) := by decide +kernel
theorem dX4_takeNewName_54 : decode cX4_takeNewName 54 = .ok (.iload_n 1, 1) := by decide +kernel
theorem dX4_takeNewName_55 : decode cX4_takeNewName 55 = .ok (.aload_n 0, 1) := by decide +kernel
theorem dX4_takeNewName_56 : decode cX4_takeNewName 56 = .ok (.getfield 19, 3) := by decide +kernel
theorem dX4_takeNewName_59 : decode cX4_takeNewName 59 = .ok (.aload_n 0, 1) := by decide +kernel
theorem dX4_takeNewName_60 : decode cX4_takeNewName 60 = .ok (.getfield 28, 3) := by decide +kernel
theorem dX4_takeNewName_63 : decode cX4_takeNewName 63 = .ok (.getfield 162, 3) := by decide +kernel
theorem dX4_takeNewName_66 : decode cX4_takeNewName 66 = .ok (.invokevirtual 230, 3) := by decide +kernel
theorem dX4_takeNewName_69 : decode cX4_takeNewName 69 = .ok (.aload_n 0, 1) := by decide +kernel
theorem dX4_takeNewName_70 : decode cX4_takeNewName 70 = .ok (.getfield 28, 3) := by decide +kernel
theorem dX4_takeNewName_73 : decode cX4_takeNewName 73 = .ok (.invokevirtual 63, 3) := by decide +kernel
theorem dX4_takeNewName_76 : decode cX4_takeNewName 76 = .ok (.iconst 1, 1) := by decide +kernel
theorem dX4_takeNewName_77 : decode cX4_takeNewName 77 = .ok (.ireturn, 1) := by decide +kernel
set_option maxRecDepth 20000 in
theorem ggX4_takeName_X7_refuse : GoodIn wsX4_takeName wsX7_refuse := goodIn_r _ [9, 10, 11, 12, 13, 69, 70, 71, 72, 73, 74, 75, 76, 77, 78, 79] (by decide +kernel) (by decide +kernel)
set_option maxRecDepth 20000 in
theorem gX4_takeName_X7_refuse : GoodIn wsX4_takeName (wsV RX4 57 RX7 yX7_refuse wsX7_refuse) := goodIn_app (goodIn_of _ (by decide +kernel)) ggX4_takeName_X7_refuse
set_option maxRecDepth 20000 in
theorem ggX4_takeName_X0_numberOf : GoodIn wsX4_takeName wsX0_numberOf := goodIn_r _ [18, 19, 20, 21, 22, 17, 23, 24, 25, 26, 27, 80, 81, 82, 83, 84, 85, 86, 87, 88, 89, 90, 91, 92, 93] (by decide +kernel) (by decide +kernel)
set_option maxRecDepth 20000 in
theorem gX4_takeName_X0_numberOf : GoodIn wsX4_takeName (wsV RX4 166 RX0 yX0_numberOf wsX0_numberOf) := goodIn_app (goodIn_of _ (by decide +kernel)) ggX4_takeName_X0_numberOf
set_option maxRecDepth 20000 in
theorem ggX4_takeName_X7_goOn : GoodIn wsX4_takeName wsX7_goOn := goodIn_r _ [31, 32, 33, 12, 10, 34, 35, 36, 37, 38, 8, 39, 40, 41, 42, 43, 44, 45, 46, 47, 48, 49, 50, 51, 52, 53, 54, 55, 56, 57, 58, 59, 60, 61, 62, 69, 70, 71, 72, 73, 74, 75, 76, 77, 78, 79] (by decide +kernel) (by decide +kernel)
set_option maxRecDepth 20000 in
theorem gX4_takeName_X7_goOn : GoodIn wsX4_takeName (wsV RX4 63 RX7 yX7_goOn wsX7_goOn) := goodIn_app (goodIn_of _ (by decide +kernel)) ggX4_takeName_X7_goOn
theorem dX4_takeName_0 : decode cX4_takeName 0 = .ok (.aload_n 0, 1) := by decide +kernel
theorem dX4_takeName_1 : decode cX4_takeName 1 = .ok (.getfield 28, 3) := by decide +kernel
theorem dX4_takeName_4 : decode cX4_takeName 4 = .ok (.getfield 43, 3) := by decide +kernel
theorem dX4_takeName_7 : decode cX4_takeName 7 = .ok (.bipush 29, 2) := by decide +kernel
theorem dX4_takeName_9 : decode cX4_takeName 9 = .ok (.if_icmp .eq 12, 3) := by decide +kernel
theorem dX4_takeName_12 : decode cX4_takeName 12 = .ok (.aload_n 0, 1) := by decide +kernel
theorem dX4_takeName_13 : decode cX4_takeName 13 = .ok (.getfield 28, 3) := by decide +kernel
theorem dX4_takeName_16 : decode cX4_takeName 16 = .ok (.iconst 2, 1) := by decide +kernel
theorem dX4_takeName_17 : decode cX4_takeName 17 = .ok (.invokevirtual 57, 3) := by decide +kernel
theorem dX4_takeName_20 : decode cX4_takeName 20 = .ok (.ireturn, 1) := by decide +kernel
theorem dX4_takeName_21 : decode cX4_takeName 21 = .ok (.aload_n 0, 1) := by decide +kernel
theorem dX4_takeName_22 : decode cX4_takeName 22 = .ok (.aload_n 2, 1) := by decide +kernel
theorem dX4_takeName_23 : decode cX4_takeName 23 = .ok (.iload_n 1, 1) := by decide +kernel
theorem dX4_takeName_24 : decode cX4_takeName 24 = .ok (.aload_n 0, 1) := by decide +kernel
theorem dX4_takeName_25 : decode cX4_takeName 25 = .ok (.getfield 28, 3) := by decide +kernel
theorem dX4_takeName_28 : decode cX4_takeName 28 = .ok (.getfield 162, 3) := by decide +kernel
theorem dX4_takeName_31 : decode cX4_takeName 31 = .ok (.invokevirtual 166, 3) := by decide +kernel
theorem dX4_takeName_34 : decode cX4_takeName 34 = .ok (.putfield 19, 3) := by decide +kernel
theorem dX4_takeName_37 : decode cX4_takeName 37 = .ok (.aload_n 0, 1) := by decide +kernel
theorem dX4_takeName_38 : decode cX4_takeName 38 = .ok (.getfield 19, 3) := by decide +kernel
theorem dX4_takeName_41 : decode cX4_takeName 41 = .ok (.iconst (-1), 1) := by decide +kernel
theorem dX4_takeName_42 : decode cX4_takeName 42 = .ok (.if_icmp .ne 12, 3) := by decide +kernel
theorem dX4_takeName_45 : decode cX4_takeName 45 = .ok (.aload_n 0, 1) := by decide +kernel
theorem dX4_takeName_46 : decode cX4_takeName 46 = .ok (.getfield 28, 3) := by decide +kernel
theorem dX4_takeName_49 : decode cX4_takeName 49 = .ok (.iconst 3, 1) := by decide +kernel
theorem dX4_takeName_50 : decode cX4_takeName 50 = .ok (.invokevirtual 57, 3) := by decide +kernel
theorem dX4_takeName_53 : decode cX4_takeName 53 = .ok (.ireturn, 1) := by decide +kernel
theorem dX4_takeName_54 : decode cX4_takeName 54 = .ok (.aload_n 0, 1) := by decide +kernel
theorem dX4_takeName_55 : decode cX4_takeName 55 = .ok (.getfield 28, 3) := by decide +kernel
theorem dX4_takeName_58 : decode cX4_takeName 58 = .ok (.invokevirtual 63, 3) := by decide +kernel
theorem dX4_takeName_61 : decode cX4_takeName 61 = .ok (.iconst 1, 1) := by decide +kernel
theorem dX4_takeName_62 : decode cX4_takeName 62 = .ok (.ireturn, 1) := by decide +kernel
set_option maxRecDepth 20000 in
theorem ggX4_takeNumber_X7_refuse : GoodIn wsX4_takeNumber wsX7_refuse := goodIn_r _ [9, 10, 11, 12, 13, 55, 56, 57, 58, 59, 60, 61, 62, 63, 64, 65] (by decide +kernel) (by decide +kernel)
set_option maxRecDepth 20000 in
theorem gX4_takeNumber_X7_refuse : GoodIn wsX4_takeNumber (wsV RX4 57 RX7 yX7_refuse wsX7_refuse) := goodIn_app (goodIn_of _ (by decide +kernel)) ggX4_takeNumber_X7_refuse
set_option maxRecDepth 20000 in
theorem ggX4_takeNumber_X7_goOn : GoodIn wsX4_takeNumber wsX7_goOn := goodIn_r _ [17, 18, 19, 12, 10, 20, 21, 22, 23, 24, 8, 25, 26, 27, 28, 29, 30, 31, 32, 33, 34, 35, 36, 37, 38, 39, 40, 41, 42, 43, 44, 45, 46, 47, 48, 55, 56, 57, 58, 59, 60, 61, 62, 63, 64, 65] (by decide +kernel) (by decide +kernel)
set_option maxRecDepth 20000 in
theorem gX4_takeNumber_X7_goOn : GoodIn wsX4_takeNumber (wsV RX4 63 RX7 yX7_goOn wsX7_goOn) := goodIn_app (goodIn_of _ (by decide +kernel)) ggX4_takeNumber_X7_goOn
theorem dX4_takeNumber_0 : decode cX4_takeNumber 0 = .ok (.aload_n 0, 1) := by decide +kernel
theorem dX4_takeNumber_1 : decode cX4_takeNumber 1 = .ok (.getfield 28, 3) := by decide +kernel
theorem dX4_takeNumber_4 : decode cX4_takeNumber 4 = .ok (.getfield 43, 3) := by decide +kernel
theorem dX4_takeNumber_7 : decode cX4_takeNumber 7 = .ok (.bipush 31, 2) := by decide +kernel
theorem dX4_takeNumber_9 : decode cX4_takeNumber 9 = .ok (.if_icmp .eq 12, 3) := by decide +kernel
theorem dX4_takeNumber_12 : decode cX4_takeNumber 12 = .ok (.aload_n 0, 1) := by decide +kernel
theorem dX4_takeNumber_13 : decode cX4_takeNumber 13 = .ok (.getfield 28, 3) := by decide +kernel
theorem dX4_takeNumber_16 : decode cX4_takeNumber 16 = .ok (.iconst 2, 1) := by decide +kernel
theorem dX4_takeNumber_17 : decode cX4_takeNumber 17 = .ok (.invokevirtual 57, 3) := by decide +kernel
theorem dX4_takeNumber_20 : decode cX4_takeNumber 20 = .ok (.ireturn, 1) := by decide +kernel
theorem dX4_takeNumber_21 : decode cX4_takeNumber 21 = .ok (.aload_n 0, 1) := by decide +kernel
theorem dX4_takeNumber_22 : decode cX4_takeNumber 22 = .ok (.getfield 28, 3) := by decide +kernel
theorem dX4_takeNumber_25 : decode cX4_takeNumber 25 = .ok (.getfield 234, 3) := by decide +kernel
theorem dX4_takeNumber_28 : decode cX4_takeNumber 28 = .ok (.iload_n 1, 1) := by decide +kernel
theorem dX4_takeNumber_29 : decode cX4_takeNumber 29 = .ok (.if_icmp .lt 14, 3) := by decide +kernel
theorem dX4_takeNumber_32 : decode cX4_takeNumber 32 = .ok (.aload_n 0, 1) := by decide +kernel
theorem dX4_takeNumber_33 : decode cX4_takeNumber 33 = .ok (.getfield 28, 3) := by decide +kernel
theorem dX4_takeNumber_36 : decode cX4_takeNumber 36 = .ok (.getfield 234, 3) := by decide +kernel
theorem dX4_takeNumber_39 : decode cX4_takeNumber 39 = .ok (.iload_n 2, 1) := by decide +kernel
theorem dX4_takeNumber_40 : decode cX4_takeNumber 40 = .ok (.if_icmp .le 12, 3) := by decide +kernel
theorem dX4_takeNumber_43 : decode cX4_takeNumber 43 = .ok (.aload_n 0, 1) := by decide +kernel
theorem dX4_takeNumber_44 : decode cX4_takeNumber 44 = .ok (.getfield 28, 3) := by decide +kernel
theorem dX4_takeNumber_47 : decode cX4_takeNumber 47 = .ok (.iconst 4, 1) := by decide +kernel
theorem dX4_takeNumber_48 : decode cX4_takeNumber 48 = .ok (.invokevirtual 57, 3) := by decide +kernel
theorem dX4_takeNumber_51 : decode cX4_takeNumber 51 = .ok (.ireturn, 1) := by decide +kernel
theorem dX4_takeNumber_52 : decode cX4_takeNumber 52 = .ok (.aload_n 0, 1) := by decide +kernel
theorem dX4_takeNumber_53 : decode cX4_takeNumber 53 = .ok (.aload_n 0, 1) := by decide +kernel
theorem dX4_takeNumber_54 : decode cX4_takeNumber 54 = .ok (.getfield 28, 3) := by decide +kernel
theorem dX4_takeNumber_57 : decode cX4_takeNumber 57 = .ok (.getfield 234, 3) := by decide +kernel
theorem dX4_takeNumber_60 : decode cX4_takeNumber 60 = .ok (.putfield 19, 3) := by decide +kernel
theorem dX4_takeNumber_63 : decode cX4_takeNumber 63 = .ok (.aload_n 0, 1) := by decide +kernel
theorem dX4_takeNumber_64 : decode cX4_takeNumber 64 = .ok (.getfield 28, 3) := by decide +kernel
theorem dX4_takeNumber_67 : decode cX4_takeNumber 67 = .ok (.invokevirtual 63, 3) := by decide +kernel
theorem dX4_takeNumber_70 : decode cX4_takeNumber 70 = .ok (.iconst 1, 1) := by decide +kernel
theorem dX4_takeNumber_71 : decode cX4_takeNumber 71 = .ok (.ireturn, 1) := by decide +kernel
set_option maxRecDepth 20000 in
theorem ggX4_takeCompare_X7_refuse : GoodIn wsX4_takeCompare wsX7_refuse := goodIn_r _ [10, 11, 12, 13, 14, 62, 63, 64, 65, 66, 67, 68, 69, 70, 71, 72] (by decide +kernel) (by decide +kernel)
set_option maxRecDepth 20000 in
theorem gX4_takeCompare_X7_refuse : GoodIn wsX4_takeCompare (wsV RX4 57 RX7 yX7_refuse wsX7_refuse) := goodIn_app (goodIn_of _ (by decide +kernel)) ggX4_takeCompare_X7_refuse
set_option maxRecDepth 20000 in
theorem ggX4_takeCompare_X7_goOn : GoodIn wsX4_takeCompare wsX7_goOn := goodIn_r _ [18, 19, 20, 13, 11, 21, 22, 23, 24, 25, 9, 26, 27, 28, 29, 30, 31, 32, 33, 34, 35, 36, 37, 38, 39, 40, 41, 42, 43, 44, 45, 46, 47, 48, 49, 62, 63, 64, 65, 66, 67, 68, 69, 70, 71, 72] (by decide +kernel) (by decide +kernel)
set_option maxRecDepth 20000 in
theorem gX4_takeCompare_X7_goOn : GoodIn wsX4_takeCompare (wsV RX4 63 RX7 yX7_goOn wsX7_goOn) := goodIn_app (goodIn_of _ (by decide +kernel)) ggX4_takeCompare_X7_goOn
set_option maxRecDepth 20000 in
theorem ggX4_takeCompare_X4_takeNumber : GoodIn wsX4_takeCompare wsX4_takeNumber := goodIn_r _ [54, 1, 2, 55, 3, 6, 7, 8, 9, 10, 11, 12, 13, 14, 15, 16, 17, 18, 19, 20, 21, 22, 23, 24, 25, 26, 27, 28, 29, 30, 31, 32, 33, 34, 35, 36, 37, 38, 39, 40, 41, 42, 43, 44, 45, 46, 47, 48, 49, 56, 57, 58, 59, 60, 61, 62, 63, 64, 65, 66, 67, 68, 69, 70, 71, 72] (by decide +kernel) (by decide +kernel)
set_option maxRecDepth 20000 in
theorem gX4_takeCompare_X4_takeNumber : GoodIn wsX4_takeCompare (wsV RX4 151 RX4 yX4_takeNumber wsX4_takeNumber) := goodIn_app (goodIn_of _ (by decide +kernel)) ggX4_takeCompare_X4_takeNumber
theorem dX4_takeCompare_0 : decode cX4_takeCompare 0 = .ok (.aload_n 0, 1) := by decide +kernel
theorem dX4_takeCompare_1 : decode cX4_takeCompare 1 = .ok (.getfield 28, 3) := by decide +kernel
theorem dX4_takeCompare_4 : decode cX4_takeCompare 4 = .ok (.getfield 43, 3) := by decide +kernel
theorem dX4_takeCompare_7 : decode cX4_takeCompare 7 = .ok (.istore_n 2, 1) := by decide +kernel
theorem dX4_takeCompare_8 : decode cX4_takeCompare 8 = .ok (.iload_n 2, 1) := by decide +kernel
theorem dX4_takeCompare_9 : decode cX4_takeCompare 9 = .ok (.bipush 60, 2) := by decide +kernel
theorem dX4_takeCompare_11 : decode cX4_takeCompare 11 = .ok (.if_icmp .eq 24, 3) := by decide +kernel
theorem dX4_takeCompare_14 : decode cX4_takeCompare 14 = .ok (.iload_n 2, 1) := by decide +kernel
theorem dX4_takeCompare_15 : decode cX4_takeCompare 15 = .ok (.bipush 62, 2) := by decide +kernel
theorem dX4_takeCompare_17 : decode cX4_takeCompare 17 = .ok (.if_icmp .eq 18, 3) := by decide +kernel
theorem dX4_takeCompare_20 : decode cX4_takeCompare 20 = .ok (.iload_n 2, 1) := by decide +kernel
theorem dX4_takeCompare_21 : decode cX4_takeCompare 21 = .ok (.bipush 61, 2) := by decide +kernel
theorem dX4_takeCompare_23 : decode cX4_takeCompare 23 = .ok (.if_icmp .eq 12, 3) := by decide +kernel
theorem dX4_takeCompare_26 : decode cX4_takeCompare 26 = .ok (.aload_n 0, 1) := by decide +kernel
theorem dX4_takeCompare_27 : decode cX4_takeCompare 27 = .ok (.getfield 28, 3) := by decide +kernel
theorem dX4_takeCompare_30 : decode cX4_takeCompare 30 = .ok (.iconst 2, 1) := by decide +kernel
theorem dX4_takeCompare_31 : decode cX4_takeCompare 31 = .ok (.invokevirtual 57, 3) := by decide +kernel
theorem dX4_takeCompare_34 : decode cX4_takeCompare 34 = .ok (.ireturn, 1) := by decide +kernel
theorem dX4_takeCompare_35 : decode cX4_takeCompare 35 = .ok (.aload_n 0, 1) := by decide +kernel
theorem dX4_takeCompare_36 : decode cX4_takeCompare 36 = .ok (.getfield 28, 3) := by decide +kernel
theorem dX4_takeCompare_39 : decode cX4_takeCompare 39 = .ok (.invokevirtual 63, 3) := by decide +kernel
theorem dX4_takeCompare_42 : decode cX4_takeCompare 42 = .ok (.aload_n 0, 1) := by decide +kernel
theorem dX4_takeCompare_43 : decode cX4_takeCompare 43 = .ok (.iconst 0, 1) := by decide +kernel
theorem dX4_takeCompare_44 : decode cX4_takeCompare 44 = .ok (.iload_n 1, 1) := by decide +kernel
theorem dX4_takeCompare_45 : decode cX4_takeCompare 45 = .ok (.invokevirtual 151, 3) := by decide +kernel
theorem dX4_takeCompare_48 : decode cX4_takeCompare 48 = .ok (.ifCond .ne 5, 3) := by decide +kernel
theorem dX4_takeCompare_51 : decode cX4_takeCompare 51 = .ok (.iconst 0, 1) := by decide +kernel
theorem dX4_takeCompare_52 : decode cX4_takeCompare 52 = .ok (.ireturn, 1) := by decide +kernel
theorem dX4_takeCompare_53 : decode cX4_takeCompare 53 = .ok (.aload_n 0, 1) := by decide +kernel
theorem dX4_takeCompare_54 : decode cX4_takeCompare 54 = .ok (.iload_n 2, 1) := by decide +kernel
theorem dX4_takeCompare_55 : decode cX4_takeCompare 55 = .ok (.bipush 60, 2) := by decide +kernel
theorem dX4_takeCompare_57 : decode cX4_takeCompare 57 = .ok (.if_icmp .ne 7, 3) := by decide +kernel
theorem dX4_takeCompare_60 : decode cX4_takeCompare 60 = .ok (.iconst 0, 1) := by decide +kernel
theorem dX4_takeCompare_61 : decode cX4_takeCompare 61 = .ok (.goto 22, 3) := by decide +kernel
theorem dX4_takeCompare_64 : decode cX4_takeCompare 64 = .ok (.iload_n 2, 1) := by decide +kernel
theorem dX4_takeCompare_65 : decode cX4_takeCompare 65 = .ok (.bipush 62, 2) := by decide +kernel
theorem dX4_takeCompare_67 : decode cX4_takeCompare 67 = .ok (.if_icmp .ne 12, 3) := by decide +kernel
theorem dX4_takeCompare_70 : decode cX4_takeCompare 70 = .ok (.aload_n 0, 1) := by decide +kernel
theorem dX4_takeCompare_71 : decode cX4_takeCompare 71 = .ok (.getfield 19, 3) := by decide +kernel
theorem dX4_takeCompare_74 : decode cX4_takeCompare 74 = .ok (.iconst 1, 1) := by decide +kernel
theorem dX4_takeCompare_75 : decode cX4_takeCompare 75 = .ok (.iadd, 1) := by decide +kernel
theorem dX4_takeCompare_76 : decode cX4_takeCompare 76 = .ok (.goto 7, 3) := by decide +kernel
theorem dX4_takeCompare_79 : decode cX4_takeCompare 79 = .ok (.aload_n 0, 1) := by decide +kernel
theorem dX4_takeCompare_80 : decode cX4_takeCompare 80 = .ok (.getfield 19, 3) := by decide +kernel
theorem dX4_takeCompare_83 : decode cX4_takeCompare 83 = .ok (.putfield 22, 3) := by decide +kernel
theorem dX4_takeCompare_86 : decode cX4_takeCompare 86 = .ok (.aload_n 0, 1) := by decide +kernel
theorem dX4_takeCompare_87 : decode cX4_takeCompare 87 = .ok (.iload_n 2, 1) := by decide +kernel
theorem dX4_takeCompare_88 : decode cX4_takeCompare 88 = .ok (.bipush 60, 2) := by decide +kernel
theorem dX4_takeCompare_90 : decode cX4_takeCompare 90 = .ok (.if_icmp .ne 12, 3) := by decide +kernel
theorem dX4_takeCompare_93 : decode cX4_takeCompare 93 = .ok (.aload_n 0, 1) := by decide +kernel
theorem dX4_takeCompare_94 : decode cX4_takeCompare 94 = .ok (.getfield 19, 3) := by decide +kernel
theorem dX4_takeCompare_97 : decode cX4_takeCompare 97 = .ok (.iconst 1, 1) := by decide +kernel
theorem dX4_takeCompare_98 : decode cX4_takeCompare 98 = .ok (.isub, 1) := by decide +kernel
theorem dX4_takeCompare_99 : decode cX4_takeCompare 99 = .ok (.goto 17, 3) := by decide +kernel
theorem dX4_takeCompare_102 : decode cX4_takeCompare 102 = .ok (.iload_n 2, 1) := by decide +kernel
theorem dX4_takeCompare_103 : decode cX4_takeCompare 103 = .ok (.bipush 62, 2) := by decide +kernel
theorem dX4_takeCompare_105 : decode cX4_takeCompare 105 = .ok (.if_icmp .ne 7, 3) := by decide +kernel
theorem dX4_takeCompare_108 : decode cX4_takeCompare 108 = .ok (.iload_n 1, 1) := by decide +kernel
theorem dX4_takeCompare_109 : decode cX4_takeCompare 109 = .ok (.goto 7, 3) := by decide +kernel
theorem dX4_takeCompare_112 : decode cX4_takeCompare 112 = .ok (.aload_n 0, 1) := by decide +kernel
theorem dX4_takeCompare_113 : decode cX4_takeCompare 113 = .ok (.getfield 19, 3) := by decide +kernel
theorem dX4_takeCompare_116 : decode cX4_takeCompare 116 = .ok (.putfield 25, 3) := by decide +kernel
theorem dX4_takeCompare_119 : decode cX4_takeCompare 119 = .ok (.iconst 1, 1) := by decide +kernel
theorem dX4_takeCompare_120 : decode cX4_takeCompare 120 = .ok (.ireturn, 1) := by decide +kernel
theorem dX5_init_0 : decode cX5_init 0 = .ok (.aload_n 0, 1) := by decide +kernel
theorem dX5_init_1 : decode cX5_init 1 = .ok (.invokespecial 3, 3) := by decide +kernel
theorem dX5_init_4 : decode cX5_init 4 = .ok (.aload_n 0, 1) := by decide +kernel
theorem dX5_init_5 : decode cX5_init 5 = .ok (.iconst 2, 1) := by decide +kernel
theorem dX5_init_6 : decode cX5_init 6 = .ok (.putfield 9, 3) := by decide +kernel
theorem dX5_init_9 : decode cX5_init 9 = .ok (.aload_n 0, 1) := by decide +kernel
theorem dX5_init_10 : decode cX5_init 10 = .ok (.iconst 0, 1) := by decide +kernel
theorem dX5_init_11 : decode cX5_init 11 = .ok (.putfield 15, 3) := by decide +kernel
theorem dX5_init_14 : decode cX5_init 14 = .ok (.aload_n 0, 1) := by decide +kernel
theorem dX5_init_15 : decode cX5_init 15 = .ok (.iconst 0, 1) := by decide +kernel
theorem dX5_init_16 : decode cX5_init 16 = .ok (.putfield 18, 3) := by decide +kernel
theorem dX5_init_19 : decode cX5_init 19 = .ok (.aload_n 0, 1) := by decide +kernel
theorem dX5_init_20 : decode cX5_init 20 = .ok (.iconst 0, 1) := by decide +kernel
theorem dX5_init_21 : decode cX5_init 21 = .ok (.putfield 21, 3) := by decide +kernel
theorem dX5_init_24 : decode cX5_init 24 = .ok (.aload_n 0, 1) := by decide +kernel
theorem dX5_init_25 : decode cX5_init 25 = .ok (.iconst 0, 1) := by decide +kernel
theorem dX5_init_26 : decode cX5_init 26 = .ok (.putfield 24, 3) := by decide +kernel
theorem dX5_init_29 : decode cX5_init 29 = .ok (.return_, 1) := by decide +kernel
theorem dX5_renew_0 : decode cX5_renew 0 = .ok (.aload_n 0, 1) := by decide +kernel
theorem dX5_renew_1 : decode cX5_renew 1 = .ok (.iconst 2, 1) := by decide +kernel
theorem dX5_renew_2 : decode cX5_renew 2 = .ok (.putfield 9, 3) := by decide +kernel
theorem dX5_renew_5 : decode cX5_renew 5 = .ok (.aload_n 0, 1) := by decide +kernel
theorem dX5_renew_6 : decode cX5_renew 6 = .ok (.iconst 0, 1) := by decide +kernel
theorem dX5_renew_7 : decode cX5_renew 7 = .ok (.putfield 15, 3) := by decide +kernel
theorem dX5_renew_10 : decode cX5_renew 10 = .ok (.aload_n 0, 1) := by decide +kernel
theorem dX5_renew_11 : decode cX5_renew 11 = .ok (.iconst 0, 1) := by decide +kernel
theorem dX5_renew_12 : decode cX5_renew 12 = .ok (.putfield 18, 3) := by decide +kernel
theorem dX5_renew_15 : decode cX5_renew 15 = .ok (.aload_n 0, 1) := by decide +kernel
theorem dX5_renew_16 : decode cX5_renew 16 = .ok (.iconst 0, 1) := by decide +kernel
theorem dX5_renew_17 : decode cX5_renew 17 = .ok (.putfield 21, 3) := by decide +kernel
theorem dX5_renew_20 : decode cX5_renew 20 = .ok (.aload_n 0, 1) := by decide +kernel
theorem dX5_renew_21 : decode cX5_renew 21 = .ok (.iconst 0, 1) := by decide +kernel
theorem dX5_renew_22 : decode cX5_renew 22 = .ok (.putfield 24, 3) := by decide +kernel
theorem dX5_renew_25 : decode cX5_renew 25 = .ok (.return_, 1) := by decide +kernel
theorem dX5_copyFrom_0 : decode cX5_copyFrom 0 = .ok (.aload_n 0, 1) := by decide +kernel
theorem dX5_copyFrom_1 : decode cX5_copyFrom 1 = .ok (.aload_n 1, 1) := by decide +kernel
theorem dX5_copyFrom_2 : decode cX5_copyFrom 2 = .ok (.getfield 9, 3) := by decide +kernel
theorem dX5_copyFrom_5 : decode cX5_copyFrom 5 = .ok (.putfield 9, 3) := by decide +kernel
theorem dX5_copyFrom_8 : decode cX5_copyFrom 8 = .ok (.aload_n 0, 1) := by decide +kernel
theorem dX5_copyFrom_9 : decode cX5_copyFrom 9 = .ok (.aload_n 1, 1) := by decide +kernel
theorem dX5_copyFrom_10 : decode cX5_copyFrom 10 = .ok (.getfield 15, 3) := by decide +kernel
theorem dX5_copyFrom_13 : decode cX5_copyFrom 13 = .ok (.putfield 15, 3) := by decide +kernel
theorem dX5_copyFrom_16 : decode cX5_copyFrom 16 = .ok (.aload_n 0, 1) := by decide +kernel
theorem dX5_copyFrom_17 : decode cX5_copyFrom 17 = .ok (.aload_n 1, 1) := by decide +kernel
theorem dX5_copyFrom_18 : decode cX5_copyFrom 18 = .ok (.getfield 18, 3) := by decide +kernel
theorem dX5_copyFrom_21 : decode cX5_copyFrom 21 = .ok (.putfield 18, 3) := by decide +kernel
theorem dX5_copyFrom_24 : decode cX5_copyFrom 24 = .ok (.aload_n 0, 1) := by decide +kernel
theorem dX5_copyFrom_25 : decode cX5_copyFrom 25 = .ok (.aload_n 1, 1) := by decide +kernel
theorem dX5_copyFrom_26 : decode cX5_copyFrom 26 = .ok (.getfield 21, 3) := by decide +kernel
theorem dX5_copyFrom_29 : decode cX5_copyFrom 29 = .ok (.putfield 21, 3) := by decide +kernel
theorem dX5_copyFrom_32 : decode cX5_copyFrom 32 = .ok (.aload_n 0, 1) := by decide +kernel
theorem dX5_copyFrom_33 : decode cX5_copyFrom 33 = .ok (.aload_n 1, 1) := by decide +kernel
theorem dX5_copyFrom_34 : decode cX5_copyFrom 34 = .ok (.getfield 24, 3) := by decide +kernel
theorem dX5_copyFrom_37 : decode cX5_copyFrom 37 = .ok (.putfield 24, 3) := by decide +kernel
theorem dX5_copyFrom_40 : decode cX5_copyFrom 40 = .ok (.return_, 1) := by decide +kernel
theorem dX6_init_0 : decode cX6_init 0 = .ok (.aload_n 0, 1) := by decide +kernel
theorem dX6_init_1 : decode cX6_init 1 = .ok (.invokespecial 3, 3) := by decide +kernel
theorem dX6_init_4 : decode cX6_init 4 = .ok (.aload_n 0, 1) := by decide +kernel
theorem dX6_init_5 : decode cX6_init 5 = .ok (.iconst 0, 1) := by decide +kernel
theorem dX6_init_6 : decode cX6_init 6 = .ok (.putfield 9, 3) := by decide +kernel
theorem dX6_init_9 : decode cX6_init 9 = .ok (.aload_n 0, 1) := by decide +kernel
theorem dX6_init_10 : decode cX6_init 10 = .ok (.iconst 0, 1) := by decide +kernel
theorem dX6_init_11 : decode cX6_init 11 = .ok (.putfield 15, 3) := by decide +kernel
theorem dX6_init_14 : decode cX6_init 14 = .ok (.aload_n 0, 1) := by decide +kernel
theorem dX6_init_15 : decode cX6_init 15 = .ok (.iconst (-1), 1) := by decide +kernel
theorem dX6_init_16 : decode cX6_init 16 = .ok (.putfield 18, 3) := by decide +kernel
theorem dX6_init_19 : decode cX6_init 19 = .ok (.aload_n 0, 1) := by decide +kernel
theorem dX6_init_20 : decode cX6_init 20 = .ok (.iconst (-1), 1) := by decide +kernel
theorem dX6_init_21 : decode cX6_init 21 = .ok (.putfield 21, 3) := by decide +kernel
theorem dX6_init_24 : decode cX6_init 24 = .ok (.aload_n 0, 1) := by decide +kernel
theorem dX6_init_25 : decode cX6_init 25 = .ok (.iconst 0, 1) := by decide +kernel
theorem dX6_init_26 : decode cX6_init 26 = .ok (.putfield 24, 3) := by decide +kernel
theorem dX6_init_29 : decode cX6_init 29 = .ok (.aload_n 0, 1) := by decide +kernel
theorem dX6_init_30 : decode cX6_init 30 = .ok (.bipush 99, 2) := by decide +kernel
theorem dX6_init_32 : decode cX6_init 32 = .ok (.putfield 27, 3) := by decide +kernel
theorem dX6_init_35 : decode cX6_init 35 = .ok (.aload_n 0, 1) := by decide +kernel
theorem dX6_init_36 : decode cX6_init 36 = .ok (.iconst (-1), 1) := by decide +kernel
theorem dX6_init_37 : decode cX6_init 37 = .ok (.putfield 30, 3) := by decide +kernel
theorem dX6_init_40 : decode cX6_init 40 = .ok (.aload_n 0, 1) := by decide +kernel
theorem dX6_init_41 : decode cX6_init 41 = .ok (.iconst 0, 1) := by decide +kernel
theorem dX6_init_42 : decode cX6_init 42 = .ok (.putfield 33, 3) := by decide +kernel
theorem dX6_init_45 : decode cX6_init 45 = .ok (.aload_n 0, 1) := by decide +kernel
theorem dX6_init_46 : decode cX6_init 46 = .ok (.bipush 9, 2) := by decide +kernel
theorem dX6_init_48 : decode cX6_init 48 = .ok (.putfield 36, 3) := by decide +kernel
theorem dX6_init_51 : decode cX6_init 51 = .ok (.return_, 1) := by decide +kernel
theorem dX6_renew_0 : decode cX6_renew 0 = .ok (.aload_n 0, 1) := by decide +kernel
theorem dX6_renew_1 : decode cX6_renew 1 = .ok (.iload_n 1, 1) := by decide +kernel
theorem dX6_renew_2 : decode cX6_renew 2 = .ok (.putfield 9, 3) := by decide +kernel
theorem dX6_renew_5 : decode cX6_renew 5 = .ok (.aload_n 0, 1) := by decide +kernel
theorem dX6_renew_6 : decode cX6_renew 6 = .ok (.iconst 0, 1) := by decide +kernel
theorem dX6_renew_7 : decode cX6_renew 7 = .ok (.putfield 15, 3) := by decide +kernel
theorem dX6_renew_10 : decode cX6_renew 10 = .ok (.aload_n 0, 1) := by decide +kernel
theorem dX6_renew_11 : decode cX6_renew 11 = .ok (.iconst (-1), 1) := by decide +kernel
theorem dX6_renew_12 : decode cX6_renew 12 = .ok (.putfield 18, 3) := by decide +kernel
theorem dX6_renew_15 : decode cX6_renew 15 = .ok (.aload_n 0, 1) := by decide +kernel
theorem dX6_renew_16 : decode cX6_renew 16 = .ok (.iconst (-1), 1) := by decide +kernel
theorem dX6_renew_17 : decode cX6_renew 17 = .ok (.putfield 21, 3) := by decide +kernel
theorem dX6_renew_20 : decode cX6_renew 20 = .ok (.aload_n 0, 1) := by decide +kernel
theorem dX6_renew_21 : decode cX6_renew 21 = .ok (.iconst 0, 1) := by decide +kernel
theorem dX6_renew_22 : decode cX6_renew 22 = .ok (.putfield 24, 3) := by decide +kernel
theorem dX6_renew_25 : decode cX6_renew 25 = .ok (.aload_n 0, 1) := by decide +kernel
theorem dX6_renew_26 : decode cX6_renew 26 = .ok (.bipush 99, 2) := by decide +kernel
theorem dX6_renew_28 : decode cX6_renew 28 = .ok (.putfield 27, 3) := by decide +kernel
theorem dX6_renew_31 : decode cX6_renew 31 = .ok (.aload_n 0, 1) := by decide +kernel
theorem dX6_renew_32 : decode cX6_renew 32 = .ok (.iconst (-1), 1) := by decide +kernel
theorem dX6_renew_33 : decode cX6_renew 33 = .ok (.putfield 30, 3) := by decide +kernel
theorem dX6_renew_36 : decode cX6_renew 36 = .ok (.aload_n 0, 1) := by decide +kernel
theorem dX6_renew_37 : decode cX6_renew 37 = .ok (.iconst 0, 1) := by decide +kernel
theorem dX6_renew_38 : decode cX6_renew 38 = .ok (.putfield 33, 3) := by decide +kernel
theorem dX6_renew_41 : decode cX6_renew 41 = .ok (.aload_n 0, 1) := by decide +kernel
theorem dX6_renew_42 : decode cX6_renew 42 = .ok (.bipush 9, 2) := by decide +kernel
theorem dX6_renew_44 : decode cX6_renew 44 = .ok (.putfield 36, 3) := by decide +kernel
theorem dX6_renew_47 : decode cX6_renew 47 = .ok (.return_, 1) := by decide +kernel
theorem dX6_copyFrom_0 : decode cX6_copyFrom 0 = .ok (.aload_n 0, 1) := by decide +kernel
theorem dX6_copyFrom_1 : decode cX6_copyFrom 1 = .ok (.aload_n 1, 1) := by decide +kernel
theorem dX6_copyFrom_2 : decode cX6_copyFrom 2 = .ok (.getfield 9, 3) := by decide +kernel
theorem dX6_copyFrom_5 : decode cX6_copyFrom 5 = .ok (.putfield 9, 3) := by decide +kernel
theorem dX6_copyFrom_8 : decode cX6_copyFrom 8 = .ok (.aload_n 0, 1) := by decide +kernel
theorem dX6_copyFrom_9 : decode cX6_copyFrom 9 = .ok (.aload_n 1, 1) := by decide +kernel
theorem dX6_copyFrom_10 : decode cX6_copyFrom 10 = .ok (.getfield 15, 3) := by decide +kernel
theorem dX6_copyFrom_13 : decode cX6_copyFrom 13 = .ok (.putfield 15, 3) := by decide +kernel
theorem dX6_copyFrom_16 : decode cX6_copyFrom 16 = .ok (.aload_n 0, 1) := by decide +kernel
theorem dX6_copyFrom_17 : decode cX6_copyFrom 17 = .ok (.aload_n 1, 1) := by decide +kernel
theorem dX6_copyFrom_18 : decode cX6_copyFrom 18 = .ok (.getfield 18, 3) := by decide +kernel
theorem dX6_copyFrom_21 : decode cX6_copyFrom 21 = .ok (.putfield 18, 3) := by decide +kernel
theorem dX6_copyFrom_24 : decode cX6_copyFrom 24 = .ok (.aload_n 0, 1) := by decide +kernel
theorem dX6_copyFrom_25 : decode cX6_copyFrom 25 = .ok (.aload_n 1, 1) := by decide +kernel
theorem dX6_copyFrom_26 : decode cX6_copyFrom 26 = .ok (.getfield 21, 3) := by decide +kernel
theorem dX6_copyFrom_29 : decode cX6_copyFrom 29 = .ok (.putfield 21, 3) := by decide +kernel
theorem dX6_copyFrom_32 : decode cX6_copyFrom 32 = .ok (.aload_n 0, 1) := by decide +kernel
theorem dX6_copyFrom_33 : decode cX6_copyFrom 33 = .ok (.aload_n 1, 1) := by decide +kernel
theorem dX6_copyFrom_34 : decode cX6_copyFrom 34 = .ok (.getfield 24, 3) := by decide +kernel
theorem dX6_copyFrom_37 : decode cX6_copyFrom 37 = .ok (.putfield 24, 3) := by decide +kernel
theorem dX6_copyFrom_40 : decode cX6_copyFrom 40 = .ok (.aload_n 0, 1) := by decide +kernel
theorem dX6_copyFrom_41 : decode cX6_copyFrom 41 = .ok (.aload_n 1, 1) := by decide +kernel
theorem dX6_copyFrom_42 : decode cX6_copyFrom 42 = .ok (.getfield 27, 3) := by decide +kernel
theorem dX6_copyFrom_45 : decode cX6_copyFrom 45 = .ok (.putfield 27, 3) := by decide +kernel
theorem dX6_copyFrom_48 : decode cX6_copyFrom 48 = .ok (.aload_n 0, 1) := by decide +kernel
theorem dX6_copyFrom_49 : decode cX6_copyFrom 49 = .ok (.aload_n 1, 1) := by decide +kernel
theorem dX6_copyFrom_50 : decode cX6_copyFrom 50 = .ok (.getfield 30, 3) := by decide +kernel
theorem dX6_copyFrom_53 : decode cX6_copyFrom 53 = .ok (.putfield 30, 3) := by decide +kernel
theorem dX6_copyFrom_56 : decode cX6_copyFrom 56 = .ok (.aload_n 0, 1) := by decide +kernel
theorem dX6_copyFrom_57 : decode cX6_copyFrom 57 = .ok (.aload_n 1, 1) := by decide +kernel
theorem dX6_copyFrom_58 : decode cX6_copyFrom 58 = .ok (.getfield 33, 3) := by decide +kernel
theorem dX6_copyFrom_61 : decode cX6_copyFrom 61 = .ok (.putfield 33, 3) := by decide +kernel
theorem dX6_copyFrom_64 : decode cX6_copyFrom 64 = .ok (.aload_n 0, 1) := by decide +kernel
theorem dX6_copyFrom_65 : decode cX6_copyFrom 65 = .ok (.aload_n 1, 1) := by decide +kernel
theorem dX6_copyFrom_66 : decode cX6_copyFrom 66 = .ok (.getfield 36, 3) := by decide +kernel
theorem dX6_copyFrom_69 : decode cX6_copyFrom 69 = .ok (.putfield 36, 3) := by decide +kernel
theorem dX6_copyFrom_72 : decode cX6_copyFrom 72 = .ok (.return_, 1) := by decide +kernel
theorem dX6_partOf_0 : decode cX6_partOf 0 = .ok (.iload_n 1, 1) := by decide +kernel
theorem dX6_partOf_1 : decode cX6_partOf 1 = .ok (.tableswitch 60 0 4 #[35, 40, 45, 50, 55], 35) := by decide +kernel
theorem dX6_partOf_36 : decode cX6_partOf 36 = .ok (.aload_n 0, 1) := by decide +kernel
theorem dX6_partOf_37 : decode cX6_partOf 37 = .ok (.getfield 9, 3) := by decide +kernel
theorem dX6_partOf_40 : decode cX6_partOf 40 = .ok (.ireturn, 1) := by decide +kernel
theorem dX6_partOf_41 : decode cX6_partOf 41 = .ok (.aload_n 0, 1) := by decide +kernel
theorem dX6_partOf_42 : decode cX6_partOf 42 = .ok (.getfield 15, 3) := by decide +kernel
theorem dX6_partOf_45 : decode cX6_partOf 45 = .ok (.ireturn, 1) := by decide +kernel
theorem dX6_partOf_46 : decode cX6_partOf 46 = .ok (.aload_n 0, 1) := by decide +kernel
theorem dX6_partOf_47 : decode cX6_partOf 47 = .ok (.getfield 21, 3) := by decide +kernel
theorem dX6_partOf_50 : decode cX6_partOf 50 = .ok (.ireturn, 1) := by decide +kernel
theorem dX6_partOf_51 : decode cX6_partOf 51 = .ok (.aload_n 0, 1) := by decide +kernel
theorem dX6_partOf_52 : decode cX6_partOf 52 = .ok (.getfield 30, 3) := by decide +kernel
theorem dX6_partOf_55 : decode cX6_partOf 55 = .ok (.ireturn, 1) := by decide +kernel
theorem dX6_partOf_56 : decode cX6_partOf 56 = .ok (.aload_n 0, 1) := by decide +kernel
theorem dX6_partOf_57 : decode cX6_partOf 57 = .ok (.getfield 18, 3) := by decide +kernel
theorem dX6_partOf_60 : decode cX6_partOf 60 = .ok (.ireturn, 1) := by decide +kernel
theorem dX6_partOf_61 : decode cX6_partOf 61 = .ok (.iconst (-1), 1) := by decide +kernel
theorem dX6_partOf_62 : decode cX6_partOf 62 = .ok (.ireturn, 1) := by decide +kernel
theorem dX6_bearsOn_0 : decode cX6_bearsOn 0 = .ok (.aload_n 0, 1) := by decide +kernel
theorem dX6_bearsOn_1 : decode cX6_bearsOn 1 = .ok (.getfield 15, 3) := by decide +kernel
theorem dX6_bearsOn_4 : decode cX6_bearsOn 4 = .ok (.ifCond .eq 11, 3) := by decide +kernel
theorem dX6_bearsOn_7 : decode cX6_bearsOn 7 = .ok (.aload_n 0, 1) := by decide +kernel
theorem dX6_bearsOn_8 : decode cX6_bearsOn 8 = .ok (.getfield 15, 3) := by decide +kernel
theorem dX6_bearsOn_11 : decode cX6_bearsOn 11 = .ok (.iload_n 1, 1) := by decide +kernel
theorem dX6_bearsOn_12 : decode cX6_bearsOn 12 = .ok (.if_icmp .ne 59, 3) := by decide +kernel
theorem dX6_bearsOn_15 : decode cX6_bearsOn 15 = .ok (.iload_n 2, 1) := by decide +kernel
theorem dX6_bearsOn_16 : decode cX6_bearsOn 16 = .ok (.aload_n 0, 1) := by decide +kernel
theorem dX6_bearsOn_17 : decode cX6_bearsOn 17 = .ok (.getfield 24, 3) := by decide +kernel
theorem dX6_bearsOn_20 : decode cX6_bearsOn 20 = .ok (.if_icmp .lt 51, 3) := by decide +kernel
theorem dX6_bearsOn_23 : decode cX6_bearsOn 23 = .ok (.iload_n 2, 1) := by decide +kernel
theorem dX6_bearsOn_24 : decode cX6_bearsOn 24 = .ok (.aload_n 0, 1) := by decide +kernel
theorem dX6_bearsOn_25 : decode cX6_bearsOn 25 = .ok (.getfield 27, 3) := by decide +kernel
theorem dX6_bearsOn_28 : decode cX6_bearsOn 28 = .ok (.if_icmp .gt 43, 3) := by decide +kernel
theorem dX6_bearsOn_31 : decode cX6_bearsOn 31 = .ok (.iload_n 3, 1) := by decide +kernel
theorem dX6_bearsOn_32 : decode cX6_bearsOn 32 = .ok (.aload_n 0, 1) := by decide +kernel
theorem dX6_bearsOn_33 : decode cX6_bearsOn 33 = .ok (.getfield 33, 3) := by decide +kernel
theorem dX6_bearsOn_36 : decode cX6_bearsOn 36 = .ok (.if_icmp .lt 35, 3) := by decide +kernel
theorem dX6_bearsOn_39 : decode cX6_bearsOn 39 = .ok (.iload_n 3, 1) := by decide +kernel
theorem dX6_bearsOn_40 : decode cX6_bearsOn 40 = .ok (.aload_n 0, 1) := by decide +kernel
theorem dX6_bearsOn_41 : decode cX6_bearsOn 41 = .ok (.getfield 36, 3) := by decide +kernel
theorem dX6_bearsOn_44 : decode cX6_bearsOn 44 = .ok (.if_icmp .gt 27, 3) := by decide +kernel
theorem dX6_bearsOn_47 : decode cX6_bearsOn 47 = .ok (.aload_n 0, 1) := by decide +kernel
theorem dX6_bearsOn_48 : decode cX6_bearsOn 48 = .ok (.getfield 18, 3) := by decide +kernel
theorem dX6_bearsOn_51 : decode cX6_bearsOn 51 = .ok (.iconst (-1), 1) := by decide +kernel
theorem dX6_bearsOn_52 : decode cX6_bearsOn 52 = .ok (.if_icmp .eq 15, 3) := by decide +kernel
theorem dX6_bearsOn_55 : decode cX6_bearsOn 55 = .ok (.iload 4, 2) := by decide +kernel
theorem dX6_bearsOn_57 : decode cX6_bearsOn 57 = .ok (.aload_n 0, 1) := by decide +kernel
theorem dX6_bearsOn_58 : decode cX6_bearsOn 58 = .ok (.getfield 18, 3) := by decide +kernel
theorem dX6_bearsOn_61 : decode cX6_bearsOn 61 = .ok (.ishr, 1) := by decide +kernel
theorem dX6_bearsOn_62 : decode cX6_bearsOn 62 = .ok (.iconst 1, 1) := by decide +kernel
theorem dX6_bearsOn_63 : decode cX6_bearsOn 63 = .ok (.iand, 1) := by decide +kernel
theorem dX6_bearsOn_64 : decode cX6_bearsOn 64 = .ok (.ifCond .eq 7, 3) := by decide +kernel
theorem dX6_bearsOn_67 : decode cX6_bearsOn 67 = .ok (.iconst 1, 1) := by decide +kernel
theorem dX6_bearsOn_68 : decode cX6_bearsOn 68 = .ok (.goto 4, 3) := by decide +kernel
theorem dX6_bearsOn_71 : decode cX6_bearsOn 71 = .ok (.iconst 0, 1) := by decide +kernel
theorem dX6_bearsOn_72 : decode cX6_bearsOn 72 = .ok (.ireturn, 1) := by decide +kernel
set_option maxRecDepth 20000 in
theorem ggX7_init_J0_length_8abf5 : GoodIn wsX7_init wsJ0_length_8abf5 := goodIn_r _ [21, 22, 23, 24, 25, 20, 26, 27, 28] (by decide +kernel) (by decide +kernel)
set_option maxRecDepth 20000 in
theorem gX7_init_J0_length_8abf5 : GoodIn wsX7_init (wsV RX7 50 RJ0 yJ0_length_8abf5 wsJ0_length_8abf5) := goodIn_app (goodIn_of _ (by decide +kernel)) ggX7_init_J0_length_8abf5
set_option maxRecDepth 20000 in
theorem ggX7_init_J0_charAt_5068e : GoodIn wsX7_init wsJ0_charAt_5068e := goodIn_r _ [32, 22, 33, 34, 35, 20, 36, 27, 28, 37, 38, 39, 40, 41, 42, 43, 44, 45, 46, 47, 48, 49, 50, 51, 52, 53, 54, 55, 56, 57, 58, 59, 60, 61, 62, 63, 64, 65] (by decide +kernel) (by decide +kernel)
set_option maxRecDepth 20000 in
theorem gX7_init_J0_charAt_5068e : GoodIn wsX7_init (wsV RX7 56 RJ0 yJ0_charAt_5068e wsJ0_charAt_5068e) := goodIn_app (goodIn_of _ (by decide +kernel)) ggX7_init_J0_charAt_5068e
set_option maxRecDepth 20000 in
theorem ggX7_init_X7_withLetter : GoodIn wsX7_init wsX7_withLetter := goodIn_r _ [69, 70, 71] (by decide +kernel) (by decide +kernel)
set_option maxRecDepth 20000 in
theorem gX7_init_X7_withLetter : GoodIn wsX7_init (va_wsS RX7 60 yX7_withLetter wsX7_withLetter) := goodIn_app (goodIn_of _ (by decide +kernel)) ggX7_init_X7_withLetter
theorem dX7_init_0 : decode cX7_init 0 = .ok (.aload_n 0, 1) := by decide +kernel
theorem dX7_init_1 : decode cX7_init 1 = .ok (.invokespecial 3, 3) := by decide +kernel
theorem dX7_init_4 : decode cX7_init 4 = .ok (.aload_n 0, 1) := by decide +kernel
theorem dX7_init_5 : decode cX7_init 5 = .ok (.sipush 900, 3) := by decide +kernel
theorem dX7_init_8 : decode cX7_init 8 = .ok (.newarray .int, 2) := by decide +kernel
theorem dX7_init_10 : decode cX7_init 10 = .ok (.putfield 9, 3) := by decide +kernel
theorem dX7_init_13 : decode cX7_init 13 = .ok (.aload_n 0, 1) := by decide +kernel
theorem dX7_init_14 : decode cX7_init 14 = .ok (.bipush 29, 2) := by decide +kernel
theorem dX7_init_16 : decode cX7_init 16 = .ok (.newarray .long, 2) := by decide +kernel
theorem dX7_init_18 : decode cX7_init 18 = .ok (.putfield 15, 3) := by decide +kernel
theorem dX7_init_21 : decode cX7_init 21 = .ok (.aload_n 0, 1) := by decide +kernel
theorem dX7_init_22 : decode cX7_init 22 = .ok (.iconst 0, 1) := by decide +kernel
theorem dX7_init_23 : decode cX7_init 23 = .ok (.putfield 19, 3) := by decide +kernel
theorem dX7_init_26 : decode cX7_init 26 = .ok (.aload_n 0, 1) := by decide +kernel
theorem dX7_init_27 : decode cX7_init 27 = .ok (.iconst 0, 1) := by decide +kernel
theorem dX7_init_28 : decode cX7_init 28 = .ok (.putfield 23, 3) := by decide +kernel
theorem dX7_init_31 : decode cX7_init 31 = .ok (.aload_n 0, 1) := by decide +kernel
theorem dX7_init_32 : decode cX7_init 32 = .ok (.iconst 0, 1) := by decide +kernel
theorem dX7_init_33 : decode cX7_init 33 = .ok (.putfield 26, 3) := by decide +kernel
theorem dX7_init_36 : decode cX7_init 36 = .ok (.aload_n 0, 1) := by decide +kernel
theorem dX7_init_37 : decode cX7_init 37 = .ok (.iconst 0, 1) := by decide +kernel
theorem dX7_init_38 : decode cX7_init 38 = .ok (.putfield 29, 3) := by decide +kernel
theorem dX7_init_41 : decode cX7_init 41 = .ok (.aload_n 0, 1) := by decide +kernel
theorem dX7_init_42 : decode cX7_init 42 = .ok (.bipush 32, 2) := by decide +kernel
theorem dX7_init_44 : decode cX7_init 44 = .ok (.putfield 32, 3) := by decide +kernel
theorem dX7_init_47 : decode cX7_init 47 = .ok (.aload_n 0, 1) := by decide +kernel
theorem dX7_init_48 : decode cX7_init 48 = .ok (.lconst 0, 1) := by decide +kernel
theorem dX7_init_49 : decode cX7_init 49 = .ok (.putfield 35, 3) := by decide +kernel
theorem dX7_init_52 : decode cX7_init 52 = .ok (.aload_n 0, 1) := by decide +kernel
theorem dX7_init_53 : decode cX7_init 53 = .ok (.iconst 0, 1) := by decide +kernel
theorem dX7_init_54 : decode cX7_init 54 = .ok (.putfield 39, 3) := by decide +kernel
theorem dX7_init_57 : decode cX7_init 57 = .ok (.aload_n 0, 1) := by decide +kernel
theorem dX7_init_58 : decode cX7_init 58 = .ok (.iconst 0, 1) := by decide +kernel
theorem dX7_init_59 : decode cX7_init 59 = .ok (.putfield 42, 3) := by decide +kernel
theorem dX7_init_62 : decode cX7_init 62 = .ok (.aload_n 0, 1) := by decide +kernel
theorem dX7_init_63 : decode cX7_init 63 = .ok (.iconst (-1), 1) := by decide +kernel
theorem dX7_init_64 : decode cX7_init 64 = .ok (.putfield 45, 3) := by decide +kernel
theorem dX7_init_67 : decode cX7_init 67 = .ok (.iconst 0, 1) := by decide +kernel
theorem dX7_init_68 : decode cX7_init 68 = .ok (.istore_n 1, 1) := by decide +kernel
theorem dX7_init_69 : decode cX7_init 69 = .ok (.lconst 0, 1) := by decide +kernel
theorem dX7_init_70 : decode cX7_init 70 = .ok (.lstore_n 2, 1) := by decide +kernel
theorem dX7_init_71 : decode cX7_init 71 = .ok (.iconst 0, 1) := by decide +kernel
theorem dX7_init_72 : decode cX7_init 72 = .ok (.istore 4, 2) := by decide +kernel
theorem dX7_init_74 : decode cX7_init 74 = .ok (.iload 4, 2) := by decide +kernel
theorem dX7_init_76 : decode cX7_init 76 = .ok (.ldc 48, 2) := by decide +kernel
theorem dX7_init_78 : decode cX7_init 78 = .ok (.invokevirtual 50, 3) := by decide +kernel
theorem dX7_init_81 : decode cX7_init 81 = .ok (.if_icmp .ge 56, 3) := by decide +kernel
theorem dX7_init_84 : decode cX7_init 84 = .ok (.ldc 48, 2) := by decide +kernel
theorem dX7_init_86 : decode cX7_init 86 = .ok (.iload 4, 2) := by decide +kernel
theorem dX7_init_88 : decode cX7_init 88 = .ok (.invokevirtual 56, 3) := by decide +kernel
theorem dX7_init_91 : decode cX7_init 91 = .ok (.istore 5, 2) := by decide +kernel
theorem dX7_init_93 : decode cX7_init 93 = .ok (.iload 5, 2) := by decide +kernel
theorem dX7_init_95 : decode cX7_init 95 = .ok (.bipush 32, 2) := by decide +kernel
theorem dX7_init_97 : decode cX7_init 97 = .ok (.if_icmp .eq 13, 3) := by decide +kernel
theorem dX7_init_100 : decode cX7_init 100 = .ok (.lload_n 2, 1) := by decide +kernel
theorem dX7_init_101 : decode cX7_init 101 = .ok (.iload 5, 2) := by decide +kernel
theorem dX7_init_103 : decode cX7_init 103 = .ok (.invokestatic 60, 3) := by decide +kernel
theorem dX7_init_106 : decode cX7_init 106 = .ok (.lstore_n 2, 1) := by decide +kernel
theorem dX7_init_107 : decode cX7_init 107 = .ok (.goto 24, 3) := by decide +kernel
theorem dX7_init_110 : decode cX7_init 110 = .ok (.iload_n 1, 1) := by decide +kernel
theorem dX7_init_111 : decode cX7_init 111 = .ok (.aload_n 0, 1) := by decide +kernel
theorem dX7_init_112 : decode cX7_init 112 = .ok (.getfield 15, 3) := by decide +kernel
theorem dX7_init_115 : decode cX7_init 115 = .ok (.arraylength, 1) := by decide +kernel
theorem dX7_init_116 : decode cX7_init 116 = .ok (.if_icmp .ge 15, 3) := by decide +kernel
theorem dX7_init_119 : decode cX7_init 119 = .ok (.aload_n 0, 1) := by decide +kernel
theorem dX7_init_120 : decode cX7_init 120 = .ok (.getfield 15, 3) := by decide +kernel
theorem dX7_init_123 : decode cX7_init 123 = .ok (.iload_n 1, 1) := by decide +kernel
theorem dX7_init_124 : decode cX7_init 124 = .ok (.lload_n 2, 1) := by decide +kernel
theorem dX7_init_125 : decode cX7_init 125 = .ok (.lastore, 1) := by decide +kernel
theorem dX7_init_126 : decode cX7_init 126 = .ok (.iinc 1 1, 3) := by decide +kernel
theorem dX7_init_129 : decode cX7_init 129 = .ok (.lconst 0, 1) := by decide +kernel
theorem dX7_init_130 : decode cX7_init 130 = .ok (.lstore_n 2, 1) := by decide +kernel
theorem dX7_init_131 : decode cX7_init 131 = .ok (.iinc 4 1, 3) := by decide +kernel
theorem dX7_init_134 : decode cX7_init 134 = .ok (.goto (-60), 3) := by decide +kernel
theorem dX7_init_137 : decode cX7_init 137 = .ok (.return_, 1) := by decide +kernel
theorem dX7_hasRoom_0 : decode cX7_hasRoom 0 = .ok (.aload_n 0, 1) := by decide +kernel
theorem dX7_hasRoom_1 : decode cX7_hasRoom 1 = .ok (.getfield 19, 3) := by decide +kernel
theorem dX7_hasRoom_4 : decode cX7_hasRoom 4 = .ok (.iload_n 1, 1) := by decide +kernel
theorem dX7_hasRoom_5 : decode cX7_hasRoom 5 = .ok (.iadd, 1) := by decide +kernel
theorem dX7_hasRoom_6 : decode cX7_hasRoom 6 = .ok (.aload_n 0, 1) := by decide +kernel
theorem dX7_hasRoom_7 : decode cX7_hasRoom 7 = .ok (.getfield 9, 3) := by decide +kernel
theorem dX7_hasRoom_10 : decode cX7_hasRoom 10 = .ok (.arraylength, 1) := by decide +kernel
theorem dX7_hasRoom_11 : decode cX7_hasRoom 11 = .ok (.if_icmp .gt 7, 3) := by decide +kernel
theorem dX7_hasRoom_14 : decode cX7_hasRoom 14 = .ok (.iconst 1, 1) := by decide +kernel
theorem dX7_hasRoom_15 : decode cX7_hasRoom 15 = .ok (.goto 4, 3) := by decide +kernel
theorem dX7_hasRoom_18 : decode cX7_hasRoom 18 = .ok (.iconst 0, 1) := by decide +kernel
theorem dX7_hasRoom_19 : decode cX7_hasRoom 19 = .ok (.ireturn, 1) := by decide +kernel
set_option maxRecDepth 20000 in
theorem ggX7_addInt_X11_put : GoodIn wsX7_addInt wsX11_put := goodIn_r _ [5] (by decide +kernel) (by decide +kernel)
set_option maxRecDepth 20000 in
theorem gX7_addInt_X11_put_n64 : GoodIn wsX7_addInt (wsX11_put) := ggX7_addInt_X11_put
theorem dX7_addInt_0 : decode cX7_addInt 0 = .ok (.bipush 24, 2) := by decide +kernel
theorem dX7_addInt_2 : decode cX7_addInt 2 = .ok (.istore_n 2, 1) := by decide +kernel
theorem dX7_addInt_3 : decode cX7_addInt 3 = .ok (.iload_n 2, 1) := by decide +kernel
theorem dX7_addInt_4 : decode cX7_addInt 4 = .ok (.ifCond .lt 37, 3) := by decide +kernel
theorem dX7_addInt_7 : decode cX7_addInt 7 = .ok (.aload_n 0, 1) := by decide +kernel
theorem dX7_addInt_8 : decode cX7_addInt 8 = .ok (.getfield 9, 3) := by decide +kernel
theorem dX7_addInt_11 : decode cX7_addInt 11 = .ok (.aload_n 0, 1) := by decide +kernel
theorem dX7_addInt_12 : decode cX7_addInt 12 = .ok (.getfield 19, 3) := by decide +kernel
theorem dX7_addInt_15 : decode cX7_addInt 15 = .ok (.iload_n 1, 1) := by decide +kernel
theorem dX7_addInt_16 : decode cX7_addInt 16 = .ok (.iload_n 2, 1) := by decide +kernel
theorem dX7_addInt_17 : decode cX7_addInt 17 = .ok (.ishr, 1) := by decide +kernel
theorem dX7_addInt_18 : decode cX7_addInt 18 = .ok (.sipush 255, 3) := by decide +kernel
theorem dX7_addInt_21 : decode cX7_addInt 21 = .ok (.iand, 1) := by decide +kernel
theorem dX7_addInt_22 : decode cX7_addInt 22 = .ok (.invokestatic 64, 3) := by decide +kernel
theorem dX7_addInt_25 : decode cX7_addInt 25 = .ok (.aload_n 0, 1) := by decide +kernel
theorem dX7_addInt_26 : decode cX7_addInt 26 = .ok (.dup, 1) := by decide +kernel
theorem dX7_addInt_27 : decode cX7_addInt 27 = .ok (.getfield 19, 3) := by decide +kernel
theorem dX7_addInt_30 : decode cX7_addInt 30 = .ok (.iconst 1, 1) := by decide +kernel
theorem dX7_addInt_31 : decode cX7_addInt 31 = .ok (.iadd, 1) := by decide +kernel
theorem dX7_addInt_32 : decode cX7_addInt 32 = .ok (.putfield 19, 3) := by decide +kernel
theorem dX7_addInt_35 : decode cX7_addInt 35 = .ok (.iinc 2 (-8), 3) := by decide +kernel
theorem dX7_addInt_38 : decode cX7_addInt 38 = .ok (.goto (-35), 3) := by decide +kernel
theorem dX7_addInt_41 : decode cX7_addInt 41 = .ok (.return_, 1) := by decide +kernel
set_option maxRecDepth 20000 in
theorem ggX7_begin_X7_goOn : GoodIn wsX7_begin wsX7_goOn := goodIn_r _ [9, 2, 1, 10, 11, 12, 13, 14, 15, 16, 8, 17, 18, 19, 20, 21, 22, 23, 24, 25, 26, 27, 28, 29, 30, 31, 32, 33, 34, 35, 36, 37, 38, 39, 40, 41, 42, 43, 44, 45, 46, 47, 48, 49, 50, 51] (by decide +kernel) (by decide +kernel)
set_option maxRecDepth 20000 in
theorem gX7_begin_X7_goOn : GoodIn wsX7_begin (wsV RX7 68 RX7 yX7_goOn wsX7_goOn) := goodIn_app (goodIn_of _ (by decide +kernel)) ggX7_begin_X7_goOn
theorem dX7_begin_0 : decode cX7_begin 0 = .ok (.aload_n 0, 1) := by decide +kernel
theorem dX7_begin_1 : decode cX7_begin 1 = .ok (.iload_n 1, 1) := by decide +kernel
theorem dX7_begin_2 : decode cX7_begin 2 = .ok (.putfield 23, 3) := by decide +kernel
theorem dX7_begin_5 : decode cX7_begin 5 = .ok (.aload_n 0, 1) := by decide +kernel
theorem dX7_begin_6 : decode cX7_begin 6 = .ok (.iconst 0, 1) := by decide +kernel
theorem dX7_begin_7 : decode cX7_begin 7 = .ok (.putfield 26, 3) := by decide +kernel
theorem dX7_begin_10 : decode cX7_begin 10 = .ok (.aload_n 0, 1) := by decide +kernel
theorem dX7_begin_11 : decode cX7_begin 11 = .ok (.iconst 0, 1) := by decide +kernel
theorem dX7_begin_12 : decode cX7_begin 12 = .ok (.putfield 42, 3) := by decide +kernel
theorem dX7_begin_15 : decode cX7_begin 15 = .ok (.aload_n 0, 1) := by decide +kernel
theorem dX7_begin_16 : decode cX7_begin 16 = .ok (.iconst (-1), 1) := by decide +kernel
theorem dX7_begin_17 : decode cX7_begin 17 = .ok (.putfield 45, 3) := by decide +kernel
theorem dX7_begin_20 : decode cX7_begin 20 = .ok (.aload_n 0, 1) := by decide +kernel
theorem dX7_begin_21 : decode cX7_begin 21 = .ok (.invokevirtual 68, 3) := by decide +kernel
theorem dX7_begin_24 : decode cX7_begin 24 = .ok (.return_, 1) := by decide +kernel
theorem dX7_refuse_0 : decode cX7_refuse 0 = .ok (.aload_n 0, 1) := by decide +kernel
theorem dX7_refuse_1 : decode cX7_refuse 1 = .ok (.aload_n 0, 1) := by decide +kernel
theorem dX7_refuse_2 : decode cX7_refuse 2 = .ok (.getfield 32, 3) := by decide +kernel
theorem dX7_refuse_5 : decode cX7_refuse 5 = .ok (.bipush 33, 2) := by decide +kernel
theorem dX7_refuse_7 : decode cX7_refuse 7 = .ok (.if_icmp .ne 7, 3) := by decide +kernel
theorem dX7_refuse_10 : decode cX7_refuse 10 = .ok (.iconst 1, 1) := by decide +kernel
theorem dX7_refuse_11 : decode cX7_refuse 11 = .ok (.goto 4, 3) := by decide +kernel
theorem dX7_refuse_14 : decode cX7_refuse 14 = .ok (.iload_n 1, 1) := by decide +kernel
theorem dX7_refuse_15 : decode cX7_refuse 15 = .ok (.putfield 42, 3) := by decide +kernel
theorem dX7_refuse_18 : decode cX7_refuse 18 = .ok (.aload_n 0, 1) := by decide +kernel
theorem dX7_refuse_19 : decode cX7_refuse 19 = .ok (.aload_n 0, 1) := by decide +kernel
theorem dX7_refuse_20 : decode cX7_refuse 20 = .ok (.getfield 29, 3) := by decide +kernel
theorem dX7_refuse_23 : decode cX7_refuse 23 = .ok (.putfield 45, 3) := by decide +kernel
theorem dX7_refuse_26 : decode cX7_refuse 26 = .ok (.iconst 0, 1) := by decide +kernel
theorem dX7_refuse_27 : decode cX7_refuse 27 = .ok (.ireturn, 1) := by decide +kernel
set_option maxRecDepth 20000 in
theorem ggX7_goOn_X7_byteAt : GoodIn wsX7_goOn wsX7_byteAt := goodIn_r _ [11, 12, 35, 36, 37, 38, 39, 40, 41, 42, 43, 44, 45] (by decide +kernel) (by decide +kernel)
set_option maxRecDepth 20000 in
theorem gX7_goOn_X7_byteAt : GoodIn wsX7_goOn (wsV RX7 71 RX7 yX7_byteAt wsX7_byteAt) := goodIn_app (goodIn_of _ (by decide +kernel)) ggX7_goOn_X7_byteAt
set_option maxRecDepth 20000 in
theorem ggX7_goOn_X7_isBlank : GoodIn wsX7_goOn wsX7_isBlank := goodIn_r _ [15] (by decide +kernel) (by decide +kernel)
set_option maxRecDepth 20000 in
theorem gX7_goOn_X7_isBlank : GoodIn wsX7_goOn (va_wsS RX7 75 yX7_isBlank wsX7_isBlank) := goodIn_app (goodIn_of _ (by decide +kernel)) ggX7_goOn_X7_isBlank
set_option maxRecDepth 20000 in
theorem ggX7_goOn_X7_isLetter : GoodIn wsX7_goOn wsX7_isLetter := goodIn_r _ [18] (by decide +kernel) (by decide +kernel)
set_option maxRecDepth 20000 in
theorem gX7_goOn_X7_isLetter : GoodIn wsX7_goOn (va_wsS RX7 79 yX7_isLetter wsX7_isLetter) := goodIn_app (goodIn_of _ (by decide +kernel)) ggX7_goOn_X7_isLetter
set_option maxRecDepth 20000 in
theorem ggX7_goOn_X7_withLetter : GoodIn wsX7_goOn wsX7_withLetter := goodIn_r _ [21, 22, 23] (by decide +kernel) (by decide +kernel)
set_option maxRecDepth 20000 in
theorem gX7_goOn_X7_withLetter : GoodIn wsX7_goOn (va_wsS RX7 60 yX7_withLetter wsX7_withLetter) := goodIn_app (goodIn_of _ (by decide +kernel)) ggX7_goOn_X7_withLetter
set_option maxRecDepth 20000 in
theorem ggX7_goOn_X7_keywordOrName : GoodIn wsX7_goOn wsX7_keywordOrName := goodIn_r _ [27, 28, 5, 35, 36, 37, 38, 39, 40, 41, 42, 43, 44, 45] (by decide +kernel) (by decide +kernel)
set_option maxRecDepth 20000 in
theorem gX7_goOn_X7_keywordOrName : GoodIn wsX7_goOn (wsV RX7 82 RX7 yX7_keywordOrName wsX7_keywordOrName) := goodIn_app (goodIn_of _ (by decide +kernel)) ggX7_goOn_X7_keywordOrName
set_option maxRecDepth 20000 in
theorem ggX7_goOn_X7_isDigit : GoodIn wsX7_goOn wsX7_isDigit := goodIn_r _ [31] (by decide +kernel) (by decide +kernel)
set_option maxRecDepth 20000 in
theorem gX7_goOn_X7_isDigit : GoodIn wsX7_goOn (va_wsS RX7 85 yX7_isDigit wsX7_isDigit) := goodIn_app (goodIn_of _ (by decide +kernel)) ggX7_goOn_X7_isDigit
set_option maxRecDepth 20000 in
theorem ggX7_goOn_X7_isSign : GoodIn wsX7_goOn wsX7_isSign := goodIn_r _ [34] (by decide +kernel) (by decide +kernel)
set_option maxRecDepth 20000 in
theorem gX7_goOn_X7_isSign : GoodIn wsX7_goOn (va_wsS RX7 88 yX7_isSign wsX7_isSign) := goodIn_app (goodIn_of _ (by decide +kernel)) ggX7_goOn_X7_isSign
theorem dX7_goOn_0 : decode cX7_goOn 0 = .ok (.aload_n 0, 1) := by decide +kernel
theorem dX7_goOn_1 : decode cX7_goOn 1 = .ok (.getfield 26, 3) := by decide +kernel
theorem dX7_goOn_4 : decode cX7_goOn 4 = .ok (.aload_n 0, 1) := by decide +kernel
theorem dX7_goOn_5 : decode cX7_goOn 5 = .ok (.getfield 23, 3) := by decide +kernel
theorem dX7_goOn_8 : decode cX7_goOn 8 = .ok (.if_icmp .ge 30, 3) := by decide +kernel
theorem dX7_goOn_11 : decode cX7_goOn 11 = .ok (.aload_n 0, 1) := by decide +kernel
theorem dX7_goOn_12 : decode cX7_goOn 12 = .ok (.aload_n 0, 1) := by decide +kernel
theorem dX7_goOn_13 : decode cX7_goOn 13 = .ok (.getfield 26, 3) := by decide +kernel
theorem dX7_goOn_16 : decode cX7_goOn 16 = .ok (.invokevirtual 71, 3) := by decide +kernel
theorem dX7_goOn_19 : decode cX7_goOn 19 = .ok (.invokestatic 75, 3) := by decide +kernel
theorem dX7_goOn_22 : decode cX7_goOn 22 = .ok (.ifCond .eq 16, 3) := by decide +kernel
theorem dX7_goOn_25 : decode cX7_goOn 25 = .ok (.aload_n 0, 1) := by decide +kernel
theorem dX7_goOn_26 : decode cX7_goOn 26 = .ok (.dup, 1) := by decide +kernel
theorem dX7_goOn_27 : decode cX7_goOn 27 = .ok (.getfield 26, 3) := by decide +kernel
theorem dX7_goOn_30 : decode cX7_goOn 30 = .ok (.iconst 1, 1) := by decide +kernel
theorem dX7_goOn_31 : decode cX7_goOn 31 = .ok (.iadd, 1) := by decide +kernel
theorem dX7_goOn_32 : decode cX7_goOn 32 = .ok (.putfield 26, 3) := by decide +kernel
theorem dX7_goOn_35 : decode cX7_goOn 35 = .ok (.goto (-35), 3) := by decide +kernel
theorem dX7_goOn_38 : decode cX7_goOn 38 = .ok (.aload_n 0, 1) := by decide +kernel
theorem dX7_goOn_39 : decode cX7_goOn 39 = .ok (.aload_n 0, 1) := by decide +kernel
theorem dX7_goOn_40 : decode cX7_goOn 40 = .ok (.getfield 26, 3) := by decide +kernel
theorem dX7_goOn_43 : decode cX7_goOn 43 = .ok (.putfield 29, 3) := by decide +kernel
theorem dX7_goOn_46 : decode cX7_goOn 46 = .ok (.aload_n 0, 1) := by decide +kernel
theorem dX7_goOn_47 : decode cX7_goOn 47 = .ok (.aload_n 0, 1) := by decide +kernel
theorem dX7_goOn_48 : decode cX7_goOn 48 = .ok (.getfield 29, 3) := by decide +kernel
theorem dX7_goOn_51 : decode cX7_goOn 51 = .ok (.invokevirtual 71, 3) := by decide +kernel
theorem dX7_goOn_54 : decode cX7_goOn 54 = .ok (.istore_n 1, 1) := by decide +kernel
theorem dX7_goOn_55 : decode cX7_goOn 55 = .ok (.aload_n 0, 1) := by decide +kernel
theorem dX7_goOn_56 : decode cX7_goOn 56 = .ok (.getfield 29, 3) := by decide +kernel
theorem dX7_goOn_59 : decode cX7_goOn 59 = .ok (.aload_n 0, 1) := by decide +kernel
theorem dX7_goOn_60 : decode cX7_goOn 60 = .ok (.getfield 23, 3) := by decide +kernel
theorem dX7_goOn_63 : decode cX7_goOn 63 = .ok (.if_icmp .lt 12, 3) := by decide +kernel
theorem dX7_goOn_66 : decode cX7_goOn 66 = .ok (.aload_n 0, 1) := by decide +kernel
theorem dX7_goOn_67 : decode cX7_goOn 67 = .ok (.bipush 32, 2) := by decide +kernel
theorem dX7_goOn_69 : decode cX7_goOn 69 = .ok (.putfield 32, 3) := by decide +kernel
theorem dX7_goOn_72 : decode cX7_goOn 72 = .ok (.goto 229, 3) := by decide +kernel
theorem dX7_goOn_75 : decode cX7_goOn 75 = .ok (.iload_n 1, 1) := by decide +kernel
theorem dX7_goOn_76 : decode cX7_goOn 76 = .ok (.invokestatic 79, 3) := by decide +kernel
theorem dX7_goOn_79 : decode cX7_goOn 79 = .ok (.ifCond .eq 95, 3) := by decide +kernel
theorem dX7_goOn_82 : decode cX7_goOn 82 = .ok (.aload_n 0, 1) := by decide +kernel
theorem dX7_goOn_83 : decode cX7_goOn 83 = .ok (.lconst 0, 1) := by decide +kernel
theorem dX7_goOn_84 : decode cX7_goOn 84 = .ok (.putfield 35, 3) := by decide +kernel
theorem dX7_goOn_87 : decode cX7_goOn 87 = .ok (.aload_n 0, 1) := by decide +kernel
theorem dX7_goOn_88 : decode cX7_goOn 88 = .ok (.getfield 26, 3) := by decide +kernel
theorem dX7_goOn_91 : decode cX7_goOn 91 = .ok (.aload_n 0, 1) := by decide +kernel
theorem dX7_goOn_92 : decode cX7_goOn 92 = .ok (.getfield 23, 3) := by decide +kernel
theorem dX7_goOn_95 : decode cX7_goOn 95 = .ok (.if_icmp .ge 49, 3) := by decide +kernel
theorem dX7_goOn_98 : decode cX7_goOn 98 = .ok (.aload_n 0, 1) := by decide +kernel
theorem dX7_goOn_99 : decode cX7_goOn 99 = .ok (.aload_n 0, 1) := by decide +kernel
theorem dX7_goOn_100 : decode cX7_goOn 100 = .ok (.getfield 26, 3) := by decide +kernel
theorem dX7_goOn_103 : decode cX7_goOn 103 = .ok (.invokevirtual 71, 3) := by decide +kernel
theorem dX7_goOn_106 : decode cX7_goOn 106 = .ok (.invokestatic 79, 3) := by decide +kernel
theorem dX7_goOn_109 : decode cX7_goOn 109 = .ok (.ifCond .eq 35, 3) := by decide +kernel
theorem dX7_goOn_112 : decode cX7_goOn 112 = .ok (.aload_n 0, 1) := by decide +kernel
theorem dX7_goOn_113 : decode cX7_goOn 113 = .ok (.aload_n 0, 1) := by decide +kernel
theorem dX7_goOn_114 : decode cX7_goOn 114 = .ok (.getfield 35, 3) := by decide +kernel
theorem dX7_goOn_117 : decode cX7_goOn 117 = .ok (.aload_n 0, 1) := by decide +kernel
theorem dX7_goOn_118 : decode cX7_goOn 118 = .ok (.aload_n 0, 1) := by decide +kernel
theorem dX7_goOn_119 : decode cX7_goOn 119 = .ok (.getfield 26, 3) := by decide +kernel
theorem dX7_goOn_122 : decode cX7_goOn 122 = .ok (.invokevirtual 71, 3) := by decide +kernel
theorem dX7_goOn_125 : decode cX7_goOn 125 = .ok (.invokestatic 60, 3) := by decide +kernel
theorem dX7_goOn_128 : decode cX7_goOn 128 = .ok (.putfield 35, 3) := by decide +kernel
theorem dX7_goOn_131 : decode cX7_goOn 131 = .ok (.aload_n 0, 1) := by decide +kernel
theorem dX7_goOn_132 : decode cX7_goOn 132 = .ok (.dup, 1) := by decide +kernel
theorem dX7_goOn_133 : decode cX7_goOn 133 = .ok (.getfield 26, 3) := by decide +kernel
theorem dX7_goOn_136 : decode cX7_goOn 136 = .ok (.iconst 1, 1) := by decide +kernel
theorem dX7_goOn_137 : decode cX7_goOn 137 = .ok (.iadd, 1) := by decide +kernel
theorem dX7_goOn_138 : decode cX7_goOn 138 = .ok (.putfield 26, 3) := by decide +kernel
theorem dX7_goOn_141 : decode cX7_goOn 141 = .ok (.goto (-54), 3) := by decide +kernel
theorem dX7_goOn_144 : decode cX7_goOn 144 = .ok (.aload_n 0, 1) := by decide +kernel
theorem dX7_goOn_145 : decode cX7_goOn 145 = .ok (.aload_n 0, 1) := by decide +kernel
theorem dX7_goOn_146 : decode cX7_goOn 146 = .ok (.getfield 26, 3) := by decide +kernel
theorem dX7_goOn_149 : decode cX7_goOn 149 = .ok (.aload_n 0, 1) := by decide +kernel
theorem dX7_goOn_150 : decode cX7_goOn 150 = .ok (.getfield 29, 3) := by decide +kernel
theorem dX7_goOn_153 : decode cX7_goOn 153 = .ok (.isub, 1) := by decide +kernel
theorem dX7_goOn_154 : decode cX7_goOn 154 = .ok (.bipush 8, 2) := by decide +kernel
theorem dX7_goOn_156 : decode cX7_goOn 156 = .ok (.if_icmp .le 8, 3) := by decide +kernel
theorem dX7_goOn_159 : decode cX7_goOn 159 = .ok (.bipush 30, 2) := by decide +kernel
theorem dX7_goOn_161 : decode cX7_goOn 161 = .ok (.goto 7, 3) := by decide +kernel
theorem dX7_goOn_164 : decode cX7_goOn 164 = .ok (.aload_n 0, 1) := by decide +kernel
theorem dX7_goOn_165 : decode cX7_goOn 165 = .ok (.invokevirtual 82, 3) := by decide +kernel
theorem dX7_goOn_168 : decode cX7_goOn 168 = .ok (.putfield 32, 3) := by decide +kernel
theorem dX7_goOn_171 : decode cX7_goOn 171 = .ok (.goto 130, 3) := by decide +kernel
theorem dX7_goOn_174 : decode cX7_goOn 174 = .ok (.iload_n 1, 1) := by decide +kernel
theorem dX7_goOn_175 : decode cX7_goOn 175 = .ok (.invokestatic 85, 3) := by decide +kernel
theorem dX7_goOn_178 : decode cX7_goOn 178 = .ok (.ifCond .eq 96, 3) := by decide +kernel
theorem dX7_goOn_181 : decode cX7_goOn 181 = .ok (.aload_n 0, 1) := by decide +kernel
theorem dX7_goOn_182 : decode cX7_goOn 182 = .ok (.iconst 0, 1) := by decide +kernel
theorem dX7_goOn_183 : decode cX7_goOn 183 = .ok (.putfield 39, 3) := by decide +kernel
theorem dX7_goOn_186 : decode cX7_goOn 186 = .ok (.aload_n 0, 1) := by decide +kernel
theorem dX7_goOn_187 : decode cX7_goOn 187 = .ok (.getfield 26, 3) := by decide +kernel
theorem dX7_goOn_190 : decode cX7_goOn 190 = .ok (.aload_n 0, 1) := by decide +kernel
theorem dX7_goOn_191 : decode cX7_goOn 191 = .ok (.getfield 23, 3) := by decide +kernel
theorem dX7_goOn_194 : decode cX7_goOn 194 = .ok (.if_icmp .ge 53, 3) := by decide +kernel
theorem dX7_goOn_197 : decode cX7_goOn 197 = .ok (.aload_n 0, 1) := by decide +kernel
theorem dX7_goOn_198 : decode cX7_goOn 198 = .ok (.aload_n 0, 1) := by decide +kernel
theorem dX7_goOn_199 : decode cX7_goOn 199 = .ok (.getfield 26, 3) := by decide +kernel
theorem dX7_goOn_202 : decode cX7_goOn 202 = .ok (.invokevirtual 71, 3) := by decide +kernel
theorem dX7_goOn_205 : decode cX7_goOn 205 = .ok (.invokestatic 85, 3) := by decide +kernel
theorem dX7_goOn_208 : decode cX7_goOn 208 = .ok (.ifCond .eq 39, 3) := by decide +kernel
theorem dX7_goOn_211 : decode cX7_goOn 211 = .ok (.aload_n 0, 1) := by decide +kernel
theorem dX7_goOn_212 : decode cX7_goOn 212 = .ok (.aload_n 0, 1) := by decide +kernel
theorem dX7_goOn_213 : decode cX7_goOn 213 = .ok (.getfield 39, 3) := by decide +kernel
theorem dX7_goOn_216 : decode cX7_goOn 216 = .ok (.bipush 10, 2) := by decide +kernel
theorem dX7_goOn_218 : decode cX7_goOn 218 = .ok (.imul, 1) := by decide +kernel
theorem dX7_goOn_219 : decode cX7_goOn 219 = .ok (.aload_n 0, 1) := by decide +kernel
theorem dX7_goOn_220 : decode cX7_goOn 220 = .ok (.aload_n 0, 1) := by decide +kernel
theorem dX7_goOn_221 : decode cX7_goOn 221 = .ok (.getfield 26, 3) := by decide +kernel
theorem dX7_goOn_224 : decode cX7_goOn 224 = .ok (.invokevirtual 71, 3) := by decide +kernel
theorem dX7_goOn_227 : decode cX7_goOn 227 = .ok (.iadd, 1) := by decide +kernel
theorem dX7_goOn_228 : decode cX7_goOn 228 = .ok (.bipush 48, 2) := by decide +kernel
theorem dX7_goOn_230 : decode cX7_goOn 230 = .ok (.isub, 1) := by decide +kernel
theorem dX7_goOn_231 : decode cX7_goOn 231 = .ok (.putfield 39, 3) := by decide +kernel
theorem dX7_goOn_234 : decode cX7_goOn 234 = .ok (.aload_n 0, 1) := by decide +kernel
theorem dX7_goOn_235 : decode cX7_goOn 235 = .ok (.dup, 1) := by decide +kernel
theorem dX7_goOn_236 : decode cX7_goOn 236 = .ok (.getfield 26, 3) := by decide +kernel
theorem dX7_goOn_239 : decode cX7_goOn 239 = .ok (.iconst 1, 1) := by decide +kernel
theorem dX7_goOn_240 : decode cX7_goOn 240 = .ok (.iadd, 1) := by decide +kernel
theorem dX7_goOn_241 : decode cX7_goOn 241 = .ok (.putfield 26, 3) := by decide +kernel
theorem dX7_goOn_244 : decode cX7_goOn 244 = .ok (.goto (-58), 3) := by decide +kernel
theorem dX7_goOn_247 : decode cX7_goOn 247 = .ok (.aload_n 0, 1) := by decide +kernel
theorem dX7_goOn_248 : decode cX7_goOn 248 = .ok (.aload_n 0, 1) := by decide +kernel
theorem dX7_goOn_249 : decode cX7_goOn 249 = .ok (.getfield 26, 3) := by decide +kernel
theorem dX7_goOn_252 : decode cX7_goOn 252 = .ok (.aload_n 0, 1) := by decide +kernel
theorem dX7_goOn_253 : decode cX7_goOn 253 = .ok (.getfield 29, 3) := by decide +kernel
theorem dX7_goOn_256 : decode cX7_goOn 256 = .ok (.isub, 1) := by decide +kernel
theorem dX7_goOn_257 : decode cX7_goOn 257 = .ok (.iconst 4, 1) := by decide +kernel
theorem dX7_goOn_258 : decode cX7_goOn 258 = .ok (.if_icmp .le 8, 3) := by decide +kernel
theorem dX7_goOn_261 : decode cX7_goOn 261 = .ok (.bipush 33, 2) := by decide +kernel
theorem dX7_goOn_263 : decode cX7_goOn 263 = .ok (.goto 5, 3) := by decide +kernel
theorem dX7_goOn_266 : decode cX7_goOn 266 = .ok (.bipush 31, 2) := by decide +kernel
theorem dX7_goOn_268 : decode cX7_goOn 268 = .ok (.putfield 32, 3) := by decide +kernel
theorem dX7_goOn_271 : decode cX7_goOn 271 = .ok (.goto 30, 3) := by decide +kernel
theorem dX7_goOn_274 : decode cX7_goOn 274 = .ok (.aload_n 0, 1) := by decide +kernel
theorem dX7_goOn_275 : decode cX7_goOn 275 = .ok (.dup, 1) := by decide +kernel
theorem dX7_goOn_276 : decode cX7_goOn 276 = .ok (.getfield 26, 3) := by decide +kernel
theorem dX7_goOn_279 : decode cX7_goOn 279 = .ok (.iconst 1, 1) := by decide +kernel
theorem dX7_goOn_280 : decode cX7_goOn 280 = .ok (.iadd, 1) := by decide +kernel
theorem dX7_goOn_281 : decode cX7_goOn 281 = .ok (.putfield 26, 3) := by decide +kernel
theorem dX7_goOn_284 : decode cX7_goOn 284 = .ok (.aload_n 0, 1) := by decide +kernel
theorem dX7_goOn_285 : decode cX7_goOn 285 = .ok (.iload_n 1, 1) := by decide +kernel
theorem dX7_goOn_286 : decode cX7_goOn 286 = .ok (.invokestatic 88, 3) := by decide +kernel
theorem dX7_goOn_289 : decode cX7_goOn 289 = .ok (.ifCond .eq 7, 3) := by decide +kernel
theorem dX7_goOn_292 : decode cX7_goOn 292 = .ok (.iload_n 1, 1) := by decide +kernel
theorem dX7_goOn_293 : decode cX7_goOn 293 = .ok (.goto 5, 3) := by decide +kernel
theorem dX7_goOn_296 : decode cX7_goOn 296 = .ok (.bipush 33, 2) := by decide +kernel
theorem dX7_goOn_298 : decode cX7_goOn 298 = .ok (.putfield 32, 3) := by decide +kernel
theorem dX7_goOn_301 : decode cX7_goOn 301 = .ok (.return_, 1) := by decide +kernel
theorem dX7_keywordOrName_0 : decode cX7_keywordOrName 0 = .ok (.iconst 0, 1) := by decide +kernel
theorem dX7_keywordOrName_1 : decode cX7_keywordOrName 1 = .ok (.istore_n 1, 1) := by decide +kernel
theorem dX7_keywordOrName_2 : decode cX7_keywordOrName 2 = .ok (.iload_n 1, 1) := by decide +kernel
theorem dX7_keywordOrName_3 : decode cX7_keywordOrName 3 = .ok (.aload_n 0, 1) := by decide +kernel
theorem dX7_keywordOrName_4 : decode cX7_keywordOrName 4 = .ok (.getfield 15, 3) := by decide +kernel
theorem dX7_keywordOrName_7 : decode cX7_keywordOrName 7 = .ok (.arraylength, 1) := by decide +kernel
theorem dX7_keywordOrName_8 : decode cX7_keywordOrName 8 = .ok (.if_icmp .ge 25, 3) := by decide +kernel
theorem dX7_keywordOrName_11 : decode cX7_keywordOrName 11 = .ok (.aload_n 0, 1) := by decide +kernel
theorem dX7_keywordOrName_12 : decode cX7_keywordOrName 12 = .ok (.getfield 15, 3) := by decide +kernel
theorem dX7_keywordOrName_15 : decode cX7_keywordOrName 15 = .ok (.iload_n 1, 1) := by decide +kernel
theorem dX7_keywordOrName_16 : decode cX7_keywordOrName 16 = .ok (.laload, 1) := by decide +kernel
theorem dX7_keywordOrName_17 : decode cX7_keywordOrName 17 = .ok (.aload_n 0, 1) := by decide +kernel
theorem dX7_keywordOrName_18 : decode cX7_keywordOrName 18 = .ok (.getfield 35, 3) := by decide +kernel
theorem dX7_keywordOrName_21 : decode cX7_keywordOrName 21 = .ok (.lcmp, 1) := by decide +kernel
theorem dX7_keywordOrName_22 : decode cX7_keywordOrName 22 = .ok (.ifCond .ne 5, 3) := by decide +kernel
theorem dX7_keywordOrName_25 : decode cX7_keywordOrName 25 = .ok (.iload_n 1, 1) := by decide +kernel
theorem dX7_keywordOrName_26 : decode cX7_keywordOrName 26 = .ok (.ireturn, 1) := by decide +kernel
theorem dX7_keywordOrName_27 : decode cX7_keywordOrName 27 = .ok (.iinc 1 1, 3) := by decide +kernel
theorem dX7_keywordOrName_30 : decode cX7_keywordOrName 30 = .ok (.goto (-28), 3) := by decide +kernel
theorem dX7_keywordOrName_33 : decode cX7_keywordOrName 33 = .ok (.bipush 29, 2) := by decide +kernel
theorem dX7_keywordOrName_35 : decode cX7_keywordOrName 35 = .ok (.ireturn, 1) := by decide +kernel
theorem dX7_byteAt_0 : decode cX7_byteAt 0 = .ok (.iload_n 1, 1) := by decide +kernel
theorem dX7_byteAt_1 : decode cX7_byteAt 1 = .ok (.ifCond .lt 21, 3) := by decide +kernel
theorem dX7_byteAt_4 : decode cX7_byteAt 4 = .ok (.iload_n 1, 1) := by decide +kernel
theorem dX7_byteAt_5 : decode cX7_byteAt 5 = .ok (.aload_n 0, 1) := by decide +kernel
theorem dX7_byteAt_6 : decode cX7_byteAt 6 = .ok (.getfield 9, 3) := by decide +kernel
theorem dX7_byteAt_9 : decode cX7_byteAt 9 = .ok (.arraylength, 1) := by decide +kernel
theorem dX7_byteAt_10 : decode cX7_byteAt 10 = .ok (.if_icmp .ge 12, 3) := by decide +kernel
theorem dX7_byteAt_13 : decode cX7_byteAt 13 = .ok (.aload_n 0, 1) := by decide +kernel
theorem dX7_byteAt_14 : decode cX7_byteAt 14 = .ok (.getfield 9, 3) := by decide +kernel
theorem dX7_byteAt_17 : decode cX7_byteAt 17 = .ok (.iload_n 1, 1) := by decide +kernel
theorem dX7_byteAt_18 : decode cX7_byteAt 18 = .ok (.iaload, 1) := by decide +kernel
theorem dX7_byteAt_19 : decode cX7_byteAt 19 = .ok (.goto 4, 3) := by decide +kernel
theorem dX7_byteAt_22 : decode cX7_byteAt 22 = .ok (.iconst (-1), 1) := by decide +kernel
theorem dX7_byteAt_23 : decode cX7_byteAt 23 = .ok (.ireturn, 1) := by decide +kernel
theorem dX7_withLetter_0 : decode cX7_withLetter 0 = .ok (.lload_n 0, 1) := by decide +kernel
theorem dX7_withLetter_1 : decode cX7_withLetter 1 = .ok (.ldc2_w 91, 3) := by decide +kernel
theorem dX7_withLetter_4 : decode cX7_withLetter 4 = .ok (.lmul, 1) := by decide +kernel
theorem dX7_withLetter_5 : decode cX7_withLetter 5 = .ok (.iload_n 2, 1) := by decide +kernel
theorem dX7_withLetter_6 : decode cX7_withLetter 6 = .ok (.i2l, 1) := by decide +kernel
theorem dX7_withLetter_7 : decode cX7_withLetter 7 = .ok (.ladd, 1) := by decide +kernel
theorem dX7_withLetter_8 : decode cX7_withLetter 8 = .ok (.ldc2_w 93, 3) := by decide +kernel
theorem dX7_withLetter_11 : decode cX7_withLetter 11 = .ok (.lsub, 1) := by decide +kernel
theorem dX7_withLetter_12 : decode cX7_withLetter 12 = .ok (.lconst 1, 1) := by decide +kernel
theorem dX7_withLetter_13 : decode cX7_withLetter 13 = .ok (.ladd, 1) := by decide +kernel
theorem dX7_withLetter_14 : decode cX7_withLetter 14 = .ok (.lreturn, 1) := by decide +kernel
theorem dX7_isBlank_0 : decode cX7_isBlank 0 = .ok (.iload_n 0, 1) := by decide +kernel
theorem dX7_isBlank_1 : decode cX7_isBlank 1 = .ok (.bipush 32, 2) := by decide +kernel
theorem dX7_isBlank_3 : decode cX7_isBlank 3 = .ok (.if_icmp .eq 9, 3) := by decide +kernel
theorem dX7_isBlank_6 : decode cX7_isBlank 6 = .ok (.iload_n 0, 1) := by decide +kernel
theorem dX7_isBlank_7 : decode cX7_isBlank 7 = .ok (.bipush 10, 2) := by decide +kernel
theorem dX7_isBlank_9 : decode cX7_isBlank 9 = .ok (.if_icmp .ne 7, 3) := by decide +kernel
theorem dX7_isBlank_12 : decode cX7_isBlank 12 = .ok (.iconst 1, 1) := by decide +kernel
theorem dX7_isBlank_13 : decode cX7_isBlank 13 = .ok (.goto 4, 3) := by decide +kernel
theorem dX7_isBlank_16 : decode cX7_isBlank 16 = .ok (.iconst 0, 1) := by decide +kernel
theorem dX7_isBlank_17 : decode cX7_isBlank 17 = .ok (.ireturn, 1) := by decide +kernel
theorem dX7_isLetter_0 : decode cX7_isLetter 0 = .ok (.iload_n 0, 1) := by decide +kernel
theorem dX7_isLetter_1 : decode cX7_isLetter 1 = .ok (.bipush 97, 2) := by decide +kernel
theorem dX7_isLetter_3 : decode cX7_isLetter 3 = .ok (.if_icmp .lt 13, 3) := by decide +kernel
theorem dX7_isLetter_6 : decode cX7_isLetter 6 = .ok (.iload_n 0, 1) := by decide +kernel
theorem dX7_isLetter_7 : decode cX7_isLetter 7 = .ok (.bipush 122, 2) := by decide +kernel
theorem dX7_isLetter_9 : decode cX7_isLetter 9 = .ok (.if_icmp .gt 7, 3) := by decide +kernel
theorem dX7_isLetter_12 : decode cX7_isLetter 12 = .ok (.iconst 1, 1) := by decide +kernel
theorem dX7_isLetter_13 : decode cX7_isLetter 13 = .ok (.goto 4, 3) := by decide +kernel
theorem dX7_isLetter_16 : decode cX7_isLetter 16 = .ok (.iconst 0, 1) := by decide +kernel
theorem dX7_isLetter_17 : decode cX7_isLetter 17 = .ok (.ireturn, 1) := by decide +kernel
theorem dX7_isDigit_0 : decode cX7_isDigit 0 = .ok (.iload_n 0, 1) := by decide +kernel
theorem dX7_isDigit_1 : decode cX7_isDigit 1 = .ok (.bipush 48, 2) := by decide +kernel
theorem dX7_isDigit_3 : decode cX7_isDigit 3 = .ok (.if_icmp .lt 13, 3) := by decide +kernel
theorem dX7_isDigit_6 : decode cX7_isDigit 6 = .ok (.iload_n 0, 1) := by decide +kernel
theorem dX7_isDigit_7 : decode cX7_isDigit 7 = .ok (.bipush 57, 2) := by decide +kernel
theorem dX7_isDigit_9 : decode cX7_isDigit 9 = .ok (.if_icmp .gt 7, 3) := by decide +kernel
theorem dX7_isDigit_12 : decode cX7_isDigit 12 = .ok (.iconst 1, 1) := by decide +kernel
theorem dX7_isDigit_13 : decode cX7_isDigit 13 = .ok (.goto 4, 3) := by decide +kernel
theorem dX7_isDigit_16 : decode cX7_isDigit 16 = .ok (.iconst 0, 1) := by decide +kernel
theorem dX7_isDigit_17 : decode cX7_isDigit 17 = .ok (.ireturn, 1) := by decide +kernel
theorem dX7_isSign_0 : decode cX7_isSign 0 = .ok (.iload_n 0, 1) := by decide +kernel
theorem dX7_isSign_1 : decode cX7_isSign 1 = .ok (.bipush 59, 2) := by decide +kernel
theorem dX7_isSign_3 : decode cX7_isSign 3 = .ok (.if_icmp .eq 21, 3) := by decide +kernel
theorem dX7_isSign_6 : decode cX7_isSign 6 = .ok (.iload_n 0, 1) := by decide +kernel
theorem dX7_isSign_7 : decode cX7_isSign 7 = .ok (.bipush 60, 2) := by decide +kernel
theorem dX7_isSign_9 : decode cX7_isSign 9 = .ok (.if_icmp .eq 15, 3) := by decide +kernel
theorem dX7_isSign_12 : decode cX7_isSign 12 = .ok (.iload_n 0, 1) := by decide +kernel
theorem dX7_isSign_13 : decode cX7_isSign 13 = .ok (.bipush 62, 2) := by decide +kernel
theorem dX7_isSign_15 : decode cX7_isSign 15 = .ok (.if_icmp .eq 9, 3) := by decide +kernel
theorem dX7_isSign_18 : decode cX7_isSign 18 = .ok (.iload_n 0, 1) := by decide +kernel
theorem dX7_isSign_19 : decode cX7_isSign 19 = .ok (.bipush 61, 2) := by decide +kernel
theorem dX7_isSign_21 : decode cX7_isSign 21 = .ok (.if_icmp .ne 7, 3) := by decide +kernel
theorem dX7_isSign_24 : decode cX7_isSign 24 = .ok (.iconst 1, 1) := by decide +kernel
theorem dX7_isSign_25 : decode cX7_isSign 25 = .ok (.goto 4, 3) := by decide +kernel
theorem dX7_isSign_28 : decode cX7_isSign 28 = .ok (.iconst 0, 1) := by decide +kernel
theorem dX7_isSign_29 : decode cX7_isSign 29 = .ok (.ireturn, 1) := by decide +kernel
theorem dX8_init_0 : decode cX8_init 0 = .ok (.aload_n 0, 1) := by decide +kernel
theorem dX8_init_1 : decode cX8_init 1 = .ok (.invokespecial 3, 3) := by decide +kernel
theorem dX8_init_4 : decode cX8_init 4 = .ok (.aload_n 0, 1) := by decide +kernel
theorem dX8_init_5 : decode cX8_init 5 = .ok (.iconst (-1), 1) := by decide +kernel
theorem dX8_init_6 : decode cX8_init 6 = .ok (.putfield 9, 3) := by decide +kernel
theorem dX8_init_9 : decode cX8_init 9 = .ok (.aload_n 0, 1) := by decide +kernel
theorem dX8_init_10 : decode cX8_init 10 = .ok (.iconst 0, 1) := by decide +kernel
theorem dX8_init_11 : decode cX8_init 11 = .ok (.putfield 15, 3) := by decide +kernel
theorem dX8_init_14 : decode cX8_init 14 = .ok (.aload_n 0, 1) := by decide +kernel
theorem dX8_init_15 : decode cX8_init 15 = .ok (.bipush 60, 2) := by decide +kernel
theorem dX8_init_17 : decode cX8_init 17 = .ok (.newarray .long, 2) := by decide +kernel
theorem dX8_init_19 : decode cX8_init 19 = .ok (.putfield 18, 3) := by decide +kernel
theorem dX8_init_22 : decode cX8_init 22 = .ok (.return_, 1) := by decide +kernel
theorem dX8_isMissing_0 : decode cX8_isMissing 0 = .ok (.aload_n 0, 1) := by decide +kernel
theorem dX8_isMissing_1 : decode cX8_isMissing 1 = .ok (.getfield 9, 3) := by decide +kernel
theorem dX8_isMissing_4 : decode cX8_isMissing 4 = .ok (.iconst (-1), 1) := by decide +kernel
theorem dX8_isMissing_5 : decode cX8_isMissing 5 = .ok (.if_icmp .ne 7, 3) := by decide +kernel
theorem dX8_isMissing_8 : decode cX8_isMissing 8 = .ok (.iconst 1, 1) := by decide +kernel
theorem dX8_isMissing_9 : decode cX8_isMissing 9 = .ok (.goto 4, 3) := by decide +kernel
theorem dX8_isMissing_12 : decode cX8_isMissing 12 = .ok (.iconst 0, 1) := by decide +kernel
theorem dX8_isMissing_13 : decode cX8_isMissing 13 = .ok (.ireturn, 1) := by decide +kernel
theorem dX8_renew_0 : decode cX8_renew 0 = .ok (.aload_n 0, 1) := by decide +kernel
theorem dX8_renew_1 : decode cX8_renew 1 = .ok (.iload_n 1, 1) := by decide +kernel
theorem dX8_renew_2 : decode cX8_renew 2 = .ok (.putfield 9, 3) := by decide +kernel
theorem dX8_renew_5 : decode cX8_renew 5 = .ok (.aload_n 0, 1) := by decide +kernel
theorem dX8_renew_6 : decode cX8_renew 6 = .ok (.iload_n 2, 1) := by decide +kernel
theorem dX8_renew_7 : decode cX8_renew 7 = .ok (.putfield 15, 3) := by decide +kernel
theorem dX8_renew_10 : decode cX8_renew 10 = .ok (.iconst 0, 1) := by decide +kernel
theorem dX8_renew_11 : decode cX8_renew 11 = .ok (.istore_n 3, 1) := by decide +kernel
theorem dX8_renew_12 : decode cX8_renew 12 = .ok (.iload_n 3, 1) := by decide +kernel
theorem dX8_renew_13 : decode cX8_renew 13 = .ok (.aload_n 0, 1) := by decide +kernel
theorem dX8_renew_14 : decode cX8_renew 14 = .ok (.getfield 18, 3) := by decide +kernel
theorem dX8_renew_17 : decode cX8_renew 17 = .ok (.arraylength, 1) := by decide +kernel
theorem dX8_renew_18 : decode cX8_renew 18 = .ok (.if_icmp .ge 16, 3) := by decide +kernel
theorem dX8_renew_21 : decode cX8_renew 21 = .ok (.aload_n 0, 1) := by decide +kernel
theorem dX8_renew_22 : decode cX8_renew 22 = .ok (.getfield 18, 3) := by decide +kernel
theorem dX8_renew_25 : decode cX8_renew 25 = .ok (.iload_n 3, 1) := by decide +kernel
theorem dX8_renew_26 : decode cX8_renew 26 = .ok (.lconst 0, 1) := by decide +kernel
theorem dX8_renew_27 : decode cX8_renew 27 = .ok (.lastore, 1) := by decide +kernel
theorem dX8_renew_28 : decode cX8_renew 28 = .ok (.iinc 3 1, 3) := by decide +kernel
theorem dX8_renew_31 : decode cX8_renew 31 = .ok (.goto (-19), 3) := by decide +kernel
theorem dX8_renew_34 : decode cX8_renew 34 = .ok (.return_, 1) := by decide +kernel
set_option maxRecDepth 20000 in
theorem ggX8_hasPlace_X11_within : GoodIn wsX8_hasPlace wsX11_within := goodIn_r _ [4] (by decide +kernel) (by decide +kernel)
set_option maxRecDepth 20000 in
theorem gX8_hasPlace_X11_within_n22 : GoodIn wsX8_hasPlace (wsX11_within) := ggX8_hasPlace_X11_within
theorem dX8_hasPlace_0 : decode cX8_hasPlace 0 = .ok (.iload_n 1, 1) := by decide +kernel
theorem dX8_hasPlace_1 : decode cX8_hasPlace 1 = .ok (.aload_n 0, 1) := by decide +kernel
theorem dX8_hasPlace_2 : decode cX8_hasPlace 2 = .ok (.getfield 15, 3) := by decide +kernel
theorem dX8_hasPlace_5 : decode cX8_hasPlace 5 = .ok (.invokestatic 22, 3) := by decide +kernel
theorem dX8_hasPlace_8 : decode cX8_hasPlace 8 = .ok (.ireturn, 1) := by decide +kernel
theorem dX8_hasRun_0 : decode cX8_hasRun 0 = .ok (.iload_n 1, 1) := by decide +kernel
theorem dX8_hasRun_1 : decode cX8_hasRun 1 = .ok (.i2l, 1) := by decide +kernel
theorem dX8_hasRun_2 : decode cX8_hasRun 2 = .ok (.iload_n 2, 1) := by decide +kernel
theorem dX8_hasRun_3 : decode cX8_hasRun 3 = .ok (.i2l, 1) := by decide +kernel
theorem dX8_hasRun_4 : decode cX8_hasRun 4 = .ok (.ladd, 1) := by decide +kernel
theorem dX8_hasRun_5 : decode cX8_hasRun 5 = .ok (.aload_n 0, 1) := by decide +kernel
theorem dX8_hasRun_6 : decode cX8_hasRun 6 = .ok (.getfield 15, 3) := by decide +kernel
theorem dX8_hasRun_9 : decode cX8_hasRun 9 = .ok (.i2l, 1) := by decide +kernel
theorem dX8_hasRun_10 : decode cX8_hasRun 10 = .ok (.lcmp, 1) := by decide +kernel
theorem dX8_hasRun_11 : decode cX8_hasRun 11 = .ok (.ifCond .gt 7, 3) := by decide +kernel
theorem dX8_hasRun_14 : decode cX8_hasRun 14 = .ok (.iconst 1, 1) := by decide +kernel
theorem dX8_hasRun_15 : decode cX8_hasRun 15 = .ok (.goto 4, 3) := by decide +kernel
theorem dX8_hasRun_18 : decode cX8_hasRun 18 = .ok (.iconst 0, 1) := by decide +kernel
theorem dX8_hasRun_19 : decode cX8_hasRun 19 = .ok (.ireturn, 1) := by decide +kernel
set_option maxRecDepth 20000 in
theorem ggX8_numberAt_X11_within : GoodIn wsX8_numberAt wsX11_within := goodIn_r _ [4] (by decide +kernel) (by decide +kernel)
set_option maxRecDepth 20000 in
theorem gX8_numberAt_X11_within_n22 : GoodIn wsX8_numberAt (wsX11_within) := ggX8_numberAt_X11_within
theorem dX8_numberAt_0 : decode cX8_numberAt 0 = .ok (.iload_n 1, 1) := by decide +kernel
theorem dX8_numberAt_1 : decode cX8_numberAt 1 = .ok (.aload_n 0, 1) := by decide +kernel
theorem dX8_numberAt_2 : decode cX8_numberAt 2 = .ok (.getfield 18, 3) := by decide +kernel
theorem dX8_numberAt_5 : decode cX8_numberAt 5 = .ok (.arraylength, 1) := by decide +kernel
theorem dX8_numberAt_6 : decode cX8_numberAt 6 = .ok (.invokestatic 22, 3) := by decide +kernel
theorem dX8_numberAt_9 : decode cX8_numberAt 9 = .ok (.ifCond .eq 12, 3) := by decide +kernel
theorem dX8_numberAt_12 : decode cX8_numberAt 12 = .ok (.aload_n 0, 1) := by decide +kernel
theorem dX8_numberAt_13 : decode cX8_numberAt 13 = .ok (.getfield 18, 3) := by decide +kernel
theorem dX8_numberAt_16 : decode cX8_numberAt 16 = .ok (.iload_n 1, 1) := by decide +kernel
theorem dX8_numberAt_17 : decode cX8_numberAt 17 = .ok (.laload, 1) := by decide +kernel
theorem dX8_numberAt_18 : decode cX8_numberAt 18 = .ok (.goto 4, 3) := by decide +kernel
theorem dX8_numberAt_21 : decode cX8_numberAt 21 = .ok (.lconst 0, 1) := by decide +kernel
theorem dX8_numberAt_22 : decode cX8_numberAt 22 = .ok (.lreturn, 1) := by decide +kernel
set_option maxRecDepth 20000 in
theorem ggX8_putNumber_X11_within : GoodIn wsX8_putNumber wsX11_within := goodIn_r _ [4] (by decide +kernel) (by decide +kernel)
set_option maxRecDepth 20000 in
theorem gX8_putNumber_X11_within_n22 : GoodIn wsX8_putNumber (wsX11_within) := ggX8_putNumber_X11_within
set_option maxRecDepth 20000 in
theorem ggX8_putNumber_X8_cut : GoodIn wsX8_putNumber wsX8_cut := goodIn_r _ [9, 10, 11, 12, 13] (by decide +kernel) (by decide +kernel)
set_option maxRecDepth 20000 in
theorem gX8_putNumber_X8_cut : GoodIn wsX8_putNumber (wsV RX8 26 RX8 yX8_cut wsX8_cut) := goodIn_app (goodIn_of _ (by decide +kernel)) ggX8_putNumber_X8_cut
theorem dX8_putNumber_0 : decode cX8_putNumber 0 = .ok (.iload_n 1, 1) := by decide +kernel
theorem dX8_putNumber_1 : decode cX8_putNumber 1 = .ok (.aload_n 0, 1) := by decide +kernel
theorem dX8_putNumber_2 : decode cX8_putNumber 2 = .ok (.getfield 18, 3) := by decide +kernel
theorem dX8_putNumber_5 : decode cX8_putNumber 5 = .ok (.arraylength, 1) := by decide +kernel
theorem dX8_putNumber_6 : decode cX8_putNumber 6 = .ok (.invokestatic 22, 3) := by decide +kernel
theorem dX8_putNumber_9 : decode cX8_putNumber 9 = .ok (.ifCond .eq 14, 3) := by decide +kernel
theorem dX8_putNumber_12 : decode cX8_putNumber 12 = .ok (.aload_n 0, 1) := by decide +kernel
theorem dX8_putNumber_13 : decode cX8_putNumber 13 = .ok (.getfield 18, 3) := by decide +kernel
theorem dX8_putNumber_16 : decode cX8_putNumber 16 = .ok (.iload_n 1, 1) := by decide +kernel
theorem dX8_putNumber_17 : decode cX8_putNumber 17 = .ok (.aload_n 0, 1) := by decide +kernel
theorem dX8_putNumber_18 : decode cX8_putNumber 18 = .ok (.lload_n 2, 1) := by decide +kernel
theorem dX8_putNumber_19 : decode cX8_putNumber 19 = .ok (.invokevirtual 26, 3) := by decide +kernel
theorem dX8_putNumber_22 : decode cX8_putNumber 22 = .ok (.lastore, 1) := by decide +kernel
theorem dX8_putNumber_23 : decode cX8_putNumber 23 = .ok (.return_, 1) := by decide +kernel
theorem dX8_cut_0 : decode cX8_cut 0 = .ok (.aload_n 0, 1) := by decide +kernel
theorem dX8_cut_1 : decode cX8_cut 1 = .ok (.getfield 9, 3) := by decide +kernel
theorem dX8_cut_4 : decode cX8_cut 4 = .ok (.tableswitch 42 0 2 #[28, 33, 38], 28) := by decide +kernel
theorem dX8_cut_32 : decode cX8_cut 32 = .ok (.lload_n 1, 1) := by decide +kernel
theorem dX8_cut_33 : decode cX8_cut 33 = .ok (.l2i, 1) := by decide +kernel
theorem dX8_cut_34 : decode cX8_cut 34 = .ok (.i2b, 1) := by decide +kernel
theorem dX8_cut_35 : decode cX8_cut 35 = .ok (.i2l, 1) := by decide +kernel
theorem dX8_cut_36 : decode cX8_cut 36 = .ok (.lreturn, 1) := by decide +kernel
theorem dX8_cut_37 : decode cX8_cut 37 = .ok (.lload_n 1, 1) := by decide +kernel
theorem dX8_cut_38 : decode cX8_cut 38 = .ok (.l2i, 1) := by decide +kernel
theorem dX8_cut_39 : decode cX8_cut 39 = .ok (.i2s, 1) := by decide +kernel
theorem dX8_cut_40 : decode cX8_cut 40 = .ok (.i2l, 1) := by decide +kernel
theorem dX8_cut_41 : decode cX8_cut 41 = .ok (.lreturn, 1) := by decide +kernel
theorem dX8_cut_42 : decode cX8_cut 42 = .ok (.lload_n 1, 1) := by decide +kernel
theorem dX8_cut_43 : decode cX8_cut 43 = .ok (.l2i, 1) := by decide +kernel
theorem dX8_cut_44 : decode cX8_cut 44 = .ok (.i2l, 1) := by decide +kernel
theorem dX8_cut_45 : decode cX8_cut 45 = .ok (.lreturn, 1) := by decide +kernel
theorem dX8_cut_46 : decode cX8_cut 46 = .ok (.lload_n 1, 1) := by decide +kernel
theorem dX8_cut_47 : decode cX8_cut 47 = .ok (.lreturn, 1) := by decide +kernel
set_option maxRecDepth 20000 in
theorem ggX8_takeRun_X8_numberAt : GoodIn wsX8_takeRun wsX8_numberAt := goodIn_r _ [5, 6, 7, 8, 9, 19, 20, 21] (by decide +kernel) (by decide +kernel)
set_option maxRecDepth 20000 in
theorem gX8_takeRun_X8_numberAt : GoodIn wsX8_takeRun (wsV RX8 30 RX8 yX8_numberAt wsX8_numberAt) := goodIn_app (goodIn_of _ (by decide +kernel)) ggX8_takeRun_X8_numberAt
set_option maxRecDepth 20000 in
theorem ggX8_takeRun_X8_putNumber : GoodIn wsX8_takeRun wsX8_putNumber := goodIn_r _ [13, 6, 7, 8, 9, 14, 15, 16, 4, 17, 18, 19, 20, 21] (by decide +kernel) (by decide +kernel)
set_option maxRecDepth 20000 in
theorem gX8_takeRun_X8_putNumber : GoodIn wsX8_takeRun (wsV RX8 34 RX8 yX8_putNumber wsX8_putNumber) := goodIn_app (goodIn_of _ (by decide +kernel)) ggX8_takeRun_X8_putNumber
theorem dX8_takeRun_0 : decode cX8_takeRun 0 = .ok (.iconst 0, 1) := by decide +kernel
theorem dX8_takeRun_1 : decode cX8_takeRun 1 = .ok (.istore 5, 2) := by decide +kernel
theorem dX8_takeRun_3 : decode cX8_takeRun 3 = .ok (.iload 5, 2) := by decide +kernel
theorem dX8_takeRun_5 : decode cX8_takeRun 5 = .ok (.iload 4, 2) := by decide +kernel
theorem dX8_takeRun_7 : decode cX8_takeRun 7 = .ok (.if_icmp .ge 44, 3) := by decide +kernel
theorem dX8_takeRun_10 : decode cX8_takeRun 10 = .ok (.iload_n 3, 1) := by decide +kernel
theorem dX8_takeRun_11 : decode cX8_takeRun 11 = .ok (.iload_n 2, 1) := by decide +kernel
theorem dX8_takeRun_12 : decode cX8_takeRun 12 = .ok (.if_icmp .le 13, 3) := by decide +kernel
theorem dX8_takeRun_15 : decode cX8_takeRun 15 = .ok (.iload 4, 2) := by decide +kernel
theorem dX8_takeRun_17 : decode cX8_takeRun 17 = .ok (.iconst 1, 1) := by decide +kernel
theorem dX8_takeRun_18 : decode cX8_takeRun 18 = .ok (.isub, 1) := by decide +kernel
theorem dX8_takeRun_19 : decode cX8_takeRun 19 = .ok (.iload 5, 2) := by decide +kernel
theorem dX8_takeRun_21 : decode cX8_takeRun 21 = .ok (.isub, 1) := by decide +kernel
theorem dX8_takeRun_22 : decode cX8_takeRun 22 = .ok (.goto 5, 3) := by decide +kernel
theorem dX8_takeRun_25 : decode cX8_takeRun 25 = .ok (.iload 5, 2) := by decide +kernel
theorem dX8_takeRun_27 : decode cX8_takeRun 27 = .ok (.istore 6, 2) := by decide +kernel
theorem dX8_takeRun_29 : decode cX8_takeRun 29 = .ok (.aload_n 0, 1) := by decide +kernel
theorem dX8_takeRun_30 : decode cX8_takeRun 30 = .ok (.iload_n 3, 1) := by decide +kernel
theorem dX8_takeRun_31 : decode cX8_takeRun 31 = .ok (.iload 6, 2) := by decide +kernel
theorem dX8_takeRun_33 : decode cX8_takeRun 33 = .ok (.iadd, 1) := by decide +kernel
theorem dX8_takeRun_34 : decode cX8_takeRun 34 = .ok (.aload_n 1, 1) := by decide +kernel
theorem dX8_takeRun_35 : decode cX8_takeRun 35 = .ok (.iload_n 2, 1) := by decide +kernel
theorem dX8_takeRun_36 : decode cX8_takeRun 36 = .ok (.iload 6, 2) := by decide +kernel
theorem dX8_takeRun_38 : decode cX8_takeRun 38 = .ok (.iadd, 1) := by decide +kernel
theorem dX8_takeRun_39 : decode cX8_takeRun 39 = .ok (.invokevirtual 30, 3) := by decide +kernel
theorem dX8_takeRun_42 : decode cX8_takeRun 42 = .ok (.invokevirtual 34, 3) := by decide +kernel
theorem dX8_takeRun_45 : decode cX8_takeRun 45 = .ok (.iinc 5 1, 3) := by decide +kernel
theorem dX8_takeRun_48 : decode cX8_takeRun 48 = .ok (.goto (-45), 3) := by decide +kernel
theorem dX8_takeRun_51 : decode cX8_takeRun 51 = .ok (.return_, 1) := by decide +kernel
theorem dX9_init_0 : decode cX9_init 0 = .ok (.aload_n 0, 1) := by decide +kernel
theorem dX9_init_1 : decode cX9_init 1 = .ok (.invokespecial 1, 3) := by decide +kernel
theorem dX9_init_4 : decode cX9_init 4 = .ok (.aload_n 0, 1) := by decide +kernel
theorem dX9_init_5 : decode cX9_init 5 = .ok (.iconst 0, 1) := by decide +kernel
theorem dX9_init_6 : decode cX9_init 6 = .ok (.putfield 7, 3) := by decide +kernel
theorem dX9_init_9 : decode cX9_init 9 = .ok (.aload_n 0, 1) := by decide +kernel
theorem dX9_init_10 : decode cX9_init 10 = .ok (.iconst 0, 1) := by decide +kernel
theorem dX9_init_11 : decode cX9_init 11 = .ok (.putfield 13, 3) := by decide +kernel
theorem dX9_init_14 : decode cX9_init 14 = .ok (.aload_n 0, 1) := by decide +kernel
theorem dX9_init_15 : decode cX9_init 15 = .ok (.sipush 150, 3) := by decide +kernel
theorem dX9_init_18 : decode cX9_init 18 = .ok (.newarray .int, 2) := by decide +kernel
theorem dX9_init_20 : decode cX9_init 20 = .ok (.putfield 17, 3) := by decide +kernel
theorem dX9_init_23 : decode cX9_init 23 = .ok (.return_, 1) := by decide +kernel
theorem dX9_clear_0 : decode cX9_clear 0 = .ok (.aload_n 0, 1) := by decide +kernel
theorem dX9_clear_1 : decode cX9_clear 1 = .ok (.iconst 0, 1) := by decide +kernel
theorem dX9_clear_2 : decode cX9_clear 2 = .ok (.putfield 7, 3) := by decide +kernel
theorem dX9_clear_5 : decode cX9_clear 5 = .ok (.aload_n 0, 1) := by decide +kernel
theorem dX9_clear_6 : decode cX9_clear 6 = .ok (.iconst 0, 1) := by decide +kernel
theorem dX9_clear_7 : decode cX9_clear 7 = .ok (.putfield 13, 3) := by decide +kernel
theorem dX9_clear_10 : decode cX9_clear 10 = .ok (.return_, 1) := by decide +kernel
set_option maxRecDepth 20000 in
theorem ggX9_copyFrom_X11_copyRow : GoodIn wsX9_copyFrom wsX11_copyRow := goodIn_r _ [6] (by decide +kernel) (by decide +kernel)
set_option maxRecDepth 20000 in
theorem gX9_copyFrom_X11_copyRow_n21 : GoodIn wsX9_copyFrom (wsX11_copyRow) := ggX9_copyFrom_X11_copyRow
theorem dX9_copyFrom_0 : decode cX9_copyFrom 0 = .ok (.aload_n 0, 1) := by decide +kernel
theorem dX9_copyFrom_1 : decode cX9_copyFrom 1 = .ok (.aload_n 1, 1) := by decide +kernel
theorem dX9_copyFrom_2 : decode cX9_copyFrom 2 = .ok (.getfield 7, 3) := by decide +kernel
theorem dX9_copyFrom_5 : decode cX9_copyFrom 5 = .ok (.putfield 7, 3) := by decide +kernel
theorem dX9_copyFrom_8 : decode cX9_copyFrom 8 = .ok (.aload_n 0, 1) := by decide +kernel
theorem dX9_copyFrom_9 : decode cX9_copyFrom 9 = .ok (.aload_n 1, 1) := by decide +kernel
theorem dX9_copyFrom_10 : decode cX9_copyFrom 10 = .ok (.getfield 13, 3) := by decide +kernel
theorem dX9_copyFrom_13 : decode cX9_copyFrom 13 = .ok (.putfield 13, 3) := by decide +kernel
theorem dX9_copyFrom_16 : decode cX9_copyFrom 16 = .ok (.aload_n 1, 1) := by decide +kernel
theorem dX9_copyFrom_17 : decode cX9_copyFrom 17 = .ok (.getfield 17, 3) := by decide +kernel
theorem dX9_copyFrom_20 : decode cX9_copyFrom 20 = .ok (.aload_n 0, 1) := by decide +kernel
theorem dX9_copyFrom_21 : decode cX9_copyFrom 21 = .ok (.getfield 17, 3) := by decide +kernel
theorem dX9_copyFrom_24 : decode cX9_copyFrom 24 = .ok (.invokestatic 21, 3) := by decide +kernel
theorem dX9_copyFrom_27 : decode cX9_copyFrom 27 = .ok (.return_, 1) := by decide +kernel
set_option maxRecDepth 20000 in
theorem ggX9_cellAt_X11_cell : GoodIn wsX9_cellAt wsX11_cell := goodIn_r _ [4] (by decide +kernel) (by decide +kernel)
set_option maxRecDepth 20000 in
theorem gX9_cellAt_X11_cell_n27 : GoodIn wsX9_cellAt (wsX11_cell) := ggX9_cellAt_X11_cell
theorem dX9_cellAt_0 : decode cX9_cellAt 0 = .ok (.aload_n 0, 1) := by decide +kernel
theorem dX9_cellAt_1 : decode cX9_cellAt 1 = .ok (.getfield 17, 3) := by decide +kernel
theorem dX9_cellAt_4 : decode cX9_cellAt 4 = .ok (.iload_n 1, 1) := by decide +kernel
theorem dX9_cellAt_5 : decode cX9_cellAt 5 = .ok (.iconst 5, 1) := by decide +kernel
theorem dX9_cellAt_6 : decode cX9_cellAt 6 = .ok (.imul, 1) := by decide +kernel
theorem dX9_cellAt_7 : decode cX9_cellAt 7 = .ok (.iload_n 2, 1) := by decide +kernel
theorem dX9_cellAt_8 : decode cX9_cellAt 8 = .ok (.iadd, 1) := by decide +kernel
theorem dX9_cellAt_9 : decode cX9_cellAt 9 = .ok (.invokestatic 27, 3) := by decide +kernel
theorem dX9_cellAt_12 : decode cX9_cellAt 12 = .ok (.ireturn, 1) := by decide +kernel
set_option maxRecDepth 20000 in
theorem ggX9_putCell_X11_put : GoodIn wsX9_putCell wsX11_put := goodIn_r _ [4] (by decide +kernel) (by decide +kernel)
set_option maxRecDepth 20000 in
theorem gX9_putCell_X11_put_n31 : GoodIn wsX9_putCell (wsX11_put) := ggX9_putCell_X11_put
theorem dX9_putCell_0 : decode cX9_putCell 0 = .ok (.aload_n 0, 1) := by decide +kernel
theorem dX9_putCell_1 : decode cX9_putCell 1 = .ok (.getfield 17, 3) := by decide +kernel
theorem dX9_putCell_4 : decode cX9_putCell 4 = .ok (.iload_n 1, 1) := by decide +kernel
theorem dX9_putCell_5 : decode cX9_putCell 5 = .ok (.iconst 5, 1) := by decide +kernel
theorem dX9_putCell_6 : decode cX9_putCell 6 = .ok (.imul, 1) := by decide +kernel
theorem dX9_putCell_7 : decode cX9_putCell 7 = .ok (.iload_n 2, 1) := by decide +kernel
theorem dX9_putCell_8 : decode cX9_putCell 8 = .ok (.iadd, 1) := by decide +kernel
theorem dX9_putCell_9 : decode cX9_putCell 9 = .ok (.iload_n 3, 1) := by decide +kernel
theorem dX9_putCell_10 : decode cX9_putCell 10 = .ok (.invokestatic 31, 3) := by decide +kernel
theorem dX9_putCell_13 : decode cX9_putCell 13 = .ok (.return_, 1) := by decide +kernel
theorem dX10_init_0 : decode cX10_init 0 = .ok (.aload_n 0, 1) := by decide +kernel
theorem dX10_init_1 : decode cX10_init 1 = .ok (.invokespecial 3, 3) := by decide +kernel
theorem dX10_init_4 : decode cX10_init 4 = .ok (.aload_n 0, 1) := by decide +kernel
theorem dX10_init_5 : decode cX10_init 5 = .ok (.bipush 8, 2) := by decide +kernel
theorem dX10_init_7 : decode cX10_init 7 = .ok (.newarray .int, 2) := by decide +kernel
theorem dX10_init_9 : decode cX10_init 9 = .ok (.putfield 9, 3) := by decide +kernel
theorem dX10_init_12 : decode cX10_init 12 = .ok (.aload_n 0, 1) := by decide +kernel
theorem dX10_init_13 : decode cX10_init 13 = .ok (.bipush 8, 2) := by decide +kernel
theorem dX10_init_15 : decode cX10_init 15 = .ok (.newarray .int, 2) := by decide +kernel
theorem dX10_init_17 : decode cX10_init 17 = .ok (.putfield 15, 3) := by decide +kernel
theorem dX10_init_20 : decode cX10_init 20 = .ok (.aload_n 0, 1) := by decide +kernel
theorem dX10_init_21 : decode cX10_init 21 = .ok (.iconst 0, 1) := by decide +kernel
theorem dX10_init_22 : decode cX10_init 22 = .ok (.putfield 18, 3) := by decide +kernel
theorem dX10_init_25 : decode cX10_init 25 = .ok (.return_, 1) := by decide +kernel
set_option maxRecDepth 20000 in
theorem ggX10_countIn_X11_put : GoodIn wsX10_countIn wsX11_put := goodIn_r _ [6] (by decide +kernel) (by decide +kernel)
set_option maxRecDepth 20000 in
theorem gX10_countIn_X11_put_n22 : GoodIn wsX10_countIn (wsX11_put) := ggX10_countIn_X11_put
set_option maxRecDepth 20000 in
theorem ggX10_countIn_X10_countSmells : GoodIn wsX10_countIn wsX10_countSmells := goodIn_r _ [11, 12, 1, 2, 3, 13, 14, 15, 16, 17, 18, 19, 20, 21, 22, 23, 24, 25, 5, 26, 27, 28, 29, 30, 31, 32, 33, 34, 35, 36, 37, 38, 39, 4, 6, 43, 44, 45, 46, 47, 48, 49, 50, 51, 40, 41, 42, 52, 53, 54, 55, 56, 57, 58, 59, 60, 61, 62, 63, 64, 65] (by decide +kernel) (by decide +kernel)
set_option maxRecDepth 20000 in
theorem gX10_countIn_X10_countSmells : GoodIn wsX10_countIn (wsV RX10 26 RX10 yX10_countSmells wsX10_countSmells) := goodIn_app (goodIn_of _ (by decide +kernel)) ggX10_countIn_X10_countSmells
theorem dX10_countIn_0 : decode cX10_countIn 0 = .ok (.iconst 0, 1) := by decide +kernel
theorem dX10_countIn_1 : decode cX10_countIn 1 = .ok (.istore_n 2, 1) := by decide +kernel
theorem dX10_countIn_2 : decode cX10_countIn 2 = .ok (.iload_n 2, 1) := by decide +kernel
theorem dX10_countIn_3 : decode cX10_countIn 3 = .ok (.bipush 8, 2) := by decide +kernel
theorem dX10_countIn_5 : decode cX10_countIn 5 = .ok (.if_icmp .ge 27, 3) := by decide +kernel
theorem dX10_countIn_8 : decode cX10_countIn 8 = .ok (.aload_n 0, 1) := by decide +kernel
theorem dX10_countIn_9 : decode cX10_countIn 9 = .ok (.getfield 9, 3) := by decide +kernel
theorem dX10_countIn_12 : decode cX10_countIn 12 = .ok (.iload_n 2, 1) := by decide +kernel
theorem dX10_countIn_13 : decode cX10_countIn 13 = .ok (.iconst 0, 1) := by decide +kernel
theorem dX10_countIn_14 : decode cX10_countIn 14 = .ok (.invokestatic 22, 3) := by decide +kernel
theorem dX10_countIn_17 : decode cX10_countIn 17 = .ok (.aload_n 0, 1) := by decide +kernel
theorem dX10_countIn_18 : decode cX10_countIn 18 = .ok (.getfield 15, 3) := by decide +kernel
theorem dX10_countIn_21 : decode cX10_countIn 21 = .ok (.iload_n 2, 1) := by decide +kernel
theorem dX10_countIn_22 : decode cX10_countIn 22 = .ok (.iconst 0, 1) := by decide +kernel
theorem dX10_countIn_23 : decode cX10_countIn 23 = .ok (.invokestatic 22, 3) := by decide +kernel
theorem dX10_countIn_26 : decode cX10_countIn 26 = .ok (.iinc 2 1, 3) := by decide +kernel
theorem dX10_countIn_29 : decode cX10_countIn 29 = .ok (.goto (-27), 3) := by decide +kernel
theorem dX10_countIn_32 : decode cX10_countIn 32 = .ok (.aload_n 0, 1) := by decide +kernel
theorem dX10_countIn_33 : decode cX10_countIn 33 = .ok (.iconst 0, 1) := by decide +kernel
theorem dX10_countIn_34 : decode cX10_countIn 34 = .ok (.putfield 18, 3) := by decide +kernel
theorem dX10_countIn_37 : decode cX10_countIn 37 = .ok (.iconst 0, 1) := by decide +kernel
theorem dX10_countIn_38 : decode cX10_countIn 38 = .ok (.istore_n 2, 1) := by decide +kernel
theorem dX10_countIn_39 : decode cX10_countIn 39 = .ok (.iload_n 2, 1) := by decide +kernel
theorem dX10_countIn_40 : decode cX10_countIn 40 = .ok (.bipush 20, 2) := by decide +kernel
theorem dX10_countIn_42 : decode cX10_countIn 42 = .ok (.if_icmp .gt 39, 3) := by decide +kernel
theorem dX10_countIn_45 : decode cX10_countIn 45 = .ok (.iconst 0, 1) := by decide +kernel
theorem dX10_countIn_46 : decode cX10_countIn 46 = .ok (.istore_n 3, 1) := by decide +kernel
theorem dX10_countIn_47 : decode cX10_countIn 47 = .ok (.iload_n 3, 1) := by decide +kernel
theorem dX10_countIn_48 : decode cX10_countIn 48 = .ok (.bipush 9, 2) := by decide +kernel
theorem dX10_countIn_50 : decode cX10_countIn 50 = .ok (.if_icmp .gt 25, 3) := by decide +kernel
theorem dX10_countIn_53 : decode cX10_countIn 53 = .ok (.aload_n 0, 1) := by decide +kernel
theorem dX10_countIn_54 : decode cX10_countIn 54 = .ok (.aload_n 1, 1) := by decide +kernel
theorem dX10_countIn_55 : decode cX10_countIn 55 = .ok (.iconst 1, 1) := by decide +kernel
theorem dX10_countIn_56 : decode cX10_countIn 56 = .ok (.iload_n 2, 1) := by decide +kernel
theorem dX10_countIn_57 : decode cX10_countIn 57 = .ok (.iload_n 3, 1) := by decide +kernel
theorem dX10_countIn_58 : decode cX10_countIn 58 = .ok (.invokevirtual 26, 3) := by decide +kernel
theorem dX10_countIn_61 : decode cX10_countIn 61 = .ok (.aload_n 0, 1) := by decide +kernel
theorem dX10_countIn_62 : decode cX10_countIn 62 = .ok (.aload_n 1, 1) := by decide +kernel
theorem dX10_countIn_63 : decode cX10_countIn 63 = .ok (.iconst 2, 1) := by decide +kernel
theorem dX10_countIn_64 : decode cX10_countIn 64 = .ok (.iload_n 2, 1) := by decide +kernel
theorem dX10_countIn_65 : decode cX10_countIn 65 = .ok (.iload_n 3, 1) := by decide +kernel
theorem dX10_countIn_66 : decode cX10_countIn 66 = .ok (.invokevirtual 26, 3) := by decide +kernel
theorem dX10_countIn_69 : decode cX10_countIn 69 = .ok (.iinc 3 1, 3) := by decide +kernel
theorem dX10_countIn_72 : decode cX10_countIn 72 = .ok (.goto (-25), 3) := by decide +kernel
theorem dX10_countIn_75 : decode cX10_countIn 75 = .ok (.iinc 2 1, 3) := by decide +kernel
theorem dX10_countIn_78 : decode cX10_countIn 78 = .ok (.goto (-39), 3) := by decide +kernel
theorem dX10_countIn_81 : decode cX10_countIn 81 = .ok (.return_, 1) := by decide +kernel
set_option maxRecDepth 20000 in
theorem ggX10_countSmells_X0_countOf : GoodIn wsX10_countSmells wsX0_countOf := goodIn_r _ [9, 10, 47, 48, 49, 50, 51, 52, 53, 54, 55, 56, 57, 58, 59, 60] (by decide +kernel) (by decide +kernel)
set_option maxRecDepth 20000 in
theorem gX10_countSmells_X0_countOf : GoodIn wsX10_countSmells (wsV RX10 30 RX0 yX0_countOf wsX0_countOf) := goodIn_app (goodIn_of _ (by decide +kernel)) ggX10_countSmells_X0_countOf
set_option maxRecDepth 20000 in
theorem ggX10_countSmells_X0_ruleAt : GoodIn wsX10_countSmells wsX0_ruleAt := goodIn_r _ [14, 15, 16, 47, 48, 49, 50, 51, 52, 53, 54, 55, 56, 57, 58, 59, 60] (by decide +kernel) (by decide +kernel)
set_option maxRecDepth 20000 in
theorem gX10_countSmells_X0_ruleAt : GoodIn wsX10_countSmells (wsV RX10 36 RX0 yX0_ruleAt wsX0_ruleAt) := goodIn_app (goodIn_of _ (by decide +kernel)) ggX10_countSmells_X0_ruleAt
set_option maxRecDepth 20000 in
theorem ggX10_countSmells_X11_isIn : GoodIn wsX10_countSmells wsX11_isIn := goodIn_r _ [19] (by decide +kernel) (by decide +kernel)
set_option maxRecDepth 20000 in
theorem gX10_countSmells_X11_isIn_n45 : GoodIn wsX10_countSmells (wsX11_isIn) := ggX10_countSmells_X11_isIn
set_option maxRecDepth 20000 in
theorem ggX10_countSmells_X6_bearsOn : GoodIn wsX10_countSmells wsX6_bearsOn := goodIn_r _ [24, 25, 26, 27, 28, 29, 30, 35, 36, 37, 38, 39, 40, 41, 42, 43] (by decide +kernel) (by decide +kernel)
set_option maxRecDepth 20000 in
theorem gX10_countSmells_X6_bearsOn : GoodIn wsX10_countSmells (wsV RX10 49 RX6 yX6_bearsOn wsX6_bearsOn) := goodIn_app (goodIn_of _ (by decide +kernel)) ggX10_countSmells_X6_bearsOn
set_option maxRecDepth 20000 in
theorem ggX10_countSmells_X11_cell : GoodIn wsX10_countSmells wsX11_cell := goodIn_r _ [32] (by decide +kernel) (by decide +kernel)
set_option maxRecDepth 20000 in
theorem gX10_countSmells_X11_cell_n53 : GoodIn wsX10_countSmells (wsX11_cell) := ggX10_countSmells_X11_cell
set_option maxRecDepth 20000 in
theorem ggX10_countSmells_X11_put : GoodIn wsX10_countSmells wsX11_put := goodIn_r _ [34] (by decide +kernel) (by decide +kernel)
set_option maxRecDepth 20000 in
theorem gX10_countSmells_X11_put_n22 : GoodIn wsX10_countSmells (wsX11_put) := ggX10_countSmells_X11_put
theorem dX10_countSmells_0 : decode cX10_countSmells 0 = .ok (.iconst 1, 1) := by decide +kernel
theorem dX10_countSmells_1 : decode cX10_countSmells 1 = .ok (.aload_n 1, 1) := by decide +kernel
theorem dX10_countSmells_2 : decode cX10_countSmells 2 = .ok (.iconst 0, 1) := by decide +kernel
theorem dX10_countSmells_3 : decode cX10_countSmells 3 = .ok (.invokevirtual 30, 3) := by decide +kernel
theorem dX10_countSmells_6 : decode cX10_countSmells 6 = .ok (.ishl, 1) := by decide +kernel
theorem dX10_countSmells_7 : decode cX10_countSmells 7 = .ok (.istore 5, 2) := by decide +kernel
theorem dX10_countSmells_9 : decode cX10_countSmells 9 = .ok (.iconst 0, 1) := by decide +kernel
theorem dX10_countSmells_10 : decode cX10_countSmells 10 = .ok (.istore 6, 2) := by decide +kernel
theorem dX10_countSmells_12 : decode cX10_countSmells 12 = .ok (.iconst 0, 1) := by decide +kernel
theorem dX10_countSmells_13 : decode cX10_countSmells 13 = .ok (.istore 7, 2) := by decide +kernel
theorem dX10_countSmells_15 : decode cX10_countSmells 15 = .ok (.iload 7, 2) := by decide +kernel
theorem dX10_countSmells_17 : decode cX10_countSmells 17 = .ok (.aload_n 1, 1) := by decide +kernel
theorem dX10_countSmells_18 : decode cX10_countSmells 18 = .ok (.iconst 2, 1) := by decide +kernel
theorem dX10_countSmells_19 : decode cX10_countSmells 19 = .ok (.invokevirtual 30, 3) := by decide +kernel
theorem dX10_countSmells_22 : decode cX10_countSmells 22 = .ok (.if_icmp .ge 173, 3) := by decide +kernel
theorem dX10_countSmells_25 : decode cX10_countSmells 25 = .ok (.iload 5, 2) := by decide +kernel
theorem dX10_countSmells_27 : decode cX10_countSmells 27 = .ok (.ifCond .le 168, 3) := by decide +kernel
theorem dX10_countSmells_30 : decode cX10_countSmells 30 = .ok (.aload_n 1, 1) := by decide +kernel
theorem dX10_countSmells_31 : decode cX10_countSmells 31 = .ok (.iload 7, 2) := by decide +kernel
theorem dX10_countSmells_33 : decode cX10_countSmells 33 = .ok (.invokevirtual 36, 3) := by decide +kernel
theorem dX10_countSmells_36 : decode cX10_countSmells 36 = .ok (.astore 8, 2) := by decide +kernel
theorem dX10_countSmells_38 : decode cX10_countSmells 38 = .ok (.aload 8, 2) := by decide +kernel
theorem dX10_countSmells_40 : decode cX10_countSmells 40 = .ok (.getfield 40, 3) := by decide +kernel
theorem dX10_countSmells_43 : decode cX10_countSmells 43 = .ok (.iconst (-1), 1) := by decide +kernel
theorem dX10_countSmells_44 : decode cX10_countSmells 44 = .ok (.if_icmp .eq 16, 3) := by decide +kernel
theorem dX10_countSmells_47 : decode cX10_countSmells 47 = .ok (.iload 6, 2) := by decide +kernel
theorem dX10_countSmells_49 : decode cX10_countSmells 49 = .ok (.aload 8, 2) := by decide +kernel
theorem dX10_countSmells_51 : decode cX10_countSmells 51 = .ok (.getfield 40, 3) := by decide +kernel
theorem dX10_countSmells_54 : decode cX10_countSmells 54 = .ok (.invokestatic 45, 3) := by decide +kernel
theorem dX10_countSmells_57 : decode cX10_countSmells 57 = .ok (.ifCond .ne 7, 3) := by decide +kernel
theorem dX10_countSmells_60 : decode cX10_countSmells 60 = .ok (.iconst 1, 1) := by decide +kernel
theorem dX10_countSmells_61 : decode cX10_countSmells 61 = .ok (.goto 4, 3) := by decide +kernel
theorem dX10_countSmells_64 : decode cX10_countSmells 64 = .ok (.iconst 0, 1) := by decide +kernel
theorem dX10_countSmells_65 : decode cX10_countSmells 65 = .ok (.istore 9, 2) := by decide +kernel
theorem dX10_countSmells_67 : decode cX10_countSmells 67 = .ok (.iload 9, 2) := by decide +kernel
theorem dX10_countSmells_69 : decode cX10_countSmells 69 = .ok (.ifCond .eq 120, 3) := by decide +kernel
theorem dX10_countSmells_72 : decode cX10_countSmells 72 = .ok (.aload 8, 2) := by decide +kernel
theorem dX10_countSmells_74 : decode cX10_countSmells 74 = .ok (.iload_n 2, 1) := by decide +kernel
theorem dX10_countSmells_75 : decode cX10_countSmells 75 = .ok (.iload_n 3, 1) := by decide +kernel
theorem dX10_countSmells_76 : decode cX10_countSmells 76 = .ok (.iload 4, 2) := by decide +kernel
theorem dX10_countSmells_78 : decode cX10_countSmells 78 = .ok (.bipush 31, 2) := by decide +kernel
theorem dX10_countSmells_80 : decode cX10_countSmells 80 = .ok (.invokevirtual 49, 3) := by decide +kernel
theorem dX10_countSmells_83 : decode cX10_countSmells 83 = .ok (.ifCond .eq 106, 3) := by decide +kernel
theorem dX10_countSmells_86 : decode cX10_countSmells 86 = .ok (.aload 8, 2) := by decide +kernel
theorem dX10_countSmells_88 : decode cX10_countSmells 88 = .ok (.getfield 40, 3) := by decide +kernel
theorem dX10_countSmells_91 : decode cX10_countSmells 91 = .ok (.iconst (-1), 1) := by decide +kernel
theorem dX10_countSmells_92 : decode cX10_countSmells 92 = .ok (.if_icmp .ne 8, 3) := by decide +kernel
theorem dX10_countSmells_95 : decode cX10_countSmells 95 = .ok (.iload 5, 2) := by decide +kernel
theorem dX10_countSmells_97 : decode cX10_countSmells 97 = .ok (.goto 7, 3) := by decide +kernel
theorem dX10_countSmells_100 : decode cX10_countSmells 100 = .ok (.iload 5, 2) := by decide +kernel
theorem dX10_countSmells_102 : decode cX10_countSmells 102 = .ok (.iconst 2, 1) := by decide +kernel
theorem dX10_countSmells_103 : decode cX10_countSmells 103 = .ok (.idiv, 1) := by decide +kernel
theorem dX10_countSmells_104 : decode cX10_countSmells 104 = .ok (.istore 10, 2) := by decide +kernel
theorem dX10_countSmells_106 : decode cX10_countSmells 106 = .ok (.iload 6, 2) := by decide +kernel
theorem dX10_countSmells_108 : decode cX10_countSmells 108 = .ok (.aload 8, 2) := by decide +kernel
theorem dX10_countSmells_110 : decode cX10_countSmells 110 = .ok (.getfield 40, 3) := by decide +kernel
theorem dX10_countSmells_113 : decode cX10_countSmells 113 = .ok (.iconst (-1), 1) := by decide +kernel
theorem dX10_countSmells_114 : decode cX10_countSmells 114 = .ok (.if_icmp .ne 7, 3) := by decide +kernel
theorem dX10_countSmells_117 : decode cX10_countSmells 117 = .ok (.iconst 0, 1) := by decide +kernel
theorem dX10_countSmells_118 : decode cX10_countSmells 118 = .ok (.goto 10, 3) := by decide +kernel
theorem dX10_countSmells_121 : decode cX10_countSmells 121 = .ok (.iconst 1, 1) := by decide +kernel
theorem dX10_countSmells_122 : decode cX10_countSmells 122 = .ok (.aload 8, 2) := by decide +kernel
theorem dX10_countSmells_124 : decode cX10_countSmells 124 = .ok (.getfield 40, 3) := by decide +kernel
theorem dX10_countSmells_127 : decode cX10_countSmells 127 = .ok (.ishl, 1) := by decide +kernel
theorem dX10_countSmells_128 : decode cX10_countSmells 128 = .ok (.ior, 1) := by decide +kernel
theorem dX10_countSmells_129 : decode cX10_countSmells 129 = .ok (.istore 6, 2) := by decide +kernel
theorem dX10_countSmells_131 : decode cX10_countSmells 131 = .ok (.iload 5, 2) := by decide +kernel
theorem dX10_countSmells_133 : decode cX10_countSmells 133 = .ok (.iload 10, 2) := by decide +kernel
theorem dX10_countSmells_135 : decode cX10_countSmells 135 = .ok (.isub, 1) := by decide +kernel
theorem dX10_countSmells_136 : decode cX10_countSmells 136 = .ok (.istore 5, 2) := by decide +kernel
theorem dX10_countSmells_138 : decode cX10_countSmells 138 = .ok (.aload_n 0, 1) := by decide +kernel
theorem dX10_countSmells_139 : decode cX10_countSmells 139 = .ok (.getfield 9, 3) := by decide +kernel
theorem dX10_countSmells_142 : decode cX10_countSmells 142 = .ok (.iload 7, 2) := by decide +kernel
theorem dX10_countSmells_144 : decode cX10_countSmells 144 = .ok (.aload_n 0, 1) := by decide +kernel
theorem dX10_countSmells_145 : decode cX10_countSmells 145 = .ok (.getfield 9, 3) := by decide +kernel
theorem dX10_countSmells_148 : decode cX10_countSmells 148 = .ok (.iload 7, 2) := by decide +kernel
theorem dX10_countSmells_150 : decode cX10_countSmells 150 = .ok (.invokestatic 53, 3) := by decide +kernel
theorem dX10_countSmells_153 : decode cX10_countSmells 153 = .ok (.iload 10, 2) := by decide +kernel
theorem dX10_countSmells_155 : decode cX10_countSmells 155 = .ok (.iadd, 1) := by decide +kernel
theorem dX10_countSmells_156 : decode cX10_countSmells 156 = .ok (.invokestatic 22, 3) := by decide +kernel
theorem dX10_countSmells_159 : decode cX10_countSmells 159 = .ok (.aload_n 0, 1) := by decide +kernel
theorem dX10_countSmells_160 : decode cX10_countSmells 160 = .ok (.getfield 15, 3) := by decide +kernel
theorem dX10_countSmells_163 : decode cX10_countSmells 163 = .ok (.iload 7, 2) := by decide +kernel
theorem dX10_countSmells_165 : decode cX10_countSmells 165 = .ok (.aload_n 0, 1) := by decide +kernel
theorem dX10_countSmells_166 : decode cX10_countSmells 166 = .ok (.getfield 15, 3) := by decide +kernel
theorem dX10_countSmells_169 : decode cX10_countSmells 169 = .ok (.iload 7, 2) := by decide +kernel
theorem dX10_countSmells_171 : decode cX10_countSmells 171 = .ok (.invokestatic 53, 3) := by decide +kernel
theorem dX10_countSmells_174 : decode cX10_countSmells 174 = .ok (.iload_n 2, 1) := by decide +kernel
theorem dX10_countSmells_175 : decode cX10_countSmells 175 = .ok (.iconst 1, 1) := by decide +kernel
theorem dX10_countSmells_176 : decode cX10_countSmells 176 = .ok (.if_icmp .ne 8, 3) := by decide +kernel
theorem dX10_countSmells_179 : decode cX10_countSmells 179 = .ok (.iload 10, 2) := by decide +kernel
theorem dX10_countSmells_181 : decode cX10_countSmells 181 = .ok (.goto 4, 3) := by decide +kernel
theorem dX10_countSmells_184 : decode cX10_countSmells 184 = .ok (.iconst 0, 1) := by decide +kernel
theorem dX10_countSmells_185 : decode cX10_countSmells 185 = .ok (.iadd, 1) := by decide +kernel
theorem dX10_countSmells_186 : decode cX10_countSmells 186 = .ok (.invokestatic 22, 3) := by decide +kernel
theorem dX10_countSmells_189 : decode cX10_countSmells 189 = .ok (.iinc 7 1, 3) := by decide +kernel
theorem dX10_countSmells_192 : decode cX10_countSmells 192 = .ok (.goto (-177), 3) := by decide +kernel
theorem dX10_countSmells_195 : decode cX10_countSmells 195 = .ok (.aload_n 0, 1) := by decide +kernel
theorem dX10_countSmells_196 : decode cX10_countSmells 196 = .ok (.dup, 1) := by decide +kernel
theorem dX10_countSmells_197 : decode cX10_countSmells 197 = .ok (.getfield 18, 3) := by decide +kernel
theorem dX10_countSmells_200 : decode cX10_countSmells 200 = .ok (.iload 5, 2) := by decide +kernel
theorem dX10_countSmells_202 : decode cX10_countSmells 202 = .ok (.iadd, 1) := by decide +kernel
theorem dX10_countSmells_203 : decode cX10_countSmells 203 = .ok (.putfield 18, 3) := by decide +kernel
theorem dX10_countSmells_206 : decode cX10_countSmells 206 = .ok (.return_, 1) := by decide +kernel
