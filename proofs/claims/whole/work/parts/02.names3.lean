theorem dX5_best_160 : decode cX5_best 160 = .ok (.lload 8, 2) := by decide +kernel
theorem dX5_best_162 : decode cX5_best 162 = .ok (.iload_n 3, 1) := by decide +kernel
theorem dX5_best_163 : decode cX5_best 163 = .ok (.iconst 1, 1) := by decide +kernel
theorem dX5_best_164 : decode cX5_best 164 = .ok (.isub, 1) := by decide +kernel
theorem dX5_best_165 : decode cX5_best 165 = .ok (.invokestatic 154, 3) := by decide +kernel
theorem dX5_best_168 : decode cX5_best 168 = .ok (.ireturn, 1) := by decide +kernel
set_option maxRecDepth 20000 in
theorem ggX5_found_X5_hasPorts : GoodIn wsX5_found wsX5_hasPorts := goodIn_r _ [8, 1, 9, 10, 11, 12, 13, 14, 15, 16, 17, 18, 19, 137, 138, 139, 140, 141, 142, 150, 151, 152] (by decide +kernel) (by decide +kernel)
set_option maxRecDepth 20000 in
theorem gX5_found_X5_hasPorts : GoodIn wsX5_found (wsV RX5 139 RX5 yX5_hasPorts wsX5_hasPorts) := goodIn_app (goodIn_of _ (by decide +kernel)) ggX5_found_X5_hasPorts
set_option maxRecDepth 20000 in
theorem ggX5_found_X5_isPart : GoodIn wsX5_found wsX5_isPart := goodIn_r _ [22] (by decide +kernel) (by decide +kernel)
set_option maxRecDepth 20000 in
theorem gX5_found_X5_isPart : GoodIn wsX5_found (va_wsS RX5 91 yX5_isPart wsX5_isPart) := goodIn_app (goodIn_of _ (by decide +kernel)) ggX5_found_X5_isPart
set_option maxRecDepth 20000 in
theorem ggX5_found_X2_cells : GoodIn wsX5_found wsX2_cells := goodIn_r _ [26, 18, 19, 150, 151, 152] (by decide +kernel) (by decide +kernel)
set_option maxRecDepth 20000 in
theorem gX5_found_X2_cells : GoodIn wsX5_found (wsV RX5 70 RX2 yX2_cells wsX2_cells) := goodIn_app (goodIn_of _ (by decide +kernel)) ggX5_found_X2_cells
set_option maxRecDepth 20000 in
theorem ggX5_found_X2_kindAt : GoodIn wsX5_found wsX2_kindAt := goodIn_r _ [30, 31, 32, 24, 25, 12, 26, 18, 19, 150, 151, 152] (by decide +kernel) (by decide +kernel)
set_option maxRecDepth 20000 in
theorem gX5_found_X2_kindAt : GoodIn wsX5_found (wsV RX5 73 RX2 yX2_kindAt wsX2_kindAt) := goodIn_app (goodIn_of _ (by decide +kernel)) ggX5_found_X2_kindAt
set_option maxRecDepth 20000 in
theorem ggX5_found_X5_tryCell : GoodIn wsX5_found wsX5_tryCell := goodIn_r _ [36, 3, 1, 37, 38, 39, 12, 40, 18, 19, 31, 41, 42, 43, 44, 45, 46, 47, 48, 32, 24, 25, 26, 137, 138, 139, 140, 141, 142, 150, 151, 152] (by decide +kernel) (by decide +kernel)
set_option maxRecDepth 20000 in
theorem gX5_found_X5_tryCell : GoodIn wsX5_found (wsV RX5 76 RX5 yX5_tryCell wsX5_tryCell) := goodIn_app (goodIn_of _ (by decide +kernel)) ggX5_found_X5_tryCell
set_option maxRecDepth 20000 in
theorem ggX5_found_X0_shine : GoodIn wsX5_found wsX0_shine := goodIn_r _ [53, 54, 55, 56, 12, 57, 18, 19, 58, 59, 60, 61, 62, 63, 64, 52, 65, 66, 28, 29, 30, 31, 32, 24, 25, 26, 67, 7, 68, 69, 70, 71, 72, 73, 74, 75, 76, 77, 78, 79, 80, 81, 82, 83, 84, 85, 86, 87, 88, 89, 90, 91, 92, 93, 94, 95, 96, 97, 98, 99, 100, 101, 102, 103, 104, 105, 106, 107, 108, 109, 110, 111, 112, 113, 114, 115, 116, 117, 118, 119, 120, 121, 122, 123, 124, 125, 150, 151, 152, 143, 144, 145, 146, 147, 148, 149] (by decide +kernel) (by decide +kernel)
set_option maxRecDepth 20000 in
theorem gX5_found_X0_shine : GoodIn wsX5_found (wsV RX5 142 RX0 yX0_shine wsX0_shine) := goodIn_app (goodIn_of _ (by decide +kernel)) ggX5_found_X0_shine
set_option maxRecDepth 20000 in
theorem ggX5_found_X0_outAt : GoodIn wsX5_found wsX0_outAt := goodIn_r _ [129, 121, 143, 144, 145, 146, 147, 148, 149] (by decide +kernel) (by decide +kernel)
set_option maxRecDepth 20000 in
theorem gX5_found_X0_outAt : GoodIn wsX5_found (wsV RX5 146 RX0 yX0_outAt wsX0_outAt) := goodIn_app (goodIn_of _ (by decide +kernel)) ggX5_found_X0_outAt
set_option maxRecDepth 20000 in
theorem ggX5_found_X5_compareFractions : GoodIn wsX5_found wsX5_compareFractions := goodIn_r _ [132, 133, 134, 135, 136] (by decide +kernel) (by decide +kernel)
set_option maxRecDepth 20000 in
theorem gX5_found_X5_compareFractions : GoodIn wsX5_found (va_wsS RX5 177 yX5_compareFractions wsX5_compareFractions) := goodIn_app (goodIn_of _ (by decide +kernel)) ggX5_found_X5_compareFractions
theorem dX5_found_0 : decode cX5_found 0 = .ok (.aload_n 0, 1) := by decide +kernel
theorem dX5_found_1 : decode cX5_found 1 = .ok (.iload_n 1, 1) := by decide +kernel
theorem dX5_found_2 : decode cX5_found 2 = .ok (.iload_n 2, 1) := by decide +kernel
theorem dX5_found_3 : decode cX5_found 3 = .ok (.invokevirtual 139, 3) := by decide +kernel
theorem dX5_found_6 : decode cX5_found 6 = .ok (.ifCond .eq 37, 3) := by decide +kernel
theorem dX5_found_9 : decode cX5_found 9 = .ok (.iload_n 3, 1) := by decide +kernel
theorem dX5_found_10 : decode cX5_found 10 = .ok (.ifCond .lt 33, 3) := by decide +kernel
theorem dX5_found_13 : decode cX5_found 13 = .ok (.iload_n 3, 1) := by decide +kernel
theorem dX5_found_14 : decode cX5_found 14 = .ok (.sipush 1000, 3) := by decide +kernel
theorem dX5_found_17 : decode cX5_found 17 = .ok (.if_icmp .gt 26, 3) := by decide +kernel
theorem dX5_found_20 : decode cX5_found 20 = .ok (.iload 4, 2) := by decide +kernel
theorem dX5_found_22 : decode cX5_found 22 = .ok (.iconst 1, 1) := by decide +kernel
theorem dX5_found_23 : decode cX5_found 23 = .ok (.if_icmp .lt 20, 3) := by decide +kernel
theorem dX5_found_26 : decode cX5_found 26 = .ok (.iload 4, 2) := by decide +kernel
theorem dX5_found_28 : decode cX5_found 28 = .ok (.sipush 1000, 3) := by decide +kernel
theorem dX5_found_31 : decode cX5_found 31 = .ok (.if_icmp .gt 12, 3) := by decide +kernel
theorem dX5_found_34 : decode cX5_found 34 = .ok (.iload 5, 2) := by decide +kernel
theorem dX5_found_36 : decode cX5_found 36 = .ok (.iconst 2, 1) := by decide +kernel
theorem dX5_found_37 : decode cX5_found 37 = .ok (.invokestatic 91, 3) := by decide +kernel
theorem dX5_found_40 : decode cX5_found 40 = .ok (.ifCond .ne 5, 3) := by decide +kernel
theorem dX5_found_43 : decode cX5_found 43 = .ok (.iconst (-1), 1) := by decide +kernel
theorem dX5_found_44 : decode cX5_found 44 = .ok (.ireturn, 1) := by decide +kernel
theorem dX5_found_45 : decode cX5_found 45 = .ok (.iconst 0, 1) := by decide +kernel
theorem dX5_found_46 : decode cX5_found 46 = .ok (.istore 6, 2) := by decide +kernel
theorem dX5_found_48 : decode cX5_found 48 = .ok (.bipush (-4), 2) := by decide +kernel
theorem dX5_found_50 : decode cX5_found 50 = .ok (.istore 7, 2) := by decide +kernel
theorem dX5_found_52 : decode cX5_found 52 = .ok (.iconst 0, 1) := by decide +kernel
theorem dX5_found_53 : decode cX5_found 53 = .ok (.istore 8, 2) := by decide +kernel
theorem dX5_found_55 : decode cX5_found 55 = .ok (.iload 8, 2) := by decide +kernel
theorem dX5_found_57 : decode cX5_found 57 = .ok (.iconst 2, 1) := by decide +kernel
theorem dX5_found_58 : decode cX5_found 58 = .ok (.aload_n 0, 1) := by decide +kernel
theorem dX5_found_59 : decode cX5_found 59 = .ok (.getfield 19, 3) := by decide +kernel
theorem dX5_found_62 : decode cX5_found 62 = .ok (.invokevirtual 70, 3) := by decide +kernel
theorem dX5_found_65 : decode cX5_found 65 = .ok (.imul, 1) := by decide +kernel
theorem dX5_found_66 : decode cX5_found 66 = .ok (.if_icmp .ge 97, 3) := by decide +kernel
theorem dX5_found_69 : decode cX5_found 69 = .ok (.aload_n 0, 1) := by decide +kernel
theorem dX5_found_70 : decode cX5_found 70 = .ok (.getfield 19, 3) := by decide +kernel
theorem dX5_found_73 : decode cX5_found 73 = .ok (.iload 8, 2) := by decide +kernel
theorem dX5_found_75 : decode cX5_found 75 = .ok (.iconst 2, 1) := by decide +kernel
theorem dX5_found_76 : decode cX5_found 76 = .ok (.idiv, 1) := by decide +kernel
theorem dX5_found_77 : decode cX5_found 77 = .ok (.invokevirtual 73, 3) := by decide +kernel
theorem dX5_found_80 : decode cX5_found 80 = .ok (.ifCond .eq 6, 3) := by decide +kernel
theorem dX5_found_83 : decode cX5_found 83 = .ok (.goto 74, 3) := by decide +kernel
theorem dX5_found_86 : decode cX5_found 86 = .ok (.aload_n 0, 1) := by decide +kernel
theorem dX5_found_87 : decode cX5_found 87 = .ok (.iload 8, 2) := by decide +kernel
theorem dX5_found_89 : decode cX5_found 89 = .ok (.iconst 2, 1) := by decide +kernel
theorem dX5_found_90 : decode cX5_found 90 = .ok (.idiv, 1) := by decide +kernel
theorem dX5_found_91 : decode cX5_found 91 = .ok (.iconst 1, 1) := by decide +kernel
theorem dX5_found_92 : decode cX5_found 92 = .ok (.iload 8, 2) := by decide +kernel
theorem dX5_found_94 : decode cX5_found 94 = .ok (.iconst 2, 1) := by decide +kernel
theorem dX5_found_95 : decode cX5_found 95 = .ok (.irem, 1) := by decide +kernel
theorem dX5_found_96 : decode cX5_found 96 = .ok (.iadd, 1) := by decide +kernel
theorem dX5_found_97 : decode cX5_found 97 = .ok (.invokevirtual 76, 3) := by decide +kernel
theorem dX5_found_100 : decode cX5_found 100 = .ok (.aload_n 0, 1) := by decide +kernel
theorem dX5_found_101 : decode cX5_found 101 = .ok (.getfield 43, 3) := by decide +kernel
theorem dX5_found_104 : decode cX5_found 104 = .ok (.aload_n 0, 1) := by decide +kernel
theorem dX5_found_105 : decode cX5_found 105 = .ok (.getfield 23, 3) := by decide +kernel
theorem dX5_found_108 : decode cX5_found 108 = .ok (.iload_n 1, 1) := by decide +kernel
theorem dX5_found_109 : decode cX5_found 109 = .ok (.invokevirtual 142, 3) := by decide +kernel
theorem dX5_found_112 : decode cX5_found 112 = .ok (.aload_n 0, 1) := by decide +kernel
theorem dX5_found_113 : decode cX5_found 113 = .ok (.getfield 43, 3) := by decide +kernel
theorem dX5_found_116 : decode cX5_found 116 = .ok (.iload_n 2, 1) := by decide +kernel
theorem dX5_found_117 : decode cX5_found 117 = .ok (.invokevirtual 146, 3) := by decide +kernel
theorem dX5_found_120 : decode cX5_found 120 = .ok (.aload_n 0, 1) := by decide +kernel
theorem dX5_found_121 : decode cX5_found 121 = .ok (.getfield 43, 3) := by decide +kernel
theorem dX5_found_124 : decode cX5_found 124 = .ok (.getfield 150, 3) := by decide +kernel
theorem dX5_found_127 : decode cX5_found 127 = .ok (.iload_n 3, 1) := by decide +kernel
theorem dX5_found_128 : decode cX5_found 128 = .ok (.i2l, 1) := by decide +kernel
theorem dX5_found_129 : decode cX5_found 129 = .ok (.iload 4, 2) := by decide +kernel
theorem dX5_found_131 : decode cX5_found 131 = .ok (.i2l, 1) := by decide +kernel
theorem dX5_found_132 : decode cX5_found 132 = .ok (.invokestatic 177, 3) := by decide +kernel
theorem dX5_found_135 : decode cX5_found 135 = .ok (.ifCond .ne 22, 3) := by decide +kernel
theorem dX5_found_138 : decode cX5_found 138 = .ok (.iinc 6 1, 3) := by decide +kernel
theorem dX5_found_141 : decode cX5_found 141 = .ok (.iload 7, 2) := by decide +kernel
theorem dX5_found_143 : decode cX5_found 143 = .ok (.bipush (-4), 2) := by decide +kernel
theorem dX5_found_145 : decode cX5_found 145 = .ok (.if_icmp .ne 8, 3) := by decide +kernel
theorem dX5_found_148 : decode cX5_found 148 = .ok (.iload 8, 2) := by decide +kernel
theorem dX5_found_150 : decode cX5_found 150 = .ok (.goto 5, 3) := by decide +kernel
theorem dX5_found_153 : decode cX5_found 153 = .ok (.iload 7, 2) := by decide +kernel
theorem dX5_found_155 : decode cX5_found 155 = .ok (.istore 7, 2) := by decide +kernel
theorem dX5_found_157 : decode cX5_found 157 = .ok (.iinc 8 1, 3) := by decide +kernel
theorem dX5_found_160 : decode cX5_found 160 = .ok (.goto (-105), 3) := by decide +kernel
theorem dX5_found_163 : decode cX5_found 163 = .ok (.iload 5, 2) := by decide +kernel
theorem dX5_found_165 : decode cX5_found 165 = .ok (.ifCond .ne 8, 3) := by decide +kernel
theorem dX5_found_168 : decode cX5_found 168 = .ok (.iload 6, 2) := by decide +kernel
theorem dX5_found_170 : decode cX5_found 170 = .ok (.goto 5, 3) := by decide +kernel
theorem dX5_found_173 : decode cX5_found 173 = .ok (.iload 7, 2) := by decide +kernel
theorem dX5_found_175 : decode cX5_found 175 = .ok (.ireturn, 1) := by decide +kernel
set_option maxRecDepth 20000 in
theorem ggX5_count_X2_countKinds : GoodIn wsX5_count wsX2_countKinds := goodIn_r _ [8, 9, 10, 11, 7, 12, 13, 14, 15, 16, 17, 18, 19, 30, 31, 32] (by decide +kernel) (by decide +kernel)
set_option maxRecDepth 20000 in
theorem gX5_count_X2_countKinds : GoodIn wsX5_count (wsV RX5 95 RX2 yX2_countKinds wsX2_countKinds) := goodIn_app (goodIn_of _ (by decide +kernel)) ggX5_count_X2_countKinds
set_option maxRecDepth 20000 in
theorem ggX5_count_X2_ports : GoodIn wsX5_count wsX2_ports := goodIn_r _ [23, 13, 14, 30, 31, 32] (by decide +kernel) (by decide +kernel)
set_option maxRecDepth 20000 in
theorem gX5_count_X2_ports : GoodIn wsX5_count (wsV RX5 192 RX2 yX2_ports wsX2_ports) := goodIn_app (goodIn_of _ (by decide +kernel)) ggX5_count_X2_ports
theorem dX5_count_0 : decode cX5_count 0 = .ok (.iload_n 1, 1) := by decide +kernel
theorem dX5_count_1 : decode cX5_count 1 = .ok (.tableswitch 149 0 9 #[55, 63, 71, 81, 93, 105, 115, 125, 133, 141], 55) := by decide +kernel
theorem dX5_count_56 : decode cX5_count 56 = .ok (.aload_n 0, 1) := by decide +kernel
theorem dX5_count_57 : decode cX5_count 57 = .ok (.getfield 19, 3) := by decide +kernel
theorem dX5_count_60 : decode cX5_count 60 = .ok (.getfield 99, 3) := by decide +kernel
theorem dX5_count_63 : decode cX5_count 63 = .ok (.ireturn, 1) := by decide +kernel
theorem dX5_count_64 : decode cX5_count 64 = .ok (.aload_n 0, 1) := by decide +kernel
theorem dX5_count_65 : decode cX5_count 65 = .ok (.getfield 19, 3) := by decide +kernel
theorem dX5_count_68 : decode cX5_count 68 = .ok (.getfield 59, 3) := by decide +kernel
theorem dX5_count_71 : decode cX5_count 71 = .ok (.ireturn, 1) := by decide +kernel
theorem dX5_count_72 : decode cX5_count 72 = .ok (.aload_n 0, 1) := by decide +kernel
theorem dX5_count_73 : decode cX5_count 73 = .ok (.getfield 19, 3) := by decide +kernel
theorem dX5_count_76 : decode cX5_count 76 = .ok (.iconst 3, 1) := by decide +kernel
theorem dX5_count_77 : decode cX5_count 77 = .ok (.iconst 4, 1) := by decide +kernel
theorem dX5_count_78 : decode cX5_count 78 = .ok (.invokevirtual 95, 3) := by decide +kernel
theorem dX5_count_81 : decode cX5_count 81 = .ok (.ireturn, 1) := by decide +kernel
theorem dX5_count_82 : decode cX5_count 82 = .ok (.aload_n 0, 1) := by decide +kernel
theorem dX5_count_83 : decode cX5_count 83 = .ok (.getfield 19, 3) := by decide +kernel
theorem dX5_count_86 : decode cX5_count 86 = .ok (.bipush 6, 2) := by decide +kernel
theorem dX5_count_88 : decode cX5_count 88 = .ok (.bipush 7, 2) := by decide +kernel
theorem dX5_count_90 : decode cX5_count 90 = .ok (.invokevirtual 95, 3) := by decide +kernel
theorem dX5_count_93 : decode cX5_count 93 = .ok (.ireturn, 1) := by decide +kernel
theorem dX5_count_94 : decode cX5_count 94 = .ok (.aload_n 0, 1) := by decide +kernel
theorem dX5_count_95 : decode cX5_count 95 = .ok (.getfield 19, 3) := by decide +kernel
theorem dX5_count_98 : decode cX5_count 98 = .ok (.bipush 6, 2) := by decide +kernel
theorem dX5_count_100 : decode cX5_count 100 = .ok (.bipush 6, 2) := by decide +kernel
theorem dX5_count_102 : decode cX5_count 102 = .ok (.invokevirtual 95, 3) := by decide +kernel
theorem dX5_count_105 : decode cX5_count 105 = .ok (.ireturn, 1) := by decide +kernel
theorem dX5_count_106 : decode cX5_count 106 = .ok (.aload_n 0, 1) := by decide +kernel
theorem dX5_count_107 : decode cX5_count 107 = .ok (.getfield 19, 3) := by decide +kernel
theorem dX5_count_110 : decode cX5_count 110 = .ok (.iconst 5, 1) := by decide +kernel
theorem dX5_count_111 : decode cX5_count 111 = .ok (.iconst 5, 1) := by decide +kernel
theorem dX5_count_112 : decode cX5_count 112 = .ok (.invokevirtual 95, 3) := by decide +kernel
theorem dX5_count_115 : decode cX5_count 115 = .ok (.ireturn, 1) := by decide +kernel
theorem dX5_count_116 : decode cX5_count 116 = .ok (.aload_n 0, 1) := by decide +kernel
theorem dX5_count_117 : decode cX5_count 117 = .ok (.getfield 19, 3) := by decide +kernel
theorem dX5_count_120 : decode cX5_count 120 = .ok (.iconst 1, 1) := by decide +kernel
theorem dX5_count_121 : decode cX5_count 121 = .ok (.iconst 2, 1) := by decide +kernel
theorem dX5_count_122 : decode cX5_count 122 = .ok (.invokevirtual 95, 3) := by decide +kernel
theorem dX5_count_125 : decode cX5_count 125 = .ok (.ireturn, 1) := by decide +kernel
theorem dX5_count_126 : decode cX5_count 126 = .ok (.aload_n 0, 1) := by decide +kernel
theorem dX5_count_127 : decode cX5_count 127 = .ok (.getfield 19, 3) := by decide +kernel
theorem dX5_count_130 : decode cX5_count 130 = .ok (.invokevirtual 192, 3) := by decide +kernel
theorem dX5_count_133 : decode cX5_count 133 = .ok (.ireturn, 1) := by decide +kernel
theorem dX5_count_134 : decode cX5_count 134 = .ok (.aload_n 0, 1) := by decide +kernel
theorem dX5_count_135 : decode cX5_count 135 = .ok (.getfield 29, 3) := by decide +kernel
theorem dX5_count_138 : decode cX5_count 138 = .ok (.getfield 108, 3) := by decide +kernel
theorem dX5_count_141 : decode cX5_count 141 = .ok (.ireturn, 1) := by decide +kernel
theorem dX5_count_142 : decode cX5_count 142 = .ok (.aload_n 0, 1) := by decide +kernel
theorem dX5_count_143 : decode cX5_count 143 = .ok (.getfield 12, 3) := by decide +kernel
theorem dX5_count_146 : decode cX5_count 146 = .ok (.getfield 195, 3) := by decide +kernel
theorem dX5_count_149 : decode cX5_count 149 = .ok (.ireturn, 1) := by decide +kernel
theorem dX5_count_150 : decode cX5_count 150 = .ok (.iconst (-1), 1) := by decide +kernel
theorem dX5_count_151 : decode cX5_count 151 = .ok (.ireturn, 1) := by decide +kernel
set_option maxRecDepth 20000 in
theorem ggX5_hasPorts_X2_hasPort : GoodIn wsX5_hasPorts wsX2_hasPort := goodIn_r _ [6, 7, 8, 9, 5, 10, 11, 12, 19, 20, 21] (by decide +kernel) (by decide +kernel)
set_option maxRecDepth 20000 in
theorem gX5_hasPorts_X2_hasPort : GoodIn wsX5_hasPorts (wsV RX5 129 RX2 yX2_hasPort wsX2_hasPort) := goodIn_app (goodIn_of _ (by decide +kernel)) ggX5_hasPorts_X2_hasPort
theorem dX5_hasPorts_0 : decode cX5_hasPorts 0 = .ok (.aload_n 0, 1) := by decide +kernel
theorem dX5_hasPorts_1 : decode cX5_hasPorts 1 = .ok (.getfield 19, 3) := by decide +kernel
theorem dX5_hasPorts_4 : decode cX5_hasPorts 4 = .ok (.iload_n 1, 1) := by decide +kernel
theorem dX5_hasPorts_5 : decode cX5_hasPorts 5 = .ok (.invokevirtual 129, 3) := by decide +kernel
theorem dX5_hasPorts_8 : decode cX5_hasPorts 8 = .ok (.ifCond .eq 18, 3) := by decide +kernel
theorem dX5_hasPorts_11 : decode cX5_hasPorts 11 = .ok (.aload_n 0, 1) := by decide +kernel
theorem dX5_hasPorts_12 : decode cX5_hasPorts 12 = .ok (.getfield 19, 3) := by decide +kernel
theorem dX5_hasPorts_15 : decode cX5_hasPorts 15 = .ok (.iload_n 2, 1) := by decide +kernel
theorem dX5_hasPorts_16 : decode cX5_hasPorts 16 = .ok (.invokevirtual 129, 3) := by decide +kernel
theorem dX5_hasPorts_19 : decode cX5_hasPorts 19 = .ok (.ifCond .eq 7, 3) := by decide +kernel
theorem dX5_hasPorts_22 : decode cX5_hasPorts 22 = .ok (.iconst 1, 1) := by decide +kernel
theorem dX5_hasPorts_23 : decode cX5_hasPorts 23 = .ok (.goto 4, 3) := by decide +kernel
theorem dX5_hasPorts_26 : decode cX5_hasPorts 26 = .ok (.iconst 0, 1) := by decide +kernel
theorem dX5_hasPorts_27 : decode cX5_hasPorts 27 = .ok (.ireturn, 1) := by decide +kernel
theorem dX5_isPart_0 : decode cX5_isPart 0 = .ok (.iload_n 0, 1) := by decide +kernel
theorem dX5_isPart_1 : decode cX5_isPart 1 = .ok (.ifCond .lt 12, 3) := by decide +kernel
theorem dX5_isPart_4 : decode cX5_isPart 4 = .ok (.iload_n 0, 1) := by decide +kernel
theorem dX5_isPart_5 : decode cX5_isPart 5 = .ok (.iload_n 1, 1) := by decide +kernel
theorem dX5_isPart_6 : decode cX5_isPart 6 = .ok (.if_icmp .ge 7, 3) := by decide +kernel
theorem dX5_isPart_9 : decode cX5_isPart 9 = .ok (.iconst 1, 1) := by decide +kernel
theorem dX5_isPart_10 : decode cX5_isPart 10 = .ok (.goto 4, 3) := by decide +kernel
theorem dX5_isPart_13 : decode cX5_isPart 13 = .ok (.iconst 0, 1) := by decide +kernel
theorem dX5_isPart_14 : decode cX5_isPart 14 = .ok (.ireturn, 1) := by decide +kernel
set_option maxRecDepth 20000 in
theorem ggX5_openOnly_X2_become : GoodIn wsX5_openOnly wsX2_become := goodIn_r _ [7, 8, 9, 10, 11, 12, 13, 14, 37, 38, 39] (by decide +kernel) (by decide +kernel)
set_option maxRecDepth 20000 in
theorem gX5_openOnly_X2_become : GoodIn wsX5_openOnly (wsV RX5 63 RX2 yX2_become wsX2_become) := goodIn_app (goodIn_of _ (by decide +kernel)) ggX5_openOnly_X2_become
set_option maxRecDepth 20000 in
theorem ggX5_openOnly_X2_doorCell : GoodIn wsX5_openOnly wsX2_doorCell := goodIn_r _ [18, 19, 20, 21, 6, 22, 8, 9, 23, 24, 25, 26, 10, 37, 38, 39] (by decide +kernel) (by decide +kernel)
set_option maxRecDepth 20000 in
theorem gX5_openOnly_X2_doorCell : GoodIn wsX5_openOnly (wsV RX5 88 RX2 yX2_doorCell wsX2_doorCell) := goodIn_app (goodIn_of _ (by decide +kernel)) ggX5_openOnly_X2_doorCell
set_option maxRecDepth 20000 in
theorem ggX5_openOnly_X2_tell : GoodIn wsX5_openOnly wsX2_tell := goodIn_r _ [30, 10, 19, 20, 21, 6, 22, 8, 9, 37, 38, 39] (by decide +kernel) (by decide +kernel)
set_option maxRecDepth 20000 in
theorem gX5_openOnly_X2_tell : GoodIn wsX5_openOnly (wsV RX5 120 RX2 yX2_tell wsX2_tell) := goodIn_app (goodIn_of _ (by decide +kernel)) ggX5_openOnly_X2_tell
theorem dX5_openOnly_0 : decode cX5_openOnly 0 = .ok (.aload_n 0, 1) := by decide +kernel
theorem dX5_openOnly_1 : decode cX5_openOnly 1 = .ok (.getfield 23, 3) := by decide +kernel
theorem dX5_openOnly_4 : decode cX5_openOnly 4 = .ok (.aload_n 0, 1) := by decide +kernel
theorem dX5_openOnly_5 : decode cX5_openOnly 5 = .ok (.getfield 19, 3) := by decide +kernel
theorem dX5_openOnly_8 : decode cX5_openOnly 8 = .ok (.invokevirtual 63, 3) := by decide +kernel
theorem dX5_openOnly_11 : decode cX5_openOnly 11 = .ok (.iconst 0, 1) := by decide +kernel
theorem dX5_openOnly_12 : decode cX5_openOnly 12 = .ok (.istore_n 2, 1) := by decide +kernel
theorem dX5_openOnly_13 : decode cX5_openOnly 13 = .ok (.iload_n 2, 1) := by decide +kernel
theorem dX5_openOnly_14 : decode cX5_openOnly 14 = .ok (.iconst 4, 1) := by decide +kernel
theorem dX5_openOnly_15 : decode cX5_openOnly 15 = .ok (.if_icmp .ge 40, 3) := by decide +kernel
theorem dX5_openOnly_18 : decode cX5_openOnly 18 = .ok (.aload_n 0, 1) := by decide +kernel
theorem dX5_openOnly_19 : decode cX5_openOnly 19 = .ok (.getfield 23, 3) := by decide +kernel
theorem dX5_openOnly_22 : decode cX5_openOnly 22 = .ok (.aload_n 0, 1) := by decide +kernel
theorem dX5_openOnly_23 : decode cX5_openOnly 23 = .ok (.getfield 19, 3) := by decide +kernel
theorem dX5_openOnly_26 : decode cX5_openOnly 26 = .ok (.iload_n 2, 1) := by decide +kernel
theorem dX5_openOnly_27 : decode cX5_openOnly 27 = .ok (.invokevirtual 88, 3) := by decide +kernel
theorem dX5_openOnly_30 : decode cX5_openOnly 30 = .ok (.iload_n 1, 1) := by decide +kernel
theorem dX5_openOnly_31 : decode cX5_openOnly 31 = .ok (.iload_n 2, 1) := by decide +kernel
theorem dX5_openOnly_32 : decode cX5_openOnly 32 = .ok (.ishr, 1) := by decide +kernel
theorem dX5_openOnly_33 : decode cX5_openOnly 33 = .ok (.iconst 1, 1) := by decide +kernel
theorem dX5_openOnly_34 : decode cX5_openOnly 34 = .ok (.iand, 1) := by decide +kernel
theorem dX5_openOnly_35 : decode cX5_openOnly 35 = .ok (.iconst 1, 1) := by decide +kernel
theorem dX5_openOnly_36 : decode cX5_openOnly 36 = .ok (.if_icmp .ne 8, 3) := by decide +kernel
theorem dX5_openOnly_39 : decode cX5_openOnly 39 = .ok (.bipush 6, 2) := by decide +kernel
theorem dX5_openOnly_41 : decode cX5_openOnly 41 = .ok (.goto 5, 3) := by decide +kernel
theorem dX5_openOnly_44 : decode cX5_openOnly 44 = .ok (.bipush 7, 2) := by decide +kernel
theorem dX5_openOnly_46 : decode cX5_openOnly 46 = .ok (.invokevirtual 120, 3) := by decide +kernel
theorem dX5_openOnly_49 : decode cX5_openOnly 49 = .ok (.iinc 2 1, 3) := by decide +kernel
theorem dX5_openOnly_52 : decode cX5_openOnly 52 = .ok (.goto (-39), 3) := by decide +kernel
theorem dX5_openOnly_55 : decode cX5_openOnly 55 = .ok (.return_, 1) := by decide +kernel
set_option maxRecDepth 20000 in
theorem ggX5_tryCell_X2_become : GoodIn wsX5_tryCell wsX2_become := goodIn_r _ [7, 8, 9, 10, 11, 12, 13, 14, 29, 30, 31] (by decide +kernel) (by decide +kernel)
set_option maxRecDepth 20000 in
theorem gX5_tryCell_X2_become : GoodIn wsX5_tryCell (wsV RX5 63 RX2 yX2_become wsX2_become) := goodIn_app (goodIn_of _ (by decide +kernel)) ggX5_tryCell_X2_become
set_option maxRecDepth 20000 in
theorem ggX5_tryCell_X2_tell : GoodIn wsX5_tryCell wsX2_tell := goodIn_r _ [18, 10, 19, 20, 21, 6, 22, 8, 9, 29, 30, 31] (by decide +kernel) (by decide +kernel)
set_option maxRecDepth 20000 in
theorem gX5_tryCell_X2_tell : GoodIn wsX5_tryCell (wsV RX5 120 RX2 yX2_tell wsX2_tell) := goodIn_app (goodIn_of _ (by decide +kernel)) ggX5_tryCell_X2_tell
theorem dX5_tryCell_0 : decode cX5_tryCell 0 = .ok (.aload_n 0, 1) := by decide +kernel
theorem dX5_tryCell_1 : decode cX5_tryCell 1 = .ok (.getfield 23, 3) := by decide +kernel
theorem dX5_tryCell_4 : decode cX5_tryCell 4 = .ok (.aload_n 0, 1) := by decide +kernel
theorem dX5_tryCell_5 : decode cX5_tryCell 5 = .ok (.getfield 19, 3) := by decide +kernel
theorem dX5_tryCell_8 : decode cX5_tryCell 8 = .ok (.invokevirtual 63, 3) := by decide +kernel
theorem dX5_tryCell_11 : decode cX5_tryCell 11 = .ok (.aload_n 0, 1) := by decide +kernel
theorem dX5_tryCell_12 : decode cX5_tryCell 12 = .ok (.getfield 23, 3) := by decide +kernel
theorem dX5_tryCell_15 : decode cX5_tryCell 15 = .ok (.iload_n 1, 1) := by decide +kernel
theorem dX5_tryCell_16 : decode cX5_tryCell 16 = .ok (.iload_n 2, 1) := by decide +kernel
theorem dX5_tryCell_17 : decode cX5_tryCell 17 = .ok (.invokevirtual 120, 3) := by decide +kernel
theorem dX5_tryCell_20 : decode cX5_tryCell 20 = .ok (.return_, 1) := by decide +kernel
set_option maxRecDepth 20000 in
theorem ggX5_compareFractions_J13_compare_74951 : GoodIn wsX5_compareFractions wsJ13_compare_74951 := goodIn_r _ [4] (by decide +kernel) (by decide +kernel)
set_option maxRecDepth 20000 in
theorem gX5_compareFractions_J13_compare_74951 : GoodIn wsX5_compareFractions (va_wsS RX5 198 yJ13_compare_74951 wsJ13_compare_74951) := goodIn_app (goodIn_of _ (by decide +kernel)) ggX5_compareFractions_J13_compare_74951
theorem dX5_compareFractions_0 : decode cX5_compareFractions 0 = .ok (.lload_n 0, 1) := by decide +kernel
theorem dX5_compareFractions_1 : decode cX5_compareFractions 1 = .ok (.lload 6, 2) := by decide +kernel
theorem dX5_compareFractions_3 : decode cX5_compareFractions 3 = .ok (.lmul, 1) := by decide +kernel
theorem dX5_compareFractions_4 : decode cX5_compareFractions 4 = .ok (.lload 4, 2) := by decide +kernel
theorem dX5_compareFractions_6 : decode cX5_compareFractions 6 = .ok (.lload_n 2, 1) := by decide +kernel
theorem dX5_compareFractions_7 : decode cX5_compareFractions 7 = .ok (.lmul, 1) := by decide +kernel
theorem dX5_compareFractions_8 : decode cX5_compareFractions 8 = .ok (.invokestatic 198, 3) := by decide +kernel
theorem dX5_compareFractions_11 : decode cX5_compareFractions 11 = .ok (.ireturn, 1) := by decide +kernel
set_option maxRecDepth 20000 in
theorem ggX5_lowest_X5_commonDivisor : GoodIn wsX5_lowest wsX5_commonDivisor := goodIn_r _ [4] (by decide +kernel) (by decide +kernel)
set_option maxRecDepth 20000 in
theorem gX5_lowest_X5_commonDivisor : GoodIn wsX5_lowest (va_wsS RX5 204 yX5_commonDivisor wsX5_commonDivisor) := goodIn_app (goodIn_of _ (by decide +kernel)) ggX5_lowest_X5_commonDivisor
theorem dX5_lowest_0 : decode cX5_lowest 0 = .ok (.lload_n 0, 1) := by decide +kernel
theorem dX5_lowest_1 : decode cX5_lowest 1 = .ok (.lload_n 2, 1) := by decide +kernel
theorem dX5_lowest_2 : decode cX5_lowest 2 = .ok (.invokestatic 204, 3) := by decide +kernel
theorem dX5_lowest_5 : decode cX5_lowest 5 = .ok (.lstore 5, 2) := by decide +kernel
theorem dX5_lowest_7 : decode cX5_lowest 7 = .ok (.lload 5, 2) := by decide +kernel
theorem dX5_lowest_9 : decode cX5_lowest 9 = .ok (.lconst 0, 1) := by decide +kernel
theorem dX5_lowest_10 : decode cX5_lowest 10 = .ok (.lcmp, 1) := by decide +kernel
theorem dX5_lowest_11 : decode cX5_lowest 11 = .ok (.ifCond .ne 6, 3) := by decide +kernel
theorem dX5_lowest_14 : decode cX5_lowest 14 = .ok (.iload 4, 2) := by decide +kernel
theorem dX5_lowest_16 : decode cX5_lowest 16 = .ok (.ireturn, 1) := by decide +kernel
theorem dX5_lowest_17 : decode cX5_lowest 17 = .ok (.iload 4, 2) := by decide +kernel
theorem dX5_lowest_19 : decode cX5_lowest 19 = .ok (.ifCond .ne 7, 3) := by decide +kernel
theorem dX5_lowest_22 : decode cX5_lowest 22 = .ok (.lload_n 0, 1) := by decide +kernel
theorem dX5_lowest_23 : decode cX5_lowest 23 = .ok (.goto 4, 3) := by decide +kernel
theorem dX5_lowest_26 : decode cX5_lowest 26 = .ok (.lload_n 2, 1) := by decide +kernel
theorem dX5_lowest_27 : decode cX5_lowest 27 = .ok (.lload 5, 2) := by decide +kernel
theorem dX5_lowest_29 : decode cX5_lowest 29 = .ok (.ldiv, 1) := by decide +kernel
theorem dX5_lowest_30 : decode cX5_lowest 30 = .ok (.l2i, 1) := by decide +kernel
theorem dX5_lowest_31 : decode cX5_lowest 31 = .ok (.ireturn, 1) := by decide +kernel
theorem dX5_commonDivisor_0 : decode cX5_commonDivisor 0 = .ok (.lload_n 0, 1) := by decide +kernel
theorem dX5_commonDivisor_1 : decode cX5_commonDivisor 1 = .ok (.lstore 4, 2) := by decide +kernel
theorem dX5_commonDivisor_3 : decode cX5_commonDivisor 3 = .ok (.lload_n 2, 1) := by decide +kernel
theorem dX5_commonDivisor_4 : decode cX5_commonDivisor 4 = .ok (.lstore 6, 2) := by decide +kernel
theorem dX5_commonDivisor_6 : decode cX5_commonDivisor 6 = .ok (.iconst 0, 1) := by decide +kernel
theorem dX5_commonDivisor_7 : decode cX5_commonDivisor 7 = .ok (.istore 8, 2) := by decide +kernel
theorem dX5_commonDivisor_9 : decode cX5_commonDivisor 9 = .ok (.iload 8, 2) := by decide +kernel
theorem dX5_commonDivisor_11 : decode cX5_commonDivisor 11 = .ok (.bipush 100, 2) := by decide +kernel
theorem dX5_commonDivisor_13 : decode cX5_commonDivisor 13 = .ok (.if_icmp .ge 31, 3) := by decide +kernel
theorem dX5_commonDivisor_16 : decode cX5_commonDivisor 16 = .ok (.lload 6, 2) := by decide +kernel
theorem dX5_commonDivisor_18 : decode cX5_commonDivisor 18 = .ok (.lconst 0, 1) := by decide +kernel
theorem dX5_commonDivisor_19 : decode cX5_commonDivisor 19 = .ok (.lcmp, 1) := by decide +kernel
theorem dX5_commonDivisor_20 : decode cX5_commonDivisor 20 = .ok (.ifCond .eq 24, 3) := by decide +kernel
theorem dX5_commonDivisor_23 : decode cX5_commonDivisor 23 = .ok (.lload 4, 2) := by decide +kernel
theorem dX5_commonDivisor_25 : decode cX5_commonDivisor 25 = .ok (.lload 6, 2) := by decide +kernel
theorem dX5_commonDivisor_27 : decode cX5_commonDivisor 27 = .ok (.lrem, 1) := by decide +kernel
theorem dX5_commonDivisor_28 : decode cX5_commonDivisor 28 = .ok (.lstore 9, 2) := by decide +kernel
theorem dX5_commonDivisor_30 : decode cX5_commonDivisor 30 = .ok (.lload 6, 2) := by decide +kernel
theorem dX5_commonDivisor_32 : decode cX5_commonDivisor 32 = .ok (.lstore 4, 2) := by decide +kernel
theorem dX5_commonDivisor_34 : decode cX5_commonDivisor 34 = .ok (.lload 9, 2) := by decide +kernel
theorem dX5_commonDivisor_36 : decode cX5_commonDivisor 36 = .ok (.lstore 6, 2) := by decide +kernel
theorem dX5_commonDivisor_38 : decode cX5_commonDivisor 38 = .ok (.iinc 8 1, 3) := by decide +kernel
theorem dX5_commonDivisor_41 : decode cX5_commonDivisor 41 = .ok (.goto (-32), 3) := by decide +kernel
theorem dX5_commonDivisor_44 : decode cX5_commonDivisor 44 = .ok (.lload 4, 2) := by decide +kernel
theorem dX5_commonDivisor_46 : decode cX5_commonDivisor 46 = .ok (.lreturn, 1) := by decide +kernel
theorem dX5_floatBits_0 : decode cX5_floatBits 0 = .ok (.iload_n 0, 1) := by decide +kernel
theorem dX5_floatBits_1 : decode cX5_floatBits 1 = .ok (.ifCond .le 7, 3) := by decide +kernel
theorem dX5_floatBits_4 : decode cX5_floatBits 4 = .ok (.iload_n 1, 1) := by decide +kernel
theorem dX5_floatBits_5 : decode cX5_floatBits 5 = .ok (.ifCond .gt 5, 3) := by decide +kernel
theorem dX5_floatBits_8 : decode cX5_floatBits 8 = .ok (.iconst 0, 1) := by decide +kernel
theorem dX5_floatBits_9 : decode cX5_floatBits 9 = .ok (.ireturn, 1) := by decide +kernel
theorem dX5_floatBits_10 : decode cX5_floatBits 10 = .ok (.ldc 208, 2) := by decide +kernel
theorem dX5_floatBits_12 : decode cX5_floatBits 12 = .ok (.fstore_n 2, 1) := by decide +kernel
theorem dX5_floatBits_13 : decode cX5_floatBits 13 = .ok (.iload_n 0, 1) := by decide +kernel
theorem dX5_floatBits_14 : decode cX5_floatBits 14 = .ok (.i2f, 1) := by decide +kernel
theorem dX5_floatBits_15 : decode cX5_floatBits 15 = .ok (.iload_n 1, 1) := by decide +kernel
theorem dX5_floatBits_16 : decode cX5_floatBits 16 = .ok (.i2f, 1) := by decide +kernel
theorem dX5_floatBits_17 : decode cX5_floatBits 17 = .ok (.fdiv, 1) := by decide +kernel
theorem dX5_floatBits_18 : decode cX5_floatBits 18 = .ok (.fstore_n 3, 1) := by decide +kernel
theorem dX5_floatBits_19 : decode cX5_floatBits 19 = .ok (.sipush 150, 3) := by decide +kernel
theorem dX5_floatBits_22 : decode cX5_floatBits 22 = .ok (.istore 4, 2) := by decide +kernel
theorem dX5_floatBits_24 : decode cX5_floatBits 24 = .ok (.iconst 0, 1) := by decide +kernel
theorem dX5_floatBits_25 : decode cX5_floatBits 25 = .ok (.istore 5, 2) := by decide +kernel
theorem dX5_floatBits_27 : decode cX5_floatBits 27 = .ok (.iload 5, 2) := by decide +kernel
theorem dX5_floatBits_29 : decode cX5_floatBits 29 = .ok (.bipush 127, 2) := by decide +kernel
theorem dX5_floatBits_31 : decode cX5_floatBits 31 = .ok (.if_icmp .ge 22, 3) := by decide +kernel
theorem dX5_floatBits_34 : decode cX5_floatBits 34 = .ok (.fload_n 3, 1) := by decide +kernel
theorem dX5_floatBits_35 : decode cX5_floatBits 35 = .ok (.fload_n 2, 1) := by decide +kernel
theorem dX5_floatBits_36 : decode cX5_floatBits 36 = .ok (.fcmp .g, 1) := by decide +kernel
theorem dX5_floatBits_37 : decode cX5_floatBits 37 = .ok (.ifCond .ge 16, 3) := by decide +kernel
theorem dX5_floatBits_40 : decode cX5_floatBits 40 = .ok (.fload_n 3, 1) := by decide +kernel
theorem dX5_floatBits_41 : decode cX5_floatBits 41 = .ok (.fconst 2, 1) := by decide +kernel
theorem dX5_floatBits_42 : decode cX5_floatBits 42 = .ok (.fmul, 1) := by decide +kernel
theorem dX5_floatBits_43 : decode cX5_floatBits 43 = .ok (.fstore_n 3, 1) := by decide +kernel
theorem dX5_floatBits_44 : decode cX5_floatBits 44 = .ok (.iinc 4 (-1), 3) := by decide +kernel
theorem dX5_floatBits_47 : decode cX5_floatBits 47 = .ok (.iinc 5 1, 3) := by decide +kernel
theorem dX5_floatBits_50 : decode cX5_floatBits 50 = .ok (.goto (-23), 3) := by decide +kernel
theorem dX5_floatBits_53 : decode cX5_floatBits 53 = .ok (.iload 4, 2) := by decide +kernel
theorem dX5_floatBits_55 : decode cX5_floatBits 55 = .ok (.bipush 23, 2) := by decide +kernel
theorem dX5_floatBits_57 : decode cX5_floatBits 57 = .ok (.ishl, 1) := by decide +kernel
theorem dX5_floatBits_58 : decode cX5_floatBits 58 = .ok (.fload_n 3, 1) := by decide +kernel
theorem dX5_floatBits_59 : decode cX5_floatBits 59 = .ok (.fload_n 2, 1) := by decide +kernel
theorem dX5_floatBits_60 : decode cX5_floatBits 60 = .ok (.fsub, 1) := by decide +kernel
theorem dX5_floatBits_61 : decode cX5_floatBits 61 = .ok (.f2i, 1) := by decide +kernel
theorem dX5_floatBits_62 : decode cX5_floatBits 62 = .ok (.iadd, 1) := by decide +kernel
theorem dX5_floatBits_63 : decode cX5_floatBits 63 = .ok (.ireturn, 1) := by decide +kernel
theorem dX5_isHalf_0 : decode cX5_isHalf 0 = .ok (.iload_n 0, 1) := by decide +kernel
theorem dX5_isHalf_1 : decode cX5_isHalf 1 = .ok (.iconst 3, 1) := by decide +kernel
theorem dX5_isHalf_2 : decode cX5_isHalf 2 = .ok (.if_icmp .eq 8, 3) := by decide +kernel
theorem dX5_isHalf_5 : decode cX5_isHalf 5 = .ok (.iload_n 0, 1) := by decide +kernel
theorem dX5_isHalf_6 : decode cX5_isHalf 6 = .ok (.iconst 4, 1) := by decide +kernel
theorem dX5_isHalf_7 : decode cX5_isHalf 7 = .ok (.if_icmp .ne 7, 3) := by decide +kernel
theorem dX5_isHalf_10 : decode cX5_isHalf 10 = .ok (.iconst 1, 1) := by decide +kernel
theorem dX5_isHalf_11 : decode cX5_isHalf 11 = .ok (.goto 4, 3) := by decide +kernel
theorem dX5_isHalf_14 : decode cX5_isHalf 14 = .ok (.iconst 0, 1) := by decide +kernel
theorem dX5_isHalf_15 : decode cX5_isHalf 15 = .ok (.ireturn, 1) := by decide +kernel
set_option maxRecDepth 20000 in
theorem ggX5_letsOn_X5_isHalf : GoodIn wsX5_letsOn wsX5_isHalf := goodIn_r _ [4] (by decide +kernel) (by decide +kernel)
set_option maxRecDepth 20000 in
theorem gX5_letsOn_X5_isHalf : GoodIn wsX5_letsOn (va_wsS RX5 209 yX5_isHalf wsX5_isHalf) := goodIn_app (goodIn_of _ (by decide +kernel)) ggX5_letsOn_X5_isHalf
theorem dX5_letsOn_0 : decode cX5_letsOn 0 = .ok (.iload_n 0, 1) := by decide +kernel
theorem dX5_letsOn_1 : decode cX5_letsOn 1 = .ok (.ifCond .eq 16, 3) := by decide +kernel
theorem dX5_letsOn_4 : decode cX5_letsOn 4 = .ok (.iload_n 0, 1) := by decide +kernel
theorem dX5_letsOn_5 : decode cX5_letsOn 5 = .ok (.bipush 6, 2) := by decide +kernel
theorem dX5_letsOn_7 : decode cX5_letsOn 7 = .ok (.if_icmp .eq 10, 3) := by decide +kernel
theorem dX5_letsOn_10 : decode cX5_letsOn 10 = .ok (.iload_n 0, 1) := by decide +kernel
theorem dX5_letsOn_11 : decode cX5_letsOn 11 = .ok (.invokestatic 209, 3) := by decide +kernel
theorem dX5_letsOn_14 : decode cX5_letsOn 14 = .ok (.ifCond .eq 7, 3) := by decide +kernel
theorem dX5_letsOn_17 : decode cX5_letsOn 17 = .ok (.iconst 1, 1) := by decide +kernel
theorem dX5_letsOn_18 : decode cX5_letsOn 18 = .ok (.goto 4, 3) := by decide +kernel
theorem dX5_letsOn_21 : decode cX5_letsOn 21 = .ok (.iconst 0, 1) := by decide +kernel
theorem dX5_letsOn_22 : decode cX5_letsOn 22 = .ok (.ireturn, 1) := by decide +kernel
set_option maxRecDepth 20000 in
theorem ggX5_turnsBeam_X5_isHalf : GoodIn wsX5_turnsBeam wsX5_isHalf := goodIn_r _ [4] (by decide +kernel) (by decide +kernel)
set_option maxRecDepth 20000 in
theorem gX5_turnsBeam_X5_isHalf : GoodIn wsX5_turnsBeam (va_wsS RX5 209 yX5_isHalf wsX5_isHalf) := goodIn_app (goodIn_of _ (by decide +kernel)) ggX5_turnsBeam_X5_isHalf
theorem dX5_turnsBeam_0 : decode cX5_turnsBeam 0 = .ok (.iload_n 0, 1) := by decide +kernel
theorem dX5_turnsBeam_1 : decode cX5_turnsBeam 1 = .ok (.iconst 1, 1) := by decide +kernel
theorem dX5_turnsBeam_2 : decode cX5_turnsBeam 2 = .ok (.if_icmp .eq 15, 3) := by decide +kernel
theorem dX5_turnsBeam_5 : decode cX5_turnsBeam 5 = .ok (.iload_n 0, 1) := by decide +kernel
theorem dX5_turnsBeam_6 : decode cX5_turnsBeam 6 = .ok (.iconst 2, 1) := by decide +kernel
theorem dX5_turnsBeam_7 : decode cX5_turnsBeam 7 = .ok (.if_icmp .eq 10, 3) := by decide +kernel
theorem dX5_turnsBeam_10 : decode cX5_turnsBeam 10 = .ok (.iload_n 0, 1) := by decide +kernel
theorem dX5_turnsBeam_11 : decode cX5_turnsBeam 11 = .ok (.invokestatic 209, 3) := by decide +kernel
theorem dX5_turnsBeam_14 : decode cX5_turnsBeam 14 = .ok (.ifCond .eq 7, 3) := by decide +kernel
theorem dX5_turnsBeam_17 : decode cX5_turnsBeam 17 = .ok (.iconst 1, 1) := by decide +kernel
theorem dX5_turnsBeam_18 : decode cX5_turnsBeam 18 = .ok (.goto 4, 3) := by decide +kernel
theorem dX5_turnsBeam_21 : decode cX5_turnsBeam 21 = .ok (.iconst 0, 1) := by decide +kernel
theorem dX5_turnsBeam_22 : decode cX5_turnsBeam 22 = .ok (.ireturn, 1) := by decide +kernel
theorem dX5_turnedBy_0 : decode cX5_turnedBy 0 = .ok (.iload_n 0, 1) := by decide +kernel
theorem dX5_turnedBy_1 : decode cX5_turnedBy 1 = .ok (.iconst 1, 1) := by decide +kernel
theorem dX5_turnedBy_2 : decode cX5_turnedBy 2 = .ok (.if_icmp .eq 8, 3) := by decide +kernel
theorem dX5_turnedBy_5 : decode cX5_turnedBy 5 = .ok (.iload_n 0, 1) := by decide +kernel
theorem dX5_turnedBy_6 : decode cX5_turnedBy 6 = .ok (.iconst 3, 1) := by decide +kernel
theorem dX5_turnedBy_7 : decode cX5_turnedBy 7 = .ok (.if_icmp .ne 7, 3) := by decide +kernel
theorem dX5_turnedBy_10 : decode cX5_turnedBy 10 = .ok (.iconst 1, 1) := by decide +kernel
theorem dX5_turnedBy_11 : decode cX5_turnedBy 11 = .ok (.goto 4, 3) := by decide +kernel
theorem dX5_turnedBy_14 : decode cX5_turnedBy 14 = .ok (.iconst 0, 1) := by decide +kernel
theorem dX5_turnedBy_15 : decode cX5_turnedBy 15 = .ok (.istore_n 2, 1) := by decide +kernel
theorem dX5_turnedBy_16 : decode cX5_turnedBy 16 = .ok (.iload_n 2, 1) := by decide +kernel
theorem dX5_turnedBy_17 : decode cX5_turnedBy 17 = .ok (.ifCond .eq 9, 3) := by decide +kernel
theorem dX5_turnedBy_20 : decode cX5_turnedBy 20 = .ok (.iload_n 1, 1) := by decide +kernel
theorem dX5_turnedBy_21 : decode cX5_turnedBy 21 = .ok (.iconst 1, 1) := by decide +kernel
theorem dX5_turnedBy_22 : decode cX5_turnedBy 22 = .ok (.ixor, 1) := by decide +kernel
theorem dX5_turnedBy_23 : decode cX5_turnedBy 23 = .ok (.goto 6, 3) := by decide +kernel
theorem dX5_turnedBy_26 : decode cX5_turnedBy 26 = .ok (.iconst 3, 1) := by decide +kernel
theorem dX5_turnedBy_27 : decode cX5_turnedBy 27 = .ok (.iload_n 1, 1) := by decide +kernel
theorem dX5_turnedBy_28 : decode cX5_turnedBy 28 = .ok (.isub, 1) := by decide +kernel
theorem dX5_turnedBy_29 : decode cX5_turnedBy 29 = .ok (.ireturn, 1) := by decide +kernel
theorem dX6_init_0 : decode cX6_init 0 = .ok (.aload_n 0, 1) := by decide +kernel
theorem dX6_init_1 : decode cX6_init 1 = .ok (.invokespecial 1, 3) := by decide +kernel
theorem dX6_init_4 : decode cX6_init 4 = .ok (.aload_n 0, 1) := by decide +kernel
theorem dX6_init_5 : decode cX6_init 5 = .ok (.bipush 22, 2) := by decide +kernel
theorem dX6_init_7 : decode cX6_init 7 = .ok (.newarray .int, 2) := by decide +kernel
theorem dX6_init_9 : decode cX6_init 9 = .ok (.putfield 7, 3) := by decide +kernel
theorem dX6_init_12 : decode cX6_init 12 = .ok (.aload_n 0, 1) := by decide +kernel
theorem dX6_init_13 : decode cX6_init 13 = .ok (.bipush 22, 2) := by decide +kernel
theorem dX6_init_15 : decode cX6_init 15 = .ok (.newarray .int, 2) := by decide +kernel
theorem dX6_init_17 : decode cX6_init 17 = .ok (.putfield 13, 3) := by decide +kernel
theorem dX6_init_20 : decode cX6_init 20 = .ok (.aload_n 0, 1) := by decide +kernel
theorem dX6_init_21 : decode cX6_init 21 = .ok (.bipush 22, 2) := by decide +kernel
theorem dX6_init_23 : decode cX6_init 23 = .ok (.newarray .int, 2) := by decide +kernel
theorem dX6_init_25 : decode cX6_init 25 = .ok (.putfield 16, 3) := by decide +kernel
theorem dX6_init_28 : decode cX6_init 28 = .ok (.aload_n 0, 1) := by decide +kernel
theorem dX6_init_29 : decode cX6_init 29 = .ok (.bipush 88, 2) := by decide +kernel
theorem dX6_init_31 : decode cX6_init 31 = .ok (.newarray .int, 2) := by decide +kernel
theorem dX6_init_33 : decode cX6_init 33 = .ok (.putfield 19, 3) := by decide +kernel
theorem dX6_init_36 : decode cX6_init 36 = .ok (.aload_n 0, 1) := by decide +kernel
theorem dX6_init_37 : decode cX6_init 37 = .ok (.bipush 60, 2) := by decide +kernel
theorem dX6_init_39 : decode cX6_init 39 = .ok (.newarray .int, 2) := by decide +kernel
theorem dX6_init_41 : decode cX6_init 41 = .ok (.putfield 22, 3) := by decide +kernel
theorem dX6_init_44 : decode cX6_init 44 = .ok (.aload_n 0, 1) := by decide +kernel
theorem dX6_init_45 : decode cX6_init 45 = .ok (.bipush 20, 2) := by decide +kernel
theorem dX6_init_47 : decode cX6_init 47 = .ok (.newarray .int, 2) := by decide +kernel
theorem dX6_init_49 : decode cX6_init 49 = .ok (.putfield 25, 3) := by decide +kernel
theorem dX6_init_52 : decode cX6_init 52 = .ok (.aload_n 0, 1) := by decide +kernel
theorem dX6_init_53 : decode cX6_init 53 = .ok (.bipush 40, 2) := by decide +kernel
theorem dX6_init_55 : decode cX6_init 55 = .ok (.newarray .int, 2) := by decide +kernel
theorem dX6_init_57 : decode cX6_init 57 = .ok (.putfield 28, 3) := by decide +kernel
theorem dX6_init_60 : decode cX6_init 60 = .ok (.aload_n 0, 1) := by decide +kernel
theorem dX6_init_61 : decode cX6_init 61 = .ok (.bipush 20, 2) := by decide +kernel
theorem dX6_init_63 : decode cX6_init 63 = .ok (.newarray .boolean, 2) := by decide +kernel
theorem dX6_init_65 : decode cX6_init 65 = .ok (.putfield 31, 3) := by decide +kernel
theorem dX6_init_68 : decode cX6_init 68 = .ok (.aload_n 0, 1) := by decide +kernel
theorem dX6_init_69 : decode cX6_init 69 = .ok (.bipush 80, 2) := by decide +kernel
theorem dX6_init_71 : decode cX6_init 71 = .ok (.newarray .int, 2) := by decide +kernel
theorem dX6_init_73 : decode cX6_init 73 = .ok (.putfield 35, 3) := by decide +kernel
theorem dX6_init_76 : decode cX6_init 76 = .ok (.aload_n 0, 1) := by decide +kernel
theorem dX6_init_77 : decode cX6_init 77 = .ok (.sipush 420, 3) := by decide +kernel
theorem dX6_init_80 : decode cX6_init 80 = .ok (.newarray .long, 2) := by decide +kernel
theorem dX6_init_82 : decode cX6_init 82 = .ok (.putfield 38, 3) := by decide +kernel
theorem dX6_init_85 : decode cX6_init 85 = .ok (.aload_n 0, 1) := by decide +kernel
theorem dX6_init_86 : decode cX6_init 86 = .ok (.bipush 80, 2) := by decide +kernel
theorem dX6_init_88 : decode cX6_init 88 = .ok (.newarray .int, 2) := by decide +kernel
theorem dX6_init_90 : decode cX6_init 90 = .ok (.putfield 42, 3) := by decide +kernel
theorem dX6_init_93 : decode cX6_init 93 = .ok (.aload_n 0, 1) := by decide +kernel
theorem dX6_init_94 : decode cX6_init 94 = .ok (.bipush 80, 2) := by decide +kernel
theorem dX6_init_96 : decode cX6_init 96 = .ok (.newarray .int, 2) := by decide +kernel
theorem dX6_init_98 : decode cX6_init 98 = .ok (.putfield 45, 3) := by decide +kernel
theorem dX6_init_101 : decode cX6_init 101 = .ok (.aload_n 0, 1) := by decide +kernel
theorem dX6_init_102 : decode cX6_init 102 = .ok (.getfield 7, 3) := by decide +kernel
theorem dX6_init_105 : decode cX6_init 105 = .ok (.iconst 0, 1) := by decide +kernel
theorem dX6_init_106 : decode cX6_init 106 = .ok (.iconst 4, 1) := by decide +kernel
theorem dX6_init_107 : decode cX6_init 107 = .ok (.iastore, 1) := by decide +kernel
theorem dX6_init_108 : decode cX6_init 108 = .ok (.aload_n 0, 1) := by decide +kernel
theorem dX6_init_109 : decode cX6_init 109 = .ok (.getfield 7, 3) := by decide +kernel
theorem dX6_init_112 : decode cX6_init 112 = .ok (.iconst 1, 1) := by decide +kernel
theorem dX6_init_113 : decode cX6_init 113 = .ok (.iconst 3, 1) := by decide +kernel
theorem dX6_init_114 : decode cX6_init 114 = .ok (.iastore, 1) := by decide +kernel
theorem dX6_init_115 : decode cX6_init 115 = .ok (.aload_n 0, 1) := by decide +kernel
theorem dX6_init_116 : decode cX6_init 116 = .ok (.getfield 7, 3) := by decide +kernel
theorem dX6_init_119 : decode cX6_init 119 = .ok (.iconst 3, 1) := by decide +kernel
theorem dX6_init_120 : decode cX6_init 120 = .ok (.iconst 3, 1) := by decide +kernel
theorem dX6_init_121 : decode cX6_init 121 = .ok (.iastore, 1) := by decide +kernel
theorem dX6_init_122 : decode cX6_init 122 = .ok (.aload_n 0, 1) := by decide +kernel
theorem dX6_init_123 : decode cX6_init 123 = .ok (.getfield 7, 3) := by decide +kernel
theorem dX6_init_126 : decode cX6_init 126 = .ok (.iconst 4, 1) := by decide +kernel
theorem dX6_init_127 : decode cX6_init 127 = .ok (.iconst 1, 1) := by decide +kernel
theorem dX6_init_128 : decode cX6_init 128 = .ok (.iastore, 1) := by decide +kernel
theorem dX6_init_129 : decode cX6_init 129 = .ok (.aload_n 0, 1) := by decide +kernel
theorem dX6_init_130 : decode cX6_init 130 = .ok (.getfield 7, 3) := by decide +kernel
theorem dX6_init_133 : decode cX6_init 133 = .ok (.bipush 6, 2) := by decide +kernel
theorem dX6_init_135 : decode cX6_init 135 = .ok (.iconst 4, 1) := by decide +kernel
theorem dX6_init_136 : decode cX6_init 136 = .ok (.iastore, 1) := by decide +kernel
theorem dX6_init_137 : decode cX6_init 137 = .ok (.aload_n 0, 1) := by decide +kernel
theorem dX6_init_138 : decode cX6_init 138 = .ok (.getfield 7, 3) := by decide +kernel
theorem dX6_init_141 : decode cX6_init 141 = .ok (.bipush 8, 2) := by decide +kernel
theorem dX6_init_143 : decode cX6_init 143 = .ok (.bipush 7, 2) := by decide +kernel
theorem dX6_init_145 : decode cX6_init 145 = .ok (.iastore, 1) := by decide +kernel
theorem dX6_init_146 : decode cX6_init 146 = .ok (.aload_n 0, 1) := by decide +kernel
theorem dX6_init_147 : decode cX6_init 147 = .ok (.getfield 7, 3) := by decide +kernel
theorem dX6_init_150 : decode cX6_init 150 = .ok (.bipush 9, 2) := by decide +kernel
theorem dX6_init_152 : decode cX6_init 152 = .ok (.iconst 3, 1) := by decide +kernel
theorem dX6_init_153 : decode cX6_init 153 = .ok (.iastore, 1) := by decide +kernel
theorem dX6_init_154 : decode cX6_init 154 = .ok (.aload_n 0, 1) := by decide +kernel
theorem dX6_init_155 : decode cX6_init 155 = .ok (.getfield 7, 3) := by decide +kernel
theorem dX6_init_158 : decode cX6_init 158 = .ok (.bipush 10, 2) := by decide +kernel
theorem dX6_init_160 : decode cX6_init 160 = .ok (.iconst 2, 1) := by decide +kernel
theorem dX6_init_161 : decode cX6_init 161 = .ok (.iastore, 1) := by decide +kernel
theorem dX6_init_162 : decode cX6_init 162 = .ok (.aload_n 0, 1) := by decide +kernel
theorem dX6_init_163 : decode cX6_init 163 = .ok (.getfield 7, 3) := by decide +kernel
theorem dX6_init_166 : decode cX6_init 166 = .ok (.bipush 11, 2) := by decide +kernel
theorem dX6_init_168 : decode cX6_init 168 = .ok (.iconst 3, 1) := by decide +kernel
theorem dX6_init_169 : decode cX6_init 169 = .ok (.iastore, 1) := by decide +kernel
theorem dX6_init_170 : decode cX6_init 170 = .ok (.aload_n 0, 1) := by decide +kernel
theorem dX6_init_171 : decode cX6_init 171 = .ok (.getfield 7, 3) := by decide +kernel
theorem dX6_init_174 : decode cX6_init 174 = .ok (.bipush 13, 2) := by decide +kernel
theorem dX6_init_176 : decode cX6_init 176 = .ok (.iconst 2, 1) := by decide +kernel
theorem dX6_init_177 : decode cX6_init 177 = .ok (.iastore, 1) := by decide +kernel
theorem dX6_init_178 : decode cX6_init 178 = .ok (.return_, 1) := by decide +kernel
theorem dX6_in_0 : decode cX6_in 0 = .ok (.iload_n 0, 1) := by decide +kernel
theorem dX6_in_1 : decode cX6_in 1 = .ok (.iload_n 1, 1) := by decide +kernel
theorem dX6_in_2 : decode cX6_in 2 = .ok (.if_icmp .lt 12, 3) := by decide +kernel
theorem dX6_in_5 : decode cX6_in 5 = .ok (.iload_n 0, 1) := by decide +kernel
theorem dX6_in_6 : decode cX6_in 6 = .ok (.iload_n 2, 1) := by decide +kernel
theorem dX6_in_7 : decode cX6_in 7 = .ok (.if_icmp .gt 7, 3) := by decide +kernel
theorem dX6_in_10 : decode cX6_in 10 = .ok (.iconst 1, 1) := by decide +kernel
theorem dX6_in_11 : decode cX6_in 11 = .ok (.goto 4, 3) := by decide +kernel
theorem dX6_in_14 : decode cX6_in 14 = .ok (.iconst 0, 1) := by decide +kernel
theorem dX6_in_15 : decode cX6_in 15 = .ok (.ireturn, 1) := by decide +kernel
theorem dX6_copies_0 : decode cX6_copies 0 = .ok (.iconst 0, 1) := by decide +kernel
theorem dX6_copies_1 : decode cX6_copies 1 = .ok (.istore 4, 2) := by decide +kernel
theorem dX6_copies_3 : decode cX6_copies 3 = .ok (.iload 4, 2) := by decide +kernel
theorem dX6_copies_5 : decode cX6_copies 5 = .ok (.bipush 22, 2) := by decide +kernel
theorem dX6_copies_7 : decode cX6_copies 7 = .ok (.if_icmp .ge 21, 3) := by decide +kernel
theorem dX6_copies_10 : decode cX6_copies 10 = .ok (.aload_n 2, 1) := by decide +kernel
theorem dX6_copies_11 : decode cX6_copies 11 = .ok (.iload_n 3, 1) := by decide +kernel
theorem dX6_copies_12 : decode cX6_copies 12 = .ok (.iload 4, 2) := by decide +kernel
theorem dX6_copies_14 : decode cX6_copies 14 = .ok (.iadd, 1) := by decide +kernel
theorem dX6_copies_15 : decode cX6_copies 15 = .ok (.aload_n 0, 1) := by decide +kernel
theorem dX6_copies_16 : decode cX6_copies 16 = .ok (.iload_n 1, 1) := by decide +kernel
theorem dX6_copies_17 : decode cX6_copies 17 = .ok (.iload 4, 2) := by decide +kernel
theorem dX6_copies_19 : decode cX6_copies 19 = .ok (.iadd, 1) := by decide +kernel
theorem dX6_copies_20 : decode cX6_copies 20 = .ok (.iaload, 1) := by decide +kernel
theorem dX6_copies_21 : decode cX6_copies 21 = .ok (.iastore, 1) := by decide +kernel
theorem dX6_copies_22 : decode cX6_copies 22 = .ok (.iinc 4 1, 3) := by decide +kernel
theorem dX6_copies_25 : decode cX6_copies 25 = .ok (.goto (-22), 3) := by decide +kernel
theorem dX6_copies_28 : decode cX6_copies 28 = .ok (.return_, 1) := by decide +kernel
theorem dX6_cells_0 : decode cX6_cells 0 = .ok (.aload_n 0, 1) := by decide +kernel
theorem dX6_cells_1 : decode cX6_cells 1 = .ok (.iconst 0, 1) := by decide +kernel
theorem dX6_cells_2 : decode cX6_cells 2 = .ok (.iaload, 1) := by decide +kernel
theorem dX6_cells_3 : decode cX6_cells 3 = .ok (.aload_n 0, 1) := by decide +kernel
theorem dX6_cells_4 : decode cX6_cells 4 = .ok (.iconst 1, 1) := by decide +kernel
theorem dX6_cells_5 : decode cX6_cells 5 = .ok (.iaload, 1) := by decide +kernel
theorem dX6_cells_6 : decode cX6_cells 6 = .ok (.imul, 1) := by decide +kernel
theorem dX6_cells_7 : decode cX6_cells 7 = .ok (.ireturn, 1) := by decide +kernel
set_option maxRecDepth 20000 in
theorem ggX6_isHalf_X6_in : GoodIn wsX6_isHalf wsX6_in := goodIn_r _ [4] (by decide +kernel) (by decide +kernel)
set_option maxRecDepth 20000 in
theorem gX6_isHalf_X6_in : GoodIn wsX6_isHalf (va_wsS RX6 48 yX6_in wsX6_in) := goodIn_app (goodIn_of _ (by decide +kernel)) ggX6_isHalf_X6_in
theorem dX6_isHalf_0 : decode cX6_isHalf 0 = .ok (.iload_n 0, 1) := by decide +kernel
theorem dX6_isHalf_1 : decode cX6_isHalf 1 = .ok (.iconst 3, 1) := by decide +kernel
theorem dX6_isHalf_2 : decode cX6_isHalf 2 = .ok (.iconst 4, 1) := by decide +kernel
theorem dX6_isHalf_3 : decode cX6_isHalf 3 = .ok (.invokestatic 48, 3) := by decide +kernel
theorem dX6_isHalf_6 : decode cX6_isHalf 6 = .ok (.ireturn, 1) := by decide +kernel
set_option maxRecDepth 20000 in
theorem ggX6_isDoor_X6_in : GoodIn wsX6_isDoor wsX6_in := goodIn_r _ [4] (by decide +kernel) (by decide +kernel)
set_option maxRecDepth 20000 in
theorem gX6_isDoor_X6_in : GoodIn wsX6_isDoor (va_wsS RX6 48 yX6_in wsX6_in) := goodIn_app (goodIn_of _ (by decide +kernel)) ggX6_isDoor_X6_in
theorem dX6_isDoor_0 : decode cX6_isDoor 0 = .ok (.iload_n 0, 1) := by decide +kernel
theorem dX6_isDoor_1 : decode cX6_isDoor 1 = .ok (.bipush 6, 2) := by decide +kernel
theorem dX6_isDoor_3 : decode cX6_isDoor 3 = .ok (.bipush 7, 2) := by decide +kernel
theorem dX6_isDoor_5 : decode cX6_isDoor 5 = .ok (.invokestatic 48, 3) := by decide +kernel
theorem dX6_isDoor_8 : decode cX6_isDoor 8 = .ok (.ireturn, 1) := by decide +kernel
set_option maxRecDepth 20000 in
theorem ggX6_halves_X6_cells : GoodIn wsX6_halves wsX6_cells := goodIn_r _ [4] (by decide +kernel) (by decide +kernel)
set_option maxRecDepth 20000 in
theorem gX6_halves_X6_cells : GoodIn wsX6_halves (va_wsS RX6 52 yX6_cells wsX6_cells) := goodIn_app (goodIn_of _ (by decide +kernel)) ggX6_halves_X6_cells
set_option maxRecDepth 20000 in
theorem ggX6_halves_X6_isHalf : GoodIn wsX6_halves wsX6_isHalf := goodIn_r _ [7, 8, 9, 3, 10] (by decide +kernel) (by decide +kernel)
set_option maxRecDepth 20000 in
theorem gX6_halves_X6_isHalf : GoodIn wsX6_halves (va_wsS RX6 56 yX6_isHalf wsX6_isHalf) := goodIn_app (goodIn_of _ (by decide +kernel)) ggX6_halves_X6_isHalf
theorem dX6_halves_0 : decode cX6_halves 0 = .ok (.iconst 0, 1) := by decide +kernel
theorem dX6_halves_1 : decode cX6_halves 1 = .ok (.istore_n 1, 1) := by decide +kernel
theorem dX6_halves_2 : decode cX6_halves 2 = .ok (.iconst 0, 1) := by decide +kernel
theorem dX6_halves_3 : decode cX6_halves 3 = .ok (.istore_n 2, 1) := by decide +kernel
theorem dX6_halves_4 : decode cX6_halves 4 = .ok (.iload_n 2, 1) := by decide +kernel
theorem dX6_halves_5 : decode cX6_halves 5 = .ok (.aload_n 0, 1) := by decide +kernel
theorem dX6_halves_6 : decode cX6_halves 6 = .ok (.invokestatic 52, 3) := by decide +kernel
theorem dX6_halves_9 : decode cX6_halves 9 = .ok (.if_icmp .ge 28, 3) := by decide +kernel
theorem dX6_halves_12 : decode cX6_halves 12 = .ok (.iload_n 1, 1) := by decide +kernel
theorem dX6_halves_13 : decode cX6_halves 13 = .ok (.aload_n 0, 1) := by decide +kernel
theorem dX6_halves_14 : decode cX6_halves 14 = .ok (.iconst 2, 1) := by decide +kernel
theorem dX6_halves_15 : decode cX6_halves 15 = .ok (.iload_n 2, 1) := by decide +kernel
theorem dX6_halves_16 : decode cX6_halves 16 = .ok (.iadd, 1) := by decide +kernel
theorem dX6_halves_17 : decode cX6_halves 17 = .ok (.iaload, 1) := by decide +kernel
theorem dX6_halves_18 : decode cX6_halves 18 = .ok (.invokestatic 56, 3) := by decide +kernel
theorem dX6_halves_21 : decode cX6_halves 21 = .ok (.ifCond .eq 7, 3) := by decide +kernel
theorem dX6_halves_24 : decode cX6_halves 24 = .ok (.iconst 1, 1) := by decide +kernel
theorem dX6_halves_25 : decode cX6_halves 25 = .ok (.goto 4, 3) := by decide +kernel
theorem dX6_halves_28 : decode cX6_halves 28 = .ok (.iconst 0, 1) := by decide +kernel
theorem dX6_halves_29 : decode cX6_halves 29 = .ok (.iadd, 1) := by decide +kernel
theorem dX6_halves_30 : decode cX6_halves 30 = .ok (.istore_n 1, 1) := by decide +kernel
theorem dX6_halves_31 : decode cX6_halves 31 = .ok (.iinc 2 1, 3) := by decide +kernel
theorem dX6_halves_34 : decode cX6_halves 34 = .ok (.goto (-30), 3) := by decide +kernel
theorem dX6_halves_37 : decode cX6_halves 37 = .ok (.iload_n 1, 1) := by decide +kernel
theorem dX6_halves_38 : decode cX6_halves 38 = .ok (.ireturn, 1) := by decide +kernel
set_option maxRecDepth 20000 in
theorem ggX6_doors_X6_cells : GoodIn wsX6_doors wsX6_cells := goodIn_r _ [4] (by decide +kernel) (by decide +kernel)
set_option maxRecDepth 20000 in
theorem gX6_doors_X6_cells : GoodIn wsX6_doors (va_wsS RX6 52 yX6_cells wsX6_cells) := goodIn_app (goodIn_of _ (by decide +kernel)) ggX6_doors_X6_cells
set_option maxRecDepth 20000 in
theorem ggX6_doors_X6_isDoor : GoodIn wsX6_doors wsX6_isDoor := goodIn_r _ [7, 8, 9, 3, 10] (by decide +kernel) (by decide +kernel)
set_option maxRecDepth 20000 in
theorem gX6_doors_X6_isDoor : GoodIn wsX6_doors (va_wsS RX6 60 yX6_isDoor wsX6_isDoor) := goodIn_app (goodIn_of _ (by decide +kernel)) ggX6_doors_X6_isDoor
theorem dX6_doors_0 : decode cX6_doors 0 = .ok (.iconst 0, 1) := by decide +kernel
theorem dX6_doors_1 : decode cX6_doors 1 = .ok (.istore_n 1, 1) := by decide +kernel
theorem dX6_doors_2 : decode cX6_doors 2 = .ok (.iconst 0, 1) := by decide +kernel
theorem dX6_doors_3 : decode cX6_doors 3 = .ok (.istore_n 2, 1) := by decide +kernel
theorem dX6_doors_4 : decode cX6_doors 4 = .ok (.iload_n 2, 1) := by decide +kernel
theorem dX6_doors_5 : decode cX6_doors 5 = .ok (.aload_n 0, 1) := by decide +kernel
theorem dX6_doors_6 : decode cX6_doors 6 = .ok (.invokestatic 52, 3) := by decide +kernel
theorem dX6_doors_9 : decode cX6_doors 9 = .ok (.if_icmp .ge 28, 3) := by decide +kernel
theorem dX6_doors_12 : decode cX6_doors 12 = .ok (.iload_n 1, 1) := by decide +kernel
theorem dX6_doors_13 : decode cX6_doors 13 = .ok (.aload_n 0, 1) := by decide +kernel
theorem dX6_doors_14 : decode cX6_doors 14 = .ok (.iconst 2, 1) := by decide +kernel
theorem dX6_doors_15 : decode cX6_doors 15 = .ok (.iload_n 2, 1) := by decide +kernel
theorem dX6_doors_16 : decode cX6_doors 16 = .ok (.iadd, 1) := by decide +kernel
theorem dX6_doors_17 : decode cX6_doors 17 = .ok (.iaload, 1) := by decide +kernel
theorem dX6_doors_18 : decode cX6_doors 18 = .ok (.invokestatic 60, 3) := by decide +kernel
theorem dX6_doors_21 : decode cX6_doors 21 = .ok (.ifCond .eq 7, 3) := by decide +kernel
theorem dX6_doors_24 : decode cX6_doors 24 = .ok (.iconst 1, 1) := by decide +kernel
theorem dX6_doors_25 : decode cX6_doors 25 = .ok (.goto 4, 3) := by decide +kernel
theorem dX6_doors_28 : decode cX6_doors 28 = .ok (.iconst 0, 1) := by decide +kernel
theorem dX6_doors_29 : decode cX6_doors 29 = .ok (.iadd, 1) := by decide +kernel
theorem dX6_doors_30 : decode cX6_doors 30 = .ok (.istore_n 1, 1) := by decide +kernel
theorem dX6_doors_31 : decode cX6_doors 31 = .ok (.iinc 2 1, 3) := by decide +kernel
theorem dX6_doors_34 : decode cX6_doors 34 = .ok (.goto (-30), 3) := by decide +kernel
theorem dX6_doors_37 : decode cX6_doors 37 = .ok (.iload_n 1, 1) := by decide +kernel
theorem dX6_doors_38 : decode cX6_doors 38 = .ok (.ireturn, 1) := by decide +kernel
theorem dX6_kindOf_0 : decode cX6_kindOf 0 = .ok (.iload_n 0, 1) := by decide +kernel
theorem dX6_kindOf_1 : decode cX6_kindOf 1 = .ok (.lookupswitch 93 #[(35, 85), (46, 75), (47, 77), (92, 79), (98, 83), (102, 81), (111, 87), (120, 90)], 75) := by decide +kernel
theorem dX6_kindOf_76 : decode cX6_kindOf 76 = .ok (.iconst 0, 1) := by decide +kernel
theorem dX6_kindOf_77 : decode cX6_kindOf 77 = .ok (.ireturn, 1) := by decide +kernel
theorem dX6_kindOf_78 : decode cX6_kindOf 78 = .ok (.iconst 1, 1) := by decide +kernel
theorem dX6_kindOf_79 : decode cX6_kindOf 79 = .ok (.ireturn, 1) := by decide +kernel
theorem dX6_kindOf_80 : decode cX6_kindOf 80 = .ok (.iconst 2, 1) := by decide +kernel
theorem dX6_kindOf_81 : decode cX6_kindOf 81 = .ok (.ireturn, 1) := by decide +kernel
theorem dX6_kindOf_82 : decode cX6_kindOf 82 = .ok (.iconst 3, 1) := by decide +kernel
theorem dX6_kindOf_83 : decode cX6_kindOf 83 = .ok (.ireturn, 1) := by decide +kernel
theorem dX6_kindOf_84 : decode cX6_kindOf 84 = .ok (.iconst 4, 1) := by decide +kernel
theorem dX6_kindOf_85 : decode cX6_kindOf 85 = .ok (.ireturn, 1) := by decide +kernel
theorem dX6_kindOf_86 : decode cX6_kindOf 86 = .ok (.iconst 5, 1) := by decide +kernel
theorem dX6_kindOf_87 : decode cX6_kindOf 87 = .ok (.ireturn, 1) := by decide +kernel
theorem dX6_kindOf_88 : decode cX6_kindOf 88 = .ok (.bipush 6, 2) := by decide +kernel
theorem dX6_kindOf_90 : decode cX6_kindOf 90 = .ok (.ireturn, 1) := by decide +kernel
theorem dX6_kindOf_91 : decode cX6_kindOf 91 = .ok (.bipush 7, 2) := by decide +kernel
theorem dX6_kindOf_93 : decode cX6_kindOf 93 = .ok (.ireturn, 1) := by decide +kernel
theorem dX6_kindOf_94 : decode cX6_kindOf 94 = .ok (.bipush (-4), 2) := by decide +kernel
theorem dX6_kindOf_96 : decode cX6_kindOf 96 = .ok (.ireturn, 1) := by decide +kernel
set_option maxRecDepth 20000 in
theorem ggX6_takesRow_X6_kindOf : GoodIn wsX6_takesRow wsX6_kindOf := goodIn_r _ [8] (by decide +kernel) (by decide +kernel)
set_option maxRecDepth 20000 in
theorem gX6_takesRow_X6_kindOf : GoodIn wsX6_takesRow (va_wsS RX6 70 yX6_kindOf wsX6_kindOf) := goodIn_app (goodIn_of _ (by decide +kernel)) ggX6_takesRow_X6_kindOf
set_option maxRecDepth 20000 in
theorem ggX6_takesRow_X6_halves : GoodIn wsX6_takesRow wsX6_halves := goodIn_r _ [11, 12, 13, 7, 14, 15, 16, 17, 18, 19, 20] (by decide +kernel) (by decide +kernel)
set_option maxRecDepth 20000 in
theorem gX6_takesRow_X6_halves : GoodIn wsX6_takesRow (va_wsS RX6 74 yX6_halves wsX6_halves) := goodIn_app (goodIn_of _ (by decide +kernel)) ggX6_takesRow_X6_halves
set_option maxRecDepth 20000 in
theorem ggX6_takesRow_X6_doors : GoodIn wsX6_takesRow wsX6_doors := goodIn_r _ [23, 12, 13, 7, 14, 24, 25, 26, 18, 19, 20] (by decide +kernel) (by decide +kernel)
set_option maxRecDepth 20000 in
theorem gX6_takesRow_X6_doors : GoodIn wsX6_takesRow (va_wsS RX6 77 yX6_doors wsX6_doors) := goodIn_app (goodIn_of _ (by decide +kernel)) ggX6_takesRow_X6_doors
theorem dX6_takesRow_0 : decode cX6_takesRow 0 = .ok (.aload_n 0, 1) := by decide +kernel
theorem dX6_takesRow_1 : decode cX6_takesRow 1 = .ok (.getfield 22, 3) := by decide +kernel
theorem dX6_takesRow_4 : decode cX6_takesRow 4 = .ok (.aload_n 0, 1) := by decide +kernel
theorem dX6_takesRow_5 : decode cX6_takesRow 5 = .ok (.getfield 63, 3) := by decide +kernel
theorem dX6_takesRow_8 : decode cX6_takesRow 8 = .ok (.iaload, 1) := by decide +kernel
theorem dX6_takesRow_9 : decode cX6_takesRow 9 = .ok (.bipush 114, 2) := by decide +kernel
theorem dX6_takesRow_11 : decode cX6_takesRow 11 = .ok (.if_icmp .ne 13, 3) := by decide +kernel
theorem dX6_takesRow_14 : decode cX6_takesRow 14 = .ok (.aload_n 0, 1) := by decide +kernel
theorem dX6_takesRow_15 : decode cX6_takesRow 15 = .ok (.getfield 13, 3) := by decide +kernel
theorem dX6_takesRow_18 : decode cX6_takesRow 18 = .ok (.iconst 1, 1) := by decide +kernel
theorem dX6_takesRow_19 : decode cX6_takesRow 19 = .ok (.iaload, 1) := by decide +kernel
theorem dX6_takesRow_20 : decode cX6_takesRow 20 = .ok (.iconst 4, 1) := by decide +kernel
theorem dX6_takesRow_21 : decode cX6_takesRow 21 = .ok (.if_icmp .ne 5, 3) := by decide +kernel
theorem dX6_takesRow_24 : decode cX6_takesRow 24 = .ok (.iconst 0, 1) := by decide +kernel
theorem dX6_takesRow_25 : decode cX6_takesRow 25 = .ok (.ireturn, 1) := by decide +kernel
theorem dX6_takesRow_26 : decode cX6_takesRow 26 = .ok (.aload_n 0, 1) := by decide +kernel
theorem dX6_takesRow_27 : decode cX6_takesRow 27 = .ok (.dup, 1) := by decide +kernel
theorem dX6_takesRow_28 : decode cX6_takesRow 28 = .ok (.getfield 63, 3) := by decide +kernel
theorem dX6_takesRow_31 : decode cX6_takesRow 31 = .ok (.iconst 1, 1) := by decide +kernel
theorem dX6_takesRow_32 : decode cX6_takesRow 32 = .ok (.iadd, 1) := by decide +kernel
theorem dX6_takesRow_33 : decode cX6_takesRow 33 = .ok (.putfield 63, 3) := by decide +kernel
theorem dX6_takesRow_36 : decode cX6_takesRow 36 = .ok (.iconst 0, 1) := by decide +kernel
theorem dX6_takesRow_37 : decode cX6_takesRow 37 = .ok (.istore_n 1, 1) := by decide +kernel
theorem dX6_takesRow_38 : decode cX6_takesRow 38 = .ok (.aload_n 0, 1) := by decide +kernel
theorem dX6_takesRow_39 : decode cX6_takesRow 39 = .ok (.getfield 13, 3) := by decide +kernel
theorem dX6_takesRow_42 : decode cX6_takesRow 42 = .ok (.iconst 1, 1) := by decide +kernel
theorem dX6_takesRow_43 : decode cX6_takesRow 43 = .ok (.iaload, 1) := by decide +kernel
theorem dX6_takesRow_44 : decode cX6_takesRow 44 = .ok (.ifCond .ne 7, 3) := by decide +kernel
theorem dX6_takesRow_47 : decode cX6_takesRow 47 = .ok (.iconst 5, 1) := by decide +kernel
theorem dX6_takesRow_48 : decode cX6_takesRow 48 = .ok (.goto 9, 3) := by decide +kernel
theorem dX6_takesRow_51 : decode cX6_takesRow 51 = .ok (.aload_n 0, 1) := by decide +kernel
theorem dX6_takesRow_52 : decode cX6_takesRow 52 = .ok (.getfield 13, 3) := by decide +kernel
theorem dX6_takesRow_55 : decode cX6_takesRow 55 = .ok (.iconst 0, 1) := by decide +kernel
theorem dX6_takesRow_56 : decode cX6_takesRow 56 = .ok (.iaload, 1) := by decide +kernel
theorem dX6_takesRow_57 : decode cX6_takesRow 57 = .ok (.istore_n 2, 1) := by decide +kernel
theorem dX6_takesRow_58 : decode cX6_takesRow 58 = .ok (.iconst 2, 1) := by decide +kernel
theorem dX6_takesRow_59 : decode cX6_takesRow 59 = .ok (.aload_n 0, 1) := by decide +kernel
theorem dX6_takesRow_60 : decode cX6_takesRow 60 = .ok (.getfield 13, 3) := by decide +kernel
theorem dX6_takesRow_63 : decode cX6_takesRow 63 = .ok (.iconst 0, 1) := by decide +kernel
theorem dX6_takesRow_64 : decode cX6_takesRow 64 = .ok (.iaload, 1) := by decide +kernel
theorem dX6_takesRow_65 : decode cX6_takesRow 65 = .ok (.aload_n 0, 1) := by decide +kernel
theorem dX6_takesRow_66 : decode cX6_takesRow 66 = .ok (.getfield 13, 3) := by decide +kernel
theorem dX6_takesRow_69 : decode cX6_takesRow 69 = .ok (.iconst 1, 1) := by decide +kernel
theorem dX6_takesRow_70 : decode cX6_takesRow 70 = .ok (.iaload, 1) := by decide +kernel
theorem dX6_takesRow_71 : decode cX6_takesRow 71 = .ok (.imul, 1) := by decide +kernel
theorem dX6_takesRow_72 : decode cX6_takesRow 72 = .ok (.iadd, 1) := by decide +kernel
theorem dX6_takesRow_73 : decode cX6_takesRow 73 = .ok (.istore_n 3, 1) := by decide +kernel
theorem dX6_takesRow_74 : decode cX6_takesRow 74 = .ok (.aload_n 0, 1) := by decide +kernel
theorem dX6_takesRow_75 : decode cX6_takesRow 75 = .ok (.getfield 63, 3) := by decide +kernel
theorem dX6_takesRow_78 : decode cX6_takesRow 78 = .ok (.aload_n 0, 1) := by decide +kernel
theorem dX6_takesRow_79 : decode cX6_takesRow 79 = .ok (.getfield 67, 3) := by decide +kernel
theorem dX6_takesRow_82 : decode cX6_takesRow 82 = .ok (.if_icmp .ge 61, 3) := by decide +kernel
theorem dX6_takesRow_85 : decode cX6_takesRow 85 = .ok (.iload_n 1, 1) := by decide +kernel
theorem dX6_takesRow_86 : decode cX6_takesRow 86 = .ok (.iload_n 2, 1) := by decide +kernel
theorem dX6_takesRow_87 : decode cX6_takesRow 87 = .ok (.if_icmp .ge 56, 3) := by decide +kernel
theorem dX6_takesRow_90 : decode cX6_takesRow 90 = .ok (.aload_n 0, 1) := by decide +kernel
theorem dX6_takesRow_91 : decode cX6_takesRow 91 = .ok (.getfield 22, 3) := by decide +kernel
theorem dX6_takesRow_94 : decode cX6_takesRow 94 = .ok (.aload_n 0, 1) := by decide +kernel
theorem dX6_takesRow_95 : decode cX6_takesRow 95 = .ok (.getfield 63, 3) := by decide +kernel
theorem dX6_takesRow_98 : decode cX6_takesRow 98 = .ok (.iaload, 1) := by decide +kernel
theorem dX6_takesRow_99 : decode cX6_takesRow 99 = .ok (.invokestatic 70, 3) := by decide +kernel
theorem dX6_takesRow_102 : decode cX6_takesRow 102 = .ok (.bipush (-4), 2) := by decide +kernel
theorem dX6_takesRow_104 : decode cX6_takesRow 104 = .ok (.if_icmp .eq 39, 3) := by decide +kernel
theorem dX6_takesRow_107 : decode cX6_takesRow 107 = .ok (.aload_n 0, 1) := by decide +kernel
theorem dX6_takesRow_108 : decode cX6_takesRow 108 = .ok (.getfield 13, 3) := by decide +kernel
theorem dX6_takesRow_111 : decode cX6_takesRow 111 = .ok (.iload_n 3, 1) := by decide +kernel
theorem dX6_takesRow_112 : decode cX6_takesRow 112 = .ok (.iload_n 1, 1) := by decide +kernel
theorem dX6_takesRow_113 : decode cX6_takesRow 113 = .ok (.iadd, 1) := by decide +kernel
theorem dX6_takesRow_114 : decode cX6_takesRow 114 = .ok (.aload_n 0, 1) := by decide +kernel
theorem dX6_takesRow_115 : decode cX6_takesRow 115 = .ok (.getfield 22, 3) := by decide +kernel
theorem dX6_takesRow_118 : decode cX6_takesRow 118 = .ok (.aload_n 0, 1) := by decide +kernel
theorem dX6_takesRow_119 : decode cX6_takesRow 119 = .ok (.getfield 63, 3) := by decide +kernel
theorem dX6_takesRow_122 : decode cX6_takesRow 122 = .ok (.iaload, 1) := by decide +kernel
theorem dX6_takesRow_123 : decode cX6_takesRow 123 = .ok (.invokestatic 70, 3) := by decide +kernel
theorem dX6_takesRow_126 : decode cX6_takesRow 126 = .ok (.iastore, 1) := by decide +kernel
theorem dX6_takesRow_127 : decode cX6_takesRow 127 = .ok (.iinc 1 1, 3) := by decide +kernel
theorem dX6_takesRow_130 : decode cX6_takesRow 130 = .ok (.aload_n 0, 1) := by decide +kernel
theorem dX6_takesRow_131 : decode cX6_takesRow 131 = .ok (.dup, 1) := by decide +kernel
theorem dX6_takesRow_132 : decode cX6_takesRow 132 = .ok (.getfield 63, 3) := by decide +kernel
theorem dX6_takesRow_135 : decode cX6_takesRow 135 = .ok (.iconst 1, 1) := by decide +kernel
theorem dX6_takesRow_136 : decode cX6_takesRow 136 = .ok (.iadd, 1) := by decide +kernel
theorem dX6_takesRow_137 : decode cX6_takesRow 137 = .ok (.putfield 63, 3) := by decide +kernel
theorem dX6_takesRow_140 : decode cX6_takesRow 140 = .ok (.goto (-66), 3) := by decide +kernel
theorem dX6_takesRow_143 : decode cX6_takesRow 143 = .ok (.iload_n 1, 1) := by decide +kernel
theorem dX6_takesRow_144 : decode cX6_takesRow 144 = .ok (.iconst 2, 1) := by decide +kernel
theorem dX6_takesRow_145 : decode cX6_takesRow 145 = .ok (.if_icmp .lt 42, 3) := by decide +kernel
theorem dX6_takesRow_148 : decode cX6_takesRow 148 = .ok (.aload_n 0, 1) := by decide +kernel
theorem dX6_takesRow_149 : decode cX6_takesRow 149 = .ok (.getfield 13, 3) := by decide +kernel
theorem dX6_takesRow_152 : decode cX6_takesRow 152 = .ok (.iconst 1, 1) := by decide +kernel
theorem dX6_takesRow_153 : decode cX6_takesRow 153 = .ok (.iaload, 1) := by decide +kernel
theorem dX6_takesRow_154 : decode cX6_takesRow 154 = .ok (.ifCond .le 8, 3) := by decide +kernel
theorem dX6_takesRow_157 : decode cX6_takesRow 157 = .ok (.iload_n 1, 1) := by decide +kernel
theorem dX6_takesRow_158 : decode cX6_takesRow 158 = .ok (.iload_n 2, 1) := by decide +kernel
theorem dX6_takesRow_159 : decode cX6_takesRow 159 = .ok (.if_icmp .lt 28, 3) := by decide +kernel
theorem dX6_takesRow_162 : decode cX6_takesRow 162 = .ok (.aload_n 0, 1) := by decide +kernel
theorem dX6_takesRow_163 : decode cX6_takesRow 163 = .ok (.getfield 63, 3) := by decide +kernel
theorem dX6_takesRow_166 : decode cX6_takesRow 166 = .ok (.aload_n 0, 1) := by decide +kernel
theorem dX6_takesRow_167 : decode cX6_takesRow 167 = .ok (.getfield 67, 3) := by decide +kernel
theorem dX6_takesRow_170 : decode cX6_takesRow 170 = .ok (.if_icmp .eq 17, 3) := by decide +kernel
theorem dX6_takesRow_173 : decode cX6_takesRow 173 = .ok (.aload_n 0, 1) := by decide +kernel
theorem dX6_takesRow_174 : decode cX6_takesRow 174 = .ok (.getfield 22, 3) := by decide +kernel
theorem dX6_takesRow_177 : decode cX6_takesRow 177 = .ok (.aload_n 0, 1) := by decide +kernel
theorem dX6_takesRow_178 : decode cX6_takesRow 178 = .ok (.getfield 63, 3) := by decide +kernel
theorem dX6_takesRow_181 : decode cX6_takesRow 181 = .ok (.iaload, 1) := by decide +kernel
theorem dX6_takesRow_182 : decode cX6_takesRow 182 = .ok (.bipush 59, 2) := by decide +kernel
theorem dX6_takesRow_184 : decode cX6_takesRow 184 = .ok (.if_icmp .eq 5, 3) := by decide +kernel
theorem dX6_takesRow_187 : decode cX6_takesRow 187 = .ok (.iconst 0, 1) := by decide +kernel
theorem dX6_takesRow_188 : decode cX6_takesRow 188 = .ok (.ireturn, 1) := by decide +kernel
theorem dX6_takesRow_189 : decode cX6_takesRow 189 = .ok (.aload_n 0, 1) := by decide +kernel
theorem dX6_takesRow_190 : decode cX6_takesRow 190 = .ok (.dup, 1) := by decide +kernel
theorem dX6_takesRow_191 : decode cX6_takesRow 191 = .ok (.getfield 63, 3) := by decide +kernel
theorem dX6_takesRow_194 : decode cX6_takesRow 194 = .ok (.iconst 1, 1) := by decide +kernel
theorem dX6_takesRow_195 : decode cX6_takesRow 195 = .ok (.iadd, 1) := by decide +kernel
theorem dX6_takesRow_196 : decode cX6_takesRow 196 = .ok (.putfield 63, 3) := by decide +kernel
theorem dX6_takesRow_199 : decode cX6_takesRow 199 = .ok (.aload_n 0, 1) := by decide +kernel
theorem dX6_takesRow_200 : decode cX6_takesRow 200 = .ok (.getfield 13, 3) := by decide +kernel
theorem dX6_takesRow_203 : decode cX6_takesRow 203 = .ok (.iconst 0, 1) := by decide +kernel
theorem dX6_takesRow_204 : decode cX6_takesRow 204 = .ok (.iload_n 1, 1) := by decide +kernel
theorem dX6_takesRow_205 : decode cX6_takesRow 205 = .ok (.iastore, 1) := by decide +kernel
theorem dX6_takesRow_206 : decode cX6_takesRow 206 = .ok (.aload_n 0, 1) := by decide +kernel
theorem dX6_takesRow_207 : decode cX6_takesRow 207 = .ok (.getfield 13, 3) := by decide +kernel
theorem dX6_takesRow_210 : decode cX6_takesRow 210 = .ok (.iconst 1, 1) := by decide +kernel
theorem dX6_takesRow_211 : decode cX6_takesRow 211 = .ok (.dup2, 1) := by decide +kernel
theorem dX6_takesRow_212 : decode cX6_takesRow 212 = .ok (.iaload, 1) := by decide +kernel
theorem dX6_takesRow_213 : decode cX6_takesRow 213 = .ok (.iconst 1, 1) := by decide +kernel
theorem dX6_takesRow_214 : decode cX6_takesRow 214 = .ok (.iadd, 1) := by decide +kernel
theorem dX6_takesRow_215 : decode cX6_takesRow 215 = .ok (.iastore, 1) := by decide +kernel
theorem dX6_takesRow_216 : decode cX6_takesRow 216 = .ok (.aload_n 0, 1) := by decide +kernel
theorem dX6_takesRow_217 : decode cX6_takesRow 217 = .ok (.getfield 13, 3) := by decide +kernel
theorem dX6_takesRow_220 : decode cX6_takesRow 220 = .ok (.invokestatic 74, 3) := by decide +kernel
theorem dX6_takesRow_223 : decode cX6_takesRow 223 = .ok (.iconst 5, 1) := by decide +kernel
theorem dX6_takesRow_224 : decode cX6_takesRow 224 = .ok (.if_icmp .gt 18, 3) := by decide +kernel
theorem dX6_takesRow_227 : decode cX6_takesRow 227 = .ok (.aload_n 0, 1) := by decide +kernel
theorem dX6_takesRow_228 : decode cX6_takesRow 228 = .ok (.getfield 13, 3) := by decide +kernel
theorem dX6_takesRow_231 : decode cX6_takesRow 231 = .ok (.invokestatic 77, 3) := by decide +kernel
theorem dX6_takesRow_234 : decode cX6_takesRow 234 = .ok (.iconst 4, 1) := by decide +kernel
theorem dX6_takesRow_235 : decode cX6_takesRow 235 = .ok (.if_icmp .gt 7, 3) := by decide +kernel
theorem dX6_takesRow_238 : decode cX6_takesRow 238 = .ok (.iconst 1, 1) := by decide +kernel
theorem dX6_takesRow_239 : decode cX6_takesRow 239 = .ok (.goto 4, 3) := by decide +kernel
theorem dX6_takesRow_242 : decode cX6_takesRow 242 = .ok (.iconst 0, 1) := by decide +kernel
theorem dX6_takesRow_243 : decode cX6_takesRow 243 = .ok (.ireturn, 1) := by decide +kernel
set_option maxRecDepth 20000 in
theorem ggX6_reads_X6_takesRow : GoodIn wsX6_reads wsX6_takesRow := goodIn_r _ [8, 9, 2, 1, 3, 10, 11, 7, 12, 13, 14, 15, 16, 17, 18, 19, 20, 21, 22, 23, 24, 25, 26, 27, 28, 29, 30, 31, 32, 33, 34, 35, 36, 37, 38, 39, 40, 41, 42, 43, 44, 45, 46, 47, 48, 49] (by decide +kernel) (by decide +kernel)
set_option maxRecDepth 20000 in
theorem gX6_reads_X6_takesRow : GoodIn wsX6_reads (wsV RX6 80 RX6 yX6_takesRow wsX6_takesRow) := goodIn_app (goodIn_of _ (by decide +kernel)) ggX6_reads_X6_takesRow
theorem dX6_reads_0 : decode cX6_reads 0 = .ok (.iconst 0, 1) := by decide +kernel
theorem dX6_reads_1 : decode cX6_reads 1 = .ok (.istore_n 1, 1) := by decide +kernel
theorem dX6_reads_2 : decode cX6_reads 2 = .ok (.iload_n 1, 1) := by decide +kernel
theorem dX6_reads_3 : decode cX6_reads 3 = .ok (.bipush 22, 2) := by decide +kernel
theorem dX6_reads_5 : decode cX6_reads 5 = .ok (.if_icmp .ge 16, 3) := by decide +kernel
theorem dX6_reads_8 : decode cX6_reads 8 = .ok (.aload_n 0, 1) := by decide +kernel
theorem dX6_reads_9 : decode cX6_reads 9 = .ok (.getfield 13, 3) := by decide +kernel
theorem dX6_reads_12 : decode cX6_reads 12 = .ok (.iload_n 1, 1) := by decide +kernel
theorem dX6_reads_13 : decode cX6_reads 13 = .ok (.iconst 0, 1) := by decide +kernel
theorem dX6_reads_14 : decode cX6_reads 14 = .ok (.iastore, 1) := by decide +kernel
theorem dX6_reads_15 : decode cX6_reads 15 = .ok (.iinc 1 1, 3) := by decide +kernel
theorem dX6_reads_18 : decode cX6_reads 18 = .ok (.goto (-16), 3) := by decide +kernel
theorem dX6_reads_21 : decode cX6_reads 21 = .ok (.aload_n 0, 1) := by decide +kernel
theorem dX6_reads_22 : decode cX6_reads 22 = .ok (.iconst 0, 1) := by decide +kernel
theorem dX6_reads_23 : decode cX6_reads 23 = .ok (.putfield 63, 3) := by decide +kernel
theorem dX6_reads_26 : decode cX6_reads 26 = .ok (.aload_n 0, 1) := by decide +kernel
theorem dX6_reads_27 : decode cX6_reads 27 = .ok (.getfield 63, 3) := by decide +kernel
theorem dX6_reads_30 : decode cX6_reads 30 = .ok (.aload_n 0, 1) := by decide +kernel
theorem dX6_reads_31 : decode cX6_reads 31 = .ok (.getfield 67, 3) := by decide +kernel
theorem dX6_reads_34 : decode cX6_reads 34 = .ok (.if_icmp .ge 20, 3) := by decide +kernel
theorem dX6_reads_37 : decode cX6_reads 37 = .ok (.aload_n 0, 1) := by decide +kernel
theorem dX6_reads_38 : decode cX6_reads 38 = .ok (.getfield 63, 3) := by decide +kernel
theorem dX6_reads_41 : decode cX6_reads 41 = .ok (.istore_n 1, 1) := by decide +kernel
theorem dX6_reads_42 : decode cX6_reads 42 = .ok (.aload_n 0, 1) := by decide +kernel
theorem dX6_reads_43 : decode cX6_reads 43 = .ok (.invokevirtual 80, 3) := by decide +kernel
theorem dX6_reads_46 : decode cX6_reads 46 = .ok (.ifCond .ne 5, 3) := by decide +kernel
theorem dX6_reads_49 : decode cX6_reads 49 = .ok (.iload_n 1, 1) := by decide +kernel
theorem dX6_reads_50 : decode cX6_reads 50 = .ok (.ireturn, 1) := by decide +kernel
theorem dX6_reads_51 : decode cX6_reads 51 = .ok (.goto (-25), 3) := by decide +kernel
theorem dX6_reads_54 : decode cX6_reads 54 = .ok (.bipush (-4), 2) := by decide +kernel
theorem dX6_reads_56 : decode cX6_reads 56 = .ok (.ireturn, 1) := by decide +kernel
set_option maxRecDepth 20000 in
theorem ggX6_write_X6_in : GoodIn wsX6_write wsX6_in := goodIn_r _ [6] (by decide +kernel) (by decide +kernel)
set_option maxRecDepth 20000 in
theorem gX6_write_X6_in : GoodIn wsX6_write (va_wsS RX6 48 yX6_in wsX6_in) := goodIn_app (goodIn_of _ (by decide +kernel)) ggX6_write_X6_in
theorem dX6_write_0 : decode cX6_write 0 = .ok (.iload_n 1, 1) := by decide +kernel
theorem dX6_write_1 : decode cX6_write 1 = .ok (.bipush 32, 2) := by decide +kernel
theorem dX6_write_3 : decode cX6_write 3 = .ok (.bipush 126, 2) := by decide +kernel
theorem dX6_write_5 : decode cX6_write 5 = .ok (.invokestatic 48, 3) := by decide +kernel
theorem dX6_write_8 : decode cX6_write 8 = .ok (.ifCond .ne 5, 3) := by decide +kernel
theorem dX6_write_11 : decode cX6_write 11 = .ok (.iconst (-1), 1) := by decide +kernel
theorem dX6_write_12 : decode cX6_write 12 = .ok (.ireturn, 1) := by decide +kernel
theorem dX6_write_13 : decode cX6_write 13 = .ok (.aload_n 0, 1) := by decide +kernel
theorem dX6_write_14 : decode cX6_write 14 = .ok (.getfield 67, 3) := by decide +kernel
theorem dX6_write_17 : decode cX6_write 17 = .ok (.bipush 60, 2) := by decide +kernel
theorem dX6_write_19 : decode cX6_write 19 = .ok (.if_icmp .ne 6, 3) := by decide +kernel
theorem dX6_write_22 : decode cX6_write 22 = .ok (.bipush (-3), 2) := by decide +kernel
theorem dX6_write_24 : decode cX6_write 24 = .ok (.ireturn, 1) := by decide +kernel
theorem dX6_write_25 : decode cX6_write 25 = .ok (.aload_n 0, 1) := by decide +kernel
theorem dX6_write_26 : decode cX6_write 26 = .ok (.getfield 22, 3) := by decide +kernel
theorem dX6_write_29 : decode cX6_write 29 = .ok (.aload_n 0, 1) := by decide +kernel
theorem dX6_write_30 : decode cX6_write 30 = .ok (.getfield 67, 3) := by decide +kernel
theorem dX6_write_33 : decode cX6_write 33 = .ok (.iload_n 1, 1) := by decide +kernel
theorem dX6_write_34 : decode cX6_write 34 = .ok (.iastore, 1) := by decide +kernel
theorem dX6_write_35 : decode cX6_write 35 = .ok (.aload_n 0, 1) := by decide +kernel
theorem dX6_write_36 : decode cX6_write 36 = .ok (.dup, 1) := by decide +kernel
theorem dX6_write_37 : decode cX6_write 37 = .ok (.getfield 67, 3) := by decide +kernel
theorem dX6_write_40 : decode cX6_write 40 = .ok (.iconst 1, 1) := by decide +kernel
theorem dX6_write_41 : decode cX6_write 41 = .ok (.iadd, 1) := by decide +kernel
theorem dX6_write_42 : decode cX6_write 42 = .ok (.putfield 67, 3) := by decide +kernel
theorem dX6_write_45 : decode cX6_write 45 = .ok (.aload_n 0, 1) := by decide +kernel
theorem dX6_write_46 : decode cX6_write 46 = .ok (.getfield 67, 3) := by decide +kernel
theorem dX6_write_49 : decode cX6_write 49 = .ok (.ireturn, 1) := by decide +kernel
theorem dX6_wipe_0 : decode cX6_wipe 0 = .ok (.aload_n 0, 1) := by decide +kernel
theorem dX6_wipe_1 : decode cX6_wipe 1 = .ok (.getfield 67, 3) := by decide +kernel
theorem dX6_wipe_4 : decode cX6_wipe 4 = .ok (.istore_n 1, 1) := by decide +kernel
theorem dX6_wipe_5 : decode cX6_wipe 5 = .ok (.aload_n 0, 1) := by decide +kernel
theorem dX6_wipe_6 : decode cX6_wipe 6 = .ok (.iconst 0, 1) := by decide +kernel
theorem dX6_wipe_7 : decode cX6_wipe 7 = .ok (.putfield 67, 3) := by decide +kernel
theorem dX6_wipe_10 : decode cX6_wipe 10 = .ok (.iload_n 1, 1) := by decide +kernel
theorem dX6_wipe_11 : decode cX6_wipe 11 = .ok (.ireturn, 1) := by decide +kernel
set_option maxRecDepth 20000 in
theorem ggX6_fault_X6_reads : GoodIn wsX6_fault wsX6_reads := goodIn_r _ [5, 6, 7, 8, 9, 10, 11, 4, 12, 13, 14, 15, 16, 17, 18, 19, 20, 21, 22, 23, 24, 25, 26, 27, 28, 29, 30, 31, 32, 33, 34, 35, 36, 37, 38, 39, 40, 41, 42, 43, 44, 45, 46, 47, 48, 49, 50, 51, 52, 53] (by decide +kernel) (by decide +kernel)
set_option maxRecDepth 20000 in
theorem gX6_fault_X6_reads : GoodIn wsX6_fault (wsV RX6 84 RX6 yX6_reads wsX6_reads) := goodIn_app (goodIn_of _ (by decide +kernel)) ggX6_fault_X6_reads
theorem dX6_fault_0 : decode cX6_fault 0 = .ok (.aload_n 0, 1) := by decide +kernel
theorem dX6_fault_1 : decode cX6_fault 1 = .ok (.invokevirtual 84, 3) := by decide +kernel
theorem dX6_fault_4 : decode cX6_fault 4 = .ok (.ireturn, 1) := by decide +kernel
set_option maxRecDepth 20000 in
theorem ggX6_lay_X6_reads : GoodIn wsX6_lay wsX6_reads := goodIn_r _ [8, 1, 9, 10, 11, 12, 13, 7, 14, 15, 16, 17, 18, 19, 20, 21, 22, 23, 24, 25, 26, 27, 28, 29, 30, 31, 32, 33, 34, 35, 36, 40, 41, 42, 43, 44, 45, 46, 47, 48, 49, 50, 51, 52, 53, 54, 55, 56, 57, 58] (by decide +kernel) (by decide +kernel)
set_option maxRecDepth 20000 in
theorem gX6_lay_X6_reads : GoodIn wsX6_lay (wsV RX6 84 RX6 yX6_reads wsX6_reads) := goodIn_app (goodIn_of _ (by decide +kernel)) ggX6_lay_X6_reads
set_option maxRecDepth 20000 in
theorem ggX6_lay_X6_copies : GoodIn wsX6_lay wsX6_copies := goodIn_r _ [39] (by decide +kernel) (by decide +kernel)
set_option maxRecDepth 20000 in
theorem gX6_lay_X6_copies : GoodIn wsX6_lay (va_wsS RX6 88 yX6_copies wsX6_copies) := goodIn_app (goodIn_of _ (by decide +kernel)) ggX6_lay_X6_copies
set_option maxRecDepth 20000 in
theorem ggX6_lay_X6_cells : GoodIn wsX6_lay wsX6_cells := goodIn_r _ [24] (by decide +kernel) (by decide +kernel)
set_option maxRecDepth 20000 in
theorem gX6_lay_X6_cells : GoodIn wsX6_lay (va_wsS RX6 52 yX6_cells wsX6_cells) := goodIn_app (goodIn_of _ (by decide +kernel)) ggX6_lay_X6_cells
theorem dX6_lay_0 : decode cX6_lay 0 = .ok (.aload_n 0, 1) := by decide +kernel
theorem dX6_lay_1 : decode cX6_lay 1 = .ok (.invokevirtual 84, 3) := by decide +kernel
theorem dX6_lay_4 : decode cX6_lay 4 = .ok (.bipush (-4), 2) := by decide +kernel
theorem dX6_lay_6 : decode cX6_lay 6 = .ok (.if_icmp .ne 12, 3) := by decide +kernel
theorem dX6_lay_9 : decode cX6_lay 9 = .ok (.aload_n 0, 1) := by decide +kernel
theorem dX6_lay_10 : decode cX6_lay 10 = .ok (.getfield 13, 3) := by decide +kernel
theorem dX6_lay_13 : decode cX6_lay 13 = .ok (.iconst 1, 1) := by decide +kernel
theorem dX6_lay_14 : decode cX6_lay 14 = .ok (.iaload, 1) := by decide +kernel
theorem dX6_lay_15 : decode cX6_lay 15 = .ok (.ifCond .ne 6, 3) := by decide +kernel
theorem dX6_lay_18 : decode cX6_lay 18 = .ok (.bipush (-2), 2) := by decide +kernel
theorem dX6_lay_20 : decode cX6_lay 20 = .ok (.ireturn, 1) := by decide +kernel
theorem dX6_lay_21 : decode cX6_lay 21 = .ok (.aload_n 0, 1) := by decide +kernel
theorem dX6_lay_22 : decode cX6_lay 22 = .ok (.getfield 13, 3) := by decide +kernel
theorem dX6_lay_25 : decode cX6_lay 25 = .ok (.iconst 0, 1) := by decide +kernel
theorem dX6_lay_26 : decode cX6_lay 26 = .ok (.aload_n 0, 1) := by decide +kernel
theorem dX6_lay_27 : decode cX6_lay 27 = .ok (.getfield 7, 3) := by decide +kernel
theorem dX6_lay_30 : decode cX6_lay 30 = .ok (.iconst 0, 1) := by decide +kernel
theorem dX6_lay_31 : decode cX6_lay 31 = .ok (.invokestatic 88, 3) := by decide +kernel
theorem dX6_lay_34 : decode cX6_lay 34 = .ok (.aload_n 0, 1) := by decide +kernel
theorem dX6_lay_35 : decode cX6_lay 35 = .ok (.iconst 0, 1) := by decide +kernel
theorem dX6_lay_36 : decode cX6_lay 36 = .ok (.putfield 92, 3) := by decide +kernel
theorem dX6_lay_39 : decode cX6_lay 39 = .ok (.aload_n 0, 1) := by decide +kernel
theorem dX6_lay_40 : decode cX6_lay 40 = .ok (.getfield 7, 3) := by decide +kernel
theorem dX6_lay_43 : decode cX6_lay 43 = .ok (.invokestatic 52, 3) := by decide +kernel
theorem dX6_lay_46 : decode cX6_lay 46 = .ok (.ireturn, 1) := by decide +kernel
set_option maxRecDepth 20000 in
theorem ggX6_keeps_X6_copies : GoodIn wsX6_keeps wsX6_copies := goodIn_r _ [7] (by decide +kernel) (by decide +kernel)
set_option maxRecDepth 20000 in
theorem gX6_keeps_X6_copies : GoodIn wsX6_keeps (va_wsS RX6 88 yX6_copies wsX6_copies) := goodIn_app (goodIn_of _ (by decide +kernel)) ggX6_keeps_X6_copies
theorem dX6_keeps_0 : decode cX6_keeps 0 = .ok (.aload_n 0, 1) := by decide +kernel
theorem dX6_keeps_1 : decode cX6_keeps 1 = .ok (.getfield 92, 3) := by decide +kernel
theorem dX6_keeps_4 : decode cX6_keeps 4 = .ok (.iconst 4, 1) := by decide +kernel
theorem dX6_keeps_5 : decode cX6_keeps 5 = .ok (.if_icmp .ne 42, 3) := by decide +kernel
theorem dX6_keeps_8 : decode cX6_keeps 8 = .ok (.iconst 0, 1) := by decide +kernel
theorem dX6_keeps_9 : decode cX6_keeps 9 = .ok (.istore_n 1, 1) := by decide +kernel
theorem dX6_keeps_10 : decode cX6_keeps 10 = .ok (.iload_n 1, 1) := by decide +kernel
theorem dX6_keeps_11 : decode cX6_keeps 11 = .ok (.bipush 66, 2) := by decide +kernel
theorem dX6_keeps_13 : decode cX6_keeps 13 = .ok (.if_icmp .ge 24, 3) := by decide +kernel
theorem dX6_keeps_16 : decode cX6_keeps 16 = .ok (.aload_n 0, 1) := by decide +kernel
theorem dX6_keeps_17 : decode cX6_keeps 17 = .ok (.getfield 19, 3) := by decide +kernel
theorem dX6_keeps_20 : decode cX6_keeps 20 = .ok (.iload_n 1, 1) := by decide +kernel
theorem dX6_keeps_21 : decode cX6_keeps 21 = .ok (.aload_n 0, 1) := by decide +kernel
theorem dX6_keeps_22 : decode cX6_keeps 22 = .ok (.getfield 19, 3) := by decide +kernel
theorem dX6_keeps_25 : decode cX6_keeps 25 = .ok (.iload_n 1, 1) := by decide +kernel
theorem dX6_keeps_26 : decode cX6_keeps 26 = .ok (.bipush 22, 2) := by decide +kernel
theorem dX6_keeps_28 : decode cX6_keeps 28 = .ok (.iadd, 1) := by decide +kernel
theorem dX6_keeps_29 : decode cX6_keeps 29 = .ok (.iaload, 1) := by decide +kernel
theorem dX6_keeps_30 : decode cX6_keeps 30 = .ok (.iastore, 1) := by decide +kernel
theorem dX6_keeps_31 : decode cX6_keeps 31 = .ok (.iinc 1 1, 3) := by decide +kernel
theorem dX6_keeps_34 : decode cX6_keeps 34 = .ok (.goto (-24), 3) := by decide +kernel
theorem dX6_keeps_37 : decode cX6_keeps 37 = .ok (.aload_n 0, 1) := by decide +kernel
theorem dX6_keeps_38 : decode cX6_keeps 38 = .ok (.dup, 1) := by decide +kernel
theorem dX6_keeps_39 : decode cX6_keeps 39 = .ok (.getfield 92, 3) := by decide +kernel
theorem dX6_keeps_42 : decode cX6_keeps 42 = .ok (.iconst 1, 1) := by decide +kernel
theorem dX6_keeps_43 : decode cX6_keeps 43 = .ok (.isub, 1) := by decide +kernel
theorem dX6_keeps_44 : decode cX6_keeps 44 = .ok (.putfield 92, 3) := by decide +kernel
theorem dX6_keeps_47 : decode cX6_keeps 47 = .ok (.aload_n 0, 1) := by decide +kernel
theorem dX6_keeps_48 : decode cX6_keeps 48 = .ok (.getfield 7, 3) := by decide +kernel
theorem dX6_keeps_51 : decode cX6_keeps 51 = .ok (.iconst 0, 1) := by decide +kernel
theorem dX6_keeps_52 : decode cX6_keeps 52 = .ok (.aload_n 0, 1) := by decide +kernel
theorem dX6_keeps_53 : decode cX6_keeps 53 = .ok (.getfield 19, 3) := by decide +kernel
theorem dX6_keeps_56 : decode cX6_keeps 56 = .ok (.bipush 22, 2) := by decide +kernel
theorem dX6_keeps_58 : decode cX6_keeps 58 = .ok (.aload_n 0, 1) := by decide +kernel
theorem dX6_keeps_59 : decode cX6_keeps 59 = .ok (.getfield 92, 3) := by decide +kernel
theorem dX6_keeps_62 : decode cX6_keeps 62 = .ok (.imul, 1) := by decide +kernel
theorem dX6_keeps_63 : decode cX6_keeps 63 = .ok (.invokestatic 88, 3) := by decide +kernel
theorem dX6_keeps_66 : decode cX6_keeps 66 = .ok (.aload_n 0, 1) := by decide +kernel
theorem dX6_keeps_67 : decode cX6_keeps 67 = .ok (.dup, 1) := by decide +kernel
theorem dX6_keeps_68 : decode cX6_keeps 68 = .ok (.getfield 92, 3) := by decide +kernel
theorem dX6_keeps_71 : decode cX6_keeps 71 = .ok (.iconst 1, 1) := by decide +kernel
theorem dX6_keeps_72 : decode cX6_keeps 72 = .ok (.iadd, 1) := by decide +kernel
theorem dX6_keeps_73 : decode cX6_keeps 73 = .ok (.putfield 92, 3) := by decide +kernel
theorem dX6_keeps_76 : decode cX6_keeps 76 = .ok (.return_, 1) := by decide +kernel
set_option maxRecDepth 20000 in
theorem ggX6_undo_X6_copies : GoodIn wsX6_undo wsX6_copies := goodIn_r _ [7] (by decide +kernel) (by decide +kernel)
set_option maxRecDepth 20000 in
theorem gX6_undo_X6_copies : GoodIn wsX6_undo (va_wsS RX6 88 yX6_copies wsX6_copies) := goodIn_app (goodIn_of _ (by decide +kernel)) ggX6_undo_X6_copies
theorem dX6_undo_0 : decode cX6_undo 0 = .ok (.aload_n 0, 1) := by decide +kernel
theorem dX6_undo_1 : decode cX6_undo 1 = .ok (.getfield 92, 3) := by decide +kernel
theorem dX6_undo_4 : decode cX6_undo 4 = .ok (.ifCond .ne 6, 3) := by decide +kernel
theorem dX6_undo_7 : decode cX6_undo 7 = .ok (.bipush (-2), 2) := by decide +kernel
theorem dX6_undo_9 : decode cX6_undo 9 = .ok (.ireturn, 1) := by decide +kernel
theorem dX6_undo_10 : decode cX6_undo 10 = .ok (.aload_n 0, 1) := by decide +kernel
theorem dX6_undo_11 : decode cX6_undo 11 = .ok (.dup, 1) := by decide +kernel
theorem dX6_undo_12 : decode cX6_undo 12 = .ok (.getfield 92, 3) := by decide +kernel
theorem dX6_undo_15 : decode cX6_undo 15 = .ok (.iconst 1, 1) := by decide +kernel
theorem dX6_undo_16 : decode cX6_undo 16 = .ok (.isub, 1) := by decide +kernel
theorem dX6_undo_17 : decode cX6_undo 17 = .ok (.putfield 92, 3) := by decide +kernel
theorem dX6_undo_20 : decode cX6_undo 20 = .ok (.aload_n 0, 1) := by decide +kernel
theorem dX6_undo_21 : decode cX6_undo 21 = .ok (.getfield 19, 3) := by decide +kernel
theorem dX6_undo_24 : decode cX6_undo 24 = .ok (.bipush 22, 2) := by decide +kernel
theorem dX6_undo_26 : decode cX6_undo 26 = .ok (.aload_n 0, 1) := by decide +kernel
theorem dX6_undo_27 : decode cX6_undo 27 = .ok (.getfield 92, 3) := by decide +kernel
theorem dX6_undo_30 : decode cX6_undo 30 = .ok (.imul, 1) := by decide +kernel
theorem dX6_undo_31 : decode cX6_undo 31 = .ok (.aload_n 0, 1) := by decide +kernel
theorem dX6_undo_32 : decode cX6_undo 32 = .ok (.getfield 7, 3) := by decide +kernel
theorem dX6_undo_35 : decode cX6_undo 35 = .ok (.iconst 0, 1) := by decide +kernel
theorem dX6_undo_36 : decode cX6_undo 36 = .ok (.invokestatic 88, 3) := by decide +kernel
theorem dX6_undo_39 : decode cX6_undo 39 = .ok (.aload_n 0, 1) := by decide +kernel
theorem dX6_undo_40 : decode cX6_undo 40 = .ok (.getfield 92, 3) := by decide +kernel
theorem dX6_undo_43 : decode cX6_undo 43 = .ok (.ireturn, 1) := by decide +kernel
set_option maxRecDepth 20000 in
theorem ggX6_isCell_X6_cells : GoodIn wsX6_isCell wsX6_cells := goodIn_r _ [5] (by decide +kernel) (by decide +kernel)
set_option maxRecDepth 20000 in
theorem gX6_isCell_X6_cells : GoodIn wsX6_isCell (va_wsS RX6 52 yX6_cells wsX6_cells) := goodIn_app (goodIn_of _ (by decide +kernel)) ggX6_isCell_X6_cells
set_option maxRecDepth 20000 in
theorem ggX6_isCell_X6_in : GoodIn wsX6_isCell wsX6_in := goodIn_r _ [8] (by decide +kernel) (by decide +kernel)
set_option maxRecDepth 20000 in
theorem gX6_isCell_X6_in : GoodIn wsX6_isCell (va_wsS RX6 48 yX6_in wsX6_in) := goodIn_app (goodIn_of _ (by decide +kernel)) ggX6_isCell_X6_in
theorem dX6_isCell_0 : decode cX6_isCell 0 = .ok (.iload_n 1, 1) := by decide +kernel
theorem dX6_isCell_1 : decode cX6_isCell 1 = .ok (.iconst 0, 1) := by decide +kernel
theorem dX6_isCell_2 : decode cX6_isCell 2 = .ok (.aload_n 0, 1) := by decide +kernel
theorem dX6_isCell_3 : decode cX6_isCell 3 = .ok (.getfield 7, 3) := by decide +kernel
theorem dX6_isCell_6 : decode cX6_isCell 6 = .ok (.invokestatic 52, 3) := by decide +kernel
theorem dX6_isCell_9 : decode cX6_isCell 9 = .ok (.iconst 1, 1) := by decide +kernel
theorem dX6_isCell_10 : decode cX6_isCell 10 = .ok (.isub, 1) := by decide +kernel
theorem dX6_isCell_11 : decode cX6_isCell 11 = .ok (.invokestatic 48, 3) := by decide +kernel
theorem dX6_isCell_14 : decode cX6_isCell 14 = .ok (.ireturn, 1) := by decide +kernel
set_option maxRecDepth 20000 in
theorem ggX6_put_X6_isCell : GoodIn wsX6_put wsX6_isCell := goodIn_r _ [6, 1, 7, 8, 5, 9, 10, 11, 12, 34, 35, 36, 37, 38, 39, 40, 41, 42, 43, 44, 45, 46, 47, 48, 49, 50, 51, 52] (by decide +kernel) (by decide +kernel)
set_option maxRecDepth 20000 in
theorem gX6_put_X6_isCell : GoodIn wsX6_put (wsV RX6 95 RX6 yX6_isCell wsX6_isCell) := goodIn_app (goodIn_of _ (by decide +kernel)) ggX6_put_X6_isCell
set_option maxRecDepth 20000 in
theorem ggX6_put_X6_in : GoodIn wsX6_put wsX6_in := goodIn_r _ [12] (by decide +kernel) (by decide +kernel)
set_option maxRecDepth 20000 in
theorem gX6_put_X6_in : GoodIn wsX6_put (va_wsS RX6 48 yX6_in wsX6_in) := goodIn_app (goodIn_of _ (by decide +kernel)) ggX6_put_X6_in
set_option maxRecDepth 20000 in
theorem ggX6_put_X6_isHalf : GoodIn wsX6_put wsX6_isHalf := goodIn_r _ [15, 10, 11, 5, 12] (by decide +kernel) (by decide +kernel)
set_option maxRecDepth 20000 in
theorem gX6_put_X6_isHalf : GoodIn wsX6_put (va_wsS RX6 56 yX6_isHalf wsX6_isHalf) := goodIn_app (goodIn_of _ (by decide +kernel)) ggX6_put_X6_isHalf
set_option maxRecDepth 20000 in
theorem ggX6_put_X6_halves : GoodIn wsX6_put wsX6_halves := goodIn_r _ [18, 7, 8, 5, 9, 13, 14, 15, 10, 11, 12] (by decide +kernel) (by decide +kernel)
set_option maxRecDepth 20000 in
theorem gX6_put_X6_halves : GoodIn wsX6_put (va_wsS RX6 74 yX6_halves wsX6_halves) := goodIn_app (goodIn_of _ (by decide +kernel)) ggX6_put_X6_halves
set_option maxRecDepth 20000 in
theorem ggX6_put_X6_isDoor : GoodIn wsX6_put wsX6_isDoor := goodIn_r _ [21, 10, 11, 5, 12] (by decide +kernel) (by decide +kernel)
set_option maxRecDepth 20000 in
theorem gX6_put_X6_isDoor : GoodIn wsX6_put (va_wsS RX6 60 yX6_isDoor wsX6_isDoor) := goodIn_app (goodIn_of _ (by decide +kernel)) ggX6_put_X6_isDoor
set_option maxRecDepth 20000 in
theorem ggX6_put_X6_doors : GoodIn wsX6_put wsX6_doors := goodIn_r _ [24, 7, 8, 5, 9, 19, 20, 21, 10, 11, 12] (by decide +kernel) (by decide +kernel)
set_option maxRecDepth 20000 in
theorem gX6_put_X6_doors : GoodIn wsX6_put (va_wsS RX6 77 yX6_doors wsX6_doors) := goodIn_app (goodIn_of _ (by decide +kernel)) ggX6_put_X6_doors
set_option maxRecDepth 20000 in
theorem ggX6_put_X6_keeps : GoodIn wsX6_put wsX6_keeps := goodIn_r _ [28, 29, 30, 1, 31, 32, 5, 33, 34, 35, 36, 37, 38, 39, 40, 41, 42, 43, 44, 45, 46, 47, 48, 49, 50, 51, 52] (by decide +kernel) (by decide +kernel)
set_option maxRecDepth 20000 in
theorem gX6_put_X6_keeps : GoodIn wsX6_put (wsV RX6 98 RX6 yX6_keeps wsX6_keeps) := goodIn_app (goodIn_of _ (by decide +kernel)) ggX6_put_X6_keeps
theorem dX6_put_0 : decode cX6_put 0 = .ok (.aload_n 0, 1) := by decide +kernel
theorem dX6_put_1 : decode cX6_put 1 = .ok (.iload_n 1, 1) := by decide +kernel
theorem dX6_put_2 : decode cX6_put 2 = .ok (.invokevirtual 95, 3) := by decide +kernel
theorem dX6_put_5 : decode cX6_put 5 = .ok (.ifCond .eq 13, 3) := by decide +kernel
theorem dX6_put_8 : decode cX6_put 8 = .ok (.iload_n 2, 1) := by decide +kernel
theorem dX6_put_9 : decode cX6_put 9 = .ok (.iconst 0, 1) := by decide +kernel
theorem dX6_put_10 : decode cX6_put 10 = .ok (.bipush 7, 2) := by decide +kernel
theorem dX6_put_12 : decode cX6_put 12 = .ok (.invokestatic 48, 3) := by decide +kernel
theorem dX6_put_15 : decode cX6_put 15 = .ok (.ifCond .ne 5, 3) := by decide +kernel
theorem dX6_put_18 : decode cX6_put 18 = .ok (.iconst (-1), 1) := by decide +kernel
theorem dX6_put_19 : decode cX6_put 19 = .ok (.ireturn, 1) := by decide +kernel
theorem dX6_put_20 : decode cX6_put 20 = .ok (.aload_n 0, 1) := by decide +kernel
theorem dX6_put_21 : decode cX6_put 21 = .ok (.getfield 7, 3) := by decide +kernel
theorem dX6_put_24 : decode cX6_put 24 = .ok (.iconst 2, 1) := by decide +kernel
theorem dX6_put_25 : decode cX6_put 25 = .ok (.iload_n 1, 1) := by decide +kernel
theorem dX6_put_26 : decode cX6_put 26 = .ok (.iadd, 1) := by decide +kernel
theorem dX6_put_27 : decode cX6_put 27 = .ok (.iaload, 1) := by decide +kernel
theorem dX6_put_28 : decode cX6_put 28 = .ok (.istore_n 3, 1) := by decide +kernel
theorem dX6_put_29 : decode cX6_put 29 = .ok (.iload_n 3, 1) := by decide +kernel
theorem dX6_put_30 : decode cX6_put 30 = .ok (.iload_n 2, 1) := by decide +kernel
theorem dX6_put_31 : decode cX6_put 31 = .ok (.if_icmp .ne 6, 3) := by decide +kernel
theorem dX6_put_34 : decode cX6_put 34 = .ok (.bipush (-2), 2) := by decide +kernel
theorem dX6_put_36 : decode cX6_put 36 = .ok (.ireturn, 1) := by decide +kernel
theorem dX6_put_37 : decode cX6_put 37 = .ok (.iload_n 2, 1) := by decide +kernel
theorem dX6_put_38 : decode cX6_put 38 = .ok (.invokestatic 56, 3) := by decide +kernel
theorem dX6_put_41 : decode cX6_put 41 = .ok (.ifCond .eq 25, 3) := by decide +kernel
theorem dX6_put_44 : decode cX6_put 44 = .ok (.iload_n 3, 1) := by decide +kernel
theorem dX6_put_45 : decode cX6_put 45 = .ok (.invokestatic 56, 3) := by decide +kernel
theorem dX6_put_48 : decode cX6_put 48 = .ok (.ifCond .ne 18, 3) := by decide +kernel
theorem dX6_put_51 : decode cX6_put 51 = .ok (.aload_n 0, 1) := by decide +kernel
theorem dX6_put_52 : decode cX6_put 52 = .ok (.getfield 7, 3) := by decide +kernel
theorem dX6_put_55 : decode cX6_put 55 = .ok (.invokestatic 74, 3) := by decide +kernel
theorem dX6_put_58 : decode cX6_put 58 = .ok (.iconst 5, 1) := by decide +kernel
theorem dX6_put_59 : decode cX6_put 59 = .ok (.if_icmp .ne 7, 3) := by decide +kernel
theorem dX6_put_62 : decode cX6_put 62 = .ok (.iconst 1, 1) := by decide +kernel
theorem dX6_put_63 : decode cX6_put 63 = .ok (.goto 4, 3) := by decide +kernel
theorem dX6_put_66 : decode cX6_put 66 = .ok (.iconst 0, 1) := by decide +kernel
theorem dX6_put_67 : decode cX6_put 67 = .ok (.istore 4, 2) := by decide +kernel
theorem dX6_put_69 : decode cX6_put 69 = .ok (.iload_n 2, 1) := by decide +kernel
theorem dX6_put_70 : decode cX6_put 70 = .ok (.invokestatic 60, 3) := by decide +kernel
theorem dX6_put_73 : decode cX6_put 73 = .ok (.ifCond .eq 25, 3) := by decide +kernel
theorem dX6_put_76 : decode cX6_put 76 = .ok (.iload_n 3, 1) := by decide +kernel
theorem dX6_put_77 : decode cX6_put 77 = .ok (.invokestatic 60, 3) := by decide +kernel
theorem dX6_put_80 : decode cX6_put 80 = .ok (.ifCond .ne 18, 3) := by decide +kernel
theorem dX6_put_83 : decode cX6_put 83 = .ok (.aload_n 0, 1) := by decide +kernel
theorem dX6_put_84 : decode cX6_put 84 = .ok (.getfield 7, 3) := by decide +kernel
theorem dX6_put_87 : decode cX6_put 87 = .ok (.invokestatic 77, 3) := by decide +kernel
theorem dX6_put_90 : decode cX6_put 90 = .ok (.iconst 4, 1) := by decide +kernel
theorem dX6_put_91 : decode cX6_put 91 = .ok (.if_icmp .ne 7, 3) := by decide +kernel
theorem dX6_put_94 : decode cX6_put 94 = .ok (.iconst 1, 1) := by decide +kernel
theorem dX6_put_95 : decode cX6_put 95 = .ok (.goto 4, 3) := by decide +kernel
theorem dX6_put_98 : decode cX6_put 98 = .ok (.iconst 0, 1) := by decide +kernel
theorem dX6_put_99 : decode cX6_put 99 = .ok (.istore 5, 2) := by decide +kernel
theorem dX6_put_101 : decode cX6_put 101 = .ok (.iload 4, 2) := by decide +kernel
theorem dX6_put_103 : decode cX6_put 103 = .ok (.ifCond .ne 8, 3) := by decide +kernel
theorem dX6_put_106 : decode cX6_put 106 = .ok (.iload 5, 2) := by decide +kernel
theorem dX6_put_108 : decode cX6_put 108 = .ok (.ifCond .eq 6, 3) := by decide +kernel
theorem dX6_put_111 : decode cX6_put 111 = .ok (.bipush (-3), 2) := by decide +kernel
theorem dX6_put_113 : decode cX6_put 113 = .ok (.ireturn, 1) := by decide +kernel
theorem dX6_put_114 : decode cX6_put 114 = .ok (.aload_n 0, 1) := by decide +kernel
theorem dX6_put_115 : decode cX6_put 115 = .ok (.invokevirtual 98, 3) := by decide +kernel
theorem dX6_put_118 : decode cX6_put 118 = .ok (.aload_n 0, 1) := by decide +kernel
theorem dX6_put_119 : decode cX6_put 119 = .ok (.getfield 7, 3) := by decide +kernel
theorem dX6_put_122 : decode cX6_put 122 = .ok (.iconst 2, 1) := by decide +kernel
theorem dX6_put_123 : decode cX6_put 123 = .ok (.iload_n 1, 1) := by decide +kernel
theorem dX6_put_124 : decode cX6_put 124 = .ok (.iadd, 1) := by decide +kernel
theorem dX6_put_125 : decode cX6_put 125 = .ok (.iload_n 2, 1) := by decide +kernel
theorem dX6_put_126 : decode cX6_put 126 = .ok (.iastore, 1) := by decide +kernel
theorem dX6_put_127 : decode cX6_put 127 = .ok (.iload_n 3, 1) := by decide +kernel
theorem dX6_put_128 : decode cX6_put 128 = .ok (.ireturn, 1) := by decide +kernel
set_option maxRecDepth 20000 in
theorem ggX6_doorCell_X6_cells : GoodIn wsX6_doorCell wsX6_cells := goodIn_r _ [4] (by decide +kernel) (by decide +kernel)
set_option maxRecDepth 20000 in
theorem gX6_doorCell_X6_cells : GoodIn wsX6_doorCell (va_wsS RX6 52 yX6_cells wsX6_cells) := goodIn_app (goodIn_of _ (by decide +kernel)) ggX6_doorCell_X6_cells
set_option maxRecDepth 20000 in
theorem ggX6_doorCell_X6_isDoor : GoodIn wsX6_doorCell wsX6_isDoor := goodIn_r _ [7, 8, 9, 3, 10] (by decide +kernel) (by decide +kernel)
set_option maxRecDepth 20000 in
theorem gX6_doorCell_X6_isDoor : GoodIn wsX6_doorCell (va_wsS RX6 60 yX6_isDoor wsX6_isDoor) := goodIn_app (goodIn_of _ (by decide +kernel)) ggX6_doorCell_X6_isDoor
theorem dX6_doorCell_0 : decode cX6_doorCell 0 = .ok (.iload_n 1, 1) := by decide +kernel
theorem dX6_doorCell_1 : decode cX6_doorCell 1 = .ok (.istore_n 2, 1) := by decide +kernel
theorem dX6_doorCell_2 : decode cX6_doorCell 2 = .ok (.iconst 0, 1) := by decide +kernel
theorem dX6_doorCell_3 : decode cX6_doorCell 3 = .ok (.istore_n 3, 1) := by decide +kernel
theorem dX6_doorCell_4 : decode cX6_doorCell 4 = .ok (.iload_n 3, 1) := by decide +kernel
theorem dX6_doorCell_5 : decode cX6_doorCell 5 = .ok (.aload_n 0, 1) := by decide +kernel
theorem dX6_doorCell_6 : decode cX6_doorCell 6 = .ok (.invokestatic 52, 3) := by decide +kernel
theorem dX6_doorCell_9 : decode cX6_doorCell 9 = .ok (.if_icmp .ge 29, 3) := by decide +kernel
theorem dX6_doorCell_12 : decode cX6_doorCell 12 = .ok (.aload_n 0, 1) := by decide +kernel
theorem dX6_doorCell_13 : decode cX6_doorCell 13 = .ok (.iconst 2, 1) := by decide +kernel
theorem dX6_doorCell_14 : decode cX6_doorCell 14 = .ok (.iload_n 3, 1) := by decide +kernel
theorem dX6_doorCell_15 : decode cX6_doorCell 15 = .ok (.iadd, 1) := by decide +kernel
theorem dX6_doorCell_16 : decode cX6_doorCell 16 = .ok (.iaload, 1) := by decide +kernel
theorem dX6_doorCell_17 : decode cX6_doorCell 17 = .ok (.invokestatic 60, 3) := by decide +kernel
theorem dX6_doorCell_20 : decode cX6_doorCell 20 = .ok (.ifCond .eq 12, 3) := by decide +kernel
theorem dX6_doorCell_23 : decode cX6_doorCell 23 = .ok (.iload_n 2, 1) := by decide +kernel
theorem dX6_doorCell_24 : decode cX6_doorCell 24 = .ok (.ifCond .ne 5, 3) := by decide +kernel
theorem dX6_doorCell_27 : decode cX6_doorCell 27 = .ok (.iload_n 3, 1) := by decide +kernel
theorem dX6_doorCell_28 : decode cX6_doorCell 28 = .ok (.ireturn, 1) := by decide +kernel
theorem dX6_doorCell_29 : decode cX6_doorCell 29 = .ok (.iinc 2 (-1), 3) := by decide +kernel
theorem dX6_doorCell_32 : decode cX6_doorCell 32 = .ok (.iinc 3 1, 3) := by decide +kernel
theorem dX6_doorCell_35 : decode cX6_doorCell 35 = .ok (.goto (-31), 3) := by decide +kernel
theorem dX6_doorCell_38 : decode cX6_doorCell 38 = .ok (.bipush (-4), 2) := by decide +kernel
theorem dX6_doorCell_40 : decode cX6_doorCell 40 = .ok (.ireturn, 1) := by decide +kernel
set_option maxRecDepth 20000 in
theorem ggX6_openOf_X6_cells : GoodIn wsX6_openOf wsX6_cells := goodIn_r _ [4] (by decide +kernel) (by decide +kernel)
set_option maxRecDepth 20000 in
theorem gX6_openOf_X6_cells : GoodIn wsX6_openOf (va_wsS RX6 52 yX6_cells wsX6_cells) := goodIn_app (goodIn_of _ (by decide +kernel)) ggX6_openOf_X6_cells
theorem dX6_openOf_0 : decode cX6_openOf 0 = .ok (.iconst 0, 1) := by decide +kernel
theorem dX6_openOf_1 : decode cX6_openOf 1 = .ok (.istore_n 1, 1) := by decide +kernel
theorem dX6_openOf_2 : decode cX6_openOf 2 = .ok (.iconst 0, 1) := by decide +kernel
theorem dX6_openOf_3 : decode cX6_openOf 3 = .ok (.istore_n 2, 1) := by decide +kernel
theorem dX6_openOf_4 : decode cX6_openOf 4 = .ok (.iload_n 2, 1) := by decide +kernel
theorem dX6_openOf_5 : decode cX6_openOf 5 = .ok (.aload_n 0, 1) := by decide +kernel
theorem dX6_openOf_6 : decode cX6_openOf 6 = .ok (.invokestatic 52, 3) := by decide +kernel
theorem dX6_openOf_9 : decode cX6_openOf 9 = .ok (.if_icmp .ge 27, 3) := by decide +kernel
theorem dX6_openOf_12 : decode cX6_openOf 12 = .ok (.iload_n 1, 1) := by decide +kernel
theorem dX6_openOf_13 : decode cX6_openOf 13 = .ok (.aload_n 0, 1) := by decide +kernel
theorem dX6_openOf_14 : decode cX6_openOf 14 = .ok (.iconst 2, 1) := by decide +kernel
theorem dX6_openOf_15 : decode cX6_openOf 15 = .ok (.iload_n 2, 1) := by decide +kernel
theorem dX6_openOf_16 : decode cX6_openOf 16 = .ok (.iadd, 1) := by decide +kernel
theorem dX6_openOf_17 : decode cX6_openOf 17 = .ok (.iaload, 1) := by decide +kernel
theorem dX6_openOf_18 : decode cX6_openOf 18 = .ok (.bipush 6, 2) := by decide +kernel
theorem dX6_openOf_20 : decode cX6_openOf 20 = .ok (.if_icmp .ne 7, 3) := by decide +kernel
theorem dX6_openOf_23 : decode cX6_openOf 23 = .ok (.iconst 1, 1) := by decide +kernel
theorem dX6_openOf_24 : decode cX6_openOf 24 = .ok (.goto 4, 3) := by decide +kernel
theorem dX6_openOf_27 : decode cX6_openOf 27 = .ok (.iconst 0, 1) := by decide +kernel
theorem dX6_openOf_28 : decode cX6_openOf 28 = .ok (.iadd, 1) := by decide +kernel
theorem dX6_openOf_29 : decode cX6_openOf 29 = .ok (.istore_n 1, 1) := by decide +kernel
theorem dX6_openOf_30 : decode cX6_openOf 30 = .ok (.iinc 2 1, 3) := by decide +kernel
theorem dX6_openOf_33 : decode cX6_openOf 33 = .ok (.goto (-29), 3) := by decide +kernel
theorem dX6_openOf_36 : decode cX6_openOf 36 = .ok (.iload_n 1, 1) := by decide +kernel
theorem dX6_openOf_37 : decode cX6_openOf 37 = .ok (.ireturn, 1) := by decide +kernel
set_option maxRecDepth 20000 in
theorem ggX6_isTheDoor_X6_doors : GoodIn wsX6_isTheDoor wsX6_doors := goodIn_r _ [5, 6, 7, 4, 8, 9, 10, 11, 12, 13, 14] (by decide +kernel) (by decide +kernel)
set_option maxRecDepth 20000 in
theorem gX6_isTheDoor_X6_doors : GoodIn wsX6_isTheDoor (va_wsS RX6 77 yX6_doors wsX6_doors) := goodIn_app (goodIn_of _ (by decide +kernel)) ggX6_isTheDoor_X6_doors
set_option maxRecDepth 20000 in
theorem ggX6_isTheDoor_X6_in : GoodIn wsX6_isTheDoor wsX6_in := goodIn_r _ [14] (by decide +kernel) (by decide +kernel)
set_option maxRecDepth 20000 in
theorem gX6_isTheDoor_X6_in : GoodIn wsX6_isTheDoor (va_wsS RX6 48 yX6_in wsX6_in) := goodIn_app (goodIn_of _ (by decide +kernel)) ggX6_isTheDoor_X6_in
theorem dX6_isTheDoor_0 : decode cX6_isTheDoor 0 = .ok (.iload_n 1, 1) := by decide +kernel
theorem dX6_isTheDoor_1 : decode cX6_isTheDoor 1 = .ok (.iconst 0, 1) := by decide +kernel
theorem dX6_isTheDoor_2 : decode cX6_isTheDoor 2 = .ok (.aload_n 0, 1) := by decide +kernel
theorem dX6_isTheDoor_3 : decode cX6_isTheDoor 3 = .ok (.getfield 7, 3) := by decide +kernel
theorem dX6_isTheDoor_6 : decode cX6_isTheDoor 6 = .ok (.invokestatic 77, 3) := by decide +kernel
theorem dX6_isTheDoor_9 : decode cX6_isTheDoor 9 = .ok (.iconst 1, 1) := by decide +kernel
theorem dX6_isTheDoor_10 : decode cX6_isTheDoor 10 = .ok (.isub, 1) := by decide +kernel
theorem dX6_isTheDoor_11 : decode cX6_isTheDoor 11 = .ok (.invokestatic 48, 3) := by decide +kernel
theorem dX6_isTheDoor_14 : decode cX6_isTheDoor 14 = .ok (.ireturn, 1) := by decide +kernel
set_option maxRecDepth 20000 in
theorem ggX6_door_X6_isTheDoor : GoodIn wsX6_door wsX6_isTheDoor := goodIn_r _ [6, 1, 7, 8, 5, 9, 10, 11, 12, 13, 14, 15, 16, 17, 18, 34, 35, 36, 37, 38, 39, 40, 41, 42, 43, 44, 45, 46, 47, 48, 49, 50, 51, 52] (by decide +kernel) (by decide +kernel)
set_option maxRecDepth 20000 in
theorem gX6_door_X6_isTheDoor : GoodIn wsX6_door (wsV RX6 101 RX6 yX6_isTheDoor wsX6_isTheDoor) := goodIn_app (goodIn_of _ (by decide +kernel)) ggX6_door_X6_isTheDoor
set_option maxRecDepth 20000 in
theorem ggX6_door_X6_in : GoodIn wsX6_door wsX6_in := goodIn_r _ [18] (by decide +kernel) (by decide +kernel)
set_option maxRecDepth 20000 in
theorem gX6_door_X6_in : GoodIn wsX6_door (va_wsS RX6 48 yX6_in wsX6_in) := goodIn_app (goodIn_of _ (by decide +kernel)) ggX6_door_X6_in
set_option maxRecDepth 20000 in
theorem ggX6_door_X6_doorCell : GoodIn wsX6_door wsX6_doorCell := goodIn_r _ [21, 10, 11, 5, 12, 13, 14, 15, 16, 17, 18] (by decide +kernel) (by decide +kernel)
set_option maxRecDepth 20000 in
theorem gX6_door_X6_doorCell : GoodIn wsX6_door (va_wsS RX6 104 yX6_doorCell wsX6_doorCell) := goodIn_app (goodIn_of _ (by decide +kernel)) ggX6_door_X6_doorCell
set_option maxRecDepth 20000 in
theorem ggX6_door_X6_keeps : GoodIn wsX6_door wsX6_keeps := goodIn_r _ [25, 26, 27, 1, 28, 29, 5, 30, 34, 35, 36, 37, 38, 39, 40, 41, 42, 43, 44, 45, 46, 47, 48, 49, 50, 51, 52] (by decide +kernel) (by decide +kernel)
set_option maxRecDepth 20000 in
theorem gX6_door_X6_keeps : GoodIn wsX6_door (wsV RX6 98 RX6 yX6_keeps wsX6_keeps) := goodIn_app (goodIn_of _ (by decide +kernel)) ggX6_door_X6_keeps
set_option maxRecDepth 20000 in
theorem ggX6_door_X6_openOf : GoodIn wsX6_door wsX6_openOf := goodIn_r _ [33, 10, 11, 5, 12] (by decide +kernel) (by decide +kernel)
set_option maxRecDepth 20000 in
theorem gX6_door_X6_openOf : GoodIn wsX6_door (va_wsS RX6 108 yX6_openOf wsX6_openOf) := goodIn_app (goodIn_of _ (by decide +kernel)) ggX6_door_X6_openOf
theorem dX6_door_0 : decode cX6_door 0 = .ok (.aload_n 0, 1) := by decide +kernel
theorem dX6_door_1 : decode cX6_door 1 = .ok (.iload_n 1, 1) := by decide +kernel
theorem dX6_door_2 : decode cX6_door 2 = .ok (.invokevirtual 101, 3) := by decide +kernel
theorem dX6_door_5 : decode cX6_door 5 = .ok (.ifCond .eq 12, 3) := by decide +kernel
theorem dX6_door_8 : decode cX6_door 8 = .ok (.iload_n 2, 1) := by decide +kernel
theorem dX6_door_9 : decode cX6_door 9 = .ok (.iconst 0, 1) := by decide +kernel
theorem dX6_door_10 : decode cX6_door 10 = .ok (.iconst 1, 1) := by decide +kernel
theorem dX6_door_11 : decode cX6_door 11 = .ok (.invokestatic 48, 3) := by decide +kernel
theorem dX6_door_14 : decode cX6_door 14 = .ok (.ifCond .ne 5, 3) := by decide +kernel
theorem dX6_door_17 : decode cX6_door 17 = .ok (.iconst (-1), 1) := by decide +kernel
theorem dX6_door_18 : decode cX6_door 18 = .ok (.ireturn, 1) := by decide +kernel
theorem dX6_door_19 : decode cX6_door 19 = .ok (.aload_n 0, 1) := by decide +kernel
theorem dX6_door_20 : decode cX6_door 20 = .ok (.getfield 7, 3) := by decide +kernel
theorem dX6_door_23 : decode cX6_door 23 = .ok (.iload_n 1, 1) := by decide +kernel
theorem dX6_door_24 : decode cX6_door 24 = .ok (.invokestatic 104, 3) := by decide +kernel
theorem dX6_door_27 : decode cX6_door 27 = .ok (.istore_n 3, 1) := by decide +kernel
theorem dX6_door_28 : decode cX6_door 28 = .ok (.aload_n 0, 1) := by decide +kernel
theorem dX6_door_29 : decode cX6_door 29 = .ok (.getfield 7, 3) := by decide +kernel
theorem dX6_door_32 : decode cX6_door 32 = .ok (.iconst 2, 1) := by decide +kernel
theorem dX6_door_33 : decode cX6_door 33 = .ok (.iload_n 3, 1) := by decide +kernel
theorem dX6_door_34 : decode cX6_door 34 = .ok (.iadd, 1) := by decide +kernel
theorem dX6_door_35 : decode cX6_door 35 = .ok (.iaload, 1) := by decide +kernel
theorem dX6_door_36 : decode cX6_door 36 = .ok (.bipush 7, 2) := by decide +kernel
theorem dX6_door_38 : decode cX6_door 38 = .ok (.iload_n 2, 1) := by decide +kernel
theorem dX6_door_39 : decode cX6_door 39 = .ok (.isub, 1) := by decide +kernel
theorem dX6_door_40 : decode cX6_door 40 = .ok (.if_icmp .ne 6, 3) := by decide +kernel
theorem dX6_door_43 : decode cX6_door 43 = .ok (.bipush (-2), 2) := by decide +kernel
theorem dX6_door_45 : decode cX6_door 45 = .ok (.ireturn, 1) := by decide +kernel
theorem dX6_door_46 : decode cX6_door 46 = .ok (.aload_n 0, 1) := by decide +kernel
theorem dX6_door_47 : decode cX6_door 47 = .ok (.invokevirtual 98, 3) := by decide +kernel
theorem dX6_door_50 : decode cX6_door 50 = .ok (.aload_n 0, 1) := by decide +kernel
theorem dX6_door_51 : decode cX6_door 51 = .ok (.getfield 7, 3) := by decide +kernel
theorem dX6_door_54 : decode cX6_door 54 = .ok (.iconst 2, 1) := by decide +kernel
theorem dX6_door_55 : decode cX6_door 55 = .ok (.iload_n 3, 1) := by decide +kernel
theorem dX6_door_56 : decode cX6_door 56 = .ok (.iadd, 1) := by decide +kernel
theorem dX6_door_57 : decode cX6_door 57 = .ok (.bipush 7, 2) := by decide +kernel
theorem dX6_door_59 : decode cX6_door 59 = .ok (.iload_n 2, 1) := by decide +kernel
theorem dX6_door_60 : decode cX6_door 60 = .ok (.isub, 1) := by decide +kernel
theorem dX6_door_61 : decode cX6_door 61 = .ok (.iastore, 1) := by decide +kernel
theorem dX6_door_62 : decode cX6_door 62 = .ok (.aload_n 0, 1) := by decide +kernel
theorem dX6_door_63 : decode cX6_door 63 = .ok (.getfield 7, 3) := by decide +kernel
theorem dX6_door_66 : decode cX6_door 66 = .ok (.invokestatic 108, 3) := by decide +kernel
theorem dX6_door_69 : decode cX6_door 69 = .ok (.ireturn, 1) := by decide +kernel
set_option maxRecDepth 20000 in
theorem ggX6_turn_X6_in : GoodIn wsX6_turn wsX6_in := goodIn_r _ [6] (by decide +kernel) (by decide +kernel)
set_option maxRecDepth 20000 in
theorem gX6_turn_X6_in : GoodIn wsX6_turn (va_wsS RX6 48 yX6_in wsX6_in) := goodIn_app (goodIn_of _ (by decide +kernel)) ggX6_turn_X6_in
set_option maxRecDepth 20000 in
theorem ggX6_turn_X6_keeps : GoodIn wsX6_turn wsX6_keeps := goodIn_r _ [10, 11, 12, 1, 13, 14, 5, 15, 19, 20, 21, 22, 23, 24, 25, 26, 27, 28, 29, 30, 31, 32, 33, 34, 35, 36, 37] (by decide +kernel) (by decide +kernel)
set_option maxRecDepth 20000 in
theorem gX6_turn_X6_keeps : GoodIn wsX6_turn (wsV RX6 98 RX6 yX6_keeps wsX6_keeps) := goodIn_app (goodIn_of _ (by decide +kernel)) ggX6_turn_X6_keeps
set_option maxRecDepth 20000 in
theorem ggX6_turn_X6_isHalf : GoodIn wsX6_turn wsX6_isHalf := goodIn_r _ [18, 3, 4, 5, 6] (by decide +kernel) (by decide +kernel)
set_option maxRecDepth 20000 in
theorem gX6_turn_X6_isHalf : GoodIn wsX6_turn (va_wsS RX6 56 yX6_isHalf wsX6_isHalf) := goodIn_app (goodIn_of _ (by decide +kernel)) ggX6_turn_X6_isHalf
set_option maxRecDepth 20000 in
theorem ggX6_turn_X6_copies : GoodIn wsX6_turn wsX6_copies := goodIn_r _ [15] (by decide +kernel) (by decide +kernel)
set_option maxRecDepth 20000 in
theorem gX6_turn_X6_copies : GoodIn wsX6_turn (va_wsS RX6 88 yX6_copies wsX6_copies) := goodIn_app (goodIn_of _ (by decide +kernel)) ggX6_turn_X6_copies
theorem dX6_turn_0 : decode cX6_turn 0 = .ok (.aload_n 0, 1) := by decide +kernel
theorem dX6_turn_1 : decode cX6_turn 1 = .ok (.getfield 7, 3) := by decide +kernel
theorem dX6_turn_4 : decode cX6_turn 4 = .ok (.iconst 0, 1) := by decide +kernel
theorem dX6_turn_5 : decode cX6_turn 5 = .ok (.iaload, 1) := by decide +kernel
theorem dX6_turn_6 : decode cX6_turn 6 = .ok (.istore_n 1, 1) := by decide +kernel
theorem dX6_turn_7 : decode cX6_turn 7 = .ok (.aload_n 0, 1) := by decide +kernel
theorem dX6_turn_8 : decode cX6_turn 8 = .ok (.getfield 7, 3) := by decide +kernel
theorem dX6_turn_11 : decode cX6_turn 11 = .ok (.iconst 1, 1) := by decide +kernel
theorem dX6_turn_12 : decode cX6_turn 12 = .ok (.iaload, 1) := by decide +kernel
theorem dX6_turn_13 : decode cX6_turn 13 = .ok (.istore_n 2, 1) := by decide +kernel
theorem dX6_turn_14 : decode cX6_turn 14 = .ok (.iload_n 2, 1) := by decide +kernel
theorem dX6_turn_15 : decode cX6_turn 15 = .ok (.iconst 2, 1) := by decide +kernel
theorem dX6_turn_16 : decode cX6_turn 16 = .ok (.iconst 5, 1) := by decide +kernel
theorem dX6_turn_17 : decode cX6_turn 17 = .ok (.invokestatic 48, 3) := by decide +kernel
theorem dX6_turn_20 : decode cX6_turn 20 = .ok (.ifCond .eq 8, 3) := by decide +kernel
theorem dX6_turn_23 : decode cX6_turn 23 = .ok (.iload_n 1, 1) := by decide +kernel
theorem dX6_turn_24 : decode cX6_turn 24 = .ok (.iconst 4, 1) := by decide +kernel
theorem dX6_turn_25 : decode cX6_turn 25 = .ok (.if_icmp .le 6, 3) := by decide +kernel
theorem dX6_turn_28 : decode cX6_turn 28 = .ok (.bipush (-2), 2) := by decide +kernel
theorem dX6_turn_30 : decode cX6_turn 30 = .ok (.ireturn, 1) := by decide +kernel
theorem dX6_turn_31 : decode cX6_turn 31 = .ok (.aload_n 0, 1) := by decide +kernel
theorem dX6_turn_32 : decode cX6_turn 32 = .ok (.invokevirtual 98, 3) := by decide +kernel
theorem dX6_turn_35 : decode cX6_turn 35 = .ok (.iconst 0, 1) := by decide +kernel
theorem dX6_turn_36 : decode cX6_turn 36 = .ok (.istore_n 3, 1) := by decide +kernel
theorem dX6_turn_37 : decode cX6_turn 37 = .ok (.iload_n 3, 1) := by decide +kernel
theorem dX6_turn_38 : decode cX6_turn 38 = .ok (.iload_n 2, 1) := by decide +kernel
theorem dX6_turn_39 : decode cX6_turn 39 = .ok (.if_icmp .ge 95, 3) := by decide +kernel
theorem dX6_turn_42 : decode cX6_turn 42 = .ok (.iconst 0, 1) := by decide +kernel
theorem dX6_turn_43 : decode cX6_turn 43 = .ok (.istore 4, 2) := by decide +kernel
theorem dX6_turn_45 : decode cX6_turn 45 = .ok (.iload 4, 2) := by decide +kernel
theorem dX6_turn_47 : decode cX6_turn 47 = .ok (.iload_n 1, 1) := by decide +kernel
theorem dX6_turn_48 : decode cX6_turn 48 = .ok (.if_icmp .ge 80, 3) := by decide +kernel
theorem dX6_turn_51 : decode cX6_turn 51 = .ok (.aload_n 0, 1) := by decide +kernel
theorem dX6_turn_52 : decode cX6_turn 52 = .ok (.getfield 7, 3) := by decide +kernel
theorem dX6_turn_55 : decode cX6_turn 55 = .ok (.iconst 2, 1) := by decide +kernel
theorem dX6_turn_56 : decode cX6_turn 56 = .ok (.iload_n 1, 1) := by decide +kernel
theorem dX6_turn_57 : decode cX6_turn 57 = .ok (.iload_n 3, 1) := by decide +kernel
theorem dX6_turn_58 : decode cX6_turn 58 = .ok (.imul, 1) := by decide +kernel
theorem dX6_turn_59 : decode cX6_turn 59 = .ok (.iadd, 1) := by decide +kernel
theorem dX6_turn_60 : decode cX6_turn 60 = .ok (.iload 4, 2) := by decide +kernel
theorem dX6_turn_62 : decode cX6_turn 62 = .ok (.iadd, 1) := by decide +kernel
theorem dX6_turn_63 : decode cX6_turn 63 = .ok (.iaload, 1) := by decide +kernel
theorem dX6_turn_64 : decode cX6_turn 64 = .ok (.istore 5, 2) := by decide +kernel
theorem dX6_turn_66 : decode cX6_turn 66 = .ok (.iload 5, 2) := by decide +kernel
theorem dX6_turn_68 : decode cX6_turn 68 = .ok (.iconst 1, 1) := by decide +kernel
theorem dX6_turn_69 : decode cX6_turn 69 = .ok (.iconst 2, 1) := by decide +kernel
theorem dX6_turn_70 : decode cX6_turn 70 = .ok (.invokestatic 48, 3) := by decide +kernel
theorem dX6_turn_73 : decode cX6_turn 73 = .ok (.ifCond .eq 10, 3) := by decide +kernel
theorem dX6_turn_76 : decode cX6_turn 76 = .ok (.iconst 3, 1) := by decide +kernel
theorem dX6_turn_77 : decode cX6_turn 77 = .ok (.iload 5, 2) := by decide +kernel
theorem dX6_turn_79 : decode cX6_turn 79 = .ok (.isub, 1) := by decide +kernel
theorem dX6_turn_80 : decode cX6_turn 80 = .ok (.goto 21, 3) := by decide +kernel
theorem dX6_turn_83 : decode cX6_turn 83 = .ok (.iload 5, 2) := by decide +kernel
theorem dX6_turn_85 : decode cX6_turn 85 = .ok (.invokestatic 56, 3) := by decide +kernel
theorem dX6_turn_88 : decode cX6_turn 88 = .ok (.ifCond .eq 11, 3) := by decide +kernel
theorem dX6_turn_91 : decode cX6_turn 91 = .ok (.bipush 7, 2) := by decide +kernel
theorem dX6_turn_93 : decode cX6_turn 93 = .ok (.iload 5, 2) := by decide +kernel
theorem dX6_turn_95 : decode cX6_turn 95 = .ok (.isub, 1) := by decide +kernel
theorem dX6_turn_96 : decode cX6_turn 96 = .ok (.goto 5, 3) := by decide +kernel
theorem dX6_turn_99 : decode cX6_turn 99 = .ok (.iload 5, 2) := by decide +kernel
theorem dX6_turn_101 : decode cX6_turn 101 = .ok (.istore 6, 2) := by decide +kernel
theorem dX6_turn_103 : decode cX6_turn 103 = .ok (.aload_n 0, 1) := by decide +kernel
theorem dX6_turn_104 : decode cX6_turn 104 = .ok (.getfield 16, 3) := by decide +kernel
theorem dX6_turn_107 : decode cX6_turn 107 = .ok (.iconst 2, 1) := by decide +kernel
theorem dX6_turn_108 : decode cX6_turn 108 = .ok (.iload_n 2, 1) := by decide +kernel
theorem dX6_turn_109 : decode cX6_turn 109 = .ok (.iload 4, 2) := by decide +kernel
theorem dX6_turn_111 : decode cX6_turn 111 = .ok (.imul, 1) := by decide +kernel
theorem dX6_turn_112 : decode cX6_turn 112 = .ok (.iadd, 1) := by decide +kernel
theorem dX6_turn_113 : decode cX6_turn 113 = .ok (.iload_n 2, 1) := by decide +kernel
theorem dX6_turn_114 : decode cX6_turn 114 = .ok (.iadd, 1) := by decide +kernel
theorem dX6_turn_115 : decode cX6_turn 115 = .ok (.iconst 1, 1) := by decide +kernel
theorem dX6_turn_116 : decode cX6_turn 116 = .ok (.isub, 1) := by decide +kernel
theorem dX6_turn_117 : decode cX6_turn 117 = .ok (.iload_n 3, 1) := by decide +kernel
theorem dX6_turn_118 : decode cX6_turn 118 = .ok (.isub, 1) := by decide +kernel
theorem dX6_turn_119 : decode cX6_turn 119 = .ok (.iload 6, 2) := by decide +kernel
theorem dX6_turn_121 : decode cX6_turn 121 = .ok (.iastore, 1) := by decide +kernel
theorem dX6_turn_122 : decode cX6_turn 122 = .ok (.iinc 4 1, 3) := by decide +kernel
theorem dX6_turn_125 : decode cX6_turn 125 = .ok (.goto (-80), 3) := by decide +kernel
theorem dX6_turn_128 : decode cX6_turn 128 = .ok (.iinc 3 1, 3) := by decide +kernel
theorem dX6_turn_131 : decode cX6_turn 131 = .ok (.goto (-94), 3) := by decide +kernel
theorem dX6_turn_134 : decode cX6_turn 134 = .ok (.aload_n 0, 1) := by decide +kernel
theorem dX6_turn_135 : decode cX6_turn 135 = .ok (.getfield 16, 3) := by decide +kernel
theorem dX6_turn_138 : decode cX6_turn 138 = .ok (.iconst 0, 1) := by decide +kernel
theorem dX6_turn_139 : decode cX6_turn 139 = .ok (.iload_n 2, 1) := by decide +kernel
theorem dX6_turn_140 : decode cX6_turn 140 = .ok (.iastore, 1) := by decide +kernel
theorem dX6_turn_141 : decode cX6_turn 141 = .ok (.aload_n 0, 1) := by decide +kernel
theorem dX6_turn_142 : decode cX6_turn 142 = .ok (.getfield 16, 3) := by decide +kernel
theorem dX6_turn_145 : decode cX6_turn 145 = .ok (.iconst 1, 1) := by decide +kernel
theorem dX6_turn_146 : decode cX6_turn 146 = .ok (.iload_n 1, 1) := by decide +kernel
theorem dX6_turn_147 : decode cX6_turn 147 = .ok (.iastore, 1) := by decide +kernel
theorem dX6_turn_148 : decode cX6_turn 148 = .ok (.aload_n 0, 1) := by decide +kernel
theorem dX6_turn_149 : decode cX6_turn 149 = .ok (.getfield 16, 3) := by decide +kernel
theorem dX6_turn_152 : decode cX6_turn 152 = .ok (.iconst 0, 1) := by decide +kernel
theorem dX6_turn_153 : decode cX6_turn 153 = .ok (.aload_n 0, 1) := by decide +kernel
theorem dX6_turn_154 : decode cX6_turn 154 = .ok (.getfield 7, 3) := by decide +kernel
theorem dX6_turn_157 : decode cX6_turn 157 = .ok (.iconst 0, 1) := by decide +kernel
theorem dX6_turn_158 : decode cX6_turn 158 = .ok (.invokestatic 88, 3) := by decide +kernel
theorem dX6_turn_161 : decode cX6_turn 161 = .ok (.iload_n 2, 1) := by decide +kernel
theorem dX6_turn_162 : decode cX6_turn 162 = .ok (.ireturn, 1) := by decide +kernel
set_option maxRecDepth 20000 in
theorem ggX6_cell_X6_isCell : GoodIn wsX6_cell wsX6_isCell := goodIn_r _ [6, 1, 7, 8, 5, 9, 10, 11, 12, 13, 14, 15, 16, 17, 18, 19, 20, 21, 22, 23, 24, 25, 26, 27, 28, 29, 30, 31] (by decide +kernel) (by decide +kernel)
set_option maxRecDepth 20000 in
theorem gX6_cell_X6_isCell : GoodIn wsX6_cell (wsV RX6 95 RX6 yX6_isCell wsX6_isCell) := goodIn_app (goodIn_of _ (by decide +kernel)) ggX6_cell_X6_isCell
theorem dX6_cell_0 : decode cX6_cell 0 = .ok (.aload_n 0, 1) := by decide +kernel
theorem dX6_cell_1 : decode cX6_cell 1 = .ok (.iload_n 1, 1) := by decide +kernel
theorem dX6_cell_2 : decode cX6_cell 2 = .ok (.invokevirtual 95, 3) := by decide +kernel
theorem dX6_cell_5 : decode cX6_cell 5 = .ok (.ifCond .eq 14, 3) := by decide +kernel
theorem dX6_cell_8 : decode cX6_cell 8 = .ok (.aload_n 0, 1) := by decide +kernel
theorem dX6_cell_9 : decode cX6_cell 9 = .ok (.getfield 7, 3) := by decide +kernel
theorem dX6_cell_12 : decode cX6_cell 12 = .ok (.iconst 2, 1) := by decide +kernel
theorem dX6_cell_13 : decode cX6_cell 13 = .ok (.iload_n 1, 1) := by decide +kernel
theorem dX6_cell_14 : decode cX6_cell 14 = .ok (.iadd, 1) := by decide +kernel
theorem dX6_cell_15 : decode cX6_cell 15 = .ok (.iaload, 1) := by decide +kernel
theorem dX6_cell_16 : decode cX6_cell 16 = .ok (.goto 4, 3) := by decide +kernel
theorem dX6_cell_19 : decode cX6_cell 19 = .ok (.iconst (-1), 1) := by decide +kernel
theorem dX6_cell_20 : decode cX6_cell 20 = .ok (.ireturn, 1) := by decide +kernel
set_option maxRecDepth 20000 in
theorem ggX6_doorAt_X6_isTheDoor : GoodIn wsX6_doorAt wsX6_isTheDoor := goodIn_r _ [6, 1, 7, 8, 5, 9, 10, 11, 12, 13, 14, 15, 16, 17, 18, 22, 23, 24, 25, 26, 27, 28, 29, 30, 31, 32, 33, 34, 35, 36, 37, 38, 39, 40] (by decide +kernel) (by decide +kernel)
set_option maxRecDepth 20000 in
theorem gX6_doorAt_X6_isTheDoor : GoodIn wsX6_doorAt (wsV RX6 101 RX6 yX6_isTheDoor wsX6_isTheDoor) := goodIn_app (goodIn_of _ (by decide +kernel)) ggX6_doorAt_X6_isTheDoor
set_option maxRecDepth 20000 in
theorem ggX6_doorAt_X6_doorCell : GoodIn wsX6_doorAt wsX6_doorCell := goodIn_r _ [21, 10, 11, 5, 12, 13, 14, 15, 16, 17, 18] (by decide +kernel) (by decide +kernel)
set_option maxRecDepth 20000 in
theorem gX6_doorAt_X6_doorCell : GoodIn wsX6_doorAt (va_wsS RX6 104 yX6_doorCell wsX6_doorCell) := goodIn_app (goodIn_of _ (by decide +kernel)) ggX6_doorAt_X6_doorCell
theorem dX6_doorAt_0 : decode cX6_doorAt 0 = .ok (.aload_n 0, 1) := by decide +kernel
theorem dX6_doorAt_1 : decode cX6_doorAt 1 = .ok (.iload_n 1, 1) := by decide +kernel
theorem dX6_doorAt_2 : decode cX6_doorAt 2 = .ok (.invokevirtual 101, 3) := by decide +kernel
theorem dX6_doorAt_5 : decode cX6_doorAt 5 = .ok (.ifCond .eq 14, 3) := by decide +kernel
theorem dX6_doorAt_8 : decode cX6_doorAt 8 = .ok (.aload_n 0, 1) := by decide +kernel
theorem dX6_doorAt_9 : decode cX6_doorAt 9 = .ok (.getfield 7, 3) := by decide +kernel
theorem dX6_doorAt_12 : decode cX6_doorAt 12 = .ok (.iload_n 1, 1) := by decide +kernel
theorem dX6_doorAt_13 : decode cX6_doorAt 13 = .ok (.invokestatic 104, 3) := by decide +kernel
theorem dX6_doorAt_16 : decode cX6_doorAt 16 = .ok (.goto 4, 3) := by decide +kernel
theorem dX6_doorAt_19 : decode cX6_doorAt 19 = .ok (.iconst (-1), 1) := by decide +kernel
theorem dX6_doorAt_20 : decode cX6_doorAt 20 = .ok (.ireturn, 1) := by decide +kernel
theorem dX6_ports_0 : decode cX6_ports 0 = .ok (.iconst 2, 1) := by decide +kernel
theorem dX6_ports_1 : decode cX6_ports 1 = .ok (.aload_n 0, 1) := by decide +kernel
theorem dX6_ports_2 : decode cX6_ports 2 = .ok (.iconst 0, 1) := by decide +kernel
theorem dX6_ports_3 : decode cX6_ports 3 = .ok (.iaload, 1) := by decide +kernel
theorem dX6_ports_4 : decode cX6_ports 4 = .ok (.aload_n 0, 1) := by decide +kernel
theorem dX6_ports_5 : decode cX6_ports 5 = .ok (.iconst 1, 1) := by decide +kernel
theorem dX6_ports_6 : decode cX6_ports 6 = .ok (.iaload, 1) := by decide +kernel
theorem dX6_ports_7 : decode cX6_ports 7 = .ok (.iadd, 1) := by decide +kernel
theorem dX6_ports_8 : decode cX6_ports 8 = .ok (.imul, 1) := by decide +kernel
theorem dX6_ports_9 : decode cX6_ports 9 = .ok (.ireturn, 1) := by decide +kernel
set_option maxRecDepth 20000 in
theorem ggX6_isPort_X6_ports : GoodIn wsX6_isPort wsX6_ports := goodIn_r _ [5] (by decide +kernel) (by decide +kernel)
set_option maxRecDepth 20000 in
theorem gX6_isPort_X6_ports : GoodIn wsX6_isPort (va_wsS RX6 111 yX6_ports wsX6_ports) := goodIn_app (goodIn_of _ (by decide +kernel)) ggX6_isPort_X6_ports
set_option maxRecDepth 20000 in
theorem ggX6_isPort_X6_in : GoodIn wsX6_isPort wsX6_in := goodIn_r _ [8] (by decide +kernel) (by decide +kernel)
set_option maxRecDepth 20000 in
theorem gX6_isPort_X6_in : GoodIn wsX6_isPort (va_wsS RX6 48 yX6_in wsX6_in) := goodIn_app (goodIn_of _ (by decide +kernel)) ggX6_isPort_X6_in
theorem dX6_isPort_0 : decode cX6_isPort 0 = .ok (.iload_n 1, 1) := by decide +kernel
theorem dX6_isPort_1 : decode cX6_isPort 1 = .ok (.iconst 0, 1) := by decide +kernel
theorem dX6_isPort_2 : decode cX6_isPort 2 = .ok (.aload_n 0, 1) := by decide +kernel
theorem dX6_isPort_3 : decode cX6_isPort 3 = .ok (.getfield 7, 3) := by decide +kernel
theorem dX6_isPort_6 : decode cX6_isPort 6 = .ok (.invokestatic 111, 3) := by decide +kernel
theorem dX6_isPort_9 : decode cX6_isPort 9 = .ok (.iconst 1, 1) := by decide +kernel
theorem dX6_isPort_10 : decode cX6_isPort 10 = .ok (.isub, 1) := by decide +kernel
theorem dX6_isPort_11 : decode cX6_isPort 11 = .ok (.invokestatic 48, 3) := by decide +kernel
theorem dX6_isPort_14 : decode cX6_isPort 14 = .ok (.ireturn, 1) := by decide +kernel
theorem dX6_portState_0 : decode cX6_portState 0 = .ok (.aload_n 0, 1) := by decide +kernel
theorem dX6_portState_1 : decode cX6_portState 1 = .ok (.iconst 0, 1) := by decide +kernel
theorem dX6_portState_2 : decode cX6_portState 2 = .ok (.iaload, 1) := by decide +kernel
theorem dX6_portState_3 : decode cX6_portState 3 = .ok (.istore_n 2, 1) := by decide +kernel
theorem dX6_portState_4 : decode cX6_portState 4 = .ok (.aload_n 0, 1) := by decide +kernel
theorem dX6_portState_5 : decode cX6_portState 5 = .ok (.iconst 1, 1) := by decide +kernel
theorem dX6_portState_6 : decode cX6_portState 6 = .ok (.iaload, 1) := by decide +kernel
theorem dX6_portState_7 : decode cX6_portState 7 = .ok (.istore_n 3, 1) := by decide +kernel
theorem dX6_portState_8 : decode cX6_portState 8 = .ok (.iload_n 1, 1) := by decide +kernel
theorem dX6_portState_9 : decode cX6_portState 9 = .ok (.iload_n 2, 1) := by decide +kernel
theorem dX6_portState_10 : decode cX6_portState 10 = .ok (.if_icmp .ge 9, 3) := by decide +kernel
theorem dX6_portState_13 : decode cX6_portState 13 = .ok (.iconst 4, 1) := by decide +kernel
theorem dX6_portState_14 : decode cX6_portState 14 = .ok (.iload_n 1, 1) := by decide +kernel
theorem dX6_portState_15 : decode cX6_portState 15 = .ok (.imul, 1) := by decide +kernel
theorem dX6_portState_16 : decode cX6_portState 16 = .ok (.iconst 2, 1) := by decide +kernel
theorem dX6_portState_17 : decode cX6_portState 17 = .ok (.iadd, 1) := by decide +kernel
theorem dX6_portState_18 : decode cX6_portState 18 = .ok (.ireturn, 1) := by decide +kernel
theorem dX6_portState_19 : decode cX6_portState 19 = .ok (.iload_n 1, 1) := by decide +kernel
theorem dX6_portState_20 : decode cX6_portState 20 = .ok (.iload_n 2, 1) := by decide +kernel
theorem dX6_portState_21 : decode cX6_portState 21 = .ok (.iload_n 3, 1) := by decide +kernel
theorem dX6_portState_22 : decode cX6_portState 22 = .ok (.iadd, 1) := by decide +kernel
theorem dX6_portState_23 : decode cX6_portState 23 = .ok (.if_icmp .ge 17, 3) := by decide +kernel
theorem dX6_portState_26 : decode cX6_portState 26 = .ok (.iconst 4, 1) := by decide +kernel
theorem dX6_portState_27 : decode cX6_portState 27 = .ok (.iload_n 2, 1) := by decide +kernel
theorem dX6_portState_28 : decode cX6_portState 28 = .ok (.iload_n 1, 1) := by decide +kernel
theorem dX6_portState_29 : decode cX6_portState 29 = .ok (.iload_n 2, 1) := by decide +kernel
theorem dX6_portState_30 : decode cX6_portState 30 = .ok (.isub, 1) := by decide +kernel
theorem dX6_portState_31 : decode cX6_portState 31 = .ok (.imul, 1) := by decide +kernel
theorem dX6_portState_32 : decode cX6_portState 32 = .ok (.iload_n 2, 1) := by decide +kernel
theorem dX6_portState_33 : decode cX6_portState 33 = .ok (.iadd, 1) := by decide +kernel
theorem dX6_portState_34 : decode cX6_portState 34 = .ok (.iconst 1, 1) := by decide +kernel
theorem dX6_portState_35 : decode cX6_portState 35 = .ok (.isub, 1) := by decide +kernel
theorem dX6_portState_36 : decode cX6_portState 36 = .ok (.imul, 1) := by decide +kernel
theorem dX6_portState_37 : decode cX6_portState 37 = .ok (.iconst 3, 1) := by decide +kernel
theorem dX6_portState_38 : decode cX6_portState 38 = .ok (.iadd, 1) := by decide +kernel
theorem dX6_portState_39 : decode cX6_portState 39 = .ok (.ireturn, 1) := by decide +kernel
theorem dX6_portState_40 : decode cX6_portState 40 = .ok (.iload_n 1, 1) := by decide +kernel
