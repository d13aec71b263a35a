theorem dX2_beyond_116 : decode cX2_beyond 116 = .ok (.if_icmp .ge 12, 3) := by decide +kernel
theorem dX2_beyond_119 : decode cX2_beyond 119 = .ok (.iload_n 1, 1) := by decide +kernel
theorem dX2_beyond_120 : decode cX2_beyond 120 = .ok (.aload_n 0, 1) := by decide +kernel
theorem dX2_beyond_121 : decode cX2_beyond 121 = .ok (.getfield 15, 3) := by decide +kernel
theorem dX2_beyond_124 : decode cX2_beyond 124 = .ok (.iadd, 1) := by decide +kernel
theorem dX2_beyond_125 : decode cX2_beyond 125 = .ok (.goto 16, 3) := by decide +kernel
theorem dX2_beyond_128 : decode cX2_beyond 128 = .ok (.aload_n 0, 1) := by decide +kernel
theorem dX2_beyond_129 : decode cX2_beyond 129 = .ok (.getfield 15, 3) := by decide +kernel
theorem dX2_beyond_132 : decode cX2_beyond 132 = .ok (.aload_n 0, 1) := by decide +kernel
theorem dX2_beyond_133 : decode cX2_beyond 133 = .ok (.getfield 19, 3) := by decide +kernel
theorem dX2_beyond_136 : decode cX2_beyond 136 = .ok (.iadd, 1) := by decide +kernel
theorem dX2_beyond_137 : decode cX2_beyond 137 = .ok (.iload_n 3, 1) := by decide +kernel
theorem dX2_beyond_138 : decode cX2_beyond 138 = .ok (.iadd, 1) := by decide +kernel
theorem dX2_beyond_139 : decode cX2_beyond 139 = .ok (.iconst (-1), 1) := by decide +kernel
theorem dX2_beyond_140 : decode cX2_beyond 140 = .ok (.ixor, 1) := by decide +kernel
theorem dX2_beyond_141 : decode cX2_beyond 141 = .ok (.ireturn, 1) := by decide +kernel
theorem dX2_beyond_142 : decode cX2_beyond 142 = .ok (.iload_n 3, 1) := by decide +kernel
theorem dX2_beyond_143 : decode cX2_beyond 143 = .ok (.ifCond .le 9, 3) := by decide +kernel
theorem dX2_beyond_146 : decode cX2_beyond 146 = .ok (.iload_n 1, 1) := by decide +kernel
theorem dX2_beyond_147 : decode cX2_beyond 147 = .ok (.iconst 1, 1) := by decide +kernel
theorem dX2_beyond_148 : decode cX2_beyond 148 = .ok (.isub, 1) := by decide +kernel
theorem dX2_beyond_149 : decode cX2_beyond 149 = .ok (.goto 19, 3) := by decide +kernel
theorem dX2_beyond_152 : decode cX2_beyond 152 = .ok (.iconst 2, 1) := by decide +kernel
theorem dX2_beyond_153 : decode cX2_beyond 153 = .ok (.aload_n 0, 1) := by decide +kernel
theorem dX2_beyond_154 : decode cX2_beyond 154 = .ok (.getfield 15, 3) := by decide +kernel
theorem dX2_beyond_157 : decode cX2_beyond 157 = .ok (.imul, 1) := by decide +kernel
theorem dX2_beyond_158 : decode cX2_beyond 158 = .ok (.aload_n 0, 1) := by decide +kernel
theorem dX2_beyond_159 : decode cX2_beyond 159 = .ok (.getfield 19, 3) := by decide +kernel
theorem dX2_beyond_162 : decode cX2_beyond 162 = .ok (.iadd, 1) := by decide +kernel
theorem dX2_beyond_163 : decode cX2_beyond 163 = .ok (.iload 4, 2) := by decide +kernel
theorem dX2_beyond_165 : decode cX2_beyond 165 = .ok (.iadd, 1) := by decide +kernel
theorem dX2_beyond_166 : decode cX2_beyond 166 = .ok (.iconst (-1), 1) := by decide +kernel
theorem dX2_beyond_167 : decode cX2_beyond 167 = .ok (.ixor, 1) := by decide +kernel
theorem dX2_beyond_168 : decode cX2_beyond 168 = .ok (.ireturn, 1) := by decide +kernel
theorem dX2_become_0 : decode cX2_become 0 = .ok (.aload_n 0, 1) := by decide +kernel
theorem dX2_become_1 : decode cX2_become 1 = .ok (.aload_n 1, 1) := by decide +kernel
theorem dX2_become_2 : decode cX2_become 2 = .ok (.getfield 15, 3) := by decide +kernel
theorem dX2_become_5 : decode cX2_become 5 = .ok (.putfield 15, 3) := by decide +kernel
theorem dX2_become_8 : decode cX2_become 8 = .ok (.aload_n 0, 1) := by decide +kernel
theorem dX2_become_9 : decode cX2_become 9 = .ok (.aload_n 1, 1) := by decide +kernel
theorem dX2_become_10 : decode cX2_become 10 = .ok (.getfield 19, 3) := by decide +kernel
theorem dX2_become_13 : decode cX2_become 13 = .ok (.putfield 19, 3) := by decide +kernel
theorem dX2_become_16 : decode cX2_become 16 = .ok (.aload_n 1, 1) := by decide +kernel
theorem dX2_become_17 : decode cX2_become 17 = .ok (.getfield 9, 3) := by decide +kernel
theorem dX2_become_20 : decode cX2_become 20 = .ok (.iconst 0, 1) := by decide +kernel
theorem dX2_become_21 : decode cX2_become 21 = .ok (.aload_n 0, 1) := by decide +kernel
theorem dX2_become_22 : decode cX2_become 22 = .ok (.getfield 9, 3) := by decide +kernel
theorem dX2_become_25 : decode cX2_become 25 = .ok (.iconst 0, 1) := by decide +kernel
theorem dX2_become_26 : decode cX2_become 26 = .ok (.bipush 20, 2) := by decide +kernel
theorem dX2_become_28 : decode cX2_become 28 = .ok (.invokestatic 25, 3) := by decide +kernel
theorem dX2_become_31 : decode cX2_become 31 = .ok (.return_, 1) := by decide +kernel
set_option maxRecDepth 20000 in
theorem ggX2_becomeTurned_X2_kindAt : GoodIn wsX2_becomeTurned wsX2_kindAt := goodIn_r _ [7, 8, 9, 10, 11, 6, 12, 2, 1, 20, 21, 22] (by decide +kernel) (by decide +kernel)
set_option maxRecDepth 20000 in
theorem gX2_becomeTurned_X2_kindAt : GoodIn wsX2_becomeTurned (wsV RX2 38 RX2 yX2_kindAt wsX2_kindAt) := goodIn_app (goodIn_of _ (by decide +kernel)) ggX2_becomeTurned_X2_kindAt
set_option maxRecDepth 20000 in
theorem ggX2_becomeTurned_X2_turnedKind : GoodIn wsX2_becomeTurned wsX2_turnedKind := goodIn_r _ [15] (by decide +kernel) (by decide +kernel)
set_option maxRecDepth 20000 in
theorem gX2_becomeTurned_X2_turnedKind : GoodIn wsX2_becomeTurned (va_wsS RX2 49 yX2_turnedKind wsX2_turnedKind) := goodIn_app (goodIn_of _ (by decide +kernel)) ggX2_becomeTurned_X2_turnedKind
set_option maxRecDepth 20000 in
theorem ggX2_becomeTurned_X2_tell : GoodIn wsX2_becomeTurned wsX2_tell := goodIn_r _ [19, 8, 9, 10, 11, 6, 12, 2, 1, 20, 21, 22] (by decide +kernel) (by decide +kernel)
set_option maxRecDepth 20000 in
theorem gX2_becomeTurned_X2_tell : GoodIn wsX2_becomeTurned (wsV RX2 52 RX2 yX2_tell wsX2_tell) := goodIn_app (goodIn_of _ (by decide +kernel)) ggX2_becomeTurned_X2_tell
theorem dX2_becomeTurned_0 : decode cX2_becomeTurned 0 = .ok (.aload_n 0, 1) := by decide +kernel
theorem dX2_becomeTurned_1 : decode cX2_becomeTurned 1 = .ok (.aload_n 1, 1) := by decide +kernel
theorem dX2_becomeTurned_2 : decode cX2_becomeTurned 2 = .ok (.getfield 19, 3) := by decide +kernel
theorem dX2_becomeTurned_5 : decode cX2_becomeTurned 5 = .ok (.putfield 15, 3) := by decide +kernel
theorem dX2_becomeTurned_8 : decode cX2_becomeTurned 8 = .ok (.aload_n 0, 1) := by decide +kernel
theorem dX2_becomeTurned_9 : decode cX2_becomeTurned 9 = .ok (.aload_n 1, 1) := by decide +kernel
theorem dX2_becomeTurned_10 : decode cX2_becomeTurned 10 = .ok (.getfield 15, 3) := by decide +kernel
theorem dX2_becomeTurned_13 : decode cX2_becomeTurned 13 = .ok (.putfield 19, 3) := by decide +kernel
theorem dX2_becomeTurned_16 : decode cX2_becomeTurned 16 = .ok (.iconst 0, 1) := by decide +kernel
theorem dX2_becomeTurned_17 : decode cX2_becomeTurned 17 = .ok (.istore_n 2, 1) := by decide +kernel
theorem dX2_becomeTurned_18 : decode cX2_becomeTurned 18 = .ok (.iload_n 2, 1) := by decide +kernel
theorem dX2_becomeTurned_19 : decode cX2_becomeTurned 19 = .ok (.aload_n 1, 1) := by decide +kernel
theorem dX2_becomeTurned_20 : decode cX2_becomeTurned 20 = .ok (.getfield 19, 3) := by decide +kernel
theorem dX2_becomeTurned_23 : decode cX2_becomeTurned 23 = .ok (.if_icmp .ge 63, 3) := by decide +kernel
theorem dX2_becomeTurned_26 : decode cX2_becomeTurned 26 = .ok (.iconst 0, 1) := by decide +kernel
theorem dX2_becomeTurned_27 : decode cX2_becomeTurned 27 = .ok (.istore_n 3, 1) := by decide +kernel
theorem dX2_becomeTurned_28 : decode cX2_becomeTurned 28 = .ok (.iload_n 3, 1) := by decide +kernel
theorem dX2_becomeTurned_29 : decode cX2_becomeTurned 29 = .ok (.aload_n 1, 1) := by decide +kernel
theorem dX2_becomeTurned_30 : decode cX2_becomeTurned 30 = .ok (.getfield 15, 3) := by decide +kernel
theorem dX2_becomeTurned_33 : decode cX2_becomeTurned 33 = .ok (.if_icmp .ge 47, 3) := by decide +kernel
theorem dX2_becomeTurned_36 : decode cX2_becomeTurned 36 = .ok (.aload_n 1, 1) := by decide +kernel
theorem dX2_becomeTurned_37 : decode cX2_becomeTurned 37 = .ok (.iload_n 2, 1) := by decide +kernel
theorem dX2_becomeTurned_38 : decode cX2_becomeTurned 38 = .ok (.aload_n 1, 1) := by decide +kernel
theorem dX2_becomeTurned_39 : decode cX2_becomeTurned 39 = .ok (.getfield 15, 3) := by decide +kernel
theorem dX2_becomeTurned_42 : decode cX2_becomeTurned 42 = .ok (.imul, 1) := by decide +kernel
theorem dX2_becomeTurned_43 : decode cX2_becomeTurned 43 = .ok (.iload_n 3, 1) := by decide +kernel
theorem dX2_becomeTurned_44 : decode cX2_becomeTurned 44 = .ok (.iadd, 1) := by decide +kernel
theorem dX2_becomeTurned_45 : decode cX2_becomeTurned 45 = .ok (.invokevirtual 38, 3) := by decide +kernel
theorem dX2_becomeTurned_48 : decode cX2_becomeTurned 48 = .ok (.istore 4, 2) := by decide +kernel
theorem dX2_becomeTurned_50 : decode cX2_becomeTurned 50 = .ok (.aload_n 0, 1) := by decide +kernel
theorem dX2_becomeTurned_51 : decode cX2_becomeTurned 51 = .ok (.iload_n 3, 1) := by decide +kernel
theorem dX2_becomeTurned_52 : decode cX2_becomeTurned 52 = .ok (.aload_n 0, 1) := by decide +kernel
theorem dX2_becomeTurned_53 : decode cX2_becomeTurned 53 = .ok (.getfield 15, 3) := by decide +kernel
theorem dX2_becomeTurned_56 : decode cX2_becomeTurned 56 = .ok (.imul, 1) := by decide +kernel
theorem dX2_becomeTurned_57 : decode cX2_becomeTurned 57 = .ok (.aload_n 0, 1) := by decide +kernel
theorem dX2_becomeTurned_58 : decode cX2_becomeTurned 58 = .ok (.getfield 15, 3) := by decide +kernel
theorem dX2_becomeTurned_61 : decode cX2_becomeTurned 61 = .ok (.iadd, 1) := by decide +kernel
theorem dX2_becomeTurned_62 : decode cX2_becomeTurned 62 = .ok (.iconst 1, 1) := by decide +kernel
theorem dX2_becomeTurned_63 : decode cX2_becomeTurned 63 = .ok (.isub, 1) := by decide +kernel
theorem dX2_becomeTurned_64 : decode cX2_becomeTurned 64 = .ok (.iload_n 2, 1) := by decide +kernel
theorem dX2_becomeTurned_65 : decode cX2_becomeTurned 65 = .ok (.isub, 1) := by decide +kernel
theorem dX2_becomeTurned_66 : decode cX2_becomeTurned 66 = .ok (.iload 4, 2) := by decide +kernel
theorem dX2_becomeTurned_68 : decode cX2_becomeTurned 68 = .ok (.invokestatic 49, 3) := by decide +kernel
theorem dX2_becomeTurned_71 : decode cX2_becomeTurned 71 = .ok (.invokevirtual 52, 3) := by decide +kernel
theorem dX2_becomeTurned_74 : decode cX2_becomeTurned 74 = .ok (.iinc 3 1, 3) := by decide +kernel
theorem dX2_becomeTurned_77 : decode cX2_becomeTurned 77 = .ok (.goto (-49), 3) := by decide +kernel
theorem dX2_becomeTurned_80 : decode cX2_becomeTurned 80 = .ok (.iinc 2 1, 3) := by decide +kernel
theorem dX2_becomeTurned_83 : decode cX2_becomeTurned 83 = .ok (.goto (-65), 3) := by decide +kernel
theorem dX2_becomeTurned_86 : decode cX2_becomeTurned 86 = .ok (.return_, 1) := by decide +kernel
theorem dX2_turnedKind_0 : decode cX2_turnedKind 0 = .ok (.iload_n 0, 1) := by decide +kernel
theorem dX2_turnedKind_1 : decode cX2_turnedKind 1 = .ok (.tableswitch 39 1 4 #[31, 33, 35, 37], 31) := by decide +kernel
theorem dX2_turnedKind_32 : decode cX2_turnedKind 32 = .ok (.iconst 2, 1) := by decide +kernel
theorem dX2_turnedKind_33 : decode cX2_turnedKind 33 = .ok (.ireturn, 1) := by decide +kernel
theorem dX2_turnedKind_34 : decode cX2_turnedKind 34 = .ok (.iconst 1, 1) := by decide +kernel
theorem dX2_turnedKind_35 : decode cX2_turnedKind 35 = .ok (.ireturn, 1) := by decide +kernel
theorem dX2_turnedKind_36 : decode cX2_turnedKind 36 = .ok (.iconst 4, 1) := by decide +kernel
theorem dX2_turnedKind_37 : decode cX2_turnedKind 37 = .ok (.ireturn, 1) := by decide +kernel
theorem dX2_turnedKind_38 : decode cX2_turnedKind 38 = .ok (.iconst 3, 1) := by decide +kernel
theorem dX2_turnedKind_39 : decode cX2_turnedKind 39 = .ok (.ireturn, 1) := by decide +kernel
theorem dX2_turnedKind_40 : decode cX2_turnedKind 40 = .ok (.iload_n 0, 1) := by decide +kernel
theorem dX2_turnedKind_41 : decode cX2_turnedKind 41 = .ok (.ireturn, 1) := by decide +kernel
theorem dX2_empty_0 : decode cX2_empty 0 = .ok (.aload_n 0, 1) := by decide +kernel
theorem dX2_empty_1 : decode cX2_empty 1 = .ok (.iconst 0, 1) := by decide +kernel
theorem dX2_empty_2 : decode cX2_empty 2 = .ok (.putfield 15, 3) := by decide +kernel
theorem dX2_empty_5 : decode cX2_empty 5 = .ok (.aload_n 0, 1) := by decide +kernel
theorem dX2_empty_6 : decode cX2_empty 6 = .ok (.iconst 0, 1) := by decide +kernel
theorem dX2_empty_7 : decode cX2_empty 7 = .ok (.putfield 19, 3) := by decide +kernel
theorem dX2_empty_10 : decode cX2_empty 10 = .ok (.return_, 1) := by decide +kernel
theorem dX2_addRow_0 : decode cX2_addRow 0 = .ok (.aload_n 0, 1) := by decide +kernel
theorem dX2_addRow_1 : decode cX2_addRow 1 = .ok (.getfield 19, 3) := by decide +kernel
theorem dX2_addRow_4 : decode cX2_addRow 4 = .ok (.ifCond .ne 21, 3) := by decide +kernel
theorem dX2_addRow_7 : decode cX2_addRow 7 = .ok (.iload_n 1, 1) := by decide +kernel
theorem dX2_addRow_8 : decode cX2_addRow 8 = .ok (.iconst 2, 1) := by decide +kernel
theorem dX2_addRow_9 : decode cX2_addRow 9 = .ok (.if_icmp .lt 12, 3) := by decide +kernel
theorem dX2_addRow_12 : decode cX2_addRow 12 = .ok (.iload_n 1, 1) := by decide +kernel
theorem dX2_addRow_13 : decode cX2_addRow 13 = .ok (.iconst 5, 1) := by decide +kernel
theorem dX2_addRow_14 : decode cX2_addRow 14 = .ok (.if_icmp .gt 7, 3) := by decide +kernel
theorem dX2_addRow_17 : decode cX2_addRow 17 = .ok (.iconst 1, 1) := by decide +kernel
theorem dX2_addRow_18 : decode cX2_addRow 18 = .ok (.goto 20, 3) := by decide +kernel
theorem dX2_addRow_21 : decode cX2_addRow 21 = .ok (.iconst 0, 1) := by decide +kernel
theorem dX2_addRow_22 : decode cX2_addRow 22 = .ok (.goto 16, 3) := by decide +kernel
theorem dX2_addRow_25 : decode cX2_addRow 25 = .ok (.iload_n 1, 1) := by decide +kernel
theorem dX2_addRow_26 : decode cX2_addRow 26 = .ok (.aload_n 0, 1) := by decide +kernel
theorem dX2_addRow_27 : decode cX2_addRow 27 = .ok (.getfield 15, 3) := by decide +kernel
theorem dX2_addRow_30 : decode cX2_addRow 30 = .ok (.if_icmp .ne 7, 3) := by decide +kernel
theorem dX2_addRow_33 : decode cX2_addRow 33 = .ok (.iconst 1, 1) := by decide +kernel
theorem dX2_addRow_34 : decode cX2_addRow 34 = .ok (.goto 4, 3) := by decide +kernel
theorem dX2_addRow_37 : decode cX2_addRow 37 = .ok (.iconst 0, 1) := by decide +kernel
theorem dX2_addRow_38 : decode cX2_addRow 38 = .ok (.istore_n 2, 1) := by decide +kernel
theorem dX2_addRow_39 : decode cX2_addRow 39 = .ok (.iload_n 2, 1) := by decide +kernel
theorem dX2_addRow_40 : decode cX2_addRow 40 = .ok (.ifCond .eq 11, 3) := by decide +kernel
theorem dX2_addRow_43 : decode cX2_addRow 43 = .ok (.aload_n 0, 1) := by decide +kernel
theorem dX2_addRow_44 : decode cX2_addRow 44 = .ok (.getfield 19, 3) := by decide +kernel
theorem dX2_addRow_47 : decode cX2_addRow 47 = .ok (.iconst 4, 1) := by decide +kernel
theorem dX2_addRow_48 : decode cX2_addRow 48 = .ok (.if_icmp .lt 5, 3) := by decide +kernel
theorem dX2_addRow_51 : decode cX2_addRow 51 = .ok (.iconst 0, 1) := by decide +kernel
theorem dX2_addRow_52 : decode cX2_addRow 52 = .ok (.ireturn, 1) := by decide +kernel
theorem dX2_addRow_53 : decode cX2_addRow 53 = .ok (.aload_n 0, 1) := by decide +kernel
theorem dX2_addRow_54 : decode cX2_addRow 54 = .ok (.iload_n 1, 1) := by decide +kernel
theorem dX2_addRow_55 : decode cX2_addRow 55 = .ok (.putfield 15, 3) := by decide +kernel
theorem dX2_addRow_58 : decode cX2_addRow 58 = .ok (.aload_n 0, 1) := by decide +kernel
theorem dX2_addRow_59 : decode cX2_addRow 59 = .ok (.dup, 1) := by decide +kernel
theorem dX2_addRow_60 : decode cX2_addRow 60 = .ok (.getfield 19, 3) := by decide +kernel
theorem dX2_addRow_63 : decode cX2_addRow 63 = .ok (.iconst 1, 1) := by decide +kernel
theorem dX2_addRow_64 : decode cX2_addRow 64 = .ok (.iadd, 1) := by decide +kernel
theorem dX2_addRow_65 : decode cX2_addRow 65 = .ok (.putfield 19, 3) := by decide +kernel
theorem dX2_addRow_68 : decode cX2_addRow 68 = .ok (.iconst 1, 1) := by decide +kernel
theorem dX2_addRow_69 : decode cX2_addRow 69 = .ok (.ireturn, 1) := by decide +kernel
theorem dX3_init_0 : decode cX3_init 0 = .ok (.aload_n 0, 1) := by decide +kernel
theorem dX3_init_1 : decode cX3_init 1 = .ok (.invokespecial 3, 3) := by decide +kernel
theorem dX3_init_4 : decode cX3_init 4 = .ok (.aload_n 0, 1) := by decide +kernel
theorem dX3_init_5 : decode cX3_init 5 = .ok (.bipush 60, 2) := by decide +kernel
theorem dX3_init_7 : decode cX3_init 7 = .ok (.newarray .int, 2) := by decide +kernel
theorem dX3_init_9 : decode cX3_init 9 = .ok (.putfield 9, 3) := by decide +kernel
theorem dX3_init_12 : decode cX3_init 12 = .ok (.aload_n 0, 1) := by decide +kernel
theorem dX3_init_13 : decode cX3_init 13 = .ok (.iconst 0, 1) := by decide +kernel
theorem dX3_init_14 : decode cX3_init 14 = .ok (.putfield 15, 3) := by decide +kernel
theorem dX3_init_17 : decode cX3_init 17 = .ok (.return_, 1) := by decide +kernel
theorem dX3_append_0 : decode cX3_append 0 = .ok (.aload_n 0, 1) := by decide +kernel
theorem dX3_append_1 : decode cX3_append 1 = .ok (.getfield 15, 3) := by decide +kernel
theorem dX3_append_4 : decode cX3_append 4 = .ok (.bipush 60, 2) := by decide +kernel
theorem dX3_append_6 : decode cX3_append 6 = .ok (.if_icmp .lt 6, 3) := by decide +kernel
theorem dX3_append_9 : decode cX3_append 9 = .ok (.bipush (-3), 2) := by decide +kernel
theorem dX3_append_11 : decode cX3_append 11 = .ok (.ireturn, 1) := by decide +kernel
theorem dX3_append_12 : decode cX3_append 12 = .ok (.aload_n 0, 1) := by decide +kernel
theorem dX3_append_13 : decode cX3_append 13 = .ok (.getfield 9, 3) := by decide +kernel
theorem dX3_append_16 : decode cX3_append 16 = .ok (.aload_n 0, 1) := by decide +kernel
theorem dX3_append_17 : decode cX3_append 17 = .ok (.getfield 15, 3) := by decide +kernel
theorem dX3_append_20 : decode cX3_append 20 = .ok (.iload_n 1, 1) := by decide +kernel
theorem dX3_append_21 : decode cX3_append 21 = .ok (.iastore, 1) := by decide +kernel
theorem dX3_append_22 : decode cX3_append 22 = .ok (.aload_n 0, 1) := by decide +kernel
theorem dX3_append_23 : decode cX3_append 23 = .ok (.dup, 1) := by decide +kernel
theorem dX3_append_24 : decode cX3_append 24 = .ok (.getfield 15, 3) := by decide +kernel
theorem dX3_append_27 : decode cX3_append 27 = .ok (.iconst 1, 1) := by decide +kernel
theorem dX3_append_28 : decode cX3_append 28 = .ok (.iadd, 1) := by decide +kernel
theorem dX3_append_29 : decode cX3_append 29 = .ok (.putfield 15, 3) := by decide +kernel
theorem dX3_append_32 : decode cX3_append 32 = .ok (.aload_n 0, 1) := by decide +kernel
theorem dX3_append_33 : decode cX3_append 33 = .ok (.getfield 15, 3) := by decide +kernel
theorem dX3_append_36 : decode cX3_append 36 = .ok (.ireturn, 1) := by decide +kernel
theorem dX3_clear_0 : decode cX3_clear 0 = .ok (.aload_n 0, 1) := by decide +kernel
theorem dX3_clear_1 : decode cX3_clear 1 = .ok (.getfield 15, 3) := by decide +kernel
theorem dX3_clear_4 : decode cX3_clear 4 = .ok (.istore_n 1, 1) := by decide +kernel
theorem dX3_clear_5 : decode cX3_clear 5 = .ok (.aload_n 0, 1) := by decide +kernel
theorem dX3_clear_6 : decode cX3_clear 6 = .ok (.iconst 0, 1) := by decide +kernel
theorem dX3_clear_7 : decode cX3_clear 7 = .ok (.putfield 15, 3) := by decide +kernel
theorem dX3_clear_10 : decode cX3_clear 10 = .ok (.iload_n 1, 1) := by decide +kernel
theorem dX3_clear_11 : decode cX3_clear 11 = .ok (.ireturn, 1) := by decide +kernel
set_option maxRecDepth 20000 in
theorem ggX3_readInto_X2_empty : GoodIn wsX3_readInto wsX2_empty := goodIn_r _ [6, 7, 8, 140, 141, 142] (by decide +kernel) (by decide +kernel)
set_option maxRecDepth 20000 in
theorem gX3_readInto_X2_empty : GoodIn wsX3_readInto (wsV RX3 19 RX2 yX2_empty wsX2_empty) := goodIn_app (goodIn_of _ (by decide +kernel)) ggX3_readInto_X2_empty
set_option maxRecDepth 20000 in
theorem ggX3_readInto_X3_endOfItem : GoodIn wsX3_readInto wsX3_endOfItem := goodIn_r _ [13, 1, 14, 15, 16, 12, 17, 18, 138, 139] (by decide +kernel) (by decide +kernel)
set_option maxRecDepth 20000 in
theorem gX3_readInto_X3_endOfItem : GoodIn wsX3_readInto (wsV RX3 24 RX3 yX3_endOfItem wsX3_endOfItem) := goodIn_app (goodIn_of _ (by decide +kernel)) ggX3_readInto_X3_endOfItem
set_option maxRecDepth 20000 in
theorem ggX3_readInto_X3_readRow : GoodIn wsX3_readInto wsX3_readRow := goodIn_r _ [22, 1, 14, 15, 16, 12, 17, 18, 23, 24, 25, 5, 26, 8, 7, 27, 28, 29, 30, 31, 32, 33, 34, 35, 36, 37, 38, 39, 40, 41, 42, 43, 44, 45, 46, 47, 48, 49, 50, 51, 52, 53, 54, 55, 56, 57, 58, 59, 60, 61, 62, 63, 64, 65, 66, 67, 68, 69, 70, 71, 72, 73, 74, 75, 76, 77, 78, 79, 80, 81, 82, 83, 84, 85, 86, 87, 88, 89, 90, 91, 92, 93, 94, 95, 96, 97, 98, 99, 100, 101, 102, 103, 104, 105, 106, 107, 108, 109, 110, 111, 112, 113, 114, 115, 116, 117, 118, 119, 120, 121, 122, 123, 124, 125, 126, 127, 128, 129, 130, 131, 132, 133, 134, 135, 136, 137, 138, 139, 140, 141, 142] (by decide +kernel) (by decide +kernel)
set_option maxRecDepth 20000 in
theorem gX3_readInto_X3_readRow : GoodIn wsX3_readInto (wsV RX3 28 RX3 yX3_readRow wsX3_readRow) := goodIn_app (goodIn_of _ (by decide +kernel)) ggX3_readInto_X3_readRow
theorem dX3_readInto_0 : decode cX3_readInto 0 = .ok (.aload_n 1, 1) := by decide +kernel
theorem dX3_readInto_1 : decode cX3_readInto 1 = .ok (.invokevirtual 19, 3) := by decide +kernel
theorem dX3_readInto_4 : decode cX3_readInto 4 = .ok (.iconst 0, 1) := by decide +kernel
theorem dX3_readInto_5 : decode cX3_readInto 5 = .ok (.istore_n 2, 1) := by decide +kernel
theorem dX3_readInto_6 : decode cX3_readInto 6 = .ok (.iconst 0, 1) := by decide +kernel
theorem dX3_readInto_7 : decode cX3_readInto 7 = .ok (.istore_n 3, 1) := by decide +kernel
theorem dX3_readInto_8 : decode cX3_readInto 8 = .ok (.iload_n 3, 1) := by decide +kernel
theorem dX3_readInto_9 : decode cX3_readInto 9 = .ok (.bipush 60, 2) := by decide +kernel
theorem dX3_readInto_11 : decode cX3_readInto 11 = .ok (.if_icmp .ge 42, 3) := by decide +kernel
theorem dX3_readInto_14 : decode cX3_readInto 14 = .ok (.iload_n 2, 1) := by decide +kernel
theorem dX3_readInto_15 : decode cX3_readInto 15 = .ok (.aload_n 0, 1) := by decide +kernel
theorem dX3_readInto_16 : decode cX3_readInto 16 = .ok (.getfield 15, 3) := by decide +kernel
theorem dX3_readInto_19 : decode cX3_readInto 19 = .ok (.if_icmp .ge 34, 3) := by decide +kernel
theorem dX3_readInto_22 : decode cX3_readInto 22 = .ok (.aload_n 0, 1) := by decide +kernel
theorem dX3_readInto_23 : decode cX3_readInto 23 = .ok (.iload_n 2, 1) := by decide +kernel
theorem dX3_readInto_24 : decode cX3_readInto 24 = .ok (.invokevirtual 24, 3) := by decide +kernel
theorem dX3_readInto_27 : decode cX3_readInto 27 = .ok (.istore 4, 2) := by decide +kernel
theorem dX3_readInto_29 : decode cX3_readInto 29 = .ok (.aload_n 0, 1) := by decide +kernel
theorem dX3_readInto_30 : decode cX3_readInto 30 = .ok (.iload_n 2, 1) := by decide +kernel
theorem dX3_readInto_31 : decode cX3_readInto 31 = .ok (.iload 4, 2) := by decide +kernel
theorem dX3_readInto_33 : decode cX3_readInto 33 = .ok (.aload_n 1, 1) := by decide +kernel
theorem dX3_readInto_34 : decode cX3_readInto 34 = .ok (.invokevirtual 28, 3) := by decide +kernel
theorem dX3_readInto_37 : decode cX3_readInto 37 = .ok (.ifCond .ne 5, 3) := by decide +kernel
theorem dX3_readInto_40 : decode cX3_readInto 40 = .ok (.iload_n 2, 1) := by decide +kernel
theorem dX3_readInto_41 : decode cX3_readInto 41 = .ok (.ireturn, 1) := by decide +kernel
theorem dX3_readInto_42 : decode cX3_readInto 42 = .ok (.iload 4, 2) := by decide +kernel
theorem dX3_readInto_44 : decode cX3_readInto 44 = .ok (.iconst 1, 1) := by decide +kernel
theorem dX3_readInto_45 : decode cX3_readInto 45 = .ok (.iadd, 1) := by decide +kernel
theorem dX3_readInto_46 : decode cX3_readInto 46 = .ok (.istore_n 2, 1) := by decide +kernel
theorem dX3_readInto_47 : decode cX3_readInto 47 = .ok (.iinc 3 1, 3) := by decide +kernel
theorem dX3_readInto_50 : decode cX3_readInto 50 = .ok (.goto (-42), 3) := by decide +kernel
theorem dX3_readInto_53 : decode cX3_readInto 53 = .ok (.bipush (-4), 2) := by decide +kernel
theorem dX3_readInto_55 : decode cX3_readInto 55 = .ok (.ireturn, 1) := by decide +kernel
theorem dX3_letterAt_0 : decode cX3_letterAt 0 = .ok (.iload_n 1, 1) := by decide +kernel
theorem dX3_letterAt_1 : decode cX3_letterAt 1 = .ok (.ifCond .lt 26, 3) := by decide +kernel
theorem dX3_letterAt_4 : decode cX3_letterAt 4 = .ok (.iload_n 1, 1) := by decide +kernel
theorem dX3_letterAt_5 : decode cX3_letterAt 5 = .ok (.aload_n 0, 1) := by decide +kernel
theorem dX3_letterAt_6 : decode cX3_letterAt 6 = .ok (.getfield 15, 3) := by decide +kernel
theorem dX3_letterAt_9 : decode cX3_letterAt 9 = .ok (.if_icmp .ge 18, 3) := by decide +kernel
theorem dX3_letterAt_12 : decode cX3_letterAt 12 = .ok (.iload_n 1, 1) := by decide +kernel
theorem dX3_letterAt_13 : decode cX3_letterAt 13 = .ok (.bipush 60, 2) := by decide +kernel
theorem dX3_letterAt_15 : decode cX3_letterAt 15 = .ok (.if_icmp .ge 12, 3) := by decide +kernel
theorem dX3_letterAt_18 : decode cX3_letterAt 18 = .ok (.aload_n 0, 1) := by decide +kernel
theorem dX3_letterAt_19 : decode cX3_letterAt 19 = .ok (.getfield 9, 3) := by decide +kernel
theorem dX3_letterAt_22 : decode cX3_letterAt 22 = .ok (.iload_n 1, 1) := by decide +kernel
theorem dX3_letterAt_23 : decode cX3_letterAt 23 = .ok (.iaload, 1) := by decide +kernel
theorem dX3_letterAt_24 : decode cX3_letterAt 24 = .ok (.goto 4, 3) := by decide +kernel
theorem dX3_letterAt_27 : decode cX3_letterAt 27 = .ok (.iconst 0, 1) := by decide +kernel
theorem dX3_letterAt_28 : decode cX3_letterAt 28 = .ok (.ireturn, 1) := by decide +kernel
set_option maxRecDepth 20000 in
theorem ggX3_endOfItem_X3_letterAt : GoodIn wsX3_endOfItem wsX3_letterAt := goodIn_r _ [6, 1, 7, 8, 9] (by decide +kernel) (by decide +kernel)
set_option maxRecDepth 20000 in
theorem gX3_endOfItem_X3_letterAt : GoodIn wsX3_endOfItem (wsV RX3 32 RX3 yX3_letterAt wsX3_letterAt) := goodIn_app (goodIn_of _ (by decide +kernel)) ggX3_endOfItem_X3_letterAt
theorem dX3_endOfItem_0 : decode cX3_endOfItem 0 = .ok (.iload_n 1, 1) := by decide +kernel
theorem dX3_endOfItem_1 : decode cX3_endOfItem 1 = .ok (.istore_n 2, 1) := by decide +kernel
theorem dX3_endOfItem_2 : decode cX3_endOfItem 2 = .ok (.iload_n 2, 1) := by decide +kernel
theorem dX3_endOfItem_3 : decode cX3_endOfItem 3 = .ok (.aload_n 0, 1) := by decide +kernel
theorem dX3_endOfItem_4 : decode cX3_endOfItem 4 = .ok (.getfield 15, 3) := by decide +kernel
theorem dX3_endOfItem_7 : decode cX3_endOfItem 7 = .ok (.if_icmp .ge 21, 3) := by decide +kernel
theorem dX3_endOfItem_10 : decode cX3_endOfItem 10 = .ok (.aload_n 0, 1) := by decide +kernel
theorem dX3_endOfItem_11 : decode cX3_endOfItem 11 = .ok (.iload_n 2, 1) := by decide +kernel
theorem dX3_endOfItem_12 : decode cX3_endOfItem 12 = .ok (.invokevirtual 32, 3) := by decide +kernel
theorem dX3_endOfItem_15 : decode cX3_endOfItem 15 = .ok (.bipush 59, 2) := by decide +kernel
theorem dX3_endOfItem_17 : decode cX3_endOfItem 17 = .ok (.if_icmp .ne 5, 3) := by decide +kernel
theorem dX3_endOfItem_20 : decode cX3_endOfItem 20 = .ok (.iload_n 2, 1) := by decide +kernel
theorem dX3_endOfItem_21 : decode cX3_endOfItem 21 = .ok (.ireturn, 1) := by decide +kernel
theorem dX3_endOfItem_22 : decode cX3_endOfItem 22 = .ok (.iinc 2 1, 3) := by decide +kernel
theorem dX3_endOfItem_25 : decode cX3_endOfItem 25 = .ok (.goto (-23), 3) := by decide +kernel
theorem dX3_endOfItem_28 : decode cX3_endOfItem 28 = .ok (.aload_n 0, 1) := by decide +kernel
theorem dX3_endOfItem_29 : decode cX3_endOfItem 29 = .ok (.getfield 15, 3) := by decide +kernel
theorem dX3_endOfItem_32 : decode cX3_endOfItem 32 = .ok (.ireturn, 1) := by decide +kernel
set_option maxRecDepth 20000 in
theorem ggX3_readRow_X3_letterAt : GoodIn wsX3_readRow wsX3_letterAt := goodIn_r _ [6, 1, 7, 126, 127] (by decide +kernel) (by decide +kernel)
set_option maxRecDepth 20000 in
theorem gX3_readRow_X3_letterAt : GoodIn wsX3_readRow (wsV RX3 32 RX3 yX3_letterAt wsX3_letterAt) := goodIn_app (goodIn_of _ (by decide +kernel)) ggX3_readRow_X3_letterAt
set_option maxRecDepth 20000 in
theorem ggX3_readRow_X2_addRow : GoodIn wsX3_readRow wsX2_addRow := goodIn_r _ [12, 13, 14, 128, 129, 130] (by decide +kernel) (by decide +kernel)
set_option maxRecDepth 20000 in
theorem gX3_readRow_X2_addRow : GoodIn wsX3_readRow (wsV RX3 35 RX2 yX2_addRow wsX2_addRow) := goodIn_app (goodIn_of _ (by decide +kernel)) ggX3_readRow_X2_addRow
set_option maxRecDepth 20000 in
theorem ggX3_readRow_X2_cells : GoodIn wsX3_readRow wsX2_cells := goodIn_r _ [18, 14, 13, 128, 129, 130] (by decide +kernel) (by decide +kernel)
set_option maxRecDepth 20000 in
theorem gX3_readRow_X2_cells : GoodIn wsX3_readRow (wsV RX3 39 RX2 yX2_cells wsX2_cells) := goodIn_app (goodIn_of _ (by decide +kernel)) ggX3_readRow_X2_cells
set_option maxRecDepth 20000 in
theorem ggX3_readRow_J0_indexOf_0f7a4 : GoodIn wsX3_readRow wsJ0_indexOf_0f7a4 := goodIn_r _ [23, 24, 25, 26, 22, 27, 28, 29, 30, 31, 32, 33, 34, 35, 36, 37, 38, 39, 40, 41, 42, 43, 44, 45, 46, 47, 48, 49, 50, 51, 52, 53, 54, 55, 56, 57, 58, 59, 60, 61, 62, 63, 64, 65, 66, 67, 68, 69, 70, 71, 72, 73, 74, 75, 76, 77, 78, 79, 80, 81, 82, 83, 84, 85, 86, 87, 88, 89, 90, 91, 92, 93, 94, 95, 96, 97, 98, 99, 100, 101, 102, 103, 104, 105, 106, 107] (by decide +kernel) (by decide +kernel)
set_option maxRecDepth 20000 in
theorem gX3_readRow_J0_indexOf_0f7a4 : GoodIn wsX3_readRow (wsV RX3 45 RJ0 yJ0_indexOf_0f7a4 wsJ0_indexOf_0f7a4) := goodIn_app (goodIn_of _ (by decide +kernel)) ggX3_readRow_J0_indexOf_0f7a4
set_option maxRecDepth 20000 in
theorem ggX3_readRow_X2_tell : GoodIn wsX3_readRow wsX2_tell := goodIn_r _ [111, 112, 113, 16, 17, 11, 18, 14, 13, 128, 129, 130] (by decide +kernel) (by decide +kernel)
set_option maxRecDepth 20000 in
theorem gX3_readRow_X2_tell : GoodIn wsX3_readRow (wsV RX3 50 RX2 yX2_tell wsX2_tell) := goodIn_app (goodIn_of _ (by decide +kernel)) ggX3_readRow_X2_tell
set_option maxRecDepth 20000 in
theorem ggX3_readRow_X2_isOverfull : GoodIn wsX3_readRow wsX2_isOverfull := goodIn_r _ [117, 118, 119, 120, 11, 121, 113, 16, 17, 18, 14, 13, 122, 123, 124, 125, 112, 128, 129, 130] (by decide +kernel) (by decide +kernel)
set_option maxRecDepth 20000 in
theorem gX3_readRow_X2_isOverfull : GoodIn wsX3_readRow (wsV RX3 54 RX2 yX2_isOverfull wsX2_isOverfull) := goodIn_app (goodIn_of _ (by decide +kernel)) ggX3_readRow_X2_isOverfull
theorem dX3_readRow_0 : decode cX3_readRow 0 = .ok (.iload_n 2, 1) := by decide +kernel
theorem dX3_readRow_1 : decode cX3_readRow 1 = .ok (.iload_n 1, 1) := by decide +kernel
theorem dX3_readRow_2 : decode cX3_readRow 2 = .ok (.isub, 1) := by decide +kernel
theorem dX3_readRow_3 : decode cX3_readRow 3 = .ok (.iconst 1, 1) := by decide +kernel
theorem dX3_readRow_4 : decode cX3_readRow 4 = .ok (.isub, 1) := by decide +kernel
theorem dX3_readRow_5 : decode cX3_readRow 5 = .ok (.istore 4, 2) := by decide +kernel
theorem dX3_readRow_7 : decode cX3_readRow 7 = .ok (.iload_n 2, 1) := by decide +kernel
theorem dX3_readRow_8 : decode cX3_readRow 8 = .ok (.aload_n 0, 1) := by decide +kernel
theorem dX3_readRow_9 : decode cX3_readRow 9 = .ok (.getfield 15, 3) := by decide +kernel
theorem dX3_readRow_12 : decode cX3_readRow 12 = .ok (.if_icmp .ge 22, 3) := by decide +kernel
theorem dX3_readRow_15 : decode cX3_readRow 15 = .ok (.aload_n 0, 1) := by decide +kernel
theorem dX3_readRow_16 : decode cX3_readRow 16 = .ok (.iload_n 1, 1) := by decide +kernel
theorem dX3_readRow_17 : decode cX3_readRow 17 = .ok (.invokevirtual 32, 3) := by decide +kernel
theorem dX3_readRow_20 : decode cX3_readRow 20 = .ok (.bipush 114, 2) := by decide +kernel
theorem dX3_readRow_22 : decode cX3_readRow 22 = .ok (.if_icmp .ne 12, 3) := by decide +kernel
theorem dX3_readRow_25 : decode cX3_readRow 25 = .ok (.aload_n 3, 1) := by decide +kernel
theorem dX3_readRow_26 : decode cX3_readRow 26 = .ok (.iload 4, 2) := by decide +kernel
theorem dX3_readRow_28 : decode cX3_readRow 28 = .ok (.invokevirtual 35, 3) := by decide +kernel
theorem dX3_readRow_31 : decode cX3_readRow 31 = .ok (.ifCond .ne 5, 3) := by decide +kernel
theorem dX3_readRow_34 : decode cX3_readRow 34 = .ok (.iconst 0, 1) := by decide +kernel
theorem dX3_readRow_35 : decode cX3_readRow 35 = .ok (.ireturn, 1) := by decide +kernel
theorem dX3_readRow_36 : decode cX3_readRow 36 = .ok (.aload_n 3, 1) := by decide +kernel
theorem dX3_readRow_37 : decode cX3_readRow 37 = .ok (.invokevirtual 39, 3) := by decide +kernel
theorem dX3_readRow_40 : decode cX3_readRow 40 = .ok (.iload 4, 2) := by decide +kernel
theorem dX3_readRow_42 : decode cX3_readRow 42 = .ok (.isub, 1) := by decide +kernel
theorem dX3_readRow_43 : decode cX3_readRow 43 = .ok (.istore 5, 2) := by decide +kernel
theorem dX3_readRow_45 : decode cX3_readRow 45 = .ok (.iconst 0, 1) := by decide +kernel
theorem dX3_readRow_46 : decode cX3_readRow 46 = .ok (.istore 6, 2) := by decide +kernel
theorem dX3_readRow_48 : decode cX3_readRow 48 = .ok (.iload 6, 2) := by decide +kernel
theorem dX3_readRow_50 : decode cX3_readRow 50 = .ok (.iload 4, 2) := by decide +kernel
theorem dX3_readRow_52 : decode cX3_readRow 52 = .ok (.if_icmp .ge 45, 3) := by decide +kernel
theorem dX3_readRow_55 : decode cX3_readRow 55 = .ok (.ldc 43, 2) := by decide +kernel
theorem dX3_readRow_57 : decode cX3_readRow 57 = .ok (.aload_n 0, 1) := by decide +kernel
theorem dX3_readRow_58 : decode cX3_readRow 58 = .ok (.iload_n 1, 1) := by decide +kernel
theorem dX3_readRow_59 : decode cX3_readRow 59 = .ok (.iconst 1, 1) := by decide +kernel
theorem dX3_readRow_60 : decode cX3_readRow 60 = .ok (.iadd, 1) := by decide +kernel
theorem dX3_readRow_61 : decode cX3_readRow 61 = .ok (.iload 6, 2) := by decide +kernel
theorem dX3_readRow_63 : decode cX3_readRow 63 = .ok (.iadd, 1) := by decide +kernel
theorem dX3_readRow_64 : decode cX3_readRow 64 = .ok (.invokevirtual 32, 3) := by decide +kernel
theorem dX3_readRow_67 : decode cX3_readRow 67 = .ok (.i2c, 1) := by decide +kernel
theorem dX3_readRow_68 : decode cX3_readRow 68 = .ok (.invokevirtual 45, 3) := by decide +kernel
theorem dX3_readRow_71 : decode cX3_readRow 71 = .ok (.istore 7, 2) := by decide +kernel
theorem dX3_readRow_73 : decode cX3_readRow 73 = .ok (.iload 7, 2) := by decide +kernel
theorem dX3_readRow_75 : decode cX3_readRow 75 = .ok (.ifCond .ge 5, 3) := by decide +kernel
theorem dX3_readRow_78 : decode cX3_readRow 78 = .ok (.iconst 0, 1) := by decide +kernel
theorem dX3_readRow_79 : decode cX3_readRow 79 = .ok (.ireturn, 1) := by decide +kernel
theorem dX3_readRow_80 : decode cX3_readRow 80 = .ok (.aload_n 3, 1) := by decide +kernel
theorem dX3_readRow_81 : decode cX3_readRow 81 = .ok (.iload 5, 2) := by decide +kernel
theorem dX3_readRow_83 : decode cX3_readRow 83 = .ok (.iload 6, 2) := by decide +kernel
theorem dX3_readRow_85 : decode cX3_readRow 85 = .ok (.iadd, 1) := by decide +kernel
theorem dX3_readRow_86 : decode cX3_readRow 86 = .ok (.iload 7, 2) := by decide +kernel
theorem dX3_readRow_88 : decode cX3_readRow 88 = .ok (.invokevirtual 50, 3) := by decide +kernel
theorem dX3_readRow_91 : decode cX3_readRow 91 = .ok (.iinc 6 1, 3) := by decide +kernel
theorem dX3_readRow_94 : decode cX3_readRow 94 = .ok (.goto (-46), 3) := by decide +kernel
theorem dX3_readRow_97 : decode cX3_readRow 97 = .ok (.aload_n 3, 1) := by decide +kernel
theorem dX3_readRow_98 : decode cX3_readRow 98 = .ok (.invokevirtual 54, 3) := by decide +kernel
theorem dX3_readRow_101 : decode cX3_readRow 101 = .ok (.ifCond .ne 7, 3) := by decide +kernel
theorem dX3_readRow_104 : decode cX3_readRow 104 = .ok (.iconst 1, 1) := by decide +kernel
theorem dX3_readRow_105 : decode cX3_readRow 105 = .ok (.goto 4, 3) := by decide +kernel
theorem dX3_readRow_108 : decode cX3_readRow 108 = .ok (.iconst 0, 1) := by decide +kernel
theorem dX3_readRow_109 : decode cX3_readRow 109 = .ok (.ireturn, 1) := by decide +kernel
theorem dX4_init_0 : decode cX4_init 0 = .ok (.aload_n 0, 1) := by decide +kernel
theorem dX4_init_1 : decode cX4_init 1 = .ok (.invokespecial 3, 3) := by decide +kernel
theorem dX4_init_4 : decode cX4_init 4 = .ok (.aload_n 0, 1) := by decide +kernel
theorem dX4_init_5 : decode cX4_init 5 = .ok (.bipush 80, 2) := by decide +kernel
theorem dX4_init_7 : decode cX4_init 7 = .ok (.newarray .int, 2) := by decide +kernel
theorem dX4_init_9 : decode cX4_init 9 = .ok (.putfield 11, 3) := by decide +kernel
theorem dX4_init_12 : decode cX4_init 12 = .ok (.aload_n 0, 1) := by decide +kernel
theorem dX4_init_13 : decode cX4_init 13 = .ok (.bipush 80, 2) := by decide +kernel
theorem dX4_init_15 : decode cX4_init 15 = .ok (.newarray .int, 2) := by decide +kernel
theorem dX4_init_17 : decode cX4_init 17 = .ok (.putfield 15, 3) := by decide +kernel
theorem dX4_init_20 : decode cX4_init 20 = .ok (.aload_n 0, 1) := by decide +kernel
theorem dX4_init_21 : decode cX4_init 21 = .ok (.bipush 18, 2) := by decide +kernel
theorem dX4_init_23 : decode cX4_init 23 = .ok (.newarray .int, 2) := by decide +kernel
theorem dX4_init_25 : decode cX4_init 25 = .ok (.putfield 18, 3) := by decide +kernel
theorem dX4_init_28 : decode cX4_init 28 = .ok (.aload_n 0, 1) := by decide +kernel
theorem dX4_init_29 : decode cX4_init 29 = .ok (.iconst 0, 1) := by decide +kernel
theorem dX4_init_30 : decode cX4_init 30 = .ok (.putfield 21, 3) := by decide +kernel
theorem dX4_init_33 : decode cX4_init 33 = .ok (.aload_n 0, 1) := by decide +kernel
theorem dX4_init_34 : decode cX4_init 34 = .ok (.iconst 0, 1) := by decide +kernel
theorem dX4_init_35 : decode cX4_init 35 = .ok (.putfield 25, 3) := by decide +kernel
theorem dX4_init_38 : decode cX4_init 38 = .ok (.return_, 1) := by decide +kernel
set_option maxRecDepth 20000 in
theorem ggX4_goFrom_J7_fill_53178 : GoodIn wsX4_goFrom wsJ7_fill_53178 := goodIn_r _ [9] (by decide +kernel) (by decide +kernel)
set_option maxRecDepth 20000 in
theorem gX4_goFrom_J7_fill_53178 : GoodIn wsX4_goFrom (va_wsS RX4 28 yJ7_fill_53178 wsJ7_fill_53178) := goodIn_app (goodIn_of _ (by decide +kernel)) ggX4_goFrom_J7_fill_53178
set_option maxRecDepth 20000 in
theorem ggX4_goFrom_X2_portCell : GoodIn wsX4_goFrom wsX2_portCell := goodIn_r _ [14, 15, 16, 17, 18, 19, 13, 20, 67, 68, 69] (by decide +kernel) (by decide +kernel)
set_option maxRecDepth 20000 in
theorem gX4_goFrom_X2_portCell : GoodIn wsX4_goFrom (wsV RX4 34 RX2 yX2_portCell wsX2_portCell) := goodIn_app (goodIn_of _ (by decide +kernel)) ggX4_goFrom_X2_portCell
set_option maxRecDepth 20000 in
theorem ggX4_goFrom_X2_portDirection : GoodIn wsX4_goFrom wsX2_portDirection := goodIn_r _ [20, 15, 16, 67, 68, 69] (by decide +kernel) (by decide +kernel)
set_option maxRecDepth 20000 in
theorem gX4_goFrom_X2_portDirection : GoodIn wsX4_goFrom (wsV RX4 40 RX2 yX2_portDirection wsX2_portDirection) := goodIn_app (goodIn_of _ (by decide +kernel)) ggX4_goFrom_X2_portDirection
set_option maxRecDepth 20000 in
theorem ggX4_goFrom_X4_enter : GoodIn wsX4_goFrom wsX4_enter := goodIn_r _ [26, 3, 1, 5, 4, 62, 63, 64, 65, 66] (by decide +kernel) (by decide +kernel)
set_option maxRecDepth 20000 in
theorem gX4_goFrom_X4_enter : GoodIn wsX4_goFrom (wsV RX4 43 RX4 yX4_enter wsX4_enter) := goodIn_app (goodIn_of _ (by decide +kernel)) ggX4_goFrom_X4_enter
set_option maxRecDepth 20000 in
theorem ggX4_goFrom_X4_spread : GoodIn wsX4_goFrom wsX4_spread := goodIn_r _ [30, 1, 31, 32, 33, 13, 34, 35, 36, 37, 38, 39, 15, 16, 40, 41, 42, 43, 44, 45, 46, 47, 48, 25, 49, 50, 51, 52, 53, 22, 23, 24, 26, 3, 5, 4, 54, 55, 56, 57, 2, 58, 59, 60, 61, 62, 63, 64, 65, 66, 67, 68, 69] (by decide +kernel) (by decide +kernel)
set_option maxRecDepth 20000 in
theorem gX4_goFrom_X4_spread : GoodIn wsX4_goFrom (wsV RX4 47 RX4 yX4_spread wsX4_spread) := goodIn_app (goodIn_of _ (by decide +kernel)) ggX4_goFrom_X4_spread
theorem dX4_goFrom_0 : decode cX4_goFrom 0 = .ok (.aload_n 0, 1) := by decide +kernel
theorem dX4_goFrom_1 : decode cX4_goFrom 1 = .ok (.getfield 15, 3) := by decide +kernel
theorem dX4_goFrom_4 : decode cX4_goFrom 4 = .ok (.iconst 0, 1) := by decide +kernel
theorem dX4_goFrom_5 : decode cX4_goFrom 5 = .ok (.invokestatic 28, 3) := by decide +kernel
theorem dX4_goFrom_8 : decode cX4_goFrom 8 = .ok (.aload_n 0, 1) := by decide +kernel
theorem dX4_goFrom_9 : decode cX4_goFrom 9 = .ok (.getfield 18, 3) := by decide +kernel
theorem dX4_goFrom_12 : decode cX4_goFrom 12 = .ok (.iconst 0, 1) := by decide +kernel
theorem dX4_goFrom_13 : decode cX4_goFrom 13 = .ok (.invokestatic 28, 3) := by decide +kernel
theorem dX4_goFrom_16 : decode cX4_goFrom 16 = .ok (.aload_n 0, 1) := by decide +kernel
theorem dX4_goFrom_17 : decode cX4_goFrom 17 = .ok (.iconst 0, 1) := by decide +kernel
theorem dX4_goFrom_18 : decode cX4_goFrom 18 = .ok (.putfield 21, 3) := by decide +kernel
theorem dX4_goFrom_21 : decode cX4_goFrom 21 = .ok (.aload_n 0, 1) := by decide +kernel
theorem dX4_goFrom_22 : decode cX4_goFrom 22 = .ok (.iconst 0, 1) := by decide +kernel
theorem dX4_goFrom_23 : decode cX4_goFrom 23 = .ok (.putfield 25, 3) := by decide +kernel
theorem dX4_goFrom_26 : decode cX4_goFrom 26 = .ok (.aload_n 0, 1) := by decide +kernel
theorem dX4_goFrom_27 : decode cX4_goFrom 27 = .ok (.aload_n 1, 1) := by decide +kernel
theorem dX4_goFrom_28 : decode cX4_goFrom 28 = .ok (.iload_n 2, 1) := by decide +kernel
theorem dX4_goFrom_29 : decode cX4_goFrom 29 = .ok (.invokevirtual 34, 3) := by decide +kernel
theorem dX4_goFrom_32 : decode cX4_goFrom 32 = .ok (.aload_n 1, 1) := by decide +kernel
theorem dX4_goFrom_33 : decode cX4_goFrom 33 = .ok (.iload_n 2, 1) := by decide +kernel
theorem dX4_goFrom_34 : decode cX4_goFrom 34 = .ok (.invokevirtual 40, 3) := by decide +kernel
theorem dX4_goFrom_37 : decode cX4_goFrom 37 = .ok (.iconst 1, 1) := by decide +kernel
theorem dX4_goFrom_38 : decode cX4_goFrom 38 = .ok (.invokevirtual 43, 3) := by decide +kernel
theorem dX4_goFrom_41 : decode cX4_goFrom 41 = .ok (.iconst 0, 1) := by decide +kernel
theorem dX4_goFrom_42 : decode cX4_goFrom 42 = .ok (.istore_n 3, 1) := by decide +kernel
theorem dX4_goFrom_43 : decode cX4_goFrom 43 = .ok (.iload_n 3, 1) := by decide +kernel
theorem dX4_goFrom_44 : decode cX4_goFrom 44 = .ok (.bipush 80, 2) := by decide +kernel
theorem dX4_goFrom_46 : decode cX4_goFrom 46 = .ok (.if_icmp .ge 38, 3) := by decide +kernel
theorem dX4_goFrom_49 : decode cX4_goFrom 49 = .ok (.iload_n 3, 1) := by decide +kernel
theorem dX4_goFrom_50 : decode cX4_goFrom 50 = .ok (.aload_n 0, 1) := by decide +kernel
theorem dX4_goFrom_51 : decode cX4_goFrom 51 = .ok (.getfield 21, 3) := by decide +kernel
theorem dX4_goFrom_54 : decode cX4_goFrom 54 = .ok (.if_icmp .ge 30, 3) := by decide +kernel
theorem dX4_goFrom_57 : decode cX4_goFrom 57 = .ok (.aload_n 0, 1) := by decide +kernel
theorem dX4_goFrom_58 : decode cX4_goFrom 58 = .ok (.aload_n 1, 1) := by decide +kernel
theorem dX4_goFrom_59 : decode cX4_goFrom 59 = .ok (.aload_n 0, 1) := by decide +kernel
theorem dX4_goFrom_60 : decode cX4_goFrom 60 = .ok (.getfield 11, 3) := by decide +kernel
theorem dX4_goFrom_63 : decode cX4_goFrom 63 = .ok (.iload_n 3, 1) := by decide +kernel
theorem dX4_goFrom_64 : decode cX4_goFrom 64 = .ok (.iaload, 1) := by decide +kernel
theorem dX4_goFrom_65 : decode cX4_goFrom 65 = .ok (.iconst 4, 1) := by decide +kernel
theorem dX4_goFrom_66 : decode cX4_goFrom 66 = .ok (.idiv, 1) := by decide +kernel
theorem dX4_goFrom_67 : decode cX4_goFrom 67 = .ok (.aload_n 0, 1) := by decide +kernel
theorem dX4_goFrom_68 : decode cX4_goFrom 68 = .ok (.getfield 11, 3) := by decide +kernel
theorem dX4_goFrom_71 : decode cX4_goFrom 71 = .ok (.iload_n 3, 1) := by decide +kernel
theorem dX4_goFrom_72 : decode cX4_goFrom 72 = .ok (.iaload, 1) := by decide +kernel
theorem dX4_goFrom_73 : decode cX4_goFrom 73 = .ok (.iconst 4, 1) := by decide +kernel
theorem dX4_goFrom_74 : decode cX4_goFrom 74 = .ok (.irem, 1) := by decide +kernel
theorem dX4_goFrom_75 : decode cX4_goFrom 75 = .ok (.invokevirtual 47, 3) := by decide +kernel
theorem dX4_goFrom_78 : decode cX4_goFrom 78 = .ok (.iinc 3 1, 3) := by decide +kernel
theorem dX4_goFrom_81 : decode cX4_goFrom 81 = .ok (.goto (-38), 3) := by decide +kernel
theorem dX4_goFrom_84 : decode cX4_goFrom 84 = .ok (.return_, 1) := by decide +kernel
theorem dX4_fewestTo_0 : decode cX4_fewestTo 0 = .ok (.iload_n 1, 1) := by decide +kernel
theorem dX4_fewestTo_1 : decode cX4_fewestTo 1 = .ok (.ifCond .lt 27, 3) := by decide +kernel
theorem dX4_fewestTo_4 : decode cX4_fewestTo 4 = .ok (.iload_n 1, 1) := by decide +kernel
theorem dX4_fewestTo_5 : decode cX4_fewestTo 5 = .ok (.bipush 18, 2) := by decide +kernel
theorem dX4_fewestTo_7 : decode cX4_fewestTo 7 = .ok (.if_icmp .ge 21, 3) := by decide +kernel
theorem dX4_fewestTo_10 : decode cX4_fewestTo 10 = .ok (.aload_n 0, 1) := by decide +kernel
theorem dX4_fewestTo_11 : decode cX4_fewestTo 11 = .ok (.getfield 18, 3) := by decide +kernel
theorem dX4_fewestTo_14 : decode cX4_fewestTo 14 = .ok (.iload_n 1, 1) := by decide +kernel
theorem dX4_fewestTo_15 : decode cX4_fewestTo 15 = .ok (.iaload, 1) := by decide +kernel
theorem dX4_fewestTo_16 : decode cX4_fewestTo 16 = .ok (.ifCond .le 12, 3) := by decide +kernel
theorem dX4_fewestTo_19 : decode cX4_fewestTo 19 = .ok (.aload_n 0, 1) := by decide +kernel
theorem dX4_fewestTo_20 : decode cX4_fewestTo 20 = .ok (.getfield 18, 3) := by decide +kernel
theorem dX4_fewestTo_23 : decode cX4_fewestTo 23 = .ok (.iload_n 1, 1) := by decide +kernel
theorem dX4_fewestTo_24 : decode cX4_fewestTo 24 = .ok (.iaload, 1) := by decide +kernel
theorem dX4_fewestTo_25 : decode cX4_fewestTo 25 = .ok (.goto 5, 3) := by decide +kernel
theorem dX4_fewestTo_28 : decode cX4_fewestTo 28 = .ok (.bipush (-4), 2) := by decide +kernel
theorem dX4_fewestTo_30 : decode cX4_fewestTo 30 = .ok (.ireturn, 1) := by decide +kernel
theorem dX4_enter_0 : decode cX4_enter 0 = .ok (.iload_n 1, 1) := by decide +kernel
theorem dX4_enter_1 : decode cX4_enter 1 = .ok (.iconst 4, 1) := by decide +kernel
theorem dX4_enter_2 : decode cX4_enter 2 = .ok (.imul, 1) := by decide +kernel
theorem dX4_enter_3 : decode cX4_enter 3 = .ok (.iload_n 2, 1) := by decide +kernel
theorem dX4_enter_4 : decode cX4_enter 4 = .ok (.iadd, 1) := by decide +kernel
theorem dX4_enter_5 : decode cX4_enter 5 = .ok (.istore 4, 2) := by decide +kernel
theorem dX4_enter_7 : decode cX4_enter 7 = .ok (.iload 4, 2) := by decide +kernel
theorem dX4_enter_9 : decode cX4_enter 9 = .ok (.ifCond .lt 29, 3) := by decide +kernel
theorem dX4_enter_12 : decode cX4_enter 12 = .ok (.iload 4, 2) := by decide +kernel
theorem dX4_enter_14 : decode cX4_enter 14 = .ok (.bipush 80, 2) := by decide +kernel
theorem dX4_enter_16 : decode cX4_enter 16 = .ok (.if_icmp .ge 22, 3) := by decide +kernel
theorem dX4_enter_19 : decode cX4_enter 19 = .ok (.aload_n 0, 1) := by decide +kernel
theorem dX4_enter_20 : decode cX4_enter 20 = .ok (.getfield 21, 3) := by decide +kernel
theorem dX4_enter_23 : decode cX4_enter 23 = .ok (.bipush 80, 2) := by decide +kernel
theorem dX4_enter_25 : decode cX4_enter 25 = .ok (.if_icmp .ge 13, 3) := by decide +kernel
theorem dX4_enter_28 : decode cX4_enter 28 = .ok (.aload_n 0, 1) := by decide +kernel
theorem dX4_enter_29 : decode cX4_enter 29 = .ok (.getfield 15, 3) := by decide +kernel
theorem dX4_enter_32 : decode cX4_enter 32 = .ok (.iload 4, 2) := by decide +kernel
theorem dX4_enter_34 : decode cX4_enter 34 = .ok (.iaload, 1) := by decide +kernel
theorem dX4_enter_35 : decode cX4_enter 35 = .ok (.ifCond .eq 4, 3) := by decide +kernel
theorem dX4_enter_38 : decode cX4_enter 38 = .ok (.return_, 1) := by decide +kernel
theorem dX4_enter_39 : decode cX4_enter 39 = .ok (.aload_n 0, 1) := by decide +kernel
theorem dX4_enter_40 : decode cX4_enter 40 = .ok (.getfield 15, 3) := by decide +kernel
theorem dX4_enter_43 : decode cX4_enter 43 = .ok (.iload 4, 2) := by decide +kernel
theorem dX4_enter_45 : decode cX4_enter 45 = .ok (.iload_n 3, 1) := by decide +kernel
theorem dX4_enter_46 : decode cX4_enter 46 = .ok (.iastore, 1) := by decide +kernel
theorem dX4_enter_47 : decode cX4_enter 47 = .ok (.aload_n 0, 1) := by decide +kernel
theorem dX4_enter_48 : decode cX4_enter 48 = .ok (.getfield 11, 3) := by decide +kernel
theorem dX4_enter_51 : decode cX4_enter 51 = .ok (.aload_n 0, 1) := by decide +kernel
theorem dX4_enter_52 : decode cX4_enter 52 = .ok (.getfield 21, 3) := by decide +kernel
theorem dX4_enter_55 : decode cX4_enter 55 = .ok (.iload 4, 2) := by decide +kernel
theorem dX4_enter_57 : decode cX4_enter 57 = .ok (.iastore, 1) := by decide +kernel
theorem dX4_enter_58 : decode cX4_enter 58 = .ok (.aload_n 0, 1) := by decide +kernel
theorem dX4_enter_59 : decode cX4_enter 59 = .ok (.dup, 1) := by decide +kernel
theorem dX4_enter_60 : decode cX4_enter 60 = .ok (.getfield 21, 3) := by decide +kernel
theorem dX4_enter_63 : decode cX4_enter 63 = .ok (.iconst 1, 1) := by decide +kernel
theorem dX4_enter_64 : decode cX4_enter 64 = .ok (.iadd, 1) := by decide +kernel
theorem dX4_enter_65 : decode cX4_enter 65 = .ok (.putfield 21, 3) := by decide +kernel
theorem dX4_enter_68 : decode cX4_enter 68 = .ok (.aload_n 0, 1) := by decide +kernel
theorem dX4_enter_69 : decode cX4_enter 69 = .ok (.dup, 1) := by decide +kernel
theorem dX4_enter_70 : decode cX4_enter 70 = .ok (.getfield 25, 3) := by decide +kernel
theorem dX4_enter_73 : decode cX4_enter 73 = .ok (.iconst 1, 1) := by decide +kernel
theorem dX4_enter_74 : decode cX4_enter 74 = .ok (.iload_n 1, 1) := by decide +kernel
theorem dX4_enter_75 : decode cX4_enter 75 = .ok (.ishl, 1) := by decide +kernel
theorem dX4_enter_76 : decode cX4_enter 76 = .ok (.ior, 1) := by decide +kernel
theorem dX4_enter_77 : decode cX4_enter 77 = .ok (.putfield 25, 3) := by decide +kernel
theorem dX4_enter_80 : decode cX4_enter 80 = .ok (.return_, 1) := by decide +kernel
set_option maxRecDepth 20000 in
theorem ggX4_spread_X2_kindAt : GoodIn wsX4_spread wsX2_kindAt := goodIn_r _ [6, 7, 8, 9, 10, 5, 11, 12, 13, 50, 51, 52] (by decide +kernel) (by decide +kernel)
set_option maxRecDepth 20000 in
theorem gX4_spread_X2_kindAt : GoodIn wsX4_spread (wsV RX4 51 RX2 yX2_kindAt wsX2_kindAt) := goodIn_app (goodIn_of _ (by decide +kernel)) ggX4_spread_X2_kindAt
set_option maxRecDepth 20000 in
theorem ggX4_spread_X5_letsOn : GoodIn wsX4_spread wsX5_letsOn := goodIn_r _ [16, 17, 18, 15, 19] (by decide +kernel) (by decide +kernel)
set_option maxRecDepth 20000 in
theorem gX4_spread_X5_letsOn_n54 : GoodIn wsX4_spread (wsX5_letsOn) := ggX4_spread_X5_letsOn
set_option maxRecDepth 20000 in
theorem ggX4_spread_X4_leave : GoodIn wsX4_spread wsX4_leave := goodIn_r _ [24, 25, 26, 27, 5, 28, 12, 13, 29, 30, 31, 23, 32, 33, 1, 34, 35, 36, 37, 38, 39, 40, 50, 51, 52, 45, 46, 47, 48, 49] (by decide +kernel) (by decide +kernel)
set_option maxRecDepth 20000 in
theorem gX4_spread_X4_leave : GoodIn wsX4_spread (wsV RX4 58 RX4 yX4_leave wsX4_leave) := goodIn_app (goodIn_of _ (by decide +kernel)) ggX4_spread_X4_leave
set_option maxRecDepth 20000 in
theorem ggX4_spread_X5_turnsBeam : GoodIn wsX4_spread wsX5_turnsBeam := goodIn_r _ [42, 17, 18, 15, 19] (by decide +kernel) (by decide +kernel)
set_option maxRecDepth 20000 in
theorem gX4_spread_X5_turnsBeam_n62 : GoodIn wsX4_spread (wsX5_turnsBeam) := ggX4_spread_X5_turnsBeam
set_option maxRecDepth 20000 in
theorem ggX4_spread_X5_turnedBy : GoodIn wsX4_spread wsX5_turnedBy := goodIn_r _ [44] (by decide +kernel) (by decide +kernel)
set_option maxRecDepth 20000 in
theorem gX4_spread_X5_turnedBy_n65 : GoodIn wsX4_spread (wsX5_turnedBy) := ggX4_spread_X5_turnedBy
theorem dX4_spread_0 : decode cX4_spread 0 = .ok (.aload_n 1, 1) := by decide +kernel
theorem dX4_spread_1 : decode cX4_spread 1 = .ok (.iload_n 2, 1) := by decide +kernel
theorem dX4_spread_2 : decode cX4_spread 2 = .ok (.invokevirtual 51, 3) := by decide +kernel
theorem dX4_spread_5 : decode cX4_spread 5 = .ok (.istore 4, 2) := by decide +kernel
theorem dX4_spread_7 : decode cX4_spread 7 = .ok (.iload_n 2, 1) := by decide +kernel
theorem dX4_spread_8 : decode cX4_spread 8 = .ok (.iconst 4, 1) := by decide +kernel
theorem dX4_spread_9 : decode cX4_spread 9 = .ok (.imul, 1) := by decide +kernel
theorem dX4_spread_10 : decode cX4_spread 10 = .ok (.iload_n 3, 1) := by decide +kernel
theorem dX4_spread_11 : decode cX4_spread 11 = .ok (.iadd, 1) := by decide +kernel
theorem dX4_spread_12 : decode cX4_spread 12 = .ok (.istore 5, 2) := by decide +kernel
theorem dX4_spread_14 : decode cX4_spread 14 = .ok (.iload 5, 2) := by decide +kernel
theorem dX4_spread_16 : decode cX4_spread 16 = .ok (.ifCond .lt 20, 3) := by decide +kernel
theorem dX4_spread_19 : decode cX4_spread 19 = .ok (.iload 5, 2) := by decide +kernel
theorem dX4_spread_21 : decode cX4_spread 21 = .ok (.bipush 80, 2) := by decide +kernel
theorem dX4_spread_23 : decode cX4_spread 23 = .ok (.if_icmp .ge 13, 3) := by decide +kernel
theorem dX4_spread_26 : decode cX4_spread 26 = .ok (.aload_n 0, 1) := by decide +kernel
theorem dX4_spread_27 : decode cX4_spread 27 = .ok (.getfield 15, 3) := by decide +kernel
theorem dX4_spread_30 : decode cX4_spread 30 = .ok (.iload 5, 2) := by decide +kernel
theorem dX4_spread_32 : decode cX4_spread 32 = .ok (.iaload, 1) := by decide +kernel
theorem dX4_spread_33 : decode cX4_spread 33 = .ok (.goto 4, 3) := by decide +kernel
theorem dX4_spread_36 : decode cX4_spread 36 = .ok (.iconst 0, 1) := by decide +kernel
theorem dX4_spread_37 : decode cX4_spread 37 = .ok (.istore 6, 2) := by decide +kernel
theorem dX4_spread_39 : decode cX4_spread 39 = .ok (.iload 4, 2) := by decide +kernel
theorem dX4_spread_41 : decode cX4_spread 41 = .ok (.invokestatic 54, 3) := by decide +kernel
theorem dX4_spread_44 : decode cX4_spread 44 = .ok (.ifCond .eq 12, 3) := by decide +kernel
theorem dX4_spread_47 : decode cX4_spread 47 = .ok (.aload_n 0, 1) := by decide +kernel
theorem dX4_spread_48 : decode cX4_spread 48 = .ok (.aload_n 1, 1) := by decide +kernel
theorem dX4_spread_49 : decode cX4_spread 49 = .ok (.iload_n 2, 1) := by decide +kernel
theorem dX4_spread_50 : decode cX4_spread 50 = .ok (.iload_n 3, 1) := by decide +kernel
theorem dX4_spread_51 : decode cX4_spread 51 = .ok (.iload 6, 2) := by decide +kernel
theorem dX4_spread_53 : decode cX4_spread 53 = .ok (.invokevirtual 58, 3) := by decide +kernel
theorem dX4_spread_56 : decode cX4_spread 56 = .ok (.iload 4, 2) := by decide +kernel
theorem dX4_spread_58 : decode cX4_spread 58 = .ok (.invokestatic 62, 3) := by decide +kernel
theorem dX4_spread_61 : decode cX4_spread 61 = .ok (.ifCond .eq 17, 3) := by decide +kernel
theorem dX4_spread_64 : decode cX4_spread 64 = .ok (.aload_n 0, 1) := by decide +kernel
theorem dX4_spread_65 : decode cX4_spread 65 = .ok (.aload_n 1, 1) := by decide +kernel
theorem dX4_spread_66 : decode cX4_spread 66 = .ok (.iload_n 2, 1) := by decide +kernel
theorem dX4_spread_67 : decode cX4_spread 67 = .ok (.iload 4, 2) := by decide +kernel
theorem dX4_spread_69 : decode cX4_spread 69 = .ok (.iload_n 3, 1) := by decide +kernel
theorem dX4_spread_70 : decode cX4_spread 70 = .ok (.invokestatic 65, 3) := by decide +kernel
theorem dX4_spread_73 : decode cX4_spread 73 = .ok (.iload 6, 2) := by decide +kernel
theorem dX4_spread_75 : decode cX4_spread 75 = .ok (.invokevirtual 58, 3) := by decide +kernel
theorem dX4_spread_78 : decode cX4_spread 78 = .ok (.return_, 1) := by decide +kernel
set_option maxRecDepth 20000 in
theorem ggX4_leave_X2_beyond : GoodIn wsX4_leave wsX2_beyond := goodIn_r _ [5, 6, 7, 22, 23, 24] (by decide +kernel) (by decide +kernel)
set_option maxRecDepth 20000 in
theorem gX4_leave_X2_beyond : GoodIn wsX4_leave (wsV RX4 69 RX2 yX2_beyond wsX2_beyond) := goodIn_app (goodIn_of _ (by decide +kernel)) ggX4_leave_X2_beyond
set_option maxRecDepth 20000 in
theorem ggX4_leave_X4_enter : GoodIn wsX4_leave wsX4_enter := goodIn_r _ [12, 13, 14, 15, 16, 25, 26, 27, 28, 29] (by decide +kernel) (by decide +kernel)
set_option maxRecDepth 20000 in
theorem gX4_leave_X4_enter : GoodIn wsX4_leave (wsV RX4 43 RX4 yX4_enter wsX4_enter) := goodIn_app (goodIn_of _ (by decide +kernel)) ggX4_leave_X4_enter
set_option maxRecDepth 20000 in
theorem ggX4_leave_X4_reach : GoodIn wsX4_leave wsX4_reach := goodIn_r _ [20, 21, 25, 26, 27, 28, 29] (by decide +kernel) (by decide +kernel)
set_option maxRecDepth 20000 in
theorem gX4_leave_X4_reach : GoodIn wsX4_leave (wsV RX4 72 RX4 yX4_reach wsX4_reach) := goodIn_app (goodIn_of _ (by decide +kernel)) ggX4_leave_X4_reach
theorem dX4_leave_0 : decode cX4_leave 0 = .ok (.aload_n 1, 1) := by decide +kernel
theorem dX4_leave_1 : decode cX4_leave 1 = .ok (.iload_n 2, 1) := by decide +kernel
theorem dX4_leave_2 : decode cX4_leave 2 = .ok (.iload_n 3, 1) := by decide +kernel
theorem dX4_leave_3 : decode cX4_leave 3 = .ok (.invokevirtual 69, 3) := by decide +kernel
theorem dX4_leave_6 : decode cX4_leave 6 = .ok (.istore 5, 2) := by decide +kernel
theorem dX4_leave_8 : decode cX4_leave 8 = .ok (.iload 5, 2) := by decide +kernel
theorem dX4_leave_10 : decode cX4_leave 10 = .ok (.ifCond .lt 17, 3) := by decide +kernel
theorem dX4_leave_13 : decode cX4_leave 13 = .ok (.aload_n 0, 1) := by decide +kernel
theorem dX4_leave_14 : decode cX4_leave 14 = .ok (.iload 5, 2) := by decide +kernel
theorem dX4_leave_16 : decode cX4_leave 16 = .ok (.iload_n 3, 1) := by decide +kernel
theorem dX4_leave_17 : decode cX4_leave 17 = .ok (.iload 4, 2) := by decide +kernel
theorem dX4_leave_19 : decode cX4_leave 19 = .ok (.iconst 1, 1) := by decide +kernel
theorem dX4_leave_20 : decode cX4_leave 20 = .ok (.iadd, 1) := by decide +kernel
theorem dX4_leave_21 : decode cX4_leave 21 = .ok (.invokevirtual 43, 3) := by decide +kernel
theorem dX4_leave_24 : decode cX4_leave 24 = .ok (.goto 13, 3) := by decide +kernel
theorem dX4_leave_27 : decode cX4_leave 27 = .ok (.aload_n 0, 1) := by decide +kernel
theorem dX4_leave_28 : decode cX4_leave 28 = .ok (.iload 5, 2) := by decide +kernel
theorem dX4_leave_30 : decode cX4_leave 30 = .ok (.iconst (-1), 1) := by decide +kernel
theorem dX4_leave_31 : decode cX4_leave 31 = .ok (.ixor, 1) := by decide +kernel
theorem dX4_leave_32 : decode cX4_leave 32 = .ok (.iload 4, 2) := by decide +kernel
theorem dX4_leave_34 : decode cX4_leave 34 = .ok (.invokevirtual 72, 3) := by decide +kernel
theorem dX4_leave_37 : decode cX4_leave 37 = .ok (.return_, 1) := by decide +kernel
theorem dX4_reach_0 : decode cX4_reach 0 = .ok (.iload_n 1, 1) := by decide +kernel
theorem dX4_reach_1 : decode cX4_reach 1 = .ok (.ifCond .lt 25, 3) := by decide +kernel
theorem dX4_reach_4 : decode cX4_reach 4 = .ok (.iload_n 1, 1) := by decide +kernel
theorem dX4_reach_5 : decode cX4_reach 5 = .ok (.bipush 18, 2) := by decide +kernel
theorem dX4_reach_7 : decode cX4_reach 7 = .ok (.if_icmp .ge 19, 3) := by decide +kernel
theorem dX4_reach_10 : decode cX4_reach 10 = .ok (.aload_n 0, 1) := by decide +kernel
theorem dX4_reach_11 : decode cX4_reach 11 = .ok (.getfield 18, 3) := by decide +kernel
theorem dX4_reach_14 : decode cX4_reach 14 = .ok (.iload_n 1, 1) := by decide +kernel
theorem dX4_reach_15 : decode cX4_reach 15 = .ok (.iaload, 1) := by decide +kernel
theorem dX4_reach_16 : decode cX4_reach 16 = .ok (.ifCond .ne 10, 3) := by decide +kernel
theorem dX4_reach_19 : decode cX4_reach 19 = .ok (.aload_n 0, 1) := by decide +kernel
theorem dX4_reach_20 : decode cX4_reach 20 = .ok (.getfield 18, 3) := by decide +kernel
theorem dX4_reach_23 : decode cX4_reach 23 = .ok (.iload_n 1, 1) := by decide +kernel
theorem dX4_reach_24 : decode cX4_reach 24 = .ok (.iload_n 2, 1) := by decide +kernel
theorem dX4_reach_25 : decode cX4_reach 25 = .ok (.iastore, 1) := by decide +kernel
theorem dX4_reach_26 : decode cX4_reach 26 = .ok (.return_, 1) := by decide +kernel
set_option maxRecDepth 20000 in
theorem ggX5_init_X3_init : GoodIn wsX5_init wsX3_init := goodIn_r _ [26, 27, 2, 3, 28, 29, 30, 67, 68] (by decide +kernel) (by decide +kernel)
set_option maxRecDepth 20000 in
theorem gX5_init_X3_init_n11 : GoodIn wsX5_init (wsX3_init) := ggX5_init_X3_init
set_option maxRecDepth 20000 in
theorem ggX5_init_X2_init : GoodIn wsX5_init wsX2_init := goodIn_r _ [33, 34, 2, 3, 28, 35, 36, 37, 38, 39, 40, 41, 75, 76, 77] (by decide +kernel) (by decide +kernel)
set_option maxRecDepth 20000 in
theorem gX5_init_X2_init : GoodIn wsX5_init (wsX2_init) := ggX5_init_X2_init
set_option maxRecDepth 20000 in
theorem ggX5_init_X1_init : GoodIn wsX5_init wsX1_init := goodIn_r _ [43, 44, 2, 3, 28, 45, 46, 78, 79] (by decide +kernel) (by decide +kernel)
set_option maxRecDepth 20000 in
theorem gX5_init_X1_init_n28 : GoodIn wsX5_init (wsX1_init) := ggX5_init_X1_init
set_option maxRecDepth 20000 in
theorem ggX5_init_X4_init : GoodIn wsX5_init wsX4_init := goodIn_r _ [48, 49, 2, 3, 28, 50, 51, 52, 53, 54, 80, 81, 82, 83, 84] (by decide +kernel) (by decide +kernel)
set_option maxRecDepth 20000 in
theorem gX5_init_X4_init_n35 : GoodIn wsX5_init (wsX4_init) := ggX5_init_X4_init
set_option maxRecDepth 20000 in
theorem ggX5_init_X0_init : GoodIn wsX5_init wsX0_init := goodIn_r _ [56, 57, 2, 3, 28, 58, 59, 60, 61, 62, 63, 64, 65, 66, 85, 86, 87, 88, 89, 90, 91] (by decide +kernel) (by decide +kernel)
set_option maxRecDepth 20000 in
theorem gX5_init_X0_init_n42 : GoodIn wsX5_init (wsX0_init) := ggX5_init_X0_init
theorem dX5_init_0 : decode cX5_init 0 = .ok (.aload_n 0, 1) := by decide +kernel
theorem dX5_init_1 : decode cX5_init 1 = .ok (.invokespecial 3, 3) := by decide +kernel
theorem dX5_init_4 : decode cX5_init 4 = .ok (.aload_n 0, 1) := by decide +kernel
theorem dX5_init_5 : decode cX5_init 5 = .ok (.new 9, 3) := by decide +kernel
theorem dX5_init_8 : decode cX5_init 8 = .ok (.dup, 1) := by decide +kernel
theorem dX5_init_9 : decode cX5_init 9 = .ok (.invokespecial 11, 3) := by decide +kernel
theorem dX5_init_12 : decode cX5_init 12 = .ok (.putfield 12, 3) := by decide +kernel
theorem dX5_init_15 : decode cX5_init 15 = .ok (.aload_n 0, 1) := by decide +kernel
theorem dX5_init_16 : decode cX5_init 16 = .ok (.new 16, 3) := by decide +kernel
theorem dX5_init_19 : decode cX5_init 19 = .ok (.dup, 1) := by decide +kernel
theorem dX5_init_20 : decode cX5_init 20 = .ok (.invokespecial 18, 3) := by decide +kernel
theorem dX5_init_23 : decode cX5_init 23 = .ok (.putfield 19, 3) := by decide +kernel
theorem dX5_init_26 : decode cX5_init 26 = .ok (.aload_n 0, 1) := by decide +kernel
theorem dX5_init_27 : decode cX5_init 27 = .ok (.new 16, 3) := by decide +kernel
theorem dX5_init_30 : decode cX5_init 30 = .ok (.dup, 1) := by decide +kernel
theorem dX5_init_31 : decode cX5_init 31 = .ok (.invokespecial 18, 3) := by decide +kernel
theorem dX5_init_34 : decode cX5_init 34 = .ok (.putfield 23, 3) := by decide +kernel
theorem dX5_init_37 : decode cX5_init 37 = .ok (.aload_n 0, 1) := by decide +kernel
theorem dX5_init_38 : decode cX5_init 38 = .ok (.new 26, 3) := by decide +kernel
theorem dX5_init_41 : decode cX5_init 41 = .ok (.dup, 1) := by decide +kernel
theorem dX5_init_42 : decode cX5_init 42 = .ok (.invokespecial 28, 3) := by decide +kernel
theorem dX5_init_45 : decode cX5_init 45 = .ok (.putfield 29, 3) := by decide +kernel
theorem dX5_init_48 : decode cX5_init 48 = .ok (.aload_n 0, 1) := by decide +kernel
theorem dX5_init_49 : decode cX5_init 49 = .ok (.new 33, 3) := by decide +kernel
theorem dX5_init_52 : decode cX5_init 52 = .ok (.dup, 1) := by decide +kernel
theorem dX5_init_53 : decode cX5_init 53 = .ok (.invokespecial 35, 3) := by decide +kernel
theorem dX5_init_56 : decode cX5_init 56 = .ok (.putfield 36, 3) := by decide +kernel
theorem dX5_init_59 : decode cX5_init 59 = .ok (.aload_n 0, 1) := by decide +kernel
theorem dX5_init_60 : decode cX5_init 60 = .ok (.new 40, 3) := by decide +kernel
theorem dX5_init_63 : decode cX5_init 63 = .ok (.dup, 1) := by decide +kernel
theorem dX5_init_64 : decode cX5_init 64 = .ok (.invokespecial 42, 3) := by decide +kernel
theorem dX5_init_67 : decode cX5_init 67 = .ok (.putfield 43, 3) := by decide +kernel
theorem dX5_init_70 : decode cX5_init 70 = .ok (.return_, 1) := by decide +kernel
set_option maxRecDepth 20000 in
theorem ggX5_write_X3_append : GoodIn wsX5_write wsX3_append := goodIn_r _ [6, 7, 8, 15, 16] (by decide +kernel) (by decide +kernel)
set_option maxRecDepth 20000 in
theorem gX5_write_X3_append : GoodIn wsX5_write (wsV RX5 47 RX3 yX3_append wsX3_append) := goodIn_app (goodIn_of _ (by decide +kernel)) ggX5_write_X3_append
theorem dX5_write_0 : decode cX5_write 0 = .ok (.iload_n 1, 1) := by decide +kernel
theorem dX5_write_1 : decode cX5_write 1 = .ok (.bipush 32, 2) := by decide +kernel
theorem dX5_write_3 : decode cX5_write 3 = .ok (.if_icmp .lt 9, 3) := by decide +kernel
theorem dX5_write_6 : decode cX5_write 6 = .ok (.iload_n 1, 1) := by decide +kernel
theorem dX5_write_7 : decode cX5_write 7 = .ok (.bipush 126, 2) := by decide +kernel
theorem dX5_write_9 : decode cX5_write 9 = .ok (.if_icmp .le 5, 3) := by decide +kernel
theorem dX5_write_12 : decode cX5_write 12 = .ok (.iconst (-1), 1) := by decide +kernel
theorem dX5_write_13 : decode cX5_write 13 = .ok (.ireturn, 1) := by decide +kernel
theorem dX5_write_14 : decode cX5_write 14 = .ok (.aload_n 0, 1) := by decide +kernel
theorem dX5_write_15 : decode cX5_write 15 = .ok (.getfield 12, 3) := by decide +kernel
theorem dX5_write_18 : decode cX5_write 18 = .ok (.iload_n 1, 1) := by decide +kernel
theorem dX5_write_19 : decode cX5_write 19 = .ok (.invokevirtual 47, 3) := by decide +kernel
theorem dX5_write_22 : decode cX5_write 22 = .ok (.ireturn, 1) := by decide +kernel
set_option maxRecDepth 20000 in
theorem ggX5_wipe_X3_clear : GoodIn wsX5_wipe wsX3_clear := goodIn_r _ [6, 7, 14, 15] (by decide +kernel) (by decide +kernel)
set_option maxRecDepth 20000 in
theorem gX5_wipe_X3_clear : GoodIn wsX5_wipe (wsV RX5 51 RX3 yX3_clear wsX3_clear) := goodIn_app (goodIn_of _ (by decide +kernel)) ggX5_wipe_X3_clear
theorem dX5_wipe_0 : decode cX5_wipe 0 = .ok (.aload_n 0, 1) := by decide +kernel
theorem dX5_wipe_1 : decode cX5_wipe 1 = .ok (.getfield 12, 3) := by decide +kernel
theorem dX5_wipe_4 : decode cX5_wipe 4 = .ok (.invokevirtual 51, 3) := by decide +kernel
theorem dX5_wipe_7 : decode cX5_wipe 7 = .ok (.ireturn, 1) := by decide +kernel
set_option maxRecDepth 20000 in
theorem ggX5_fault_X3_readInto : GoodIn wsX5_fault wsX3_readInto := goodIn_r _ [7, 8, 9, 10, 11, 12, 13, 14, 15, 16, 17, 18, 6, 19, 20, 21, 22, 23, 24, 25, 26, 27, 28, 29, 30, 31, 32, 33, 34, 35, 36, 37, 38, 39, 40, 41, 42, 43, 44, 45, 46, 47, 48, 49, 50, 51, 52, 53, 54, 55, 56, 57, 58, 59, 60, 61, 62, 63, 64, 65, 66, 67, 68, 69, 70, 71, 72, 73, 74, 75, 76, 77, 78, 79, 80, 81, 82, 83, 84, 85, 86, 87, 88, 89, 90, 91, 92, 93, 94, 95, 96, 97, 98, 99, 100, 101, 102, 103, 104, 105, 106, 107, 108, 109, 110, 111, 112, 113, 114, 115, 116, 117, 118, 119, 120, 121, 122, 123, 124, 125, 126, 127, 128, 129, 130, 131, 132, 133, 134, 135, 136, 137, 138, 139, 140, 141, 142, 143, 150, 151, 152, 153, 154] (by decide +kernel) (by decide +kernel)
set_option maxRecDepth 20000 in
theorem gX5_fault_X3_readInto : GoodIn wsX5_fault (wsV RX5 55 RX3 yX3_readInto wsX3_readInto) := goodIn_app (goodIn_of _ (by decide +kernel)) ggX5_fault_X3_readInto
theorem dX5_fault_0 : decode cX5_fault 0 = .ok (.aload_n 0, 1) := by decide +kernel
theorem dX5_fault_1 : decode cX5_fault 1 = .ok (.getfield 12, 3) := by decide +kernel
theorem dX5_fault_4 : decode cX5_fault 4 = .ok (.aload_n 0, 1) := by decide +kernel
theorem dX5_fault_5 : decode cX5_fault 5 = .ok (.getfield 23, 3) := by decide +kernel
theorem dX5_fault_8 : decode cX5_fault 8 = .ok (.invokevirtual 55, 3) := by decide +kernel
theorem dX5_fault_11 : decode cX5_fault 11 = .ok (.ireturn, 1) := by decide +kernel
set_option maxRecDepth 20000 in
theorem ggX5_lay_X3_readInto : GoodIn wsX5_lay wsX3_readInto := goodIn_r _ [9, 10, 11, 12, 13, 14, 15, 16, 17, 18, 19, 20, 8, 21, 22, 23, 24, 25, 26, 27, 28, 29, 30, 31, 32, 33, 34, 35, 36, 37, 38, 39, 40, 41, 42, 43, 44, 45, 46, 47, 48, 49, 50, 51, 52, 53, 54, 55, 56, 57, 58, 59, 60, 61, 62, 63, 64, 65, 66, 67, 68, 69, 70, 71, 72, 73, 74, 75, 76, 77, 78, 79, 80, 81, 82, 83, 84, 85, 86, 87, 88, 89, 90, 91, 92, 93, 94, 95, 96, 97, 98, 99, 100, 101, 102, 103, 104, 105, 106, 107, 108, 109, 110, 111, 112, 113, 114, 115, 116, 117, 118, 119, 120, 121, 122, 123, 124, 125, 126, 127, 128, 129, 130, 131, 132, 133, 134, 135, 136, 137, 138, 139, 140, 141, 142, 143, 144, 145, 170, 171, 167, 168, 169] (by decide +kernel) (by decide +kernel)
set_option maxRecDepth 20000 in
theorem gX5_lay_X3_readInto : GoodIn wsX5_lay (wsV RX5 55 RX3 yX3_readInto wsX3_readInto) := goodIn_app (goodIn_of _ (by decide +kernel)) ggX5_lay_X3_readInto
set_option maxRecDepth 20000 in
theorem ggX5_lay_X2_become : GoodIn wsX5_lay wsX2_become := goodIn_r _ [149, 16, 17, 132, 150, 151, 152, 153, 167, 168, 169] (by decide +kernel) (by decide +kernel)
set_option maxRecDepth 20000 in
theorem gX5_lay_X2_become : GoodIn wsX5_lay (wsV RX5 63 RX2 yX2_become wsX2_become) := goodIn_app (goodIn_of _ (by decide +kernel)) ggX5_lay_X2_become
set_option maxRecDepth 20000 in
theorem ggX5_lay_X1_forget : GoodIn wsX5_lay wsX1_forget := goodIn_r _ [158, 159, 172, 173] (by decide +kernel) (by decide +kernel)
set_option maxRecDepth 20000 in
theorem gX5_lay_X1_forget : GoodIn wsX5_lay (wsV RX5 67 RX1 yX1_forget wsX1_forget) := goodIn_app (goodIn_of _ (by decide +kernel)) ggX5_lay_X1_forget
set_option maxRecDepth 20000 in
theorem ggX5_lay_X2_cells : GoodIn wsX5_lay wsX2_cells := goodIn_r _ [38, 16, 17, 167, 168, 169] (by decide +kernel) (by decide +kernel)
set_option maxRecDepth 20000 in
theorem gX5_lay_X2_cells : GoodIn wsX5_lay (wsV RX5 70 RX2 yX2_cells wsX2_cells) := goodIn_app (goodIn_of _ (by decide +kernel)) ggX5_lay_X2_cells
theorem dX5_lay_0 : decode cX5_lay 0 = .ok (.aload_n 0, 1) := by decide +kernel
theorem dX5_lay_1 : decode cX5_lay 1 = .ok (.getfield 12, 3) := by decide +kernel
theorem dX5_lay_4 : decode cX5_lay 4 = .ok (.aload_n 0, 1) := by decide +kernel
theorem dX5_lay_5 : decode cX5_lay 5 = .ok (.getfield 23, 3) := by decide +kernel
theorem dX5_lay_8 : decode cX5_lay 8 = .ok (.invokevirtual 55, 3) := by decide +kernel
theorem dX5_lay_11 : decode cX5_lay 11 = .ok (.bipush (-4), 2) := by decide +kernel
theorem dX5_lay_13 : decode cX5_lay 13 = .ok (.if_icmp .ne 13, 3) := by decide +kernel
theorem dX5_lay_16 : decode cX5_lay 16 = .ok (.aload_n 0, 1) := by decide +kernel
theorem dX5_lay_17 : decode cX5_lay 17 = .ok (.getfield 23, 3) := by decide +kernel
theorem dX5_lay_20 : decode cX5_lay 20 = .ok (.getfield 59, 3) := by decide +kernel
theorem dX5_lay_23 : decode cX5_lay 23 = .ok (.ifCond .ne 6, 3) := by decide +kernel
theorem dX5_lay_26 : decode cX5_lay 26 = .ok (.bipush (-2), 2) := by decide +kernel
theorem dX5_lay_28 : decode cX5_lay 28 = .ok (.ireturn, 1) := by decide +kernel
theorem dX5_lay_29 : decode cX5_lay 29 = .ok (.aload_n 0, 1) := by decide +kernel
theorem dX5_lay_30 : decode cX5_lay 30 = .ok (.getfield 19, 3) := by decide +kernel
theorem dX5_lay_33 : decode cX5_lay 33 = .ok (.aload_n 0, 1) := by decide +kernel
theorem dX5_lay_34 : decode cX5_lay 34 = .ok (.getfield 23, 3) := by decide +kernel
theorem dX5_lay_37 : decode cX5_lay 37 = .ok (.invokevirtual 63, 3) := by decide +kernel
theorem dX5_lay_40 : decode cX5_lay 40 = .ok (.aload_n 0, 1) := by decide +kernel
theorem dX5_lay_41 : decode cX5_lay 41 = .ok (.getfield 29, 3) := by decide +kernel
theorem dX5_lay_44 : decode cX5_lay 44 = .ok (.invokevirtual 67, 3) := by decide +kernel
theorem dX5_lay_47 : decode cX5_lay 47 = .ok (.aload_n 0, 1) := by decide +kernel
theorem dX5_lay_48 : decode cX5_lay 48 = .ok (.getfield 19, 3) := by decide +kernel
theorem dX5_lay_51 : decode cX5_lay 51 = .ok (.invokevirtual 70, 3) := by decide +kernel
theorem dX5_lay_54 : decode cX5_lay 54 = .ok (.ireturn, 1) := by decide +kernel
set_option maxRecDepth 20000 in
theorem ggX5_put_X2_kindAt : GoodIn wsX5_put wsX2_kindAt := goodIn_r _ [7, 8, 9, 10, 11, 6, 12, 13, 14, 64, 65, 66] (by decide +kernel) (by decide +kernel)
set_option maxRecDepth 20000 in
theorem gX5_put_X2_kindAt : GoodIn wsX5_put (wsV RX5 73 RX2 yX2_kindAt wsX2_kindAt) := goodIn_app (goodIn_of _ (by decide +kernel)) ggX5_put_X2_kindAt
set_option maxRecDepth 20000 in
theorem ggX5_put_X5_tryCell : GoodIn wsX5_put wsX5_tryCell := goodIn_r _ [19, 2, 1, 20, 21, 22, 6, 23, 13, 14, 8, 24, 25, 26, 27, 28, 29, 30, 31, 9, 10, 11, 12, 58, 59, 60, 61, 62, 63, 64, 65, 66] (by decide +kernel) (by decide +kernel)
set_option maxRecDepth 20000 in
theorem gX5_put_X5_tryCell : GoodIn wsX5_put (wsV RX5 76 RX5 yX5_tryCell wsX5_tryCell) := goodIn_app (goodIn_of _ (by decide +kernel)) ggX5_put_X5_tryCell
set_option maxRecDepth 20000 in
theorem ggX5_put_X2_isOverfull : GoodIn wsX5_put wsX2_isOverfull := goodIn_r _ [35, 36, 37, 38, 6, 39, 9, 10, 11, 12, 13, 14, 40, 4, 5, 7, 8, 64, 65, 66] (by decide +kernel) (by decide +kernel)
set_option maxRecDepth 20000 in
theorem gX5_put_X2_isOverfull : GoodIn wsX5_put (wsV RX5 80 RX2 yX2_isOverfull wsX2_isOverfull) := goodIn_app (goodIn_of _ (by decide +kernel)) ggX5_put_X2_isOverfull
set_option maxRecDepth 20000 in
theorem ggX5_put_X5_change : GoodIn wsX5_put wsX5_change := goodIn_r _ [44, 45, 1, 46, 47, 48, 49, 50, 51, 52, 53, 54, 55, 56, 57, 25, 26, 27, 28, 29, 30, 6, 31, 8, 9, 10, 11, 12, 13, 14, 58, 59, 60, 61, 62, 63, 67, 68, 64, 65, 66] (by decide +kernel) (by decide +kernel)
set_option maxRecDepth 20000 in
theorem gX5_put_X5_change : GoodIn wsX5_put (wsV RX5 84 RX5 yX5_change wsX5_change) := goodIn_app (goodIn_of _ (by decide +kernel)) ggX5_put_X5_change
theorem dX5_put_0 : decode cX5_put 0 = .ok (.aload_n 0, 1) := by decide +kernel
theorem dX5_put_1 : decode cX5_put 1 = .ok (.getfield 19, 3) := by decide +kernel
theorem dX5_put_4 : decode cX5_put 4 = .ok (.iload_n 1, 1) := by decide +kernel
theorem dX5_put_5 : decode cX5_put 5 = .ok (.invokevirtual 73, 3) := by decide +kernel
theorem dX5_put_8 : decode cX5_put 8 = .ok (.istore_n 3, 1) := by decide +kernel
theorem dX5_put_9 : decode cX5_put 9 = .ok (.iload_n 3, 1) := by decide +kernel
theorem dX5_put_10 : decode cX5_put 10 = .ok (.iconst (-1), 1) := by decide +kernel
theorem dX5_put_11 : decode cX5_put 11 = .ok (.if_icmp .eq 13, 3) := by decide +kernel
theorem dX5_put_14 : decode cX5_put 14 = .ok (.iload_n 2, 1) := by decide +kernel
theorem dX5_put_15 : decode cX5_put 15 = .ok (.ifCond .lt 9, 3) := by decide +kernel
theorem dX5_put_18 : decode cX5_put 18 = .ok (.iload_n 2, 1) := by decide +kernel
theorem dX5_put_19 : decode cX5_put 19 = .ok (.bipush 7, 2) := by decide +kernel
theorem dX5_put_21 : decode cX5_put 21 = .ok (.if_icmp .le 5, 3) := by decide +kernel
theorem dX5_put_24 : decode cX5_put 24 = .ok (.iconst (-1), 1) := by decide +kernel
theorem dX5_put_25 : decode cX5_put 25 = .ok (.ireturn, 1) := by decide +kernel
theorem dX5_put_26 : decode cX5_put 26 = .ok (.iload_n 3, 1) := by decide +kernel
theorem dX5_put_27 : decode cX5_put 27 = .ok (.iload_n 2, 1) := by decide +kernel
theorem dX5_put_28 : decode cX5_put 28 = .ok (.if_icmp .ne 6, 3) := by decide +kernel
theorem dX5_put_31 : decode cX5_put 31 = .ok (.bipush (-2), 2) := by decide +kernel
theorem dX5_put_33 : decode cX5_put 33 = .ok (.ireturn, 1) := by decide +kernel
theorem dX5_put_34 : decode cX5_put 34 = .ok (.aload_n 0, 1) := by decide +kernel
theorem dX5_put_35 : decode cX5_put 35 = .ok (.iload_n 1, 1) := by decide +kernel
theorem dX5_put_36 : decode cX5_put 36 = .ok (.iload_n 2, 1) := by decide +kernel
theorem dX5_put_37 : decode cX5_put 37 = .ok (.invokevirtual 76, 3) := by decide +kernel
theorem dX5_put_40 : decode cX5_put 40 = .ok (.aload_n 0, 1) := by decide +kernel
theorem dX5_put_41 : decode cX5_put 41 = .ok (.getfield 23, 3) := by decide +kernel
theorem dX5_put_44 : decode cX5_put 44 = .ok (.invokevirtual 80, 3) := by decide +kernel
theorem dX5_put_47 : decode cX5_put 47 = .ok (.ifCond .eq 6, 3) := by decide +kernel
theorem dX5_put_50 : decode cX5_put 50 = .ok (.bipush (-3), 2) := by decide +kernel
theorem dX5_put_52 : decode cX5_put 52 = .ok (.ireturn, 1) := by decide +kernel
theorem dX5_put_53 : decode cX5_put 53 = .ok (.aload_n 0, 1) := by decide +kernel
theorem dX5_put_54 : decode cX5_put 54 = .ok (.iload_n 1, 1) := by decide +kernel
theorem dX5_put_55 : decode cX5_put 55 = .ok (.iload_n 3, 1) := by decide +kernel
theorem dX5_put_56 : decode cX5_put 56 = .ok (.iload_n 2, 1) := by decide +kernel
theorem dX5_put_57 : decode cX5_put 57 = .ok (.invokevirtual 84, 3) := by decide +kernel
theorem dX5_put_60 : decode cX5_put 60 = .ok (.iload_n 3, 1) := by decide +kernel
theorem dX5_put_61 : decode cX5_put 61 = .ok (.ireturn, 1) := by decide +kernel
set_option maxRecDepth 20000 in
theorem ggX5_door_X2_doorCell : GoodIn wsX5_door wsX2_doorCell := goodIn_r _ [6, 7, 8, 9, 5, 10, 11, 12, 13, 14, 15, 16, 17, 57, 58, 59] (by decide +kernel) (by decide +kernel)
set_option maxRecDepth 20000 in
theorem gX5_door_X2_doorCell : GoodIn wsX5_door (wsV RX5 88 RX2 yX2_doorCell wsX2_doorCell) := goodIn_app (goodIn_of _ (by decide +kernel)) ggX5_door_X2_doorCell
set_option maxRecDepth 20000 in
theorem ggX5_door_X5_isPart : GoodIn wsX5_door wsX5_isPart := goodIn_r _ [21] (by decide +kernel) (by decide +kernel)
set_option maxRecDepth 20000 in
theorem gX5_door_X5_isPart : GoodIn wsX5_door (va_wsS RX5 91 yX5_isPart wsX5_isPart) := goodIn_app (goodIn_of _ (by decide +kernel)) ggX5_door_X5_isPart
set_option maxRecDepth 20000 in
theorem ggX5_door_X2_kindAt : GoodIn wsX5_door wsX2_kindAt := goodIn_r _ [16, 17, 7, 8, 9, 5, 10, 11, 12, 57, 58, 59] (by decide +kernel) (by decide +kernel)
set_option maxRecDepth 20000 in
theorem gX5_door_X2_kindAt : GoodIn wsX5_door (wsV RX5 73 RX2 yX2_kindAt wsX2_kindAt) := goodIn_app (goodIn_of _ (by decide +kernel)) ggX5_door_X2_kindAt
set_option maxRecDepth 20000 in
theorem ggX5_door_X5_change : GoodIn wsX5_door wsX5_change := goodIn_r _ [26, 27, 1, 28, 29, 30, 31, 32, 33, 34, 35, 36, 37, 38, 39, 40, 41, 42, 43, 44, 45, 5, 46, 17, 7, 8, 9, 10, 11, 12, 51, 52, 53, 54, 55, 56, 60, 61, 57, 58, 59] (by decide +kernel) (by decide +kernel)
set_option maxRecDepth 20000 in
theorem gX5_door_X5_change : GoodIn wsX5_door (wsV RX5 84 RX5 yX5_change wsX5_change) := goodIn_app (goodIn_of _ (by decide +kernel)) ggX5_door_X5_change
set_option maxRecDepth 20000 in
theorem ggX5_door_X2_countKinds : GoodIn wsX5_door wsX2_countKinds := goodIn_r _ [50, 7, 8, 9, 5, 10, 11, 12, 13, 14, 15, 16, 17, 57, 58, 59] (by decide +kernel) (by decide +kernel)
set_option maxRecDepth 20000 in
theorem gX5_door_X2_countKinds : GoodIn wsX5_door (wsV RX5 95 RX2 yX2_countKinds wsX2_countKinds) := goodIn_app (goodIn_of _ (by decide +kernel)) ggX5_door_X2_countKinds
theorem dX5_door_0 : decode cX5_door 0 = .ok (.aload_n 0, 1) := by decide +kernel
theorem dX5_door_1 : decode cX5_door 1 = .ok (.getfield 19, 3) := by decide +kernel
theorem dX5_door_4 : decode cX5_door 4 = .ok (.iload_n 1, 1) := by decide +kernel
theorem dX5_door_5 : decode cX5_door 5 = .ok (.invokevirtual 88, 3) := by decide +kernel
theorem dX5_door_8 : decode cX5_door 8 = .ok (.istore_n 3, 1) := by decide +kernel
theorem dX5_door_9 : decode cX5_door 9 = .ok (.iload_n 3, 1) := by decide +kernel
theorem dX5_door_10 : decode cX5_door 10 = .ok (.iconst (-1), 1) := by decide +kernel
theorem dX5_door_11 : decode cX5_door 11 = .ok (.if_icmp .eq 11, 3) := by decide +kernel
theorem dX5_door_14 : decode cX5_door 14 = .ok (.iload_n 2, 1) := by decide +kernel
theorem dX5_door_15 : decode cX5_door 15 = .ok (.iconst 2, 1) := by decide +kernel
theorem dX5_door_16 : decode cX5_door 16 = .ok (.invokestatic 91, 3) := by decide +kernel
theorem dX5_door_19 : decode cX5_door 19 = .ok (.ifCond .ne 5, 3) := by decide +kernel
theorem dX5_door_22 : decode cX5_door 22 = .ok (.iconst (-1), 1) := by decide +kernel
theorem dX5_door_23 : decode cX5_door 23 = .ok (.ireturn, 1) := by decide +kernel
theorem dX5_door_24 : decode cX5_door 24 = .ok (.aload_n 0, 1) := by decide +kernel
theorem dX5_door_25 : decode cX5_door 25 = .ok (.getfield 19, 3) := by decide +kernel
theorem dX5_door_28 : decode cX5_door 28 = .ok (.iload_n 3, 1) := by decide +kernel
theorem dX5_door_29 : decode cX5_door 29 = .ok (.invokevirtual 73, 3) := by decide +kernel
theorem dX5_door_32 : decode cX5_door 32 = .ok (.istore 4, 2) := by decide +kernel
theorem dX5_door_34 : decode cX5_door 34 = .ok (.iload_n 2, 1) := by decide +kernel
theorem dX5_door_35 : decode cX5_door 35 = .ok (.iconst 1, 1) := by decide +kernel
theorem dX5_door_36 : decode cX5_door 36 = .ok (.if_icmp .ne 8, 3) := by decide +kernel
theorem dX5_door_39 : decode cX5_door 39 = .ok (.bipush 6, 2) := by decide +kernel
theorem dX5_door_41 : decode cX5_door 41 = .ok (.goto 5, 3) := by decide +kernel
theorem dX5_door_44 : decode cX5_door 44 = .ok (.bipush 7, 2) := by decide +kernel
theorem dX5_door_46 : decode cX5_door 46 = .ok (.istore 5, 2) := by decide +kernel
theorem dX5_door_48 : decode cX5_door 48 = .ok (.iload 4, 2) := by decide +kernel
theorem dX5_door_50 : decode cX5_door 50 = .ok (.iload 5, 2) := by decide +kernel
theorem dX5_door_52 : decode cX5_door 52 = .ok (.if_icmp .ne 6, 3) := by decide +kernel
theorem dX5_door_55 : decode cX5_door 55 = .ok (.bipush (-2), 2) := by decide +kernel
theorem dX5_door_57 : decode cX5_door 57 = .ok (.ireturn, 1) := by decide +kernel
theorem dX5_door_58 : decode cX5_door 58 = .ok (.aload_n 0, 1) := by decide +kernel
theorem dX5_door_59 : decode cX5_door 59 = .ok (.iload_n 3, 1) := by decide +kernel
theorem dX5_door_60 : decode cX5_door 60 = .ok (.iload 4, 2) := by decide +kernel
theorem dX5_door_62 : decode cX5_door 62 = .ok (.iload 5, 2) := by decide +kernel
theorem dX5_door_64 : decode cX5_door 64 = .ok (.invokevirtual 84, 3) := by decide +kernel
theorem dX5_door_67 : decode cX5_door 67 = .ok (.aload_n 0, 1) := by decide +kernel
theorem dX5_door_68 : decode cX5_door 68 = .ok (.getfield 19, 3) := by decide +kernel
theorem dX5_door_71 : decode cX5_door 71 = .ok (.bipush 6, 2) := by decide +kernel
theorem dX5_door_73 : decode cX5_door 73 = .ok (.bipush 6, 2) := by decide +kernel
theorem dX5_door_75 : decode cX5_door 75 = .ok (.invokevirtual 95, 3) := by decide +kernel
theorem dX5_door_78 : decode cX5_door 78 = .ok (.ireturn, 1) := by decide +kernel
set_option maxRecDepth 20000 in
theorem ggX5_turn_X5_turnRoom : GoodIn wsX5_turn wsX5_turnRoom := goodIn_r _ [7, 8, 1, 9, 10, 11, 12, 13, 14, 15, 16, 17, 18, 19, 20, 21, 22, 23, 24, 25, 26, 27, 28, 29, 30, 31, 32, 33, 34, 35, 36, 37, 38, 39, 52, 53, 54, 55, 56, 57, 58, 59, 60] (by decide +kernel) (by decide +kernel)
set_option maxRecDepth 20000 in
theorem gX5_turn_X5_turnRoom : GoodIn wsX5_turn (wsV RX5 102 RX5 yX5_turnRoom wsX5_turnRoom) := goodIn_app (goodIn_of _ (by decide +kernel)) ggX5_turn_X5_turnRoom
set_option maxRecDepth 20000 in
theorem ggX5_turn_X1_rememberTurn : GoodIn wsX5_turn wsX1_rememberTurn := goodIn_r _ [44, 45, 46, 47, 43, 48, 49, 50, 51, 37, 38, 39, 61, 62] (by decide +kernel) (by decide +kernel)
set_option maxRecDepth 20000 in
theorem gX5_turn_X1_rememberTurn : GoodIn wsX5_turn (wsV RX5 105 RX1 yX1_rememberTurn wsX1_rememberTurn) := goodIn_app (goodIn_of _ (by decide +kernel)) ggX5_turn_X1_rememberTurn
theorem dX5_turn_0 : decode cX5_turn 0 = .ok (.aload_n 0, 1) := by decide +kernel
theorem dX5_turn_1 : decode cX5_turn 1 = .ok (.getfield 19, 3) := by decide +kernel
theorem dX5_turn_4 : decode cX5_turn 4 = .ok (.getfield 59, 3) := by decide +kernel
theorem dX5_turn_7 : decode cX5_turn 7 = .ok (.iconst 2, 1) := by decide +kernel
theorem dX5_turn_8 : decode cX5_turn 8 = .ok (.if_icmp .lt 14, 3) := by decide +kernel
theorem dX5_turn_11 : decode cX5_turn 11 = .ok (.aload_n 0, 1) := by decide +kernel
theorem dX5_turn_12 : decode cX5_turn 12 = .ok (.getfield 19, 3) := by decide +kernel
theorem dX5_turn_15 : decode cX5_turn 15 = .ok (.getfield 99, 3) := by decide +kernel
theorem dX5_turn_18 : decode cX5_turn 18 = .ok (.iconst 4, 1) := by decide +kernel
theorem dX5_turn_19 : decode cX5_turn 19 = .ok (.if_icmp .le 6, 3) := by decide +kernel
theorem dX5_turn_22 : decode cX5_turn 22 = .ok (.bipush (-2), 2) := by decide +kernel
theorem dX5_turn_24 : decode cX5_turn 24 = .ok (.ireturn, 1) := by decide +kernel
theorem dX5_turn_25 : decode cX5_turn 25 = .ok (.aload_n 0, 1) := by decide +kernel
theorem dX5_turn_26 : decode cX5_turn 26 = .ok (.invokevirtual 102, 3) := by decide +kernel
theorem dX5_turn_29 : decode cX5_turn 29 = .ok (.aload_n 0, 1) := by decide +kernel
theorem dX5_turn_30 : decode cX5_turn 30 = .ok (.getfield 29, 3) := by decide +kernel
theorem dX5_turn_33 : decode cX5_turn 33 = .ok (.invokevirtual 105, 3) := by decide +kernel
theorem dX5_turn_36 : decode cX5_turn 36 = .ok (.aload_n 0, 1) := by decide +kernel
theorem dX5_turn_37 : decode cX5_turn 37 = .ok (.getfield 19, 3) := by decide +kernel
theorem dX5_turn_40 : decode cX5_turn 40 = .ok (.getfield 99, 3) := by decide +kernel
theorem dX5_turn_43 : decode cX5_turn 43 = .ok (.ireturn, 1) := by decide +kernel
set_option maxRecDepth 20000 in
theorem ggX5_undo_X1_takeLatest : GoodIn wsX5_undo wsX1_takeLatest := goodIn_r _ [7, 8, 9, 60, 61] (by decide +kernel) (by decide +kernel)
set_option maxRecDepth 20000 in
theorem gX5_undo_X1_takeLatest : GoodIn wsX5_undo (wsV RX5 111 RX1 yX1_takeLatest wsX1_takeLatest) := goodIn_app (goodIn_of _ (by decide +kernel)) ggX5_undo_X1_takeLatest
set_option maxRecDepth 20000 in
theorem ggX5_undo_X5_turnRoom : GoodIn wsX5_undo wsX5_turnRoom := goodIn_r _ [14, 15, 2, 16, 17, 18, 19, 20, 21, 22, 23, 24, 25, 26, 27, 28, 29, 30, 31, 32, 33, 34, 35, 36, 37, 38, 39, 40, 41, 42, 43, 44, 45, 46, 54, 55, 56, 57, 58, 59, 62, 63, 64] (by decide +kernel) (by decide +kernel)
set_option maxRecDepth 20000 in
theorem gX5_undo_X5_turnRoom : GoodIn wsX5_undo (wsV RX5 102 RX5 yX5_turnRoom wsX5_turnRoom) := goodIn_app (goodIn_of _ (by decide +kernel)) ggX5_undo_X5_turnRoom
set_option maxRecDepth 20000 in
theorem ggX5_undo_X1_cellOf : GoodIn wsX5_undo wsX1_cellOf := goodIn_r _ [49] (by decide +kernel) (by decide +kernel)
set_option maxRecDepth 20000 in
theorem gX5_undo_X1_cellOf : GoodIn wsX5_undo (va_wsS RX5 114 yX1_cellOf wsX1_cellOf) := goodIn_app (goodIn_of _ (by decide +kernel)) ggX5_undo_X1_cellOf
set_option maxRecDepth 20000 in
theorem ggX5_undo_X1_kindOf : GoodIn wsX5_undo wsX1_kindOf := goodIn_r _ [52] (by decide +kernel) (by decide +kernel)
set_option maxRecDepth 20000 in
theorem gX5_undo_X1_kindOf : GoodIn wsX5_undo (va_wsS RX5 117 yX1_kindOf wsX1_kindOf) := goodIn_app (goodIn_of _ (by decide +kernel)) ggX5_undo_X1_kindOf
set_option maxRecDepth 20000 in
theorem ggX5_undo_X2_tell : GoodIn wsX5_undo wsX2_tell := goodIn_r _ [38, 27, 28, 29, 30, 19, 31, 22, 21, 62, 63, 64] (by decide +kernel) (by decide +kernel)
set_option maxRecDepth 20000 in
theorem gX5_undo_X2_tell : GoodIn wsX5_undo (wsV RX5 120 RX2 yX2_tell wsX2_tell) := goodIn_app (goodIn_of _ (by decide +kernel)) ggX5_undo_X2_tell
theorem dX5_undo_0 : decode cX5_undo 0 = .ok (.aload_n 0, 1) := by decide +kernel
theorem dX5_undo_1 : decode cX5_undo 1 = .ok (.getfield 29, 3) := by decide +kernel
theorem dX5_undo_4 : decode cX5_undo 4 = .ok (.getfield 108, 3) := by decide +kernel
theorem dX5_undo_7 : decode cX5_undo 7 = .ok (.ifCond .ne 6, 3) := by decide +kernel
theorem dX5_undo_10 : decode cX5_undo 10 = .ok (.bipush (-2), 2) := by decide +kernel
theorem dX5_undo_12 : decode cX5_undo 12 = .ok (.ireturn, 1) := by decide +kernel
theorem dX5_undo_13 : decode cX5_undo 13 = .ok (.aload_n 0, 1) := by decide +kernel
theorem dX5_undo_14 : decode cX5_undo 14 = .ok (.getfield 29, 3) := by decide +kernel
theorem dX5_undo_17 : decode cX5_undo 17 = .ok (.invokevirtual 111, 3) := by decide +kernel
theorem dX5_undo_20 : decode cX5_undo 20 = .ok (.istore_n 1, 1) := by decide +kernel
theorem dX5_undo_21 : decode cX5_undo 21 = .ok (.iload_n 1, 1) := by decide +kernel
theorem dX5_undo_22 : decode cX5_undo 22 = .ok (.iconst (-1), 1) := by decide +kernel
theorem dX5_undo_23 : decode cX5_undo 23 = .ok (.if_icmp .ne 18, 3) := by decide +kernel
theorem dX5_undo_26 : decode cX5_undo 26 = .ok (.aload_n 0, 1) := by decide +kernel
theorem dX5_undo_27 : decode cX5_undo 27 = .ok (.invokevirtual 102, 3) := by decide +kernel
theorem dX5_undo_30 : decode cX5_undo 30 = .ok (.aload_n 0, 1) := by decide +kernel
theorem dX5_undo_31 : decode cX5_undo 31 = .ok (.invokevirtual 102, 3) := by decide +kernel
theorem dX5_undo_34 : decode cX5_undo 34 = .ok (.aload_n 0, 1) := by decide +kernel
theorem dX5_undo_35 : decode cX5_undo 35 = .ok (.invokevirtual 102, 3) := by decide +kernel
theorem dX5_undo_38 : decode cX5_undo 38 = .ok (.goto 18, 3) := by decide +kernel
theorem dX5_undo_41 : decode cX5_undo 41 = .ok (.aload_n 0, 1) := by decide +kernel
theorem dX5_undo_42 : decode cX5_undo 42 = .ok (.getfield 19, 3) := by decide +kernel
theorem dX5_undo_45 : decode cX5_undo 45 = .ok (.iload_n 1, 1) := by decide +kernel
theorem dX5_undo_46 : decode cX5_undo 46 = .ok (.invokestatic 114, 3) := by decide +kernel
theorem dX5_undo_49 : decode cX5_undo 49 = .ok (.iload_n 1, 1) := by decide +kernel
theorem dX5_undo_50 : decode cX5_undo 50 = .ok (.invokestatic 117, 3) := by decide +kernel
theorem dX5_undo_53 : decode cX5_undo 53 = .ok (.invokevirtual 120, 3) := by decide +kernel
theorem dX5_undo_56 : decode cX5_undo 56 = .ok (.aload_n 0, 1) := by decide +kernel
theorem dX5_undo_57 : decode cX5_undo 57 = .ok (.getfield 29, 3) := by decide +kernel
theorem dX5_undo_60 : decode cX5_undo 60 = .ok (.getfield 108, 3) := by decide +kernel
theorem dX5_undo_63 : decode cX5_undo 63 = .ok (.ireturn, 1) := by decide +kernel
set_option maxRecDepth 20000 in
theorem ggX5_change_X1_rememberKind : GoodIn wsX5_change wsX1_rememberKind := goodIn_r _ [7, 8, 9, 10, 6, 11, 12, 13, 14, 15, 16, 17, 36, 37] (by decide +kernel) (by decide +kernel)
set_option maxRecDepth 20000 in
theorem gX5_change_X1_rememberKind : GoodIn wsX5_change (wsV RX5 123 RX1 yX1_rememberKind wsX1_rememberKind) := goodIn_app (goodIn_of _ (by decide +kernel)) ggX5_change_X1_rememberKind
set_option maxRecDepth 20000 in
theorem ggX5_change_X2_tell : GoodIn wsX5_change wsX2_tell := goodIn_r _ [22, 23, 24, 25, 26, 21, 27, 28, 29, 38, 39, 40] (by decide +kernel) (by decide +kernel)
set_option maxRecDepth 20000 in
theorem gX5_change_X2_tell : GoodIn wsX5_change (wsV RX5 120 RX2 yX2_tell wsX2_tell) := goodIn_app (goodIn_of _ (by decide +kernel)) ggX5_change_X2_tell
theorem dX5_change_0 : decode cX5_change 0 = .ok (.aload_n 0, 1) := by decide +kernel
theorem dX5_change_1 : decode cX5_change 1 = .ok (.getfield 29, 3) := by decide +kernel
theorem dX5_change_4 : decode cX5_change 4 = .ok (.iload_n 1, 1) := by decide +kernel
theorem dX5_change_5 : decode cX5_change 5 = .ok (.iload_n 2, 1) := by decide +kernel
theorem dX5_change_6 : decode cX5_change 6 = .ok (.invokevirtual 123, 3) := by decide +kernel
theorem dX5_change_9 : decode cX5_change 9 = .ok (.aload_n 0, 1) := by decide +kernel
theorem dX5_change_10 : decode cX5_change 10 = .ok (.getfield 19, 3) := by decide +kernel
theorem dX5_change_13 : decode cX5_change 13 = .ok (.iload_n 1, 1) := by decide +kernel
theorem dX5_change_14 : decode cX5_change 14 = .ok (.iload_n 3, 1) := by decide +kernel
theorem dX5_change_15 : decode cX5_change 15 = .ok (.invokevirtual 120, 3) := by decide +kernel
theorem dX5_change_18 : decode cX5_change 18 = .ok (.return_, 1) := by decide +kernel
set_option maxRecDepth 20000 in
theorem ggX5_turnRoom_X2_becomeTurned : GoodIn wsX5_turnRoom wsX2_becomeTurned := goodIn_r _ [7, 8, 9, 10, 11, 12, 6, 13, 14, 15, 16, 17, 18, 19, 20, 21, 22, 23, 24, 25, 40, 41, 42] (by decide +kernel) (by decide +kernel)
set_option maxRecDepth 20000 in
theorem gX5_turnRoom_X2_becomeTurned : GoodIn wsX5_turnRoom (wsV RX5 126 RX2 yX2_becomeTurned wsX2_becomeTurned) := goodIn_app (goodIn_of _ (by decide +kernel)) ggX5_turnRoom_X2_becomeTurned
set_option maxRecDepth 20000 in
theorem ggX5_turnRoom_X2_become : GoodIn wsX5_turnRoom wsX2_become := goodIn_r _ [29, 9, 8, 14, 30, 31, 32, 33, 40, 41, 42] (by decide +kernel) (by decide +kernel)
set_option maxRecDepth 20000 in
theorem gX5_turnRoom_X2_become : GoodIn wsX5_turnRoom (wsV RX5 63 RX2 yX2_become wsX2_become) := goodIn_app (goodIn_of _ (by decide +kernel)) ggX5_turnRoom_X2_become
theorem dX5_turnRoom_0 : decode cX5_turnRoom 0 = .ok (.aload_n 0, 1) := by decide +kernel
theorem dX5_turnRoom_1 : decode cX5_turnRoom 1 = .ok (.getfield 23, 3) := by decide +kernel
theorem dX5_turnRoom_4 : decode cX5_turnRoom 4 = .ok (.aload_n 0, 1) := by decide +kernel
theorem dX5_turnRoom_5 : decode cX5_turnRoom 5 = .ok (.getfield 19, 3) := by decide +kernel
theorem dX5_turnRoom_8 : decode cX5_turnRoom 8 = .ok (.invokevirtual 126, 3) := by decide +kernel
theorem dX5_turnRoom_11 : decode cX5_turnRoom 11 = .ok (.aload_n 0, 1) := by decide +kernel
theorem dX5_turnRoom_12 : decode cX5_turnRoom 12 = .ok (.getfield 19, 3) := by decide +kernel
theorem dX5_turnRoom_15 : decode cX5_turnRoom 15 = .ok (.aload_n 0, 1) := by decide +kernel
theorem dX5_turnRoom_16 : decode cX5_turnRoom 16 = .ok (.getfield 23, 3) := by decide +kernel
theorem dX5_turnRoom_19 : decode cX5_turnRoom 19 = .ok (.invokevirtual 63, 3) := by decide +kernel
theorem dX5_turnRoom_22 : decode cX5_turnRoom 22 = .ok (.return_, 1) := by decide +kernel
set_option maxRecDepth 20000 in
theorem ggX5_cell_X2_kindAt : GoodIn wsX5_cell wsX2_kindAt := goodIn_r _ [6, 7, 8, 9, 10, 5, 11, 12, 13, 20, 21, 22] (by decide +kernel) (by decide +kernel)
set_option maxRecDepth 20000 in
theorem gX5_cell_X2_kindAt : GoodIn wsX5_cell (wsV RX5 73 RX2 yX2_kindAt wsX2_kindAt) := goodIn_app (goodIn_of _ (by decide +kernel)) ggX5_cell_X2_kindAt
theorem dX5_cell_0 : decode cX5_cell 0 = .ok (.aload_n 0, 1) := by decide +kernel
theorem dX5_cell_1 : decode cX5_cell 1 = .ok (.getfield 19, 3) := by decide +kernel
theorem dX5_cell_4 : decode cX5_cell 4 = .ok (.iload_n 1, 1) := by decide +kernel
theorem dX5_cell_5 : decode cX5_cell 5 = .ok (.invokevirtual 73, 3) := by decide +kernel
theorem dX5_cell_8 : decode cX5_cell 8 = .ok (.ireturn, 1) := by decide +kernel
set_option maxRecDepth 20000 in
theorem ggX5_doorAt_X2_doorCell : GoodIn wsX5_doorAt wsX2_doorCell := goodIn_r _ [6, 7, 8, 9, 5, 10, 11, 12, 13, 14, 15, 16, 17, 24, 25, 26] (by decide +kernel) (by decide +kernel)
set_option maxRecDepth 20000 in
theorem gX5_doorAt_X2_doorCell : GoodIn wsX5_doorAt (wsV RX5 88 RX2 yX2_doorCell wsX2_doorCell) := goodIn_app (goodIn_of _ (by decide +kernel)) ggX5_doorAt_X2_doorCell
theorem dX5_doorAt_0 : decode cX5_doorAt 0 = .ok (.aload_n 0, 1) := by decide +kernel
theorem dX5_doorAt_1 : decode cX5_doorAt 1 = .ok (.getfield 19, 3) := by decide +kernel
theorem dX5_doorAt_4 : decode cX5_doorAt 4 = .ok (.iload_n 1, 1) := by decide +kernel
theorem dX5_doorAt_5 : decode cX5_doorAt 5 = .ok (.invokevirtual 88, 3) := by decide +kernel
theorem dX5_doorAt_8 : decode cX5_doorAt 8 = .ok (.ireturn, 1) := by decide +kernel
set_option maxRecDepth 20000 in
theorem ggX5_port_X2_hasPort : GoodIn wsX5_port wsX2_hasPort := goodIn_r _ [6, 7, 8, 9, 5, 10, 11, 12, 32, 33, 34] (by decide +kernel) (by decide +kernel)
set_option maxRecDepth 20000 in
theorem gX5_port_X2_hasPort : GoodIn wsX5_port (wsV RX5 129 RX2 yX2_hasPort wsX2_hasPort) := goodIn_app (goodIn_of _ (by decide +kernel)) ggX5_port_X2_hasPort
set_option maxRecDepth 20000 in
theorem ggX5_port_X5_isPart : GoodIn wsX5_port wsX5_isPart := goodIn_r _ [16] (by decide +kernel) (by decide +kernel)
set_option maxRecDepth 20000 in
theorem gX5_port_X5_isPart : GoodIn wsX5_port (va_wsS RX5 91 yX5_isPart wsX5_isPart) := goodIn_app (goodIn_of _ (by decide +kernel)) ggX5_port_X5_isPart
set_option maxRecDepth 20000 in
theorem ggX5_port_X2_portCell : GoodIn wsX5_port wsX2_portCell := goodIn_r _ [20, 11, 12, 21, 22, 23, 5, 24, 32, 33, 34] (by decide +kernel) (by decide +kernel)
set_option maxRecDepth 20000 in
theorem gX5_port_X2_portCell : GoodIn wsX5_port (wsV RX5 133 RX2 yX2_portCell wsX2_portCell) := goodIn_app (goodIn_of _ (by decide +kernel)) ggX5_port_X2_portCell
set_option maxRecDepth 20000 in
theorem ggX5_port_X2_portDirection : GoodIn wsX5_port wsX2_portDirection := goodIn_r _ [24, 11, 12, 32, 33, 34] (by decide +kernel) (by decide +kernel)
set_option maxRecDepth 20000 in
theorem gX5_port_X2_portDirection : GoodIn wsX5_port (wsV RX5 136 RX2 yX2_portDirection wsX2_portDirection) := goodIn_app (goodIn_of _ (by decide +kernel)) ggX5_port_X2_portDirection
theorem dX5_port_0 : decode cX5_port 0 = .ok (.aload_n 0, 1) := by decide +kernel
theorem dX5_port_1 : decode cX5_port 1 = .ok (.getfield 19, 3) := by decide +kernel
theorem dX5_port_4 : decode cX5_port 4 = .ok (.iload_n 1, 1) := by decide +kernel
theorem dX5_port_5 : decode cX5_port 5 = .ok (.invokevirtual 129, 3) := by decide +kernel
theorem dX5_port_8 : decode cX5_port 8 = .ok (.ifCond .eq 11, 3) := by decide +kernel
theorem dX5_port_11 : decode cX5_port 11 = .ok (.iload_n 2, 1) := by decide +kernel
theorem dX5_port_12 : decode cX5_port 12 = .ok (.iconst 2, 1) := by decide +kernel
theorem dX5_port_13 : decode cX5_port 13 = .ok (.invokestatic 91, 3) := by decide +kernel
theorem dX5_port_16 : decode cX5_port 16 = .ok (.ifCond .ne 5, 3) := by decide +kernel
theorem dX5_port_19 : decode cX5_port 19 = .ok (.iconst (-1), 1) := by decide +kernel
theorem dX5_port_20 : decode cX5_port 20 = .ok (.ireturn, 1) := by decide +kernel
theorem dX5_port_21 : decode cX5_port 21 = .ok (.iload_n 2, 1) := by decide +kernel
theorem dX5_port_22 : decode cX5_port 22 = .ok (.ifCond .ne 14, 3) := by decide +kernel
theorem dX5_port_25 : decode cX5_port 25 = .ok (.aload_n 0, 1) := by decide +kernel
theorem dX5_port_26 : decode cX5_port 26 = .ok (.getfield 19, 3) := by decide +kernel
theorem dX5_port_29 : decode cX5_port 29 = .ok (.iload_n 1, 1) := by decide +kernel
theorem dX5_port_30 : decode cX5_port 30 = .ok (.invokevirtual 133, 3) := by decide +kernel
theorem dX5_port_33 : decode cX5_port 33 = .ok (.goto 11, 3) := by decide +kernel
theorem dX5_port_36 : decode cX5_port 36 = .ok (.aload_n 0, 1) := by decide +kernel
theorem dX5_port_37 : decode cX5_port 37 = .ok (.getfield 19, 3) := by decide +kernel
theorem dX5_port_40 : decode cX5_port 40 = .ok (.iload_n 1, 1) := by decide +kernel
theorem dX5_port_41 : decode cX5_port 41 = .ok (.invokevirtual 136, 3) := by decide +kernel
theorem dX5_port_44 : decode cX5_port 44 = .ok (.ireturn, 1) := by decide +kernel
set_option maxRecDepth 20000 in
theorem ggX5_share_X5_hasPorts : GoodIn wsX5_share wsX5_hasPorts := goodIn_r _ [7, 2, 8, 9, 10, 11, 12, 13, 14, 15, 16, 17, 18, 117, 118, 119, 120, 121, 122, 130, 131, 132] (by decide +kernel) (by decide +kernel)
set_option maxRecDepth 20000 in
theorem gX5_share_X5_hasPorts : GoodIn wsX5_share (wsV RX5 139 RX5 yX5_hasPorts wsX5_hasPorts) := goodIn_app (goodIn_of _ (by decide +kernel)) ggX5_share_X5_hasPorts
set_option maxRecDepth 20000 in
theorem ggX5_share_X5_isPart : GoodIn wsX5_share wsX5_isPart := goodIn_r _ [21] (by decide +kernel) (by decide +kernel)
set_option maxRecDepth 20000 in
theorem gX5_share_X5_isPart : GoodIn wsX5_share (va_wsS RX5 91 yX5_isPart wsX5_isPart) := goodIn_app (goodIn_of _ (by decide +kernel)) ggX5_share_X5_isPart
set_option maxRecDepth 20000 in
theorem ggX5_share_X0_shine : GoodIn wsX5_share wsX0_shine := goodIn_r _ [26, 27, 28, 29, 11, 30, 17, 18, 31, 32, 33, 34, 35, 36, 37, 25, 38, 39, 40, 41, 42, 43, 44, 45, 46, 47, 48, 6, 49, 50, 51, 52, 53, 54, 55, 56, 57, 58, 59, 60, 61, 62, 63, 64, 65, 66, 67, 68, 69, 70, 71, 72, 73, 74, 75, 76, 77, 78, 79, 80, 81, 82, 83, 84, 85, 86, 87, 88, 89, 90, 91, 92, 93, 94, 95, 96, 97, 98, 99, 100, 101, 102, 103, 104, 105, 106, 130, 131, 132, 123, 124, 125, 126, 127, 128, 129] (by decide +kernel) (by decide +kernel)
set_option maxRecDepth 20000 in
theorem gX5_share_X0_shine : GoodIn wsX5_share (wsV RX5 142 RX0 yX0_shine wsX0_shine) := goodIn_app (goodIn_of _ (by decide +kernel)) ggX5_share_X0_shine
set_option maxRecDepth 20000 in
theorem ggX5_share_X0_outAt : GoodIn wsX5_share wsX0_outAt := goodIn_r _ [110, 102, 123, 124, 125, 126, 127, 128, 129] (by decide +kernel) (by decide +kernel)
set_option maxRecDepth 20000 in
theorem gX5_share_X0_outAt : GoodIn wsX5_share (wsV RX5 146 RX0 yX0_outAt wsX0_outAt) := goodIn_app (goodIn_of _ (by decide +kernel)) ggX5_share_X0_outAt
set_option maxRecDepth 20000 in
theorem ggX5_share_X5_lowest : GoodIn wsX5_share wsX5_lowest := goodIn_r _ [113, 114, 115, 6, 116] (by decide +kernel) (by decide +kernel)
set_option maxRecDepth 20000 in
theorem gX5_share_X5_lowest : GoodIn wsX5_share (va_wsS RX5 154 yX5_lowest wsX5_lowest) := goodIn_app (goodIn_of _ (by decide +kernel)) ggX5_share_X5_lowest
theorem dX5_share_0 : decode cX5_share 0 = .ok (.aload_n 0, 1) := by decide +kernel
theorem dX5_share_1 : decode cX5_share 1 = .ok (.iload_n 1, 1) := by decide +kernel
theorem dX5_share_2 : decode cX5_share 2 = .ok (.iload_n 2, 1) := by decide +kernel
theorem dX5_share_3 : decode cX5_share 3 = .ok (.invokevirtual 139, 3) := by decide +kernel
theorem dX5_share_6 : decode cX5_share 6 = .ok (.ifCond .eq 11, 3) := by decide +kernel
theorem dX5_share_9 : decode cX5_share 9 = .ok (.iload_n 3, 1) := by decide +kernel
theorem dX5_share_10 : decode cX5_share 10 = .ok (.iconst 2, 1) := by decide +kernel
theorem dX5_share_11 : decode cX5_share 11 = .ok (.invokestatic 91, 3) := by decide +kernel
theorem dX5_share_14 : decode cX5_share 14 = .ok (.ifCond .ne 5, 3) := by decide +kernel
theorem dX5_share_17 : decode cX5_share 17 = .ok (.iconst (-1), 1) := by decide +kernel
theorem dX5_share_18 : decode cX5_share 18 = .ok (.ireturn, 1) := by decide +kernel
theorem dX5_share_19 : decode cX5_share 19 = .ok (.aload_n 0, 1) := by decide +kernel
theorem dX5_share_20 : decode cX5_share 20 = .ok (.getfield 43, 3) := by decide +kernel
theorem dX5_share_23 : decode cX5_share 23 = .ok (.aload_n 0, 1) := by decide +kernel
theorem dX5_share_24 : decode cX5_share 24 = .ok (.getfield 19, 3) := by decide +kernel
theorem dX5_share_27 : decode cX5_share 27 = .ok (.iload_n 1, 1) := by decide +kernel
theorem dX5_share_28 : decode cX5_share 28 = .ok (.invokevirtual 142, 3) := by decide +kernel
theorem dX5_share_31 : decode cX5_share 31 = .ok (.aload_n 0, 1) := by decide +kernel
theorem dX5_share_32 : decode cX5_share 32 = .ok (.getfield 43, 3) := by decide +kernel
theorem dX5_share_35 : decode cX5_share 35 = .ok (.iload_n 2, 1) := by decide +kernel
theorem dX5_share_36 : decode cX5_share 36 = .ok (.invokevirtual 146, 3) := by decide +kernel
theorem dX5_share_39 : decode cX5_share 39 = .ok (.aload_n 0, 1) := by decide +kernel
theorem dX5_share_40 : decode cX5_share 40 = .ok (.getfield 43, 3) := by decide +kernel
theorem dX5_share_43 : decode cX5_share 43 = .ok (.getfield 150, 3) := by decide +kernel
theorem dX5_share_46 : decode cX5_share 46 = .ok (.iload_n 3, 1) := by decide +kernel
theorem dX5_share_47 : decode cX5_share 47 = .ok (.invokestatic 154, 3) := by decide +kernel
theorem dX5_share_50 : decode cX5_share 50 = .ok (.ireturn, 1) := by decide +kernel
set_option maxRecDepth 20000 in
theorem ggX5_lost_X2_hasPort : GoodIn wsX5_lost wsX2_hasPort := goodIn_r _ [7, 8, 9, 10, 6, 11, 12, 13, 135, 136, 137] (by decide +kernel) (by decide +kernel)
set_option maxRecDepth 20000 in
theorem gX5_lost_X2_hasPort : GoodIn wsX5_lost (wsV RX5 129 RX2 yX2_hasPort wsX2_hasPort) := goodIn_app (goodIn_of _ (by decide +kernel)) ggX5_lost_X2_hasPort
set_option maxRecDepth 20000 in
theorem ggX5_lost_X5_isPart : GoodIn wsX5_lost wsX5_isPart := goodIn_r _ [17] (by decide +kernel) (by decide +kernel)
set_option maxRecDepth 20000 in
theorem gX5_lost_X5_isPart : GoodIn wsX5_lost (va_wsS RX5 91 yX5_isPart wsX5_isPart) := goodIn_app (goodIn_of _ (by decide +kernel)) ggX5_lost_X5_isPart
set_option maxRecDepth 20000 in
theorem ggX5_lost_X0_shine : GoodIn wsX5_lost wsX0_shine := goodIn_r _ [22, 23, 24, 25, 6, 26, 12, 13, 27, 28, 29, 30, 31, 32, 33, 21, 34, 35, 36, 37, 38, 39, 40, 41, 42, 43, 44, 16, 45, 46, 47, 48, 49, 50, 51, 52, 53, 54, 55, 56, 57, 58, 59, 60, 61, 62, 63, 64, 65, 66, 67, 68, 69, 70, 71, 72, 73, 74, 75, 76, 77, 78, 79, 80, 81, 82, 83, 84, 85, 86, 87, 88, 89, 90, 91, 92, 93, 94, 95, 96, 97, 98, 99, 100, 101, 102, 135, 136, 137, 128, 129, 130, 131, 132, 133, 134] (by decide +kernel) (by decide +kernel)
set_option maxRecDepth 20000 in
theorem gX5_lost_X0_shine : GoodIn wsX5_lost (wsV RX5 142 RX0 yX0_shine wsX0_shine) := goodIn_app (goodIn_of _ (by decide +kernel)) ggX5_lost_X0_shine
set_option maxRecDepth 20000 in
theorem ggX5_lost_X0_swallowed : GoodIn wsX5_lost wsX0_swallowed := goodIn_r _ [106, 98, 128, 129, 130, 131, 132, 133, 134] (by decide +kernel) (by decide +kernel)
set_option maxRecDepth 20000 in
theorem gX5_lost_X0_swallowed : GoodIn wsX5_lost (wsV RX5 158 RX0 yX0_swallowed wsX0_swallowed) := goodIn_app (goodIn_of _ (by decide +kernel)) ggX5_lost_X0_swallowed
set_option maxRecDepth 20000 in
theorem ggX5_lost_X0_caught : GoodIn wsX5_lost wsX0_caught := goodIn_r _ [110, 89, 111, 104, 105, 21, 106, 98, 112, 113, 114, 115, 128, 129, 130, 131, 132, 133, 134] (by decide +kernel) (by decide +kernel)
set_option maxRecDepth 20000 in
theorem gX5_lost_X0_caught : GoodIn wsX5_lost (wsV RX5 162 RX0 yX0_caught wsX0_caught) := goodIn_app (goodIn_of _ (by decide +kernel)) ggX5_lost_X0_caught
set_option maxRecDepth 20000 in
theorem ggX5_lost_X5_lowest : GoodIn wsX5_lost wsX5_lowest := goodIn_r _ [118, 119, 120, 16, 121] (by decide +kernel) (by decide +kernel)
set_option maxRecDepth 20000 in
theorem gX5_lost_X5_lowest : GoodIn wsX5_lost (va_wsS RX5 154 yX5_lowest wsX5_lowest) := goodIn_app (goodIn_of _ (by decide +kernel)) ggX5_lost_X5_lowest
theorem dX5_lost_0 : decode cX5_lost 0 = .ok (.aload_n 0, 1) := by decide +kernel
theorem dX5_lost_1 : decode cX5_lost 1 = .ok (.getfield 19, 3) := by decide +kernel
theorem dX5_lost_4 : decode cX5_lost 4 = .ok (.iload_n 1, 1) := by decide +kernel
theorem dX5_lost_5 : decode cX5_lost 5 = .ok (.invokevirtual 129, 3) := by decide +kernel
theorem dX5_lost_8 : decode cX5_lost 8 = .ok (.ifCond .eq 11, 3) := by decide +kernel
theorem dX5_lost_11 : decode cX5_lost 11 = .ok (.iload_n 2, 1) := by decide +kernel
theorem dX5_lost_12 : decode cX5_lost 12 = .ok (.iconst 4, 1) := by decide +kernel
theorem dX5_lost_13 : decode cX5_lost 13 = .ok (.invokestatic 91, 3) := by decide +kernel
theorem dX5_lost_16 : decode cX5_lost 16 = .ok (.ifCond .ne 5, 3) := by decide +kernel
theorem dX5_lost_19 : decode cX5_lost 19 = .ok (.iconst (-1), 1) := by decide +kernel
theorem dX5_lost_20 : decode cX5_lost 20 = .ok (.ireturn, 1) := by decide +kernel
theorem dX5_lost_21 : decode cX5_lost 21 = .ok (.aload_n 0, 1) := by decide +kernel
theorem dX5_lost_22 : decode cX5_lost 22 = .ok (.getfield 43, 3) := by decide +kernel
theorem dX5_lost_25 : decode cX5_lost 25 = .ok (.aload_n 0, 1) := by decide +kernel
theorem dX5_lost_26 : decode cX5_lost 26 = .ok (.getfield 19, 3) := by decide +kernel
theorem dX5_lost_29 : decode cX5_lost 29 = .ok (.iload_n 1, 1) := by decide +kernel
theorem dX5_lost_30 : decode cX5_lost 30 = .ok (.invokevirtual 142, 3) := by decide +kernel
theorem dX5_lost_33 : decode cX5_lost 33 = .ok (.iload_n 2, 1) := by decide +kernel
theorem dX5_lost_34 : decode cX5_lost 34 = .ok (.iconst 2, 1) := by decide +kernel
theorem dX5_lost_35 : decode cX5_lost 35 = .ok (.if_icmp .ge 13, 3) := by decide +kernel
theorem dX5_lost_38 : decode cX5_lost 38 = .ok (.aload_n 0, 1) := by decide +kernel
theorem dX5_lost_39 : decode cX5_lost 39 = .ok (.getfield 43, 3) := by decide +kernel
theorem dX5_lost_42 : decode cX5_lost 42 = .ok (.invokevirtual 158, 3) := by decide +kernel
theorem dX5_lost_45 : decode cX5_lost 45 = .ok (.goto 10, 3) := by decide +kernel
theorem dX5_lost_48 : decode cX5_lost 48 = .ok (.aload_n 0, 1) := by decide +kernel
theorem dX5_lost_49 : decode cX5_lost 49 = .ok (.getfield 43, 3) := by decide +kernel
theorem dX5_lost_52 : decode cX5_lost 52 = .ok (.invokevirtual 162, 3) := by decide +kernel
theorem dX5_lost_55 : decode cX5_lost 55 = .ok (.aload_n 0, 1) := by decide +kernel
theorem dX5_lost_56 : decode cX5_lost 56 = .ok (.getfield 43, 3) := by decide +kernel
theorem dX5_lost_59 : decode cX5_lost 59 = .ok (.getfield 150, 3) := by decide +kernel
theorem dX5_lost_62 : decode cX5_lost 62 = .ok (.iload_n 2, 1) := by decide +kernel
theorem dX5_lost_63 : decode cX5_lost 63 = .ok (.iconst 2, 1) := by decide +kernel
theorem dX5_lost_64 : decode cX5_lost 64 = .ok (.irem, 1) := by decide +kernel
theorem dX5_lost_65 : decode cX5_lost 65 = .ok (.invokestatic 154, 3) := by decide +kernel
theorem dX5_lost_68 : decode cX5_lost 68 = .ok (.ireturn, 1) := by decide +kernel
set_option maxRecDepth 20000 in
theorem ggX5_bits_X5_hasPorts : GoodIn wsX5_bits wsX5_hasPorts := goodIn_r _ [7, 2, 8, 9, 10, 11, 12, 13, 14, 15, 16, 17, 18, 118, 119, 120, 121, 122, 123, 131, 132, 133] (by decide +kernel) (by decide +kernel)
set_option maxRecDepth 20000 in
theorem gX5_bits_X5_hasPorts : GoodIn wsX5_bits (wsV RX5 139 RX5 yX5_hasPorts wsX5_hasPorts) := goodIn_app (goodIn_of _ (by decide +kernel)) ggX5_bits_X5_hasPorts
set_option maxRecDepth 20000 in
theorem ggX5_bits_X0_shine : GoodIn wsX5_bits wsX0_shine := goodIn_r _ [23, 24, 25, 26, 11, 27, 17, 18, 28, 29, 30, 31, 32, 33, 34, 22, 35, 36, 37, 38, 39, 40, 41, 42, 43, 44, 45, 6, 46, 47, 48, 49, 50, 51, 52, 53, 54, 55, 56, 57, 58, 59, 60, 61, 62, 63, 64, 65, 66, 67, 68, 69, 70, 71, 72, 73, 74, 75, 76, 77, 78, 79, 80, 81, 82, 83, 84, 85, 86, 87, 88, 89, 90, 91, 92, 93, 94, 95, 96, 97, 98, 99, 100, 101, 102, 103, 131, 132, 133, 124, 125, 126, 127, 128, 129, 130] (by decide +kernel) (by decide +kernel)
set_option maxRecDepth 20000 in
theorem gX5_bits_X0_shine : GoodIn wsX5_bits (wsV RX5 142 RX0 yX0_shine wsX0_shine) := goodIn_app (goodIn_of _ (by decide +kernel)) ggX5_bits_X0_shine
set_option maxRecDepth 20000 in
theorem ggX5_bits_X0_outAt : GoodIn wsX5_bits wsX0_outAt := goodIn_r _ [107, 99, 124, 125, 126, 127, 128, 129, 130] (by decide +kernel) (by decide +kernel)
set_option maxRecDepth 20000 in
theorem gX5_bits_X0_outAt : GoodIn wsX5_bits (wsV RX5 146 RX0 yX0_outAt wsX0_outAt) := goodIn_app (goodIn_of _ (by decide +kernel)) ggX5_bits_X0_outAt
set_option maxRecDepth 20000 in
theorem ggX5_bits_X5_lowest : GoodIn wsX5_bits wsX5_lowest := goodIn_r _ [110, 111, 112, 6, 113] (by decide +kernel) (by decide +kernel)
set_option maxRecDepth 20000 in
theorem gX5_bits_X5_lowest : GoodIn wsX5_bits (va_wsS RX5 154 yX5_lowest wsX5_lowest) := goodIn_app (goodIn_of _ (by decide +kernel)) ggX5_bits_X5_lowest
set_option maxRecDepth 20000 in
theorem ggX5_bits_X5_floatBits : GoodIn wsX5_bits wsX5_floatBits := goodIn_r _ [116, 117] (by decide +kernel) (by decide +kernel)
set_option maxRecDepth 20000 in
theorem gX5_bits_X5_floatBits : GoodIn wsX5_bits (va_wsS RX5 165 yX5_floatBits wsX5_floatBits) := goodIn_app (goodIn_of _ (by decide +kernel)) ggX5_bits_X5_floatBits
theorem dX5_bits_0 : decode cX5_bits 0 = .ok (.aload_n 0, 1) := by decide +kernel
theorem dX5_bits_1 : decode cX5_bits 1 = .ok (.iload_n 1, 1) := by decide +kernel
theorem dX5_bits_2 : decode cX5_bits 2 = .ok (.iload_n 2, 1) := by decide +kernel
theorem dX5_bits_3 : decode cX5_bits 3 = .ok (.invokevirtual 139, 3) := by decide +kernel
theorem dX5_bits_6 : decode cX5_bits 6 = .ok (.ifCond .ne 5, 3) := by decide +kernel
theorem dX5_bits_9 : decode cX5_bits 9 = .ok (.iconst (-1), 1) := by decide +kernel
theorem dX5_bits_10 : decode cX5_bits 10 = .ok (.ireturn, 1) := by decide +kernel
theorem dX5_bits_11 : decode cX5_bits 11 = .ok (.aload_n 0, 1) := by decide +kernel
theorem dX5_bits_12 : decode cX5_bits 12 = .ok (.getfield 43, 3) := by decide +kernel
theorem dX5_bits_15 : decode cX5_bits 15 = .ok (.aload_n 0, 1) := by decide +kernel
theorem dX5_bits_16 : decode cX5_bits 16 = .ok (.getfield 19, 3) := by decide +kernel
theorem dX5_bits_19 : decode cX5_bits 19 = .ok (.iload_n 1, 1) := by decide +kernel
theorem dX5_bits_20 : decode cX5_bits 20 = .ok (.invokevirtual 142, 3) := by decide +kernel
theorem dX5_bits_23 : decode cX5_bits 23 = .ok (.aload_n 0, 1) := by decide +kernel
theorem dX5_bits_24 : decode cX5_bits 24 = .ok (.getfield 43, 3) := by decide +kernel
theorem dX5_bits_27 : decode cX5_bits 27 = .ok (.iload_n 2, 1) := by decide +kernel
theorem dX5_bits_28 : decode cX5_bits 28 = .ok (.invokevirtual 146, 3) := by decide +kernel
theorem dX5_bits_31 : decode cX5_bits 31 = .ok (.aload_n 0, 1) := by decide +kernel
theorem dX5_bits_32 : decode cX5_bits 32 = .ok (.getfield 43, 3) := by decide +kernel
theorem dX5_bits_35 : decode cX5_bits 35 = .ok (.getfield 150, 3) := by decide +kernel
theorem dX5_bits_38 : decode cX5_bits 38 = .ok (.iconst 0, 1) := by decide +kernel
theorem dX5_bits_39 : decode cX5_bits 39 = .ok (.invokestatic 154, 3) := by decide +kernel
theorem dX5_bits_42 : decode cX5_bits 42 = .ok (.istore_n 3, 1) := by decide +kernel
theorem dX5_bits_43 : decode cX5_bits 43 = .ok (.aload_n 0, 1) := by decide +kernel
theorem dX5_bits_44 : decode cX5_bits 44 = .ok (.getfield 43, 3) := by decide +kernel
theorem dX5_bits_47 : decode cX5_bits 47 = .ok (.iload_n 2, 1) := by decide +kernel
theorem dX5_bits_48 : decode cX5_bits 48 = .ok (.invokevirtual 146, 3) := by decide +kernel
theorem dX5_bits_51 : decode cX5_bits 51 = .ok (.aload_n 0, 1) := by decide +kernel
theorem dX5_bits_52 : decode cX5_bits 52 = .ok (.getfield 43, 3) := by decide +kernel
theorem dX5_bits_55 : decode cX5_bits 55 = .ok (.getfield 150, 3) := by decide +kernel
theorem dX5_bits_58 : decode cX5_bits 58 = .ok (.iconst 1, 1) := by decide +kernel
theorem dX5_bits_59 : decode cX5_bits 59 = .ok (.invokestatic 154, 3) := by decide +kernel
theorem dX5_bits_62 : decode cX5_bits 62 = .ok (.istore 4, 2) := by decide +kernel
theorem dX5_bits_64 : decode cX5_bits 64 = .ok (.iload_n 3, 1) := by decide +kernel
theorem dX5_bits_65 : decode cX5_bits 65 = .ok (.iload 4, 2) := by decide +kernel
theorem dX5_bits_67 : decode cX5_bits 67 = .ok (.invokestatic 165, 3) := by decide +kernel
theorem dX5_bits_70 : decode cX5_bits 70 = .ok (.ireturn, 1) := by decide +kernel
set_option maxRecDepth 20000 in
theorem ggX5_lit_X2_hasPort : GoodIn wsX5_lit wsX2_hasPort := goodIn_r _ [7, 8, 9, 10, 6, 11, 12, 13, 87, 88, 89] (by decide +kernel) (by decide +kernel)
set_option maxRecDepth 20000 in
theorem gX5_lit_X2_hasPort : GoodIn wsX5_lit (wsV RX5 129 RX2 yX2_hasPort wsX2_hasPort) := goodIn_app (goodIn_of _ (by decide +kernel)) ggX5_lit_X2_hasPort
set_option maxRecDepth 20000 in
theorem ggX5_lit_X4_goFrom : GoodIn wsX5_lit wsX4_goFrom := goodIn_r _ [18, 19, 20, 21, 22, 23, 24, 25, 26, 27, 28, 29, 30, 6, 31, 12, 13, 32, 33, 34, 35, 36, 37, 38, 39, 17, 40, 41, 42, 43, 44, 45, 46, 47, 48, 49, 50, 51, 52, 53, 54, 55, 56, 57, 58, 59, 60, 61, 62, 63, 64, 65, 66, 67, 68, 69, 70, 71, 72, 73, 74, 75, 82, 83, 84, 85, 86, 87, 88, 89] (by decide +kernel) (by decide +kernel)
set_option maxRecDepth 20000 in
theorem gX5_lit_X4_goFrom : GoodIn wsX5_lit (wsV RX5 168 RX4 yX4_goFrom wsX4_goFrom) := goodIn_app (goodIn_of _ (by decide +kernel)) ggX5_lit_X4_goFrom
theorem dX5_lit_0 : decode cX5_lit 0 = .ok (.aload_n 0, 1) := by decide +kernel
theorem dX5_lit_1 : decode cX5_lit 1 = .ok (.getfield 19, 3) := by decide +kernel
theorem dX5_lit_4 : decode cX5_lit 4 = .ok (.iload_n 1, 1) := by decide +kernel
theorem dX5_lit_5 : decode cX5_lit 5 = .ok (.invokevirtual 129, 3) := by decide +kernel
theorem dX5_lit_8 : decode cX5_lit 8 = .ok (.ifCond .ne 5, 3) := by decide +kernel
theorem dX5_lit_11 : decode cX5_lit 11 = .ok (.iconst (-1), 1) := by decide +kernel
theorem dX5_lit_12 : decode cX5_lit 12 = .ok (.ireturn, 1) := by decide +kernel
theorem dX5_lit_13 : decode cX5_lit 13 = .ok (.aload_n 0, 1) := by decide +kernel
theorem dX5_lit_14 : decode cX5_lit 14 = .ok (.getfield 36, 3) := by decide +kernel
theorem dX5_lit_17 : decode cX5_lit 17 = .ok (.aload_n 0, 1) := by decide +kernel
theorem dX5_lit_18 : decode cX5_lit 18 = .ok (.getfield 19, 3) := by decide +kernel
theorem dX5_lit_21 : decode cX5_lit 21 = .ok (.iload_n 1, 1) := by decide +kernel
theorem dX5_lit_22 : decode cX5_lit 22 = .ok (.invokevirtual 168, 3) := by decide +kernel
theorem dX5_lit_25 : decode cX5_lit 25 = .ok (.aload_n 0, 1) := by decide +kernel
theorem dX5_lit_26 : decode cX5_lit 26 = .ok (.getfield 36, 3) := by decide +kernel
theorem dX5_lit_29 : decode cX5_lit 29 = .ok (.getfield 171, 3) := by decide +kernel
theorem dX5_lit_32 : decode cX5_lit 32 = .ok (.ireturn, 1) := by decide +kernel
set_option maxRecDepth 20000 in
theorem ggX5_far_X5_hasPorts : GoodIn wsX5_far wsX5_hasPorts := goodIn_r _ [7, 2, 8, 9, 10, 11, 12, 13, 14, 15, 16, 17, 18, 84, 85, 86, 87, 88, 89, 90, 91, 92] (by decide +kernel) (by decide +kernel)
set_option maxRecDepth 20000 in
theorem gX5_far_X5_hasPorts : GoodIn wsX5_far (wsV RX5 139 RX5 yX5_hasPorts wsX5_hasPorts) := goodIn_app (goodIn_of _ (by decide +kernel)) ggX5_far_X5_hasPorts
set_option maxRecDepth 20000 in
theorem ggX5_far_X4_goFrom : GoodIn wsX5_far wsX4_goFrom := goodIn_r _ [23, 24, 25, 26, 27, 28, 29, 30, 31, 32, 33, 34, 35, 11, 36, 17, 18, 37, 38, 39, 40, 41, 42, 43, 44, 22, 45, 46, 47, 48, 49, 50, 51, 52, 53, 54, 55, 56, 57, 58, 59, 6, 60, 61, 62, 63, 64, 65, 66, 67, 68, 69, 70, 71, 72, 73, 74, 75, 76, 77, 78, 79, 93, 94, 95, 96, 97, 90, 91, 92] (by decide +kernel) (by decide +kernel)
set_option maxRecDepth 20000 in
theorem gX5_far_X4_goFrom : GoodIn wsX5_far (wsV RX5 168 RX4 yX4_goFrom wsX4_goFrom) := goodIn_app (goodIn_of _ (by decide +kernel)) ggX5_far_X4_goFrom
set_option maxRecDepth 20000 in
theorem ggX5_far_X4_fewestTo : GoodIn wsX5_far wsX4_fewestTo := goodIn_r _ [83, 25, 93, 94, 95, 96, 97] (by decide +kernel) (by decide +kernel)
set_option maxRecDepth 20000 in
theorem gX5_far_X4_fewestTo : GoodIn wsX5_far (wsV RX5 174 RX4 yX4_fewestTo wsX4_fewestTo) := goodIn_app (goodIn_of _ (by decide +kernel)) ggX5_far_X4_fewestTo
theorem dX5_far_0 : decode cX5_far 0 = .ok (.aload_n 0, 1) := by decide +kernel
theorem dX5_far_1 : decode cX5_far 1 = .ok (.iload_n 1, 1) := by decide +kernel
theorem dX5_far_2 : decode cX5_far 2 = .ok (.iload_n 2, 1) := by decide +kernel
theorem dX5_far_3 : decode cX5_far 3 = .ok (.invokevirtual 139, 3) := by decide +kernel
theorem dX5_far_6 : decode cX5_far 6 = .ok (.ifCond .ne 5, 3) := by decide +kernel
theorem dX5_far_9 : decode cX5_far 9 = .ok (.iconst (-1), 1) := by decide +kernel
theorem dX5_far_10 : decode cX5_far 10 = .ok (.ireturn, 1) := by decide +kernel
theorem dX5_far_11 : decode cX5_far 11 = .ok (.aload_n 0, 1) := by decide +kernel
theorem dX5_far_12 : decode cX5_far 12 = .ok (.getfield 36, 3) := by decide +kernel
theorem dX5_far_15 : decode cX5_far 15 = .ok (.aload_n 0, 1) := by decide +kernel
theorem dX5_far_16 : decode cX5_far 16 = .ok (.getfield 19, 3) := by decide +kernel
theorem dX5_far_19 : decode cX5_far 19 = .ok (.iload_n 1, 1) := by decide +kernel
theorem dX5_far_20 : decode cX5_far 20 = .ok (.invokevirtual 168, 3) := by decide +kernel
theorem dX5_far_23 : decode cX5_far 23 = .ok (.aload_n 0, 1) := by decide +kernel
theorem dX5_far_24 : decode cX5_far 24 = .ok (.getfield 36, 3) := by decide +kernel
theorem dX5_far_27 : decode cX5_far 27 = .ok (.iload_n 2, 1) := by decide +kernel
theorem dX5_far_28 : decode cX5_far 28 = .ok (.invokevirtual 174, 3) := by decide +kernel
theorem dX5_far_31 : decode cX5_far 31 = .ok (.ireturn, 1) := by decide +kernel
set_option maxRecDepth 20000 in
theorem ggX5_alike_X5_hasPorts : GoodIn wsX5_alike wsX5_hasPorts := goodIn_r _ [7, 2, 8, 9, 10, 11, 12, 13, 14, 15, 16, 17, 18, 124, 125, 126, 127, 128, 129, 137, 138, 139] (by decide +kernel) (by decide +kernel)
set_option maxRecDepth 20000 in
theorem gX5_alike_X5_hasPorts : GoodIn wsX5_alike (wsV RX5 139 RX5 yX5_hasPorts wsX5_hasPorts) := goodIn_app (goodIn_of _ (by decide +kernel)) ggX5_alike_X5_hasPorts
set_option maxRecDepth 20000 in
theorem ggX5_alike_X0_shine : GoodIn wsX5_alike wsX0_shine := goodIn_r _ [23, 24, 25, 26, 11, 27, 17, 18, 28, 29, 30, 31, 32, 33, 34, 22, 35, 36, 37, 38, 39, 40, 41, 42, 43, 44, 45, 6, 46, 47, 48, 49, 50, 51, 52, 53, 54, 55, 56, 57, 58, 59, 60, 61, 62, 63, 64, 65, 66, 67, 68, 69, 70, 71, 72, 73, 74, 75, 76, 77, 78, 79, 80, 81, 82, 83, 84, 85, 86, 87, 88, 89, 90, 91, 92, 93, 94, 95, 96, 97, 98, 99, 100, 101, 102, 103, 137, 138, 139, 130, 131, 132, 133, 134, 135, 136] (by decide +kernel) (by decide +kernel)
set_option maxRecDepth 20000 in
theorem gX5_alike_X0_shine : GoodIn wsX5_alike (wsV RX5 142 RX0 yX0_shine wsX0_shine) := goodIn_app (goodIn_of _ (by decide +kernel)) ggX5_alike_X0_shine
set_option maxRecDepth 20000 in
theorem ggX5_alike_X0_swallowed : GoodIn wsX5_alike wsX0_swallowed := goodIn_r _ [107, 99, 130, 131, 132, 133, 134, 135, 136] (by decide +kernel) (by decide +kernel)
set_option maxRecDepth 20000 in
theorem gX5_alike_X0_swallowed : GoodIn wsX5_alike (wsV RX5 158 RX0 yX0_swallowed wsX0_swallowed) := goodIn_app (goodIn_of _ (by decide +kernel)) ggX5_alike_X0_swallowed
set_option maxRecDepth 20000 in
theorem ggX5_alike_X0_caught : GoodIn wsX5_alike wsX0_caught := goodIn_r _ [111, 90, 112, 105, 106, 22, 107, 99, 113, 114, 115, 116, 130, 131, 132, 133, 134, 135, 136] (by decide +kernel) (by decide +kernel)
set_option maxRecDepth 20000 in
theorem gX5_alike_X0_caught : GoodIn wsX5_alike (wsV RX5 162 RX0 yX0_caught wsX0_caught) := goodIn_app (goodIn_of _ (by decide +kernel)) ggX5_alike_X0_caught
set_option maxRecDepth 20000 in
theorem ggX5_alike_X5_compareFractions : GoodIn wsX5_alike wsX5_compareFractions := goodIn_r _ [119, 120, 121, 122, 123] (by decide +kernel) (by decide +kernel)
set_option maxRecDepth 20000 in
theorem gX5_alike_X5_compareFractions : GoodIn wsX5_alike (va_wsS RX5 177 yX5_compareFractions wsX5_compareFractions) := goodIn_app (goodIn_of _ (by decide +kernel)) ggX5_alike_X5_compareFractions
theorem dX5_alike_0 : decode cX5_alike 0 = .ok (.aload_n 0, 1) := by decide +kernel
theorem dX5_alike_1 : decode cX5_alike 1 = .ok (.iload_n 1, 1) := by decide +kernel
theorem dX5_alike_2 : decode cX5_alike 2 = .ok (.iload_n 2, 1) := by decide +kernel
theorem dX5_alike_3 : decode cX5_alike 3 = .ok (.invokevirtual 139, 3) := by decide +kernel
theorem dX5_alike_6 : decode cX5_alike 6 = .ok (.ifCond .ne 5, 3) := by decide +kernel
theorem dX5_alike_9 : decode cX5_alike 9 = .ok (.iconst (-1), 1) := by decide +kernel
theorem dX5_alike_10 : decode cX5_alike 10 = .ok (.ireturn, 1) := by decide +kernel
theorem dX5_alike_11 : decode cX5_alike 11 = .ok (.aload_n 0, 1) := by decide +kernel
theorem dX5_alike_12 : decode cX5_alike 12 = .ok (.getfield 43, 3) := by decide +kernel
theorem dX5_alike_15 : decode cX5_alike 15 = .ok (.aload_n 0, 1) := by decide +kernel
theorem dX5_alike_16 : decode cX5_alike 16 = .ok (.getfield 19, 3) := by decide +kernel
theorem dX5_alike_19 : decode cX5_alike 19 = .ok (.iload_n 1, 1) := by decide +kernel
theorem dX5_alike_20 : decode cX5_alike 20 = .ok (.invokevirtual 142, 3) := by decide +kernel
theorem dX5_alike_23 : decode cX5_alike 23 = .ok (.aload_n 0, 1) := by decide +kernel
theorem dX5_alike_24 : decode cX5_alike 24 = .ok (.getfield 43, 3) := by decide +kernel
theorem dX5_alike_27 : decode cX5_alike 27 = .ok (.invokevirtual 158, 3) := by decide +kernel
theorem dX5_alike_30 : decode cX5_alike 30 = .ok (.lstore_n 3, 1) := by decide +kernel
theorem dX5_alike_31 : decode cX5_alike 31 = .ok (.aload_n 0, 1) := by decide +kernel
theorem dX5_alike_32 : decode cX5_alike 32 = .ok (.getfield 43, 3) := by decide +kernel
theorem dX5_alike_35 : decode cX5_alike 35 = .ok (.invokevirtual 162, 3) := by decide +kernel
theorem dX5_alike_38 : decode cX5_alike 38 = .ok (.lstore 5, 2) := by decide +kernel
theorem dX5_alike_40 : decode cX5_alike 40 = .ok (.aload_n 0, 1) := by decide +kernel
theorem dX5_alike_41 : decode cX5_alike 41 = .ok (.getfield 43, 3) := by decide +kernel
theorem dX5_alike_44 : decode cX5_alike 44 = .ok (.getfield 150, 3) := by decide +kernel
theorem dX5_alike_47 : decode cX5_alike 47 = .ok (.lstore 7, 2) := by decide +kernel
theorem dX5_alike_49 : decode cX5_alike 49 = .ok (.aload_n 0, 1) := by decide +kernel
theorem dX5_alike_50 : decode cX5_alike 50 = .ok (.getfield 43, 3) := by decide +kernel
theorem dX5_alike_53 : decode cX5_alike 53 = .ok (.aload_n 0, 1) := by decide +kernel
theorem dX5_alike_54 : decode cX5_alike 54 = .ok (.getfield 19, 3) := by decide +kernel
theorem dX5_alike_57 : decode cX5_alike 57 = .ok (.iload_n 2, 1) := by decide +kernel
theorem dX5_alike_58 : decode cX5_alike 58 = .ok (.invokevirtual 142, 3) := by decide +kernel
theorem dX5_alike_61 : decode cX5_alike 61 = .ok (.lload_n 3, 1) := by decide +kernel
theorem dX5_alike_62 : decode cX5_alike 62 = .ok (.lload 7, 2) := by decide +kernel
theorem dX5_alike_64 : decode cX5_alike 64 = .ok (.aload_n 0, 1) := by decide +kernel
theorem dX5_alike_65 : decode cX5_alike 65 = .ok (.getfield 43, 3) := by decide +kernel
theorem dX5_alike_68 : decode cX5_alike 68 = .ok (.invokevirtual 158, 3) := by decide +kernel
theorem dX5_alike_71 : decode cX5_alike 71 = .ok (.aload_n 0, 1) := by decide +kernel
theorem dX5_alike_72 : decode cX5_alike 72 = .ok (.getfield 43, 3) := by decide +kernel
theorem dX5_alike_75 : decode cX5_alike 75 = .ok (.getfield 150, 3) := by decide +kernel
theorem dX5_alike_78 : decode cX5_alike 78 = .ok (.invokestatic 177, 3) := by decide +kernel
theorem dX5_alike_81 : decode cX5_alike 81 = .ok (.ifCond .ne 31, 3) := by decide +kernel
theorem dX5_alike_84 : decode cX5_alike 84 = .ok (.lload 5, 2) := by decide +kernel
theorem dX5_alike_86 : decode cX5_alike 86 = .ok (.lload 7, 2) := by decide +kernel
theorem dX5_alike_88 : decode cX5_alike 88 = .ok (.aload_n 0, 1) := by decide +kernel
theorem dX5_alike_89 : decode cX5_alike 89 = .ok (.getfield 43, 3) := by decide +kernel
theorem dX5_alike_92 : decode cX5_alike 92 = .ok (.invokevirtual 162, 3) := by decide +kernel
theorem dX5_alike_95 : decode cX5_alike 95 = .ok (.aload_n 0, 1) := by decide +kernel
theorem dX5_alike_96 : decode cX5_alike 96 = .ok (.getfield 43, 3) := by decide +kernel
theorem dX5_alike_99 : decode cX5_alike 99 = .ok (.getfield 150, 3) := by decide +kernel
theorem dX5_alike_102 : decode cX5_alike 102 = .ok (.invokestatic 177, 3) := by decide +kernel
theorem dX5_alike_105 : decode cX5_alike 105 = .ok (.ifCond .ne 7, 3) := by decide +kernel
theorem dX5_alike_108 : decode cX5_alike 108 = .ok (.iconst 1, 1) := by decide +kernel
theorem dX5_alike_109 : decode cX5_alike 109 = .ok (.goto 4, 3) := by decide +kernel
theorem dX5_alike_112 : decode cX5_alike 112 = .ok (.iconst 0, 1) := by decide +kernel
theorem dX5_alike_113 : decode cX5_alike 113 = .ok (.istore 9, 2) := by decide +kernel
theorem dX5_alike_115 : decode cX5_alike 115 = .ok (.iload 9, 2) := by decide +kernel
theorem dX5_alike_117 : decode cX5_alike 117 = .ok (.ifCond .eq 7, 3) := by decide +kernel
theorem dX5_alike_120 : decode cX5_alike 120 = .ok (.iconst 1, 1) := by decide +kernel
theorem dX5_alike_121 : decode cX5_alike 121 = .ok (.goto 4, 3) := by decide +kernel
theorem dX5_alike_124 : decode cX5_alike 124 = .ok (.iconst 0, 1) := by decide +kernel
theorem dX5_alike_125 : decode cX5_alike 125 = .ok (.ireturn, 1) := by decide +kernel
set_option maxRecDepth 20000 in
theorem ggX5_best_X5_hasPorts : GoodIn wsX5_best wsX5_hasPorts := goodIn_r _ [9, 1, 10, 11, 12, 13, 14, 15, 16, 17, 18, 19, 20, 158, 159, 160, 161, 162, 163, 171, 172, 173] (by decide +kernel) (by decide +kernel)
set_option maxRecDepth 20000 in
theorem gX5_best_X5_hasPorts : GoodIn wsX5_best (wsV RX5 139 RX5 yX5_hasPorts wsX5_hasPorts) := goodIn_app (goodIn_of _ (by decide +kernel)) ggX5_best_X5_hasPorts
set_option maxRecDepth 20000 in
theorem ggX5_best_X5_isPart : GoodIn wsX5_best wsX5_isPart := goodIn_r _ [23] (by decide +kernel) (by decide +kernel)
set_option maxRecDepth 20000 in
theorem gX5_best_X5_isPart : GoodIn wsX5_best (va_wsS RX5 91 yX5_isPart wsX5_isPart) := goodIn_app (goodIn_of _ (by decide +kernel)) ggX5_best_X5_isPart
set_option maxRecDepth 20000 in
theorem ggX5_best_X2_countKinds : GoodIn wsX5_best wsX2_countKinds := goodIn_r _ [27, 28, 29, 30, 13, 31, 19, 20, 32, 33, 34, 35, 36, 171, 172, 173] (by decide +kernel) (by decide +kernel)
set_option maxRecDepth 20000 in
theorem gX5_best_X2_countKinds : GoodIn wsX5_best (wsV RX5 95 RX2 yX2_countKinds wsX2_countKinds) := goodIn_app (goodIn_of _ (by decide +kernel)) ggX5_best_X2_countKinds
set_option maxRecDepth 20000 in
theorem ggX5_best_X5_openOnly : GoodIn wsX5_best wsX5_openOnly := goodIn_r _ [40, 4, 1, 41, 42, 43, 13, 44, 19, 20, 36, 45, 46, 47, 48, 49, 50, 51, 52, 28, 29, 30, 31, 32, 33, 34, 35, 53, 54, 55, 56, 158, 159, 160, 161, 162, 163, 171, 172, 173] (by decide +kernel) (by decide +kernel)
set_option maxRecDepth 20000 in
theorem gX5_best_X5_openOnly : GoodIn wsX5_best (wsV RX5 183 RX5 yX5_openOnly wsX5_openOnly) := goodIn_app (goodIn_of _ (by decide +kernel)) ggX5_best_X5_openOnly
set_option maxRecDepth 20000 in
theorem ggX5_best_X0_shine : GoodIn wsX5_best wsX0_shine := goodIn_r _ [61, 62, 63, 64, 13, 65, 19, 20, 66, 67, 68, 69, 70, 71, 72, 60, 73, 74, 33, 34, 35, 36, 28, 29, 30, 31, 75, 8, 76, 77, 78, 79, 80, 81, 82, 83, 84, 85, 86, 87, 88, 89, 90, 91, 92, 93, 94, 95, 96, 97, 98, 99, 100, 101, 102, 103, 104, 105, 106, 107, 108, 109, 110, 111, 112, 113, 114, 115, 116, 117, 118, 119, 120, 121, 122, 123, 124, 125, 126, 127, 128, 129, 130, 131, 132, 133, 171, 172, 173, 164, 165, 166, 167, 168, 169, 170] (by decide +kernel) (by decide +kernel)
set_option maxRecDepth 20000 in
theorem gX5_best_X0_shine : GoodIn wsX5_best (wsV RX5 142 RX0 yX0_shine wsX0_shine) := goodIn_app (goodIn_of _ (by decide +kernel)) ggX5_best_X0_shine
set_option maxRecDepth 20000 in
theorem ggX5_best_X0_outAt : GoodIn wsX5_best wsX0_outAt := goodIn_r _ [137, 129, 164, 165, 166, 167, 168, 169, 170] (by decide +kernel) (by decide +kernel)
set_option maxRecDepth 20000 in
theorem gX5_best_X0_outAt : GoodIn wsX5_best (wsV RX5 146 RX0 yX0_outAt wsX0_outAt) := goodIn_app (goodIn_of _ (by decide +kernel)) ggX5_best_X0_outAt
set_option maxRecDepth 20000 in
theorem ggX5_best_X5_compareFractions : GoodIn wsX5_best wsX5_compareFractions := goodIn_r _ [140, 141, 142, 143, 144] (by decide +kernel) (by decide +kernel)
set_option maxRecDepth 20000 in
theorem gX5_best_X5_compareFractions : GoodIn wsX5_best (va_wsS RX5 177 yX5_compareFractions wsX5_compareFractions) := goodIn_app (goodIn_of _ (by decide +kernel)) ggX5_best_X5_compareFractions
set_option maxRecDepth 20000 in
theorem ggX5_best_J6_bitCount_0f7a4 : GoodIn wsX5_best wsJ6_bitCount_0f7a4 := goodIn_r _ [148, 149, 150, 151] (by decide +kernel) (by decide +kernel)
set_option maxRecDepth 20000 in
theorem gX5_best_J6_bitCount_0f7a4 : GoodIn wsX5_best (va_wsS RX5 187 yJ6_bitCount_0f7a4 wsJ6_bitCount_0f7a4) := goodIn_app (goodIn_of _ (by decide +kernel)) ggX5_best_J6_bitCount_0f7a4
set_option maxRecDepth 20000 in
theorem ggX5_best_X5_lowest : GoodIn wsX5_best wsX5_lowest := goodIn_r _ [154, 155, 156, 8, 157] (by decide +kernel) (by decide +kernel)
set_option maxRecDepth 20000 in
theorem gX5_best_X5_lowest : GoodIn wsX5_best (va_wsS RX5 154 yX5_lowest wsX5_lowest) := goodIn_app (goodIn_of _ (by decide +kernel)) ggX5_best_X5_lowest
theorem dX5_best_0 : decode cX5_best 0 = .ok (.aload_n 0, 1) := by decide +kernel
theorem dX5_best_1 : decode cX5_best 1 = .ok (.iload_n 1, 1) := by decide +kernel
theorem dX5_best_2 : decode cX5_best 2 = .ok (.iload_n 2, 1) := by decide +kernel
theorem dX5_best_3 : decode cX5_best 3 = .ok (.invokevirtual 139, 3) := by decide +kernel
theorem dX5_best_6 : decode cX5_best 6 = .ok (.ifCond .eq 11, 3) := by decide +kernel
theorem dX5_best_9 : decode cX5_best 9 = .ok (.iload_n 3, 1) := by decide +kernel
theorem dX5_best_10 : decode cX5_best 10 = .ok (.iconst 3, 1) := by decide +kernel
theorem dX5_best_11 : decode cX5_best 11 = .ok (.invokestatic 91, 3) := by decide +kernel
theorem dX5_best_14 : decode cX5_best 14 = .ok (.ifCond .ne 5, 3) := by decide +kernel
theorem dX5_best_17 : decode cX5_best 17 = .ok (.iconst (-1), 1) := by decide +kernel
theorem dX5_best_18 : decode cX5_best 18 = .ok (.ireturn, 1) := by decide +kernel
theorem dX5_best_19 : decode cX5_best 19 = .ok (.iconst 1, 1) := by decide +kernel
theorem dX5_best_20 : decode cX5_best 20 = .ok (.aload_n 0, 1) := by decide +kernel
theorem dX5_best_21 : decode cX5_best 21 = .ok (.getfield 19, 3) := by decide +kernel
theorem dX5_best_24 : decode cX5_best 24 = .ok (.bipush 6, 2) := by decide +kernel
theorem dX5_best_26 : decode cX5_best 26 = .ok (.bipush 7, 2) := by decide +kernel
theorem dX5_best_28 : decode cX5_best 28 = .ok (.invokevirtual 95, 3) := by decide +kernel
theorem dX5_best_31 : decode cX5_best 31 = .ok (.ishl, 1) := by decide +kernel
theorem dX5_best_32 : decode cX5_best 32 = .ok (.istore 4, 2) := by decide +kernel
theorem dX5_best_34 : decode cX5_best 34 = .ok (.iconst 0, 1) := by decide +kernel
theorem dX5_best_35 : decode cX5_best 35 = .ok (.istore 5, 2) := by decide +kernel
theorem dX5_best_37 : decode cX5_best 37 = .ok (.ldc2_w 181, 3) := by decide +kernel
theorem dX5_best_40 : decode cX5_best 40 = .ok (.lstore 6, 2) := by decide +kernel
theorem dX5_best_42 : decode cX5_best 42 = .ok (.lconst 1, 1) := by decide +kernel
theorem dX5_best_43 : decode cX5_best 43 = .ok (.lstore 8, 2) := by decide +kernel
theorem dX5_best_45 : decode cX5_best 45 = .ok (.iconst 0, 1) := by decide +kernel
theorem dX5_best_46 : decode cX5_best 46 = .ok (.istore 10, 2) := by decide +kernel
theorem dX5_best_48 : decode cX5_best 48 = .ok (.iload 10, 2) := by decide +kernel
theorem dX5_best_50 : decode cX5_best 50 = .ok (.iload 4, 2) := by decide +kernel
theorem dX5_best_52 : decode cX5_best 52 = .ok (.if_icmp .ge 97, 3) := by decide +kernel
theorem dX5_best_55 : decode cX5_best 55 = .ok (.aload_n 0, 1) := by decide +kernel
theorem dX5_best_56 : decode cX5_best 56 = .ok (.iload 10, 2) := by decide +kernel
theorem dX5_best_58 : decode cX5_best 58 = .ok (.invokevirtual 183, 3) := by decide +kernel
theorem dX5_best_61 : decode cX5_best 61 = .ok (.aload_n 0, 1) := by decide +kernel
theorem dX5_best_62 : decode cX5_best 62 = .ok (.getfield 43, 3) := by decide +kernel
theorem dX5_best_65 : decode cX5_best 65 = .ok (.aload_n 0, 1) := by decide +kernel
theorem dX5_best_66 : decode cX5_best 66 = .ok (.getfield 23, 3) := by decide +kernel
theorem dX5_best_69 : decode cX5_best 69 = .ok (.iload_n 1, 1) := by decide +kernel
theorem dX5_best_70 : decode cX5_best 70 = .ok (.invokevirtual 142, 3) := by decide +kernel
theorem dX5_best_73 : decode cX5_best 73 = .ok (.aload_n 0, 1) := by decide +kernel
theorem dX5_best_74 : decode cX5_best 74 = .ok (.getfield 43, 3) := by decide +kernel
theorem dX5_best_77 : decode cX5_best 77 = .ok (.iload_n 2, 1) := by decide +kernel
theorem dX5_best_78 : decode cX5_best 78 = .ok (.invokevirtual 146, 3) := by decide +kernel
theorem dX5_best_81 : decode cX5_best 81 = .ok (.aload_n 0, 1) := by decide +kernel
theorem dX5_best_82 : decode cX5_best 82 = .ok (.getfield 43, 3) := by decide +kernel
theorem dX5_best_85 : decode cX5_best 85 = .ok (.getfield 150, 3) := by decide +kernel
theorem dX5_best_88 : decode cX5_best 88 = .ok (.lload 6, 2) := by decide +kernel
theorem dX5_best_90 : decode cX5_best 90 = .ok (.lload 8, 2) := by decide +kernel
theorem dX5_best_92 : decode cX5_best 92 = .ok (.invokestatic 177, 3) := by decide +kernel
theorem dX5_best_95 : decode cX5_best 95 = .ok (.istore 11, 2) := by decide +kernel
theorem dX5_best_97 : decode cX5_best 97 = .ok (.iload 11, 2) := by decide +kernel
theorem dX5_best_99 : decode cX5_best 99 = .ok (.ifCond .gt 21, 3) := by decide +kernel
theorem dX5_best_102 : decode cX5_best 102 = .ok (.iload 11, 2) := by decide +kernel
theorem dX5_best_104 : decode cX5_best 104 = .ok (.ifCond .ne 39, 3) := by decide +kernel
theorem dX5_best_107 : decode cX5_best 107 = .ok (.iload 10, 2) := by decide +kernel
theorem dX5_best_109 : decode cX5_best 109 = .ok (.invokestatic 187, 3) := by decide +kernel
theorem dX5_best_112 : decode cX5_best 112 = .ok (.iload 5, 2) := by decide +kernel
theorem dX5_best_114 : decode cX5_best 114 = .ok (.invokestatic 187, 3) := by decide +kernel
theorem dX5_best_117 : decode cX5_best 117 = .ok (.if_icmp .ge 26, 3) := by decide +kernel
theorem dX5_best_120 : decode cX5_best 120 = .ok (.iload 10, 2) := by decide +kernel
theorem dX5_best_122 : decode cX5_best 122 = .ok (.istore 5, 2) := by decide +kernel
theorem dX5_best_124 : decode cX5_best 124 = .ok (.aload_n 0, 1) := by decide +kernel
theorem dX5_best_125 : decode cX5_best 125 = .ok (.getfield 43, 3) := by decide +kernel
theorem dX5_best_128 : decode cX5_best 128 = .ok (.iload_n 2, 1) := by decide +kernel
theorem dX5_best_129 : decode cX5_best 129 = .ok (.invokevirtual 146, 3) := by decide +kernel
theorem dX5_best_132 : decode cX5_best 132 = .ok (.lstore 6, 2) := by decide +kernel
theorem dX5_best_134 : decode cX5_best 134 = .ok (.aload_n 0, 1) := by decide +kernel
theorem dX5_best_135 : decode cX5_best 135 = .ok (.getfield 43, 3) := by decide +kernel
theorem dX5_best_138 : decode cX5_best 138 = .ok (.getfield 150, 3) := by decide +kernel
theorem dX5_best_141 : decode cX5_best 141 = .ok (.lstore 8, 2) := by decide +kernel
theorem dX5_best_143 : decode cX5_best 143 = .ok (.iinc 10 1, 3) := by decide +kernel
theorem dX5_best_146 : decode cX5_best 146 = .ok (.goto (-98), 3) := by decide +kernel
theorem dX5_best_149 : decode cX5_best 149 = .ok (.iload_n 3, 1) := by decide +kernel
theorem dX5_best_150 : decode cX5_best 150 = .ok (.ifCond .ne 8, 3) := by decide +kernel
theorem dX5_best_153 : decode cX5_best 153 = .ok (.iload 5, 2) := by decide +kernel
theorem dX5_best_155 : decode cX5_best 155 = .ok (.goto 13, 3) := by decide +kernel
theorem dX5_best_158 : decode cX5_best 158 = .ok (.lload 6, 2) := by decide +kernel
