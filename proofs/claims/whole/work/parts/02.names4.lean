theorem dX6_portState_41 : decode cX6_portState 41 = .ok (.iconst 2, 1) := by decide +kernel
theorem dX6_portState_42 : decode cX6_portState 42 = .ok (.iload_n 2, 1) := by decide +kernel
theorem dX6_portState_43 : decode cX6_portState 43 = .ok (.imul, 1) := by decide +kernel
theorem dX6_portState_44 : decode cX6_portState 44 = .ok (.iload_n 3, 1) := by decide +kernel
theorem dX6_portState_45 : decode cX6_portState 45 = .ok (.iadd, 1) := by decide +kernel
theorem dX6_portState_46 : decode cX6_portState 46 = .ok (.if_icmp .ge 17, 3) := by decide +kernel
theorem dX6_portState_49 : decode cX6_portState 49 = .ok (.iconst 4, 1) := by decide +kernel
theorem dX6_portState_50 : decode cX6_portState 50 = .ok (.iload_n 2, 1) := by decide +kernel
theorem dX6_portState_51 : decode cX6_portState 51 = .ok (.iload_n 3, 1) := by decide +kernel
theorem dX6_portState_52 : decode cX6_portState 52 = .ok (.iconst 1, 1) := by decide +kernel
theorem dX6_portState_53 : decode cX6_portState 53 = .ok (.isub, 1) := by decide +kernel
theorem dX6_portState_54 : decode cX6_portState 54 = .ok (.imul, 1) := by decide +kernel
theorem dX6_portState_55 : decode cX6_portState 55 = .ok (.iload_n 1, 1) := by decide +kernel
theorem dX6_portState_56 : decode cX6_portState 56 = .ok (.iadd, 1) := by decide +kernel
theorem dX6_portState_57 : decode cX6_portState 57 = .ok (.iload_n 2, 1) := by decide +kernel
theorem dX6_portState_58 : decode cX6_portState 58 = .ok (.isub, 1) := by decide +kernel
theorem dX6_portState_59 : decode cX6_portState 59 = .ok (.iload_n 3, 1) := by decide +kernel
theorem dX6_portState_60 : decode cX6_portState 60 = .ok (.isub, 1) := by decide +kernel
theorem dX6_portState_61 : decode cX6_portState 61 = .ok (.imul, 1) := by decide +kernel
theorem dX6_portState_62 : decode cX6_portState 62 = .ok (.ireturn, 1) := by decide +kernel
theorem dX6_portState_63 : decode cX6_portState 63 = .ok (.iconst 4, 1) := by decide +kernel
theorem dX6_portState_64 : decode cX6_portState 64 = .ok (.iload_n 2, 1) := by decide +kernel
theorem dX6_portState_65 : decode cX6_portState 65 = .ok (.imul, 1) := by decide +kernel
theorem dX6_portState_66 : decode cX6_portState 66 = .ok (.iload_n 1, 1) := by decide +kernel
theorem dX6_portState_67 : decode cX6_portState 67 = .ok (.iconst 2, 1) := by decide +kernel
theorem dX6_portState_68 : decode cX6_portState 68 = .ok (.iload_n 2, 1) := by decide +kernel
theorem dX6_portState_69 : decode cX6_portState 69 = .ok (.imul, 1) := by decide +kernel
theorem dX6_portState_70 : decode cX6_portState 70 = .ok (.isub, 1) := by decide +kernel
theorem dX6_portState_71 : decode cX6_portState 71 = .ok (.iload_n 3, 1) := by decide +kernel
theorem dX6_portState_72 : decode cX6_portState 72 = .ok (.isub, 1) := by decide +kernel
theorem dX6_portState_73 : decode cX6_portState 73 = .ok (.imul, 1) := by decide +kernel
theorem dX6_portState_74 : decode cX6_portState 74 = .ok (.iconst 1, 1) := by decide +kernel
theorem dX6_portState_75 : decode cX6_portState 75 = .ok (.iadd, 1) := by decide +kernel
theorem dX6_portState_76 : decode cX6_portState 76 = .ok (.ireturn, 1) := by decide +kernel
set_option maxRecDepth 20000 in
theorem ggX6_port_X6_isPort : GoodIn wsX6_port wsX6_isPort := goodIn_r _ [6, 1, 7, 8, 5, 9, 10, 11, 12, 16, 17, 18, 19, 20, 21, 22, 23, 24, 25, 26, 27, 28, 29, 30, 31, 32, 33, 34] (by decide +kernel) (by decide +kernel)
set_option maxRecDepth 20000 in
theorem gX6_port_X6_isPort : GoodIn wsX6_port (wsV RX6 114 RX6 yX6_isPort wsX6_isPort) := goodIn_app (goodIn_of _ (by decide +kernel)) ggX6_port_X6_isPort
set_option maxRecDepth 20000 in
theorem ggX6_port_X6_in : GoodIn wsX6_port wsX6_in := goodIn_r _ [12] (by decide +kernel) (by decide +kernel)
set_option maxRecDepth 20000 in
theorem gX6_port_X6_in : GoodIn wsX6_port (va_wsS RX6 48 yX6_in wsX6_in) := goodIn_app (goodIn_of _ (by decide +kernel)) ggX6_port_X6_in
set_option maxRecDepth 20000 in
theorem ggX6_port_X6_portState : GoodIn wsX6_port wsX6_portState := goodIn_r _ [15] (by decide +kernel) (by decide +kernel)
set_option maxRecDepth 20000 in
theorem gX6_port_X6_portState : GoodIn wsX6_port (va_wsS RX6 117 yX6_portState wsX6_portState) := goodIn_app (goodIn_of _ (by decide +kernel)) ggX6_port_X6_portState
theorem dX6_port_0 : decode cX6_port 0 = .ok (.aload_n 0, 1) := by decide +kernel
theorem dX6_port_1 : decode cX6_port 1 = .ok (.iload_n 1, 1) := by decide +kernel
theorem dX6_port_2 : decode cX6_port 2 = .ok (.invokevirtual 114, 3) := by decide +kernel
theorem dX6_port_5 : decode cX6_port 5 = .ok (.ifCond .eq 12, 3) := by decide +kernel
theorem dX6_port_8 : decode cX6_port 8 = .ok (.iload_n 2, 1) := by decide +kernel
theorem dX6_port_9 : decode cX6_port 9 = .ok (.iconst 0, 1) := by decide +kernel
theorem dX6_port_10 : decode cX6_port 10 = .ok (.iconst 1, 1) := by decide +kernel
theorem dX6_port_11 : decode cX6_port 11 = .ok (.invokestatic 48, 3) := by decide +kernel
theorem dX6_port_14 : decode cX6_port 14 = .ok (.ifCond .ne 5, 3) := by decide +kernel
theorem dX6_port_17 : decode cX6_port 17 = .ok (.iconst (-1), 1) := by decide +kernel
theorem dX6_port_18 : decode cX6_port 18 = .ok (.ireturn, 1) := by decide +kernel
theorem dX6_port_19 : decode cX6_port 19 = .ok (.aload_n 0, 1) := by decide +kernel
theorem dX6_port_20 : decode cX6_port 20 = .ok (.getfield 7, 3) := by decide +kernel
theorem dX6_port_23 : decode cX6_port 23 = .ok (.iload_n 1, 1) := by decide +kernel
theorem dX6_port_24 : decode cX6_port 24 = .ok (.invokestatic 117, 3) := by decide +kernel
theorem dX6_port_27 : decode cX6_port 27 = .ok (.istore_n 3, 1) := by decide +kernel
theorem dX6_port_28 : decode cX6_port 28 = .ok (.iload_n 2, 1) := by decide +kernel
theorem dX6_port_29 : decode cX6_port 29 = .ok (.ifCond .ne 9, 3) := by decide +kernel
theorem dX6_port_32 : decode cX6_port 32 = .ok (.iload_n 3, 1) := by decide +kernel
theorem dX6_port_33 : decode cX6_port 33 = .ok (.iconst 4, 1) := by decide +kernel
theorem dX6_port_34 : decode cX6_port 34 = .ok (.idiv, 1) := by decide +kernel
theorem dX6_port_35 : decode cX6_port 35 = .ok (.goto 6, 3) := by decide +kernel
theorem dX6_port_38 : decode cX6_port 38 = .ok (.iload_n 3, 1) := by decide +kernel
theorem dX6_port_39 : decode cX6_port 39 = .ok (.iconst 4, 1) := by decide +kernel
theorem dX6_port_40 : decode cX6_port 40 = .ok (.irem, 1) := by decide +kernel
theorem dX6_port_41 : decode cX6_port 41 = .ok (.ireturn, 1) := by decide +kernel
theorem dX6_onward_0 : decode cX6_onward 0 = .ok (.aload_n 0, 1) := by decide +kernel
theorem dX6_onward_1 : decode cX6_onward 1 = .ok (.iconst 0, 1) := by decide +kernel
theorem dX6_onward_2 : decode cX6_onward 2 = .ok (.iaload, 1) := by decide +kernel
theorem dX6_onward_3 : decode cX6_onward 3 = .ok (.istore_n 3, 1) := by decide +kernel
theorem dX6_onward_4 : decode cX6_onward 4 = .ok (.aload_n 0, 1) := by decide +kernel
theorem dX6_onward_5 : decode cX6_onward 5 = .ok (.iconst 1, 1) := by decide +kernel
theorem dX6_onward_6 : decode cX6_onward 6 = .ok (.iaload, 1) := by decide +kernel
theorem dX6_onward_7 : decode cX6_onward 7 = .ok (.istore 4, 2) := by decide +kernel
theorem dX6_onward_9 : decode cX6_onward 9 = .ok (.iload_n 1, 1) := by decide +kernel
theorem dX6_onward_10 : decode cX6_onward 10 = .ok (.iload_n 3, 1) := by decide +kernel
theorem dX6_onward_11 : decode cX6_onward 11 = .ok (.irem, 1) := by decide +kernel
theorem dX6_onward_12 : decode cX6_onward 12 = .ok (.iload_n 2, 1) := by decide +kernel
theorem dX6_onward_13 : decode cX6_onward 13 = .ok (.iconst 1, 1) := by decide +kernel
theorem dX6_onward_14 : decode cX6_onward 14 = .ok (.if_icmp .ne 7, 3) := by decide +kernel
theorem dX6_onward_17 : decode cX6_onward 17 = .ok (.iconst 1, 1) := by decide +kernel
theorem dX6_onward_18 : decode cX6_onward 18 = .ok (.goto 13, 3) := by decide +kernel
theorem dX6_onward_21 : decode cX6_onward 21 = .ok (.iload_n 2, 1) := by decide +kernel
theorem dX6_onward_22 : decode cX6_onward 22 = .ok (.iconst 3, 1) := by decide +kernel
theorem dX6_onward_23 : decode cX6_onward 23 = .ok (.if_icmp .ne 7, 3) := by decide +kernel
theorem dX6_onward_26 : decode cX6_onward 26 = .ok (.iconst (-1), 1) := by decide +kernel
theorem dX6_onward_27 : decode cX6_onward 27 = .ok (.goto 4, 3) := by decide +kernel
theorem dX6_onward_30 : decode cX6_onward 30 = .ok (.iconst 0, 1) := by decide +kernel
theorem dX6_onward_31 : decode cX6_onward 31 = .ok (.iadd, 1) := by decide +kernel
theorem dX6_onward_32 : decode cX6_onward 32 = .ok (.istore 5, 2) := by decide +kernel
theorem dX6_onward_34 : decode cX6_onward 34 = .ok (.iload_n 1, 1) := by decide +kernel
theorem dX6_onward_35 : decode cX6_onward 35 = .ok (.iload_n 3, 1) := by decide +kernel
theorem dX6_onward_36 : decode cX6_onward 36 = .ok (.idiv, 1) := by decide +kernel
theorem dX6_onward_37 : decode cX6_onward 37 = .ok (.iload_n 2, 1) := by decide +kernel
theorem dX6_onward_38 : decode cX6_onward 38 = .ok (.iconst 2, 1) := by decide +kernel
theorem dX6_onward_39 : decode cX6_onward 39 = .ok (.if_icmp .ne 7, 3) := by decide +kernel
theorem dX6_onward_42 : decode cX6_onward 42 = .ok (.iconst 1, 1) := by decide +kernel
theorem dX6_onward_43 : decode cX6_onward 43 = .ok (.goto 12, 3) := by decide +kernel
theorem dX6_onward_46 : decode cX6_onward 46 = .ok (.iload_n 2, 1) := by decide +kernel
theorem dX6_onward_47 : decode cX6_onward 47 = .ok (.ifCond .ne 7, 3) := by decide +kernel
theorem dX6_onward_50 : decode cX6_onward 50 = .ok (.iconst (-1), 1) := by decide +kernel
theorem dX6_onward_51 : decode cX6_onward 51 = .ok (.goto 4, 3) := by decide +kernel
theorem dX6_onward_54 : decode cX6_onward 54 = .ok (.iconst 0, 1) := by decide +kernel
theorem dX6_onward_55 : decode cX6_onward 55 = .ok (.iadd, 1) := by decide +kernel
theorem dX6_onward_56 : decode cX6_onward 56 = .ok (.istore 6, 2) := by decide +kernel
theorem dX6_onward_58 : decode cX6_onward 58 = .ok (.iload 6, 2) := by decide +kernel
theorem dX6_onward_60 : decode cX6_onward 60 = .ok (.ifCond .ge 9, 3) := by decide +kernel
theorem dX6_onward_63 : decode cX6_onward 63 = .ok (.bipush (-2), 2) := by decide +kernel
theorem dX6_onward_65 : decode cX6_onward 65 = .ok (.iload 5, 2) := by decide +kernel
theorem dX6_onward_67 : decode cX6_onward 67 = .ok (.isub, 1) := by decide +kernel
theorem dX6_onward_68 : decode cX6_onward 68 = .ok (.ireturn, 1) := by decide +kernel
theorem dX6_onward_69 : decode cX6_onward 69 = .ok (.iload 5, 2) := by decide +kernel
theorem dX6_onward_71 : decode cX6_onward 71 = .ok (.iload_n 3, 1) := by decide +kernel
theorem dX6_onward_72 : decode cX6_onward 72 = .ok (.if_icmp .ne 11, 3) := by decide +kernel
theorem dX6_onward_75 : decode cX6_onward 75 = .ok (.bipush (-2), 2) := by decide +kernel
theorem dX6_onward_77 : decode cX6_onward 77 = .ok (.iload_n 3, 1) := by decide +kernel
theorem dX6_onward_78 : decode cX6_onward 78 = .ok (.isub, 1) := by decide +kernel
theorem dX6_onward_79 : decode cX6_onward 79 = .ok (.iload 6, 2) := by decide +kernel
theorem dX6_onward_81 : decode cX6_onward 81 = .ok (.isub, 1) := by decide +kernel
theorem dX6_onward_82 : decode cX6_onward 82 = .ok (.ireturn, 1) := by decide +kernel
theorem dX6_onward_83 : decode cX6_onward 83 = .ok (.iload 6, 2) := by decide +kernel
theorem dX6_onward_85 : decode cX6_onward 85 = .ok (.iload 4, 2) := by decide +kernel
theorem dX6_onward_87 : decode cX6_onward 87 = .ok (.if_icmp .ne 14, 3) := by decide +kernel
theorem dX6_onward_90 : decode cX6_onward 90 = .ok (.bipush (-2), 2) := by decide +kernel
theorem dX6_onward_92 : decode cX6_onward 92 = .ok (.iload_n 3, 1) := by decide +kernel
theorem dX6_onward_93 : decode cX6_onward 93 = .ok (.isub, 1) := by decide +kernel
theorem dX6_onward_94 : decode cX6_onward 94 = .ok (.iload 4, 2) := by decide +kernel
theorem dX6_onward_96 : decode cX6_onward 96 = .ok (.isub, 1) := by decide +kernel
theorem dX6_onward_97 : decode cX6_onward 97 = .ok (.iload 5, 2) := by decide +kernel
theorem dX6_onward_99 : decode cX6_onward 99 = .ok (.isub, 1) := by decide +kernel
theorem dX6_onward_100 : decode cX6_onward 100 = .ok (.ireturn, 1) := by decide +kernel
theorem dX6_onward_101 : decode cX6_onward 101 = .ok (.iload 5, 2) := by decide +kernel
theorem dX6_onward_103 : decode cX6_onward 103 = .ok (.ifCond .ge 18, 3) := by decide +kernel
theorem dX6_onward_106 : decode cX6_onward 106 = .ok (.bipush (-2), 2) := by decide +kernel
theorem dX6_onward_108 : decode cX6_onward 108 = .ok (.iconst 2, 1) := by decide +kernel
theorem dX6_onward_109 : decode cX6_onward 109 = .ok (.iload_n 3, 1) := by decide +kernel
theorem dX6_onward_110 : decode cX6_onward 110 = .ok (.imul, 1) := by decide +kernel
theorem dX6_onward_111 : decode cX6_onward 111 = .ok (.isub, 1) := by decide +kernel
theorem dX6_onward_112 : decode cX6_onward 112 = .ok (.iload 4, 2) := by decide +kernel
theorem dX6_onward_114 : decode cX6_onward 114 = .ok (.isub, 1) := by decide +kernel
theorem dX6_onward_115 : decode cX6_onward 115 = .ok (.iload 6, 2) := by decide +kernel
theorem dX6_onward_117 : decode cX6_onward 117 = .ok (.isub, 1) := by decide +kernel
theorem dX6_onward_118 : decode cX6_onward 118 = .ok (.goto 14, 3) := by decide +kernel
theorem dX6_onward_121 : decode cX6_onward 121 = .ok (.iconst 4, 1) := by decide +kernel
theorem dX6_onward_122 : decode cX6_onward 122 = .ok (.iload_n 3, 1) := by decide +kernel
theorem dX6_onward_123 : decode cX6_onward 123 = .ok (.iload 6, 2) := by decide +kernel
theorem dX6_onward_125 : decode cX6_onward 125 = .ok (.imul, 1) := by decide +kernel
theorem dX6_onward_126 : decode cX6_onward 126 = .ok (.iload 5, 2) := by decide +kernel
theorem dX6_onward_128 : decode cX6_onward 128 = .ok (.iadd, 1) := by decide +kernel
theorem dX6_onward_129 : decode cX6_onward 129 = .ok (.imul, 1) := by decide +kernel
theorem dX6_onward_130 : decode cX6_onward 130 = .ok (.iload_n 2, 1) := by decide +kernel
theorem dX6_onward_131 : decode cX6_onward 131 = .ok (.iadd, 1) := by decide +kernel
theorem dX6_onward_132 : decode cX6_onward 132 = .ok (.ireturn, 1) := by decide +kernel
theorem dX6_turned_0 : decode cX6_turned 0 = .ok (.iload_n 0, 1) := by decide +kernel
theorem dX6_turned_1 : decode cX6_turned 1 = .ok (.iconst 1, 1) := by decide +kernel
theorem dX6_turned_2 : decode cX6_turned 2 = .ok (.if_icmp .eq 8, 3) := by decide +kernel
theorem dX6_turned_5 : decode cX6_turned 5 = .ok (.iload_n 0, 1) := by decide +kernel
theorem dX6_turned_6 : decode cX6_turned 6 = .ok (.iconst 3, 1) := by decide +kernel
theorem dX6_turned_7 : decode cX6_turned 7 = .ok (.if_icmp .ne 9, 3) := by decide +kernel
theorem dX6_turned_10 : decode cX6_turned 10 = .ok (.iload_n 1, 1) := by decide +kernel
theorem dX6_turned_11 : decode cX6_turned 11 = .ok (.iconst 1, 1) := by decide +kernel
theorem dX6_turned_12 : decode cX6_turned 12 = .ok (.ixor, 1) := by decide +kernel
theorem dX6_turned_13 : decode cX6_turned 13 = .ok (.goto 6, 3) := by decide +kernel
theorem dX6_turned_16 : decode cX6_turned 16 = .ok (.iconst 3, 1) := by decide +kernel
theorem dX6_turned_17 : decode cX6_turned 17 = .ok (.iload_n 1, 1) := by decide +kernel
theorem dX6_turned_18 : decode cX6_turned 18 = .ok (.isub, 1) := by decide +kernel
theorem dX6_turned_19 : decode cX6_turned 19 = .ok (.ireturn, 1) := by decide +kernel
set_option maxRecDepth 20000 in
theorem ggX6_waysOf_X6_isHalf : GoodIn wsX6_waysOf wsX6_isHalf := goodIn_r _ [4, 5, 6, 3, 7] (by decide +kernel) (by decide +kernel)
set_option maxRecDepth 20000 in
theorem gX6_waysOf_X6_isHalf : GoodIn wsX6_waysOf (va_wsS RX6 56 yX6_isHalf wsX6_isHalf) := goodIn_app (goodIn_of _ (by decide +kernel)) ggX6_waysOf_X6_isHalf
theorem dX6_waysOf_0 : decode cX6_waysOf 0 = .ok (.aload_n 0, 1) := by decide +kernel
theorem dX6_waysOf_1 : decode cX6_waysOf 1 = .ok (.iconst 2, 1) := by decide +kernel
theorem dX6_waysOf_2 : decode cX6_waysOf 2 = .ok (.iload_n 1, 1) := by decide +kernel
theorem dX6_waysOf_3 : decode cX6_waysOf 3 = .ok (.iconst 4, 1) := by decide +kernel
theorem dX6_waysOf_4 : decode cX6_waysOf 4 = .ok (.idiv, 1) := by decide +kernel
theorem dX6_waysOf_5 : decode cX6_waysOf 5 = .ok (.iadd, 1) := by decide +kernel
theorem dX6_waysOf_6 : decode cX6_waysOf 6 = .ok (.iaload, 1) := by decide +kernel
theorem dX6_waysOf_7 : decode cX6_waysOf 7 = .ok (.istore_n 2, 1) := by decide +kernel
theorem dX6_waysOf_8 : decode cX6_waysOf 8 = .ok (.iload_n 2, 1) := by decide +kernel
theorem dX6_waysOf_9 : decode cX6_waysOf 9 = .ok (.invokestatic 56, 3) := by decide +kernel
theorem dX6_waysOf_12 : decode cX6_waysOf 12 = .ok (.ifCond .eq 7, 3) := by decide +kernel
theorem dX6_waysOf_15 : decode cX6_waysOf 15 = .ok (.iconst 2, 1) := by decide +kernel
theorem dX6_waysOf_16 : decode cX6_waysOf 16 = .ok (.goto 19, 3) := by decide +kernel
theorem dX6_waysOf_19 : decode cX6_waysOf 19 = .ok (.iload_n 2, 1) := by decide +kernel
theorem dX6_waysOf_20 : decode cX6_waysOf 20 = .ok (.iconst 5, 1) := by decide +kernel
theorem dX6_waysOf_21 : decode cX6_waysOf 21 = .ok (.if_icmp .eq 9, 3) := by decide +kernel
theorem dX6_waysOf_24 : decode cX6_waysOf 24 = .ok (.iload_n 2, 1) := by decide +kernel
theorem dX6_waysOf_25 : decode cX6_waysOf 25 = .ok (.bipush 7, 2) := by decide +kernel
theorem dX6_waysOf_27 : decode cX6_waysOf 27 = .ok (.if_icmp .ne 7, 3) := by decide +kernel
theorem dX6_waysOf_30 : decode cX6_waysOf 30 = .ok (.iconst 0, 1) := by decide +kernel
theorem dX6_waysOf_31 : decode cX6_waysOf 31 = .ok (.goto 4, 3) := by decide +kernel
theorem dX6_waysOf_34 : decode cX6_waysOf 34 = .ok (.iconst 1, 1) := by decide +kernel
theorem dX6_waysOf_35 : decode cX6_waysOf 35 = .ok (.ireturn, 1) := by decide +kernel
set_option maxRecDepth 20000 in
theorem ggX6_goes_X6_in : GoodIn wsX6_goes wsX6_in := goodIn_r _ [4] (by decide +kernel) (by decide +kernel)
set_option maxRecDepth 20000 in
theorem gX6_goes_X6_in : GoodIn wsX6_goes (va_wsS RX6 48 yX6_in wsX6_in) := goodIn_app (goodIn_of _ (by decide +kernel)) ggX6_goes_X6_in
set_option maxRecDepth 20000 in
theorem ggX6_goes_X6_isHalf : GoodIn wsX6_goes wsX6_isHalf := goodIn_r _ [7, 1, 2, 3, 4] (by decide +kernel) (by decide +kernel)
set_option maxRecDepth 20000 in
theorem gX6_goes_X6_isHalf : GoodIn wsX6_goes (va_wsS RX6 56 yX6_isHalf wsX6_isHalf) := goodIn_app (goodIn_of _ (by decide +kernel)) ggX6_goes_X6_isHalf
set_option maxRecDepth 20000 in
theorem ggX6_goes_X6_turned : GoodIn wsX6_goes wsX6_turned := goodIn_r _ [10] (by decide +kernel) (by decide +kernel)
set_option maxRecDepth 20000 in
theorem gX6_goes_X6_turned : GoodIn wsX6_goes (va_wsS RX6 120 yX6_turned wsX6_turned) := goodIn_app (goodIn_of _ (by decide +kernel)) ggX6_goes_X6_turned
set_option maxRecDepth 20000 in
theorem ggX6_goes_X6_onward : GoodIn wsX6_goes wsX6_onward := goodIn_r _ [13] (by decide +kernel) (by decide +kernel)
set_option maxRecDepth 20000 in
theorem gX6_goes_X6_onward : GoodIn wsX6_goes (va_wsS RX6 124 yX6_onward wsX6_onward) := goodIn_app (goodIn_of _ (by decide +kernel)) ggX6_goes_X6_onward
theorem dX6_goes_0 : decode cX6_goes 0 = .ok (.iload_n 1, 1) := by decide +kernel
theorem dX6_goes_1 : decode cX6_goes 1 = .ok (.iconst 4, 1) := by decide +kernel
theorem dX6_goes_2 : decode cX6_goes 2 = .ok (.idiv, 1) := by decide +kernel
theorem dX6_goes_3 : decode cX6_goes 3 = .ok (.istore_n 3, 1) := by decide +kernel
theorem dX6_goes_4 : decode cX6_goes 4 = .ok (.iload_n 1, 1) := by decide +kernel
theorem dX6_goes_5 : decode cX6_goes 5 = .ok (.iconst 4, 1) := by decide +kernel
theorem dX6_goes_6 : decode cX6_goes 6 = .ok (.irem, 1) := by decide +kernel
theorem dX6_goes_7 : decode cX6_goes 7 = .ok (.istore 4, 2) := by decide +kernel
theorem dX6_goes_9 : decode cX6_goes 9 = .ok (.aload_n 0, 1) := by decide +kernel
theorem dX6_goes_10 : decode cX6_goes 10 = .ok (.iconst 2, 1) := by decide +kernel
theorem dX6_goes_11 : decode cX6_goes 11 = .ok (.iload_n 3, 1) := by decide +kernel
theorem dX6_goes_12 : decode cX6_goes 12 = .ok (.iadd, 1) := by decide +kernel
theorem dX6_goes_13 : decode cX6_goes 13 = .ok (.iaload, 1) := by decide +kernel
theorem dX6_goes_14 : decode cX6_goes 14 = .ok (.istore 5, 2) := by decide +kernel
theorem dX6_goes_16 : decode cX6_goes 16 = .ok (.iload 5, 2) := by decide +kernel
theorem dX6_goes_18 : decode cX6_goes 18 = .ok (.iconst 1, 1) := by decide +kernel
theorem dX6_goes_19 : decode cX6_goes 19 = .ok (.iconst 2, 1) := by decide +kernel
theorem dX6_goes_20 : decode cX6_goes 20 = .ok (.invokestatic 48, 3) := by decide +kernel
theorem dX6_goes_23 : decode cX6_goes 23 = .ok (.ifCond .ne 16, 3) := by decide +kernel
theorem dX6_goes_26 : decode cX6_goes 26 = .ok (.iload 5, 2) := by decide +kernel
theorem dX6_goes_28 : decode cX6_goes 28 = .ok (.invokestatic 56, 3) := by decide +kernel
theorem dX6_goes_31 : decode cX6_goes 31 = .ok (.ifCond .eq 12, 3) := by decide +kernel
theorem dX6_goes_34 : decode cX6_goes 34 = .ok (.iload_n 2, 1) := by decide +kernel
theorem dX6_goes_35 : decode cX6_goes 35 = .ok (.iconst 1, 1) := by decide +kernel
theorem dX6_goes_36 : decode cX6_goes 36 = .ok (.if_icmp .ne 7, 3) := by decide +kernel
theorem dX6_goes_39 : decode cX6_goes 39 = .ok (.iconst 1, 1) := by decide +kernel
theorem dX6_goes_40 : decode cX6_goes 40 = .ok (.goto 4, 3) := by decide +kernel
theorem dX6_goes_43 : decode cX6_goes 43 = .ok (.iconst 0, 1) := by decide +kernel
theorem dX6_goes_44 : decode cX6_goes 44 = .ok (.istore 6, 2) := by decide +kernel
theorem dX6_goes_46 : decode cX6_goes 46 = .ok (.aload_n 0, 1) := by decide +kernel
theorem dX6_goes_47 : decode cX6_goes 47 = .ok (.iload_n 3, 1) := by decide +kernel
theorem dX6_goes_48 : decode cX6_goes 48 = .ok (.iload 6, 2) := by decide +kernel
theorem dX6_goes_50 : decode cX6_goes 50 = .ok (.ifCond .eq 13, 3) := by decide +kernel
theorem dX6_goes_53 : decode cX6_goes 53 = .ok (.iload 5, 2) := by decide +kernel
theorem dX6_goes_55 : decode cX6_goes 55 = .ok (.iload 4, 2) := by decide +kernel
theorem dX6_goes_57 : decode cX6_goes 57 = .ok (.invokestatic 120, 3) := by decide +kernel
theorem dX6_goes_60 : decode cX6_goes 60 = .ok (.goto 5, 3) := by decide +kernel
theorem dX6_goes_63 : decode cX6_goes 63 = .ok (.iload 4, 2) := by decide +kernel
theorem dX6_goes_65 : decode cX6_goes 65 = .ok (.invokestatic 124, 3) := by decide +kernel
theorem dX6_goes_68 : decode cX6_goes 68 = .ok (.ireturn, 1) := by decide +kernel
set_option maxRecDepth 20000 in
theorem ggX6_follows_X6_waysOf : GoodIn wsX6_follows wsX6_waysOf := goodIn_r _ [4, 5, 6, 3, 7, 8, 9, 10] (by decide +kernel) (by decide +kernel)
set_option maxRecDepth 20000 in
theorem gX6_follows_X6_waysOf : GoodIn wsX6_follows (va_wsS RX6 128 yX6_waysOf wsX6_waysOf) := goodIn_app (goodIn_of _ (by decide +kernel)) ggX6_follows_X6_waysOf
set_option maxRecDepth 20000 in
theorem ggX6_follows_X6_goes : GoodIn wsX6_follows wsX6_goes := goodIn_r _ [13, 8, 9, 3, 10, 5, 6, 7, 14, 15, 16, 17, 18, 19] (by decide +kernel) (by decide +kernel)
set_option maxRecDepth 20000 in
theorem gX6_follows_X6_goes : GoodIn wsX6_follows (va_wsS RX6 131 yX6_goes wsX6_goes) := goodIn_app (goodIn_of _ (by decide +kernel)) ggX6_follows_X6_goes
theorem dX6_follows_0 : decode cX6_follows 0 = .ok (.iload_n 1, 1) := by decide +kernel
theorem dX6_follows_1 : decode cX6_follows 1 = .ok (.istore_n 2, 1) := by decide +kernel
theorem dX6_follows_2 : decode cX6_follows 2 = .ok (.iconst 0, 1) := by decide +kernel
theorem dX6_follows_3 : decode cX6_follows 3 = .ok (.istore_n 3, 1) := by decide +kernel
theorem dX6_follows_4 : decode cX6_follows 4 = .ok (.iload_n 3, 1) := by decide +kernel
theorem dX6_follows_5 : decode cX6_follows 5 = .ok (.bipush 100, 2) := by decide +kernel
theorem dX6_follows_7 : decode cX6_follows 7 = .ok (.if_icmp .ge 41, 3) := by decide +kernel
theorem dX6_follows_10 : decode cX6_follows 10 = .ok (.iload_n 2, 1) := by decide +kernel
theorem dX6_follows_11 : decode cX6_follows 11 = .ok (.ifCond .lt 12, 3) := by decide +kernel
theorem dX6_follows_14 : decode cX6_follows 14 = .ok (.aload_n 0, 1) := by decide +kernel
theorem dX6_follows_15 : decode cX6_follows 15 = .ok (.iload_n 2, 1) := by decide +kernel
theorem dX6_follows_16 : decode cX6_follows 16 = .ok (.invokestatic 128, 3) := by decide +kernel
theorem dX6_follows_19 : decode cX6_follows 19 = .ok (.iconst 2, 1) := by decide +kernel
theorem dX6_follows_20 : decode cX6_follows 20 = .ok (.if_icmp .ne 5, 3) := by decide +kernel
theorem dX6_follows_23 : decode cX6_follows 23 = .ok (.iload_n 2, 1) := by decide +kernel
theorem dX6_follows_24 : decode cX6_follows 24 = .ok (.ireturn, 1) := by decide +kernel
theorem dX6_follows_25 : decode cX6_follows 25 = .ok (.aload_n 0, 1) := by decide +kernel
theorem dX6_follows_26 : decode cX6_follows 26 = .ok (.iload_n 2, 1) := by decide +kernel
theorem dX6_follows_27 : decode cX6_follows 27 = .ok (.invokestatic 128, 3) := by decide +kernel
theorem dX6_follows_30 : decode cX6_follows 30 = .ok (.ifCond .ne 5, 3) := by decide +kernel
theorem dX6_follows_33 : decode cX6_follows 33 = .ok (.iconst (-1), 1) := by decide +kernel
theorem dX6_follows_34 : decode cX6_follows 34 = .ok (.ireturn, 1) := by decide +kernel
theorem dX6_follows_35 : decode cX6_follows 35 = .ok (.aload_n 0, 1) := by decide +kernel
theorem dX6_follows_36 : decode cX6_follows 36 = .ok (.iload_n 2, 1) := by decide +kernel
theorem dX6_follows_37 : decode cX6_follows 37 = .ok (.iconst 0, 1) := by decide +kernel
theorem dX6_follows_38 : decode cX6_follows 38 = .ok (.invokestatic 131, 3) := by decide +kernel
theorem dX6_follows_41 : decode cX6_follows 41 = .ok (.istore_n 2, 1) := by decide +kernel
theorem dX6_follows_42 : decode cX6_follows 42 = .ok (.iinc 3 1, 3) := by decide +kernel
theorem dX6_follows_45 : decode cX6_follows 45 = .ok (.goto (-41), 3) := by decide +kernel
theorem dX6_follows_48 : decode cX6_follows 48 = .ok (.bipush (-100), 2) := by decide +kernel
theorem dX6_follows_50 : decode cX6_follows 50 = .ok (.ireturn, 1) := by decide +kernel
theorem dX6_isAsked_0 : decode cX6_isAsked 0 = .ok (.iload_n 0, 1) := by decide +kernel
theorem dX6_isAsked_1 : decode cX6_isAsked 1 = .ok (.ifCond .ge 9, 3) := by decide +kernel
theorem dX6_isAsked_4 : decode cX6_isAsked 4 = .ok (.iload_n 0, 1) := by decide +kernel
theorem dX6_isAsked_5 : decode cX6_isAsked 5 = .ok (.bipush (-100), 2) := by decide +kernel
theorem dX6_isAsked_7 : decode cX6_isAsked 7 = .ok (.if_icmp .ne 5, 3) := by decide +kernel
theorem dX6_isAsked_10 : decode cX6_isAsked 10 = .ok (.iconst 0, 1) := by decide +kernel
theorem dX6_isAsked_11 : decode cX6_isAsked 11 = .ok (.ireturn, 1) := by decide +kernel
theorem dX6_isAsked_12 : decode cX6_isAsked 12 = .ok (.iload_n 1, 1) := by decide +kernel
theorem dX6_isAsked_13 : decode cX6_isAsked 13 = .ok (.bipush (-2), 2) := by decide +kernel
theorem dX6_isAsked_15 : decode cX6_isAsked 15 = .ok (.if_icmp .eq 24, 3) := by decide +kernel
theorem dX6_isAsked_18 : decode cX6_isAsked 18 = .ok (.iload_n 1, 1) := by decide +kernel
theorem dX6_isAsked_19 : decode cX6_isAsked 19 = .ok (.iconst (-1), 1) := by decide +kernel
theorem dX6_isAsked_20 : decode cX6_isAsked 20 = .ok (.if_icmp .ne 11, 3) := by decide +kernel
theorem dX6_isAsked_23 : decode cX6_isAsked 23 = .ok (.iload_n 0, 1) := by decide +kernel
theorem dX6_isAsked_24 : decode cX6_isAsked 24 = .ok (.iconst (-1), 1) := by decide +kernel
theorem dX6_isAsked_25 : decode cX6_isAsked 25 = .ok (.if_icmp .ne 18, 3) := by decide +kernel
theorem dX6_isAsked_28 : decode cX6_isAsked 28 = .ok (.goto 11, 3) := by decide +kernel
theorem dX6_isAsked_31 : decode cX6_isAsked 31 = .ok (.iload_n 0, 1) := by decide +kernel
theorem dX6_isAsked_32 : decode cX6_isAsked 32 = .ok (.bipush (-2), 2) := by decide +kernel
theorem dX6_isAsked_34 : decode cX6_isAsked 34 = .ok (.iload_n 1, 1) := by decide +kernel
theorem dX6_isAsked_35 : decode cX6_isAsked 35 = .ok (.isub, 1) := by decide +kernel
theorem dX6_isAsked_36 : decode cX6_isAsked 36 = .ok (.if_icmp .ne 7, 3) := by decide +kernel
theorem dX6_isAsked_39 : decode cX6_isAsked 39 = .ok (.iconst 1, 1) := by decide +kernel
theorem dX6_isAsked_40 : decode cX6_isAsked 40 = .ok (.goto 4, 3) := by decide +kernel
theorem dX6_isAsked_43 : decode cX6_isAsked 43 = .ok (.iconst 0, 1) := by decide +kernel
theorem dX6_isAsked_44 : decode cX6_isAsked 44 = .ok (.ireturn, 1) := by decide +kernel
set_option maxRecDepth 20000 in
theorem ggX6_gathers_X6_goes : GoodIn wsX6_gathers wsX6_goes := goodIn_r _ [7, 8, 9, 6, 10, 11, 12, 13, 14, 15, 16, 17, 18, 19] (by decide +kernel) (by decide +kernel)
set_option maxRecDepth 20000 in
theorem gX6_gathers_X6_goes : GoodIn wsX6_gathers (va_wsS RX6 131 yX6_goes wsX6_goes) := goodIn_app (goodIn_of _ (by decide +kernel)) ggX6_gathers_X6_goes
set_option maxRecDepth 20000 in
theorem ggX6_gathers_X6_follows : GoodIn wsX6_gathers wsX6_follows := goodIn_r _ [22, 23, 24, 6, 25, 11, 12, 13, 8, 9, 10, 4, 5, 7, 14, 15, 16, 17, 18, 19] (by decide +kernel) (by decide +kernel)
set_option maxRecDepth 20000 in
theorem gX6_gathers_X6_follows : GoodIn wsX6_gathers (va_wsS RX6 137 yX6_follows wsX6_follows) := goodIn_app (goodIn_of _ (by decide +kernel)) ggX6_gathers_X6_follows
theorem dX6_gathers_0 : decode cX6_gathers 0 = .ok (.aload_n 0, 1) := by decide +kernel
theorem dX6_gathers_1 : decode cX6_gathers 1 = .ok (.iconst 1, 1) := by decide +kernel
theorem dX6_gathers_2 : decode cX6_gathers 2 = .ok (.putfield 134, 3) := by decide +kernel
theorem dX6_gathers_5 : decode cX6_gathers 5 = .ok (.aload_n 0, 1) := by decide +kernel
theorem dX6_gathers_6 : decode cX6_gathers 6 = .ok (.getfield 25, 3) := by decide +kernel
theorem dX6_gathers_9 : decode cX6_gathers 9 = .ok (.iconst 0, 1) := by decide +kernel
theorem dX6_gathers_10 : decode cX6_gathers 10 = .ok (.iload_n 2, 1) := by decide +kernel
theorem dX6_gathers_11 : decode cX6_gathers 11 = .ok (.iastore, 1) := by decide +kernel
theorem dX6_gathers_12 : decode cX6_gathers 12 = .ok (.iconst 0, 1) := by decide +kernel
theorem dX6_gathers_13 : decode cX6_gathers 13 = .ok (.istore_n 3, 1) := by decide +kernel
theorem dX6_gathers_14 : decode cX6_gathers 14 = .ok (.iload_n 3, 1) := by decide +kernel
theorem dX6_gathers_15 : decode cX6_gathers 15 = .ok (.aload_n 0, 1) := by decide +kernel
theorem dX6_gathers_16 : decode cX6_gathers 16 = .ok (.getfield 134, 3) := by decide +kernel
theorem dX6_gathers_19 : decode cX6_gathers 19 = .ok (.if_icmp .ge 135, 3) := by decide +kernel
theorem dX6_gathers_22 : decode cX6_gathers 22 = .ok (.iconst 0, 1) := by decide +kernel
theorem dX6_gathers_23 : decode cX6_gathers 23 = .ok (.istore 4, 2) := by decide +kernel
theorem dX6_gathers_25 : decode cX6_gathers 25 = .ok (.iload 4, 2) := by decide +kernel
theorem dX6_gathers_27 : decode cX6_gathers 27 = .ok (.iconst 2, 1) := by decide +kernel
theorem dX6_gathers_28 : decode cX6_gathers 28 = .ok (.if_icmp .ge 120, 3) := by decide +kernel
theorem dX6_gathers_31 : decode cX6_gathers 31 = .ok (.aload_n 1, 1) := by decide +kernel
theorem dX6_gathers_32 : decode cX6_gathers 32 = .ok (.aload_n 1, 1) := by decide +kernel
theorem dX6_gathers_33 : decode cX6_gathers 33 = .ok (.aload_n 0, 1) := by decide +kernel
theorem dX6_gathers_34 : decode cX6_gathers 34 = .ok (.getfield 25, 3) := by decide +kernel
theorem dX6_gathers_37 : decode cX6_gathers 37 = .ok (.iload_n 3, 1) := by decide +kernel
theorem dX6_gathers_38 : decode cX6_gathers 38 = .ok (.iaload, 1) := by decide +kernel
theorem dX6_gathers_39 : decode cX6_gathers 39 = .ok (.iload 4, 2) := by decide +kernel
theorem dX6_gathers_41 : decode cX6_gathers 41 = .ok (.invokestatic 131, 3) := by decide +kernel
theorem dX6_gathers_44 : decode cX6_gathers 44 = .ok (.invokestatic 137, 3) := by decide +kernel
theorem dX6_gathers_47 : decode cX6_gathers 47 = .ok (.istore 5, 2) := by decide +kernel
theorem dX6_gathers_49 : decode cX6_gathers 49 = .ok (.aload_n 0, 1) := by decide +kernel
theorem dX6_gathers_50 : decode cX6_gathers 50 = .ok (.getfield 28, 3) := by decide +kernel
theorem dX6_gathers_53 : decode cX6_gathers 53 = .ok (.iconst 2, 1) := by decide +kernel
theorem dX6_gathers_54 : decode cX6_gathers 54 = .ok (.iload_n 3, 1) := by decide +kernel
theorem dX6_gathers_55 : decode cX6_gathers 55 = .ok (.imul, 1) := by decide +kernel
theorem dX6_gathers_56 : decode cX6_gathers 56 = .ok (.iload 4, 2) := by decide +kernel
theorem dX6_gathers_58 : decode cX6_gathers 58 = .ok (.iadd, 1) := by decide +kernel
theorem dX6_gathers_59 : decode cX6_gathers 59 = .ok (.iload 5, 2) := by decide +kernel
theorem dX6_gathers_61 : decode cX6_gathers 61 = .ok (.iastore, 1) := by decide +kernel
theorem dX6_gathers_62 : decode cX6_gathers 62 = .ok (.iload 5, 2) := by decide +kernel
theorem dX6_gathers_64 : decode cX6_gathers 64 = .ok (.ifCond .ge 7, 3) := by decide +kernel
theorem dX6_gathers_67 : decode cX6_gathers 67 = .ok (.iconst 1, 1) := by decide +kernel
theorem dX6_gathers_68 : decode cX6_gathers 68 = .ok (.goto 4, 3) := by decide +kernel
theorem dX6_gathers_71 : decode cX6_gathers 71 = .ok (.iconst 0, 1) := by decide +kernel
theorem dX6_gathers_72 : decode cX6_gathers 72 = .ok (.istore 6, 2) := by decide +kernel
theorem dX6_gathers_74 : decode cX6_gathers 74 = .ok (.iconst 0, 1) := by decide +kernel
theorem dX6_gathers_75 : decode cX6_gathers 75 = .ok (.istore 7, 2) := by decide +kernel
theorem dX6_gathers_77 : decode cX6_gathers 77 = .ok (.iload 7, 2) := by decide +kernel
theorem dX6_gathers_79 : decode cX6_gathers 79 = .ok (.aload_n 0, 1) := by decide +kernel
theorem dX6_gathers_80 : decode cX6_gathers 80 = .ok (.getfield 134, 3) := by decide +kernel
theorem dX6_gathers_83 : decode cX6_gathers 83 = .ok (.if_icmp .ge 33, 3) := by decide +kernel
theorem dX6_gathers_86 : decode cX6_gathers 86 = .ok (.iload 6, 2) := by decide +kernel
theorem dX6_gathers_88 : decode cX6_gathers 88 = .ok (.ifCond .ne 15, 3) := by decide +kernel
theorem dX6_gathers_91 : decode cX6_gathers 91 = .ok (.aload_n 0, 1) := by decide +kernel
theorem dX6_gathers_92 : decode cX6_gathers 92 = .ok (.getfield 25, 3) := by decide +kernel
theorem dX6_gathers_95 : decode cX6_gathers 95 = .ok (.iload 7, 2) := by decide +kernel
theorem dX6_gathers_97 : decode cX6_gathers 97 = .ok (.iaload, 1) := by decide +kernel
theorem dX6_gathers_98 : decode cX6_gathers 98 = .ok (.iload 5, 2) := by decide +kernel
theorem dX6_gathers_100 : decode cX6_gathers 100 = .ok (.if_icmp .ne 7, 3) := by decide +kernel
theorem dX6_gathers_103 : decode cX6_gathers 103 = .ok (.iconst 1, 1) := by decide +kernel
theorem dX6_gathers_104 : decode cX6_gathers 104 = .ok (.goto 4, 3) := by decide +kernel
theorem dX6_gathers_107 : decode cX6_gathers 107 = .ok (.iconst 0, 1) := by decide +kernel
theorem dX6_gathers_108 : decode cX6_gathers 108 = .ok (.istore 6, 2) := by decide +kernel
theorem dX6_gathers_110 : decode cX6_gathers 110 = .ok (.iinc 7 1, 3) := by decide +kernel
theorem dX6_gathers_113 : decode cX6_gathers 113 = .ok (.goto (-36), 3) := by decide +kernel
theorem dX6_gathers_116 : decode cX6_gathers 116 = .ok (.iload 6, 2) := by decide +kernel
theorem dX6_gathers_118 : decode cX6_gathers 118 = .ok (.ifCond .ne 24, 3) := by decide +kernel
theorem dX6_gathers_121 : decode cX6_gathers 121 = .ok (.aload_n 0, 1) := by decide +kernel
theorem dX6_gathers_122 : decode cX6_gathers 122 = .ok (.getfield 25, 3) := by decide +kernel
theorem dX6_gathers_125 : decode cX6_gathers 125 = .ok (.aload_n 0, 1) := by decide +kernel
theorem dX6_gathers_126 : decode cX6_gathers 126 = .ok (.getfield 134, 3) := by decide +kernel
theorem dX6_gathers_129 : decode cX6_gathers 129 = .ok (.iload 5, 2) := by decide +kernel
theorem dX6_gathers_131 : decode cX6_gathers 131 = .ok (.iastore, 1) := by decide +kernel
theorem dX6_gathers_132 : decode cX6_gathers 132 = .ok (.aload_n 0, 1) := by decide +kernel
theorem dX6_gathers_133 : decode cX6_gathers 133 = .ok (.dup, 1) := by decide +kernel
theorem dX6_gathers_134 : decode cX6_gathers 134 = .ok (.getfield 134, 3) := by decide +kernel
theorem dX6_gathers_137 : decode cX6_gathers 137 = .ok (.iconst 1, 1) := by decide +kernel
theorem dX6_gathers_138 : decode cX6_gathers 138 = .ok (.iadd, 1) := by decide +kernel
theorem dX6_gathers_139 : decode cX6_gathers 139 = .ok (.putfield 134, 3) := by decide +kernel
theorem dX6_gathers_142 : decode cX6_gathers 142 = .ok (.iinc 4 1, 3) := by decide +kernel
theorem dX6_gathers_145 : decode cX6_gathers 145 = .ok (.goto (-120), 3) := by decide +kernel
theorem dX6_gathers_148 : decode cX6_gathers 148 = .ok (.iinc 3 1, 3) := by decide +kernel
theorem dX6_gathers_151 : decode cX6_gathers 151 = .ok (.goto (-137), 3) := by decide +kernel
theorem dX6_gathers_154 : decode cX6_gathers 154 = .ok (.return_, 1) := by decide +kernel
set_option maxRecDepth 20000 in
theorem ggX6_findsMay_X6_isAsked : GoodIn wsX6_findsMay wsX6_isAsked := goodIn_r _ [9] (by decide +kernel) (by decide +kernel)
set_option maxRecDepth 20000 in
theorem gX6_findsMay_X6_isAsked : GoodIn wsX6_findsMay (va_wsS RX6 140 yX6_isAsked wsX6_isAsked) := goodIn_app (goodIn_of _ (by decide +kernel)) ggX6_findsMay_X6_isAsked
theorem dX6_findsMay_0 : decode cX6_findsMay 0 = .ok (.iconst 0, 1) := by decide +kernel
theorem dX6_findsMay_1 : decode cX6_findsMay 1 = .ok (.istore_n 2, 1) := by decide +kernel
theorem dX6_findsMay_2 : decode cX6_findsMay 2 = .ok (.iload_n 2, 1) := by decide +kernel
theorem dX6_findsMay_3 : decode cX6_findsMay 3 = .ok (.bipush 80, 2) := by decide +kernel
theorem dX6_findsMay_5 : decode cX6_findsMay 5 = .ok (.if_icmp .ge 17, 3) := by decide +kernel
theorem dX6_findsMay_8 : decode cX6_findsMay 8 = .ok (.aload_n 0, 1) := by decide +kernel
theorem dX6_findsMay_9 : decode cX6_findsMay 9 = .ok (.getfield 35, 3) := by decide +kernel
theorem dX6_findsMay_12 : decode cX6_findsMay 12 = .ok (.iload_n 2, 1) := by decide +kernel
theorem dX6_findsMay_13 : decode cX6_findsMay 13 = .ok (.bipush (-4), 2) := by decide +kernel
theorem dX6_findsMay_15 : decode cX6_findsMay 15 = .ok (.iastore, 1) := by decide +kernel
theorem dX6_findsMay_16 : decode cX6_findsMay 16 = .ok (.iinc 2 1, 3) := by decide +kernel
theorem dX6_findsMay_19 : decode cX6_findsMay 19 = .ok (.goto (-17), 3) := by decide +kernel
theorem dX6_findsMay_22 : decode cX6_findsMay 22 = .ok (.iconst 0, 1) := by decide +kernel
theorem dX6_findsMay_23 : decode cX6_findsMay 23 = .ok (.istore_n 2, 1) := by decide +kernel
theorem dX6_findsMay_24 : decode cX6_findsMay 24 = .ok (.iload_n 2, 1) := by decide +kernel
theorem dX6_findsMay_25 : decode cX6_findsMay 25 = .ok (.aload_n 0, 1) := by decide +kernel
theorem dX6_findsMay_26 : decode cX6_findsMay 26 = .ok (.getfield 134, 3) := by decide +kernel
theorem dX6_findsMay_29 : decode cX6_findsMay 29 = .ok (.if_icmp .ge 28, 3) := by decide +kernel
theorem dX6_findsMay_32 : decode cX6_findsMay 32 = .ok (.aload_n 0, 1) := by decide +kernel
theorem dX6_findsMay_33 : decode cX6_findsMay 33 = .ok (.getfield 31, 3) := by decide +kernel
theorem dX6_findsMay_36 : decode cX6_findsMay 36 = .ok (.iload_n 2, 1) := by decide +kernel
theorem dX6_findsMay_37 : decode cX6_findsMay 37 = .ok (.iconst 0, 1) := by decide +kernel
theorem dX6_findsMay_38 : decode cX6_findsMay 38 = .ok (.bastore, 1) := by decide +kernel
theorem dX6_findsMay_39 : decode cX6_findsMay 39 = .ok (.aload_n 0, 1) := by decide +kernel
theorem dX6_findsMay_40 : decode cX6_findsMay 40 = .ok (.getfield 35, 3) := by decide +kernel
theorem dX6_findsMay_43 : decode cX6_findsMay 43 = .ok (.aload_n 0, 1) := by decide +kernel
theorem dX6_findsMay_44 : decode cX6_findsMay 44 = .ok (.getfield 25, 3) := by decide +kernel
theorem dX6_findsMay_47 : decode cX6_findsMay 47 = .ok (.iload_n 2, 1) := by decide +kernel
theorem dX6_findsMay_48 : decode cX6_findsMay 48 = .ok (.iaload, 1) := by decide +kernel
theorem dX6_findsMay_49 : decode cX6_findsMay 49 = .ok (.iload_n 2, 1) := by decide +kernel
theorem dX6_findsMay_50 : decode cX6_findsMay 50 = .ok (.iastore, 1) := by decide +kernel
theorem dX6_findsMay_51 : decode cX6_findsMay 51 = .ok (.iinc 2 1, 3) := by decide +kernel
theorem dX6_findsMay_54 : decode cX6_findsMay 54 = .ok (.goto (-30), 3) := by decide +kernel
theorem dX6_findsMay_57 : decode cX6_findsMay 57 = .ok (.iconst 0, 1) := by decide +kernel
theorem dX6_findsMay_58 : decode cX6_findsMay 58 = .ok (.istore_n 2, 1) := by decide +kernel
theorem dX6_findsMay_59 : decode cX6_findsMay 59 = .ok (.iload_n 2, 1) := by decide +kernel
theorem dX6_findsMay_60 : decode cX6_findsMay 60 = .ok (.aload_n 0, 1) := by decide +kernel
theorem dX6_findsMay_61 : decode cX6_findsMay 61 = .ok (.getfield 134, 3) := by decide +kernel
theorem dX6_findsMay_64 : decode cX6_findsMay 64 = .ok (.if_icmp .ge 102, 3) := by decide +kernel
theorem dX6_findsMay_67 : decode cX6_findsMay 67 = .ok (.iconst 0, 1) := by decide +kernel
theorem dX6_findsMay_68 : decode cX6_findsMay 68 = .ok (.istore_n 3, 1) := by decide +kernel
theorem dX6_findsMay_69 : decode cX6_findsMay 69 = .ok (.iload_n 3, 1) := by decide +kernel
theorem dX6_findsMay_70 : decode cX6_findsMay 70 = .ok (.aload_n 0, 1) := by decide +kernel
theorem dX6_findsMay_71 : decode cX6_findsMay 71 = .ok (.getfield 134, 3) := by decide +kernel
theorem dX6_findsMay_74 : decode cX6_findsMay 74 = .ok (.if_icmp .ge 86, 3) := by decide +kernel
theorem dX6_findsMay_77 : decode cX6_findsMay 77 = .ok (.iconst 0, 1) := by decide +kernel
theorem dX6_findsMay_78 : decode cX6_findsMay 78 = .ok (.istore 4, 2) := by decide +kernel
theorem dX6_findsMay_80 : decode cX6_findsMay 80 = .ok (.iload 4, 2) := by decide +kernel
theorem dX6_findsMay_82 : decode cX6_findsMay 82 = .ok (.iconst 2, 1) := by decide +kernel
theorem dX6_findsMay_83 : decode cX6_findsMay 83 = .ok (.if_icmp .ge 71, 3) := by decide +kernel
theorem dX6_findsMay_86 : decode cX6_findsMay 86 = .ok (.aload_n 0, 1) := by decide +kernel
theorem dX6_findsMay_87 : decode cX6_findsMay 87 = .ok (.getfield 28, 3) := by decide +kernel
theorem dX6_findsMay_90 : decode cX6_findsMay 90 = .ok (.iconst 2, 1) := by decide +kernel
theorem dX6_findsMay_91 : decode cX6_findsMay 91 = .ok (.iload_n 3, 1) := by decide +kernel
theorem dX6_findsMay_92 : decode cX6_findsMay 92 = .ok (.imul, 1) := by decide +kernel
theorem dX6_findsMay_93 : decode cX6_findsMay 93 = .ok (.iload 4, 2) := by decide +kernel
theorem dX6_findsMay_95 : decode cX6_findsMay 95 = .ok (.iadd, 1) := by decide +kernel
theorem dX6_findsMay_96 : decode cX6_findsMay 96 = .ok (.iaload, 1) := by decide +kernel
theorem dX6_findsMay_97 : decode cX6_findsMay 97 = .ok (.istore 5, 2) := by decide +kernel
theorem dX6_findsMay_99 : decode cX6_findsMay 99 = .ok (.aload_n 0, 1) := by decide +kernel
theorem dX6_findsMay_100 : decode cX6_findsMay 100 = .ok (.getfield 31, 3) := by decide +kernel
theorem dX6_findsMay_103 : decode cX6_findsMay 103 = .ok (.iload_n 3, 1) := by decide +kernel
theorem dX6_findsMay_104 : decode cX6_findsMay 104 = .ok (.aload_n 0, 1) := by decide +kernel
theorem dX6_findsMay_105 : decode cX6_findsMay 105 = .ok (.getfield 31, 3) := by decide +kernel
theorem dX6_findsMay_108 : decode cX6_findsMay 108 = .ok (.iload_n 3, 1) := by decide +kernel
theorem dX6_findsMay_109 : decode cX6_findsMay 109 = .ok (.baload, 1) := by decide +kernel
theorem dX6_findsMay_110 : decode cX6_findsMay 110 = .ok (.ifCond .ne 32, 3) := by decide +kernel
theorem dX6_findsMay_113 : decode cX6_findsMay 113 = .ok (.iload 5, 2) := by decide +kernel
theorem dX6_findsMay_115 : decode cX6_findsMay 115 = .ok (.iload_n 1, 1) := by decide +kernel
theorem dX6_findsMay_116 : decode cX6_findsMay 116 = .ok (.invokestatic 140, 3) := by decide +kernel
theorem dX6_findsMay_119 : decode cX6_findsMay 119 = .ok (.ifCond .ne 23, 3) := by decide +kernel
theorem dX6_findsMay_122 : decode cX6_findsMay 122 = .ok (.iload 5, 2) := by decide +kernel
theorem dX6_findsMay_124 : decode cX6_findsMay 124 = .ok (.ifCond .lt 22, 3) := by decide +kernel
theorem dX6_findsMay_127 : decode cX6_findsMay 127 = .ok (.aload_n 0, 1) := by decide +kernel
theorem dX6_findsMay_128 : decode cX6_findsMay 128 = .ok (.getfield 31, 3) := by decide +kernel
theorem dX6_findsMay_131 : decode cX6_findsMay 131 = .ok (.aload_n 0, 1) := by decide +kernel
theorem dX6_findsMay_132 : decode cX6_findsMay 132 = .ok (.getfield 35, 3) := by decide +kernel
theorem dX6_findsMay_135 : decode cX6_findsMay 135 = .ok (.iload 5, 2) := by decide +kernel
theorem dX6_findsMay_137 : decode cX6_findsMay 137 = .ok (.iaload, 1) := by decide +kernel
theorem dX6_findsMay_138 : decode cX6_findsMay 138 = .ok (.baload, 1) := by decide +kernel
theorem dX6_findsMay_139 : decode cX6_findsMay 139 = .ok (.ifCond .eq 7, 3) := by decide +kernel
theorem dX6_findsMay_142 : decode cX6_findsMay 142 = .ok (.iconst 1, 1) := by decide +kernel
theorem dX6_findsMay_143 : decode cX6_findsMay 143 = .ok (.goto 4, 3) := by decide +kernel
theorem dX6_findsMay_146 : decode cX6_findsMay 146 = .ok (.iconst 0, 1) := by decide +kernel
theorem dX6_findsMay_147 : decode cX6_findsMay 147 = .ok (.bastore, 1) := by decide +kernel
theorem dX6_findsMay_148 : decode cX6_findsMay 148 = .ok (.iinc 4 1, 3) := by decide +kernel
theorem dX6_findsMay_151 : decode cX6_findsMay 151 = .ok (.goto (-71), 3) := by decide +kernel
theorem dX6_findsMay_154 : decode cX6_findsMay 154 = .ok (.iinc 3 1, 3) := by decide +kernel
theorem dX6_findsMay_157 : decode cX6_findsMay 157 = .ok (.goto (-88), 3) := by decide +kernel
theorem dX6_findsMay_160 : decode cX6_findsMay 160 = .ok (.iinc 2 1, 3) := by decide +kernel
theorem dX6_findsMay_163 : decode cX6_findsMay 163 = .ok (.goto (-104), 3) := by decide +kernel
theorem dX6_findsMay_166 : decode cX6_findsMay 166 = .ok (.return_, 1) := by decide +kernel
set_option maxRecDepth 20000 in
theorem ggX6_laysRows_X6_isAsked : GoodIn wsX6_laysRows wsX6_isAsked := goodIn_r _ [11] (by decide +kernel) (by decide +kernel)
set_option maxRecDepth 20000 in
theorem gX6_laysRows_X6_isAsked : GoodIn wsX6_laysRows (va_wsS RX6 140 yX6_isAsked wsX6_isAsked) := goodIn_app (goodIn_of _ (by decide +kernel)) ggX6_laysRows_X6_isAsked
theorem dX6_laysRows_0 : decode cX6_laysRows 0 = .ok (.iconst 0, 1) := by decide +kernel
theorem dX6_laysRows_1 : decode cX6_laysRows 1 = .ok (.istore_n 2, 1) := by decide +kernel
theorem dX6_laysRows_2 : decode cX6_laysRows 2 = .ok (.aload_n 0, 1) := by decide +kernel
theorem dX6_laysRows_3 : decode cX6_laysRows 3 = .ok (.getfield 134, 3) := by decide +kernel
theorem dX6_laysRows_6 : decode cX6_laysRows 6 = .ok (.iconst 1, 1) := by decide +kernel
theorem dX6_laysRows_7 : decode cX6_laysRows 7 = .ok (.isub, 1) := by decide +kernel
theorem dX6_laysRows_8 : decode cX6_laysRows 8 = .ok (.istore_n 3, 1) := by decide +kernel
theorem dX6_laysRows_9 : decode cX6_laysRows 9 = .ok (.iload_n 3, 1) := by decide +kernel
theorem dX6_laysRows_10 : decode cX6_laysRows 10 = .ok (.ifCond .lt 52, 3) := by decide +kernel
theorem dX6_laysRows_13 : decode cX6_laysRows 13 = .ok (.aload_n 0, 1) := by decide +kernel
theorem dX6_laysRows_14 : decode cX6_laysRows 14 = .ok (.getfield 35, 3) := by decide +kernel
theorem dX6_laysRows_17 : decode cX6_laysRows 17 = .ok (.aload_n 0, 1) := by decide +kernel
theorem dX6_laysRows_18 : decode cX6_laysRows 18 = .ok (.getfield 25, 3) := by decide +kernel
theorem dX6_laysRows_21 : decode cX6_laysRows 21 = .ok (.iload_n 3, 1) := by decide +kernel
theorem dX6_laysRows_22 : decode cX6_laysRows 22 = .ok (.iaload, 1) := by decide +kernel
theorem dX6_laysRows_23 : decode cX6_laysRows 23 = .ok (.aload_n 0, 1) := by decide +kernel
theorem dX6_laysRows_24 : decode cX6_laysRows 24 = .ok (.getfield 31, 3) := by decide +kernel
theorem dX6_laysRows_27 : decode cX6_laysRows 27 = .ok (.iload_n 3, 1) := by decide +kernel
theorem dX6_laysRows_28 : decode cX6_laysRows 28 = .ok (.baload, 1) := by decide +kernel
theorem dX6_laysRows_29 : decode cX6_laysRows 29 = .ok (.ifCond .eq 7, 3) := by decide +kernel
theorem dX6_laysRows_32 : decode cX6_laysRows 32 = .ok (.iload_n 2, 1) := by decide +kernel
theorem dX6_laysRows_33 : decode cX6_laysRows 33 = .ok (.goto 5, 3) := by decide +kernel
theorem dX6_laysRows_36 : decode cX6_laysRows 36 = .ok (.bipush (-4), 2) := by decide +kernel
theorem dX6_laysRows_38 : decode cX6_laysRows 38 = .ok (.iastore, 1) := by decide +kernel
theorem dX6_laysRows_39 : decode cX6_laysRows 39 = .ok (.iload_n 2, 1) := by decide +kernel
theorem dX6_laysRows_40 : decode cX6_laysRows 40 = .ok (.aload_n 0, 1) := by decide +kernel
theorem dX6_laysRows_41 : decode cX6_laysRows 41 = .ok (.getfield 31, 3) := by decide +kernel
theorem dX6_laysRows_44 : decode cX6_laysRows 44 = .ok (.iload_n 3, 1) := by decide +kernel
theorem dX6_laysRows_45 : decode cX6_laysRows 45 = .ok (.baload, 1) := by decide +kernel
theorem dX6_laysRows_46 : decode cX6_laysRows 46 = .ok (.ifCond .eq 7, 3) := by decide +kernel
theorem dX6_laysRows_49 : decode cX6_laysRows 49 = .ok (.iconst 1, 1) := by decide +kernel
theorem dX6_laysRows_50 : decode cX6_laysRows 50 = .ok (.goto 4, 3) := by decide +kernel
theorem dX6_laysRows_53 : decode cX6_laysRows 53 = .ok (.iconst 0, 1) := by decide +kernel
theorem dX6_laysRows_54 : decode cX6_laysRows 54 = .ok (.iadd, 1) := by decide +kernel
theorem dX6_laysRows_55 : decode cX6_laysRows 55 = .ok (.istore_n 2, 1) := by decide +kernel
theorem dX6_laysRows_56 : decode cX6_laysRows 56 = .ok (.iinc 3 (-1), 3) := by decide +kernel
theorem dX6_laysRows_59 : decode cX6_laysRows 59 = .ok (.goto (-50), 3) := by decide +kernel
theorem dX6_laysRows_62 : decode cX6_laysRows 62 = .ok (.iconst 0, 1) := by decide +kernel
theorem dX6_laysRows_63 : decode cX6_laysRows 63 = .ok (.istore_n 3, 1) := by decide +kernel
theorem dX6_laysRows_64 : decode cX6_laysRows 64 = .ok (.iload_n 3, 1) := by decide +kernel
theorem dX6_laysRows_65 : decode cX6_laysRows 65 = .ok (.sipush 420, 3) := by decide +kernel
theorem dX6_laysRows_68 : decode cX6_laysRows 68 = .ok (.if_icmp .ge 16, 3) := by decide +kernel
theorem dX6_laysRows_71 : decode cX6_laysRows 71 = .ok (.aload_n 0, 1) := by decide +kernel
theorem dX6_laysRows_72 : decode cX6_laysRows 72 = .ok (.getfield 38, 3) := by decide +kernel
theorem dX6_laysRows_75 : decode cX6_laysRows 75 = .ok (.iload_n 3, 1) := by decide +kernel
theorem dX6_laysRows_76 : decode cX6_laysRows 76 = .ok (.lconst 0, 1) := by decide +kernel
theorem dX6_laysRows_77 : decode cX6_laysRows 77 = .ok (.lastore, 1) := by decide +kernel
theorem dX6_laysRows_78 : decode cX6_laysRows 78 = .ok (.iinc 3 1, 3) := by decide +kernel
theorem dX6_laysRows_81 : decode cX6_laysRows 81 = .ok (.goto (-17), 3) := by decide +kernel
theorem dX6_laysRows_84 : decode cX6_laysRows 84 = .ok (.iconst 0, 1) := by decide +kernel
theorem dX6_laysRows_85 : decode cX6_laysRows 85 = .ok (.istore_n 3, 1) := by decide +kernel
theorem dX6_laysRows_86 : decode cX6_laysRows 86 = .ok (.iload_n 3, 1) := by decide +kernel
theorem dX6_laysRows_87 : decode cX6_laysRows 87 = .ok (.aload_n 0, 1) := by decide +kernel
theorem dX6_laysRows_88 : decode cX6_laysRows 88 = .ok (.getfield 134, 3) := by decide +kernel
theorem dX6_laysRows_91 : decode cX6_laysRows 91 = .ok (.if_icmp .ge 148, 3) := by decide +kernel
theorem dX6_laysRows_94 : decode cX6_laysRows 94 = .ok (.aload_n 0, 1) := by decide +kernel
theorem dX6_laysRows_95 : decode cX6_laysRows 95 = .ok (.getfield 31, 3) := by decide +kernel
theorem dX6_laysRows_98 : decode cX6_laysRows 98 = .ok (.iload_n 3, 1) := by decide +kernel
theorem dX6_laysRows_99 : decode cX6_laysRows 99 = .ok (.baload, 1) := by decide +kernel
theorem dX6_laysRows_100 : decode cX6_laysRows 100 = .ok (.ifCond .eq 133, 3) := by decide +kernel
theorem dX6_laysRows_103 : decode cX6_laysRows 103 = .ok (.bipush 21, 2) := by decide +kernel
theorem dX6_laysRows_105 : decode cX6_laysRows 105 = .ok (.aload_n 0, 1) := by decide +kernel
theorem dX6_laysRows_106 : decode cX6_laysRows 106 = .ok (.getfield 35, 3) := by decide +kernel
theorem dX6_laysRows_109 : decode cX6_laysRows 109 = .ok (.aload_n 0, 1) := by decide +kernel
theorem dX6_laysRows_110 : decode cX6_laysRows 110 = .ok (.getfield 25, 3) := by decide +kernel
theorem dX6_laysRows_113 : decode cX6_laysRows 113 = .ok (.iload_n 3, 1) := by decide +kernel
theorem dX6_laysRows_114 : decode cX6_laysRows 114 = .ok (.iaload, 1) := by decide +kernel
theorem dX6_laysRows_115 : decode cX6_laysRows 115 = .ok (.iaload, 1) := by decide +kernel
theorem dX6_laysRows_116 : decode cX6_laysRows 116 = .ok (.imul, 1) := by decide +kernel
theorem dX6_laysRows_117 : decode cX6_laysRows 117 = .ok (.istore 4, 2) := by decide +kernel
theorem dX6_laysRows_119 : decode cX6_laysRows 119 = .ok (.aload_n 0, 1) := by decide +kernel
theorem dX6_laysRows_120 : decode cX6_laysRows 120 = .ok (.getfield 38, 3) := by decide +kernel
theorem dX6_laysRows_123 : decode cX6_laysRows 123 = .ok (.iload 4, 2) := by decide +kernel
theorem dX6_laysRows_125 : decode cX6_laysRows 125 = .ok (.aload_n 0, 1) := by decide +kernel
theorem dX6_laysRows_126 : decode cX6_laysRows 126 = .ok (.getfield 35, 3) := by decide +kernel
theorem dX6_laysRows_129 : decode cX6_laysRows 129 = .ok (.aload_n 0, 1) := by decide +kernel
theorem dX6_laysRows_130 : decode cX6_laysRows 130 = .ok (.getfield 25, 3) := by decide +kernel
theorem dX6_laysRows_133 : decode cX6_laysRows 133 = .ok (.iload_n 3, 1) := by decide +kernel
theorem dX6_laysRows_134 : decode cX6_laysRows 134 = .ok (.iaload, 1) := by decide +kernel
theorem dX6_laysRows_135 : decode cX6_laysRows 135 = .ok (.iaload, 1) := by decide +kernel
theorem dX6_laysRows_136 : decode cX6_laysRows 136 = .ok (.iadd, 1) := by decide +kernel
theorem dX6_laysRows_137 : decode cX6_laysRows 137 = .ok (.dup2, 1) := by decide +kernel
theorem dX6_laysRows_138 : decode cX6_laysRows 138 = .ok (.laload, 1) := by decide +kernel
theorem dX6_laysRows_139 : decode cX6_laysRows 139 = .ok (.ldc2_w 144, 3) := by decide +kernel
theorem dX6_laysRows_142 : decode cX6_laysRows 142 = .ok (.ladd, 1) := by decide +kernel
theorem dX6_laysRows_143 : decode cX6_laysRows 143 = .ok (.lastore, 1) := by decide +kernel
theorem dX6_laysRows_144 : decode cX6_laysRows 144 = .ok (.iconst 0, 1) := by decide +kernel
theorem dX6_laysRows_145 : decode cX6_laysRows 145 = .ok (.istore 5, 2) := by decide +kernel
theorem dX6_laysRows_147 : decode cX6_laysRows 147 = .ok (.iload 5, 2) := by decide +kernel
theorem dX6_laysRows_149 : decode cX6_laysRows 149 = .ok (.iconst 2, 1) := by decide +kernel
theorem dX6_laysRows_150 : decode cX6_laysRows 150 = .ok (.if_icmp .ge 83, 3) := by decide +kernel
theorem dX6_laysRows_153 : decode cX6_laysRows 153 = .ok (.aload_n 0, 1) := by decide +kernel
theorem dX6_laysRows_154 : decode cX6_laysRows 154 = .ok (.getfield 28, 3) := by decide +kernel
theorem dX6_laysRows_157 : decode cX6_laysRows 157 = .ok (.iconst 2, 1) := by decide +kernel
theorem dX6_laysRows_158 : decode cX6_laysRows 158 = .ok (.iload_n 3, 1) := by decide +kernel
theorem dX6_laysRows_159 : decode cX6_laysRows 159 = .ok (.imul, 1) := by decide +kernel
theorem dX6_laysRows_160 : decode cX6_laysRows 160 = .ok (.iload 5, 2) := by decide +kernel
theorem dX6_laysRows_162 : decode cX6_laysRows 162 = .ok (.iadd, 1) := by decide +kernel
theorem dX6_laysRows_163 : decode cX6_laysRows 163 = .ok (.iaload, 1) := by decide +kernel
theorem dX6_laysRows_164 : decode cX6_laysRows 164 = .ok (.istore 6, 2) := by decide +kernel
theorem dX6_laysRows_166 : decode cX6_laysRows 166 = .ok (.iload 6, 2) := by decide +kernel
theorem dX6_laysRows_168 : decode cX6_laysRows 168 = .ok (.iload_n 1, 1) := by decide +kernel
theorem dX6_laysRows_169 : decode cX6_laysRows 169 = .ok (.invokestatic 140, 3) := by decide +kernel
theorem dX6_laysRows_172 : decode cX6_laysRows 172 = .ok (.ifCond .eq 19, 3) := by decide +kernel
theorem dX6_laysRows_175 : decode cX6_laysRows 175 = .ok (.aload_n 0, 1) := by decide +kernel
theorem dX6_laysRows_176 : decode cX6_laysRows 176 = .ok (.getfield 38, 3) := by decide +kernel
theorem dX6_laysRows_179 : decode cX6_laysRows 179 = .ok (.iload 4, 2) := by decide +kernel
theorem dX6_laysRows_181 : decode cX6_laysRows 181 = .ok (.iload_n 2, 1) := by decide +kernel
theorem dX6_laysRows_182 : decode cX6_laysRows 182 = .ok (.iadd, 1) := by decide +kernel
theorem dX6_laysRows_183 : decode cX6_laysRows 183 = .ok (.dup2, 1) := by decide +kernel
theorem dX6_laysRows_184 : decode cX6_laysRows 184 = .ok (.laload, 1) := by decide +kernel
theorem dX6_laysRows_185 : decode cX6_laysRows 185 = .ok (.lconst 1, 1) := by decide +kernel
theorem dX6_laysRows_186 : decode cX6_laysRows 186 = .ok (.ladd, 1) := by decide +kernel
theorem dX6_laysRows_187 : decode cX6_laysRows 187 = .ok (.lastore, 1) := by decide +kernel
theorem dX6_laysRows_188 : decode cX6_laysRows 188 = .ok (.goto 39, 3) := by decide +kernel
theorem dX6_laysRows_191 : decode cX6_laysRows 191 = .ok (.iload 6, 2) := by decide +kernel
theorem dX6_laysRows_193 : decode cX6_laysRows 193 = .ok (.ifCond .lt 34, 3) := by decide +kernel
theorem dX6_laysRows_196 : decode cX6_laysRows 196 = .ok (.aload_n 0, 1) := by decide +kernel
theorem dX6_laysRows_197 : decode cX6_laysRows 197 = .ok (.getfield 35, 3) := by decide +kernel
theorem dX6_laysRows_200 : decode cX6_laysRows 200 = .ok (.iload 6, 2) := by decide +kernel
theorem dX6_laysRows_202 : decode cX6_laysRows 202 = .ok (.iaload, 1) := by decide +kernel
theorem dX6_laysRows_203 : decode cX6_laysRows 203 = .ok (.bipush (-4), 2) := by decide +kernel
theorem dX6_laysRows_205 : decode cX6_laysRows 205 = .ok (.if_icmp .eq 22, 3) := by decide +kernel
theorem dX6_laysRows_208 : decode cX6_laysRows 208 = .ok (.aload_n 0, 1) := by decide +kernel
theorem dX6_laysRows_209 : decode cX6_laysRows 209 = .ok (.getfield 38, 3) := by decide +kernel
theorem dX6_laysRows_212 : decode cX6_laysRows 212 = .ok (.iload 4, 2) := by decide +kernel
theorem dX6_laysRows_214 : decode cX6_laysRows 214 = .ok (.aload_n 0, 1) := by decide +kernel
theorem dX6_laysRows_215 : decode cX6_laysRows 215 = .ok (.getfield 35, 3) := by decide +kernel
theorem dX6_laysRows_218 : decode cX6_laysRows 218 = .ok (.iload 6, 2) := by decide +kernel
theorem dX6_laysRows_220 : decode cX6_laysRows 220 = .ok (.iaload, 1) := by decide +kernel
theorem dX6_laysRows_221 : decode cX6_laysRows 221 = .ok (.iadd, 1) := by decide +kernel
theorem dX6_laysRows_222 : decode cX6_laysRows 222 = .ok (.dup2, 1) := by decide +kernel
theorem dX6_laysRows_223 : decode cX6_laysRows 223 = .ok (.laload, 1) := by decide +kernel
theorem dX6_laysRows_224 : decode cX6_laysRows 224 = .ok (.lconst 1, 1) := by decide +kernel
theorem dX6_laysRows_225 : decode cX6_laysRows 225 = .ok (.lsub, 1) := by decide +kernel
theorem dX6_laysRows_226 : decode cX6_laysRows 226 = .ok (.lastore, 1) := by decide +kernel
theorem dX6_laysRows_227 : decode cX6_laysRows 227 = .ok (.iinc 5 1, 3) := by decide +kernel
theorem dX6_laysRows_230 : decode cX6_laysRows 230 = .ok (.goto (-83), 3) := by decide +kernel
theorem dX6_laysRows_233 : decode cX6_laysRows 233 = .ok (.iinc 3 1, 3) := by decide +kernel
theorem dX6_laysRows_236 : decode cX6_laysRows 236 = .ok (.goto (-150), 3) := by decide +kernel
theorem dX6_laysRows_239 : decode cX6_laysRows 239 = .ok (.iload_n 2, 1) := by decide +kernel
theorem dX6_laysRows_240 : decode cX6_laysRows 240 = .ok (.ireturn, 1) := by decide +kernel
theorem dX6_solves_0 : decode cX6_solves 0 = .ok (.lconst 1, 1) := by decide +kernel
theorem dX6_solves_1 : decode cX6_solves 1 = .ok (.lstore_n 2, 1) := by decide +kernel
theorem dX6_solves_2 : decode cX6_solves 2 = .ok (.iconst 0, 1) := by decide +kernel
theorem dX6_solves_3 : decode cX6_solves 3 = .ok (.istore 4, 2) := by decide +kernel
theorem dX6_solves_5 : decode cX6_solves 5 = .ok (.iload 4, 2) := by decide +kernel
theorem dX6_solves_7 : decode cX6_solves 7 = .ok (.iload_n 1, 1) := by decide +kernel
theorem dX6_solves_8 : decode cX6_solves 8 = .ok (.iconst 1, 1) := by decide +kernel
theorem dX6_solves_9 : decode cX6_solves 9 = .ok (.isub, 1) := by decide +kernel
theorem dX6_solves_10 : decode cX6_solves 10 = .ok (.if_icmp .ge 124, 3) := by decide +kernel
theorem dX6_solves_13 : decode cX6_solves 13 = .ok (.aload_n 0, 1) := by decide +kernel
theorem dX6_solves_14 : decode cX6_solves 14 = .ok (.getfield 38, 3) := by decide +kernel
theorem dX6_solves_17 : decode cX6_solves 17 = .ok (.bipush 21, 2) := by decide +kernel
theorem dX6_solves_19 : decode cX6_solves 19 = .ok (.iload 4, 2) := by decide +kernel
theorem dX6_solves_21 : decode cX6_solves 21 = .ok (.imul, 1) := by decide +kernel
theorem dX6_solves_22 : decode cX6_solves 22 = .ok (.iload 4, 2) := by decide +kernel
theorem dX6_solves_24 : decode cX6_solves 24 = .ok (.iadd, 1) := by decide +kernel
theorem dX6_solves_25 : decode cX6_solves 25 = .ok (.laload, 1) := by decide +kernel
theorem dX6_solves_26 : decode cX6_solves 26 = .ok (.lstore 5, 2) := by decide +kernel
theorem dX6_solves_28 : decode cX6_solves 28 = .ok (.iload 4, 2) := by decide +kernel
theorem dX6_solves_30 : decode cX6_solves 30 = .ok (.iconst 1, 1) := by decide +kernel
theorem dX6_solves_31 : decode cX6_solves 31 = .ok (.iadd, 1) := by decide +kernel
theorem dX6_solves_32 : decode cX6_solves 32 = .ok (.istore 7, 2) := by decide +kernel
theorem dX6_solves_34 : decode cX6_solves 34 = .ok (.iload 7, 2) := by decide +kernel
theorem dX6_solves_36 : decode cX6_solves 36 = .ok (.iload_n 1, 1) := by decide +kernel
theorem dX6_solves_37 : decode cX6_solves 37 = .ok (.if_icmp .ge 88, 3) := by decide +kernel
theorem dX6_solves_40 : decode cX6_solves 40 = .ok (.aload_n 0, 1) := by decide +kernel
theorem dX6_solves_41 : decode cX6_solves 41 = .ok (.getfield 38, 3) := by decide +kernel
theorem dX6_solves_44 : decode cX6_solves 44 = .ok (.bipush 21, 2) := by decide +kernel
theorem dX6_solves_46 : decode cX6_solves 46 = .ok (.iload 7, 2) := by decide +kernel
theorem dX6_solves_48 : decode cX6_solves 48 = .ok (.imul, 1) := by decide +kernel
theorem dX6_solves_49 : decode cX6_solves 49 = .ok (.iload 4, 2) := by decide +kernel
theorem dX6_solves_51 : decode cX6_solves 51 = .ok (.iadd, 1) := by decide +kernel
theorem dX6_solves_52 : decode cX6_solves 52 = .ok (.laload, 1) := by decide +kernel
theorem dX6_solves_53 : decode cX6_solves 53 = .ok (.lstore 8, 2) := by decide +kernel
theorem dX6_solves_55 : decode cX6_solves 55 = .ok (.iload 4, 2) := by decide +kernel
theorem dX6_solves_57 : decode cX6_solves 57 = .ok (.istore 10, 2) := by decide +kernel
theorem dX6_solves_59 : decode cX6_solves 59 = .ok (.iload 10, 2) := by decide +kernel
theorem dX6_solves_61 : decode cX6_solves 61 = .ok (.iload_n 1, 1) := by decide +kernel
theorem dX6_solves_62 : decode cX6_solves 62 = .ok (.if_icmp .gt 57, 3) := by decide +kernel
theorem dX6_solves_65 : decode cX6_solves 65 = .ok (.aload_n 0, 1) := by decide +kernel
theorem dX6_solves_66 : decode cX6_solves 66 = .ok (.getfield 38, 3) := by decide +kernel
theorem dX6_solves_69 : decode cX6_solves 69 = .ok (.bipush 21, 2) := by decide +kernel
theorem dX6_solves_71 : decode cX6_solves 71 = .ok (.iload 7, 2) := by decide +kernel
theorem dX6_solves_73 : decode cX6_solves 73 = .ok (.imul, 1) := by decide +kernel
theorem dX6_solves_74 : decode cX6_solves 74 = .ok (.iload 10, 2) := by decide +kernel
theorem dX6_solves_76 : decode cX6_solves 76 = .ok (.iadd, 1) := by decide +kernel
theorem dX6_solves_77 : decode cX6_solves 77 = .ok (.aload_n 0, 1) := by decide +kernel
theorem dX6_solves_78 : decode cX6_solves 78 = .ok (.getfield 38, 3) := by decide +kernel
theorem dX6_solves_81 : decode cX6_solves 81 = .ok (.bipush 21, 2) := by decide +kernel
theorem dX6_solves_83 : decode cX6_solves 83 = .ok (.iload 7, 2) := by decide +kernel
theorem dX6_solves_85 : decode cX6_solves 85 = .ok (.imul, 1) := by decide +kernel
theorem dX6_solves_86 : decode cX6_solves 86 = .ok (.iload 10, 2) := by decide +kernel
theorem dX6_solves_88 : decode cX6_solves 88 = .ok (.iadd, 1) := by decide +kernel
theorem dX6_solves_89 : decode cX6_solves 89 = .ok (.laload, 1) := by decide +kernel
theorem dX6_solves_90 : decode cX6_solves 90 = .ok (.lload 5, 2) := by decide +kernel
theorem dX6_solves_92 : decode cX6_solves 92 = .ok (.lmul, 1) := by decide +kernel
theorem dX6_solves_93 : decode cX6_solves 93 = .ok (.lload 8, 2) := by decide +kernel
theorem dX6_solves_95 : decode cX6_solves 95 = .ok (.aload_n 0, 1) := by decide +kernel
theorem dX6_solves_96 : decode cX6_solves 96 = .ok (.getfield 38, 3) := by decide +kernel
theorem dX6_solves_99 : decode cX6_solves 99 = .ok (.bipush 21, 2) := by decide +kernel
theorem dX6_solves_101 : decode cX6_solves 101 = .ok (.iload 4, 2) := by decide +kernel
theorem dX6_solves_103 : decode cX6_solves 103 = .ok (.imul, 1) := by decide +kernel
theorem dX6_solves_104 : decode cX6_solves 104 = .ok (.iload 10, 2) := by decide +kernel
theorem dX6_solves_106 : decode cX6_solves 106 = .ok (.iadd, 1) := by decide +kernel
theorem dX6_solves_107 : decode cX6_solves 107 = .ok (.laload, 1) := by decide +kernel
theorem dX6_solves_108 : decode cX6_solves 108 = .ok (.lmul, 1) := by decide +kernel
theorem dX6_solves_109 : decode cX6_solves 109 = .ok (.lsub, 1) := by decide +kernel
theorem dX6_solves_110 : decode cX6_solves 110 = .ok (.lload_n 2, 1) := by decide +kernel
theorem dX6_solves_111 : decode cX6_solves 111 = .ok (.ldiv, 1) := by decide +kernel
theorem dX6_solves_112 : decode cX6_solves 112 = .ok (.lastore, 1) := by decide +kernel
theorem dX6_solves_113 : decode cX6_solves 113 = .ok (.iinc 10 1, 3) := by decide +kernel
theorem dX6_solves_116 : decode cX6_solves 116 = .ok (.goto (-57), 3) := by decide +kernel
theorem dX6_solves_119 : decode cX6_solves 119 = .ok (.iinc 7 1, 3) := by decide +kernel
theorem dX6_solves_122 : decode cX6_solves 122 = .ok (.goto (-88), 3) := by decide +kernel
theorem dX6_solves_125 : decode cX6_solves 125 = .ok (.lload 5, 2) := by decide +kernel
theorem dX6_solves_127 : decode cX6_solves 127 = .ok (.lstore_n 2, 1) := by decide +kernel
theorem dX6_solves_128 : decode cX6_solves 128 = .ok (.iinc 4 1, 3) := by decide +kernel
theorem dX6_solves_131 : decode cX6_solves 131 = .ok (.goto (-126), 3) := by decide +kernel
theorem dX6_solves_134 : decode cX6_solves 134 = .ok (.aload_n 0, 1) := by decide +kernel
theorem dX6_solves_135 : decode cX6_solves 135 = .ok (.aload_n 0, 1) := by decide +kernel
theorem dX6_solves_136 : decode cX6_solves 136 = .ok (.getfield 38, 3) := by decide +kernel
theorem dX6_solves_139 : decode cX6_solves 139 = .ok (.bipush 21, 2) := by decide +kernel
theorem dX6_solves_141 : decode cX6_solves 141 = .ok (.iload_n 1, 1) := by decide +kernel
theorem dX6_solves_142 : decode cX6_solves 142 = .ok (.iconst 1, 1) := by decide +kernel
theorem dX6_solves_143 : decode cX6_solves 143 = .ok (.isub, 1) := by decide +kernel
theorem dX6_solves_144 : decode cX6_solves 144 = .ok (.imul, 1) := by decide +kernel
theorem dX6_solves_145 : decode cX6_solves 145 = .ok (.iload_n 1, 1) := by decide +kernel
theorem dX6_solves_146 : decode cX6_solves 146 = .ok (.iadd, 1) := by decide +kernel
theorem dX6_solves_147 : decode cX6_solves 147 = .ok (.laload, 1) := by decide +kernel
theorem dX6_solves_148 : decode cX6_solves 148 = .ok (.putfield 146, 3) := by decide +kernel
theorem dX6_solves_151 : decode cX6_solves 151 = .ok (.aload_n 0, 1) := by decide +kernel
theorem dX6_solves_152 : decode cX6_solves 152 = .ok (.aload_n 0, 1) := by decide +kernel
theorem dX6_solves_153 : decode cX6_solves 153 = .ok (.getfield 38, 3) := by decide +kernel
theorem dX6_solves_156 : decode cX6_solves 156 = .ok (.bipush 21, 2) := by decide +kernel
theorem dX6_solves_158 : decode cX6_solves 158 = .ok (.iload_n 1, 1) := by decide +kernel
theorem dX6_solves_159 : decode cX6_solves 159 = .ok (.iconst 1, 1) := by decide +kernel
theorem dX6_solves_160 : decode cX6_solves 160 = .ok (.isub, 1) := by decide +kernel
theorem dX6_solves_161 : decode cX6_solves 161 = .ok (.imul, 1) := by decide +kernel
theorem dX6_solves_162 : decode cX6_solves 162 = .ok (.iload_n 1, 1) := by decide +kernel
theorem dX6_solves_163 : decode cX6_solves 163 = .ok (.iadd, 1) := by decide +kernel
theorem dX6_solves_164 : decode cX6_solves 164 = .ok (.iconst 1, 1) := by decide +kernel
theorem dX6_solves_165 : decode cX6_solves 165 = .ok (.isub, 1) := by decide +kernel
theorem dX6_solves_166 : decode cX6_solves 166 = .ok (.laload, 1) := by decide +kernel
theorem dX6_solves_167 : decode cX6_solves 167 = .ok (.putfield 150, 3) := by decide +kernel
theorem dX6_solves_170 : decode cX6_solves 170 = .ok (.return_, 1) := by decide +kernel
theorem dX6_lowers_0 : decode cX6_lowers 0 = .ok (.aload_n 0, 1) := by decide +kernel
theorem dX6_lowers_1 : decode cX6_lowers 1 = .ok (.getfield 146, 3) := by decide +kernel
theorem dX6_lowers_4 : decode cX6_lowers 4 = .ok (.lstore_n 1, 1) := by decide +kernel
theorem dX6_lowers_5 : decode cX6_lowers 5 = .ok (.aload_n 0, 1) := by decide +kernel
theorem dX6_lowers_6 : decode cX6_lowers 6 = .ok (.getfield 150, 3) := by decide +kernel
theorem dX6_lowers_9 : decode cX6_lowers 9 = .ok (.lstore_n 3, 1) := by decide +kernel
theorem dX6_lowers_10 : decode cX6_lowers 10 = .ok (.lload_n 3, 1) := by decide +kernel
theorem dX6_lowers_11 : decode cX6_lowers 11 = .ok (.lconst 0, 1) := by decide +kernel
theorem dX6_lowers_12 : decode cX6_lowers 12 = .ok (.lcmp, 1) := by decide +kernel
theorem dX6_lowers_13 : decode cX6_lowers 13 = .ok (.ifCond .eq 16, 3) := by decide +kernel
theorem dX6_lowers_16 : decode cX6_lowers 16 = .ok (.lload_n 1, 1) := by decide +kernel
theorem dX6_lowers_17 : decode cX6_lowers 17 = .ok (.lload_n 3, 1) := by decide +kernel
theorem dX6_lowers_18 : decode cX6_lowers 18 = .ok (.lrem, 1) := by decide +kernel
theorem dX6_lowers_19 : decode cX6_lowers 19 = .ok (.lstore 5, 2) := by decide +kernel
theorem dX6_lowers_21 : decode cX6_lowers 21 = .ok (.lload_n 3, 1) := by decide +kernel
theorem dX6_lowers_22 : decode cX6_lowers 22 = .ok (.lstore_n 1, 1) := by decide +kernel
theorem dX6_lowers_23 : decode cX6_lowers 23 = .ok (.lload 5, 2) := by decide +kernel
theorem dX6_lowers_25 : decode cX6_lowers 25 = .ok (.lstore_n 3, 1) := by decide +kernel
theorem dX6_lowers_26 : decode cX6_lowers 26 = .ok (.goto (-16), 3) := by decide +kernel
theorem dX6_lowers_29 : decode cX6_lowers 29 = .ok (.aload_n 0, 1) := by decide +kernel
theorem dX6_lowers_30 : decode cX6_lowers 30 = .ok (.dup, 1) := by decide +kernel
theorem dX6_lowers_31 : decode cX6_lowers 31 = .ok (.getfield 146, 3) := by decide +kernel
theorem dX6_lowers_34 : decode cX6_lowers 34 = .ok (.lload_n 1, 1) := by decide +kernel
theorem dX6_lowers_35 : decode cX6_lowers 35 = .ok (.ldiv, 1) := by decide +kernel
theorem dX6_lowers_36 : decode cX6_lowers 36 = .ok (.putfield 146, 3) := by decide +kernel
theorem dX6_lowers_39 : decode cX6_lowers 39 = .ok (.aload_n 0, 1) := by decide +kernel
theorem dX6_lowers_40 : decode cX6_lowers 40 = .ok (.dup, 1) := by decide +kernel
theorem dX6_lowers_41 : decode cX6_lowers 41 = .ok (.getfield 150, 3) := by decide +kernel
theorem dX6_lowers_44 : decode cX6_lowers 44 = .ok (.lload_n 1, 1) := by decide +kernel
theorem dX6_lowers_45 : decode cX6_lowers 45 = .ok (.ldiv, 1) := by decide +kernel
theorem dX6_lowers_46 : decode cX6_lowers 46 = .ok (.putfield 150, 3) := by decide +kernel
theorem dX6_lowers_49 : decode cX6_lowers 49 = .ok (.return_, 1) := by decide +kernel
set_option maxRecDepth 20000 in
theorem ggX6_shares_X6_portState : GoodIn wsX6_shares wsX6_portState := goodIn_r _ [7] (by decide +kernel) (by decide +kernel)
set_option maxRecDepth 20000 in
theorem gX6_shares_X6_portState : GoodIn wsX6_shares (va_wsS RX6 117 yX6_portState wsX6_portState) := goodIn_app (goodIn_of _ (by decide +kernel)) ggX6_shares_X6_portState
set_option maxRecDepth 20000 in
theorem ggX6_shares_X6_follows : GoodIn wsX6_shares wsX6_follows := goodIn_r _ [10, 11, 12, 6, 13, 14, 15, 16, 17, 18, 19, 20, 21, 22, 23, 24, 25, 26, 27, 28] (by decide +kernel) (by decide +kernel)
set_option maxRecDepth 20000 in
theorem gX6_shares_X6_follows : GoodIn wsX6_shares (va_wsS RX6 137 yX6_follows wsX6_follows) := goodIn_app (goodIn_of _ (by decide +kernel)) ggX6_shares_X6_follows
set_option maxRecDepth 20000 in
theorem ggX6_shares_X6_isAsked : GoodIn wsX6_shares wsX6_isAsked := goodIn_r _ [31] (by decide +kernel) (by decide +kernel)
set_option maxRecDepth 20000 in
theorem gX6_shares_X6_isAsked : GoodIn wsX6_shares (va_wsS RX6 140 yX6_isAsked wsX6_isAsked) := goodIn_app (goodIn_of _ (by decide +kernel)) ggX6_shares_X6_isAsked
set_option maxRecDepth 20000 in
theorem ggX6_shares_X6_gathers : GoodIn wsX6_shares wsX6_gathers := goodIn_r _ [35, 36, 37, 38, 20, 21, 6, 22, 17, 18, 19, 14, 15, 16, 23, 24, 25, 26, 27, 28, 8, 9, 10, 11, 12, 13, 58, 59, 60, 61, 62, 63, 64, 65, 66, 67, 68, 69, 70, 71, 72, 73, 74, 75, 76] (by decide +kernel) (by decide +kernel)
set_option maxRecDepth 20000 in
theorem gX6_shares_X6_gathers : GoodIn wsX6_shares (wsV RX6 153 RX6 yX6_gathers wsX6_gathers) := goodIn_app (goodIn_of _ (by decide +kernel)) ggX6_shares_X6_gathers
set_option maxRecDepth 20000 in
theorem ggX6_shares_X6_findsMay : GoodIn wsX6_shares wsX6_findsMay := goodIn_r _ [42, 43, 36, 3, 37, 38, 29, 30, 6, 31, 58, 59, 60, 61, 62, 63, 64, 65, 66, 67, 68, 69, 70, 71, 72, 73, 74, 75, 76] (by decide +kernel) (by decide +kernel)
set_option maxRecDepth 20000 in
theorem gX6_shares_X6_findsMay : GoodIn wsX6_shares (wsV RX6 157 RX6 yX6_findsMay wsX6_findsMay) := goodIn_app (goodIn_of _ (by decide +kernel)) ggX6_shares_X6_findsMay
set_option maxRecDepth 20000 in
theorem ggX6_shares_X6_laysRows : GoodIn wsX6_shares wsX6_laysRows := goodIn_r _ [47, 36, 43, 37, 3, 48, 49, 38, 29, 30, 6, 31, 58, 59, 60, 61, 62, 63, 64, 65, 66, 67, 68, 69, 70, 71, 72, 73, 74, 75, 76] (by decide +kernel) (by decide +kernel)
set_option maxRecDepth 20000 in
theorem gX6_shares_X6_laysRows : GoodIn wsX6_shares (wsV RX6 161 RX6 yX6_laysRows wsX6_laysRows) := goodIn_app (goodIn_of _ (by decide +kernel)) ggX6_shares_X6_laysRows
set_option maxRecDepth 20000 in
theorem ggX6_shares_X6_solves : GoodIn wsX6_shares wsX6_solves := goodIn_r _ [53, 48, 1, 2, 58, 59, 60, 61, 62, 63, 64, 65, 66, 67, 68, 69, 70, 71, 72, 73, 74, 75, 76] (by decide +kernel) (by decide +kernel)
set_option maxRecDepth 20000 in
theorem gX6_shares_X6_solves : GoodIn wsX6_shares (wsV RX6 164 RX6 yX6_solves wsX6_solves) := goodIn_app (goodIn_of _ (by decide +kernel)) ggX6_shares_X6_solves
set_option maxRecDepth 20000 in
theorem ggX6_shares_X6_lowers : GoodIn wsX6_shares wsX6_lowers := goodIn_r _ [57, 1, 2, 58, 59, 60, 61, 62, 63, 64, 65, 66, 67, 68, 69, 70, 71, 72, 73, 74, 75, 76] (by decide +kernel) (by decide +kernel)
set_option maxRecDepth 20000 in
theorem gX6_shares_X6_lowers : GoodIn wsX6_shares (wsV RX6 167 RX6 yX6_lowers wsX6_lowers) := goodIn_app (goodIn_of _ (by decide +kernel)) ggX6_shares_X6_lowers
theorem dX6_shares_0 : decode cX6_shares 0 = .ok (.aload_n 1, 1) := by decide +kernel
theorem dX6_shares_1 : decode cX6_shares 1 = .ok (.aload_n 1, 1) := by decide +kernel
theorem dX6_shares_2 : decode cX6_shares 2 = .ok (.iload_n 2, 1) := by decide +kernel
theorem dX6_shares_3 : decode cX6_shares 3 = .ok (.invokestatic 117, 3) := by decide +kernel
theorem dX6_shares_6 : decode cX6_shares 6 = .ok (.invokestatic 137, 3) := by decide +kernel
theorem dX6_shares_9 : decode cX6_shares 9 = .ok (.istore 4, 2) := by decide +kernel
theorem dX6_shares_11 : decode cX6_shares 11 = .ok (.aload_n 0, 1) := by decide +kernel
theorem dX6_shares_12 : decode cX6_shares 12 = .ok (.iload 4, 2) := by decide +kernel
theorem dX6_shares_14 : decode cX6_shares 14 = .ok (.iload_n 3, 1) := by decide +kernel
theorem dX6_shares_15 : decode cX6_shares 15 = .ok (.invokestatic 140, 3) := by decide +kernel
theorem dX6_shares_18 : decode cX6_shares 18 = .ok (.ifCond .eq 7, 3) := by decide +kernel
theorem dX6_shares_21 : decode cX6_shares 21 = .ok (.lconst 1, 1) := by decide +kernel
theorem dX6_shares_22 : decode cX6_shares 22 = .ok (.goto 4, 3) := by decide +kernel
theorem dX6_shares_25 : decode cX6_shares 25 = .ok (.lconst 0, 1) := by decide +kernel
theorem dX6_shares_26 : decode cX6_shares 26 = .ok (.putfield 146, 3) := by decide +kernel
theorem dX6_shares_29 : decode cX6_shares 29 = .ok (.aload_n 0, 1) := by decide +kernel
theorem dX6_shares_30 : decode cX6_shares 30 = .ok (.lconst 1, 1) := by decide +kernel
theorem dX6_shares_31 : decode cX6_shares 31 = .ok (.putfield 150, 3) := by decide +kernel
theorem dX6_shares_34 : decode cX6_shares 34 = .ok (.iload 4, 2) := by decide +kernel
theorem dX6_shares_36 : decode cX6_shares 36 = .ok (.ifCond .ge 4, 3) := by decide +kernel
theorem dX6_shares_39 : decode cX6_shares 39 = .ok (.return_, 1) := by decide +kernel
theorem dX6_shares_40 : decode cX6_shares 40 = .ok (.aload_n 0, 1) := by decide +kernel
theorem dX6_shares_41 : decode cX6_shares 41 = .ok (.aload_n 1, 1) := by decide +kernel
theorem dX6_shares_42 : decode cX6_shares 42 = .ok (.iload 4, 2) := by decide +kernel
theorem dX6_shares_44 : decode cX6_shares 44 = .ok (.invokevirtual 153, 3) := by decide +kernel
theorem dX6_shares_47 : decode cX6_shares 47 = .ok (.aload_n 0, 1) := by decide +kernel
theorem dX6_shares_48 : decode cX6_shares 48 = .ok (.iload_n 3, 1) := by decide +kernel
theorem dX6_shares_49 : decode cX6_shares 49 = .ok (.invokevirtual 157, 3) := by decide +kernel
theorem dX6_shares_52 : decode cX6_shares 52 = .ok (.aload_n 0, 1) := by decide +kernel
theorem dX6_shares_53 : decode cX6_shares 53 = .ok (.getfield 31, 3) := by decide +kernel
theorem dX6_shares_56 : decode cX6_shares 56 = .ok (.iconst 0, 1) := by decide +kernel
theorem dX6_shares_57 : decode cX6_shares 57 = .ok (.baload, 1) := by decide +kernel
theorem dX6_shares_58 : decode cX6_shares 58 = .ok (.ifCond .eq 16, 3) := by decide +kernel
theorem dX6_shares_61 : decode cX6_shares 61 = .ok (.aload_n 0, 1) := by decide +kernel
theorem dX6_shares_62 : decode cX6_shares 62 = .ok (.aload_n 0, 1) := by decide +kernel
theorem dX6_shares_63 : decode cX6_shares 63 = .ok (.iload_n 3, 1) := by decide +kernel
theorem dX6_shares_64 : decode cX6_shares 64 = .ok (.invokevirtual 161, 3) := by decide +kernel
theorem dX6_shares_67 : decode cX6_shares 67 = .ok (.invokevirtual 164, 3) := by decide +kernel
theorem dX6_shares_70 : decode cX6_shares 70 = .ok (.aload_n 0, 1) := by decide +kernel
theorem dX6_shares_71 : decode cX6_shares 71 = .ok (.invokevirtual 167, 3) := by decide +kernel
theorem dX6_shares_74 : decode cX6_shares 74 = .ok (.return_, 1) := by decide +kernel
set_option maxRecDepth 20000 in
theorem ggX6_share_X6_isPort : GoodIn wsX6_share wsX6_isPort := goodIn_r _ [8, 1, 9, 10, 7, 11, 12, 13, 14, 70, 71, 72, 73, 74, 75, 76, 77, 78, 79, 80, 81, 82, 83, 84, 85, 86, 87, 88] (by decide +kernel) (by decide +kernel)
set_option maxRecDepth 20000 in
theorem gX6_share_X6_isPort : GoodIn wsX6_share (wsV RX6 114 RX6 yX6_isPort wsX6_isPort) := goodIn_app (goodIn_of _ (by decide +kernel)) ggX6_share_X6_isPort
set_option maxRecDepth 20000 in
theorem ggX6_share_X6_in : GoodIn wsX6_share wsX6_in := goodIn_r _ [14] (by decide +kernel) (by decide +kernel)
set_option maxRecDepth 20000 in
theorem gX6_share_X6_in : GoodIn wsX6_share (va_wsS RX6 48 yX6_in wsX6_in) := goodIn_app (goodIn_of _ (by decide +kernel)) ggX6_share_X6_in
set_option maxRecDepth 20000 in
theorem ggX6_share_X6_shares : GoodIn wsX6_share wsX6_shares := goodIn_r _ [18, 2, 3, 19, 20, 21, 7, 22, 23, 24, 25, 26, 27, 28, 29, 30, 31, 12, 13, 14, 32, 33, 34, 35, 36, 37, 38, 39, 40, 41, 42, 43, 44, 45, 46, 47, 48, 49, 50, 51, 52, 53, 54, 55, 56, 57, 58, 59, 60, 61, 62, 63, 64, 65, 66, 67, 68, 69, 70, 71, 72, 73, 74, 75, 76, 77, 78, 79, 80, 81, 82, 83, 84, 85, 86, 87, 88] (by decide +kernel) (by decide +kernel)
set_option maxRecDepth 20000 in
theorem gX6_share_X6_shares : GoodIn wsX6_share (wsV RX6 170 RX6 yX6_shares wsX6_shares) := goodIn_app (goodIn_of _ (by decide +kernel)) ggX6_share_X6_shares
theorem dX6_share_0 : decode cX6_share 0 = .ok (.aload_n 0, 1) := by decide +kernel
theorem dX6_share_1 : decode cX6_share 1 = .ok (.iload_n 1, 1) := by decide +kernel
theorem dX6_share_2 : decode cX6_share 2 = .ok (.invokevirtual 114, 3) := by decide +kernel
theorem dX6_share_5 : decode cX6_share 5 = .ok (.ifCond .eq 20, 3) := by decide +kernel
theorem dX6_share_8 : decode cX6_share 8 = .ok (.aload_n 0, 1) := by decide +kernel
theorem dX6_share_9 : decode cX6_share 9 = .ok (.iload_n 2, 1) := by decide +kernel
theorem dX6_share_10 : decode cX6_share 10 = .ok (.invokevirtual 114, 3) := by decide +kernel
theorem dX6_share_13 : decode cX6_share 13 = .ok (.ifCond .eq 12, 3) := by decide +kernel
theorem dX6_share_16 : decode cX6_share 16 = .ok (.iload_n 3, 1) := by decide +kernel
theorem dX6_share_17 : decode cX6_share 17 = .ok (.iconst 0, 1) := by decide +kernel
theorem dX6_share_18 : decode cX6_share 18 = .ok (.iconst 1, 1) := by decide +kernel
theorem dX6_share_19 : decode cX6_share 19 = .ok (.invokestatic 48, 3) := by decide +kernel
theorem dX6_share_22 : decode cX6_share 22 = .ok (.ifCond .ne 5, 3) := by decide +kernel
theorem dX6_share_25 : decode cX6_share 25 = .ok (.iconst (-1), 1) := by decide +kernel
theorem dX6_share_26 : decode cX6_share 26 = .ok (.ireturn, 1) := by decide +kernel
theorem dX6_share_27 : decode cX6_share 27 = .ok (.aload_n 0, 1) := by decide +kernel
theorem dX6_share_28 : decode cX6_share 28 = .ok (.aload_n 0, 1) := by decide +kernel
theorem dX6_share_29 : decode cX6_share 29 = .ok (.getfield 7, 3) := by decide +kernel
theorem dX6_share_32 : decode cX6_share 32 = .ok (.iload_n 1, 1) := by decide +kernel
theorem dX6_share_33 : decode cX6_share 33 = .ok (.iload_n 2, 1) := by decide +kernel
theorem dX6_share_34 : decode cX6_share 34 = .ok (.invokevirtual 170, 3) := by decide +kernel
theorem dX6_share_37 : decode cX6_share 37 = .ok (.iload_n 3, 1) := by decide +kernel
theorem dX6_share_38 : decode cX6_share 38 = .ok (.ifCond .ne 10, 3) := by decide +kernel
theorem dX6_share_41 : decode cX6_share 41 = .ok (.aload_n 0, 1) := by decide +kernel
theorem dX6_share_42 : decode cX6_share 42 = .ok (.getfield 146, 3) := by decide +kernel
theorem dX6_share_45 : decode cX6_share 45 = .ok (.goto 7, 3) := by decide +kernel
theorem dX6_share_48 : decode cX6_share 48 = .ok (.aload_n 0, 1) := by decide +kernel
theorem dX6_share_49 : decode cX6_share 49 = .ok (.getfield 150, 3) := by decide +kernel
theorem dX6_share_52 : decode cX6_share 52 = .ok (.l2i, 1) := by decide +kernel
theorem dX6_share_53 : decode cX6_share 53 = .ok (.ireturn, 1) := by decide +kernel
set_option maxRecDepth 20000 in
theorem ggX6_lostOf_X6_shares : GoodIn wsX6_lostOf wsX6_shares := goodIn_r _ [8, 3, 2, 9, 10, 11, 7, 12, 13, 14, 15, 16, 17, 18, 19, 20, 21, 22, 23, 24, 25, 26, 27, 28, 29, 30, 31, 32, 33, 34, 35, 36, 37, 38, 39, 40, 41, 42, 43, 44, 45, 46, 47, 48, 49, 50, 51, 52, 53, 54, 55, 56, 57, 58, 59, 60, 61, 62, 63, 64, 65, 66, 67, 68, 69, 70, 71, 72, 73, 74, 75, 76, 77, 78, 79, 80, 81] (by decide +kernel) (by decide +kernel)
set_option maxRecDepth 20000 in
theorem gX6_lostOf_X6_shares : GoodIn wsX6_lostOf (wsV RX6 170 RX6 yX6_shares wsX6_shares) := goodIn_app (goodIn_of _ (by decide +kernel)) ggX6_lostOf_X6_shares
theorem dX6_lostOf_0 : decode cX6_lostOf 0 = .ok (.aload_n 0, 1) := by decide +kernel
theorem dX6_lostOf_1 : decode cX6_lostOf 1 = .ok (.aload_n 0, 1) := by decide +kernel
theorem dX6_lostOf_2 : decode cX6_lostOf 2 = .ok (.getfield 7, 3) := by decide +kernel
theorem dX6_lostOf_5 : decode cX6_lostOf 5 = .ok (.iload_n 1, 1) := by decide +kernel
theorem dX6_lostOf_6 : decode cX6_lostOf 6 = .ok (.iload_n 2, 1) := by decide +kernel
theorem dX6_lostOf_7 : decode cX6_lostOf 7 = .ok (.iconst 2, 1) := by decide +kernel
theorem dX6_lostOf_8 : decode cX6_lostOf 8 = .ok (.if_icmp .ge 7, 3) := by decide +kernel
theorem dX6_lostOf_11 : decode cX6_lostOf 11 = .ok (.iconst (-1), 1) := by decide +kernel
theorem dX6_lostOf_12 : decode cX6_lostOf 12 = .ok (.goto 5, 3) := by decide +kernel
theorem dX6_lostOf_15 : decode cX6_lostOf 15 = .ok (.bipush (-2), 2) := by decide +kernel
theorem dX6_lostOf_17 : decode cX6_lostOf 17 = .ok (.invokevirtual 170, 3) := by decide +kernel
theorem dX6_lostOf_20 : decode cX6_lostOf 20 = .ok (.iload_n 2, 1) := by decide +kernel
theorem dX6_lostOf_21 : decode cX6_lostOf 21 = .ok (.iconst 2, 1) := by decide +kernel
theorem dX6_lostOf_22 : decode cX6_lostOf 22 = .ok (.irem, 1) := by decide +kernel
theorem dX6_lostOf_23 : decode cX6_lostOf 23 = .ok (.iconst 1, 1) := by decide +kernel
theorem dX6_lostOf_24 : decode cX6_lostOf 24 = .ok (.if_icmp .ne 10, 3) := by decide +kernel
theorem dX6_lostOf_27 : decode cX6_lostOf 27 = .ok (.aload_n 0, 1) := by decide +kernel
theorem dX6_lostOf_28 : decode cX6_lostOf 28 = .ok (.getfield 150, 3) := by decide +kernel
theorem dX6_lostOf_31 : decode cX6_lostOf 31 = .ok (.goto 23, 3) := by decide +kernel
theorem dX6_lostOf_34 : decode cX6_lostOf 34 = .ok (.iload_n 2, 1) := by decide +kernel
theorem dX6_lostOf_35 : decode cX6_lostOf 35 = .ok (.ifCond .ne 10, 3) := by decide +kernel
theorem dX6_lostOf_38 : decode cX6_lostOf 38 = .ok (.aload_n 0, 1) := by decide +kernel
theorem dX6_lostOf_39 : decode cX6_lostOf 39 = .ok (.getfield 146, 3) := by decide +kernel
theorem dX6_lostOf_42 : decode cX6_lostOf 42 = .ok (.goto 12, 3) := by decide +kernel
theorem dX6_lostOf_45 : decode cX6_lostOf 45 = .ok (.aload_n 0, 1) := by decide +kernel
theorem dX6_lostOf_46 : decode cX6_lostOf 46 = .ok (.getfield 150, 3) := by decide +kernel
theorem dX6_lostOf_49 : decode cX6_lostOf 49 = .ok (.aload_n 0, 1) := by decide +kernel
theorem dX6_lostOf_50 : decode cX6_lostOf 50 = .ok (.getfield 146, 3) := by decide +kernel
theorem dX6_lostOf_53 : decode cX6_lostOf 53 = .ok (.lsub, 1) := by decide +kernel
theorem dX6_lostOf_54 : decode cX6_lostOf 54 = .ok (.lreturn, 1) := by decide +kernel
set_option maxRecDepth 20000 in
theorem ggX6_lost_X6_isPort : GoodIn wsX6_lost wsX6_isPort := goodIn_r _ [5, 6, 7, 8, 4, 9, 10, 11, 12, 74, 75, 76, 77, 78, 79, 80, 81, 82, 83, 84, 85, 86, 87, 88, 89, 90, 91, 92] (by decide +kernel) (by decide +kernel)
set_option maxRecDepth 20000 in
theorem gX6_lost_X6_isPort : GoodIn wsX6_lost (wsV RX6 114 RX6 yX6_isPort wsX6_isPort) := goodIn_app (goodIn_of _ (by decide +kernel)) ggX6_lost_X6_isPort
set_option maxRecDepth 20000 in
theorem ggX6_lost_X6_in : GoodIn wsX6_lost wsX6_in := goodIn_r _ [12] (by decide +kernel) (by decide +kernel)
set_option maxRecDepth 20000 in
theorem gX6_lost_X6_in : GoodIn wsX6_lost (va_wsS RX6 48 yX6_in wsX6_in) := goodIn_app (goodIn_of _ (by decide +kernel)) ggX6_lost_X6_in
set_option maxRecDepth 20000 in
theorem ggX6_lost_X6_lostOf : GoodIn wsX6_lost wsX6_lostOf := goodIn_r _ [16, 6, 17, 18, 19, 20, 21, 4, 22, 23, 24, 25, 26, 27, 28, 29, 30, 31, 32, 33, 34, 35, 10, 11, 12, 36, 37, 38, 39, 40, 41, 42, 43, 44, 45, 46, 47, 48, 49, 50, 51, 52, 53, 54, 55, 56, 57, 58, 59, 60, 61, 62, 63, 64, 65, 66, 67, 68, 69, 70, 71, 72, 73, 74, 75, 76, 77, 78, 79, 80, 81, 82, 83, 84, 85, 86, 87, 88, 89, 90, 91, 92] (by decide +kernel) (by decide +kernel)
set_option maxRecDepth 20000 in
theorem gX6_lost_X6_lostOf : GoodIn wsX6_lost (wsV RX6 174 RX6 yX6_lostOf wsX6_lostOf) := goodIn_app (goodIn_of _ (by decide +kernel)) ggX6_lost_X6_lostOf
theorem dX6_lost_0 : decode cX6_lost 0 = .ok (.aload_n 0, 1) := by decide +kernel
theorem dX6_lost_1 : decode cX6_lost 1 = .ok (.iload_n 1, 1) := by decide +kernel
theorem dX6_lost_2 : decode cX6_lost 2 = .ok (.invokevirtual 114, 3) := by decide +kernel
theorem dX6_lost_5 : decode cX6_lost 5 = .ok (.ifCond .eq 12, 3) := by decide +kernel
theorem dX6_lost_8 : decode cX6_lost 8 = .ok (.iload_n 2, 1) := by decide +kernel
theorem dX6_lost_9 : decode cX6_lost 9 = .ok (.iconst 0, 1) := by decide +kernel
theorem dX6_lost_10 : decode cX6_lost 10 = .ok (.iconst 3, 1) := by decide +kernel
theorem dX6_lost_11 : decode cX6_lost 11 = .ok (.invokestatic 48, 3) := by decide +kernel
theorem dX6_lost_14 : decode cX6_lost 14 = .ok (.ifCond .ne 5, 3) := by decide +kernel
theorem dX6_lost_17 : decode cX6_lost 17 = .ok (.iconst (-1), 1) := by decide +kernel
theorem dX6_lost_18 : decode cX6_lost 18 = .ok (.ireturn, 1) := by decide +kernel
theorem dX6_lost_19 : decode cX6_lost 19 = .ok (.aload_n 0, 1) := by decide +kernel
theorem dX6_lost_20 : decode cX6_lost 20 = .ok (.iload_n 1, 1) := by decide +kernel
theorem dX6_lost_21 : decode cX6_lost 21 = .ok (.iload_n 2, 1) := by decide +kernel
theorem dX6_lost_22 : decode cX6_lost 22 = .ok (.invokevirtual 174, 3) := by decide +kernel
theorem dX6_lost_25 : decode cX6_lost 25 = .ok (.l2i, 1) := by decide +kernel
theorem dX6_lost_26 : decode cX6_lost 26 = .ok (.ireturn, 1) := by decide +kernel
set_option maxRecDepth 20000 in
theorem ggX6_bits_X6_isPort : GoodIn wsX6_bits wsX6_isPort := goodIn_r _ [8, 1, 9, 10, 7, 11, 12, 13, 14, 82, 83, 84, 85, 86, 87, 88, 89, 90, 91, 92, 93, 94, 95, 96, 97, 98, 99, 100] (by decide +kernel) (by decide +kernel)
set_option maxRecDepth 20000 in
theorem gX6_bits_X6_isPort : GoodIn wsX6_bits (wsV RX6 114 RX6 yX6_isPort wsX6_isPort) := goodIn_app (goodIn_of _ (by decide +kernel)) ggX6_bits_X6_isPort
set_option maxRecDepth 20000 in
theorem ggX6_bits_X6_shares : GoodIn wsX6_bits wsX6_shares := goodIn_r _ [18, 2, 3, 19, 20, 21, 7, 22, 23, 24, 25, 26, 27, 28, 29, 30, 31, 12, 13, 14, 32, 33, 34, 35, 36, 37, 38, 39, 40, 41, 42, 43, 44, 45, 46, 47, 48, 49, 50, 51, 52, 53, 54, 55, 56, 57, 58, 59, 60, 61, 62, 63, 64, 65, 66, 67, 68, 69, 82, 83, 84, 85, 86, 87, 88, 89, 90, 91, 92, 93, 94, 95, 96, 97, 98, 99, 100] (by decide +kernel) (by decide +kernel)
set_option maxRecDepth 20000 in
theorem gX6_bits_X6_shares : GoodIn wsX6_bits (wsV RX6 170 RX6 yX6_shares wsX6_shares) := goodIn_app (goodIn_of _ (by decide +kernel)) ggX6_bits_X6_shares
set_option maxRecDepth 20000 in
theorem ggX6_bits_Jxf58ca_floatToIntBits_5c35a : GoodIn wsX6_bits wsJxf58ca_floatToIntBits_5c35a := goodIn_r _ [73, 74, 75, 76, 77, 78, 79, 80, 72, 81] (by decide +kernel) (by decide +kernel)
set_option maxRecDepth 20000 in
theorem gX6_bits_Jxf58ca_floatToIntBits_5c35a : GoodIn wsX6_bits (va_wsS RX6 178 yJxf58ca_floatToIntBits_5c35a wsJxf58ca_floatToIntBits_5c35a) := goodIn_app (goodIn_of _ (by decide +kernel)) ggX6_bits_Jxf58ca_floatToIntBits_5c35a
theorem dX6_bits_0 : decode cX6_bits 0 = .ok (.aload_n 0, 1) := by decide +kernel
theorem dX6_bits_1 : decode cX6_bits 1 = .ok (.iload_n 1, 1) := by decide +kernel
theorem dX6_bits_2 : decode cX6_bits 2 = .ok (.invokevirtual 114, 3) := by decide +kernel
theorem dX6_bits_5 : decode cX6_bits 5 = .ok (.ifCond .eq 11, 3) := by decide +kernel
theorem dX6_bits_8 : decode cX6_bits 8 = .ok (.aload_n 0, 1) := by decide +kernel
theorem dX6_bits_9 : decode cX6_bits 9 = .ok (.iload_n 2, 1) := by decide +kernel
theorem dX6_bits_10 : decode cX6_bits 10 = .ok (.invokevirtual 114, 3) := by decide +kernel
theorem dX6_bits_13 : decode cX6_bits 13 = .ok (.ifCond .ne 5, 3) := by decide +kernel
theorem dX6_bits_16 : decode cX6_bits 16 = .ok (.iconst (-1), 1) := by decide +kernel
theorem dX6_bits_17 : decode cX6_bits 17 = .ok (.ireturn, 1) := by decide +kernel
theorem dX6_bits_18 : decode cX6_bits 18 = .ok (.aload_n 0, 1) := by decide +kernel
theorem dX6_bits_19 : decode cX6_bits 19 = .ok (.aload_n 0, 1) := by decide +kernel
theorem dX6_bits_20 : decode cX6_bits 20 = .ok (.getfield 7, 3) := by decide +kernel
theorem dX6_bits_23 : decode cX6_bits 23 = .ok (.iload_n 1, 1) := by decide +kernel
theorem dX6_bits_24 : decode cX6_bits 24 = .ok (.iload_n 2, 1) := by decide +kernel
theorem dX6_bits_25 : decode cX6_bits 25 = .ok (.invokevirtual 170, 3) := by decide +kernel
theorem dX6_bits_28 : decode cX6_bits 28 = .ok (.aload_n 0, 1) := by decide +kernel
theorem dX6_bits_29 : decode cX6_bits 29 = .ok (.getfield 146, 3) := by decide +kernel
theorem dX6_bits_32 : decode cX6_bits 32 = .ok (.l2f, 1) := by decide +kernel
theorem dX6_bits_33 : decode cX6_bits 33 = .ok (.aload_n 0, 1) := by decide +kernel
theorem dX6_bits_34 : decode cX6_bits 34 = .ok (.getfield 150, 3) := by decide +kernel
theorem dX6_bits_37 : decode cX6_bits 37 = .ok (.l2f, 1) := by decide +kernel
theorem dX6_bits_38 : decode cX6_bits 38 = .ok (.fdiv, 1) := by decide +kernel
theorem dX6_bits_39 : decode cX6_bits 39 = .ok (.invokestatic 178, 3) := by decide +kernel
theorem dX6_bits_42 : decode cX6_bits 42 = .ok (.ireturn, 1) := by decide +kernel
set_option maxRecDepth 20000 in
theorem ggX6_spreads_X6_portState : GoodIn wsX6_spreads wsX6_portState := goodIn_r _ [8] (by decide +kernel) (by decide +kernel)
set_option maxRecDepth 20000 in
theorem gX6_spreads_X6_portState : GoodIn wsX6_spreads (va_wsS RX6 117 yX6_portState wsX6_portState) := goodIn_app (goodIn_of _ (by decide +kernel)) ggX6_spreads_X6_portState
set_option maxRecDepth 20000 in
theorem ggX6_spreads_X6_waysOf : GoodIn wsX6_spreads wsX6_waysOf := goodIn_r _ [11, 12, 13, 7, 14, 15, 16, 17] (by decide +kernel) (by decide +kernel)
set_option maxRecDepth 20000 in
theorem gX6_spreads_X6_waysOf : GoodIn wsX6_spreads (va_wsS RX6 128 yX6_waysOf wsX6_waysOf) := goodIn_app (goodIn_of _ (by decide +kernel)) ggX6_spreads_X6_waysOf
set_option maxRecDepth 20000 in
theorem ggX6_spreads_X6_goes : GoodIn wsX6_spreads wsX6_goes := goodIn_r _ [20, 15, 16, 7, 17, 12, 13, 14, 21, 22, 23, 24, 25, 26] (by decide +kernel) (by decide +kernel)
set_option maxRecDepth 20000 in
theorem gX6_spreads_X6_goes : GoodIn wsX6_spreads (va_wsS RX6 131 yX6_goes wsX6_goes) := goodIn_app (goodIn_of _ (by decide +kernel)) ggX6_spreads_X6_goes
theorem dX6_spreads_0 : decode cX6_spreads 0 = .ok (.iconst 0, 1) := by decide +kernel
theorem dX6_spreads_1 : decode cX6_spreads 1 = .ok (.istore_n 2, 1) := by decide +kernel
theorem dX6_spreads_2 : decode cX6_spreads 2 = .ok (.iload_n 2, 1) := by decide +kernel
theorem dX6_spreads_3 : decode cX6_spreads 3 = .ok (.bipush 80, 2) := by decide +kernel
theorem dX6_spreads_5 : decode cX6_spreads 5 = .ok (.if_icmp .ge 17, 3) := by decide +kernel
theorem dX6_spreads_8 : decode cX6_spreads 8 = .ok (.aload_n 0, 1) := by decide +kernel
theorem dX6_spreads_9 : decode cX6_spreads 9 = .ok (.getfield 45, 3) := by decide +kernel
theorem dX6_spreads_12 : decode cX6_spreads 12 = .ok (.iload_n 2, 1) := by decide +kernel
theorem dX6_spreads_13 : decode cX6_spreads 13 = .ok (.bipush (-4), 2) := by decide +kernel
theorem dX6_spreads_15 : decode cX6_spreads 15 = .ok (.iastore, 1) := by decide +kernel
theorem dX6_spreads_16 : decode cX6_spreads 16 = .ok (.iinc 2 1, 3) := by decide +kernel
theorem dX6_spreads_19 : decode cX6_spreads 19 = .ok (.goto (-17), 3) := by decide +kernel
theorem dX6_spreads_22 : decode cX6_spreads 22 = .ok (.aload_n 0, 1) := by decide +kernel
theorem dX6_spreads_23 : decode cX6_spreads 23 = .ok (.getfield 42, 3) := by decide +kernel
theorem dX6_spreads_26 : decode cX6_spreads 26 = .ok (.iconst 0, 1) := by decide +kernel
theorem dX6_spreads_27 : decode cX6_spreads 27 = .ok (.aload_n 0, 1) := by decide +kernel
theorem dX6_spreads_28 : decode cX6_spreads 28 = .ok (.getfield 7, 3) := by decide +kernel
theorem dX6_spreads_31 : decode cX6_spreads 31 = .ok (.iload_n 1, 1) := by decide +kernel
theorem dX6_spreads_32 : decode cX6_spreads 32 = .ok (.invokestatic 117, 3) := by decide +kernel
theorem dX6_spreads_35 : decode cX6_spreads 35 = .ok (.iastore, 1) := by decide +kernel
theorem dX6_spreads_36 : decode cX6_spreads 36 = .ok (.aload_n 0, 1) := by decide +kernel
theorem dX6_spreads_37 : decode cX6_spreads 37 = .ok (.getfield 45, 3) := by decide +kernel
theorem dX6_spreads_40 : decode cX6_spreads 40 = .ok (.aload_n 0, 1) := by decide +kernel
theorem dX6_spreads_41 : decode cX6_spreads 41 = .ok (.getfield 42, 3) := by decide +kernel
theorem dX6_spreads_44 : decode cX6_spreads 44 = .ok (.iconst 0, 1) := by decide +kernel
theorem dX6_spreads_45 : decode cX6_spreads 45 = .ok (.iaload, 1) := by decide +kernel
theorem dX6_spreads_46 : decode cX6_spreads 46 = .ok (.iconst 1, 1) := by decide +kernel
theorem dX6_spreads_47 : decode cX6_spreads 47 = .ok (.iastore, 1) := by decide +kernel
theorem dX6_spreads_48 : decode cX6_spreads 48 = .ok (.aload_n 0, 1) := by decide +kernel
theorem dX6_spreads_49 : decode cX6_spreads 49 = .ok (.iconst 1, 1) := by decide +kernel
theorem dX6_spreads_50 : decode cX6_spreads 50 = .ok (.putfield 184, 3) := by decide +kernel
theorem dX6_spreads_53 : decode cX6_spreads 53 = .ok (.iconst 0, 1) := by decide +kernel
theorem dX6_spreads_54 : decode cX6_spreads 54 = .ok (.istore_n 2, 1) := by decide +kernel
theorem dX6_spreads_55 : decode cX6_spreads 55 = .ok (.iload_n 2, 1) := by decide +kernel
theorem dX6_spreads_56 : decode cX6_spreads 56 = .ok (.aload_n 0, 1) := by decide +kernel
theorem dX6_spreads_57 : decode cX6_spreads 57 = .ok (.getfield 184, 3) := by decide +kernel
theorem dX6_spreads_60 : decode cX6_spreads 60 = .ok (.if_icmp .ge 103, 3) := by decide +kernel
theorem dX6_spreads_63 : decode cX6_spreads 63 = .ok (.aload_n 0, 1) := by decide +kernel
theorem dX6_spreads_64 : decode cX6_spreads 64 = .ok (.getfield 42, 3) := by decide +kernel
theorem dX6_spreads_67 : decode cX6_spreads 67 = .ok (.iload_n 2, 1) := by decide +kernel
theorem dX6_spreads_68 : decode cX6_spreads 68 = .ok (.iaload, 1) := by decide +kernel
theorem dX6_spreads_69 : decode cX6_spreads 69 = .ok (.istore_n 3, 1) := by decide +kernel
theorem dX6_spreads_70 : decode cX6_spreads 70 = .ok (.iconst 0, 1) := by decide +kernel
theorem dX6_spreads_71 : decode cX6_spreads 71 = .ok (.istore 4, 2) := by decide +kernel
theorem dX6_spreads_73 : decode cX6_spreads 73 = .ok (.iload 4, 2) := by decide +kernel
theorem dX6_spreads_75 : decode cX6_spreads 75 = .ok (.aload_n 0, 1) := by decide +kernel
theorem dX6_spreads_76 : decode cX6_spreads 76 = .ok (.getfield 7, 3) := by decide +kernel
theorem dX6_spreads_79 : decode cX6_spreads 79 = .ok (.iload_n 3, 1) := by decide +kernel
theorem dX6_spreads_80 : decode cX6_spreads 80 = .ok (.invokestatic 128, 3) := by decide +kernel
theorem dX6_spreads_83 : decode cX6_spreads 83 = .ok (.if_icmp .ge 74, 3) := by decide +kernel
theorem dX6_spreads_86 : decode cX6_spreads 86 = .ok (.aload_n 0, 1) := by decide +kernel
theorem dX6_spreads_87 : decode cX6_spreads 87 = .ok (.getfield 7, 3) := by decide +kernel
theorem dX6_spreads_90 : decode cX6_spreads 90 = .ok (.iload_n 3, 1) := by decide +kernel
theorem dX6_spreads_91 : decode cX6_spreads 91 = .ok (.iload 4, 2) := by decide +kernel
theorem dX6_spreads_93 : decode cX6_spreads 93 = .ok (.invokestatic 131, 3) := by decide +kernel
theorem dX6_spreads_96 : decode cX6_spreads 96 = .ok (.istore 5, 2) := by decide +kernel
theorem dX6_spreads_98 : decode cX6_spreads 98 = .ok (.iload 5, 2) := by decide +kernel
theorem dX6_spreads_100 : decode cX6_spreads 100 = .ok (.ifCond .lt 51, 3) := by decide +kernel
theorem dX6_spreads_103 : decode cX6_spreads 103 = .ok (.aload_n 0, 1) := by decide +kernel
theorem dX6_spreads_104 : decode cX6_spreads 104 = .ok (.getfield 45, 3) := by decide +kernel
theorem dX6_spreads_107 : decode cX6_spreads 107 = .ok (.iload 5, 2) := by decide +kernel
theorem dX6_spreads_109 : decode cX6_spreads 109 = .ok (.iaload, 1) := by decide +kernel
theorem dX6_spreads_110 : decode cX6_spreads 110 = .ok (.bipush (-4), 2) := by decide +kernel
theorem dX6_spreads_112 : decode cX6_spreads 112 = .ok (.if_icmp .ne 39, 3) := by decide +kernel
theorem dX6_spreads_115 : decode cX6_spreads 115 = .ok (.aload_n 0, 1) := by decide +kernel
theorem dX6_spreads_116 : decode cX6_spreads 116 = .ok (.getfield 45, 3) := by decide +kernel
theorem dX6_spreads_119 : decode cX6_spreads 119 = .ok (.iload 5, 2) := by decide +kernel
theorem dX6_spreads_121 : decode cX6_spreads 121 = .ok (.aload_n 0, 1) := by decide +kernel
theorem dX6_spreads_122 : decode cX6_spreads 122 = .ok (.getfield 45, 3) := by decide +kernel
theorem dX6_spreads_125 : decode cX6_spreads 125 = .ok (.iload_n 3, 1) := by decide +kernel
theorem dX6_spreads_126 : decode cX6_spreads 126 = .ok (.iaload, 1) := by decide +kernel
theorem dX6_spreads_127 : decode cX6_spreads 127 = .ok (.iconst 1, 1) := by decide +kernel
theorem dX6_spreads_128 : decode cX6_spreads 128 = .ok (.iadd, 1) := by decide +kernel
theorem dX6_spreads_129 : decode cX6_spreads 129 = .ok (.iastore, 1) := by decide +kernel
theorem dX6_spreads_130 : decode cX6_spreads 130 = .ok (.aload_n 0, 1) := by decide +kernel
theorem dX6_spreads_131 : decode cX6_spreads 131 = .ok (.getfield 42, 3) := by decide +kernel
theorem dX6_spreads_134 : decode cX6_spreads 134 = .ok (.aload_n 0, 1) := by decide +kernel
theorem dX6_spreads_135 : decode cX6_spreads 135 = .ok (.getfield 184, 3) := by decide +kernel
theorem dX6_spreads_138 : decode cX6_spreads 138 = .ok (.iload 5, 2) := by decide +kernel
theorem dX6_spreads_140 : decode cX6_spreads 140 = .ok (.iastore, 1) := by decide +kernel
theorem dX6_spreads_141 : decode cX6_spreads 141 = .ok (.aload_n 0, 1) := by decide +kernel
theorem dX6_spreads_142 : decode cX6_spreads 142 = .ok (.dup, 1) := by decide +kernel
theorem dX6_spreads_143 : decode cX6_spreads 143 = .ok (.getfield 184, 3) := by decide +kernel
theorem dX6_spreads_146 : decode cX6_spreads 146 = .ok (.iconst 1, 1) := by decide +kernel
theorem dX6_spreads_147 : decode cX6_spreads 147 = .ok (.iadd, 1) := by decide +kernel
theorem dX6_spreads_148 : decode cX6_spreads 148 = .ok (.putfield 184, 3) := by decide +kernel
theorem dX6_spreads_151 : decode cX6_spreads 151 = .ok (.iinc 4 1, 3) := by decide +kernel
theorem dX6_spreads_154 : decode cX6_spreads 154 = .ok (.goto (-81), 3) := by decide +kernel
theorem dX6_spreads_157 : decode cX6_spreads 157 = .ok (.iinc 2 1, 3) := by decide +kernel
theorem dX6_spreads_160 : decode cX6_spreads 160 = .ok (.goto (-105), 3) := by decide +kernel
theorem dX6_spreads_163 : decode cX6_spreads 163 = .ok (.return_, 1) := by decide +kernel
set_option maxRecDepth 20000 in
theorem ggX6_lit_X6_isPort : GoodIn wsX6_lit wsX6_isPort := goodIn_r _ [7, 8, 9, 10, 6, 11, 12, 13, 14, 38, 39, 40, 41, 42, 43, 44, 45, 46, 47, 48, 49, 50, 51, 52, 53, 54, 55, 56] (by decide +kernel) (by decide +kernel)
set_option maxRecDepth 20000 in
theorem gX6_lit_X6_isPort : GoodIn wsX6_lit (wsV RX6 114 RX6 yX6_isPort wsX6_isPort) := goodIn_app (goodIn_of _ (by decide +kernel)) ggX6_lit_X6_isPort
set_option maxRecDepth 20000 in
theorem ggX6_lit_X6_spreads : GoodIn wsX6_lit wsX6_spreads := goodIn_r _ [18, 19, 2, 8, 1, 20, 21, 6, 22, 23, 24, 25, 26, 27, 28, 12, 13, 14, 29, 30, 31, 32, 33, 34, 35, 36, 37, 38, 39, 40, 41, 42, 43, 44, 45, 46, 47, 48, 49, 50, 51, 52, 53, 54, 55, 56] (by decide +kernel) (by decide +kernel)
set_option maxRecDepth 20000 in
theorem gX6_lit_X6_spreads : GoodIn wsX6_lit (wsV RX6 187 RX6 yX6_spreads wsX6_spreads) := goodIn_app (goodIn_of _ (by decide +kernel)) ggX6_lit_X6_spreads
theorem dX6_lit_0 : decode cX6_lit 0 = .ok (.aload_n 0, 1) := by decide +kernel
theorem dX6_lit_1 : decode cX6_lit 1 = .ok (.iload_n 1, 1) := by decide +kernel
theorem dX6_lit_2 : decode cX6_lit 2 = .ok (.invokevirtual 114, 3) := by decide +kernel
theorem dX6_lit_5 : decode cX6_lit 5 = .ok (.ifCond .ne 5, 3) := by decide +kernel
theorem dX6_lit_8 : decode cX6_lit 8 = .ok (.iconst (-1), 1) := by decide +kernel
theorem dX6_lit_9 : decode cX6_lit 9 = .ok (.ireturn, 1) := by decide +kernel
theorem dX6_lit_10 : decode cX6_lit 10 = .ok (.aload_n 0, 1) := by decide +kernel
theorem dX6_lit_11 : decode cX6_lit 11 = .ok (.iload_n 1, 1) := by decide +kernel
theorem dX6_lit_12 : decode cX6_lit 12 = .ok (.invokevirtual 187, 3) := by decide +kernel
theorem dX6_lit_15 : decode cX6_lit 15 = .ok (.iconst 0, 1) := by decide +kernel
theorem dX6_lit_16 : decode cX6_lit 16 = .ok (.istore_n 2, 1) := by decide +kernel
theorem dX6_lit_17 : decode cX6_lit 17 = .ok (.iconst 0, 1) := by decide +kernel
theorem dX6_lit_18 : decode cX6_lit 18 = .ok (.istore_n 3, 1) := by decide +kernel
theorem dX6_lit_19 : decode cX6_lit 19 = .ok (.iload_n 3, 1) := by decide +kernel
theorem dX6_lit_20 : decode cX6_lit 20 = .ok (.aload_n 0, 1) := by decide +kernel
theorem dX6_lit_21 : decode cX6_lit 21 = .ok (.getfield 184, 3) := by decide +kernel
theorem dX6_lit_24 : decode cX6_lit 24 = .ok (.if_icmp .ge 22, 3) := by decide +kernel
theorem dX6_lit_27 : decode cX6_lit 27 = .ok (.iload_n 2, 1) := by decide +kernel
theorem dX6_lit_28 : decode cX6_lit 28 = .ok (.iconst 1, 1) := by decide +kernel
theorem dX6_lit_29 : decode cX6_lit 29 = .ok (.aload_n 0, 1) := by decide +kernel
theorem dX6_lit_30 : decode cX6_lit 30 = .ok (.getfield 42, 3) := by decide +kernel
theorem dX6_lit_33 : decode cX6_lit 33 = .ok (.iload_n 3, 1) := by decide +kernel
theorem dX6_lit_34 : decode cX6_lit 34 = .ok (.iaload, 1) := by decide +kernel
theorem dX6_lit_35 : decode cX6_lit 35 = .ok (.iconst 4, 1) := by decide +kernel
theorem dX6_lit_36 : decode cX6_lit 36 = .ok (.idiv, 1) := by decide +kernel
theorem dX6_lit_37 : decode cX6_lit 37 = .ok (.ishl, 1) := by decide +kernel
theorem dX6_lit_38 : decode cX6_lit 38 = .ok (.ior, 1) := by decide +kernel
theorem dX6_lit_39 : decode cX6_lit 39 = .ok (.istore_n 2, 1) := by decide +kernel
theorem dX6_lit_40 : decode cX6_lit 40 = .ok (.iinc 3 1, 3) := by decide +kernel
theorem dX6_lit_43 : decode cX6_lit 43 = .ok (.goto (-24), 3) := by decide +kernel
theorem dX6_lit_46 : decode cX6_lit 46 = .ok (.iload_n 2, 1) := by decide +kernel
theorem dX6_lit_47 : decode cX6_lit 47 = .ok (.ireturn, 1) := by decide +kernel
set_option maxRecDepth 20000 in
theorem ggX6_far_X6_isPort : GoodIn wsX6_far wsX6_isPort := goodIn_r _ [9, 2, 10, 11, 8, 12, 13, 14, 15, 38, 39, 40, 41, 42, 43, 44, 45, 46, 47, 48, 49, 50, 51, 52, 53, 54, 55, 56] (by decide +kernel) (by decide +kernel)
set_option maxRecDepth 20000 in
theorem gX6_far_X6_isPort : GoodIn wsX6_far (wsV RX6 114 RX6 yX6_isPort wsX6_isPort) := goodIn_app (goodIn_of _ (by decide +kernel)) ggX6_far_X6_isPort
set_option maxRecDepth 20000 in
theorem ggX6_far_X6_spreads : GoodIn wsX6_far wsX6_spreads := goodIn_r _ [19, 4, 3, 2, 1, 20, 21, 8, 22, 23, 24, 25, 26, 27, 28, 13, 14, 15, 29, 30, 31, 32, 33, 34, 35, 36, 37, 38, 39, 40, 41, 42, 43, 44, 45, 46, 47, 48, 49, 50, 51, 52, 53, 54, 55, 56] (by decide +kernel) (by decide +kernel)
set_option maxRecDepth 20000 in
theorem gX6_far_X6_spreads : GoodIn wsX6_far (wsV RX6 187 RX6 yX6_spreads wsX6_spreads) := goodIn_app (goodIn_of _ (by decide +kernel)) ggX6_far_X6_spreads
set_option maxRecDepth 20000 in
theorem ggX6_far_X6_waysOf : GoodIn wsX6_far wsX6_waysOf := goodIn_r _ [25, 26, 27, 8, 28, 13, 14, 15] (by decide +kernel) (by decide +kernel)
set_option maxRecDepth 20000 in
theorem gX6_far_X6_waysOf : GoodIn wsX6_far (va_wsS RX6 128 yX6_waysOf wsX6_waysOf) := goodIn_app (goodIn_of _ (by decide +kernel)) ggX6_far_X6_waysOf
set_option maxRecDepth 20000 in
theorem ggX6_far_X6_goes : GoodIn wsX6_far wsX6_goes := goodIn_r _ [31, 13, 14, 8, 15, 26, 27, 28, 32, 33, 34, 35, 36, 37] (by decide +kernel) (by decide +kernel)
set_option maxRecDepth 20000 in
theorem gX6_far_X6_goes : GoodIn wsX6_far (va_wsS RX6 131 yX6_goes wsX6_goes) := goodIn_app (goodIn_of _ (by decide +kernel)) ggX6_far_X6_goes
theorem dX6_far_0 : decode cX6_far 0 = .ok (.aload_n 0, 1) := by decide +kernel
theorem dX6_far_1 : decode cX6_far 1 = .ok (.iload_n 1, 1) := by decide +kernel
theorem dX6_far_2 : decode cX6_far 2 = .ok (.invokevirtual 114, 3) := by decide +kernel
theorem dX6_far_5 : decode cX6_far 5 = .ok (.ifCond .eq 11, 3) := by decide +kernel
theorem dX6_far_8 : decode cX6_far 8 = .ok (.aload_n 0, 1) := by decide +kernel
theorem dX6_far_9 : decode cX6_far 9 = .ok (.iload_n 2, 1) := by decide +kernel
theorem dX6_far_10 : decode cX6_far 10 = .ok (.invokevirtual 114, 3) := by decide +kernel
theorem dX6_far_13 : decode cX6_far 13 = .ok (.ifCond .ne 5, 3) := by decide +kernel
theorem dX6_far_16 : decode cX6_far 16 = .ok (.iconst (-1), 1) := by decide +kernel
theorem dX6_far_17 : decode cX6_far 17 = .ok (.ireturn, 1) := by decide +kernel
theorem dX6_far_18 : decode cX6_far 18 = .ok (.aload_n 0, 1) := by decide +kernel
theorem dX6_far_19 : decode cX6_far 19 = .ok (.iload_n 1, 1) := by decide +kernel
theorem dX6_far_20 : decode cX6_far 20 = .ok (.invokevirtual 187, 3) := by decide +kernel
theorem dX6_far_23 : decode cX6_far 23 = .ok (.iconst 0, 1) := by decide +kernel
theorem dX6_far_24 : decode cX6_far 24 = .ok (.istore_n 3, 1) := by decide +kernel
theorem dX6_far_25 : decode cX6_far 25 = .ok (.iload_n 3, 1) := by decide +kernel
theorem dX6_far_26 : decode cX6_far 26 = .ok (.aload_n 0, 1) := by decide +kernel
theorem dX6_far_27 : decode cX6_far 27 = .ok (.getfield 184, 3) := by decide +kernel
theorem dX6_far_30 : decode cX6_far 30 = .ok (.if_icmp .ge 70, 3) := by decide +kernel
theorem dX6_far_33 : decode cX6_far 33 = .ok (.iconst 0, 1) := by decide +kernel
theorem dX6_far_34 : decode cX6_far 34 = .ok (.istore 4, 2) := by decide +kernel
theorem dX6_far_36 : decode cX6_far 36 = .ok (.iload 4, 2) := by decide +kernel
theorem dX6_far_38 : decode cX6_far 38 = .ok (.aload_n 0, 1) := by decide +kernel
theorem dX6_far_39 : decode cX6_far 39 = .ok (.getfield 7, 3) := by decide +kernel
theorem dX6_far_42 : decode cX6_far 42 = .ok (.aload_n 0, 1) := by decide +kernel
theorem dX6_far_43 : decode cX6_far 43 = .ok (.getfield 42, 3) := by decide +kernel
theorem dX6_far_46 : decode cX6_far 46 = .ok (.iload_n 3, 1) := by decide +kernel
theorem dX6_far_47 : decode cX6_far 47 = .ok (.iaload, 1) := by decide +kernel
theorem dX6_far_48 : decode cX6_far 48 = .ok (.invokestatic 128, 3) := by decide +kernel
theorem dX6_far_51 : decode cX6_far 51 = .ok (.if_icmp .ge 43, 3) := by decide +kernel
theorem dX6_far_54 : decode cX6_far 54 = .ok (.aload_n 0, 1) := by decide +kernel
theorem dX6_far_55 : decode cX6_far 55 = .ok (.getfield 7, 3) := by decide +kernel
theorem dX6_far_58 : decode cX6_far 58 = .ok (.aload_n 0, 1) := by decide +kernel
theorem dX6_far_59 : decode cX6_far 59 = .ok (.getfield 42, 3) := by decide +kernel
theorem dX6_far_62 : decode cX6_far 62 = .ok (.iload_n 3, 1) := by decide +kernel
theorem dX6_far_63 : decode cX6_far 63 = .ok (.iaload, 1) := by decide +kernel
theorem dX6_far_64 : decode cX6_far 64 = .ok (.iload 4, 2) := by decide +kernel
theorem dX6_far_66 : decode cX6_far 66 = .ok (.invokestatic 131, 3) := by decide +kernel
theorem dX6_far_69 : decode cX6_far 69 = .ok (.bipush (-2), 2) := by decide +kernel
theorem dX6_far_71 : decode cX6_far 71 = .ok (.iload_n 2, 1) := by decide +kernel
theorem dX6_far_72 : decode cX6_far 72 = .ok (.isub, 1) := by decide +kernel
theorem dX6_far_73 : decode cX6_far 73 = .ok (.if_icmp .ne 15, 3) := by decide +kernel
theorem dX6_far_76 : decode cX6_far 76 = .ok (.aload_n 0, 1) := by decide +kernel
theorem dX6_far_77 : decode cX6_far 77 = .ok (.getfield 45, 3) := by decide +kernel
theorem dX6_far_80 : decode cX6_far 80 = .ok (.aload_n 0, 1) := by decide +kernel
theorem dX6_far_81 : decode cX6_far 81 = .ok (.getfield 42, 3) := by decide +kernel
theorem dX6_far_84 : decode cX6_far 84 = .ok (.iload_n 3, 1) := by decide +kernel
theorem dX6_far_85 : decode cX6_far 85 = .ok (.iaload, 1) := by decide +kernel
theorem dX6_far_86 : decode cX6_far 86 = .ok (.iaload, 1) := by decide +kernel
theorem dX6_far_87 : decode cX6_far 87 = .ok (.ireturn, 1) := by decide +kernel
theorem dX6_far_88 : decode cX6_far 88 = .ok (.iinc 4 1, 3) := by decide +kernel
theorem dX6_far_91 : decode cX6_far 91 = .ok (.goto (-55), 3) := by decide +kernel
theorem dX6_far_94 : decode cX6_far 94 = .ok (.iinc 3 1, 3) := by decide +kernel
theorem dX6_far_97 : decode cX6_far 97 = .ok (.goto (-72), 3) := by decide +kernel
theorem dX6_far_100 : decode cX6_far 100 = .ok (.bipush (-4), 2) := by decide +kernel
theorem dX6_far_102 : decode cX6_far 102 = .ok (.ireturn, 1) := by decide +kernel
set_option maxRecDepth 20000 in
theorem ggX6_alike_X6_isPort : GoodIn wsX6_alike wsX6_isPort := goodIn_r _ [5, 6, 7, 8, 4, 9, 10, 11, 12, 74, 75, 76, 77, 78, 79, 80, 81, 82, 83, 84, 85, 86, 87, 88, 89, 90, 91, 92] (by decide +kernel) (by decide +kernel)
set_option maxRecDepth 20000 in
theorem gX6_alike_X6_isPort : GoodIn wsX6_alike (wsV RX6 114 RX6 yX6_isPort wsX6_isPort) := goodIn_app (goodIn_of _ (by decide +kernel)) ggX6_alike_X6_isPort
set_option maxRecDepth 20000 in
theorem ggX6_alike_X6_lostOf : GoodIn wsX6_alike wsX6_lostOf := goodIn_r _ [16, 6, 17, 18, 19, 20, 21, 4, 22, 23, 24, 25, 26, 27, 28, 29, 30, 31, 32, 33, 34, 35, 10, 11, 12, 36, 37, 38, 39, 40, 41, 42, 43, 44, 45, 46, 47, 48, 49, 50, 51, 52, 53, 54, 55, 56, 57, 58, 59, 60, 61, 62, 63, 64, 65, 66, 67, 68, 69, 70, 71, 72, 73, 74, 75, 76, 77, 78, 79, 80, 81, 82, 83, 84, 85, 86, 87, 88, 89, 90, 91, 92] (by decide +kernel) (by decide +kernel)
set_option maxRecDepth 20000 in
theorem gX6_alike_X6_lostOf : GoodIn wsX6_alike (wsV RX6 174 RX6 yX6_lostOf wsX6_lostOf) := goodIn_app (goodIn_of _ (by decide +kernel)) ggX6_alike_X6_lostOf
theorem dX6_alike_0 : decode cX6_alike 0 = .ok (.aload_n 0, 1) := by decide +kernel
theorem dX6_alike_1 : decode cX6_alike 1 = .ok (.iload_n 1, 1) := by decide +kernel
theorem dX6_alike_2 : decode cX6_alike 2 = .ok (.invokevirtual 114, 3) := by decide +kernel
theorem dX6_alike_5 : decode cX6_alike 5 = .ok (.ifCond .eq 11, 3) := by decide +kernel
theorem dX6_alike_8 : decode cX6_alike 8 = .ok (.aload_n 0, 1) := by decide +kernel
theorem dX6_alike_9 : decode cX6_alike 9 = .ok (.iload_n 2, 1) := by decide +kernel
theorem dX6_alike_10 : decode cX6_alike 10 = .ok (.invokevirtual 114, 3) := by decide +kernel
theorem dX6_alike_13 : decode cX6_alike 13 = .ok (.ifCond .ne 5, 3) := by decide +kernel
theorem dX6_alike_16 : decode cX6_alike 16 = .ok (.iconst (-1), 1) := by decide +kernel
theorem dX6_alike_17 : decode cX6_alike 17 = .ok (.ireturn, 1) := by decide +kernel
theorem dX6_alike_18 : decode cX6_alike 18 = .ok (.iconst 1, 1) := by decide +kernel
theorem dX6_alike_19 : decode cX6_alike 19 = .ok (.istore_n 3, 1) := by decide +kernel
theorem dX6_alike_20 : decode cX6_alike 20 = .ok (.iconst 0, 1) := by decide +kernel
theorem dX6_alike_21 : decode cX6_alike 21 = .ok (.istore 4, 2) := by decide +kernel
theorem dX6_alike_23 : decode cX6_alike 23 = .ok (.iload 4, 2) := by decide +kernel
theorem dX6_alike_25 : decode cX6_alike 25 = .ok (.iconst 4, 1) := by decide +kernel
theorem dX6_alike_26 : decode cX6_alike 26 = .ok (.if_icmp .ge 37, 3) := by decide +kernel
theorem dX6_alike_29 : decode cX6_alike 29 = .ok (.iload_n 3, 1) := by decide +kernel
theorem dX6_alike_30 : decode cX6_alike 30 = .ok (.ifCond .eq 25, 3) := by decide +kernel
theorem dX6_alike_33 : decode cX6_alike 33 = .ok (.aload_n 0, 1) := by decide +kernel
theorem dX6_alike_34 : decode cX6_alike 34 = .ok (.iload_n 1, 1) := by decide +kernel
theorem dX6_alike_35 : decode cX6_alike 35 = .ok (.iload 4, 2) := by decide +kernel
theorem dX6_alike_37 : decode cX6_alike 37 = .ok (.invokevirtual 174, 3) := by decide +kernel
theorem dX6_alike_40 : decode cX6_alike 40 = .ok (.aload_n 0, 1) := by decide +kernel
theorem dX6_alike_41 : decode cX6_alike 41 = .ok (.iload_n 2, 1) := by decide +kernel
theorem dX6_alike_42 : decode cX6_alike 42 = .ok (.iload 4, 2) := by decide +kernel
theorem dX6_alike_44 : decode cX6_alike 44 = .ok (.invokevirtual 174, 3) := by decide +kernel
theorem dX6_alike_47 : decode cX6_alike 47 = .ok (.lcmp, 1) := by decide +kernel
theorem dX6_alike_48 : decode cX6_alike 48 = .ok (.ifCond .ne 7, 3) := by decide +kernel
theorem dX6_alike_51 : decode cX6_alike 51 = .ok (.iconst 1, 1) := by decide +kernel
theorem dX6_alike_52 : decode cX6_alike 52 = .ok (.goto 4, 3) := by decide +kernel
theorem dX6_alike_55 : decode cX6_alike 55 = .ok (.iconst 0, 1) := by decide +kernel
theorem dX6_alike_56 : decode cX6_alike 56 = .ok (.istore_n 3, 1) := by decide +kernel
theorem dX6_alike_57 : decode cX6_alike 57 = .ok (.iinc 4 1, 3) := by decide +kernel
theorem dX6_alike_60 : decode cX6_alike 60 = .ok (.goto (-37), 3) := by decide +kernel
theorem dX6_alike_63 : decode cX6_alike 63 = .ok (.iload_n 3, 1) := by decide +kernel
theorem dX6_alike_64 : decode cX6_alike 64 = .ok (.ifCond .eq 7, 3) := by decide +kernel
theorem dX6_alike_67 : decode cX6_alike 67 = .ok (.iconst 1, 1) := by decide +kernel
theorem dX6_alike_68 : decode cX6_alike 68 = .ok (.goto 4, 3) := by decide +kernel
theorem dX6_alike_71 : decode cX6_alike 71 = .ok (.iconst 0, 1) := by decide +kernel
theorem dX6_alike_72 : decode cX6_alike 72 = .ok (.ireturn, 1) := by decide +kernel
theorem dX6_ones_0 : decode cX6_ones 0 = .ok (.iconst 0, 1) := by decide +kernel
theorem dX6_ones_1 : decode cX6_ones 1 = .ok (.istore_n 1, 1) := by decide +kernel
theorem dX6_ones_2 : decode cX6_ones 2 = .ok (.iconst 0, 1) := by decide +kernel
theorem dX6_ones_3 : decode cX6_ones 3 = .ok (.istore_n 2, 1) := by decide +kernel
theorem dX6_ones_4 : decode cX6_ones 4 = .ok (.iload_n 2, 1) := by decide +kernel
theorem dX6_ones_5 : decode cX6_ones 5 = .ok (.iconst 4, 1) := by decide +kernel
theorem dX6_ones_6 : decode cX6_ones 6 = .ok (.if_icmp .ge 17, 3) := by decide +kernel
theorem dX6_ones_9 : decode cX6_ones 9 = .ok (.iload_n 1, 1) := by decide +kernel
theorem dX6_ones_10 : decode cX6_ones 10 = .ok (.iload_n 0, 1) := by decide +kernel
theorem dX6_ones_11 : decode cX6_ones 11 = .ok (.iload_n 2, 1) := by decide +kernel
theorem dX6_ones_12 : decode cX6_ones 12 = .ok (.ishr, 1) := by decide +kernel
theorem dX6_ones_13 : decode cX6_ones 13 = .ok (.iconst 1, 1) := by decide +kernel
theorem dX6_ones_14 : decode cX6_ones 14 = .ok (.iand, 1) := by decide +kernel
theorem dX6_ones_15 : decode cX6_ones 15 = .ok (.iadd, 1) := by decide +kernel
theorem dX6_ones_16 : decode cX6_ones 16 = .ok (.istore_n 1, 1) := by decide +kernel
theorem dX6_ones_17 : decode cX6_ones 17 = .ok (.iinc 2 1, 3) := by decide +kernel
theorem dX6_ones_20 : decode cX6_ones 20 = .ok (.goto (-16), 3) := by decide +kernel
theorem dX6_ones_23 : decode cX6_ones 23 = .ok (.iload_n 1, 1) := by decide +kernel
theorem dX6_ones_24 : decode cX6_ones 24 = .ok (.ireturn, 1) := by decide +kernel
set_option maxRecDepth 20000 in
theorem ggX6_best_X6_isPort : GoodIn wsX6_best wsX6_isPort := goodIn_r _ [10, 2, 11, 12, 9, 13, 14, 15, 16, 90, 91, 92, 93, 94, 95, 96, 97, 98, 99, 100, 101, 102, 103, 104, 105, 106, 107, 108] (by decide +kernel) (by decide +kernel)
set_option maxRecDepth 20000 in
theorem gX6_best_X6_isPort : GoodIn wsX6_best (wsV RX6 114 RX6 yX6_isPort wsX6_isPort) := goodIn_app (goodIn_of _ (by decide +kernel)) ggX6_best_X6_isPort
set_option maxRecDepth 20000 in
theorem ggX6_best_X6_in : GoodIn wsX6_best wsX6_in := goodIn_r _ [16] (by decide +kernel) (by decide +kernel)
set_option maxRecDepth 20000 in
theorem gX6_best_X6_in : GoodIn wsX6_best (va_wsS RX6 48 yX6_in wsX6_in) := goodIn_app (goodIn_of _ (by decide +kernel)) ggX6_best_X6_in
set_option maxRecDepth 20000 in
theorem ggX6_best_X6_doors : GoodIn wsX6_best wsX6_doors := goodIn_r _ [19, 20, 21, 9, 22, 23, 24, 25, 14, 15, 16] (by decide +kernel) (by decide +kernel)
set_option maxRecDepth 20000 in
theorem gX6_best_X6_doors : GoodIn wsX6_best (va_wsS RX6 77 yX6_doors wsX6_doors) := goodIn_app (goodIn_of _ (by decide +kernel)) ggX6_best_X6_doors
set_option maxRecDepth 20000 in
theorem ggX6_best_X6_copies : GoodIn wsX6_best wsX6_copies := goodIn_r _ [28] (by decide +kernel) (by decide +kernel)
set_option maxRecDepth 20000 in
theorem gX6_best_X6_copies : GoodIn wsX6_best (va_wsS RX6 88 yX6_copies wsX6_copies) := goodIn_app (goodIn_of _ (by decide +kernel)) ggX6_best_X6_copies
set_option maxRecDepth 20000 in
theorem ggX6_best_X6_doorCell : GoodIn wsX6_best wsX6_doorCell := goodIn_r _ [31, 20, 21, 9, 22, 23, 24, 25, 14, 15, 16] (by decide +kernel) (by decide +kernel)
set_option maxRecDepth 20000 in
theorem gX6_best_X6_doorCell : GoodIn wsX6_best (va_wsS RX6 104 yX6_doorCell wsX6_doorCell) := goodIn_app (goodIn_of _ (by decide +kernel)) ggX6_best_X6_doorCell
set_option maxRecDepth 20000 in
theorem ggX6_best_X6_shares : GoodIn wsX6_best wsX6_shares := goodIn_r _ [35, 4, 5, 36, 37, 38, 9, 39, 40, 41, 42, 43, 44, 45, 46, 47, 48, 14, 15, 16, 49, 50, 51, 52, 53, 54, 55, 56, 57, 58, 59, 60, 61, 62, 63, 64, 65, 66, 67, 68, 69, 70, 71, 72, 73, 74, 75, 76, 77, 78, 79, 80, 81, 82, 83, 84, 85, 86, 90, 91, 92, 93, 94, 95, 96, 97, 98, 99, 100, 101, 102, 103, 104, 105, 106, 107, 108] (by decide +kernel) (by decide +kernel)
set_option maxRecDepth 20000 in
theorem gX6_best_X6_shares : GoodIn wsX6_best (wsV RX6 170 RX6 yX6_shares wsX6_shares) := goodIn_app (goodIn_of _ (by decide +kernel)) ggX6_best_X6_shares
set_option maxRecDepth 20000 in
theorem ggX6_best_X6_ones : GoodIn wsX6_best wsX6_ones := goodIn_r _ [89] (by decide +kernel) (by decide +kernel)
set_option maxRecDepth 20000 in
theorem gX6_best_X6_ones : GoodIn wsX6_best (va_wsS RX6 192 yX6_ones wsX6_ones) := goodIn_app (goodIn_of _ (by decide +kernel)) ggX6_best_X6_ones
theorem dX6_best_0 : decode cX6_best 0 = .ok (.aload_n 0, 1) := by decide +kernel
theorem dX6_best_1 : decode cX6_best 1 = .ok (.iload_n 1, 1) := by decide +kernel
theorem dX6_best_2 : decode cX6_best 2 = .ok (.invokevirtual 114, 3) := by decide +kernel
theorem dX6_best_5 : decode cX6_best 5 = .ok (.ifCond .eq 20, 3) := by decide +kernel
theorem dX6_best_8 : decode cX6_best 8 = .ok (.aload_n 0, 1) := by decide +kernel
theorem dX6_best_9 : decode cX6_best 9 = .ok (.iload_n 2, 1) := by decide +kernel
theorem dX6_best_10 : decode cX6_best 10 = .ok (.invokevirtual 114, 3) := by decide +kernel
theorem dX6_best_13 : decode cX6_best 13 = .ok (.ifCond .eq 12, 3) := by decide +kernel
theorem dX6_best_16 : decode cX6_best 16 = .ok (.iload_n 3, 1) := by decide +kernel
theorem dX6_best_17 : decode cX6_best 17 = .ok (.iconst 0, 1) := by decide +kernel
theorem dX6_best_18 : decode cX6_best 18 = .ok (.iconst 2, 1) := by decide +kernel
theorem dX6_best_19 : decode cX6_best 19 = .ok (.invokestatic 48, 3) := by decide +kernel
theorem dX6_best_22 : decode cX6_best 22 = .ok (.ifCond .ne 5, 3) := by decide +kernel
theorem dX6_best_25 : decode cX6_best 25 = .ok (.iconst (-1), 1) := by decide +kernel
theorem dX6_best_26 : decode cX6_best 26 = .ok (.ireturn, 1) := by decide +kernel
theorem dX6_best_27 : decode cX6_best 27 = .ok (.iconst 0, 1) := by decide +kernel
theorem dX6_best_28 : decode cX6_best 28 = .ok (.istore 4, 2) := by decide +kernel
theorem dX6_best_30 : decode cX6_best 30 = .ok (.ldc2_w 190, 3) := by decide +kernel
theorem dX6_best_33 : decode cX6_best 33 = .ok (.lstore 5, 2) := by decide +kernel
theorem dX6_best_35 : decode cX6_best 35 = .ok (.lconst 1, 1) := by decide +kernel
theorem dX6_best_36 : decode cX6_best 36 = .ok (.lstore 7, 2) := by decide +kernel
theorem dX6_best_38 : decode cX6_best 38 = .ok (.aload_n 0, 1) := by decide +kernel
theorem dX6_best_39 : decode cX6_best 39 = .ok (.getfield 7, 3) := by decide +kernel
theorem dX6_best_42 : decode cX6_best 42 = .ok (.invokestatic 77, 3) := by decide +kernel
theorem dX6_best_45 : decode cX6_best 45 = .ok (.istore 9, 2) := by decide +kernel
theorem dX6_best_47 : decode cX6_best 47 = .ok (.iconst 0, 1) := by decide +kernel
theorem dX6_best_48 : decode cX6_best 48 = .ok (.istore 10, 2) := by decide +kernel
theorem dX6_best_50 : decode cX6_best 50 = .ok (.iload 10, 2) := by decide +kernel
theorem dX6_best_52 : decode cX6_best 52 = .ok (.iconst 1, 1) := by decide +kernel
theorem dX6_best_53 : decode cX6_best 53 = .ok (.iload 9, 2) := by decide +kernel
theorem dX6_best_55 : decode cX6_best 55 = .ok (.ishl, 1) := by decide +kernel
theorem dX6_best_56 : decode cX6_best 56 = .ok (.if_icmp .ge 134, 3) := by decide +kernel
theorem dX6_best_59 : decode cX6_best 59 = .ok (.aload_n 0, 1) := by decide +kernel
theorem dX6_best_60 : decode cX6_best 60 = .ok (.getfield 7, 3) := by decide +kernel
theorem dX6_best_63 : decode cX6_best 63 = .ok (.iconst 0, 1) := by decide +kernel
theorem dX6_best_64 : decode cX6_best 64 = .ok (.aload_n 0, 1) := by decide +kernel
theorem dX6_best_65 : decode cX6_best 65 = .ok (.getfield 16, 3) := by decide +kernel
theorem dX6_best_68 : decode cX6_best 68 = .ok (.iconst 0, 1) := by decide +kernel
theorem dX6_best_69 : decode cX6_best 69 = .ok (.invokestatic 88, 3) := by decide +kernel
theorem dX6_best_72 : decode cX6_best 72 = .ok (.iconst 0, 1) := by decide +kernel
theorem dX6_best_73 : decode cX6_best 73 = .ok (.istore 11, 2) := by decide +kernel
theorem dX6_best_75 : decode cX6_best 75 = .ok (.iload 11, 2) := by decide +kernel
theorem dX6_best_77 : decode cX6_best 77 = .ok (.iload 9, 2) := by decide +kernel
theorem dX6_best_79 : decode cX6_best 79 = .ok (.if_icmp .ge 35, 3) := by decide +kernel
theorem dX6_best_82 : decode cX6_best 82 = .ok (.aload_n 0, 1) := by decide +kernel
theorem dX6_best_83 : decode cX6_best 83 = .ok (.getfield 16, 3) := by decide +kernel
theorem dX6_best_86 : decode cX6_best 86 = .ok (.iconst 2, 1) := by decide +kernel
theorem dX6_best_87 : decode cX6_best 87 = .ok (.aload_n 0, 1) := by decide +kernel
theorem dX6_best_88 : decode cX6_best 88 = .ok (.getfield 7, 3) := by decide +kernel
theorem dX6_best_91 : decode cX6_best 91 = .ok (.iload 11, 2) := by decide +kernel
theorem dX6_best_93 : decode cX6_best 93 = .ok (.invokestatic 104, 3) := by decide +kernel
theorem dX6_best_96 : decode cX6_best 96 = .ok (.iadd, 1) := by decide +kernel
theorem dX6_best_97 : decode cX6_best 97 = .ok (.bipush 7, 2) := by decide +kernel
theorem dX6_best_99 : decode cX6_best 99 = .ok (.iload 10, 2) := by decide +kernel
theorem dX6_best_101 : decode cX6_best 101 = .ok (.iload 11, 2) := by decide +kernel
theorem dX6_best_103 : decode cX6_best 103 = .ok (.ishr, 1) := by decide +kernel
theorem dX6_best_104 : decode cX6_best 104 = .ok (.iconst 1, 1) := by decide +kernel
theorem dX6_best_105 : decode cX6_best 105 = .ok (.iand, 1) := by decide +kernel
theorem dX6_best_106 : decode cX6_best 106 = .ok (.isub, 1) := by decide +kernel
theorem dX6_best_107 : decode cX6_best 107 = .ok (.iastore, 1) := by decide +kernel
theorem dX6_best_108 : decode cX6_best 108 = .ok (.iinc 11 1, 3) := by decide +kernel
theorem dX6_best_111 : decode cX6_best 111 = .ok (.goto (-36), 3) := by decide +kernel
theorem dX6_best_114 : decode cX6_best 114 = .ok (.aload_n 0, 1) := by decide +kernel
theorem dX6_best_115 : decode cX6_best 115 = .ok (.aload_n 0, 1) := by decide +kernel
theorem dX6_best_116 : decode cX6_best 116 = .ok (.getfield 16, 3) := by decide +kernel
theorem dX6_best_119 : decode cX6_best 119 = .ok (.iload_n 1, 1) := by decide +kernel
theorem dX6_best_120 : decode cX6_best 120 = .ok (.iload_n 2, 1) := by decide +kernel
theorem dX6_best_121 : decode cX6_best 121 = .ok (.invokevirtual 170, 3) := by decide +kernel
theorem dX6_best_124 : decode cX6_best 124 = .ok (.aload_n 0, 1) := by decide +kernel
theorem dX6_best_125 : decode cX6_best 125 = .ok (.getfield 146, 3) := by decide +kernel
theorem dX6_best_128 : decode cX6_best 128 = .ok (.lload 7, 2) := by decide +kernel
theorem dX6_best_130 : decode cX6_best 130 = .ok (.lmul, 1) := by decide +kernel
theorem dX6_best_131 : decode cX6_best 131 = .ok (.lload 5, 2) := by decide +kernel
theorem dX6_best_133 : decode cX6_best 133 = .ok (.aload_n 0, 1) := by decide +kernel
theorem dX6_best_134 : decode cX6_best 134 = .ok (.getfield 150, 3) := by decide +kernel
theorem dX6_best_137 : decode cX6_best 137 = .ok (.lmul, 1) := by decide +kernel
theorem dX6_best_138 : decode cX6_best 138 = .ok (.lsub, 1) := by decide +kernel
theorem dX6_best_139 : decode cX6_best 139 = .ok (.lstore 11, 2) := by decide +kernel
theorem dX6_best_141 : decode cX6_best 141 = .ok (.lload 11, 2) := by decide +kernel
theorem dX6_best_143 : decode cX6_best 143 = .ok (.lconst 0, 1) := by decide +kernel
theorem dX6_best_144 : decode cX6_best 144 = .ok (.lcmp, 1) := by decide +kernel
theorem dX6_best_145 : decode cX6_best 145 = .ok (.ifCond .gt 23, 3) := by decide +kernel
theorem dX6_best_148 : decode cX6_best 148 = .ok (.lload 11, 2) := by decide +kernel
theorem dX6_best_150 : decode cX6_best 150 = .ok (.lconst 0, 1) := by decide +kernel
theorem dX6_best_151 : decode cX6_best 151 = .ok (.lcmp, 1) := by decide +kernel
theorem dX6_best_152 : decode cX6_best 152 = .ok (.ifCond .ne 32, 3) := by decide +kernel
theorem dX6_best_155 : decode cX6_best 155 = .ok (.iload 10, 2) := by decide +kernel
theorem dX6_best_157 : decode cX6_best 157 = .ok (.invokestatic 192, 3) := by decide +kernel
theorem dX6_best_160 : decode cX6_best 160 = .ok (.iload 4, 2) := by decide +kernel
theorem dX6_best_162 : decode cX6_best 162 = .ok (.invokestatic 192, 3) := by decide +kernel
theorem dX6_best_165 : decode cX6_best 165 = .ok (.if_icmp .ge 19, 3) := by decide +kernel
theorem dX6_best_168 : decode cX6_best 168 = .ok (.iload 10, 2) := by decide +kernel
theorem dX6_best_170 : decode cX6_best 170 = .ok (.istore 4, 2) := by decide +kernel
theorem dX6_best_172 : decode cX6_best 172 = .ok (.aload_n 0, 1) := by decide +kernel
theorem dX6_best_173 : decode cX6_best 173 = .ok (.getfield 146, 3) := by decide +kernel
theorem dX6_best_176 : decode cX6_best 176 = .ok (.lstore 5, 2) := by decide +kernel
theorem dX6_best_178 : decode cX6_best 178 = .ok (.aload_n 0, 1) := by decide +kernel
theorem dX6_best_179 : decode cX6_best 179 = .ok (.getfield 150, 3) := by decide +kernel
theorem dX6_best_182 : decode cX6_best 182 = .ok (.lstore 7, 2) := by decide +kernel
theorem dX6_best_184 : decode cX6_best 184 = .ok (.iinc 10 1, 3) := by decide +kernel
theorem dX6_best_187 : decode cX6_best 187 = .ok (.goto (-137), 3) := by decide +kernel
theorem dX6_best_190 : decode cX6_best 190 = .ok (.iload_n 3, 1) := by decide +kernel
theorem dX6_best_191 : decode cX6_best 191 = .ok (.ifCond .ne 8, 3) := by decide +kernel
theorem dX6_best_194 : decode cX6_best 194 = .ok (.iload 4, 2) := by decide +kernel
theorem dX6_best_196 : decode cX6_best 196 = .ok (.goto 16, 3) := by decide +kernel
theorem dX6_best_199 : decode cX6_best 199 = .ok (.iload_n 3, 1) := by decide +kernel
theorem dX6_best_200 : decode cX6_best 200 = .ok (.iconst 1, 1) := by decide +kernel
theorem dX6_best_201 : decode cX6_best 201 = .ok (.if_icmp .ne 8, 3) := by decide +kernel
theorem dX6_best_204 : decode cX6_best 204 = .ok (.lload 5, 2) := by decide +kernel
theorem dX6_best_206 : decode cX6_best 206 = .ok (.goto 5, 3) := by decide +kernel
theorem dX6_best_209 : decode cX6_best 209 = .ok (.lload 7, 2) := by decide +kernel
theorem dX6_best_211 : decode cX6_best 211 = .ok (.l2i, 1) := by decide +kernel
theorem dX6_best_212 : decode cX6_best 212 = .ok (.ireturn, 1) := by decide +kernel
set_option maxRecDepth 20000 in
theorem ggX6_found_X6_isPort : GoodIn wsX6_found wsX6_isPort := goodIn_r _ [9, 1, 10, 11, 8, 12, 13, 14, 15, 77, 78, 79, 80, 81, 82, 83, 84, 85, 86, 87, 88, 89, 90, 91, 92, 93, 94, 95] (by decide +kernel) (by decide +kernel)
set_option maxRecDepth 20000 in
theorem gX6_found_X6_isPort : GoodIn wsX6_found (wsV RX6 114 RX6 yX6_isPort wsX6_isPort) := goodIn_app (goodIn_of _ (by decide +kernel)) ggX6_found_X6_isPort
set_option maxRecDepth 20000 in
theorem ggX6_found_X6_in : GoodIn wsX6_found wsX6_in := goodIn_r _ [15] (by decide +kernel) (by decide +kernel)
set_option maxRecDepth 20000 in
theorem gX6_found_X6_in : GoodIn wsX6_found (va_wsS RX6 48 yX6_in wsX6_in) := goodIn_app (goodIn_of _ (by decide +kernel)) ggX6_found_X6_in
set_option maxRecDepth 20000 in
theorem ggX6_found_X6_cells : GoodIn wsX6_found wsX6_cells := goodIn_r _ [18] (by decide +kernel) (by decide +kernel)
set_option maxRecDepth 20000 in
theorem gX6_found_X6_cells : GoodIn wsX6_found (va_wsS RX6 52 yX6_cells wsX6_cells) := goodIn_app (goodIn_of _ (by decide +kernel)) ggX6_found_X6_cells
set_option maxRecDepth 20000 in
theorem ggX6_found_X6_copies : GoodIn wsX6_found wsX6_copies := goodIn_r _ [21] (by decide +kernel) (by decide +kernel)
set_option maxRecDepth 20000 in
theorem gX6_found_X6_copies : GoodIn wsX6_found (va_wsS RX6 88 yX6_copies wsX6_copies) := goodIn_app (goodIn_of _ (by decide +kernel)) ggX6_found_X6_copies
set_option maxRecDepth 20000 in
theorem ggX6_found_X6_shares : GoodIn wsX6_found wsX6_shares := goodIn_r _ [25, 3, 4, 26, 27, 28, 8, 29, 30, 31, 32, 33, 34, 35, 36, 37, 38, 13, 14, 15, 39, 40, 41, 42, 43, 44, 45, 46, 47, 48, 49, 50, 51, 52, 53, 54, 55, 56, 57, 58, 59, 60, 61, 62, 63, 64, 65, 66, 67, 68, 69, 70, 71, 72, 73, 74, 75, 76, 77, 78, 79, 80, 81, 82, 83, 84, 85, 86, 87, 88, 89, 90, 91, 92, 93, 94, 95] (by decide +kernel) (by decide +kernel)
set_option maxRecDepth 20000 in
theorem gX6_found_X6_shares : GoodIn wsX6_found (wsV RX6 170 RX6 yX6_shares wsX6_shares) := goodIn_app (goodIn_of _ (by decide +kernel)) ggX6_found_X6_shares
theorem dX6_found_0 : decode cX6_found 0 = .ok (.aload_n 0, 1) := by decide +kernel
theorem dX6_found_1 : decode cX6_found 1 = .ok (.iload_n 1, 1) := by decide +kernel
theorem dX6_found_2 : decode cX6_found 2 = .ok (.invokevirtual 114, 3) := by decide +kernel
theorem dX6_found_5 : decode cX6_found 5 = .ok (.ifCond .eq 44, 3) := by decide +kernel
theorem dX6_found_8 : decode cX6_found 8 = .ok (.aload_n 0, 1) := by decide +kernel
theorem dX6_found_9 : decode cX6_found 9 = .ok (.iload_n 2, 1) := by decide +kernel
theorem dX6_found_10 : decode cX6_found 10 = .ok (.invokevirtual 114, 3) := by decide +kernel
theorem dX6_found_13 : decode cX6_found 13 = .ok (.ifCond .eq 36, 3) := by decide +kernel
theorem dX6_found_16 : decode cX6_found 16 = .ok (.iload_n 3, 1) := by decide +kernel
theorem dX6_found_17 : decode cX6_found 17 = .ok (.iconst 0, 1) := by decide +kernel
theorem dX6_found_18 : decode cX6_found 18 = .ok (.sipush 1000, 3) := by decide +kernel
theorem dX6_found_21 : decode cX6_found 21 = .ok (.invokestatic 48, 3) := by decide +kernel
theorem dX6_found_24 : decode cX6_found 24 = .ok (.ifCond .eq 25, 3) := by decide +kernel
theorem dX6_found_27 : decode cX6_found 27 = .ok (.iload 4, 2) := by decide +kernel
theorem dX6_found_29 : decode cX6_found 29 = .ok (.iconst 1, 1) := by decide +kernel
theorem dX6_found_30 : decode cX6_found 30 = .ok (.sipush 1000, 3) := by decide +kernel
theorem dX6_found_33 : decode cX6_found 33 = .ok (.invokestatic 48, 3) := by decide +kernel
theorem dX6_found_36 : decode cX6_found 36 = .ok (.ifCond .eq 13, 3) := by decide +kernel
theorem dX6_found_39 : decode cX6_found 39 = .ok (.iload 5, 2) := by decide +kernel
theorem dX6_found_41 : decode cX6_found 41 = .ok (.iconst 0, 1) := by decide +kernel
theorem dX6_found_42 : decode cX6_found 42 = .ok (.iconst 1, 1) := by decide +kernel
theorem dX6_found_43 : decode cX6_found 43 = .ok (.invokestatic 48, 3) := by decide +kernel
theorem dX6_found_46 : decode cX6_found 46 = .ok (.ifCond .ne 5, 3) := by decide +kernel
theorem dX6_found_49 : decode cX6_found 49 = .ok (.iconst (-1), 1) := by decide +kernel
theorem dX6_found_50 : decode cX6_found 50 = .ok (.ireturn, 1) := by decide +kernel
theorem dX6_found_51 : decode cX6_found 51 = .ok (.iconst 0, 1) := by decide +kernel
theorem dX6_found_52 : decode cX6_found 52 = .ok (.istore 6, 2) := by decide +kernel
theorem dX6_found_54 : decode cX6_found 54 = .ok (.bipush (-4), 2) := by decide +kernel
theorem dX6_found_56 : decode cX6_found 56 = .ok (.istore 7, 2) := by decide +kernel
theorem dX6_found_58 : decode cX6_found 58 = .ok (.iconst 0, 1) := by decide +kernel
theorem dX6_found_59 : decode cX6_found 59 = .ok (.istore 8, 2) := by decide +kernel
theorem dX6_found_61 : decode cX6_found 61 = .ok (.iload 8, 2) := by decide +kernel
theorem dX6_found_63 : decode cX6_found 63 = .ok (.aload_n 0, 1) := by decide +kernel
theorem dX6_found_64 : decode cX6_found 64 = .ok (.getfield 7, 3) := by decide +kernel
theorem dX6_found_67 : decode cX6_found 67 = .ok (.invokestatic 52, 3) := by decide +kernel
theorem dX6_found_70 : decode cX6_found 70 = .ok (.if_icmp .ge 115, 3) := by decide +kernel
theorem dX6_found_73 : decode cX6_found 73 = .ok (.iconst 1, 1) := by decide +kernel
theorem dX6_found_74 : decode cX6_found 74 = .ok (.istore 9, 2) := by decide +kernel
theorem dX6_found_76 : decode cX6_found 76 = .ok (.iload 9, 2) := by decide +kernel
theorem dX6_found_78 : decode cX6_found 78 = .ok (.iconst 3, 1) := by decide +kernel
theorem dX6_found_79 : decode cX6_found 79 = .ok (.if_icmp .ge 100, 3) := by decide +kernel
theorem dX6_found_82 : decode cX6_found 82 = .ok (.aload_n 0, 1) := by decide +kernel
theorem dX6_found_83 : decode cX6_found 83 = .ok (.getfield 7, 3) := by decide +kernel
theorem dX6_found_86 : decode cX6_found 86 = .ok (.iconst 2, 1) := by decide +kernel
theorem dX6_found_87 : decode cX6_found 87 = .ok (.iload 8, 2) := by decide +kernel
theorem dX6_found_89 : decode cX6_found 89 = .ok (.iadd, 1) := by decide +kernel
theorem dX6_found_90 : decode cX6_found 90 = .ok (.iaload, 1) := by decide +kernel
theorem dX6_found_91 : decode cX6_found 91 = .ok (.ifCond .ne 88, 3) := by decide +kernel
theorem dX6_found_94 : decode cX6_found 94 = .ok (.aload_n 0, 1) := by decide +kernel
theorem dX6_found_95 : decode cX6_found 95 = .ok (.getfield 7, 3) := by decide +kernel
