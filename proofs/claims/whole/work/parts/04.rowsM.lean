theorem dX5_init_0 : decode cX5_init 0 = .ok (.aload_n 0, 1) := by decide +kernel
theorem dX5_init_1 : decode cX5_init 1 = .ok (.invokespecial 1, 3) := by decide +kernel
theorem dX5_init_4 : decode cX5_init 4 = .ok (.aload_n 0, 1) := by decide +kernel
theorem dX5_init_5 : decode cX5_init 5 = .ok (.bipush 8, 2) := by decide +kernel
theorem dX5_init_7 : decode cX5_init 7 = .ok (.putfield 7, 3) := by decide +kernel
theorem dX5_init_10 : decode cX5_init 10 = .ok (.aload_n 0, 1) := by decide +kernel
theorem dX5_init_11 : decode cX5_init 11 = .ok (.bipush 24, 2) := by decide +kernel
theorem dX5_init_13 : decode cX5_init 13 = .ok (.newarray .int, 2) := by decide +kernel
theorem dX5_init_15 : decode cX5_init 15 = .ok (.putfield 13, 3) := by decide +kernel
theorem dX5_init_18 : decode cX5_init 18 = .ok (.aload_n 0, 1) := by decide +kernel
theorem dX5_init_19 : decode cX5_init 19 = .ok (.bipush 24, 2) := by decide +kernel
theorem dX5_init_21 : decode cX5_init 21 = .ok (.newarray .int, 2) := by decide +kernel
theorem dX5_init_23 : decode cX5_init 23 = .ok (.putfield 17, 3) := by decide +kernel
theorem dX5_init_26 : decode cX5_init 26 = .ok (.aload_n 0, 1) := by decide +kernel
theorem dX5_init_27 : decode cX5_init 27 = .ok (.bipush 24, 2) := by decide +kernel
theorem dX5_init_29 : decode cX5_init 29 = .ok (.newarray .boolean, 2) := by decide +kernel
theorem dX5_init_31 : decode cX5_init 31 = .ok (.putfield 20, 3) := by decide +kernel
theorem dX5_init_34 : decode cX5_init 34 = .ok (.aload_n 0, 1) := by decide +kernel
theorem dX5_init_35 : decode cX5_init 35 = .ok (.bipush 24, 2) := by decide +kernel
theorem dX5_init_37 : decode cX5_init 37 = .ok (.newarray .boolean, 2) := by decide +kernel
theorem dX5_init_39 : decode cX5_init 39 = .ok (.putfield 24, 3) := by decide +kernel
theorem dX5_init_42 : decode cX5_init 42 = .ok (.aload_n 0, 1) := by decide +kernel
theorem dX5_init_43 : decode cX5_init 43 = .ok (.sipush 1536, 3) := by decide +kernel
theorem dX5_init_46 : decode cX5_init 46 = .ok (.newarray .int, 2) := by decide +kernel
theorem dX5_init_48 : decode cX5_init 48 = .ok (.putfield 27, 3) := by decide +kernel
theorem dX5_init_51 : decode cX5_init 51 = .ok (.aload_n 0, 1) := by decide +kernel
theorem dX5_init_52 : decode cX5_init 52 = .ok (.sipush 1536, 3) := by decide +kernel
theorem dX5_init_55 : decode cX5_init 55 = .ok (.newarray .boolean, 2) := by decide +kernel
theorem dX5_init_57 : decode cX5_init 57 = .ok (.putfield 30, 3) := by decide +kernel
theorem dX5_init_60 : decode cX5_init 60 = .ok (.aload_n 0, 1) := by decide +kernel
theorem dX5_init_61 : decode cX5_init 61 = .ok (.sipush 1536, 3) := by decide +kernel
theorem dX5_init_64 : decode cX5_init 64 = .ok (.newarray .boolean, 2) := by decide +kernel
theorem dX5_init_66 : decode cX5_init 66 = .ok (.putfield 33, 3) := by decide +kernel
theorem dX5_init_69 : decode cX5_init 69 = .ok (.aload_n 0, 1) := by decide +kernel
theorem dX5_init_70 : decode cX5_init 70 = .ok (.sipush 1536, 3) := by decide +kernel
theorem dX5_init_73 : decode cX5_init 73 = .ok (.newarray .boolean, 2) := by decide +kernel
theorem dX5_init_75 : decode cX5_init 75 = .ok (.putfield 36, 3) := by decide +kernel
theorem dX5_init_78 : decode cX5_init 78 = .ok (.aload_n 0, 1) := by decide +kernel
theorem dX5_init_79 : decode cX5_init 79 = .ok (.sipush 1536, 3) := by decide +kernel
theorem dX5_init_82 : decode cX5_init 82 = .ok (.newarray .int, 2) := by decide +kernel
theorem dX5_init_84 : decode cX5_init 84 = .ok (.putfield 39, 3) := by decide +kernel
theorem dX5_init_87 : decode cX5_init 87 = .ok (.aload_n 0, 1) := by decide +kernel
theorem dX5_init_88 : decode cX5_init 88 = .ok (.sipush 1536, 3) := by decide +kernel
theorem dX5_init_91 : decode cX5_init 91 = .ok (.newarray .int, 2) := by decide +kernel
theorem dX5_init_93 : decode cX5_init 93 = .ok (.putfield 42, 3) := by decide +kernel
theorem dX5_init_96 : decode cX5_init 96 = .ok (.aload_n 0, 1) := by decide +kernel
theorem dX5_init_97 : decode cX5_init 97 = .ok (.bipush 10, 2) := by decide +kernel
theorem dX5_init_99 : decode cX5_init 99 = .ok (.newarray .int, 2) := by decide +kernel
theorem dX5_init_101 : decode cX5_init 101 = .ok (.putfield 45, 3) := by decide +kernel
theorem dX5_init_104 : decode cX5_init 104 = .ok (.aload_n 0, 1) := by decide +kernel
theorem dX5_init_105 : decode cX5_init 105 = .ok (.bipush 24, 2) := by decide +kernel
theorem dX5_init_107 : decode cX5_init 107 = .ok (.newarray .int, 2) := by decide +kernel
theorem dX5_init_109 : decode cX5_init 109 = .ok (.putfield 48, 3) := by decide +kernel
theorem dX5_init_112 : decode cX5_init 112 = .ok (.aload_n 0, 1) := by decide +kernel
theorem dX5_init_113 : decode cX5_init 113 = .ok (.bipush 12, 2) := by decide +kernel
theorem dX5_init_115 : decode cX5_init 115 = .ok (.newarray .int, 2) := by decide +kernel
theorem dX5_init_117 : decode cX5_init 117 = .ok (.putfield 51, 3) := by decide +kernel
theorem dX5_init_120 : decode cX5_init 120 = .ok (.aload_n 0, 1) := by decide +kernel
theorem dX5_init_121 : decode cX5_init 121 = .ok (.iconst 1, 1) := by decide +kernel
theorem dX5_init_122 : decode cX5_init 122 = .ok (.putfield 54, 3) := by decide +kernel
theorem dX5_init_125 : decode cX5_init 125 = .ok (.aload_n 0, 1) := by decide +kernel
theorem dX5_init_126 : decode cX5_init 126 = .ok (.sipush 1536, 3) := by decide +kernel
theorem dX5_init_129 : decode cX5_init 129 = .ok (.newarray .boolean, 2) := by decide +kernel
theorem dX5_init_131 : decode cX5_init 131 = .ok (.putfield 58, 3) := by decide +kernel
theorem dX5_init_134 : decode cX5_init 134 = .ok (.iconst 0, 1) := by decide +kernel
theorem dX5_init_135 : decode cX5_init 135 = .ok (.istore_n 1, 1) := by decide +kernel
theorem dX5_init_136 : decode cX5_init 136 = .ok (.iload_n 1, 1) := by decide +kernel
theorem dX5_init_137 : decode cX5_init 137 = .ok (.bipush 10, 2) := by decide +kernel
theorem dX5_init_139 : decode cX5_init 139 = .ok (.if_icmp .ge 16, 3) := by decide +kernel
theorem dX5_init_142 : decode cX5_init 142 = .ok (.aload_n 0, 1) := by decide +kernel
theorem dX5_init_143 : decode cX5_init 143 = .ok (.getfield 45, 3) := by decide +kernel
theorem dX5_init_146 : decode cX5_init 146 = .ok (.iload_n 1, 1) := by decide +kernel
theorem dX5_init_147 : decode cX5_init 147 = .ok (.iconst (-1), 1) := by decide +kernel
theorem dX5_init_148 : decode cX5_init 148 = .ok (.iastore, 1) := by decide +kernel
theorem dX5_init_149 : decode cX5_init 149 = .ok (.iinc 1 1, 3) := by decide +kernel
theorem dX5_init_152 : decode cX5_init 152 = .ok (.goto (-16), 3) := by decide +kernel
theorem dX5_init_155 : decode cX5_init 155 = .ok (.return_, 1) := by decide +kernel
theorem dX5_in_0 : decode cX5_in 0 = .ok (.iload_n 0, 1) := by decide +kernel
theorem dX5_in_1 : decode cX5_in 1 = .ok (.iload_n 1, 1) := by decide +kernel
theorem dX5_in_2 : decode cX5_in 2 = .ok (.if_icmp .lt 12, 3) := by decide +kernel
theorem dX5_in_5 : decode cX5_in 5 = .ok (.iload_n 0, 1) := by decide +kernel
theorem dX5_in_6 : decode cX5_in 6 = .ok (.iload_n 2, 1) := by decide +kernel
theorem dX5_in_7 : decode cX5_in 7 = .ok (.if_icmp .gt 7, 3) := by decide +kernel
theorem dX5_in_10 : decode cX5_in 10 = .ok (.iconst 1, 1) := by decide +kernel
theorem dX5_in_11 : decode cX5_in 11 = .ok (.goto 4, 3) := by decide +kernel
theorem dX5_in_14 : decode cX5_in 14 = .ok (.iconst 0, 1) := by decide +kernel
theorem dX5_in_15 : decode cX5_in 15 = .ok (.ireturn, 1) := by decide +kernel
theorem dX5_things_0 : decode cX5_things 0 = .ok (.iconst 0, 1) := by decide +kernel
theorem dX5_things_1 : decode cX5_things 1 = .ok (.istore_n 1, 1) := by decide +kernel
theorem dX5_things_2 : decode cX5_things 2 = .ok (.iconst 0, 1) := by decide +kernel
theorem dX5_things_3 : decode cX5_things 3 = .ok (.istore_n 2, 1) := by decide +kernel
theorem dX5_things_4 : decode cX5_things 4 = .ok (.iload_n 2, 1) := by decide +kernel
theorem dX5_things_5 : decode cX5_things 5 = .ok (.bipush 64, 2) := by decide +kernel
theorem dX5_things_7 : decode cX5_things 7 = .ok (.aload_n 0, 1) := by decide +kernel
theorem dX5_things_8 : decode cX5_things 8 = .ok (.getfield 7, 3) := by decide +kernel
theorem dX5_things_11 : decode cX5_things 11 = .ok (.imul, 1) := by decide +kernel
theorem dX5_things_12 : decode cX5_things 12 = .ok (.if_icmp .ge 26, 3) := by decide +kernel
theorem dX5_things_15 : decode cX5_things 15 = .ok (.iload_n 1, 1) := by decide +kernel
theorem dX5_things_16 : decode cX5_things 16 = .ok (.aload_n 0, 1) := by decide +kernel
theorem dX5_things_17 : decode cX5_things 17 = .ok (.getfield 30, 3) := by decide +kernel
theorem dX5_things_20 : decode cX5_things 20 = .ok (.iload_n 2, 1) := by decide +kernel
theorem dX5_things_21 : decode cX5_things 21 = .ok (.baload, 1) := by decide +kernel
theorem dX5_things_22 : decode cX5_things 22 = .ok (.ifCond .eq 7, 3) := by decide +kernel
theorem dX5_things_25 : decode cX5_things 25 = .ok (.iconst 1, 1) := by decide +kernel
theorem dX5_things_26 : decode cX5_things 26 = .ok (.goto 4, 3) := by decide +kernel
theorem dX5_things_29 : decode cX5_things 29 = .ok (.iconst 0, 1) := by decide +kernel
theorem dX5_things_30 : decode cX5_things 30 = .ok (.iadd, 1) := by decide +kernel
theorem dX5_things_31 : decode cX5_things 31 = .ok (.istore_n 1, 1) := by decide +kernel
theorem dX5_things_32 : decode cX5_things 32 = .ok (.iinc 2 1, 3) := by decide +kernel
theorem dX5_things_35 : decode cX5_things 35 = .ok (.goto (-31), 3) := by decide +kernel
theorem dX5_things_38 : decode cX5_things 38 = .ok (.iload_n 1, 1) := by decide +kernel
theorem dX5_things_39 : decode cX5_things 39 = .ok (.ireturn, 1) := by decide +kernel
set_option maxRecDepth 20000 in
theorem ggX5_open_X5_in : GoodIn wsX5_open wsX5_in := goodIn_r _ [14] (by decide +kernel) (by decide +kernel)
set_option maxRecDepth 20000 in
theorem gX5_open_X5_in : GoodIn wsX5_open (va_wsS RX5 61 yX5_in wsX5_in) := goodIn_app (goodIn_of _ (by decide +kernel)) ggX5_open_X5_in
set_option maxRecDepth 20000 in
theorem ggX5_open_X5_things : GoodIn wsX5_open wsX5_things := goodIn_r _ [18, 6, 1, 19, 20, 21, 22, 23, 24, 25, 26, 27, 28, 29, 30, 31, 32, 33, 34, 35, 36, 37, 38, 39, 40, 41, 42, 43, 44, 45] (by decide +kernel) (by decide +kernel)
set_option maxRecDepth 20000 in
theorem gX5_open_X5_things : GoodIn wsX5_open (wsV RX5 65 RX5 yX5_things wsX5_things) := goodIn_app (goodIn_of _ (by decide +kernel)) ggX5_open_X5_things
theorem dX5_open_0 : decode cX5_open 0 = .ok (.iload_n 1, 1) := by decide +kernel
theorem dX5_open_1 : decode cX5_open 1 = .ok (.iconst 1, 1) := by decide +kernel
theorem dX5_open_2 : decode cX5_open 2 = .ok (.bipush 24, 2) := by decide +kernel
theorem dX5_open_4 : decode cX5_open 4 = .ok (.invokestatic 61, 3) := by decide +kernel
theorem dX5_open_7 : decode cX5_open 7 = .ok (.ifCond .ne 6, 3) := by decide +kernel
theorem dX5_open_10 : decode cX5_open 10 = .ok (.bipush (-102), 2) := by decide +kernel
theorem dX5_open_12 : decode cX5_open 12 = .ok (.ireturn, 1) := by decide +kernel
theorem dX5_open_13 : decode cX5_open 13 = .ok (.aload_n 0, 1) := by decide +kernel
theorem dX5_open_14 : decode cX5_open 14 = .ok (.invokevirtual 65, 3) := by decide +kernel
theorem dX5_open_17 : decode cX5_open 17 = .ok (.istore_n 2, 1) := by decide +kernel
theorem dX5_open_18 : decode cX5_open 18 = .ok (.iconst 0, 1) := by decide +kernel
theorem dX5_open_19 : decode cX5_open 19 = .ok (.istore_n 3, 1) := by decide +kernel
theorem dX5_open_20 : decode cX5_open 20 = .ok (.iload_n 3, 1) := by decide +kernel
theorem dX5_open_21 : decode cX5_open 21 = .ok (.sipush 1536, 3) := by decide +kernel
theorem dX5_open_24 : decode cX5_open 24 = .ok (.if_icmp .ge 16, 3) := by decide +kernel
theorem dX5_open_27 : decode cX5_open 27 = .ok (.aload_n 0, 1) := by decide +kernel
theorem dX5_open_28 : decode cX5_open 28 = .ok (.getfield 30, 3) := by decide +kernel
theorem dX5_open_31 : decode cX5_open 31 = .ok (.iload_n 3, 1) := by decide +kernel
theorem dX5_open_32 : decode cX5_open 32 = .ok (.iconst 0, 1) := by decide +kernel
theorem dX5_open_33 : decode cX5_open 33 = .ok (.bastore, 1) := by decide +kernel
theorem dX5_open_34 : decode cX5_open 34 = .ok (.iinc 3 1, 3) := by decide +kernel
theorem dX5_open_37 : decode cX5_open 37 = .ok (.goto (-17), 3) := by decide +kernel
theorem dX5_open_40 : decode cX5_open 40 = .ok (.iconst 0, 1) := by decide +kernel
theorem dX5_open_41 : decode cX5_open 41 = .ok (.istore_n 3, 1) := by decide +kernel
theorem dX5_open_42 : decode cX5_open 42 = .ok (.iload_n 3, 1) := by decide +kernel
theorem dX5_open_43 : decode cX5_open 43 = .ok (.bipush 24, 2) := by decide +kernel
theorem dX5_open_45 : decode cX5_open 45 = .ok (.if_icmp .ge 30, 3) := by decide +kernel
theorem dX5_open_48 : decode cX5_open 48 = .ok (.aload_n 0, 1) := by decide +kernel
theorem dX5_open_49 : decode cX5_open 49 = .ok (.getfield 13, 3) := by decide +kernel
theorem dX5_open_52 : decode cX5_open 52 = .ok (.iload_n 3, 1) := by decide +kernel
theorem dX5_open_53 : decode cX5_open 53 = .ok (.iconst 0, 1) := by decide +kernel
theorem dX5_open_54 : decode cX5_open 54 = .ok (.iastore, 1) := by decide +kernel
theorem dX5_open_55 : decode cX5_open 55 = .ok (.aload_n 0, 1) := by decide +kernel
theorem dX5_open_56 : decode cX5_open 56 = .ok (.getfield 20, 3) := by decide +kernel
theorem dX5_open_59 : decode cX5_open 59 = .ok (.iload_n 3, 1) := by decide +kernel
theorem dX5_open_60 : decode cX5_open 60 = .ok (.iconst 0, 1) := by decide +kernel
theorem dX5_open_61 : decode cX5_open 61 = .ok (.bastore, 1) := by decide +kernel
theorem dX5_open_62 : decode cX5_open 62 = .ok (.aload_n 0, 1) := by decide +kernel
theorem dX5_open_63 : decode cX5_open 63 = .ok (.getfield 24, 3) := by decide +kernel
theorem dX5_open_66 : decode cX5_open 66 = .ok (.iload_n 3, 1) := by decide +kernel
theorem dX5_open_67 : decode cX5_open 67 = .ok (.iconst 0, 1) := by decide +kernel
theorem dX5_open_68 : decode cX5_open 68 = .ok (.bastore, 1) := by decide +kernel
theorem dX5_open_69 : decode cX5_open 69 = .ok (.iinc 3 1, 3) := by decide +kernel
theorem dX5_open_72 : decode cX5_open 72 = .ok (.goto (-30), 3) := by decide +kernel
theorem dX5_open_75 : decode cX5_open 75 = .ok (.iconst 0, 1) := by decide +kernel
theorem dX5_open_76 : decode cX5_open 76 = .ok (.istore_n 3, 1) := by decide +kernel
theorem dX5_open_77 : decode cX5_open 77 = .ok (.iload_n 3, 1) := by decide +kernel
theorem dX5_open_78 : decode cX5_open 78 = .ok (.bipush 10, 2) := by decide +kernel
theorem dX5_open_80 : decode cX5_open 80 = .ok (.if_icmp .ge 16, 3) := by decide +kernel
theorem dX5_open_83 : decode cX5_open 83 = .ok (.aload_n 0, 1) := by decide +kernel
theorem dX5_open_84 : decode cX5_open 84 = .ok (.getfield 45, 3) := by decide +kernel
theorem dX5_open_87 : decode cX5_open 87 = .ok (.iload_n 3, 1) := by decide +kernel
theorem dX5_open_88 : decode cX5_open 88 = .ok (.iconst (-1), 1) := by decide +kernel
theorem dX5_open_89 : decode cX5_open 89 = .ok (.iastore, 1) := by decide +kernel
theorem dX5_open_90 : decode cX5_open 90 = .ok (.iinc 3 1, 3) := by decide +kernel
theorem dX5_open_93 : decode cX5_open 93 = .ok (.goto (-16), 3) := by decide +kernel
theorem dX5_open_96 : decode cX5_open 96 = .ok (.aload_n 0, 1) := by decide +kernel
theorem dX5_open_97 : decode cX5_open 97 = .ok (.iload_n 1, 1) := by decide +kernel
theorem dX5_open_98 : decode cX5_open 98 = .ok (.putfield 7, 3) := by decide +kernel
theorem dX5_open_101 : decode cX5_open 101 = .ok (.aload_n 0, 1) := by decide +kernel
theorem dX5_open_102 : decode cX5_open 102 = .ok (.iconst 0, 1) := by decide +kernel
theorem dX5_open_103 : decode cX5_open 103 = .ok (.putfield 69, 3) := by decide +kernel
theorem dX5_open_106 : decode cX5_open 106 = .ok (.aload_n 0, 1) := by decide +kernel
theorem dX5_open_107 : decode cX5_open 107 = .ok (.iconst 0, 1) := by decide +kernel
theorem dX5_open_108 : decode cX5_open 108 = .ok (.putfield 72, 3) := by decide +kernel
theorem dX5_open_111 : decode cX5_open 111 = .ok (.aload_n 0, 1) := by decide +kernel
theorem dX5_open_112 : decode cX5_open 112 = .ok (.iconst 0, 1) := by decide +kernel
theorem dX5_open_113 : decode cX5_open 113 = .ok (.putfield 75, 3) := by decide +kernel
theorem dX5_open_116 : decode cX5_open 116 = .ok (.aload_n 0, 1) := by decide +kernel
theorem dX5_open_117 : decode cX5_open 117 = .ok (.iconst 0, 1) := by decide +kernel
theorem dX5_open_118 : decode cX5_open 118 = .ok (.putfield 78, 3) := by decide +kernel
theorem dX5_open_121 : decode cX5_open 121 = .ok (.iload_n 2, 1) := by decide +kernel
theorem dX5_open_122 : decode cX5_open 122 = .ok (.ireturn, 1) := by decide +kernel
set_option maxRecDepth 20000 in
theorem ggX5_way_X5_in : GoodIn wsX5_way wsX5_in := goodIn_r _ [5] (by decide +kernel) (by decide +kernel)
set_option maxRecDepth 20000 in
theorem gX5_way_X5_in : GoodIn wsX5_way (va_wsS RX5 61 yX5_in wsX5_in) := goodIn_app (goodIn_of _ (by decide +kernel)) ggX5_way_X5_in
set_option maxRecDepth 20000 in
theorem ggX5_way_X5_things : GoodIn wsX5_way wsX5_things := goodIn_r _ [9, 10, 11, 12, 13, 14, 15, 16, 17, 18, 19, 20, 21, 22, 23, 24, 25, 26, 27, 28, 29, 30, 31, 32, 33, 34, 35, 36, 37, 38] (by decide +kernel) (by decide +kernel)
set_option maxRecDepth 20000 in
theorem gX5_way_X5_things : GoodIn wsX5_way (wsV RX5 65 RX5 yX5_things wsX5_things) := goodIn_app (goodIn_of _ (by decide +kernel)) ggX5_way_X5_things
theorem dX5_way_0 : decode cX5_way 0 = .ok (.iload_n 1, 1) := by decide +kernel
theorem dX5_way_1 : decode cX5_way 1 = .ok (.iconst 0, 1) := by decide +kernel
theorem dX5_way_2 : decode cX5_way 2 = .ok (.iconst 1, 1) := by decide +kernel
theorem dX5_way_3 : decode cX5_way 3 = .ok (.invokestatic 61, 3) := by decide +kernel
theorem dX5_way_6 : decode cX5_way 6 = .ok (.ifCond .ne 6, 3) := by decide +kernel
theorem dX5_way_9 : decode cX5_way 9 = .ok (.bipush (-102), 2) := by decide +kernel
theorem dX5_way_11 : decode cX5_way 11 = .ok (.ireturn, 1) := by decide +kernel
theorem dX5_way_12 : decode cX5_way 12 = .ok (.aload_n 0, 1) := by decide +kernel
theorem dX5_way_13 : decode cX5_way 13 = .ok (.invokevirtual 65, 3) := by decide +kernel
theorem dX5_way_16 : decode cX5_way 16 = .ok (.ifCond .le 6, 3) := by decide +kernel
theorem dX5_way_19 : decode cX5_way 19 = .ok (.bipush (-103), 2) := by decide +kernel
theorem dX5_way_21 : decode cX5_way 21 = .ok (.ireturn, 1) := by decide +kernel
theorem dX5_way_22 : decode cX5_way 22 = .ok (.aload_n 0, 1) := by decide +kernel
theorem dX5_way_23 : decode cX5_way 23 = .ok (.getfield 81, 3) := by decide +kernel
theorem dX5_way_26 : decode cX5_way 26 = .ok (.istore_n 2, 1) := by decide +kernel
theorem dX5_way_27 : decode cX5_way 27 = .ok (.aload_n 0, 1) := by decide +kernel
theorem dX5_way_28 : decode cX5_way 28 = .ok (.iload_n 1, 1) := by decide +kernel
theorem dX5_way_29 : decode cX5_way 29 = .ok (.putfield 81, 3) := by decide +kernel
theorem dX5_way_32 : decode cX5_way 32 = .ok (.iload_n 2, 1) := by decide +kernel
theorem dX5_way_33 : decode cX5_way 33 = .ok (.ireturn, 1) := by decide +kernel
theorem dX5_auto_0 : decode cX5_auto 0 = .ok (.aload_n 0, 1) := by decide +kernel
theorem dX5_auto_1 : decode cX5_auto 1 = .ok (.getfield 54, 3) := by decide +kernel
theorem dX5_auto_4 : decode cX5_auto 4 = .ok (.ifCond .eq 7, 3) := by decide +kernel
theorem dX5_auto_7 : decode cX5_auto 7 = .ok (.iconst 1, 1) := by decide +kernel
theorem dX5_auto_8 : decode cX5_auto 8 = .ok (.goto 4, 3) := by decide +kernel
theorem dX5_auto_11 : decode cX5_auto 11 = .ok (.iconst 0, 1) := by decide +kernel
theorem dX5_auto_12 : decode cX5_auto 12 = .ok (.istore_n 2, 1) := by decide +kernel
theorem dX5_auto_13 : decode cX5_auto 13 = .ok (.aload_n 0, 1) := by decide +kernel
theorem dX5_auto_14 : decode cX5_auto 14 = .ok (.iload_n 1, 1) := by decide +kernel
theorem dX5_auto_15 : decode cX5_auto 15 = .ok (.putfield 54, 3) := by decide +kernel
theorem dX5_auto_18 : decode cX5_auto 18 = .ok (.iload_n 2, 1) := by decide +kernel
theorem dX5_auto_19 : decode cX5_auto 19 = .ok (.ireturn, 1) := by decide +kernel
theorem dX5_classOf_0 : decode cX5_classOf 0 = .ok (.iconst 0, 1) := by decide +kernel
theorem dX5_classOf_1 : decode cX5_classOf 1 = .ok (.istore_n 1, 1) := by decide +kernel
theorem dX5_classOf_2 : decode cX5_classOf 2 = .ok (.iconst 2, 1) := by decide +kernel
theorem dX5_classOf_3 : decode cX5_classOf 3 = .ok (.istore_n 2, 1) := by decide +kernel
theorem dX5_classOf_4 : decode cX5_classOf 4 = .ok (.iload_n 1, 1) := by decide +kernel
theorem dX5_classOf_5 : decode cX5_classOf 5 = .ok (.iconst 5, 1) := by decide +kernel
theorem dX5_classOf_6 : decode cX5_classOf 6 = .ok (.if_icmp .ge 18, 3) := by decide +kernel
theorem dX5_classOf_9 : decode cX5_classOf 9 = .ok (.iload_n 0, 1) := by decide +kernel
theorem dX5_classOf_10 : decode cX5_classOf 10 = .ok (.iload_n 2, 1) := by decide +kernel
theorem dX5_classOf_11 : decode cX5_classOf 11 = .ok (.if_icmp .le 13, 3) := by decide +kernel
theorem dX5_classOf_14 : decode cX5_classOf 14 = .ok (.iinc 1 1, 3) := by decide +kernel
theorem dX5_classOf_17 : decode cX5_classOf 17 = .ok (.iload_n 2, 1) := by decide +kernel
theorem dX5_classOf_18 : decode cX5_classOf 18 = .ok (.iconst 2, 1) := by decide +kernel
theorem dX5_classOf_19 : decode cX5_classOf 19 = .ok (.imul, 1) := by decide +kernel
theorem dX5_classOf_20 : decode cX5_classOf 20 = .ok (.istore_n 2, 1) := by decide +kernel
theorem dX5_classOf_21 : decode cX5_classOf 21 = .ok (.goto (-17), 3) := by decide +kernel
theorem dX5_classOf_24 : decode cX5_classOf 24 = .ok (.iload_n 1, 1) := by decide +kernel
theorem dX5_classOf_25 : decode cX5_classOf 25 = .ok (.ireturn, 1) := by decide +kernel
theorem dX5_cell_0 : decode cX5_cell 0 = .ok (.iconst 2, 1) := by decide +kernel
theorem dX5_cell_1 : decode cX5_cell 1 = .ok (.iload_n 0, 1) := by decide +kernel
theorem dX5_cell_2 : decode cX5_cell 2 = .ok (.ishl, 1) := by decide +kernel
theorem dX5_cell_3 : decode cX5_cell 3 = .ok (.ireturn, 1) := by decide +kernel
theorem dX5_size_0 : decode cX5_size 0 = .ok (.aload_n 0, 1) := by decide +kernel
theorem dX5_size_1 : decode cX5_size 1 = .ok (.getfield 39, 3) := by decide +kernel
theorem dX5_size_4 : decode cX5_size 4 = .ok (.iload_n 1, 1) := by decide +kernel
theorem dX5_size_5 : decode cX5_size 5 = .ok (.iaload, 1) := by decide +kernel
theorem dX5_size_6 : decode cX5_size 6 = .ok (.aload_n 0, 1) := by decide +kernel
theorem dX5_size_7 : decode cX5_size 7 = .ok (.getfield 42, 3) := by decide +kernel
theorem dX5_size_10 : decode cX5_size 10 = .ok (.iload_n 1, 1) := by decide +kernel
theorem dX5_size_11 : decode cX5_size 11 = .ok (.iaload, 1) := by decide +kernel
theorem dX5_size_12 : decode cX5_size 12 = .ok (.iadd, 1) := by decide +kernel
theorem dX5_size_13 : decode cX5_size 13 = .ok (.ireturn, 1) := by decide +kernel
set_option maxRecDepth 20000 in
theorem ggX5_blocksOf_X5_size : GoodIn wsX5_blocksOf wsX5_size := goodIn_r _ [5, 6, 7, 8, 9, 10, 11, 12, 13, 14, 15, 16, 17, 18, 19, 20, 21, 22, 23, 24, 25, 26, 27, 28, 29, 30, 31, 32, 33, 34] (by decide +kernel) (by decide +kernel)
set_option maxRecDepth 20000 in
theorem gX5_blocksOf_X5_size : GoodIn wsX5_blocksOf (wsV RX5 84 RX5 yX5_size wsX5_size) := goodIn_app (goodIn_of _ (by decide +kernel)) ggX5_blocksOf_X5_size
theorem dX5_blocksOf_0 : decode cX5_blocksOf 0 = .ok (.aload_n 0, 1) := by decide +kernel
theorem dX5_blocksOf_1 : decode cX5_blocksOf 1 = .ok (.iload_n 1, 1) := by decide +kernel
theorem dX5_blocksOf_2 : decode cX5_blocksOf 2 = .ok (.invokevirtual 84, 3) := by decide +kernel
theorem dX5_blocksOf_5 : decode cX5_blocksOf 5 = .ok (.bipush 64, 2) := by decide +kernel
theorem dX5_blocksOf_7 : decode cX5_blocksOf 7 = .ok (.iadd, 1) := by decide +kernel
theorem dX5_blocksOf_8 : decode cX5_blocksOf 8 = .ok (.iconst 1, 1) := by decide +kernel
theorem dX5_blocksOf_9 : decode cX5_blocksOf 9 = .ok (.isub, 1) := by decide +kernel
theorem dX5_blocksOf_10 : decode cX5_blocksOf 10 = .ok (.bipush 64, 2) := by decide +kernel
theorem dX5_blocksOf_12 : decode cX5_blocksOf 12 = .ok (.idiv, 1) := by decide +kernel
theorem dX5_blocksOf_13 : decode cX5_blocksOf 13 = .ok (.ireturn, 1) := by decide +kernel
set_option maxRecDepth 20000 in
theorem ggX5_isThing_X5_in : GoodIn wsX5_isThing wsX5_in := goodIn_r _ [6] (by decide +kernel) (by decide +kernel)
set_option maxRecDepth 20000 in
theorem gX5_isThing_X5_in : GoodIn wsX5_isThing (va_wsS RX5 61 yX5_in wsX5_in) := goodIn_app (goodIn_of _ (by decide +kernel)) ggX5_isThing_X5_in
theorem dX5_isThing_0 : decode cX5_isThing 0 = .ok (.iload_n 1, 1) := by decide +kernel
theorem dX5_isThing_1 : decode cX5_isThing 1 = .ok (.iconst 0, 1) := by decide +kernel
theorem dX5_isThing_2 : decode cX5_isThing 2 = .ok (.bipush 64, 2) := by decide +kernel
theorem dX5_isThing_4 : decode cX5_isThing 4 = .ok (.aload_n 0, 1) := by decide +kernel
theorem dX5_isThing_5 : decode cX5_isThing 5 = .ok (.getfield 7, 3) := by decide +kernel
theorem dX5_isThing_8 : decode cX5_isThing 8 = .ok (.imul, 1) := by decide +kernel
theorem dX5_isThing_9 : decode cX5_isThing 9 = .ok (.iconst 1, 1) := by decide +kernel
theorem dX5_isThing_10 : decode cX5_isThing 10 = .ok (.isub, 1) := by decide +kernel
theorem dX5_isThing_11 : decode cX5_isThing 11 = .ok (.invokestatic 61, 3) := by decide +kernel
theorem dX5_isThing_14 : decode cX5_isThing 14 = .ok (.ifCond .eq 16, 3) := by decide +kernel
theorem dX5_isThing_17 : decode cX5_isThing 17 = .ok (.aload_n 0, 1) := by decide +kernel
theorem dX5_isThing_18 : decode cX5_isThing 18 = .ok (.getfield 30, 3) := by decide +kernel
theorem dX5_isThing_21 : decode cX5_isThing 21 = .ok (.iload_n 1, 1) := by decide +kernel
theorem dX5_isThing_22 : decode cX5_isThing 22 = .ok (.baload, 1) := by decide +kernel
theorem dX5_isThing_23 : decode cX5_isThing 23 = .ok (.ifCond .eq 7, 3) := by decide +kernel
theorem dX5_isThing_26 : decode cX5_isThing 26 = .ok (.iconst 1, 1) := by decide +kernel
theorem dX5_isThing_27 : decode cX5_isThing 27 = .ok (.goto 4, 3) := by decide +kernel
theorem dX5_isThing_30 : decode cX5_isThing 30 = .ok (.iconst 0, 1) := by decide +kernel
theorem dX5_isThing_31 : decode cX5_isThing 31 = .ok (.ireturn, 1) := by decide +kernel
theorem dX5_isOpen_0 : decode cX5_isOpen 0 = .ok (.aload_n 0, 1) := by decide +kernel
theorem dX5_isOpen_1 : decode cX5_isOpen 1 = .ok (.getfield 13, 3) := by decide +kernel
theorem dX5_isOpen_4 : decode cX5_isOpen 4 = .ok (.iload_n 1, 1) := by decide +kernel
theorem dX5_isOpen_5 : decode cX5_isOpen 5 = .ok (.iaload, 1) := by decide +kernel
theorem dX5_isOpen_6 : decode cX5_isOpen 6 = .ok (.ifCond .ne 20, 3) := by decide +kernel
theorem dX5_isOpen_9 : decode cX5_isOpen 9 = .ok (.iload_n 2, 1) := by decide +kernel
theorem dX5_isOpen_10 : decode cX5_isOpen 10 = .ok (.ifCond .eq 12, 3) := by decide +kernel
theorem dX5_isOpen_13 : decode cX5_isOpen 13 = .ok (.aload_n 0, 1) := by decide +kernel
theorem dX5_isOpen_14 : decode cX5_isOpen 14 = .ok (.getfield 24, 3) := by decide +kernel
theorem dX5_isOpen_17 : decode cX5_isOpen 17 = .ok (.iload_n 1, 1) := by decide +kernel
theorem dX5_isOpen_18 : decode cX5_isOpen 18 = .ok (.baload, 1) := by decide +kernel
theorem dX5_isOpen_19 : decode cX5_isOpen 19 = .ok (.ifCond .ne 7, 3) := by decide +kernel
theorem dX5_isOpen_22 : decode cX5_isOpen 22 = .ok (.iconst 1, 1) := by decide +kernel
theorem dX5_isOpen_23 : decode cX5_isOpen 23 = .ok (.goto 4, 3) := by decide +kernel
theorem dX5_isOpen_26 : decode cX5_isOpen 26 = .ok (.iconst 0, 1) := by decide +kernel
theorem dX5_isOpen_27 : decode cX5_isOpen 27 = .ok (.ireturn, 1) := by decide +kernel
set_option maxRecDepth 20000 in
theorem ggX5_place_X5_classOf : GoodIn wsX5_place wsX5_classOf := goodIn_r _ [4] (by decide +kernel) (by decide +kernel)
set_option maxRecDepth 20000 in
theorem gX5_place_X5_classOf : GoodIn wsX5_place (va_wsS RX5 88 yX5_classOf wsX5_classOf) := goodIn_app (goodIn_of _ (by decide +kernel)) ggX5_place_X5_classOf
set_option maxRecDepth 20000 in
theorem ggX5_place_X5_large : GoodIn wsX5_place wsX5_large := goodIn_r _ [8, 9, 10, 11, 12, 13, 14, 15, 3, 16, 25, 26, 27, 28, 29, 30, 31, 32, 33, 34, 35, 36, 37, 38, 39, 40, 41, 42, 43, 44, 45, 46, 47, 48, 49, 50, 51] (by decide +kernel) (by decide +kernel)
set_option maxRecDepth 20000 in
theorem gX5_place_X5_large : GoodIn wsX5_place (wsV RX5 91 RX5 yX5_large wsX5_large) := goodIn_app (goodIn_of _ (by decide +kernel)) ggX5_place_X5_large
set_option maxRecDepth 20000 in
theorem ggX5_place_X5_small : GoodIn wsX5_place wsX5_small := goodIn_r _ [20, 9, 10, 11, 21, 12, 22, 23, 3, 24, 13, 14, 15, 16, 25, 26, 27, 28, 29, 30, 31, 32, 33, 34, 35, 36, 37, 38, 39, 40, 41, 42, 43, 44, 45, 46, 47, 48, 49, 50, 51] (by decide +kernel) (by decide +kernel)
set_option maxRecDepth 20000 in
theorem gX5_place_X5_small : GoodIn wsX5_place (wsV RX5 95 RX5 yX5_small wsX5_small) := goodIn_app (goodIn_of _ (by decide +kernel)) ggX5_place_X5_small
theorem dX5_place_0 : decode cX5_place 0 = .ok (.iload_n 1, 1) := by decide +kernel
theorem dX5_place_1 : decode cX5_place 1 = .ok (.invokestatic 88, 3) := by decide +kernel
theorem dX5_place_4 : decode cX5_place 4 = .ok (.istore_n 3, 1) := by decide +kernel
theorem dX5_place_5 : decode cX5_place 5 = .ok (.iload_n 3, 1) := by decide +kernel
theorem dX5_place_6 : decode cX5_place 6 = .ok (.iconst 5, 1) := by decide +kernel
theorem dX5_place_7 : decode cX5_place 7 = .ok (.if_icmp .ne 12, 3) := by decide +kernel
theorem dX5_place_10 : decode cX5_place 10 = .ok (.aload_n 0, 1) := by decide +kernel
theorem dX5_place_11 : decode cX5_place 11 = .ok (.iload_n 1, 1) := by decide +kernel
theorem dX5_place_12 : decode cX5_place 12 = .ok (.iload_n 2, 1) := by decide +kernel
theorem dX5_place_13 : decode cX5_place 13 = .ok (.invokevirtual 91, 3) := by decide +kernel
theorem dX5_place_16 : decode cX5_place 16 = .ok (.goto 9, 3) := by decide +kernel
theorem dX5_place_19 : decode cX5_place 19 = .ok (.aload_n 0, 1) := by decide +kernel
theorem dX5_place_20 : decode cX5_place 20 = .ok (.iload_n 3, 1) := by decide +kernel
theorem dX5_place_21 : decode cX5_place 21 = .ok (.iload_n 2, 1) := by decide +kernel
theorem dX5_place_22 : decode cX5_place 22 = .ok (.invokevirtual 95, 3) := by decide +kernel
theorem dX5_place_25 : decode cX5_place 25 = .ok (.ireturn, 1) := by decide +kernel
set_option maxRecDepth 20000 in
theorem ggX5_small_X5_cell : GoodIn wsX5_small wsX5_cell := goodIn_r _ [9] (by decide +kernel) (by decide +kernel)
set_option maxRecDepth 20000 in
theorem gX5_small_X5_cell : GoodIn wsX5_small (va_wsS RX5 98 yX5_cell wsX5_cell) := goodIn_app (goodIn_of _ (by decide +kernel)) ggX5_small_X5_cell
set_option maxRecDepth 20000 in
theorem ggX5_small_X5_isOpen : GoodIn wsX5_small wsX5_isOpen := goodIn_r _ [13, 2, 5, 14, 15, 16, 17, 18, 19, 20, 21, 22, 23, 24, 25, 26, 27, 28, 29, 30, 31, 32, 33, 34, 35, 36, 37, 38, 39, 40] (by decide +kernel) (by decide +kernel)
set_option maxRecDepth 20000 in
theorem gX5_small_X5_isOpen : GoodIn wsX5_small (wsV RX5 101 RX5 yX5_isOpen wsX5_isOpen) := goodIn_app (goodIn_of _ (by decide +kernel)) ggX5_small_X5_isOpen
theorem dX5_small_0 : decode cX5_small 0 = .ok (.iconst 0, 1) := by decide +kernel
theorem dX5_small_1 : decode cX5_small 1 = .ok (.istore_n 3, 1) := by decide +kernel
theorem dX5_small_2 : decode cX5_small 2 = .ok (.iload_n 3, 1) := by decide +kernel
theorem dX5_small_3 : decode cX5_small 3 = .ok (.aload_n 0, 1) := by decide +kernel
theorem dX5_small_4 : decode cX5_small 4 = .ok (.getfield 7, 3) := by decide +kernel
theorem dX5_small_7 : decode cX5_small 7 = .ok (.if_icmp .ge 72, 3) := by decide +kernel
theorem dX5_small_10 : decode cX5_small 10 = .ok (.bipush 64, 2) := by decide +kernel
theorem dX5_small_12 : decode cX5_small 12 = .ok (.iload_n 3, 1) := by decide +kernel
theorem dX5_small_13 : decode cX5_small 13 = .ok (.imul, 1) := by decide +kernel
theorem dX5_small_14 : decode cX5_small 14 = .ok (.istore 4, 2) := by decide +kernel
theorem dX5_small_16 : decode cX5_small 16 = .ok (.aload_n 0, 1) := by decide +kernel
theorem dX5_small_17 : decode cX5_small 17 = .ok (.getfield 13, 3) := by decide +kernel
theorem dX5_small_20 : decode cX5_small 20 = .ok (.iload_n 3, 1) := by decide +kernel
theorem dX5_small_21 : decode cX5_small 21 = .ok (.iaload, 1) := by decide +kernel
theorem dX5_small_22 : decode cX5_small 22 = .ok (.iconst 1, 1) := by decide +kernel
theorem dX5_small_23 : decode cX5_small 23 = .ok (.if_icmp .ne 50, 3) := by decide +kernel
theorem dX5_small_26 : decode cX5_small 26 = .ok (.aload_n 0, 1) := by decide +kernel
theorem dX5_small_27 : decode cX5_small 27 = .ok (.getfield 17, 3) := by decide +kernel
theorem dX5_small_30 : decode cX5_small 30 = .ok (.iload_n 3, 1) := by decide +kernel
theorem dX5_small_31 : decode cX5_small 31 = .ok (.iaload, 1) := by decide +kernel
theorem dX5_small_32 : decode cX5_small 32 = .ok (.iload_n 1, 1) := by decide +kernel
theorem dX5_small_33 : decode cX5_small 33 = .ok (.if_icmp .ne 40, 3) := by decide +kernel
theorem dX5_small_36 : decode cX5_small 36 = .ok (.iload 4, 2) := by decide +kernel
theorem dX5_small_38 : decode cX5_small 38 = .ok (.bipush 64, 2) := by decide +kernel
theorem dX5_small_40 : decode cX5_small 40 = .ok (.iload_n 3, 1) := by decide +kernel
theorem dX5_small_41 : decode cX5_small 41 = .ok (.imul, 1) := by decide +kernel
theorem dX5_small_42 : decode cX5_small 42 = .ok (.bipush 64, 2) := by decide +kernel
theorem dX5_small_44 : decode cX5_small 44 = .ok (.iadd, 1) := by decide +kernel
theorem dX5_small_45 : decode cX5_small 45 = .ok (.if_icmp .ge 28, 3) := by decide +kernel
theorem dX5_small_48 : decode cX5_small 48 = .ok (.aload_n 0, 1) := by decide +kernel
theorem dX5_small_49 : decode cX5_small 49 = .ok (.getfield 30, 3) := by decide +kernel
theorem dX5_small_52 : decode cX5_small 52 = .ok (.iload 4, 2) := by decide +kernel
theorem dX5_small_54 : decode cX5_small 54 = .ok (.baload, 1) := by decide +kernel
theorem dX5_small_55 : decode cX5_small 55 = .ok (.ifCond .ne 6, 3) := by decide +kernel
theorem dX5_small_58 : decode cX5_small 58 = .ok (.iload 4, 2) := by decide +kernel
theorem dX5_small_60 : decode cX5_small 60 = .ok (.ireturn, 1) := by decide +kernel
theorem dX5_small_61 : decode cX5_small 61 = .ok (.iload 4, 2) := by decide +kernel
theorem dX5_small_63 : decode cX5_small 63 = .ok (.iload_n 1, 1) := by decide +kernel
theorem dX5_small_64 : decode cX5_small 64 = .ok (.invokestatic 98, 3) := by decide +kernel
theorem dX5_small_67 : decode cX5_small 67 = .ok (.iadd, 1) := by decide +kernel
theorem dX5_small_68 : decode cX5_small 68 = .ok (.istore 4, 2) := by decide +kernel
theorem dX5_small_70 : decode cX5_small 70 = .ok (.goto (-54), 3) := by decide +kernel
theorem dX5_small_73 : decode cX5_small 73 = .ok (.iinc 3 1, 3) := by decide +kernel
theorem dX5_small_76 : decode cX5_small 76 = .ok (.goto (-74), 3) := by decide +kernel
theorem dX5_small_79 : decode cX5_small 79 = .ok (.iconst 0, 1) := by decide +kernel
theorem dX5_small_80 : decode cX5_small 80 = .ok (.istore_n 3, 1) := by decide +kernel
theorem dX5_small_81 : decode cX5_small 81 = .ok (.iload_n 3, 1) := by decide +kernel
theorem dX5_small_82 : decode cX5_small 82 = .ok (.aload_n 0, 1) := by decide +kernel
theorem dX5_small_83 : decode cX5_small 83 = .ok (.getfield 7, 3) := by decide +kernel
theorem dX5_small_86 : decode cX5_small 86 = .ok (.if_icmp .ge 44, 3) := by decide +kernel
theorem dX5_small_89 : decode cX5_small 89 = .ok (.aload_n 0, 1) := by decide +kernel
theorem dX5_small_90 : decode cX5_small 90 = .ok (.iload_n 3, 1) := by decide +kernel
theorem dX5_small_91 : decode cX5_small 91 = .ok (.iload_n 2, 1) := by decide +kernel
theorem dX5_small_92 : decode cX5_small 92 = .ok (.invokevirtual 101, 3) := by decide +kernel
theorem dX5_small_95 : decode cX5_small 95 = .ok (.ifCond .eq 29, 3) := by decide +kernel
theorem dX5_small_98 : decode cX5_small 98 = .ok (.aload_n 0, 1) := by decide +kernel
theorem dX5_small_99 : decode cX5_small 99 = .ok (.getfield 13, 3) := by decide +kernel
theorem dX5_small_102 : decode cX5_small 102 = .ok (.iload_n 3, 1) := by decide +kernel
theorem dX5_small_103 : decode cX5_small 103 = .ok (.iconst 1, 1) := by decide +kernel
theorem dX5_small_104 : decode cX5_small 104 = .ok (.iastore, 1) := by decide +kernel
theorem dX5_small_105 : decode cX5_small 105 = .ok (.aload_n 0, 1) := by decide +kernel
theorem dX5_small_106 : decode cX5_small 106 = .ok (.getfield 17, 3) := by decide +kernel
theorem dX5_small_109 : decode cX5_small 109 = .ok (.iload_n 3, 1) := by decide +kernel
theorem dX5_small_110 : decode cX5_small 110 = .ok (.iload_n 1, 1) := by decide +kernel
theorem dX5_small_111 : decode cX5_small 111 = .ok (.iastore, 1) := by decide +kernel
theorem dX5_small_112 : decode cX5_small 112 = .ok (.aload_n 0, 1) := by decide +kernel
theorem dX5_small_113 : decode cX5_small 113 = .ok (.getfield 24, 3) := by decide +kernel
theorem dX5_small_116 : decode cX5_small 116 = .ok (.iload_n 3, 1) := by decide +kernel
theorem dX5_small_117 : decode cX5_small 117 = .ok (.iconst 0, 1) := by decide +kernel
theorem dX5_small_118 : decode cX5_small 118 = .ok (.bastore, 1) := by decide +kernel
theorem dX5_small_119 : decode cX5_small 119 = .ok (.bipush 64, 2) := by decide +kernel
theorem dX5_small_121 : decode cX5_small 121 = .ok (.iload_n 3, 1) := by decide +kernel
theorem dX5_small_122 : decode cX5_small 122 = .ok (.imul, 1) := by decide +kernel
theorem dX5_small_123 : decode cX5_small 123 = .ok (.ireturn, 1) := by decide +kernel
theorem dX5_small_124 : decode cX5_small 124 = .ok (.iinc 3 1, 3) := by decide +kernel
theorem dX5_small_127 : decode cX5_small 127 = .ok (.goto (-46), 3) := by decide +kernel
theorem dX5_small_130 : decode cX5_small 130 = .ok (.iconst (-1), 1) := by decide +kernel
theorem dX5_small_131 : decode cX5_small 131 = .ok (.ireturn, 1) := by decide +kernel
set_option maxRecDepth 20000 in
theorem ggX5_large_X5_isOpen : GoodIn wsX5_large wsX5_isOpen := goodIn_r _ [9, 2, 4, 10, 11, 12, 13, 14, 15, 16, 17, 18, 19, 20, 21, 22, 23, 24, 25, 26, 27, 28, 29, 30, 31, 32, 33, 34, 35, 36] (by decide +kernel) (by decide +kernel)
set_option maxRecDepth 20000 in
theorem gX5_large_X5_isOpen : GoodIn wsX5_large (wsV RX5 101 RX5 yX5_isOpen wsX5_isOpen) := goodIn_app (goodIn_of _ (by decide +kernel)) ggX5_large_X5_isOpen
theorem dX5_large_0 : decode cX5_large 0 = .ok (.iload_n 1, 1) := by decide +kernel
theorem dX5_large_1 : decode cX5_large 1 = .ok (.bipush 64, 2) := by decide +kernel
theorem dX5_large_3 : decode cX5_large 3 = .ok (.iadd, 1) := by decide +kernel
theorem dX5_large_4 : decode cX5_large 4 = .ok (.iconst 1, 1) := by decide +kernel
theorem dX5_large_5 : decode cX5_large 5 = .ok (.isub, 1) := by decide +kernel
theorem dX5_large_6 : decode cX5_large 6 = .ok (.bipush 64, 2) := by decide +kernel
theorem dX5_large_8 : decode cX5_large 8 = .ok (.idiv, 1) := by decide +kernel
theorem dX5_large_9 : decode cX5_large 9 = .ok (.istore_n 3, 1) := by decide +kernel
theorem dX5_large_10 : decode cX5_large 10 = .ok (.iconst 0, 1) := by decide +kernel
theorem dX5_large_11 : decode cX5_large 11 = .ok (.istore 4, 2) := by decide +kernel
theorem dX5_large_13 : decode cX5_large 13 = .ok (.iload 4, 2) := by decide +kernel
theorem dX5_large_15 : decode cX5_large 15 = .ok (.iload_n 3, 1) := by decide +kernel
theorem dX5_large_16 : decode cX5_large 16 = .ok (.iadd, 1) := by decide +kernel
theorem dX5_large_17 : decode cX5_large 17 = .ok (.aload_n 0, 1) := by decide +kernel
theorem dX5_large_18 : decode cX5_large 18 = .ok (.getfield 7, 3) := by decide +kernel
theorem dX5_large_21 : decode cX5_large 21 = .ok (.if_icmp .gt 118, 3) := by decide +kernel
theorem dX5_large_24 : decode cX5_large 24 = .ok (.iconst 1, 1) := by decide +kernel
theorem dX5_large_25 : decode cX5_large 25 = .ok (.istore 5, 2) := by decide +kernel
theorem dX5_large_27 : decode cX5_large 27 = .ok (.iload 4, 2) := by decide +kernel
theorem dX5_large_29 : decode cX5_large 29 = .ok (.istore 6, 2) := by decide +kernel
theorem dX5_large_31 : decode cX5_large 31 = .ok (.iload 6, 2) := by decide +kernel
theorem dX5_large_33 : decode cX5_large 33 = .ok (.iload 4, 2) := by decide +kernel
theorem dX5_large_35 : decode cX5_large 35 = .ok (.iload_n 3, 1) := by decide +kernel
theorem dX5_large_36 : decode cX5_large 36 = .ok (.iadd, 1) := by decide +kernel
theorem dX5_large_37 : decode cX5_large 37 = .ok (.if_icmp .ge 31, 3) := by decide +kernel
theorem dX5_large_40 : decode cX5_large 40 = .ok (.iload 5, 2) := by decide +kernel
theorem dX5_large_42 : decode cX5_large 42 = .ok (.ifCond .eq 17, 3) := by decide +kernel
theorem dX5_large_45 : decode cX5_large 45 = .ok (.aload_n 0, 1) := by decide +kernel
theorem dX5_large_46 : decode cX5_large 46 = .ok (.iload 6, 2) := by decide +kernel
theorem dX5_large_48 : decode cX5_large 48 = .ok (.iload_n 2, 1) := by decide +kernel
theorem dX5_large_49 : decode cX5_large 49 = .ok (.invokevirtual 101, 3) := by decide +kernel
theorem dX5_large_52 : decode cX5_large 52 = .ok (.ifCond .eq 7, 3) := by decide +kernel
theorem dX5_large_55 : decode cX5_large 55 = .ok (.iconst 1, 1) := by decide +kernel
theorem dX5_large_56 : decode cX5_large 56 = .ok (.goto 4, 3) := by decide +kernel
theorem dX5_large_59 : decode cX5_large 59 = .ok (.iconst 0, 1) := by decide +kernel
theorem dX5_large_60 : decode cX5_large 60 = .ok (.istore 5, 2) := by decide +kernel
theorem dX5_large_62 : decode cX5_large 62 = .ok (.iinc 6 1, 3) := by decide +kernel
theorem dX5_large_65 : decode cX5_large 65 = .ok (.goto (-34), 3) := by decide +kernel
theorem dX5_large_68 : decode cX5_large 68 = .ok (.iload 5, 2) := by decide +kernel
theorem dX5_large_70 : decode cX5_large 70 = .ok (.ifCond .eq 63, 3) := by decide +kernel
theorem dX5_large_73 : decode cX5_large 73 = .ok (.iload 4, 2) := by decide +kernel
theorem dX5_large_75 : decode cX5_large 75 = .ok (.istore 6, 2) := by decide +kernel
theorem dX5_large_77 : decode cX5_large 77 = .ok (.iload 6, 2) := by decide +kernel
theorem dX5_large_79 : decode cX5_large 79 = .ok (.iload 4, 2) := by decide +kernel
theorem dX5_large_81 : decode cX5_large 81 = .ok (.iload_n 3, 1) := by decide +kernel
theorem dX5_large_82 : decode cX5_large 82 = .ok (.iadd, 1) := by decide +kernel
theorem dX5_large_83 : decode cX5_large 83 = .ok (.if_icmp .ge 44, 3) := by decide +kernel
theorem dX5_large_86 : decode cX5_large 86 = .ok (.aload_n 0, 1) := by decide +kernel
theorem dX5_large_87 : decode cX5_large 87 = .ok (.getfield 13, 3) := by decide +kernel
theorem dX5_large_90 : decode cX5_large 90 = .ok (.iload 6, 2) := by decide +kernel
theorem dX5_large_92 : decode cX5_large 92 = .ok (.iload 6, 2) := by decide +kernel
theorem dX5_large_94 : decode cX5_large 94 = .ok (.iload 4, 2) := by decide +kernel
theorem dX5_large_96 : decode cX5_large 96 = .ok (.if_icmp .ne 7, 3) := by decide +kernel
theorem dX5_large_99 : decode cX5_large 99 = .ok (.iconst 2, 1) := by decide +kernel
theorem dX5_large_100 : decode cX5_large 100 = .ok (.goto 4, 3) := by decide +kernel
theorem dX5_large_103 : decode cX5_large 103 = .ok (.iconst 3, 1) := by decide +kernel
theorem dX5_large_104 : decode cX5_large 104 = .ok (.iastore, 1) := by decide +kernel
theorem dX5_large_105 : decode cX5_large 105 = .ok (.aload_n 0, 1) := by decide +kernel
theorem dX5_large_106 : decode cX5_large 106 = .ok (.getfield 17, 3) := by decide +kernel
theorem dX5_large_109 : decode cX5_large 109 = .ok (.iload 6, 2) := by decide +kernel
theorem dX5_large_111 : decode cX5_large 111 = .ok (.iconst 5, 1) := by decide +kernel
theorem dX5_large_112 : decode cX5_large 112 = .ok (.iastore, 1) := by decide +kernel
theorem dX5_large_113 : decode cX5_large 113 = .ok (.aload_n 0, 1) := by decide +kernel
theorem dX5_large_114 : decode cX5_large 114 = .ok (.getfield 24, 3) := by decide +kernel
theorem dX5_large_117 : decode cX5_large 117 = .ok (.iload 6, 2) := by decide +kernel
theorem dX5_large_119 : decode cX5_large 119 = .ok (.iconst 0, 1) := by decide +kernel
theorem dX5_large_120 : decode cX5_large 120 = .ok (.bastore, 1) := by decide +kernel
theorem dX5_large_121 : decode cX5_large 121 = .ok (.iinc 6 1, 3) := by decide +kernel
theorem dX5_large_124 : decode cX5_large 124 = .ok (.goto (-47), 3) := by decide +kernel
theorem dX5_large_127 : decode cX5_large 127 = .ok (.bipush 64, 2) := by decide +kernel
theorem dX5_large_129 : decode cX5_large 129 = .ok (.iload 4, 2) := by decide +kernel
theorem dX5_large_131 : decode cX5_large 131 = .ok (.imul, 1) := by decide +kernel
theorem dX5_large_132 : decode cX5_large 132 = .ok (.ireturn, 1) := by decide +kernel
theorem dX5_large_133 : decode cX5_large 133 = .ok (.iinc 4 1, 3) := by decide +kernel
theorem dX5_large_136 : decode cX5_large 136 = .ok (.goto (-123), 3) := by decide +kernel
theorem dX5_large_139 : decode cX5_large 139 = .ok (.iconst (-1), 1) := by decide +kernel
theorem dX5_large_140 : decode cX5_large 140 = .ok (.ireturn, 1) := by decide +kernel
set_option maxRecDepth 20000 in
theorem ggX5_make_X5_in : GoodIn wsX5_make wsX5_in := goodIn_r _ [14] (by decide +kernel) (by decide +kernel)
set_option maxRecDepth 20000 in
theorem gX5_make_X5_in : GoodIn wsX5_make (va_wsS RX5 61 yX5_in wsX5_in) := goodIn_app (goodIn_of _ (by decide +kernel)) ggX5_make_X5_in
set_option maxRecDepth 20000 in
theorem ggX5_make_X5_place : GoodIn wsX5_make wsX5_place := goodIn_r _ [18, 19, 20, 13, 21, 22, 23, 24, 25, 26, 27, 28, 29, 30, 31, 32, 33, 34, 35, 36, 37, 5, 38, 39, 40, 96, 97, 98, 99, 100, 101, 102, 103, 104, 105, 106, 107, 108, 109, 110, 111, 112, 113, 114, 115, 116, 117, 118, 119, 120, 121, 122] (by decide +kernel) (by decide +kernel)
set_option maxRecDepth 20000 in
theorem gX5_make_X5_place : GoodIn wsX5_make (wsV RX5 105 RX5 yX5_place wsX5_place) := goodIn_app (goodIn_of _ (by decide +kernel)) ggX5_make_X5_place
set_option maxRecDepth 20000 in
theorem ggX5_make_X5_collect : GoodIn wsX5_make wsX5_collect := goodIn_r _ [44, 26, 45, 46, 6, 5, 47, 48, 49, 50, 51, 52, 13, 53, 54, 55, 7, 56, 57, 58, 59, 60, 61, 62, 63, 64, 65, 66, 9, 67, 68, 69, 70, 71, 72, 73, 74, 75, 27, 28, 11, 12, 14, 38, 39, 40, 76, 77, 78, 79, 80, 81, 82, 83, 84, 85, 86, 87, 8, 88, 89, 90, 91, 29, 92, 93, 94, 95, 96, 97, 98, 99, 100, 101, 102, 103, 104, 105, 106, 107, 108, 109, 110, 111, 112, 113, 114, 115, 116, 117, 118, 119, 120, 121, 122] (by decide +kernel) (by decide +kernel)
set_option maxRecDepth 20000 in
theorem gX5_make_X5_collect : GoodIn wsX5_make (wsV RX5 111 RX5 yX5_collect wsX5_collect) := goodIn_app (goodIn_of _ (by decide +kernel)) ggX5_make_X5_collect
theorem dX5_make_0 : decode cX5_make 0 = .ok (.iload_n 1, 1) := by decide +kernel
theorem dX5_make_1 : decode cX5_make 1 = .ok (.ifCond .lt 34, 3) := by decide +kernel
theorem dX5_make_4 : decode cX5_make 4 = .ok (.iload_n 2, 1) := by decide +kernel
theorem dX5_make_5 : decode cX5_make 5 = .ok (.ifCond .lt 30, 3) := by decide +kernel
theorem dX5_make_8 : decode cX5_make 8 = .ok (.iload_n 1, 1) := by decide +kernel
theorem dX5_make_9 : decode cX5_make 9 = .ok (.sipush 256, 3) := by decide +kernel
theorem dX5_make_12 : decode cX5_make 12 = .ok (.if_icmp .gt 23, 3) := by decide +kernel
theorem dX5_make_15 : decode cX5_make 15 = .ok (.iload_n 2, 1) := by decide +kernel
theorem dX5_make_16 : decode cX5_make 16 = .ok (.sipush 256, 3) := by decide +kernel
theorem dX5_make_19 : decode cX5_make 19 = .ok (.if_icmp .gt 16, 3) := by decide +kernel
theorem dX5_make_22 : decode cX5_make 22 = .ok (.iload_n 1, 1) := by decide +kernel
theorem dX5_make_23 : decode cX5_make 23 = .ok (.iload_n 2, 1) := by decide +kernel
theorem dX5_make_24 : decode cX5_make 24 = .ok (.iadd, 1) := by decide +kernel
theorem dX5_make_25 : decode cX5_make 25 = .ok (.iconst 1, 1) := by decide +kernel
theorem dX5_make_26 : decode cX5_make 26 = .ok (.sipush 256, 3) := by decide +kernel
theorem dX5_make_29 : decode cX5_make 29 = .ok (.invokestatic 61, 3) := by decide +kernel
theorem dX5_make_32 : decode cX5_make 32 = .ok (.ifCond .ne 6, 3) := by decide +kernel
theorem dX5_make_35 : decode cX5_make 35 = .ok (.bipush (-102), 2) := by decide +kernel
theorem dX5_make_37 : decode cX5_make 37 = .ok (.ireturn, 1) := by decide +kernel
theorem dX5_make_38 : decode cX5_make 38 = .ok (.aload_n 0, 1) := by decide +kernel
theorem dX5_make_39 : decode cX5_make 39 = .ok (.iload_n 1, 1) := by decide +kernel
theorem dX5_make_40 : decode cX5_make 40 = .ok (.iload_n 2, 1) := by decide +kernel
theorem dX5_make_41 : decode cX5_make 41 = .ok (.iadd, 1) := by decide +kernel
theorem dX5_make_42 : decode cX5_make 42 = .ok (.iconst 1, 1) := by decide +kernel
theorem dX5_make_43 : decode cX5_make 43 = .ok (.invokevirtual 105, 3) := by decide +kernel
theorem dX5_make_46 : decode cX5_make 46 = .ok (.istore_n 3, 1) := by decide +kernel
theorem dX5_make_47 : decode cX5_make 47 = .ok (.iload_n 3, 1) := by decide +kernel
theorem dX5_make_48 : decode cX5_make 48 = .ok (.iconst (-1), 1) := by decide +kernel
theorem dX5_make_49 : decode cX5_make 49 = .ok (.if_icmp .ne 43, 3) := by decide +kernel
theorem dX5_make_52 : decode cX5_make 52 = .ok (.aload_n 0, 1) := by decide +kernel
theorem dX5_make_53 : decode cX5_make 53 = .ok (.getfield 54, 3) := by decide +kernel
theorem dX5_make_56 : decode cX5_make 56 = .ok (.ifCond .eq 36, 3) := by decide +kernel
theorem dX5_make_59 : decode cX5_make 59 = .ok (.aload_n 0, 1) := by decide +kernel
theorem dX5_make_60 : decode cX5_make 60 = .ok (.dup, 1) := by decide +kernel
theorem dX5_make_61 : decode cX5_make 61 = .ok (.getfield 108, 3) := by decide +kernel
theorem dX5_make_64 : decode cX5_make 64 = .ok (.aload_n 0, 1) := by decide +kernel
theorem dX5_make_65 : decode cX5_make 65 = .ok (.iconst 0, 1) := by decide +kernel
theorem dX5_make_66 : decode cX5_make 66 = .ok (.invokevirtual 111, 3) := by decide +kernel
theorem dX5_make_69 : decode cX5_make 69 = .ok (.iadd, 1) := by decide +kernel
theorem dX5_make_70 : decode cX5_make 70 = .ok (.putfield 108, 3) := by decide +kernel
theorem dX5_make_73 : decode cX5_make 73 = .ok (.aload_n 0, 1) := by decide +kernel
theorem dX5_make_74 : decode cX5_make 74 = .ok (.dup, 1) := by decide +kernel
theorem dX5_make_75 : decode cX5_make 75 = .ok (.getfield 115, 3) := by decide +kernel
theorem dX5_make_78 : decode cX5_make 78 = .ok (.iconst 1, 1) := by decide +kernel
theorem dX5_make_79 : decode cX5_make 79 = .ok (.iadd, 1) := by decide +kernel
theorem dX5_make_80 : decode cX5_make 80 = .ok (.putfield 115, 3) := by decide +kernel
theorem dX5_make_83 : decode cX5_make 83 = .ok (.aload_n 0, 1) := by decide +kernel
theorem dX5_make_84 : decode cX5_make 84 = .ok (.iload_n 1, 1) := by decide +kernel
theorem dX5_make_85 : decode cX5_make 85 = .ok (.iload_n 2, 1) := by decide +kernel
theorem dX5_make_86 : decode cX5_make 86 = .ok (.iadd, 1) := by decide +kernel
theorem dX5_make_87 : decode cX5_make 87 = .ok (.iconst 1, 1) := by decide +kernel
theorem dX5_make_88 : decode cX5_make 88 = .ok (.invokevirtual 105, 3) := by decide +kernel
theorem dX5_make_91 : decode cX5_make 91 = .ok (.istore_n 3, 1) := by decide +kernel
theorem dX5_make_92 : decode cX5_make 92 = .ok (.iload_n 3, 1) := by decide +kernel
theorem dX5_make_93 : decode cX5_make 93 = .ok (.iconst (-1), 1) := by decide +kernel
theorem dX5_make_94 : decode cX5_make 94 = .ok (.if_icmp .ne 43, 3) := by decide +kernel
theorem dX5_make_97 : decode cX5_make 97 = .ok (.aload_n 0, 1) := by decide +kernel
theorem dX5_make_98 : decode cX5_make 98 = .ok (.getfield 54, 3) := by decide +kernel
theorem dX5_make_101 : decode cX5_make 101 = .ok (.ifCond .eq 36, 3) := by decide +kernel
theorem dX5_make_104 : decode cX5_make 104 = .ok (.aload_n 0, 1) := by decide +kernel
theorem dX5_make_105 : decode cX5_make 105 = .ok (.dup, 1) := by decide +kernel
theorem dX5_make_106 : decode cX5_make 106 = .ok (.getfield 108, 3) := by decide +kernel
theorem dX5_make_109 : decode cX5_make 109 = .ok (.aload_n 0, 1) := by decide +kernel
theorem dX5_make_110 : decode cX5_make 110 = .ok (.iconst 1, 1) := by decide +kernel
theorem dX5_make_111 : decode cX5_make 111 = .ok (.invokevirtual 111, 3) := by decide +kernel
theorem dX5_make_114 : decode cX5_make 114 = .ok (.iadd, 1) := by decide +kernel
theorem dX5_make_115 : decode cX5_make 115 = .ok (.putfield 108, 3) := by decide +kernel
theorem dX5_make_118 : decode cX5_make 118 = .ok (.aload_n 0, 1) := by decide +kernel
theorem dX5_make_119 : decode cX5_make 119 = .ok (.dup, 1) := by decide +kernel
theorem dX5_make_120 : decode cX5_make 120 = .ok (.getfield 118, 3) := by decide +kernel
theorem dX5_make_123 : decode cX5_make 123 = .ok (.iconst 1, 1) := by decide +kernel
theorem dX5_make_124 : decode cX5_make 124 = .ok (.iadd, 1) := by decide +kernel
theorem dX5_make_125 : decode cX5_make 125 = .ok (.putfield 118, 3) := by decide +kernel
theorem dX5_make_128 : decode cX5_make 128 = .ok (.aload_n 0, 1) := by decide +kernel
theorem dX5_make_129 : decode cX5_make 129 = .ok (.iload_n 1, 1) := by decide +kernel
theorem dX5_make_130 : decode cX5_make 130 = .ok (.iload_n 2, 1) := by decide +kernel
theorem dX5_make_131 : decode cX5_make 131 = .ok (.iadd, 1) := by decide +kernel
theorem dX5_make_132 : decode cX5_make 132 = .ok (.iconst 1, 1) := by decide +kernel
theorem dX5_make_133 : decode cX5_make 133 = .ok (.invokevirtual 105, 3) := by decide +kernel
theorem dX5_make_136 : decode cX5_make 136 = .ok (.istore_n 3, 1) := by decide +kernel
theorem dX5_make_137 : decode cX5_make 137 = .ok (.iload_n 3, 1) := by decide +kernel
theorem dX5_make_138 : decode cX5_make 138 = .ok (.iconst (-1), 1) := by decide +kernel
theorem dX5_make_139 : decode cX5_make 139 = .ok (.if_icmp .ne 12, 3) := by decide +kernel
theorem dX5_make_142 : decode cX5_make 142 = .ok (.aload_n 0, 1) := by decide +kernel
theorem dX5_make_143 : decode cX5_make 143 = .ok (.iload_n 1, 1) := by decide +kernel
theorem dX5_make_144 : decode cX5_make 144 = .ok (.iload_n 2, 1) := by decide +kernel
theorem dX5_make_145 : decode cX5_make 145 = .ok (.iadd, 1) := by decide +kernel
theorem dX5_make_146 : decode cX5_make 146 = .ok (.iconst 0, 1) := by decide +kernel
theorem dX5_make_147 : decode cX5_make 147 = .ok (.invokevirtual 105, 3) := by decide +kernel
theorem dX5_make_150 : decode cX5_make 150 = .ok (.istore_n 3, 1) := by decide +kernel
theorem dX5_make_151 : decode cX5_make 151 = .ok (.iload_n 3, 1) := by decide +kernel
theorem dX5_make_152 : decode cX5_make 152 = .ok (.iconst (-1), 1) := by decide +kernel
theorem dX5_make_153 : decode cX5_make 153 = .ok (.if_icmp .ne 6, 3) := by decide +kernel
theorem dX5_make_156 : decode cX5_make 156 = .ok (.bipush (-104), 2) := by decide +kernel
theorem dX5_make_158 : decode cX5_make 158 = .ok (.ireturn, 1) := by decide +kernel
theorem dX5_make_159 : decode cX5_make 159 = .ok (.aload_n 0, 1) := by decide +kernel
theorem dX5_make_160 : decode cX5_make 160 = .ok (.getfield 30, 3) := by decide +kernel
theorem dX5_make_163 : decode cX5_make 163 = .ok (.iload_n 3, 1) := by decide +kernel
theorem dX5_make_164 : decode cX5_make 164 = .ok (.iconst 1, 1) := by decide +kernel
theorem dX5_make_165 : decode cX5_make 165 = .ok (.bastore, 1) := by decide +kernel
theorem dX5_make_166 : decode cX5_make 166 = .ok (.aload_n 0, 1) := by decide +kernel
theorem dX5_make_167 : decode cX5_make 167 = .ok (.getfield 33, 3) := by decide +kernel
theorem dX5_make_170 : decode cX5_make 170 = .ok (.iload_n 3, 1) := by decide +kernel
theorem dX5_make_171 : decode cX5_make 171 = .ok (.iconst 0, 1) := by decide +kernel
theorem dX5_make_172 : decode cX5_make 172 = .ok (.bastore, 1) := by decide +kernel
theorem dX5_make_173 : decode cX5_make 173 = .ok (.aload_n 0, 1) := by decide +kernel
theorem dX5_make_174 : decode cX5_make 174 = .ok (.getfield 39, 3) := by decide +kernel
theorem dX5_make_177 : decode cX5_make 177 = .ok (.iload_n 3, 1) := by decide +kernel
theorem dX5_make_178 : decode cX5_make 178 = .ok (.iload_n 1, 1) := by decide +kernel
theorem dX5_make_179 : decode cX5_make 179 = .ok (.iastore, 1) := by decide +kernel
theorem dX5_make_180 : decode cX5_make 180 = .ok (.aload_n 0, 1) := by decide +kernel
theorem dX5_make_181 : decode cX5_make 181 = .ok (.getfield 42, 3) := by decide +kernel
theorem dX5_make_184 : decode cX5_make 184 = .ok (.iload_n 3, 1) := by decide +kernel
theorem dX5_make_185 : decode cX5_make 185 = .ok (.iload_n 2, 1) := by decide +kernel
theorem dX5_make_186 : decode cX5_make 186 = .ok (.iastore, 1) := by decide +kernel
theorem dX5_make_187 : decode cX5_make 187 = .ok (.iconst 0, 1) := by decide +kernel
theorem dX5_make_188 : decode cX5_make 188 = .ok (.istore 4, 2) := by decide +kernel
theorem dX5_make_190 : decode cX5_make 190 = .ok (.iload 4, 2) := by decide +kernel
theorem dX5_make_192 : decode cX5_make 192 = .ok (.iload_n 1, 1) := by decide +kernel
theorem dX5_make_193 : decode cX5_make 193 = .ok (.iload_n 2, 1) := by decide +kernel
theorem dX5_make_194 : decode cX5_make 194 = .ok (.iadd, 1) := by decide +kernel
theorem dX5_make_195 : decode cX5_make 195 = .ok (.if_icmp .ge 29, 3) := by decide +kernel
theorem dX5_make_198 : decode cX5_make 198 = .ok (.aload_n 0, 1) := by decide +kernel
theorem dX5_make_199 : decode cX5_make 199 = .ok (.getfield 27, 3) := by decide +kernel
theorem dX5_make_202 : decode cX5_make 202 = .ok (.iload_n 3, 1) := by decide +kernel
theorem dX5_make_203 : decode cX5_make 203 = .ok (.iload 4, 2) := by decide +kernel
theorem dX5_make_205 : decode cX5_make 205 = .ok (.iadd, 1) := by decide +kernel
theorem dX5_make_206 : decode cX5_make 206 = .ok (.iload 4, 2) := by decide +kernel
theorem dX5_make_208 : decode cX5_make 208 = .ok (.iload_n 1, 1) := by decide +kernel
theorem dX5_make_209 : decode cX5_make 209 = .ok (.if_icmp .ge 7, 3) := by decide +kernel
theorem dX5_make_212 : decode cX5_make 212 = .ok (.iconst (-1), 1) := by decide +kernel
theorem dX5_make_213 : decode cX5_make 213 = .ok (.goto 4, 3) := by decide +kernel
theorem dX5_make_216 : decode cX5_make 216 = .ok (.iconst 0, 1) := by decide +kernel
theorem dX5_make_217 : decode cX5_make 217 = .ok (.iastore, 1) := by decide +kernel
theorem dX5_make_218 : decode cX5_make 218 = .ok (.iinc 4 1, 3) := by decide +kernel
theorem dX5_make_221 : decode cX5_make 221 = .ok (.goto (-31), 3) := by decide +kernel
theorem dX5_make_224 : decode cX5_make 224 = .ok (.aload_n 0, 1) := by decide +kernel
theorem dX5_make_225 : decode cX5_make 225 = .ok (.dup, 1) := by decide +kernel
theorem dX5_make_226 : decode cX5_make 226 = .ok (.getfield 121, 3) := by decide +kernel
theorem dX5_make_229 : decode cX5_make 229 = .ok (.iconst 1, 1) := by decide +kernel
theorem dX5_make_230 : decode cX5_make 230 = .ok (.iadd, 1) := by decide +kernel
theorem dX5_make_231 : decode cX5_make 231 = .ok (.putfield 121, 3) := by decide +kernel
theorem dX5_make_234 : decode cX5_make 234 = .ok (.iload_n 3, 1) := by decide +kernel
theorem dX5_make_235 : decode cX5_make 235 = .ok (.ireturn, 1) := by decide +kernel
theorem dX5_isLogged_0 : decode cX5_isLogged 0 = .ok (.iconst 0, 1) := by decide +kernel
theorem dX5_isLogged_1 : decode cX5_isLogged 1 = .ok (.istore_n 2, 1) := by decide +kernel
theorem dX5_isLogged_2 : decode cX5_isLogged 2 = .ok (.iconst 0, 1) := by decide +kernel
theorem dX5_isLogged_3 : decode cX5_isLogged 3 = .ok (.istore_n 3, 1) := by decide +kernel
theorem dX5_isLogged_4 : decode cX5_isLogged 4 = .ok (.iload_n 3, 1) := by decide +kernel
theorem dX5_isLogged_5 : decode cX5_isLogged 5 = .ok (.aload_n 0, 1) := by decide +kernel
theorem dX5_isLogged_6 : decode cX5_isLogged 6 = .ok (.getfield 72, 3) := by decide +kernel
theorem dX5_isLogged_9 : decode cX5_isLogged 9 = .ok (.if_icmp .ge 29, 3) := by decide +kernel
theorem dX5_isLogged_12 : decode cX5_isLogged 12 = .ok (.iload_n 2, 1) := by decide +kernel
theorem dX5_isLogged_13 : decode cX5_isLogged 13 = .ok (.ifCond .ne 13, 3) := by decide +kernel
theorem dX5_isLogged_16 : decode cX5_isLogged 16 = .ok (.aload_n 0, 1) := by decide +kernel
theorem dX5_isLogged_17 : decode cX5_isLogged 17 = .ok (.getfield 51, 3) := by decide +kernel
theorem dX5_isLogged_20 : decode cX5_isLogged 20 = .ok (.iload_n 3, 1) := by decide +kernel
theorem dX5_isLogged_21 : decode cX5_isLogged 21 = .ok (.iaload, 1) := by decide +kernel
theorem dX5_isLogged_22 : decode cX5_isLogged 22 = .ok (.iload_n 1, 1) := by decide +kernel
theorem dX5_isLogged_23 : decode cX5_isLogged 23 = .ok (.if_icmp .ne 7, 3) := by decide +kernel
theorem dX5_isLogged_26 : decode cX5_isLogged 26 = .ok (.iconst 1, 1) := by decide +kernel
theorem dX5_isLogged_27 : decode cX5_isLogged 27 = .ok (.goto 4, 3) := by decide +kernel
theorem dX5_isLogged_30 : decode cX5_isLogged 30 = .ok (.iconst 0, 1) := by decide +kernel
theorem dX5_isLogged_31 : decode cX5_isLogged 31 = .ok (.istore_n 2, 1) := by decide +kernel
theorem dX5_isLogged_32 : decode cX5_isLogged 32 = .ok (.iinc 3 1, 3) := by decide +kernel
theorem dX5_isLogged_35 : decode cX5_isLogged 35 = .ok (.goto (-31), 3) := by decide +kernel
theorem dX5_isLogged_38 : decode cX5_isLogged 38 = .ok (.iload_n 2, 1) := by decide +kernel
theorem dX5_isLogged_39 : decode cX5_isLogged 39 = .ok (.ireturn, 1) := by decide +kernel
set_option maxRecDepth 20000 in
theorem ggX5_put_X5_isThing : GoodIn wsX5_put wsX5_isThing := goodIn_r _ [13, 14, 15, 16, 17, 12, 18, 23, 24, 25, 26, 27, 28, 29, 30, 31, 32, 33, 34, 35, 36, 37, 38, 39, 40, 41, 42, 43, 44, 45, 46, 47, 48, 49] (by decide +kernel) (by decide +kernel)
set_option maxRecDepth 20000 in
theorem gX5_put_X5_isThing : GoodIn wsX5_put (wsV RX5 124 RX5 yX5_isThing wsX5_isThing) := goodIn_app (goodIn_of _ (by decide +kernel)) ggX5_put_X5_isThing
set_option maxRecDepth 20000 in
theorem ggX5_put_X5_in : GoodIn wsX5_put wsX5_in := goodIn_r _ [18] (by decide +kernel) (by decide +kernel)
set_option maxRecDepth 20000 in
theorem gX5_put_X5_in : GoodIn wsX5_put (va_wsS RX5 61 yX5_in wsX5_in) := goodIn_app (goodIn_of _ (by decide +kernel)) ggX5_put_X5_in
set_option maxRecDepth 20000 in
theorem ggX5_put_X5_isLogged : GoodIn wsX5_put wsX5_isLogged := goodIn_r _ [22, 7, 8, 23, 24, 25, 26, 27, 28, 29, 30, 31, 32, 33, 34, 35, 36, 37, 38, 39, 40, 41, 42, 43, 44, 45, 46, 47, 48, 49] (by decide +kernel) (by decide +kernel)
set_option maxRecDepth 20000 in
theorem gX5_put_X5_isLogged : GoodIn wsX5_put (wsV RX5 128 RX5 yX5_isLogged wsX5_isLogged) := goodIn_app (goodIn_of _ (by decide +kernel)) ggX5_put_X5_isLogged
theorem dX5_put_0 : decode cX5_put 0 = .ok (.aload_n 0, 1) := by decide +kernel
theorem dX5_put_1 : decode cX5_put 1 = .ok (.iload_n 1, 1) := by decide +kernel
theorem dX5_put_2 : decode cX5_put 2 = .ok (.invokevirtual 124, 3) := by decide +kernel
theorem dX5_put_5 : decode cX5_put 5 = .ok (.ifCond .eq 16, 3) := by decide +kernel
theorem dX5_put_8 : decode cX5_put 8 = .ok (.iload_n 3, 1) := by decide +kernel
theorem dX5_put_9 : decode cX5_put 9 = .ok (.iconst (-1), 1) := by decide +kernel
theorem dX5_put_10 : decode cX5_put 10 = .ok (.if_icmp .eq 14, 3) := by decide +kernel
theorem dX5_put_13 : decode cX5_put 13 = .ok (.aload_n 0, 1) := by decide +kernel
theorem dX5_put_14 : decode cX5_put 14 = .ok (.iload_n 3, 1) := by decide +kernel
theorem dX5_put_15 : decode cX5_put 15 = .ok (.invokevirtual 124, 3) := by decide +kernel
theorem dX5_put_18 : decode cX5_put 18 = .ok (.ifCond .ne 6, 3) := by decide +kernel
theorem dX5_put_21 : decode cX5_put 21 = .ok (.bipush (-101), 2) := by decide +kernel
theorem dX5_put_23 : decode cX5_put 23 = .ok (.ireturn, 1) := by decide +kernel
theorem dX5_put_24 : decode cX5_put 24 = .ok (.iload_n 2, 1) := by decide +kernel
theorem dX5_put_25 : decode cX5_put 25 = .ok (.iconst 0, 1) := by decide +kernel
theorem dX5_put_26 : decode cX5_put 26 = .ok (.aload_n 0, 1) := by decide +kernel
theorem dX5_put_27 : decode cX5_put 27 = .ok (.getfield 39, 3) := by decide +kernel
theorem dX5_put_30 : decode cX5_put 30 = .ok (.iload_n 1, 1) := by decide +kernel
theorem dX5_put_31 : decode cX5_put 31 = .ok (.iaload, 1) := by decide +kernel
theorem dX5_put_32 : decode cX5_put 32 = .ok (.iconst 1, 1) := by decide +kernel
theorem dX5_put_33 : decode cX5_put 33 = .ok (.isub, 1) := by decide +kernel
theorem dX5_put_34 : decode cX5_put 34 = .ok (.invokestatic 61, 3) := by decide +kernel
theorem dX5_put_37 : decode cX5_put 37 = .ok (.ifCond .ne 6, 3) := by decide +kernel
theorem dX5_put_40 : decode cX5_put 40 = .ok (.bipush (-12), 2) := by decide +kernel
theorem dX5_put_42 : decode cX5_put 42 = .ok (.ireturn, 1) := by decide +kernel
theorem dX5_put_43 : decode cX5_put 43 = .ok (.aload_n 0, 1) := by decide +kernel
theorem dX5_put_44 : decode cX5_put 44 = .ok (.getfield 27, 3) := by decide +kernel
theorem dX5_put_47 : decode cX5_put 47 = .ok (.iload_n 1, 1) := by decide +kernel
theorem dX5_put_48 : decode cX5_put 48 = .ok (.iload_n 2, 1) := by decide +kernel
theorem dX5_put_49 : decode cX5_put 49 = .ok (.iadd, 1) := by decide +kernel
theorem dX5_put_50 : decode cX5_put 50 = .ok (.iload_n 3, 1) := by decide +kernel
theorem dX5_put_51 : decode cX5_put 51 = .ok (.iastore, 1) := by decide +kernel
theorem dX5_put_52 : decode cX5_put 52 = .ok (.aload_n 0, 1) := by decide +kernel
theorem dX5_put_53 : decode cX5_put 53 = .ok (.getfield 81, 3) := by decide +kernel
theorem dX5_put_56 : decode cX5_put 56 = .ok (.iconst 1, 1) := by decide +kernel
theorem dX5_put_57 : decode cX5_put 57 = .ok (.if_icmp .ne 18, 3) := by decide +kernel
theorem dX5_put_60 : decode cX5_put 60 = .ok (.aload_n 0, 1) := by decide +kernel
theorem dX5_put_61 : decode cX5_put 61 = .ok (.getfield 20, 3) := by decide +kernel
theorem dX5_put_64 : decode cX5_put 64 = .ok (.iload_n 1, 1) := by decide +kernel
theorem dX5_put_65 : decode cX5_put 65 = .ok (.iload_n 2, 1) := by decide +kernel
theorem dX5_put_66 : decode cX5_put 66 = .ok (.iadd, 1) := by decide +kernel
theorem dX5_put_67 : decode cX5_put 67 = .ok (.bipush 64, 2) := by decide +kernel
theorem dX5_put_69 : decode cX5_put 69 = .ok (.idiv, 1) := by decide +kernel
theorem dX5_put_70 : decode cX5_put 70 = .ok (.iconst 1, 1) := by decide +kernel
theorem dX5_put_71 : decode cX5_put 71 = .ok (.bastore, 1) := by decide +kernel
theorem dX5_put_72 : decode cX5_put 72 = .ok (.goto 64, 3) := by decide +kernel
theorem dX5_put_75 : decode cX5_put 75 = .ok (.aload_n 0, 1) := by decide +kernel
theorem dX5_put_76 : decode cX5_put 76 = .ok (.getfield 33, 3) := by decide +kernel
theorem dX5_put_79 : decode cX5_put 79 = .ok (.iload_n 1, 1) := by decide +kernel
theorem dX5_put_80 : decode cX5_put 80 = .ok (.baload, 1) := by decide +kernel
theorem dX5_put_81 : decode cX5_put 81 = .ok (.ifCond .eq 55, 3) := by decide +kernel
theorem dX5_put_84 : decode cX5_put 84 = .ok (.aload_n 0, 1) := by decide +kernel
theorem dX5_put_85 : decode cX5_put 85 = .ok (.getfield 75, 3) := by decide +kernel
theorem dX5_put_88 : decode cX5_put 88 = .ok (.ifCond .ne 48, 3) := by decide +kernel
theorem dX5_put_91 : decode cX5_put 91 = .ok (.aload_n 0, 1) := by decide +kernel
theorem dX5_put_92 : decode cX5_put 92 = .ok (.iload_n 1, 1) := by decide +kernel
theorem dX5_put_93 : decode cX5_put 93 = .ok (.invokevirtual 128, 3) := by decide +kernel
theorem dX5_put_96 : decode cX5_put 96 = .ok (.ifCond .ne 40, 3) := by decide +kernel
theorem dX5_put_99 : decode cX5_put 99 = .ok (.aload_n 0, 1) := by decide +kernel
theorem dX5_put_100 : decode cX5_put 100 = .ok (.getfield 72, 3) := by decide +kernel
theorem dX5_put_103 : decode cX5_put 103 = .ok (.bipush 12, 2) := by decide +kernel
theorem dX5_put_105 : decode cX5_put 105 = .ok (.if_icmp .ne 11, 3) := by decide +kernel
theorem dX5_put_108 : decode cX5_put 108 = .ok (.aload_n 0, 1) := by decide +kernel
theorem dX5_put_109 : decode cX5_put 109 = .ok (.iconst 1, 1) := by decide +kernel
theorem dX5_put_110 : decode cX5_put 110 = .ok (.putfield 75, 3) := by decide +kernel
theorem dX5_put_113 : decode cX5_put 113 = .ok (.goto 23, 3) := by decide +kernel
theorem dX5_put_116 : decode cX5_put 116 = .ok (.aload_n 0, 1) := by decide +kernel
theorem dX5_put_117 : decode cX5_put 117 = .ok (.getfield 51, 3) := by decide +kernel
theorem dX5_put_120 : decode cX5_put 120 = .ok (.aload_n 0, 1) := by decide +kernel
theorem dX5_put_121 : decode cX5_put 121 = .ok (.getfield 72, 3) := by decide +kernel
theorem dX5_put_124 : decode cX5_put 124 = .ok (.iload_n 1, 1) := by decide +kernel
theorem dX5_put_125 : decode cX5_put 125 = .ok (.iastore, 1) := by decide +kernel
theorem dX5_put_126 : decode cX5_put 126 = .ok (.aload_n 0, 1) := by decide +kernel
theorem dX5_put_127 : decode cX5_put 127 = .ok (.dup, 1) := by decide +kernel
theorem dX5_put_128 : decode cX5_put 128 = .ok (.getfield 72, 3) := by decide +kernel
theorem dX5_put_131 : decode cX5_put 131 = .ok (.iconst 1, 1) := by decide +kernel
theorem dX5_put_132 : decode cX5_put 132 = .ok (.iadd, 1) := by decide +kernel
theorem dX5_put_133 : decode cX5_put 133 = .ok (.putfield 72, 3) := by decide +kernel
theorem dX5_put_136 : decode cX5_put 136 = .ok (.iconst 1, 1) := by decide +kernel
theorem dX5_put_137 : decode cX5_put 137 = .ok (.ireturn, 1) := by decide +kernel
set_option maxRecDepth 20000 in
theorem ggX5_link_X5_isThing : GoodIn wsX5_link wsX5_isThing := goodIn_r _ [7, 8, 9, 10, 11, 6, 12, 13, 14, 15, 16, 17, 18, 19, 20, 21, 22, 23, 24, 25, 26, 27, 28, 29, 30, 31, 32, 33, 34, 35, 36, 37, 38, 39] (by decide +kernel) (by decide +kernel)
set_option maxRecDepth 20000 in
theorem gX5_link_X5_isThing : GoodIn wsX5_link (wsV RX5 124 RX5 yX5_isThing wsX5_isThing) := goodIn_app (goodIn_of _ (by decide +kernel)) ggX5_link_X5_isThing
set_option maxRecDepth 20000 in
theorem ggX5_link_X5_in : GoodIn wsX5_link wsX5_in := goodIn_r _ [12] (by decide +kernel) (by decide +kernel)
set_option maxRecDepth 20000 in
theorem gX5_link_X5_in : GoodIn wsX5_link (va_wsS RX5 61 yX5_in wsX5_in) := goodIn_app (goodIn_of _ (by decide +kernel)) ggX5_link_X5_in
theorem dX5_link_0 : decode cX5_link 0 = .ok (.aload_n 0, 1) := by decide +kernel
theorem dX5_link_1 : decode cX5_link 1 = .ok (.iload_n 1, 1) := by decide +kernel
theorem dX5_link_2 : decode cX5_link 2 = .ok (.invokevirtual 124, 3) := by decide +kernel
theorem dX5_link_5 : decode cX5_link 5 = .ok (.ifCond .ne 6, 3) := by decide +kernel
theorem dX5_link_8 : decode cX5_link 8 = .ok (.bipush (-101), 2) := by decide +kernel
theorem dX5_link_10 : decode cX5_link 10 = .ok (.ireturn, 1) := by decide +kernel
theorem dX5_link_11 : decode cX5_link 11 = .ok (.iload_n 2, 1) := by decide +kernel
theorem dX5_link_12 : decode cX5_link 12 = .ok (.iconst 0, 1) := by decide +kernel
theorem dX5_link_13 : decode cX5_link 13 = .ok (.aload_n 0, 1) := by decide +kernel
theorem dX5_link_14 : decode cX5_link 14 = .ok (.getfield 39, 3) := by decide +kernel
theorem dX5_link_17 : decode cX5_link 17 = .ok (.iload_n 1, 1) := by decide +kernel
theorem dX5_link_18 : decode cX5_link 18 = .ok (.iaload, 1) := by decide +kernel
theorem dX5_link_19 : decode cX5_link 19 = .ok (.iconst 1, 1) := by decide +kernel
theorem dX5_link_20 : decode cX5_link 20 = .ok (.isub, 1) := by decide +kernel
theorem dX5_link_21 : decode cX5_link 21 = .ok (.invokestatic 61, 3) := by decide +kernel
theorem dX5_link_24 : decode cX5_link 24 = .ok (.ifCond .eq 14, 3) := by decide +kernel
theorem dX5_link_27 : decode cX5_link 27 = .ok (.aload_n 0, 1) := by decide +kernel
theorem dX5_link_28 : decode cX5_link 28 = .ok (.getfield 27, 3) := by decide +kernel
theorem dX5_link_31 : decode cX5_link 31 = .ok (.iload_n 1, 1) := by decide +kernel
theorem dX5_link_32 : decode cX5_link 32 = .ok (.iload_n 2, 1) := by decide +kernel
theorem dX5_link_33 : decode cX5_link 33 = .ok (.iadd, 1) := by decide +kernel
theorem dX5_link_34 : decode cX5_link 34 = .ok (.iaload, 1) := by decide +kernel
theorem dX5_link_35 : decode cX5_link 35 = .ok (.goto 5, 3) := by decide +kernel
theorem dX5_link_38 : decode cX5_link 38 = .ok (.bipush (-12), 2) := by decide +kernel
theorem dX5_link_40 : decode cX5_link 40 = .ok (.ireturn, 1) := by decide +kernel
set_option maxRecDepth 20000 in
theorem ggX5_set_X5_isThing : GoodIn wsX5_set wsX5_isThing := goodIn_r _ [7, 8, 9, 10, 11, 6, 12, 18, 19, 20, 21, 22, 23, 24, 25, 26, 27, 28, 29, 30, 31, 32, 33, 34, 35, 36, 37, 38, 39, 40, 41, 42, 43, 44] (by decide +kernel) (by decide +kernel)
set_option maxRecDepth 20000 in
theorem gX5_set_X5_isThing : GoodIn wsX5_set (wsV RX5 124 RX5 yX5_isThing wsX5_isThing) := goodIn_app (goodIn_of _ (by decide +kernel)) ggX5_set_X5_isThing
set_option maxRecDepth 20000 in
theorem ggX5_set_X5_size : GoodIn wsX5_set wsX5_size := goodIn_r _ [16, 1, 17, 18, 19, 20, 21, 22, 23, 24, 25, 26, 27, 28, 29, 30, 31, 32, 33, 34, 35, 36, 37, 38, 39, 40, 41, 42, 43, 44] (by decide +kernel) (by decide +kernel)
set_option maxRecDepth 20000 in
theorem gX5_set_X5_size : GoodIn wsX5_set (wsV RX5 84 RX5 yX5_size wsX5_size) := goodIn_app (goodIn_of _ (by decide +kernel)) ggX5_set_X5_size
set_option maxRecDepth 20000 in
theorem ggX5_set_X5_in : GoodIn wsX5_set wsX5_in := goodIn_r _ [12] (by decide +kernel) (by decide +kernel)
set_option maxRecDepth 20000 in
theorem gX5_set_X5_in : GoodIn wsX5_set (va_wsS RX5 61 yX5_in wsX5_in) := goodIn_app (goodIn_of _ (by decide +kernel)) ggX5_set_X5_in
theorem dX5_set_0 : decode cX5_set 0 = .ok (.aload_n 0, 1) := by decide +kernel
theorem dX5_set_1 : decode cX5_set 1 = .ok (.iload_n 1, 1) := by decide +kernel
theorem dX5_set_2 : decode cX5_set 2 = .ok (.invokevirtual 124, 3) := by decide +kernel
theorem dX5_set_5 : decode cX5_set 5 = .ok (.ifCond .ne 6, 3) := by decide +kernel
theorem dX5_set_8 : decode cX5_set 8 = .ok (.bipush (-101), 2) := by decide +kernel
theorem dX5_set_10 : decode cX5_set 10 = .ok (.ireturn, 1) := by decide +kernel
theorem dX5_set_11 : decode cX5_set 11 = .ok (.iload_n 2, 1) := by decide +kernel
theorem dX5_set_12 : decode cX5_set 12 = .ok (.aload_n 0, 1) := by decide +kernel
theorem dX5_set_13 : decode cX5_set 13 = .ok (.getfield 39, 3) := by decide +kernel
theorem dX5_set_16 : decode cX5_set 16 = .ok (.iload_n 1, 1) := by decide +kernel
theorem dX5_set_17 : decode cX5_set 17 = .ok (.iaload, 1) := by decide +kernel
theorem dX5_set_18 : decode cX5_set 18 = .ok (.aload_n 0, 1) := by decide +kernel
theorem dX5_set_19 : decode cX5_set 19 = .ok (.iload_n 1, 1) := by decide +kernel
theorem dX5_set_20 : decode cX5_set 20 = .ok (.invokevirtual 84, 3) := by decide +kernel
theorem dX5_set_23 : decode cX5_set 23 = .ok (.iconst 1, 1) := by decide +kernel
theorem dX5_set_24 : decode cX5_set 24 = .ok (.isub, 1) := by decide +kernel
theorem dX5_set_25 : decode cX5_set 25 = .ok (.invokestatic 61, 3) := by decide +kernel
theorem dX5_set_28 : decode cX5_set 28 = .ok (.ifCond .ne 6, 3) := by decide +kernel
theorem dX5_set_31 : decode cX5_set 31 = .ok (.bipush (-12), 2) := by decide +kernel
theorem dX5_set_33 : decode cX5_set 33 = .ok (.ireturn, 1) := by decide +kernel
theorem dX5_set_34 : decode cX5_set 34 = .ok (.aload_n 0, 1) := by decide +kernel
theorem dX5_set_35 : decode cX5_set 35 = .ok (.getfield 27, 3) := by decide +kernel
theorem dX5_set_38 : decode cX5_set 38 = .ok (.iload_n 1, 1) := by decide +kernel
theorem dX5_set_39 : decode cX5_set 39 = .ok (.iload_n 2, 1) := by decide +kernel
theorem dX5_set_40 : decode cX5_set 40 = .ok (.iadd, 1) := by decide +kernel
theorem dX5_set_41 : decode cX5_set 41 = .ok (.iload_n 3, 1) := by decide +kernel
theorem dX5_set_42 : decode cX5_set 42 = .ok (.iastore, 1) := by decide +kernel
theorem dX5_set_43 : decode cX5_set 43 = .ok (.iconst 1, 1) := by decide +kernel
theorem dX5_set_44 : decode cX5_set 44 = .ok (.ireturn, 1) := by decide +kernel
set_option maxRecDepth 20000 in
theorem ggX5_get_X5_isThing : GoodIn wsX5_get wsX5_isThing := goodIn_r _ [8, 9, 10, 11, 12, 7, 13, 19, 20, 21, 22, 23, 24, 25, 26, 27, 28, 29, 30, 31, 32, 33, 34, 35, 36, 37, 38, 39, 40, 41, 42, 43, 44, 45] (by decide +kernel) (by decide +kernel)
set_option maxRecDepth 20000 in
theorem gX5_get_X5_isThing : GoodIn wsX5_get (wsV RX5 124 RX5 yX5_isThing wsX5_isThing) := goodIn_app (goodIn_of _ (by decide +kernel)) ggX5_get_X5_isThing
set_option maxRecDepth 20000 in
theorem ggX5_get_X5_size : GoodIn wsX5_get wsX5_size := goodIn_r _ [17, 1, 18, 19, 20, 21, 22, 23, 24, 25, 26, 27, 28, 29, 30, 31, 32, 33, 34, 35, 36, 37, 38, 39, 40, 41, 42, 43, 44, 45] (by decide +kernel) (by decide +kernel)
set_option maxRecDepth 20000 in
theorem gX5_get_X5_size : GoodIn wsX5_get (wsV RX5 84 RX5 yX5_size wsX5_size) := goodIn_app (goodIn_of _ (by decide +kernel)) ggX5_get_X5_size
set_option maxRecDepth 20000 in
theorem ggX5_get_X5_in : GoodIn wsX5_get wsX5_in := goodIn_r _ [13] (by decide +kernel) (by decide +kernel)
set_option maxRecDepth 20000 in
theorem gX5_get_X5_in : GoodIn wsX5_get (va_wsS RX5 61 yX5_in wsX5_in) := goodIn_app (goodIn_of _ (by decide +kernel)) ggX5_get_X5_in
theorem dX5_get_0 : decode cX5_get 0 = .ok (.aload_n 0, 1) := by decide +kernel
theorem dX5_get_1 : decode cX5_get 1 = .ok (.iload_n 1, 1) := by decide +kernel
theorem dX5_get_2 : decode cX5_get 2 = .ok (.invokevirtual 124, 3) := by decide +kernel
theorem dX5_get_5 : decode cX5_get 5 = .ok (.ifCond .ne 6, 3) := by decide +kernel
theorem dX5_get_8 : decode cX5_get 8 = .ok (.bipush (-101), 2) := by decide +kernel
theorem dX5_get_10 : decode cX5_get 10 = .ok (.ireturn, 1) := by decide +kernel
theorem dX5_get_11 : decode cX5_get 11 = .ok (.iload_n 2, 1) := by decide +kernel
theorem dX5_get_12 : decode cX5_get 12 = .ok (.aload_n 0, 1) := by decide +kernel
theorem dX5_get_13 : decode cX5_get 13 = .ok (.getfield 39, 3) := by decide +kernel
theorem dX5_get_16 : decode cX5_get 16 = .ok (.iload_n 1, 1) := by decide +kernel
theorem dX5_get_17 : decode cX5_get 17 = .ok (.iaload, 1) := by decide +kernel
theorem dX5_get_18 : decode cX5_get 18 = .ok (.aload_n 0, 1) := by decide +kernel
theorem dX5_get_19 : decode cX5_get 19 = .ok (.iload_n 1, 1) := by decide +kernel
theorem dX5_get_20 : decode cX5_get 20 = .ok (.invokevirtual 84, 3) := by decide +kernel
theorem dX5_get_23 : decode cX5_get 23 = .ok (.iconst 1, 1) := by decide +kernel
theorem dX5_get_24 : decode cX5_get 24 = .ok (.isub, 1) := by decide +kernel
theorem dX5_get_25 : decode cX5_get 25 = .ok (.invokestatic 61, 3) := by decide +kernel
theorem dX5_get_28 : decode cX5_get 28 = .ok (.ifCond .ne 6, 3) := by decide +kernel
theorem dX5_get_31 : decode cX5_get 31 = .ok (.bipush (-12), 2) := by decide +kernel
theorem dX5_get_33 : decode cX5_get 33 = .ok (.ireturn, 1) := by decide +kernel
theorem dX5_get_34 : decode cX5_get 34 = .ok (.aload_n 0, 1) := by decide +kernel
theorem dX5_get_35 : decode cX5_get 35 = .ok (.aload_n 0, 1) := by decide +kernel
theorem dX5_get_36 : decode cX5_get 36 = .ok (.getfield 27, 3) := by decide +kernel
theorem dX5_get_39 : decode cX5_get 39 = .ok (.iload_n 1, 1) := by decide +kernel
theorem dX5_get_40 : decode cX5_get 40 = .ok (.iload_n 2, 1) := by decide +kernel
theorem dX5_get_41 : decode cX5_get 41 = .ok (.iadd, 1) := by decide +kernel
theorem dX5_get_42 : decode cX5_get 42 = .ok (.iaload, 1) := by decide +kernel
theorem dX5_get_43 : decode cX5_get 43 = .ok (.putfield 78, 3) := by decide +kernel
theorem dX5_get_46 : decode cX5_get 46 = .ok (.iconst 1, 1) := by decide +kernel
theorem dX5_get_47 : decode cX5_get 47 = .ok (.ireturn, 1) := by decide +kernel
theorem dX5_seen_0 : decode cX5_seen 0 = .ok (.aload_n 0, 1) := by decide +kernel
theorem dX5_seen_1 : decode cX5_seen 1 = .ok (.getfield 78, 3) := by decide +kernel
theorem dX5_seen_4 : decode cX5_seen 4 = .ok (.ireturn, 1) := by decide +kernel
set_option maxRecDepth 20000 in
theorem ggX5_isRemembered_X5_isLogged : GoodIn wsX5_isRemembered wsX5_isLogged := goodIn_r _ [10, 11, 12, 13, 14, 15, 16, 17, 18, 19, 20, 21, 22, 23, 24, 25, 26, 27, 28, 29, 30, 31, 32, 33, 34, 35, 36, 37, 38, 39] (by decide +kernel) (by decide +kernel)
set_option maxRecDepth 20000 in
theorem gX5_isRemembered_X5_isLogged : GoodIn wsX5_isRemembered (wsV RX5 128 RX5 yX5_isLogged wsX5_isLogged) := goodIn_app (goodIn_of _ (by decide +kernel)) ggX5_isRemembered_X5_isLogged
theorem dX5_isRemembered_0 : decode cX5_isRemembered 0 = .ok (.aload_n 0, 1) := by decide +kernel
theorem dX5_isRemembered_1 : decode cX5_isRemembered 1 = .ok (.getfield 33, 3) := by decide +kernel
theorem dX5_isRemembered_4 : decode cX5_isRemembered 4 = .ok (.iload_n 1, 1) := by decide +kernel
theorem dX5_isRemembered_5 : decode cX5_isRemembered 5 = .ok (.baload, 1) := by decide +kernel
theorem dX5_isRemembered_6 : decode cX5_isRemembered 6 = .ok (.ifCond .ne 5, 3) := by decide +kernel
theorem dX5_isRemembered_9 : decode cX5_isRemembered 9 = .ok (.iconst 0, 1) := by decide +kernel
theorem dX5_isRemembered_10 : decode cX5_isRemembered 10 = .ok (.ireturn, 1) := by decide +kernel
theorem dX5_isRemembered_11 : decode cX5_isRemembered 11 = .ok (.aload_n 0, 1) := by decide +kernel
theorem dX5_isRemembered_12 : decode cX5_isRemembered 12 = .ok (.getfield 81, 3) := by decide +kernel
theorem dX5_isRemembered_15 : decode cX5_isRemembered 15 = .ok (.ifCond .ne 24, 3) := by decide +kernel
theorem dX5_isRemembered_18 : decode cX5_isRemembered 18 = .ok (.aload_n 0, 1) := by decide +kernel
theorem dX5_isRemembered_19 : decode cX5_isRemembered 19 = .ok (.getfield 75, 3) := by decide +kernel
theorem dX5_isRemembered_22 : decode cX5_isRemembered 22 = .ok (.ifCond .ne 11, 3) := by decide +kernel
theorem dX5_isRemembered_25 : decode cX5_isRemembered 25 = .ok (.aload_n 0, 1) := by decide +kernel
theorem dX5_isRemembered_26 : decode cX5_isRemembered 26 = .ok (.iload_n 1, 1) := by decide +kernel
theorem dX5_isRemembered_27 : decode cX5_isRemembered 27 = .ok (.invokevirtual 128, 3) := by decide +kernel
theorem dX5_isRemembered_30 : decode cX5_isRemembered 30 = .ok (.ifCond .eq 7, 3) := by decide +kernel
theorem dX5_isRemembered_33 : decode cX5_isRemembered 33 = .ok (.iconst 1, 1) := by decide +kernel
theorem dX5_isRemembered_34 : decode cX5_isRemembered 34 = .ok (.goto 4, 3) := by decide +kernel
theorem dX5_isRemembered_37 : decode cX5_isRemembered 37 = .ok (.iconst 0, 1) := by decide +kernel
theorem dX5_isRemembered_38 : decode cX5_isRemembered 38 = .ok (.ireturn, 1) := by decide +kernel
theorem dX5_isRemembered_39 : decode cX5_isRemembered 39 = .ok (.iconst 0, 1) := by decide +kernel
theorem dX5_isRemembered_40 : decode cX5_isRemembered 40 = .ok (.istore_n 2, 1) := by decide +kernel
theorem dX5_isRemembered_41 : decode cX5_isRemembered 41 = .ok (.iconst 0, 1) := by decide +kernel
theorem dX5_isRemembered_42 : decode cX5_isRemembered 42 = .ok (.istore_n 3, 1) := by decide +kernel
theorem dX5_isRemembered_43 : decode cX5_isRemembered 43 = .ok (.iload_n 3, 1) := by decide +kernel
theorem dX5_isRemembered_44 : decode cX5_isRemembered 44 = .ok (.aload_n 0, 1) := by decide +kernel
theorem dX5_isRemembered_45 : decode cX5_isRemembered 45 = .ok (.getfield 39, 3) := by decide +kernel
theorem dX5_isRemembered_48 : decode cX5_isRemembered 48 = .ok (.iload_n 1, 1) := by decide +kernel
theorem dX5_isRemembered_49 : decode cX5_isRemembered 49 = .ok (.iaload, 1) := by decide +kernel
theorem dX5_isRemembered_50 : decode cX5_isRemembered 50 = .ok (.if_icmp .ge 33, 3) := by decide +kernel
theorem dX5_isRemembered_53 : decode cX5_isRemembered 53 = .ok (.iload_n 2, 1) := by decide +kernel
theorem dX5_isRemembered_54 : decode cX5_isRemembered 54 = .ok (.ifCond .ne 17, 3) := by decide +kernel
theorem dX5_isRemembered_57 : decode cX5_isRemembered 57 = .ok (.aload_n 0, 1) := by decide +kernel
theorem dX5_isRemembered_58 : decode cX5_isRemembered 58 = .ok (.getfield 20, 3) := by decide +kernel
theorem dX5_isRemembered_61 : decode cX5_isRemembered 61 = .ok (.iload_n 1, 1) := by decide +kernel
theorem dX5_isRemembered_62 : decode cX5_isRemembered 62 = .ok (.iload_n 3, 1) := by decide +kernel
theorem dX5_isRemembered_63 : decode cX5_isRemembered 63 = .ok (.iadd, 1) := by decide +kernel
theorem dX5_isRemembered_64 : decode cX5_isRemembered 64 = .ok (.bipush 64, 2) := by decide +kernel
theorem dX5_isRemembered_66 : decode cX5_isRemembered 66 = .ok (.idiv, 1) := by decide +kernel
theorem dX5_isRemembered_67 : decode cX5_isRemembered 67 = .ok (.baload, 1) := by decide +kernel
theorem dX5_isRemembered_68 : decode cX5_isRemembered 68 = .ok (.ifCond .eq 7, 3) := by decide +kernel
theorem dX5_isRemembered_71 : decode cX5_isRemembered 71 = .ok (.iconst 1, 1) := by decide +kernel
theorem dX5_isRemembered_72 : decode cX5_isRemembered 72 = .ok (.goto 4, 3) := by decide +kernel
theorem dX5_isRemembered_75 : decode cX5_isRemembered 75 = .ok (.iconst 0, 1) := by decide +kernel
theorem dX5_isRemembered_76 : decode cX5_isRemembered 76 = .ok (.istore_n 2, 1) := by decide +kernel
theorem dX5_isRemembered_77 : decode cX5_isRemembered 77 = .ok (.iinc 3 1, 3) := by decide +kernel
theorem dX5_isRemembered_80 : decode cX5_isRemembered 80 = .ok (.goto (-37), 3) := by decide +kernel
theorem dX5_isRemembered_83 : decode cX5_isRemembered 83 = .ok (.iload_n 2, 1) := by decide +kernel
theorem dX5_isRemembered_84 : decode cX5_isRemembered 84 = .ok (.ireturn, 1) := by decide +kernel
set_option maxRecDepth 20000 in
theorem ggX5_about_X5_isThing : GoodIn wsX5_about wsX5_isThing := goodIn_r _ [8, 9, 10, 11, 12, 7, 13, 41, 42, 43, 44, 45, 46, 47, 48, 49, 50, 51, 52, 53, 54, 55, 56, 57, 58, 59, 60, 61, 62, 63, 64, 65, 66, 67] (by decide +kernel) (by decide +kernel)
set_option maxRecDepth 20000 in
theorem gX5_about_X5_isThing : GoodIn wsX5_about (wsV RX5 124 RX5 yX5_isThing wsX5_isThing) := goodIn_app (goodIn_of _ (by decide +kernel)) ggX5_about_X5_isThing
set_option maxRecDepth 20000 in
theorem ggX5_about_X5_size : GoodIn wsX5_about wsX5_size := goodIn_r _ [17, 1, 2, 41, 42, 43, 44, 45, 46, 47, 48, 49, 50, 51, 52, 53, 54, 55, 56, 57, 58, 59, 60, 61, 62, 63, 64, 65, 66, 67] (by decide +kernel) (by decide +kernel)
set_option maxRecDepth 20000 in
theorem gX5_about_X5_size : GoodIn wsX5_about (wsV RX5 84 RX5 yX5_size wsX5_size) := goodIn_app (goodIn_of _ (by decide +kernel)) ggX5_about_X5_size
set_option maxRecDepth 20000 in
theorem ggX5_about_X5_classOf : GoodIn wsX5_about wsX5_classOf := goodIn_r _ [20] (by decide +kernel) (by decide +kernel)
set_option maxRecDepth 20000 in
theorem gX5_about_X5_classOf : GoodIn wsX5_about (va_wsS RX5 88 yX5_classOf wsX5_classOf) := goodIn_app (goodIn_of _ (by decide +kernel)) ggX5_about_X5_classOf
set_option maxRecDepth 20000 in
theorem ggX5_about_X5_isRemembered : GoodIn wsX5_about wsX5_isRemembered := goodIn_r _ [24, 3, 25, 26, 1, 27, 28, 29, 30, 7, 31, 32, 33, 41, 42, 43, 44, 45, 46, 47, 48, 49, 50, 51, 52, 53, 54, 55, 56, 57, 58, 59, 60, 61, 62, 63, 64, 65, 66, 67] (by decide +kernel) (by decide +kernel)
set_option maxRecDepth 20000 in
theorem gX5_about_X5_isRemembered : GoodIn wsX5_about (wsV RX5 131 RX5 yX5_isRemembered wsX5_isRemembered) := goodIn_app (goodIn_of _ (by decide +kernel)) ggX5_about_X5_isRemembered
set_option maxRecDepth 20000 in
theorem ggX5_about_X5_blocksOf : GoodIn wsX5_about wsX5_blocksOf := goodIn_r _ [37, 14, 15, 16, 7, 17, 1, 2, 41, 42, 43, 44, 45, 46, 47, 48, 49, 50, 51, 52, 53, 54, 55, 56, 57, 58, 59, 60, 61, 62, 63, 64, 65, 66, 67] (by decide +kernel) (by decide +kernel)
set_option maxRecDepth 20000 in
theorem gX5_about_X5_blocksOf : GoodIn wsX5_about (wsV RX5 134 RX5 yX5_blocksOf wsX5_blocksOf) := goodIn_app (goodIn_of _ (by decide +kernel)) ggX5_about_X5_blocksOf
set_option maxRecDepth 20000 in
theorem ggX5_about_X5_cell : GoodIn wsX5_about wsX5_cell := goodIn_r _ [40] (by decide +kernel) (by decide +kernel)
set_option maxRecDepth 20000 in
theorem gX5_about_X5_cell : GoodIn wsX5_about (va_wsS RX5 98 yX5_cell wsX5_cell) := goodIn_app (goodIn_of _ (by decide +kernel)) ggX5_about_X5_cell
theorem dX5_about_0 : decode cX5_about 0 = .ok (.aload_n 0, 1) := by decide +kernel
theorem dX5_about_1 : decode cX5_about 1 = .ok (.iload_n 1, 1) := by decide +kernel
theorem dX5_about_2 : decode cX5_about 2 = .ok (.invokevirtual 124, 3) := by decide +kernel
theorem dX5_about_5 : decode cX5_about 5 = .ok (.ifCond .ne 6, 3) := by decide +kernel
theorem dX5_about_8 : decode cX5_about 8 = .ok (.bipush (-101), 2) := by decide +kernel
theorem dX5_about_10 : decode cX5_about 10 = .ok (.ireturn, 1) := by decide +kernel
theorem dX5_about_11 : decode cX5_about 11 = .ok (.aload_n 0, 1) := by decide +kernel
theorem dX5_about_12 : decode cX5_about 12 = .ok (.iload_n 1, 1) := by decide +kernel
theorem dX5_about_13 : decode cX5_about 13 = .ok (.invokevirtual 84, 3) := by decide +kernel
theorem dX5_about_16 : decode cX5_about 16 = .ok (.invokestatic 88, 3) := by decide +kernel
theorem dX5_about_19 : decode cX5_about 19 = .ok (.istore_n 3, 1) := by decide +kernel
theorem dX5_about_20 : decode cX5_about 20 = .ok (.iload_n 2, 1) := by decide +kernel
theorem dX5_about_21 : decode cX5_about 21 = .ok (.tableswitch 105 0 5 #[39, 46, 53, 68, 82, 103], 39) := by decide +kernel
theorem dX5_about_60 : decode cX5_about 60 = .ok (.aload_n 0, 1) := by decide +kernel
theorem dX5_about_61 : decode cX5_about 61 = .ok (.getfield 39, 3) := by decide +kernel
theorem dX5_about_64 : decode cX5_about 64 = .ok (.iload_n 1, 1) := by decide +kernel
theorem dX5_about_65 : decode cX5_about 65 = .ok (.iaload, 1) := by decide +kernel
theorem dX5_about_66 : decode cX5_about 66 = .ok (.ireturn, 1) := by decide +kernel
theorem dX5_about_67 : decode cX5_about 67 = .ok (.aload_n 0, 1) := by decide +kernel
theorem dX5_about_68 : decode cX5_about 68 = .ok (.getfield 42, 3) := by decide +kernel
theorem dX5_about_71 : decode cX5_about 71 = .ok (.iload_n 1, 1) := by decide +kernel
theorem dX5_about_72 : decode cX5_about 72 = .ok (.iaload, 1) := by decide +kernel
theorem dX5_about_73 : decode cX5_about 73 = .ok (.ireturn, 1) := by decide +kernel
theorem dX5_about_74 : decode cX5_about 74 = .ok (.aload_n 0, 1) := by decide +kernel
theorem dX5_about_75 : decode cX5_about 75 = .ok (.getfield 33, 3) := by decide +kernel
theorem dX5_about_78 : decode cX5_about 78 = .ok (.iload_n 1, 1) := by decide +kernel
theorem dX5_about_79 : decode cX5_about 79 = .ok (.baload, 1) := by decide +kernel
theorem dX5_about_80 : decode cX5_about 80 = .ok (.ifCond .eq 7, 3) := by decide +kernel
theorem dX5_about_83 : decode cX5_about 83 = .ok (.iconst 1, 1) := by decide +kernel
theorem dX5_about_84 : decode cX5_about 84 = .ok (.goto 4, 3) := by decide +kernel
theorem dX5_about_87 : decode cX5_about 87 = .ok (.iconst 0, 1) := by decide +kernel
theorem dX5_about_88 : decode cX5_about 88 = .ok (.ireturn, 1) := by decide +kernel
theorem dX5_about_89 : decode cX5_about 89 = .ok (.aload_n 0, 1) := by decide +kernel
theorem dX5_about_90 : decode cX5_about 90 = .ok (.iload_n 1, 1) := by decide +kernel
theorem dX5_about_91 : decode cX5_about 91 = .ok (.invokevirtual 131, 3) := by decide +kernel
theorem dX5_about_94 : decode cX5_about 94 = .ok (.ifCond .eq 7, 3) := by decide +kernel
theorem dX5_about_97 : decode cX5_about 97 = .ok (.iconst 1, 1) := by decide +kernel
theorem dX5_about_98 : decode cX5_about 98 = .ok (.goto 4, 3) := by decide +kernel
theorem dX5_about_101 : decode cX5_about 101 = .ok (.iconst 0, 1) := by decide +kernel
theorem dX5_about_102 : decode cX5_about 102 = .ok (.ireturn, 1) := by decide +kernel
theorem dX5_about_103 : decode cX5_about 103 = .ok (.iload_n 3, 1) := by decide +kernel
theorem dX5_about_104 : decode cX5_about 104 = .ok (.iconst 5, 1) := by decide +kernel
theorem dX5_about_105 : decode cX5_about 105 = .ok (.if_icmp .ne 14, 3) := by decide +kernel
theorem dX5_about_108 : decode cX5_about 108 = .ok (.bipush 64, 2) := by decide +kernel
theorem dX5_about_110 : decode cX5_about 110 = .ok (.aload_n 0, 1) := by decide +kernel
theorem dX5_about_111 : decode cX5_about 111 = .ok (.iload_n 1, 1) := by decide +kernel
theorem dX5_about_112 : decode cX5_about 112 = .ok (.invokevirtual 134, 3) := by decide +kernel
theorem dX5_about_115 : decode cX5_about 115 = .ok (.imul, 1) := by decide +kernel
theorem dX5_about_116 : decode cX5_about 116 = .ok (.goto 7, 3) := by decide +kernel
theorem dX5_about_119 : decode cX5_about 119 = .ok (.iload_n 3, 1) := by decide +kernel
theorem dX5_about_120 : decode cX5_about 120 = .ok (.invokestatic 98, 3) := by decide +kernel
theorem dX5_about_123 : decode cX5_about 123 = .ok (.ireturn, 1) := by decide +kernel
theorem dX5_about_124 : decode cX5_about 124 = .ok (.iload_n 3, 1) := by decide +kernel
theorem dX5_about_125 : decode cX5_about 125 = .ok (.ireturn, 1) := by decide +kernel
theorem dX5_about_126 : decode cX5_about 126 = .ok (.bipush (-102), 2) := by decide +kernel
theorem dX5_about_128 : decode cX5_about 128 = .ok (.ireturn, 1) := by decide +kernel
set_option maxRecDepth 20000 in
theorem ggX5_points_X5_in : GoodIn wsX5_points wsX5_in := goodIn_r _ [8] (by decide +kernel) (by decide +kernel)
set_option maxRecDepth 20000 in
theorem gX5_points_X5_in : GoodIn wsX5_points (va_wsS RX5 61 yX5_in wsX5_in) := goodIn_app (goodIn_of _ (by decide +kernel)) ggX5_points_X5_in
set_option maxRecDepth 20000 in
theorem ggX5_points_X5_cell : GoodIn wsX5_points wsX5_cell := goodIn_r _ [11] (by decide +kernel) (by decide +kernel)
set_option maxRecDepth 20000 in
theorem gX5_points_X5_cell : GoodIn wsX5_points (va_wsS RX5 98 yX5_cell wsX5_cell) := goodIn_app (goodIn_of _ (by decide +kernel)) ggX5_points_X5_cell
theorem dX5_points_0 : decode cX5_points 0 = .ok (.iload_n 1, 1) := by decide +kernel
theorem dX5_points_1 : decode cX5_points 1 = .ok (.iconst 0, 1) := by decide +kernel
theorem dX5_points_2 : decode cX5_points 2 = .ok (.bipush 64, 2) := by decide +kernel
theorem dX5_points_4 : decode cX5_points 4 = .ok (.aload_n 0, 1) := by decide +kernel
theorem dX5_points_5 : decode cX5_points 5 = .ok (.getfield 7, 3) := by decide +kernel
theorem dX5_points_8 : decode cX5_points 8 = .ok (.imul, 1) := by decide +kernel
theorem dX5_points_9 : decode cX5_points 9 = .ok (.iconst 1, 1) := by decide +kernel
theorem dX5_points_10 : decode cX5_points 10 = .ok (.isub, 1) := by decide +kernel
theorem dX5_points_11 : decode cX5_points 11 = .ok (.invokestatic 61, 3) := by decide +kernel
theorem dX5_points_14 : decode cX5_points 14 = .ok (.ifCond .ne 5, 3) := by decide +kernel
theorem dX5_points_17 : decode cX5_points 17 = .ok (.iconst (-1), 1) := by decide +kernel
theorem dX5_points_18 : decode cX5_points 18 = .ok (.ireturn, 1) := by decide +kernel
theorem dX5_points_19 : decode cX5_points 19 = .ok (.iload_n 1, 1) := by decide +kernel
theorem dX5_points_20 : decode cX5_points 20 = .ok (.bipush 64, 2) := by decide +kernel
theorem dX5_points_22 : decode cX5_points 22 = .ok (.idiv, 1) := by decide +kernel
theorem dX5_points_23 : decode cX5_points 23 = .ok (.istore_n 2, 1) := by decide +kernel
theorem dX5_points_24 : decode cX5_points 24 = .ok (.aload_n 0, 1) := by decide +kernel
theorem dX5_points_25 : decode cX5_points 25 = .ok (.getfield 13, 3) := by decide +kernel
theorem dX5_points_28 : decode cX5_points 28 = .ok (.iload_n 2, 1) := by decide +kernel
theorem dX5_points_29 : decode cX5_points 29 = .ok (.iaload, 1) := by decide +kernel
theorem dX5_points_30 : decode cX5_points 30 = .ok (.ifCond .ne 5, 3) := by decide +kernel
theorem dX5_points_33 : decode cX5_points 33 = .ok (.iconst (-1), 1) := by decide +kernel
theorem dX5_points_34 : decode cX5_points 34 = .ok (.ireturn, 1) := by decide +kernel
theorem dX5_points_35 : decode cX5_points 35 = .ok (.aload_n 0, 1) := by decide +kernel
theorem dX5_points_36 : decode cX5_points 36 = .ok (.getfield 13, 3) := by decide +kernel
theorem dX5_points_39 : decode cX5_points 39 = .ok (.iload_n 2, 1) := by decide +kernel
theorem dX5_points_40 : decode cX5_points 40 = .ok (.iaload, 1) := by decide +kernel
theorem dX5_points_41 : decode cX5_points 41 = .ok (.iconst 1, 1) := by decide +kernel
theorem dX5_points_42 : decode cX5_points 42 = .ok (.if_icmp .ne 32, 3) := by decide +kernel
theorem dX5_points_45 : decode cX5_points 45 = .ok (.iload_n 1, 1) := by decide +kernel
theorem dX5_points_46 : decode cX5_points 46 = .ok (.iload_n 1, 1) := by decide +kernel
theorem dX5_points_47 : decode cX5_points 47 = .ok (.aload_n 0, 1) := by decide +kernel
theorem dX5_points_48 : decode cX5_points 48 = .ok (.getfield 17, 3) := by decide +kernel
theorem dX5_points_51 : decode cX5_points 51 = .ok (.iload_n 2, 1) := by decide +kernel
theorem dX5_points_52 : decode cX5_points 52 = .ok (.iaload, 1) := by decide +kernel
theorem dX5_points_53 : decode cX5_points 53 = .ok (.invokestatic 98, 3) := by decide +kernel
theorem dX5_points_56 : decode cX5_points 56 = .ok (.irem, 1) := by decide +kernel
theorem dX5_points_57 : decode cX5_points 57 = .ok (.isub, 1) := by decide +kernel
theorem dX5_points_58 : decode cX5_points 58 = .ok (.istore_n 3, 1) := by decide +kernel
theorem dX5_points_59 : decode cX5_points 59 = .ok (.aload_n 0, 1) := by decide +kernel
theorem dX5_points_60 : decode cX5_points 60 = .ok (.getfield 30, 3) := by decide +kernel
theorem dX5_points_63 : decode cX5_points 63 = .ok (.iload_n 3, 1) := by decide +kernel
theorem dX5_points_64 : decode cX5_points 64 = .ok (.baload, 1) := by decide +kernel
theorem dX5_points_65 : decode cX5_points 65 = .ok (.ifCond .eq 7, 3) := by decide +kernel
theorem dX5_points_68 : decode cX5_points 68 = .ok (.iload_n 3, 1) := by decide +kernel
theorem dX5_points_69 : decode cX5_points 69 = .ok (.goto 4, 3) := by decide +kernel
theorem dX5_points_72 : decode cX5_points 72 = .ok (.iconst (-1), 1) := by decide +kernel
theorem dX5_points_73 : decode cX5_points 73 = .ok (.ireturn, 1) := by decide +kernel
theorem dX5_points_74 : decode cX5_points 74 = .ok (.aload_n 0, 1) := by decide +kernel
theorem dX5_points_75 : decode cX5_points 75 = .ok (.getfield 13, 3) := by decide +kernel
theorem dX5_points_78 : decode cX5_points 78 = .ok (.iload_n 2, 1) := by decide +kernel
theorem dX5_points_79 : decode cX5_points 79 = .ok (.iaload, 1) := by decide +kernel
theorem dX5_points_80 : decode cX5_points 80 = .ok (.iconst 3, 1) := by decide +kernel
theorem dX5_points_81 : decode cX5_points 81 = .ok (.if_icmp .ne 9, 3) := by decide +kernel
theorem dX5_points_84 : decode cX5_points 84 = .ok (.iinc 2 (-1), 3) := by decide +kernel
theorem dX5_points_87 : decode cX5_points 87 = .ok (.goto (-13), 3) := by decide +kernel
theorem dX5_points_90 : decode cX5_points 90 = .ok (.bipush 64, 2) := by decide +kernel
theorem dX5_points_92 : decode cX5_points 92 = .ok (.iload_n 2, 1) := by decide +kernel
theorem dX5_points_93 : decode cX5_points 93 = .ok (.imul, 1) := by decide +kernel
theorem dX5_points_94 : decode cX5_points 94 = .ok (.ireturn, 1) := by decide +kernel
set_option maxRecDepth 20000 in
theorem ggX5_root_X5_in : GoodIn wsX5_root wsX5_in := goodIn_r _ [5] (by decide +kernel) (by decide +kernel)
set_option maxRecDepth 20000 in
theorem gX5_root_X5_in : GoodIn wsX5_root (va_wsS RX5 61 yX5_in wsX5_in) := goodIn_app (goodIn_of _ (by decide +kernel)) ggX5_root_X5_in
set_option maxRecDepth 20000 in
theorem ggX5_root_X5_isThing : GoodIn wsX5_root wsX5_isThing := goodIn_r _ [9, 10, 11, 2, 3, 4, 5, 12, 13, 14, 15, 16, 17, 18, 19, 20, 21, 22, 23, 24, 25, 26, 27, 28, 29, 30, 31, 32, 33, 34, 35, 36, 37, 38] (by decide +kernel) (by decide +kernel)
set_option maxRecDepth 20000 in
theorem gX5_root_X5_isThing : GoodIn wsX5_root (wsV RX5 124 RX5 yX5_isThing wsX5_isThing) := goodIn_app (goodIn_of _ (by decide +kernel)) ggX5_root_X5_isThing
theorem dX5_root_0 : decode cX5_root 0 = .ok (.iload_n 1, 1) := by decide +kernel
theorem dX5_root_1 : decode cX5_root 1 = .ok (.iconst 0, 1) := by decide +kernel
theorem dX5_root_2 : decode cX5_root 2 = .ok (.bipush 9, 2) := by decide +kernel
theorem dX5_root_4 : decode cX5_root 4 = .ok (.invokestatic 61, 3) := by decide +kernel
theorem dX5_root_7 : decode cX5_root 7 = .ok (.ifCond .eq 16, 3) := by decide +kernel
theorem dX5_root_10 : decode cX5_root 10 = .ok (.iload_n 2, 1) := by decide +kernel
theorem dX5_root_11 : decode cX5_root 11 = .ok (.iconst (-1), 1) := by decide +kernel
theorem dX5_root_12 : decode cX5_root 12 = .ok (.if_icmp .eq 14, 3) := by decide +kernel
theorem dX5_root_15 : decode cX5_root 15 = .ok (.aload_n 0, 1) := by decide +kernel
theorem dX5_root_16 : decode cX5_root 16 = .ok (.iload_n 2, 1) := by decide +kernel
theorem dX5_root_17 : decode cX5_root 17 = .ok (.invokevirtual 124, 3) := by decide +kernel
theorem dX5_root_20 : decode cX5_root 20 = .ok (.ifCond .ne 6, 3) := by decide +kernel
theorem dX5_root_23 : decode cX5_root 23 = .ok (.bipush (-101), 2) := by decide +kernel
theorem dX5_root_25 : decode cX5_root 25 = .ok (.ireturn, 1) := by decide +kernel
theorem dX5_root_26 : decode cX5_root 26 = .ok (.aload_n 0, 1) := by decide +kernel
theorem dX5_root_27 : decode cX5_root 27 = .ok (.getfield 45, 3) := by decide +kernel
theorem dX5_root_30 : decode cX5_root 30 = .ok (.iload_n 1, 1) := by decide +kernel
theorem dX5_root_31 : decode cX5_root 31 = .ok (.iaload, 1) := by decide +kernel
theorem dX5_root_32 : decode cX5_root 32 = .ok (.istore_n 3, 1) := by decide +kernel
theorem dX5_root_33 : decode cX5_root 33 = .ok (.aload_n 0, 1) := by decide +kernel
theorem dX5_root_34 : decode cX5_root 34 = .ok (.getfield 45, 3) := by decide +kernel
theorem dX5_root_37 : decode cX5_root 37 = .ok (.iload_n 1, 1) := by decide +kernel
theorem dX5_root_38 : decode cX5_root 38 = .ok (.iload_n 2, 1) := by decide +kernel
theorem dX5_root_39 : decode cX5_root 39 = .ok (.iastore, 1) := by decide +kernel
theorem dX5_root_40 : decode cX5_root 40 = .ok (.iload_n 3, 1) := by decide +kernel
theorem dX5_root_41 : decode cX5_root 41 = .ok (.ireturn, 1) := by decide +kernel
set_option maxRecDepth 20000 in
theorem ggX5_rooted_X5_in : GoodIn wsX5_rooted wsX5_in := goodIn_r _ [5] (by decide +kernel) (by decide +kernel)
set_option maxRecDepth 20000 in
theorem gX5_rooted_X5_in : GoodIn wsX5_rooted (va_wsS RX5 61 yX5_in wsX5_in) := goodIn_app (goodIn_of _ (by decide +kernel)) ggX5_rooted_X5_in
theorem dX5_rooted_0 : decode cX5_rooted 0 = .ok (.iload_n 1, 1) := by decide +kernel
theorem dX5_rooted_1 : decode cX5_rooted 1 = .ok (.iconst 0, 1) := by decide +kernel
theorem dX5_rooted_2 : decode cX5_rooted 2 = .ok (.bipush 9, 2) := by decide +kernel
theorem dX5_rooted_4 : decode cX5_rooted 4 = .ok (.invokestatic 61, 3) := by decide +kernel
theorem dX5_rooted_7 : decode cX5_rooted 7 = .ok (.ifCond .eq 12, 3) := by decide +kernel
theorem dX5_rooted_10 : decode cX5_rooted 10 = .ok (.aload_n 0, 1) := by decide +kernel
theorem dX5_rooted_11 : decode cX5_rooted 11 = .ok (.getfield 45, 3) := by decide +kernel
theorem dX5_rooted_14 : decode cX5_rooted 14 = .ok (.iload_n 1, 1) := by decide +kernel
theorem dX5_rooted_15 : decode cX5_rooted 15 = .ok (.iaload, 1) := by decide +kernel
theorem dX5_rooted_16 : decode cX5_rooted 16 = .ok (.goto 5, 3) := by decide +kernel
theorem dX5_rooted_19 : decode cX5_rooted 19 = .ok (.bipush (-101), 2) := by decide +kernel
theorem dX5_rooted_21 : decode cX5_rooted 21 = .ok (.ireturn, 1) := by decide +kernel
theorem dX5_push_0 : decode cX5_push 0 = .ok (.aload_n 0, 1) := by decide +kernel
theorem dX5_push_1 : decode cX5_push 1 = .ok (.getfield 69, 3) := by decide +kernel
theorem dX5_push_4 : decode cX5_push 4 = .ok (.bipush 24, 2) := by decide +kernel
theorem dX5_push_6 : decode cX5_push 6 = .ok (.if_icmp .ne 6, 3) := by decide +kernel
theorem dX5_push_9 : decode cX5_push 9 = .ok (.bipush (-104), 2) := by decide +kernel
theorem dX5_push_11 : decode cX5_push 11 = .ok (.ireturn, 1) := by decide +kernel
theorem dX5_push_12 : decode cX5_push 12 = .ok (.aload_n 0, 1) := by decide +kernel
theorem dX5_push_13 : decode cX5_push 13 = .ok (.getfield 48, 3) := by decide +kernel
theorem dX5_push_16 : decode cX5_push 16 = .ok (.aload_n 0, 1) := by decide +kernel
theorem dX5_push_17 : decode cX5_push 17 = .ok (.getfield 69, 3) := by decide +kernel
theorem dX5_push_20 : decode cX5_push 20 = .ok (.iload_n 1, 1) := by decide +kernel
theorem dX5_push_21 : decode cX5_push 21 = .ok (.iastore, 1) := by decide +kernel
theorem dX5_push_22 : decode cX5_push 22 = .ok (.aload_n 0, 1) := by decide +kernel
theorem dX5_push_23 : decode cX5_push 23 = .ok (.dup, 1) := by decide +kernel
theorem dX5_push_24 : decode cX5_push 24 = .ok (.getfield 69, 3) := by decide +kernel
theorem dX5_push_27 : decode cX5_push 27 = .ok (.iconst 1, 1) := by decide +kernel
theorem dX5_push_28 : decode cX5_push 28 = .ok (.iadd, 1) := by decide +kernel
theorem dX5_push_29 : decode cX5_push 29 = .ok (.putfield 69, 3) := by decide +kernel
theorem dX5_push_32 : decode cX5_push 32 = .ok (.aload_n 0, 1) := by decide +kernel
theorem dX5_push_33 : decode cX5_push 33 = .ok (.getfield 69, 3) := by decide +kernel
theorem dX5_push_36 : decode cX5_push 36 = .ok (.ireturn, 1) := by decide +kernel
theorem dX5_pop_0 : decode cX5_pop 0 = .ok (.aload_n 0, 1) := by decide +kernel
theorem dX5_pop_1 : decode cX5_pop 1 = .ok (.getfield 69, 3) := by decide +kernel
theorem dX5_pop_4 : decode cX5_pop 4 = .ok (.ifCond .ne 6, 3) := by decide +kernel
theorem dX5_pop_7 : decode cX5_pop 7 = .ok (.bipush (-103), 2) := by decide +kernel
theorem dX5_pop_9 : decode cX5_pop 9 = .ok (.ireturn, 1) := by decide +kernel
theorem dX5_pop_10 : decode cX5_pop 10 = .ok (.aload_n 0, 1) := by decide +kernel
theorem dX5_pop_11 : decode cX5_pop 11 = .ok (.dup, 1) := by decide +kernel
theorem dX5_pop_12 : decode cX5_pop 12 = .ok (.getfield 69, 3) := by decide +kernel
theorem dX5_pop_15 : decode cX5_pop 15 = .ok (.iconst 1, 1) := by decide +kernel
theorem dX5_pop_16 : decode cX5_pop 16 = .ok (.isub, 1) := by decide +kernel
theorem dX5_pop_17 : decode cX5_pop 17 = .ok (.putfield 69, 3) := by decide +kernel
theorem dX5_pop_20 : decode cX5_pop 20 = .ok (.aload_n 0, 1) := by decide +kernel
theorem dX5_pop_21 : decode cX5_pop 21 = .ok (.aload_n 0, 1) := by decide +kernel
theorem dX5_pop_22 : decode cX5_pop 22 = .ok (.getfield 48, 3) := by decide +kernel
theorem dX5_pop_25 : decode cX5_pop 25 = .ok (.aload_n 0, 1) := by decide +kernel
theorem dX5_pop_26 : decode cX5_pop 26 = .ok (.getfield 69, 3) := by decide +kernel
theorem dX5_pop_29 : decode cX5_pop 29 = .ok (.iaload, 1) := by decide +kernel
theorem dX5_pop_30 : decode cX5_pop 30 = .ok (.putfield 78, 3) := by decide +kernel
theorem dX5_pop_33 : decode cX5_pop 33 = .ok (.aload_n 0, 1) := by decide +kernel
theorem dX5_pop_34 : decode cX5_pop 34 = .ok (.getfield 69, 3) := by decide +kernel
theorem dX5_pop_37 : decode cX5_pop 37 = .ok (.ireturn, 1) := by decide +kernel
set_option maxRecDepth 20000 in
theorem ggX5_top_X5_in : GoodIn wsX5_top wsX5_in := goodIn_r _ [7] (by decide +kernel) (by decide +kernel)
set_option maxRecDepth 20000 in
theorem gX5_top_X5_in : GoodIn wsX5_top (va_wsS RX5 61 yX5_in wsX5_in) := goodIn_app (goodIn_of _ (by decide +kernel)) ggX5_top_X5_in
theorem dX5_top_0 : decode cX5_top 0 = .ok (.iload_n 1, 1) := by decide +kernel
theorem dX5_top_1 : decode cX5_top 1 = .ok (.iconst 0, 1) := by decide +kernel
theorem dX5_top_2 : decode cX5_top 2 = .ok (.aload_n 0, 1) := by decide +kernel
theorem dX5_top_3 : decode cX5_top 3 = .ok (.getfield 69, 3) := by decide +kernel
theorem dX5_top_6 : decode cX5_top 6 = .ok (.iconst 1, 1) := by decide +kernel
theorem dX5_top_7 : decode cX5_top 7 = .ok (.isub, 1) := by decide +kernel
theorem dX5_top_8 : decode cX5_top 8 = .ok (.invokestatic 61, 3) := by decide +kernel
theorem dX5_top_11 : decode cX5_top 11 = .ok (.ifCond .ne 5, 3) := by decide +kernel
theorem dX5_top_14 : decode cX5_top 14 = .ok (.iconst 0, 1) := by decide +kernel
theorem dX5_top_15 : decode cX5_top 15 = .ok (.ireturn, 1) := by decide +kernel
theorem dX5_top_16 : decode cX5_top 16 = .ok (.aload_n 0, 1) := by decide +kernel
theorem dX5_top_17 : decode cX5_top 17 = .ok (.aload_n 0, 1) := by decide +kernel
theorem dX5_top_18 : decode cX5_top 18 = .ok (.getfield 48, 3) := by decide +kernel
theorem dX5_top_21 : decode cX5_top 21 = .ok (.aload_n 0, 1) := by decide +kernel
theorem dX5_top_22 : decode cX5_top 22 = .ok (.getfield 69, 3) := by decide +kernel
theorem dX5_top_25 : decode cX5_top 25 = .ok (.iconst 1, 1) := by decide +kernel
theorem dX5_top_26 : decode cX5_top 26 = .ok (.isub, 1) := by decide +kernel
theorem dX5_top_27 : decode cX5_top 27 = .ok (.iload_n 1, 1) := by decide +kernel
theorem dX5_top_28 : decode cX5_top 28 = .ok (.isub, 1) := by decide +kernel
theorem dX5_top_29 : decode cX5_top 29 = .ok (.iaload, 1) := by decide +kernel
theorem dX5_top_30 : decode cX5_top 30 = .ok (.putfield 78, 3) := by decide +kernel
theorem dX5_top_33 : decode cX5_top 33 = .ok (.iconst 1, 1) := by decide +kernel
theorem dX5_top_34 : decode cX5_top 34 = .ok (.ireturn, 1) := by decide +kernel
theorem dX5_find_0 : decode cX5_find 0 = .ok (.iload_n 1, 1) := by decide +kernel
theorem dX5_find_1 : decode cX5_find 1 = .ok (.iconst (-1), 1) := by decide +kernel
theorem dX5_find_2 : decode cX5_find 2 = .ok (.if_icmp .eq 19, 3) := by decide +kernel
theorem dX5_find_5 : decode cX5_find 5 = .ok (.aload_n 0, 1) := by decide +kernel
theorem dX5_find_6 : decode cX5_find 6 = .ok (.getfield 33, 3) := by decide +kernel
theorem dX5_find_9 : decode cX5_find 9 = .ok (.iload_n 1, 1) := by decide +kernel
theorem dX5_find_10 : decode cX5_find 10 = .ok (.baload, 1) := by decide +kernel
theorem dX5_find_11 : decode cX5_find 11 = .ok (.ifCond .ne 10, 3) := by decide +kernel
theorem dX5_find_14 : decode cX5_find 14 = .ok (.aload_n 0, 1) := by decide +kernel
theorem dX5_find_15 : decode cX5_find 15 = .ok (.getfield 36, 3) := by decide +kernel
theorem dX5_find_18 : decode cX5_find 18 = .ok (.iload_n 1, 1) := by decide +kernel
theorem dX5_find_19 : decode cX5_find 19 = .ok (.iconst 1, 1) := by decide +kernel
theorem dX5_find_20 : decode cX5_find 20 = .ok (.bastore, 1) := by decide +kernel
theorem dX5_find_21 : decode cX5_find 21 = .ok (.return_, 1) := by decide +kernel
set_option maxRecDepth 20000 in
theorem ggX5_findAll_X5_find : GoodIn wsX5_findAll wsX5_find := goodIn_r _ [8, 9, 10, 11, 12, 13, 14, 15, 16, 17, 18, 19, 20, 21, 22, 23, 24, 25, 26, 27, 28, 29, 30, 31, 32, 33, 34, 35, 36, 37] (by decide +kernel) (by decide +kernel)
set_option maxRecDepth 20000 in
theorem gX5_findAll_X5_find : GoodIn wsX5_findAll (wsV RX5 137 RX5 yX5_find wsX5_find) := goodIn_app (goodIn_of _ (by decide +kernel)) ggX5_findAll_X5_find
theorem dX5_findAll_0 : decode cX5_findAll 0 = .ok (.iconst 0, 1) := by decide +kernel
theorem dX5_findAll_1 : decode cX5_findAll 1 = .ok (.istore_n 2, 1) := by decide +kernel
theorem dX5_findAll_2 : decode cX5_findAll 2 = .ok (.iload_n 2, 1) := by decide +kernel
theorem dX5_findAll_3 : decode cX5_findAll 3 = .ok (.aload_n 0, 1) := by decide +kernel
theorem dX5_findAll_4 : decode cX5_findAll 4 = .ok (.getfield 39, 3) := by decide +kernel
theorem dX5_findAll_7 : decode cX5_findAll 7 = .ok (.iload_n 1, 1) := by decide +kernel
theorem dX5_findAll_8 : decode cX5_findAll 8 = .ok (.iaload, 1) := by decide +kernel
theorem dX5_findAll_9 : decode cX5_findAll 9 = .ok (.if_icmp .ge 21, 3) := by decide +kernel
theorem dX5_findAll_12 : decode cX5_findAll 12 = .ok (.aload_n 0, 1) := by decide +kernel
theorem dX5_findAll_13 : decode cX5_findAll 13 = .ok (.aload_n 0, 1) := by decide +kernel
theorem dX5_findAll_14 : decode cX5_findAll 14 = .ok (.getfield 27, 3) := by decide +kernel
theorem dX5_findAll_17 : decode cX5_findAll 17 = .ok (.iload_n 1, 1) := by decide +kernel
theorem dX5_findAll_18 : decode cX5_findAll 18 = .ok (.iload_n 2, 1) := by decide +kernel
theorem dX5_findAll_19 : decode cX5_findAll 19 = .ok (.iadd, 1) := by decide +kernel
theorem dX5_findAll_20 : decode cX5_findAll 20 = .ok (.iaload, 1) := by decide +kernel
theorem dX5_findAll_21 : decode cX5_findAll 21 = .ok (.invokevirtual 137, 3) := by decide +kernel
theorem dX5_findAll_24 : decode cX5_findAll 24 = .ok (.iinc 2 1, 3) := by decide +kernel
theorem dX5_findAll_27 : decode cX5_findAll 27 = .ok (.goto (-25), 3) := by decide +kernel
theorem dX5_findAll_30 : decode cX5_findAll 30 = .ok (.aload_n 0, 1) := by decide +kernel
theorem dX5_findAll_31 : decode cX5_findAll 31 = .ok (.dup, 1) := by decide +kernel
theorem dX5_findAll_32 : decode cX5_findAll 32 = .ok (.getfield 141, 3) := by decide +kernel
theorem dX5_findAll_35 : decode cX5_findAll 35 = .ok (.aload_n 0, 1) := by decide +kernel
theorem dX5_findAll_36 : decode cX5_findAll 36 = .ok (.getfield 39, 3) := by decide +kernel
theorem dX5_findAll_39 : decode cX5_findAll 39 = .ok (.iload_n 1, 1) := by decide +kernel
theorem dX5_findAll_40 : decode cX5_findAll 40 = .ok (.iaload, 1) := by decide +kernel
theorem dX5_findAll_41 : decode cX5_findAll 41 = .ok (.iadd, 1) := by decide +kernel
theorem dX5_findAll_42 : decode cX5_findAll 42 = .ok (.putfield 141, 3) := by decide +kernel
theorem dX5_findAll_45 : decode cX5_findAll 45 = .ok (.return_, 1) := by decide +kernel
set_option maxRecDepth 20000 in
theorem ggX5_collect_X5_isRemembered : GoodIn wsX5_collect wsX5_isRemembered := goodIn_r _ [13, 4, 14, 15, 16, 17, 18, 19, 20, 12, 21, 22, 23, 68, 69, 70, 71, 72, 73, 74, 75, 76, 77, 78, 79, 80, 81, 82, 83, 84, 85, 86, 87, 88, 89, 90, 91, 92, 93, 94] (by decide +kernel) (by decide +kernel)
set_option maxRecDepth 20000 in
theorem gX5_collect_X5_isRemembered : GoodIn wsX5_collect (wsV RX5 131 RX5 yX5_isRemembered wsX5_isRemembered) := goodIn_app (goodIn_of _ (by decide +kernel)) ggX5_collect_X5_isRemembered
set_option maxRecDepth 20000 in
theorem ggX5_collect_X5_findAll : GoodIn wsX5_collect wsX5_findAll := goodIn_r _ [27, 16, 28, 29, 30, 31, 32, 12, 33, 4, 2, 68, 69, 70, 71, 72, 73, 74, 75, 76, 77, 78, 79, 80, 81, 82, 83, 84, 85, 86, 87, 88, 89, 90, 91, 92, 93, 94] (by decide +kernel) (by decide +kernel)
set_option maxRecDepth 20000 in
theorem gX5_collect_X5_findAll : GoodIn wsX5_collect (wsV RX5 144 RX5 yX5_findAll wsX5_findAll) := goodIn_app (goodIn_of _ (by decide +kernel)) ggX5_collect_X5_findAll
set_option maxRecDepth 20000 in
theorem ggX5_collect_X5_find : GoodIn wsX5_collect wsX5_find := goodIn_r _ [33, 4, 2, 68, 69, 70, 71, 72, 73, 74, 75, 76, 77, 78, 79, 80, 81, 82, 83, 84, 85, 86, 87, 88, 89, 90, 91, 92, 93, 94] (by decide +kernel) (by decide +kernel)
set_option maxRecDepth 20000 in
theorem gX5_collect_X5_find : GoodIn wsX5_collect (wsV RX5 137 RX5 yX5_find wsX5_find) := goodIn_app (goodIn_of _ (by decide +kernel)) ggX5_collect_X5_find
set_option maxRecDepth 20000 in
theorem ggX5_collect_X5_points : GoodIn wsX5_collect wsX5_points := goodIn_r _ [37, 1, 38, 39, 5, 40, 41, 12, 42, 43, 44, 45, 68, 69, 70, 71, 72, 73, 74, 75, 76, 77, 78, 79, 80, 81, 82, 83, 84, 85, 86, 87, 88, 89, 90, 91, 92, 93, 94] (by decide +kernel) (by decide +kernel)
set_option maxRecDepth 20000 in
theorem gX5_collect_X5_points : GoodIn wsX5_collect (wsV RX5 147 RX5 yX5_points wsX5_points) := goodIn_app (goodIn_of _ (by decide +kernel)) ggX5_collect_X5_points
set_option maxRecDepth 20000 in
theorem ggX5_collect_X5_free : GoodIn wsX5_collect wsX5_free := goodIn_r _ [49, 38, 50, 51, 52, 12, 53, 54, 55, 56, 57, 16, 58, 68, 69, 70, 71, 72, 73, 74, 75, 76, 77, 78, 79, 80, 81, 82, 83, 84, 85, 86, 87, 88, 89, 90, 91, 92, 93, 94] (by decide +kernel) (by decide +kernel)
set_option maxRecDepth 20000 in
theorem gX5_collect_X5_free : GoodIn wsX5_collect (wsV RX5 150 RX5 yX5_free wsX5_free) := goodIn_app (goodIn_of _ (by decide +kernel)) ggX5_collect_X5_free
set_option maxRecDepth 20000 in
theorem ggX5_collect_X5_tidy : GoodIn wsX5_collect wsX5_tidy := goodIn_r _ [62, 22, 15, 1, 17, 38, 63, 7, 8, 64, 65, 66, 12, 67, 5, 40, 41, 42, 68, 69, 70, 71, 72, 73, 74, 75, 76, 77, 78, 79, 80, 81, 82, 83, 84, 85, 86, 87, 88, 89, 90, 91, 92, 93, 94] (by decide +kernel) (by decide +kernel)
set_option maxRecDepth 20000 in
theorem gX5_collect_X5_tidy : GoodIn wsX5_collect (wsV RX5 153 RX5 yX5_tidy wsX5_tidy) := goodIn_app (goodIn_of _ (by decide +kernel)) ggX5_collect_X5_tidy
theorem dX5_collect_0 : decode cX5_collect 0 = .ok (.bipush 64, 2) := by decide +kernel
theorem dX5_collect_2 : decode cX5_collect 2 = .ok (.aload_n 0, 1) := by decide +kernel
theorem dX5_collect_3 : decode cX5_collect 3 = .ok (.getfield 7, 3) := by decide +kernel
theorem dX5_collect_6 : decode cX5_collect 6 = .ok (.imul, 1) := by decide +kernel
theorem dX5_collect_7 : decode cX5_collect 7 = .ok (.istore_n 2, 1) := by decide +kernel
theorem dX5_collect_8 : decode cX5_collect 8 = .ok (.iconst 0, 1) := by decide +kernel
theorem dX5_collect_9 : decode cX5_collect 9 = .ok (.istore_n 3, 1) := by decide +kernel
theorem dX5_collect_10 : decode cX5_collect 10 = .ok (.iload_n 3, 1) := by decide +kernel
theorem dX5_collect_11 : decode cX5_collect 11 = .ok (.iload_n 2, 1) := by decide +kernel
theorem dX5_collect_12 : decode cX5_collect 12 = .ok (.if_icmp .ge 47, 3) := by decide +kernel
theorem dX5_collect_15 : decode cX5_collect 15 = .ok (.aload_n 0, 1) := by decide +kernel
theorem dX5_collect_16 : decode cX5_collect 16 = .ok (.getfield 36, 3) := by decide +kernel
theorem dX5_collect_19 : decode cX5_collect 19 = .ok (.iload_n 3, 1) := by decide +kernel
theorem dX5_collect_20 : decode cX5_collect 20 = .ok (.iconst 0, 1) := by decide +kernel
theorem dX5_collect_21 : decode cX5_collect 21 = .ok (.bastore, 1) := by decide +kernel
theorem dX5_collect_22 : decode cX5_collect 22 = .ok (.aload_n 0, 1) := by decide +kernel
theorem dX5_collect_23 : decode cX5_collect 23 = .ok (.getfield 58, 3) := by decide +kernel
theorem dX5_collect_26 : decode cX5_collect 26 = .ok (.iload_n 3, 1) := by decide +kernel
theorem dX5_collect_27 : decode cX5_collect 27 = .ok (.iconst 0, 1) := by decide +kernel
theorem dX5_collect_28 : decode cX5_collect 28 = .ok (.bastore, 1) := by decide +kernel
theorem dX5_collect_29 : decode cX5_collect 29 = .ok (.aload_n 0, 1) := by decide +kernel
theorem dX5_collect_30 : decode cX5_collect 30 = .ok (.getfield 33, 3) := by decide +kernel
theorem dX5_collect_33 : decode cX5_collect 33 = .ok (.iload_n 3, 1) := by decide +kernel
theorem dX5_collect_34 : decode cX5_collect 34 = .ok (.aload_n 0, 1) := by decide +kernel
theorem dX5_collect_35 : decode cX5_collect 35 = .ok (.getfield 33, 3) := by decide +kernel
theorem dX5_collect_38 : decode cX5_collect 38 = .ok (.iload_n 3, 1) := by decide +kernel
theorem dX5_collect_39 : decode cX5_collect 39 = .ok (.baload, 1) := by decide +kernel
theorem dX5_collect_40 : decode cX5_collect 40 = .ok (.ifCond .eq 11, 3) := by decide +kernel
theorem dX5_collect_43 : decode cX5_collect 43 = .ok (.iload_n 1, 1) := by decide +kernel
theorem dX5_collect_44 : decode cX5_collect 44 = .ok (.ifCond .ne 7, 3) := by decide +kernel
theorem dX5_collect_47 : decode cX5_collect 47 = .ok (.iconst 1, 1) := by decide +kernel
theorem dX5_collect_48 : decode cX5_collect 48 = .ok (.goto 4, 3) := by decide +kernel
theorem dX5_collect_51 : decode cX5_collect 51 = .ok (.iconst 0, 1) := by decide +kernel
theorem dX5_collect_52 : decode cX5_collect 52 = .ok (.bastore, 1) := by decide +kernel
theorem dX5_collect_53 : decode cX5_collect 53 = .ok (.iinc 3 1, 3) := by decide +kernel
theorem dX5_collect_56 : decode cX5_collect 56 = .ok (.goto (-46), 3) := by decide +kernel
theorem dX5_collect_59 : decode cX5_collect 59 = .ok (.iconst 0, 1) := by decide +kernel
theorem dX5_collect_60 : decode cX5_collect 60 = .ok (.istore_n 3, 1) := by decide +kernel
theorem dX5_collect_61 : decode cX5_collect 61 = .ok (.iload_n 3, 1) := by decide +kernel
theorem dX5_collect_62 : decode cX5_collect 62 = .ok (.iload_n 2, 1) := by decide +kernel
theorem dX5_collect_63 : decode cX5_collect 63 = .ok (.if_icmp .ge 35, 3) := by decide +kernel
theorem dX5_collect_66 : decode cX5_collect 66 = .ok (.iload_n 1, 1) := by decide +kernel
theorem dX5_collect_67 : decode cX5_collect 67 = .ok (.ifCond .ne 31, 3) := by decide +kernel
theorem dX5_collect_70 : decode cX5_collect 70 = .ok (.aload_n 0, 1) := by decide +kernel
theorem dX5_collect_71 : decode cX5_collect 71 = .ok (.getfield 30, 3) := by decide +kernel
theorem dX5_collect_74 : decode cX5_collect 74 = .ok (.iload_n 3, 1) := by decide +kernel
theorem dX5_collect_75 : decode cX5_collect 75 = .ok (.baload, 1) := by decide +kernel
theorem dX5_collect_76 : decode cX5_collect 76 = .ok (.ifCond .eq 16, 3) := by decide +kernel
theorem dX5_collect_79 : decode cX5_collect 79 = .ok (.aload_n 0, 1) := by decide +kernel
theorem dX5_collect_80 : decode cX5_collect 80 = .ok (.iload_n 3, 1) := by decide +kernel
theorem dX5_collect_81 : decode cX5_collect 81 = .ok (.invokevirtual 131, 3) := by decide +kernel
theorem dX5_collect_84 : decode cX5_collect 84 = .ok (.ifCond .eq 8, 3) := by decide +kernel
theorem dX5_collect_87 : decode cX5_collect 87 = .ok (.aload_n 0, 1) := by decide +kernel
theorem dX5_collect_88 : decode cX5_collect 88 = .ok (.iload_n 3, 1) := by decide +kernel
theorem dX5_collect_89 : decode cX5_collect 89 = .ok (.invokevirtual 144, 3) := by decide +kernel
theorem dX5_collect_92 : decode cX5_collect 92 = .ok (.iinc 3 1, 3) := by decide +kernel
theorem dX5_collect_95 : decode cX5_collect 95 = .ok (.goto (-34), 3) := by decide +kernel
theorem dX5_collect_98 : decode cX5_collect 98 = .ok (.iconst 0, 1) := by decide +kernel
theorem dX5_collect_99 : decode cX5_collect 99 = .ok (.istore_n 3, 1) := by decide +kernel
theorem dX5_collect_100 : decode cX5_collect 100 = .ok (.iload_n 3, 1) := by decide +kernel
theorem dX5_collect_101 : decode cX5_collect 101 = .ok (.bipush 10, 2) := by decide +kernel
theorem dX5_collect_103 : decode cX5_collect 103 = .ok (.if_icmp .ge 19, 3) := by decide +kernel
theorem dX5_collect_106 : decode cX5_collect 106 = .ok (.aload_n 0, 1) := by decide +kernel
theorem dX5_collect_107 : decode cX5_collect 107 = .ok (.aload_n 0, 1) := by decide +kernel
theorem dX5_collect_108 : decode cX5_collect 108 = .ok (.getfield 45, 3) := by decide +kernel
theorem dX5_collect_111 : decode cX5_collect 111 = .ok (.iload_n 3, 1) := by decide +kernel
theorem dX5_collect_112 : decode cX5_collect 112 = .ok (.iaload, 1) := by decide +kernel
theorem dX5_collect_113 : decode cX5_collect 113 = .ok (.invokevirtual 137, 3) := by decide +kernel
theorem dX5_collect_116 : decode cX5_collect 116 = .ok (.iinc 3 1, 3) := by decide +kernel
theorem dX5_collect_119 : decode cX5_collect 119 = .ok (.goto (-19), 3) := by decide +kernel
theorem dX5_collect_122 : decode cX5_collect 122 = .ok (.iconst 0, 1) := by decide +kernel
theorem dX5_collect_123 : decode cX5_collect 123 = .ok (.istore_n 3, 1) := by decide +kernel
theorem dX5_collect_124 : decode cX5_collect 124 = .ok (.iload_n 3, 1) := by decide +kernel
theorem dX5_collect_125 : decode cX5_collect 125 = .ok (.aload_n 0, 1) := by decide +kernel
theorem dX5_collect_126 : decode cX5_collect 126 = .ok (.getfield 69, 3) := by decide +kernel
theorem dX5_collect_129 : decode cX5_collect 129 = .ok (.if_icmp .ge 23, 3) := by decide +kernel
theorem dX5_collect_132 : decode cX5_collect 132 = .ok (.aload_n 0, 1) := by decide +kernel
theorem dX5_collect_133 : decode cX5_collect 133 = .ok (.aload_n 0, 1) := by decide +kernel
theorem dX5_collect_134 : decode cX5_collect 134 = .ok (.aload_n 0, 1) := by decide +kernel
theorem dX5_collect_135 : decode cX5_collect 135 = .ok (.getfield 48, 3) := by decide +kernel
theorem dX5_collect_138 : decode cX5_collect 138 = .ok (.iload_n 3, 1) := by decide +kernel
theorem dX5_collect_139 : decode cX5_collect 139 = .ok (.iaload, 1) := by decide +kernel
theorem dX5_collect_140 : decode cX5_collect 140 = .ok (.invokevirtual 147, 3) := by decide +kernel
theorem dX5_collect_143 : decode cX5_collect 143 = .ok (.invokevirtual 137, 3) := by decide +kernel
theorem dX5_collect_146 : decode cX5_collect 146 = .ok (.iinc 3 1, 3) := by decide +kernel
theorem dX5_collect_149 : decode cX5_collect 149 = .ok (.goto (-25), 3) := by decide +kernel
theorem dX5_collect_152 : decode cX5_collect 152 = .ok (.iconst 1, 1) := by decide +kernel
theorem dX5_collect_153 : decode cX5_collect 153 = .ok (.istore_n 3, 1) := by decide +kernel
theorem dX5_collect_154 : decode cX5_collect 154 = .ok (.iload_n 3, 1) := by decide +kernel
theorem dX5_collect_155 : decode cX5_collect 155 = .ok (.ifCond .eq 59, 3) := by decide +kernel
theorem dX5_collect_158 : decode cX5_collect 158 = .ok (.iconst 0, 1) := by decide +kernel
theorem dX5_collect_159 : decode cX5_collect 159 = .ok (.istore_n 3, 1) := by decide +kernel
theorem dX5_collect_160 : decode cX5_collect 160 = .ok (.iconst 0, 1) := by decide +kernel
theorem dX5_collect_161 : decode cX5_collect 161 = .ok (.istore 4, 2) := by decide +kernel
theorem dX5_collect_163 : decode cX5_collect 163 = .ok (.iload 4, 2) := by decide +kernel
theorem dX5_collect_165 : decode cX5_collect 165 = .ok (.iload_n 2, 1) := by decide +kernel
theorem dX5_collect_166 : decode cX5_collect 166 = .ok (.if_icmp .ge 45, 3) := by decide +kernel
theorem dX5_collect_169 : decode cX5_collect 169 = .ok (.aload_n 0, 1) := by decide +kernel
theorem dX5_collect_170 : decode cX5_collect 170 = .ok (.getfield 36, 3) := by decide +kernel
theorem dX5_collect_173 : decode cX5_collect 173 = .ok (.iload 4, 2) := by decide +kernel
theorem dX5_collect_175 : decode cX5_collect 175 = .ok (.baload, 1) := by decide +kernel
theorem dX5_collect_176 : decode cX5_collect 176 = .ok (.ifCond .eq 29, 3) := by decide +kernel
theorem dX5_collect_179 : decode cX5_collect 179 = .ok (.aload_n 0, 1) := by decide +kernel
theorem dX5_collect_180 : decode cX5_collect 180 = .ok (.getfield 58, 3) := by decide +kernel
theorem dX5_collect_183 : decode cX5_collect 183 = .ok (.iload 4, 2) := by decide +kernel
theorem dX5_collect_185 : decode cX5_collect 185 = .ok (.baload, 1) := by decide +kernel
theorem dX5_collect_186 : decode cX5_collect 186 = .ok (.ifCond .ne 19, 3) := by decide +kernel
theorem dX5_collect_189 : decode cX5_collect 189 = .ok (.aload_n 0, 1) := by decide +kernel
theorem dX5_collect_190 : decode cX5_collect 190 = .ok (.getfield 58, 3) := by decide +kernel
theorem dX5_collect_193 : decode cX5_collect 193 = .ok (.iload 4, 2) := by decide +kernel
theorem dX5_collect_195 : decode cX5_collect 195 = .ok (.iconst 1, 1) := by decide +kernel
theorem dX5_collect_196 : decode cX5_collect 196 = .ok (.bastore, 1) := by decide +kernel
theorem dX5_collect_197 : decode cX5_collect 197 = .ok (.iconst 1, 1) := by decide +kernel
theorem dX5_collect_198 : decode cX5_collect 198 = .ok (.istore_n 3, 1) := by decide +kernel
theorem dX5_collect_199 : decode cX5_collect 199 = .ok (.aload_n 0, 1) := by decide +kernel
theorem dX5_collect_200 : decode cX5_collect 200 = .ok (.iload 4, 2) := by decide +kernel
theorem dX5_collect_202 : decode cX5_collect 202 = .ok (.invokevirtual 144, 3) := by decide +kernel
theorem dX5_collect_205 : decode cX5_collect 205 = .ok (.iinc 4 1, 3) := by decide +kernel
theorem dX5_collect_208 : decode cX5_collect 208 = .ok (.goto (-45), 3) := by decide +kernel
theorem dX5_collect_211 : decode cX5_collect 211 = .ok (.goto (-57), 3) := by decide +kernel
theorem dX5_collect_214 : decode cX5_collect 214 = .ok (.iconst 0, 1) := by decide +kernel
theorem dX5_collect_215 : decode cX5_collect 215 = .ok (.istore 4, 2) := by decide +kernel
theorem dX5_collect_217 : decode cX5_collect 217 = .ok (.iconst 0, 1) := by decide +kernel
theorem dX5_collect_218 : decode cX5_collect 218 = .ok (.istore 5, 2) := by decide +kernel
theorem dX5_collect_220 : decode cX5_collect 220 = .ok (.iload 5, 2) := by decide +kernel
theorem dX5_collect_222 : decode cX5_collect 222 = .ok (.iload_n 2, 1) := by decide +kernel
theorem dX5_collect_223 : decode cX5_collect 223 = .ok (.if_icmp .ge 67, 3) := by decide +kernel
theorem dX5_collect_226 : decode cX5_collect 226 = .ok (.aload_n 0, 1) := by decide +kernel
theorem dX5_collect_227 : decode cX5_collect 227 = .ok (.getfield 30, 3) := by decide +kernel
theorem dX5_collect_230 : decode cX5_collect 230 = .ok (.iload 5, 2) := by decide +kernel
theorem dX5_collect_232 : decode cX5_collect 232 = .ok (.baload, 1) := by decide +kernel
theorem dX5_collect_233 : decode cX5_collect 233 = .ok (.ifCond .eq 51, 3) := by decide +kernel
theorem dX5_collect_236 : decode cX5_collect 236 = .ok (.aload_n 0, 1) := by decide +kernel
theorem dX5_collect_237 : decode cX5_collect 237 = .ok (.getfield 33, 3) := by decide +kernel
theorem dX5_collect_240 : decode cX5_collect 240 = .ok (.iload 5, 2) := by decide +kernel
theorem dX5_collect_242 : decode cX5_collect 242 = .ok (.baload, 1) := by decide +kernel
theorem dX5_collect_243 : decode cX5_collect 243 = .ok (.ifCond .ne 41, 3) := by decide +kernel
theorem dX5_collect_246 : decode cX5_collect 246 = .ok (.aload_n 0, 1) := by decide +kernel
theorem dX5_collect_247 : decode cX5_collect 247 = .ok (.getfield 36, 3) := by decide +kernel
theorem dX5_collect_250 : decode cX5_collect 250 = .ok (.iload 5, 2) := by decide +kernel
theorem dX5_collect_252 : decode cX5_collect 252 = .ok (.baload, 1) := by decide +kernel
theorem dX5_collect_253 : decode cX5_collect 253 = .ok (.ifCond .eq 14, 3) := by decide +kernel
theorem dX5_collect_256 : decode cX5_collect 256 = .ok (.aload_n 0, 1) := by decide +kernel
theorem dX5_collect_257 : decode cX5_collect 257 = .ok (.getfield 33, 3) := by decide +kernel
theorem dX5_collect_260 : decode cX5_collect 260 = .ok (.iload 5, 2) := by decide +kernel
theorem dX5_collect_262 : decode cX5_collect 262 = .ok (.iconst 1, 1) := by decide +kernel
theorem dX5_collect_263 : decode cX5_collect 263 = .ok (.bastore, 1) := by decide +kernel
theorem dX5_collect_264 : decode cX5_collect 264 = .ok (.goto 20, 3) := by decide +kernel
theorem dX5_collect_267 : decode cX5_collect 267 = .ok (.aload_n 0, 1) := by decide +kernel
theorem dX5_collect_268 : decode cX5_collect 268 = .ok (.getfield 30, 3) := by decide +kernel
theorem dX5_collect_271 : decode cX5_collect 271 = .ok (.iload 5, 2) := by decide +kernel
theorem dX5_collect_273 : decode cX5_collect 273 = .ok (.iconst 0, 1) := by decide +kernel
theorem dX5_collect_274 : decode cX5_collect 274 = .ok (.bastore, 1) := by decide +kernel
theorem dX5_collect_275 : decode cX5_collect 275 = .ok (.iinc 4 1, 3) := by decide +kernel
theorem dX5_collect_278 : decode cX5_collect 278 = .ok (.aload_n 0, 1) := by decide +kernel
theorem dX5_collect_279 : decode cX5_collect 279 = .ok (.iload 5, 2) := by decide +kernel
theorem dX5_collect_281 : decode cX5_collect 281 = .ok (.invokevirtual 150, 3) := by decide +kernel
theorem dX5_collect_284 : decode cX5_collect 284 = .ok (.iinc 5 1, 3) := by decide +kernel
theorem dX5_collect_287 : decode cX5_collect 287 = .ok (.goto (-67), 3) := by decide +kernel
theorem dX5_collect_290 : decode cX5_collect 290 = .ok (.aload_n 0, 1) := by decide +kernel
theorem dX5_collect_291 : decode cX5_collect 291 = .ok (.invokevirtual 153, 3) := by decide +kernel
theorem dX5_collect_294 : decode cX5_collect 294 = .ok (.iload 4, 2) := by decide +kernel
theorem dX5_collect_296 : decode cX5_collect 296 = .ok (.ireturn, 1) := by decide +kernel
set_option maxRecDepth 20000 in
theorem ggX5_free_X5_blocksOf : GoodIn wsX5_free wsX5_blocksOf := goodIn_r _ [6, 7, 8, 9, 5, 10, 11, 12, 13, 14, 15, 16, 17, 18, 19, 20, 21, 22, 23, 24, 25, 26, 27, 28, 29, 30, 31, 32, 33, 34, 35, 36, 37, 38, 39] (by decide +kernel) (by decide +kernel)
set_option maxRecDepth 20000 in
theorem gX5_free_X5_blocksOf : GoodIn wsX5_free (wsV RX5 134 RX5 yX5_blocksOf wsX5_blocksOf) := goodIn_app (goodIn_of _ (by decide +kernel)) ggX5_free_X5_blocksOf
theorem dX5_free_0 : decode cX5_free 0 = .ok (.iload_n 1, 1) := by decide +kernel
theorem dX5_free_1 : decode cX5_free 1 = .ok (.bipush 64, 2) := by decide +kernel
theorem dX5_free_3 : decode cX5_free 3 = .ok (.idiv, 1) := by decide +kernel
theorem dX5_free_4 : decode cX5_free 4 = .ok (.istore_n 2, 1) := by decide +kernel
theorem dX5_free_5 : decode cX5_free 5 = .ok (.aload_n 0, 1) := by decide +kernel
theorem dX5_free_6 : decode cX5_free 6 = .ok (.getfield 13, 3) := by decide +kernel
theorem dX5_free_9 : decode cX5_free 9 = .ok (.iload_n 2, 1) := by decide +kernel
theorem dX5_free_10 : decode cX5_free 10 = .ok (.iaload, 1) := by decide +kernel
theorem dX5_free_11 : decode cX5_free 11 = .ok (.iconst 2, 1) := by decide +kernel
theorem dX5_free_12 : decode cX5_free 12 = .ok (.if_icmp .ne 34, 3) := by decide +kernel
theorem dX5_free_15 : decode cX5_free 15 = .ok (.aload_n 0, 1) := by decide +kernel
theorem dX5_free_16 : decode cX5_free 16 = .ok (.iload_n 1, 1) := by decide +kernel
theorem dX5_free_17 : decode cX5_free 17 = .ok (.invokevirtual 134, 3) := by decide +kernel
theorem dX5_free_20 : decode cX5_free 20 = .ok (.istore_n 3, 1) := by decide +kernel
theorem dX5_free_21 : decode cX5_free 21 = .ok (.iload_n 2, 1) := by decide +kernel
theorem dX5_free_22 : decode cX5_free 22 = .ok (.istore 4, 2) := by decide +kernel
theorem dX5_free_24 : decode cX5_free 24 = .ok (.iload 4, 2) := by decide +kernel
theorem dX5_free_26 : decode cX5_free 26 = .ok (.iload_n 2, 1) := by decide +kernel
theorem dX5_free_27 : decode cX5_free 27 = .ok (.iload_n 3, 1) := by decide +kernel
theorem dX5_free_28 : decode cX5_free 28 = .ok (.iadd, 1) := by decide +kernel
theorem dX5_free_29 : decode cX5_free 29 = .ok (.if_icmp .ge 17, 3) := by decide +kernel
theorem dX5_free_32 : decode cX5_free 32 = .ok (.aload_n 0, 1) := by decide +kernel
theorem dX5_free_33 : decode cX5_free 33 = .ok (.getfield 13, 3) := by decide +kernel
theorem dX5_free_36 : decode cX5_free 36 = .ok (.iload 4, 2) := by decide +kernel
theorem dX5_free_38 : decode cX5_free 38 = .ok (.iconst 0, 1) := by decide +kernel
theorem dX5_free_39 : decode cX5_free 39 = .ok (.iastore, 1) := by decide +kernel
theorem dX5_free_40 : decode cX5_free 40 = .ok (.iinc 4 1, 3) := by decide +kernel
theorem dX5_free_43 : decode cX5_free 43 = .ok (.goto (-19), 3) := by decide +kernel
theorem dX5_free_46 : decode cX5_free 46 = .ok (.return_, 1) := by decide +kernel
set_option maxRecDepth 20000 in
theorem ggX5_tidy_X5_used : GoodIn wsX5_tidy wsX5_used := goodIn_r _ [13, 14, 18, 19, 20, 21, 22, 23, 24, 25, 26, 27, 28, 29, 30, 31, 32, 33, 34, 35, 36, 37, 38, 39, 40, 41, 42, 43, 44] (by decide +kernel) (by decide +kernel)
set_option maxRecDepth 20000 in
theorem gX5_tidy_X5_used : GoodIn wsX5_tidy (wsV RX5 156 RX5 yX5_used wsX5_used) := goodIn_app (goodIn_of _ (by decide +kernel)) ggX5_tidy_X5_used
set_option maxRecDepth 20000 in
theorem ggX5_tidy_X5_in : GoodIn wsX5_tidy wsX5_in := goodIn_r _ [17] (by decide +kernel) (by decide +kernel)
set_option maxRecDepth 20000 in
theorem gX5_tidy_X5_in : GoodIn wsX5_tidy (va_wsS RX5 61 yX5_in wsX5_in) := goodIn_app (goodIn_of _ (by decide +kernel)) ggX5_tidy_X5_in
theorem dX5_tidy_0 : decode cX5_tidy 0 = .ok (.aload_n 0, 1) := by decide +kernel
theorem dX5_tidy_1 : decode cX5_tidy 1 = .ok (.iconst 0, 1) := by decide +kernel
theorem dX5_tidy_2 : decode cX5_tidy 2 = .ok (.putfield 72, 3) := by decide +kernel
theorem dX5_tidy_5 : decode cX5_tidy 5 = .ok (.aload_n 0, 1) := by decide +kernel
theorem dX5_tidy_6 : decode cX5_tidy 6 = .ok (.iconst 0, 1) := by decide +kernel
theorem dX5_tidy_7 : decode cX5_tidy 7 = .ok (.putfield 75, 3) := by decide +kernel
theorem dX5_tidy_10 : decode cX5_tidy 10 = .ok (.iconst 0, 1) := by decide +kernel
theorem dX5_tidy_11 : decode cX5_tidy 11 = .ok (.istore_n 1, 1) := by decide +kernel
theorem dX5_tidy_12 : decode cX5_tidy 12 = .ok (.iload_n 1, 1) := by decide +kernel
theorem dX5_tidy_13 : decode cX5_tidy 13 = .ok (.aload_n 0, 1) := by decide +kernel
theorem dX5_tidy_14 : decode cX5_tidy 14 = .ok (.getfield 7, 3) := by decide +kernel
theorem dX5_tidy_17 : decode cX5_tidy 17 = .ok (.if_icmp .ge 118, 3) := by decide +kernel
theorem dX5_tidy_20 : decode cX5_tidy 20 = .ok (.aload_n 0, 1) := by decide +kernel
theorem dX5_tidy_21 : decode cX5_tidy 21 = .ok (.getfield 20, 3) := by decide +kernel
theorem dX5_tidy_24 : decode cX5_tidy 24 = .ok (.iload_n 1, 1) := by decide +kernel
theorem dX5_tidy_25 : decode cX5_tidy 25 = .ok (.iconst 0, 1) := by decide +kernel
theorem dX5_tidy_26 : decode cX5_tidy 26 = .ok (.bastore, 1) := by decide +kernel
theorem dX5_tidy_27 : decode cX5_tidy 27 = .ok (.aload_n 0, 1) := by decide +kernel
theorem dX5_tidy_28 : decode cX5_tidy 28 = .ok (.getfield 13, 3) := by decide +kernel
theorem dX5_tidy_31 : decode cX5_tidy 31 = .ok (.iload_n 1, 1) := by decide +kernel
theorem dX5_tidy_32 : decode cX5_tidy 32 = .ok (.iaload, 1) := by decide +kernel
theorem dX5_tidy_33 : decode cX5_tidy 33 = .ok (.iconst 1, 1) := by decide +kernel
theorem dX5_tidy_34 : decode cX5_tidy 34 = .ok (.if_icmp .ne 18, 3) := by decide +kernel
theorem dX5_tidy_37 : decode cX5_tidy 37 = .ok (.aload_n 0, 1) := by decide +kernel
theorem dX5_tidy_38 : decode cX5_tidy 38 = .ok (.iload_n 1, 1) := by decide +kernel
theorem dX5_tidy_39 : decode cX5_tidy 39 = .ok (.invokevirtual 156, 3) := by decide +kernel
theorem dX5_tidy_42 : decode cX5_tidy 42 = .ok (.ifCond .ne 10, 3) := by decide +kernel
theorem dX5_tidy_45 : decode cX5_tidy 45 = .ok (.aload_n 0, 1) := by decide +kernel
theorem dX5_tidy_46 : decode cX5_tidy 46 = .ok (.getfield 13, 3) := by decide +kernel
theorem dX5_tidy_49 : decode cX5_tidy 49 = .ok (.iload_n 1, 1) := by decide +kernel
theorem dX5_tidy_50 : decode cX5_tidy 50 = .ok (.iconst 0, 1) := by decide +kernel
theorem dX5_tidy_51 : decode cX5_tidy 51 = .ok (.iastore, 1) := by decide +kernel
theorem dX5_tidy_52 : decode cX5_tidy 52 = .ok (.aload_n 0, 1) := by decide +kernel
theorem dX5_tidy_53 : decode cX5_tidy 53 = .ok (.getfield 24, 3) := by decide +kernel
theorem dX5_tidy_56 : decode cX5_tidy 56 = .ok (.iload_n 1, 1) := by decide +kernel
theorem dX5_tidy_57 : decode cX5_tidy 57 = .ok (.iconst 0, 1) := by decide +kernel
theorem dX5_tidy_58 : decode cX5_tidy 58 = .ok (.bastore, 1) := by decide +kernel
theorem dX5_tidy_59 : decode cX5_tidy 59 = .ok (.iconst 0, 1) := by decide +kernel
theorem dX5_tidy_60 : decode cX5_tidy 60 = .ok (.istore_n 2, 1) := by decide +kernel
theorem dX5_tidy_61 : decode cX5_tidy 61 = .ok (.iload_n 2, 1) := by decide +kernel
theorem dX5_tidy_62 : decode cX5_tidy 62 = .ok (.aload_n 0, 1) := by decide +kernel
theorem dX5_tidy_63 : decode cX5_tidy 63 = .ok (.getfield 69, 3) := by decide +kernel
theorem dX5_tidy_66 : decode cX5_tidy 66 = .ok (.if_icmp .ge 63, 3) := by decide +kernel
theorem dX5_tidy_69 : decode cX5_tidy 69 = .ok (.aload_n 0, 1) := by decide +kernel
theorem dX5_tidy_70 : decode cX5_tidy 70 = .ok (.getfield 24, 3) := by decide +kernel
theorem dX5_tidy_73 : decode cX5_tidy 73 = .ok (.iload_n 1, 1) := by decide +kernel
theorem dX5_tidy_74 : decode cX5_tidy 74 = .ok (.aload_n 0, 1) := by decide +kernel
theorem dX5_tidy_75 : decode cX5_tidy 75 = .ok (.getfield 24, 3) := by decide +kernel
theorem dX5_tidy_78 : decode cX5_tidy 78 = .ok (.iload_n 1, 1) := by decide +kernel
theorem dX5_tidy_79 : decode cX5_tidy 79 = .ok (.baload, 1) := by decide +kernel
theorem dX5_tidy_80 : decode cX5_tidy 80 = .ok (.ifCond .ne 37, 3) := by decide +kernel
theorem dX5_tidy_83 : decode cX5_tidy 83 = .ok (.aload_n 0, 1) := by decide +kernel
theorem dX5_tidy_84 : decode cX5_tidy 84 = .ok (.getfield 13, 3) := by decide +kernel
theorem dX5_tidy_87 : decode cX5_tidy 87 = .ok (.iload_n 1, 1) := by decide +kernel
theorem dX5_tidy_88 : decode cX5_tidy 88 = .ok (.iaload, 1) := by decide +kernel
theorem dX5_tidy_89 : decode cX5_tidy 89 = .ok (.ifCond .ne 32, 3) := by decide +kernel
theorem dX5_tidy_92 : decode cX5_tidy 92 = .ok (.aload_n 0, 1) := by decide +kernel
theorem dX5_tidy_93 : decode cX5_tidy 93 = .ok (.getfield 48, 3) := by decide +kernel
theorem dX5_tidy_96 : decode cX5_tidy 96 = .ok (.iload_n 2, 1) := by decide +kernel
theorem dX5_tidy_97 : decode cX5_tidy 97 = .ok (.iaload, 1) := by decide +kernel
theorem dX5_tidy_98 : decode cX5_tidy 98 = .ok (.bipush 64, 2) := by decide +kernel
theorem dX5_tidy_100 : decode cX5_tidy 100 = .ok (.iload_n 1, 1) := by decide +kernel
theorem dX5_tidy_101 : decode cX5_tidy 101 = .ok (.imul, 1) := by decide +kernel
theorem dX5_tidy_102 : decode cX5_tidy 102 = .ok (.bipush 64, 2) := by decide +kernel
theorem dX5_tidy_104 : decode cX5_tidy 104 = .ok (.iload_n 1, 1) := by decide +kernel
theorem dX5_tidy_105 : decode cX5_tidy 105 = .ok (.imul, 1) := by decide +kernel
theorem dX5_tidy_106 : decode cX5_tidy 106 = .ok (.bipush 64, 2) := by decide +kernel
theorem dX5_tidy_108 : decode cX5_tidy 108 = .ok (.iadd, 1) := by decide +kernel
theorem dX5_tidy_109 : decode cX5_tidy 109 = .ok (.iconst 1, 1) := by decide +kernel
theorem dX5_tidy_110 : decode cX5_tidy 110 = .ok (.isub, 1) := by decide +kernel
theorem dX5_tidy_111 : decode cX5_tidy 111 = .ok (.invokestatic 61, 3) := by decide +kernel
theorem dX5_tidy_114 : decode cX5_tidy 114 = .ok (.ifCond .eq 7, 3) := by decide +kernel
theorem dX5_tidy_117 : decode cX5_tidy 117 = .ok (.iconst 1, 1) := by decide +kernel
theorem dX5_tidy_118 : decode cX5_tidy 118 = .ok (.goto 4, 3) := by decide +kernel
theorem dX5_tidy_121 : decode cX5_tidy 121 = .ok (.iconst 0, 1) := by decide +kernel
theorem dX5_tidy_122 : decode cX5_tidy 122 = .ok (.bastore, 1) := by decide +kernel
theorem dX5_tidy_123 : decode cX5_tidy 123 = .ok (.iinc 2 1, 3) := by decide +kernel
theorem dX5_tidy_126 : decode cX5_tidy 126 = .ok (.goto (-65), 3) := by decide +kernel
theorem dX5_tidy_129 : decode cX5_tidy 129 = .ok (.iinc 1 1, 3) := by decide +kernel
theorem dX5_tidy_132 : decode cX5_tidy 132 = .ok (.goto (-120), 3) := by decide +kernel
theorem dX5_tidy_135 : decode cX5_tidy 135 = .ok (.return_, 1) := by decide +kernel
theorem dX5_used_0 : decode cX5_used 0 = .ok (.iconst 0, 1) := by decide +kernel
theorem dX5_used_1 : decode cX5_used 1 = .ok (.istore_n 2, 1) := by decide +kernel
theorem dX5_used_2 : decode cX5_used 2 = .ok (.bipush 64, 2) := by decide +kernel
theorem dX5_used_4 : decode cX5_used 4 = .ok (.iload_n 1, 1) := by decide +kernel
theorem dX5_used_5 : decode cX5_used 5 = .ok (.imul, 1) := by decide +kernel
theorem dX5_used_6 : decode cX5_used 6 = .ok (.istore_n 3, 1) := by decide +kernel
theorem dX5_used_7 : decode cX5_used 7 = .ok (.iload_n 3, 1) := by decide +kernel
theorem dX5_used_8 : decode cX5_used 8 = .ok (.bipush 64, 2) := by decide +kernel
theorem dX5_used_10 : decode cX5_used 10 = .ok (.iload_n 1, 1) := by decide +kernel
theorem dX5_used_11 : decode cX5_used 11 = .ok (.imul, 1) := by decide +kernel
theorem dX5_used_12 : decode cX5_used 12 = .ok (.bipush 64, 2) := by decide +kernel
theorem dX5_used_14 : decode cX5_used 14 = .ok (.iadd, 1) := by decide +kernel
theorem dX5_used_15 : decode cX5_used 15 = .ok (.if_icmp .ge 26, 3) := by decide +kernel
theorem dX5_used_18 : decode cX5_used 18 = .ok (.iload_n 2, 1) := by decide +kernel
theorem dX5_used_19 : decode cX5_used 19 = .ok (.aload_n 0, 1) := by decide +kernel
theorem dX5_used_20 : decode cX5_used 20 = .ok (.getfield 30, 3) := by decide +kernel
theorem dX5_used_23 : decode cX5_used 23 = .ok (.iload_n 3, 1) := by decide +kernel
theorem dX5_used_24 : decode cX5_used 24 = .ok (.baload, 1) := by decide +kernel
theorem dX5_used_25 : decode cX5_used 25 = .ok (.ifCond .eq 7, 3) := by decide +kernel
theorem dX5_used_28 : decode cX5_used 28 = .ok (.iconst 1, 1) := by decide +kernel
theorem dX5_used_29 : decode cX5_used 29 = .ok (.goto 4, 3) := by decide +kernel
theorem dX5_used_32 : decode cX5_used 32 = .ok (.iconst 0, 1) := by decide +kernel
theorem dX5_used_33 : decode cX5_used 33 = .ok (.iadd, 1) := by decide +kernel
theorem dX5_used_34 : decode cX5_used 34 = .ok (.istore_n 2, 1) := by decide +kernel
theorem dX5_used_35 : decode cX5_used 35 = .ok (.iinc 3 1, 3) := by decide +kernel
theorem dX5_used_38 : decode cX5_used 38 = .ok (.goto (-31), 3) := by decide +kernel
theorem dX5_used_41 : decode cX5_used 41 = .ok (.iload_n 2, 1) := by decide +kernel
theorem dX5_used_42 : decode cX5_used 42 = .ok (.ireturn, 1) := by decide +kernel
set_option maxRecDepth 20000 in
theorem ggX5_minor_X5_collect : GoodIn wsX5_minor wsX5_collect := goodIn_r _ [7, 8, 9, 10, 11, 12, 13, 14, 15, 16, 17, 18, 6, 19, 20, 21, 22, 23, 24, 25, 26, 27, 28, 29, 30, 31, 32, 33, 34, 35, 36, 37, 38, 39, 40, 41, 42, 43, 44, 45, 46, 47, 48, 49, 50, 51, 52, 53, 54, 55, 56, 57, 58, 59, 60, 61, 62, 63, 64, 65, 66, 67, 68, 69, 70, 71, 72, 73, 74, 75, 76, 77, 78, 79, 80, 81, 82, 83, 84, 85, 86, 87, 88, 89, 90, 91, 92, 93, 94, 95, 96, 97, 98, 99, 100] (by decide +kernel) (by decide +kernel)
set_option maxRecDepth 20000 in
theorem gX5_minor_X5_collect : GoodIn wsX5_minor (wsV RX5 111 RX5 yX5_collect wsX5_collect) := goodIn_app (goodIn_of _ (by decide +kernel)) ggX5_minor_X5_collect
theorem dX5_minor_0 : decode cX5_minor 0 = .ok (.aload_n 0, 1) := by decide +kernel
theorem dX5_minor_1 : decode cX5_minor 1 = .ok (.iconst 0, 1) := by decide +kernel
theorem dX5_minor_2 : decode cX5_minor 2 = .ok (.invokevirtual 111, 3) := by decide +kernel
theorem dX5_minor_5 : decode cX5_minor 5 = .ok (.istore_n 1, 1) := by decide +kernel
theorem dX5_minor_6 : decode cX5_minor 6 = .ok (.aload_n 0, 1) := by decide +kernel
theorem dX5_minor_7 : decode cX5_minor 7 = .ok (.dup, 1) := by decide +kernel
theorem dX5_minor_8 : decode cX5_minor 8 = .ok (.getfield 115, 3) := by decide +kernel
theorem dX5_minor_11 : decode cX5_minor 11 = .ok (.iconst 1, 1) := by decide +kernel
theorem dX5_minor_12 : decode cX5_minor 12 = .ok (.iadd, 1) := by decide +kernel
theorem dX5_minor_13 : decode cX5_minor 13 = .ok (.putfield 115, 3) := by decide +kernel
theorem dX5_minor_16 : decode cX5_minor 16 = .ok (.aload_n 0, 1) := by decide +kernel
theorem dX5_minor_17 : decode cX5_minor 17 = .ok (.dup, 1) := by decide +kernel
theorem dX5_minor_18 : decode cX5_minor 18 = .ok (.getfield 108, 3) := by decide +kernel
theorem dX5_minor_21 : decode cX5_minor 21 = .ok (.iload_n 1, 1) := by decide +kernel
theorem dX5_minor_22 : decode cX5_minor 22 = .ok (.iadd, 1) := by decide +kernel
theorem dX5_minor_23 : decode cX5_minor 23 = .ok (.putfield 108, 3) := by decide +kernel
theorem dX5_minor_26 : decode cX5_minor 26 = .ok (.iload_n 1, 1) := by decide +kernel
theorem dX5_minor_27 : decode cX5_minor 27 = .ok (.ireturn, 1) := by decide +kernel
set_option maxRecDepth 20000 in
theorem ggX5_full_X5_collect : GoodIn wsX5_full wsX5_collect := goodIn_r _ [7, 8, 9, 10, 11, 12, 13, 14, 15, 16, 17, 18, 6, 19, 20, 21, 22, 23, 24, 25, 26, 27, 28, 29, 30, 31, 32, 33, 34, 35, 36, 37, 38, 39, 40, 41, 42, 43, 44, 45, 46, 47, 48, 49, 50, 51, 52, 53, 54, 55, 56, 57, 58, 59, 60, 61, 62, 63, 64, 65, 66, 67, 68, 69, 70, 71, 72, 73, 74, 75, 76, 77, 78, 79, 80, 81, 82, 83, 84, 85, 86, 87, 88, 89, 90, 91, 92, 93, 94, 95, 96, 97, 98, 99, 100] (by decide +kernel) (by decide +kernel)
set_option maxRecDepth 20000 in
theorem gX5_full_X5_collect : GoodIn wsX5_full (wsV RX5 111 RX5 yX5_collect wsX5_collect) := goodIn_app (goodIn_of _ (by decide +kernel)) ggX5_full_X5_collect
theorem dX5_full_0 : decode cX5_full 0 = .ok (.aload_n 0, 1) := by decide +kernel
theorem dX5_full_1 : decode cX5_full 1 = .ok (.iconst 1, 1) := by decide +kernel
theorem dX5_full_2 : decode cX5_full 2 = .ok (.invokevirtual 111, 3) := by decide +kernel
theorem dX5_full_5 : decode cX5_full 5 = .ok (.istore_n 1, 1) := by decide +kernel
theorem dX5_full_6 : decode cX5_full 6 = .ok (.aload_n 0, 1) := by decide +kernel
theorem dX5_full_7 : decode cX5_full 7 = .ok (.dup, 1) := by decide +kernel
theorem dX5_full_8 : decode cX5_full 8 = .ok (.getfield 118, 3) := by decide +kernel
theorem dX5_full_11 : decode cX5_full 11 = .ok (.iconst 1, 1) := by decide +kernel
theorem dX5_full_12 : decode cX5_full 12 = .ok (.iadd, 1) := by decide +kernel
theorem dX5_full_13 : decode cX5_full 13 = .ok (.putfield 118, 3) := by decide +kernel
theorem dX5_full_16 : decode cX5_full 16 = .ok (.aload_n 0, 1) := by decide +kernel
theorem dX5_full_17 : decode cX5_full 17 = .ok (.dup, 1) := by decide +kernel
theorem dX5_full_18 : decode cX5_full 18 = .ok (.getfield 108, 3) := by decide +kernel
theorem dX5_full_21 : decode cX5_full 21 = .ok (.iload_n 1, 1) := by decide +kernel
theorem dX5_full_22 : decode cX5_full 22 = .ok (.iadd, 1) := by decide +kernel
theorem dX5_full_23 : decode cX5_full 23 = .ok (.putfield 108, 3) := by decide +kernel
theorem dX5_full_26 : decode cX5_full 26 = .ok (.iload_n 1, 1) := by decide +kernel
theorem dX5_full_27 : decode cX5_full 27 = .ok (.ireturn, 1) := by decide +kernel
set_option maxRecDepth 20000 in
theorem ggX5_logged_X5_in : GoodIn wsX5_logged wsX5_in := goodIn_r _ [6] (by decide +kernel) (by decide +kernel)
set_option maxRecDepth 20000 in
theorem gX5_logged_X5_in : GoodIn wsX5_logged (va_wsS RX5 61 yX5_in wsX5_in) := goodIn_app (goodIn_of _ (by decide +kernel)) ggX5_logged_X5_in
theorem dX5_logged_0 : decode cX5_logged 0 = .ok (.iload_n 1, 1) := by decide +kernel
theorem dX5_logged_1 : decode cX5_logged 1 = .ok (.iconst 0, 1) := by decide +kernel
theorem dX5_logged_2 : decode cX5_logged 2 = .ok (.aload_n 0, 1) := by decide +kernel
theorem dX5_logged_3 : decode cX5_logged 3 = .ok (.getfield 72, 3) := by decide +kernel
theorem dX5_logged_6 : decode cX5_logged 6 = .ok (.iconst 1, 1) := by decide +kernel
theorem dX5_logged_7 : decode cX5_logged 7 = .ok (.isub, 1) := by decide +kernel
theorem dX5_logged_8 : decode cX5_logged 8 = .ok (.invokestatic 61, 3) := by decide +kernel
theorem dX5_logged_11 : decode cX5_logged 11 = .ok (.ifCond .eq 12, 3) := by decide +kernel
theorem dX5_logged_14 : decode cX5_logged 14 = .ok (.aload_n 0, 1) := by decide +kernel
theorem dX5_logged_15 : decode cX5_logged 15 = .ok (.getfield 51, 3) := by decide +kernel
theorem dX5_logged_18 : decode cX5_logged 18 = .ok (.iload_n 1, 1) := by decide +kernel
theorem dX5_logged_19 : decode cX5_logged 19 = .ok (.iaload, 1) := by decide +kernel
theorem dX5_logged_20 : decode cX5_logged 20 = .ok (.goto 4, 3) := by decide +kernel
theorem dX5_logged_23 : decode cX5_logged 23 = .ok (.iconst (-1), 1) := by decide +kernel
theorem dX5_logged_24 : decode cX5_logged 24 = .ok (.ireturn, 1) := by decide +kernel
theorem dX5_olds_0 : decode cX5_olds 0 = .ok (.iconst 0, 1) := by decide +kernel
theorem dX5_olds_1 : decode cX5_olds 1 = .ok (.istore_n 2, 1) := by decide +kernel
theorem dX5_olds_2 : decode cX5_olds 2 = .ok (.bipush 64, 2) := by decide +kernel
theorem dX5_olds_4 : decode cX5_olds 4 = .ok (.iload_n 1, 1) := by decide +kernel
theorem dX5_olds_5 : decode cX5_olds 5 = .ok (.imul, 1) := by decide +kernel
theorem dX5_olds_6 : decode cX5_olds 6 = .ok (.istore_n 3, 1) := by decide +kernel
theorem dX5_olds_7 : decode cX5_olds 7 = .ok (.iload_n 3, 1) := by decide +kernel
theorem dX5_olds_8 : decode cX5_olds 8 = .ok (.bipush 64, 2) := by decide +kernel
theorem dX5_olds_10 : decode cX5_olds 10 = .ok (.iload_n 1, 1) := by decide +kernel
theorem dX5_olds_11 : decode cX5_olds 11 = .ok (.imul, 1) := by decide +kernel
theorem dX5_olds_12 : decode cX5_olds 12 = .ok (.bipush 64, 2) := by decide +kernel
theorem dX5_olds_14 : decode cX5_olds 14 = .ok (.iadd, 1) := by decide +kernel
theorem dX5_olds_15 : decode cX5_olds 15 = .ok (.if_icmp .ge 35, 3) := by decide +kernel
theorem dX5_olds_18 : decode cX5_olds 18 = .ok (.iload_n 2, 1) := by decide +kernel
theorem dX5_olds_19 : decode cX5_olds 19 = .ok (.aload_n 0, 1) := by decide +kernel
theorem dX5_olds_20 : decode cX5_olds 20 = .ok (.getfield 30, 3) := by decide +kernel
theorem dX5_olds_23 : decode cX5_olds 23 = .ok (.iload_n 3, 1) := by decide +kernel
theorem dX5_olds_24 : decode cX5_olds 24 = .ok (.baload, 1) := by decide +kernel
theorem dX5_olds_25 : decode cX5_olds 25 = .ok (.ifCond .eq 16, 3) := by decide +kernel
theorem dX5_olds_28 : decode cX5_olds 28 = .ok (.aload_n 0, 1) := by decide +kernel
theorem dX5_olds_29 : decode cX5_olds 29 = .ok (.getfield 33, 3) := by decide +kernel
theorem dX5_olds_32 : decode cX5_olds 32 = .ok (.iload_n 3, 1) := by decide +kernel
theorem dX5_olds_33 : decode cX5_olds 33 = .ok (.baload, 1) := by decide +kernel
theorem dX5_olds_34 : decode cX5_olds 34 = .ok (.ifCond .eq 7, 3) := by decide +kernel
theorem dX5_olds_37 : decode cX5_olds 37 = .ok (.iconst 1, 1) := by decide +kernel
theorem dX5_olds_38 : decode cX5_olds 38 = .ok (.goto 4, 3) := by decide +kernel
theorem dX5_olds_41 : decode cX5_olds 41 = .ok (.iconst 0, 1) := by decide +kernel
theorem dX5_olds_42 : decode cX5_olds 42 = .ok (.iadd, 1) := by decide +kernel
theorem dX5_olds_43 : decode cX5_olds 43 = .ok (.istore_n 2, 1) := by decide +kernel
theorem dX5_olds_44 : decode cX5_olds 44 = .ok (.iinc 3 1, 3) := by decide +kernel
theorem dX5_olds_47 : decode cX5_olds 47 = .ok (.goto (-40), 3) := by decide +kernel
theorem dX5_olds_50 : decode cX5_olds 50 = .ok (.iload_n 2, 1) := by decide +kernel
theorem dX5_olds_51 : decode cX5_olds 51 = .ok (.ireturn, 1) := by decide +kernel
set_option maxRecDepth 20000 in
theorem ggX5_block_X5_in : GoodIn wsX5_block wsX5_in := goodIn_r _ [9] (by decide +kernel) (by decide +kernel)
set_option maxRecDepth 20000 in
theorem gX5_block_X5_in : GoodIn wsX5_block (va_wsS RX5 61 yX5_in wsX5_in) := goodIn_app (goodIn_of _ (by decide +kernel)) ggX5_block_X5_in
set_option maxRecDepth 20000 in
theorem ggX5_block_X5_blocksOf : GoodIn wsX5_block wsX5_blocksOf := goodIn_r _ [13, 14, 15, 16, 8, 17, 18, 19, 30, 31, 32, 33, 34, 35, 36, 37, 38, 39, 40, 41, 42, 43, 44, 45, 46, 47, 48, 49, 50, 51, 52, 53, 54, 55, 56] (by decide +kernel) (by decide +kernel)
set_option maxRecDepth 20000 in
theorem gX5_block_X5_blocksOf : GoodIn wsX5_block (wsV RX5 134 RX5 yX5_blocksOf wsX5_blocksOf) := goodIn_app (goodIn_of _ (by decide +kernel)) ggX5_block_X5_blocksOf
set_option maxRecDepth 20000 in
theorem ggX5_block_X5_used : GoodIn wsX5_block wsX5_used := goodIn_r _ [23, 24, 30, 31, 32, 33, 34, 35, 36, 37, 38, 39, 40, 41, 42, 43, 44, 45, 46, 47, 48, 49, 50, 51, 52, 53, 54, 55, 56] (by decide +kernel) (by decide +kernel)
set_option maxRecDepth 20000 in
theorem gX5_block_X5_used : GoodIn wsX5_block (wsV RX5 156 RX5 yX5_used wsX5_used) := goodIn_app (goodIn_of _ (by decide +kernel)) ggX5_block_X5_used
set_option maxRecDepth 20000 in
theorem ggX5_block_X5_olds : GoodIn wsX5_block wsX5_olds := goodIn_r _ [28, 24, 29, 30, 31, 32, 33, 34, 35, 36, 37, 38, 39, 40, 41, 42, 43, 44, 45, 46, 47, 48, 49, 50, 51, 52, 53, 54, 55, 56] (by decide +kernel) (by decide +kernel)
set_option maxRecDepth 20000 in
theorem gX5_block_X5_olds : GoodIn wsX5_block (wsV RX5 159 RX5 yX5_olds wsX5_olds) := goodIn_app (goodIn_of _ (by decide +kernel)) ggX5_block_X5_olds
theorem dX5_block_0 : decode cX5_block 0 = .ok (.iload_n 1, 1) := by decide +kernel
theorem dX5_block_1 : decode cX5_block 1 = .ok (.iconst 0, 1) := by decide +kernel
theorem dX5_block_2 : decode cX5_block 2 = .ok (.aload_n 0, 1) := by decide +kernel
theorem dX5_block_3 : decode cX5_block 3 = .ok (.getfield 7, 3) := by decide +kernel
theorem dX5_block_6 : decode cX5_block 6 = .ok (.iconst 1, 1) := by decide +kernel
theorem dX5_block_7 : decode cX5_block 7 = .ok (.isub, 1) := by decide +kernel
theorem dX5_block_8 : decode cX5_block 8 = .ok (.invokestatic 61, 3) := by decide +kernel
theorem dX5_block_11 : decode cX5_block 11 = .ok (.ifCond .ne 6, 3) := by decide +kernel
theorem dX5_block_14 : decode cX5_block 14 = .ok (.bipush (-101), 2) := by decide +kernel
theorem dX5_block_16 : decode cX5_block 16 = .ok (.ireturn, 1) := by decide +kernel
theorem dX5_block_17 : decode cX5_block 17 = .ok (.iload_n 2, 1) := by decide +kernel
theorem dX5_block_18 : decode cX5_block 18 = .ok (.tableswitch 175 0 5 #[38, 45, 87, 116, 145, 160], 38) := by decide +kernel
theorem dX5_block_56 : decode cX5_block 56 = .ok (.aload_n 0, 1) := by decide +kernel
theorem dX5_block_57 : decode cX5_block 57 = .ok (.getfield 13, 3) := by decide +kernel
theorem dX5_block_60 : decode cX5_block 60 = .ok (.iload_n 1, 1) := by decide +kernel
theorem dX5_block_61 : decode cX5_block 61 = .ok (.iaload, 1) := by decide +kernel
theorem dX5_block_62 : decode cX5_block 62 = .ok (.ireturn, 1) := by decide +kernel
theorem dX5_block_63 : decode cX5_block 63 = .ok (.aload_n 0, 1) := by decide +kernel
theorem dX5_block_64 : decode cX5_block 64 = .ok (.getfield 13, 3) := by decide +kernel
theorem dX5_block_67 : decode cX5_block 67 = .ok (.iload_n 1, 1) := by decide +kernel
theorem dX5_block_68 : decode cX5_block 68 = .ok (.iaload, 1) := by decide +kernel
theorem dX5_block_69 : decode cX5_block 69 = .ok (.iconst 1, 1) := by decide +kernel
theorem dX5_block_70 : decode cX5_block 70 = .ok (.if_icmp .ne 12, 3) := by decide +kernel
theorem dX5_block_73 : decode cX5_block 73 = .ok (.aload_n 0, 1) := by decide +kernel
theorem dX5_block_74 : decode cX5_block 74 = .ok (.getfield 17, 3) := by decide +kernel
theorem dX5_block_77 : decode cX5_block 77 = .ok (.iload_n 1, 1) := by decide +kernel
theorem dX5_block_78 : decode cX5_block 78 = .ok (.iaload, 1) := by decide +kernel
theorem dX5_block_79 : decode cX5_block 79 = .ok (.goto 25, 3) := by decide +kernel
theorem dX5_block_82 : decode cX5_block 82 = .ok (.aload_n 0, 1) := by decide +kernel
theorem dX5_block_83 : decode cX5_block 83 = .ok (.getfield 13, 3) := by decide +kernel
theorem dX5_block_86 : decode cX5_block 86 = .ok (.iload_n 1, 1) := by decide +kernel
theorem dX5_block_87 : decode cX5_block 87 = .ok (.iaload, 1) := by decide +kernel
theorem dX5_block_88 : decode cX5_block 88 = .ok (.iconst 2, 1) := by decide +kernel
theorem dX5_block_89 : decode cX5_block 89 = .ok (.if_icmp .ne 14, 3) := by decide +kernel
theorem dX5_block_92 : decode cX5_block 92 = .ok (.aload_n 0, 1) := by decide +kernel
theorem dX5_block_93 : decode cX5_block 93 = .ok (.bipush 64, 2) := by decide +kernel
theorem dX5_block_95 : decode cX5_block 95 = .ok (.iload_n 1, 1) := by decide +kernel
theorem dX5_block_96 : decode cX5_block 96 = .ok (.imul, 1) := by decide +kernel
theorem dX5_block_97 : decode cX5_block 97 = .ok (.invokevirtual 134, 3) := by decide +kernel
theorem dX5_block_100 : decode cX5_block 100 = .ok (.goto 4, 3) := by decide +kernel
theorem dX5_block_103 : decode cX5_block 103 = .ok (.iconst 0, 1) := by decide +kernel
theorem dX5_block_104 : decode cX5_block 104 = .ok (.ireturn, 1) := by decide +kernel
theorem dX5_block_105 : decode cX5_block 105 = .ok (.aload_n 0, 1) := by decide +kernel
theorem dX5_block_106 : decode cX5_block 106 = .ok (.getfield 13, 3) := by decide +kernel
theorem dX5_block_109 : decode cX5_block 109 = .ok (.iload_n 1, 1) := by decide +kernel
theorem dX5_block_110 : decode cX5_block 110 = .ok (.iaload, 1) := by decide +kernel
theorem dX5_block_111 : decode cX5_block 111 = .ok (.ifCond .eq 13, 3) := by decide +kernel
theorem dX5_block_114 : decode cX5_block 114 = .ok (.aload_n 0, 1) := by decide +kernel
theorem dX5_block_115 : decode cX5_block 115 = .ok (.getfield 13, 3) := by decide +kernel
theorem dX5_block_118 : decode cX5_block 118 = .ok (.iload_n 1, 1) := by decide +kernel
theorem dX5_block_119 : decode cX5_block 119 = .ok (.iaload, 1) := by decide +kernel
theorem dX5_block_120 : decode cX5_block 120 = .ok (.iconst 3, 1) := by decide +kernel
theorem dX5_block_121 : decode cX5_block 121 = .ok (.if_icmp .ne 7, 3) := by decide +kernel
theorem dX5_block_124 : decode cX5_block 124 = .ok (.iconst 0, 1) := by decide +kernel
theorem dX5_block_125 : decode cX5_block 125 = .ok (.goto 8, 3) := by decide +kernel
theorem dX5_block_128 : decode cX5_block 128 = .ok (.aload_n 0, 1) := by decide +kernel
theorem dX5_block_129 : decode cX5_block 129 = .ok (.iload_n 1, 1) := by decide +kernel
theorem dX5_block_130 : decode cX5_block 130 = .ok (.invokevirtual 156, 3) := by decide +kernel
theorem dX5_block_133 : decode cX5_block 133 = .ok (.ireturn, 1) := by decide +kernel
theorem dX5_block_134 : decode cX5_block 134 = .ok (.aload_n 0, 1) := by decide +kernel
theorem dX5_block_135 : decode cX5_block 135 = .ok (.getfield 13, 3) := by decide +kernel
theorem dX5_block_138 : decode cX5_block 138 = .ok (.iload_n 1, 1) := by decide +kernel
theorem dX5_block_139 : decode cX5_block 139 = .ok (.iaload, 1) := by decide +kernel
theorem dX5_block_140 : decode cX5_block 140 = .ok (.ifCond .eq 13, 3) := by decide +kernel
theorem dX5_block_143 : decode cX5_block 143 = .ok (.aload_n 0, 1) := by decide +kernel
theorem dX5_block_144 : decode cX5_block 144 = .ok (.getfield 13, 3) := by decide +kernel
theorem dX5_block_147 : decode cX5_block 147 = .ok (.iload_n 1, 1) := by decide +kernel
theorem dX5_block_148 : decode cX5_block 148 = .ok (.iaload, 1) := by decide +kernel
theorem dX5_block_149 : decode cX5_block 149 = .ok (.iconst 3, 1) := by decide +kernel
theorem dX5_block_150 : decode cX5_block 150 = .ok (.if_icmp .ne 7, 3) := by decide +kernel
theorem dX5_block_153 : decode cX5_block 153 = .ok (.iconst 0, 1) := by decide +kernel
theorem dX5_block_154 : decode cX5_block 154 = .ok (.goto 8, 3) := by decide +kernel
theorem dX5_block_157 : decode cX5_block 157 = .ok (.aload_n 0, 1) := by decide +kernel
theorem dX5_block_158 : decode cX5_block 158 = .ok (.iload_n 1, 1) := by decide +kernel
theorem dX5_block_159 : decode cX5_block 159 = .ok (.invokevirtual 159, 3) := by decide +kernel
theorem dX5_block_162 : decode cX5_block 162 = .ok (.ireturn, 1) := by decide +kernel
theorem dX5_block_163 : decode cX5_block 163 = .ok (.aload_n 0, 1) := by decide +kernel
theorem dX5_block_164 : decode cX5_block 164 = .ok (.getfield 20, 3) := by decide +kernel
theorem dX5_block_167 : decode cX5_block 167 = .ok (.iload_n 1, 1) := by decide +kernel
theorem dX5_block_168 : decode cX5_block 168 = .ok (.baload, 1) := by decide +kernel
theorem dX5_block_169 : decode cX5_block 169 = .ok (.ifCond .eq 7, 3) := by decide +kernel
theorem dX5_block_172 : decode cX5_block 172 = .ok (.iconst 1, 1) := by decide +kernel
theorem dX5_block_173 : decode cX5_block 173 = .ok (.goto 4, 3) := by decide +kernel
theorem dX5_block_176 : decode cX5_block 176 = .ok (.iconst 0, 1) := by decide +kernel
theorem dX5_block_177 : decode cX5_block 177 = .ok (.ireturn, 1) := by decide +kernel
theorem dX5_block_178 : decode cX5_block 178 = .ok (.aload_n 0, 1) := by decide +kernel
theorem dX5_block_179 : decode cX5_block 179 = .ok (.getfield 24, 3) := by decide +kernel
theorem dX5_block_182 : decode cX5_block 182 = .ok (.iload_n 1, 1) := by decide +kernel
theorem dX5_block_183 : decode cX5_block 183 = .ok (.baload, 1) := by decide +kernel
theorem dX5_block_184 : decode cX5_block 184 = .ok (.ifCond .eq 7, 3) := by decide +kernel
theorem dX5_block_187 : decode cX5_block 187 = .ok (.iconst 1, 1) := by decide +kernel
theorem dX5_block_188 : decode cX5_block 188 = .ok (.goto 4, 3) := by decide +kernel
theorem dX5_block_191 : decode cX5_block 191 = .ok (.iconst 0, 1) := by decide +kernel
theorem dX5_block_192 : decode cX5_block 192 = .ok (.ireturn, 1) := by decide +kernel
theorem dX5_block_193 : decode cX5_block 193 = .ok (.bipush (-102), 2) := by decide +kernel
theorem dX5_block_195 : decode cX5_block 195 = .ok (.ireturn, 1) := by decide +kernel
set_option maxRecDepth 20000 in
theorem ggX5_room_X5_in : GoodIn wsX5_room wsX5_in := goodIn_r _ [7] (by decide +kernel) (by decide +kernel)
set_option maxRecDepth 20000 in
theorem gX5_room_X5_in : GoodIn wsX5_room (va_wsS RX5 61 yX5_in wsX5_in) := goodIn_app (goodIn_of _ (by decide +kernel)) ggX5_room_X5_in
set_option maxRecDepth 20000 in
theorem ggX5_room_X5_cell : GoodIn wsX5_room wsX5_cell := goodIn_r _ [10] (by decide +kernel) (by decide +kernel)
set_option maxRecDepth 20000 in
theorem gX5_room_X5_cell : GoodIn wsX5_room (va_wsS RX5 98 yX5_cell wsX5_cell) := goodIn_app (goodIn_of _ (by decide +kernel)) ggX5_room_X5_cell
set_option maxRecDepth 20000 in
theorem ggX5_room_X5_used : GoodIn wsX5_room wsX5_used := goodIn_r _ [14, 15, 16, 17, 18, 19, 20, 21, 22, 23, 24, 25, 26, 27, 28, 29, 30, 31, 32, 33, 34, 35, 36, 37, 38, 39, 40, 41, 42] (by decide +kernel) (by decide +kernel)
set_option maxRecDepth 20000 in
theorem gX5_room_X5_used : GoodIn wsX5_room (wsV RX5 156 RX5 yX5_used wsX5_used) := goodIn_app (goodIn_of _ (by decide +kernel)) ggX5_room_X5_used
theorem dX5_room_0 : decode cX5_room 0 = .ok (.iload_n 1, 1) := by decide +kernel
theorem dX5_room_1 : decode cX5_room 1 = .ok (.iconst 0, 1) := by decide +kernel
theorem dX5_room_2 : decode cX5_room 2 = .ok (.iconst 5, 1) := by decide +kernel
theorem dX5_room_3 : decode cX5_room 3 = .ok (.invokestatic 61, 3) := by decide +kernel
theorem dX5_room_6 : decode cX5_room 6 = .ok (.ifCond .ne 6, 3) := by decide +kernel
theorem dX5_room_9 : decode cX5_room 9 = .ok (.bipush (-102), 2) := by decide +kernel
theorem dX5_room_11 : decode cX5_room 11 = .ok (.ireturn, 1) := by decide +kernel
theorem dX5_room_12 : decode cX5_room 12 = .ok (.iconst 0, 1) := by decide +kernel
theorem dX5_room_13 : decode cX5_room 13 = .ok (.istore_n 2, 1) := by decide +kernel
theorem dX5_room_14 : decode cX5_room 14 = .ok (.iconst 0, 1) := by decide +kernel
theorem dX5_room_15 : decode cX5_room 15 = .ok (.istore_n 3, 1) := by decide +kernel
theorem dX5_room_16 : decode cX5_room 16 = .ok (.iload_n 3, 1) := by decide +kernel
theorem dX5_room_17 : decode cX5_room 17 = .ok (.aload_n 0, 1) := by decide +kernel
theorem dX5_room_18 : decode cX5_room 18 = .ok (.getfield 7, 3) := by decide +kernel
theorem dX5_room_21 : decode cX5_room 21 = .ok (.if_icmp .ge 76, 3) := by decide +kernel
theorem dX5_room_24 : decode cX5_room 24 = .ok (.aload_n 0, 1) := by decide +kernel
theorem dX5_room_25 : decode cX5_room 25 = .ok (.getfield 13, 3) := by decide +kernel
theorem dX5_room_28 : decode cX5_room 28 = .ok (.iload_n 3, 1) := by decide +kernel
theorem dX5_room_29 : decode cX5_room 29 = .ok (.iaload, 1) := by decide +kernel
theorem dX5_room_30 : decode cX5_room 30 = .ok (.ifCond .ne 25, 3) := by decide +kernel
theorem dX5_room_33 : decode cX5_room 33 = .ok (.iload_n 2, 1) := by decide +kernel
theorem dX5_room_34 : decode cX5_room 34 = .ok (.iload_n 1, 1) := by decide +kernel
theorem dX5_room_35 : decode cX5_room 35 = .ok (.iconst 5, 1) := by decide +kernel
theorem dX5_room_36 : decode cX5_room 36 = .ok (.if_icmp .ne 7, 3) := by decide +kernel
theorem dX5_room_39 : decode cX5_room 39 = .ok (.iconst 1, 1) := by decide +kernel
theorem dX5_room_40 : decode cX5_room 40 = .ok (.goto 10, 3) := by decide +kernel
theorem dX5_room_43 : decode cX5_room 43 = .ok (.bipush 64, 2) := by decide +kernel
theorem dX5_room_45 : decode cX5_room 45 = .ok (.iload_n 1, 1) := by decide +kernel
theorem dX5_room_46 : decode cX5_room 46 = .ok (.invokestatic 98, 3) := by decide +kernel
theorem dX5_room_49 : decode cX5_room 49 = .ok (.idiv, 1) := by decide +kernel
theorem dX5_room_50 : decode cX5_room 50 = .ok (.iadd, 1) := by decide +kernel
theorem dX5_room_51 : decode cX5_room 51 = .ok (.istore_n 2, 1) := by decide +kernel
theorem dX5_room_52 : decode cX5_room 52 = .ok (.goto 39, 3) := by decide +kernel
theorem dX5_room_55 : decode cX5_room 55 = .ok (.aload_n 0, 1) := by decide +kernel
theorem dX5_room_56 : decode cX5_room 56 = .ok (.getfield 13, 3) := by decide +kernel
theorem dX5_room_59 : decode cX5_room 59 = .ok (.iload_n 3, 1) := by decide +kernel
theorem dX5_room_60 : decode cX5_room 60 = .ok (.iaload, 1) := by decide +kernel
theorem dX5_room_61 : decode cX5_room 61 = .ok (.iconst 1, 1) := by decide +kernel
theorem dX5_room_62 : decode cX5_room 62 = .ok (.if_icmp .ne 29, 3) := by decide +kernel
theorem dX5_room_65 : decode cX5_room 65 = .ok (.aload_n 0, 1) := by decide +kernel
theorem dX5_room_66 : decode cX5_room 66 = .ok (.getfield 17, 3) := by decide +kernel
theorem dX5_room_69 : decode cX5_room 69 = .ok (.iload_n 3, 1) := by decide +kernel
theorem dX5_room_70 : decode cX5_room 70 = .ok (.iaload, 1) := by decide +kernel
theorem dX5_room_71 : decode cX5_room 71 = .ok (.iload_n 1, 1) := by decide +kernel
theorem dX5_room_72 : decode cX5_room 72 = .ok (.if_icmp .ne 19, 3) := by decide +kernel
theorem dX5_room_75 : decode cX5_room 75 = .ok (.iload_n 2, 1) := by decide +kernel
theorem dX5_room_76 : decode cX5_room 76 = .ok (.bipush 64, 2) := by decide +kernel
theorem dX5_room_78 : decode cX5_room 78 = .ok (.iload_n 1, 1) := by decide +kernel
theorem dX5_room_79 : decode cX5_room 79 = .ok (.invokestatic 98, 3) := by decide +kernel
theorem dX5_room_82 : decode cX5_room 82 = .ok (.idiv, 1) := by decide +kernel
theorem dX5_room_83 : decode cX5_room 83 = .ok (.aload_n 0, 1) := by decide +kernel
theorem dX5_room_84 : decode cX5_room 84 = .ok (.iload_n 3, 1) := by decide +kernel
theorem dX5_room_85 : decode cX5_room 85 = .ok (.invokevirtual 156, 3) := by decide +kernel
theorem dX5_room_88 : decode cX5_room 88 = .ok (.isub, 1) := by decide +kernel
theorem dX5_room_89 : decode cX5_room 89 = .ok (.iadd, 1) := by decide +kernel
theorem dX5_room_90 : decode cX5_room 90 = .ok (.istore_n 2, 1) := by decide +kernel
theorem dX5_room_91 : decode cX5_room 91 = .ok (.iinc 3 1, 3) := by decide +kernel
theorem dX5_room_94 : decode cX5_room 94 = .ok (.goto (-78), 3) := by decide +kernel
theorem dX5_room_97 : decode cX5_room 97 = .ok (.iload_n 2, 1) := by decide +kernel
theorem dX5_room_98 : decode cX5_room 98 = .ok (.ireturn, 1) := by decide +kernel
set_option maxRecDepth 20000 in
theorem ggX5_count_X5_things : GoodIn wsX5_count wsX5_things := goodIn_r _ [15, 1, 4, 34, 35, 36, 37, 38, 39, 40, 41, 42, 43, 44, 45, 46, 47, 48, 49, 50, 51, 52, 53, 54, 55, 56, 57, 58, 59, 60] (by decide +kernel) (by decide +kernel)
set_option maxRecDepth 20000 in
theorem gX5_count_X5_things : GoodIn wsX5_count (wsV RX5 65 RX5 yX5_things wsX5_things) := goodIn_app (goodIn_of _ (by decide +kernel)) ggX5_count_X5_things
set_option maxRecDepth 20000 in
theorem ggX5_count_X5_olds : GoodIn wsX5_count wsX5_olds := goodIn_r _ [19, 4, 20, 34, 35, 36, 37, 38, 39, 40, 41, 42, 43, 44, 45, 46, 47, 48, 49, 50, 51, 52, 53, 54, 55, 56, 57, 58, 59, 60] (by decide +kernel) (by decide +kernel)
set_option maxRecDepth 20000 in
theorem gX5_count_X5_olds : GoodIn wsX5_count (wsV RX5 159 RX5 yX5_olds wsX5_olds) := goodIn_app (goodIn_of _ (by decide +kernel)) ggX5_count_X5_olds
set_option maxRecDepth 20000 in
theorem ggX5_count_X5_isRemembered : GoodIn wsX5_count wsX5_isRemembered := goodIn_r _ [24, 20, 25, 5, 26, 27, 28, 29, 30, 14, 31, 32, 33, 34, 35, 36, 37, 38, 39, 40, 41, 42, 43, 44, 45, 46, 47, 48, 49, 50, 51, 52, 53, 54, 55, 56, 57, 58, 59, 60] (by decide +kernel) (by decide +kernel)
set_option maxRecDepth 20000 in
theorem gX5_count_X5_isRemembered : GoodIn wsX5_count (wsV RX5 131 RX5 yX5_isRemembered wsX5_isRemembered) := goodIn_app (goodIn_of _ (by decide +kernel)) ggX5_count_X5_isRemembered
theorem dX5_count_0 : decode cX5_count 0 = .ok (.iconst 0, 1) := by decide +kernel
theorem dX5_count_1 : decode cX5_count 1 = .ok (.istore_n 2, 1) := by decide +kernel
theorem dX5_count_2 : decode cX5_count 2 = .ok (.iload_n 1, 1) := by decide +kernel
theorem dX5_count_3 : decode cX5_count 3 = .ok (.tableswitch 251 0 11 #[61, 66, 71, 97, 132, 167, 213, 226, 231, 236, 241, 246], 61) := by decide +kernel
theorem dX5_count_64 : decode cX5_count 64 = .ok (.aload_n 0, 1) := by decide +kernel
theorem dX5_count_65 : decode cX5_count 65 = .ok (.getfield 7, 3) := by decide +kernel
theorem dX5_count_68 : decode cX5_count 68 = .ok (.ireturn, 1) := by decide +kernel
theorem dX5_count_69 : decode cX5_count 69 = .ok (.aload_n 0, 1) := by decide +kernel
theorem dX5_count_70 : decode cX5_count 70 = .ok (.invokevirtual 65, 3) := by decide +kernel
theorem dX5_count_73 : decode cX5_count 73 = .ok (.ireturn, 1) := by decide +kernel
theorem dX5_count_74 : decode cX5_count 74 = .ok (.iconst 0, 1) := by decide +kernel
theorem dX5_count_75 : decode cX5_count 75 = .ok (.istore_n 3, 1) := by decide +kernel
theorem dX5_count_76 : decode cX5_count 76 = .ok (.iload_n 3, 1) := by decide +kernel
theorem dX5_count_77 : decode cX5_count 77 = .ok (.aload_n 0, 1) := by decide +kernel
theorem dX5_count_78 : decode cX5_count 78 = .ok (.getfield 7, 3) := by decide +kernel
theorem dX5_count_81 : decode cX5_count 81 = .ok (.if_icmp .ge 17, 3) := by decide +kernel
theorem dX5_count_84 : decode cX5_count 84 = .ok (.iload_n 2, 1) := by decide +kernel
theorem dX5_count_85 : decode cX5_count 85 = .ok (.aload_n 0, 1) := by decide +kernel
theorem dX5_count_86 : decode cX5_count 86 = .ok (.iload_n 3, 1) := by decide +kernel
theorem dX5_count_87 : decode cX5_count 87 = .ok (.invokevirtual 159, 3) := by decide +kernel
theorem dX5_count_90 : decode cX5_count 90 = .ok (.iadd, 1) := by decide +kernel
theorem dX5_count_91 : decode cX5_count 91 = .ok (.istore_n 2, 1) := by decide +kernel
theorem dX5_count_92 : decode cX5_count 92 = .ok (.iinc 3 1, 3) := by decide +kernel
theorem dX5_count_95 : decode cX5_count 95 = .ok (.goto (-19), 3) := by decide +kernel
theorem dX5_count_98 : decode cX5_count 98 = .ok (.iload_n 2, 1) := by decide +kernel
theorem dX5_count_99 : decode cX5_count 99 = .ok (.ireturn, 1) := by decide +kernel
theorem dX5_count_100 : decode cX5_count 100 = .ok (.iconst 0, 1) := by decide +kernel
theorem dX5_count_101 : decode cX5_count 101 = .ok (.istore_n 3, 1) := by decide +kernel
theorem dX5_count_102 : decode cX5_count 102 = .ok (.iload_n 3, 1) := by decide +kernel
theorem dX5_count_103 : decode cX5_count 103 = .ok (.aload_n 0, 1) := by decide +kernel
theorem dX5_count_104 : decode cX5_count 104 = .ok (.getfield 7, 3) := by decide +kernel
theorem dX5_count_107 : decode cX5_count 107 = .ok (.if_icmp .ge 26, 3) := by decide +kernel
theorem dX5_count_110 : decode cX5_count 110 = .ok (.iload_n 2, 1) := by decide +kernel
theorem dX5_count_111 : decode cX5_count 111 = .ok (.aload_n 0, 1) := by decide +kernel
theorem dX5_count_112 : decode cX5_count 112 = .ok (.getfield 13, 3) := by decide +kernel
theorem dX5_count_115 : decode cX5_count 115 = .ok (.iload_n 3, 1) := by decide +kernel
theorem dX5_count_116 : decode cX5_count 116 = .ok (.iaload, 1) := by decide +kernel
theorem dX5_count_117 : decode cX5_count 117 = .ok (.ifCond .ne 7, 3) := by decide +kernel
theorem dX5_count_120 : decode cX5_count 120 = .ok (.iconst 1, 1) := by decide +kernel
theorem dX5_count_121 : decode cX5_count 121 = .ok (.goto 4, 3) := by decide +kernel
theorem dX5_count_124 : decode cX5_count 124 = .ok (.iconst 0, 1) := by decide +kernel
theorem dX5_count_125 : decode cX5_count 125 = .ok (.iadd, 1) := by decide +kernel
theorem dX5_count_126 : decode cX5_count 126 = .ok (.istore_n 2, 1) := by decide +kernel
theorem dX5_count_127 : decode cX5_count 127 = .ok (.iinc 3 1, 3) := by decide +kernel
theorem dX5_count_130 : decode cX5_count 130 = .ok (.goto (-28), 3) := by decide +kernel
theorem dX5_count_133 : decode cX5_count 133 = .ok (.iload_n 2, 1) := by decide +kernel
theorem dX5_count_134 : decode cX5_count 134 = .ok (.ireturn, 1) := by decide +kernel
theorem dX5_count_135 : decode cX5_count 135 = .ok (.iconst 0, 1) := by decide +kernel
theorem dX5_count_136 : decode cX5_count 136 = .ok (.istore_n 3, 1) := by decide +kernel
theorem dX5_count_137 : decode cX5_count 137 = .ok (.iload_n 3, 1) := by decide +kernel
theorem dX5_count_138 : decode cX5_count 138 = .ok (.aload_n 0, 1) := by decide +kernel
theorem dX5_count_139 : decode cX5_count 139 = .ok (.getfield 7, 3) := by decide +kernel
theorem dX5_count_142 : decode cX5_count 142 = .ok (.if_icmp .ge 26, 3) := by decide +kernel
theorem dX5_count_145 : decode cX5_count 145 = .ok (.iload_n 2, 1) := by decide +kernel
theorem dX5_count_146 : decode cX5_count 146 = .ok (.aload_n 0, 1) := by decide +kernel
theorem dX5_count_147 : decode cX5_count 147 = .ok (.getfield 24, 3) := by decide +kernel
theorem dX5_count_150 : decode cX5_count 150 = .ok (.iload_n 3, 1) := by decide +kernel
theorem dX5_count_151 : decode cX5_count 151 = .ok (.baload, 1) := by decide +kernel
theorem dX5_count_152 : decode cX5_count 152 = .ok (.ifCond .eq 7, 3) := by decide +kernel
theorem dX5_count_155 : decode cX5_count 155 = .ok (.iconst 1, 1) := by decide +kernel
theorem dX5_count_156 : decode cX5_count 156 = .ok (.goto 4, 3) := by decide +kernel
theorem dX5_count_159 : decode cX5_count 159 = .ok (.iconst 0, 1) := by decide +kernel
theorem dX5_count_160 : decode cX5_count 160 = .ok (.iadd, 1) := by decide +kernel
theorem dX5_count_161 : decode cX5_count 161 = .ok (.istore_n 2, 1) := by decide +kernel
theorem dX5_count_162 : decode cX5_count 162 = .ok (.iinc 3 1, 3) := by decide +kernel
theorem dX5_count_165 : decode cX5_count 165 = .ok (.goto (-28), 3) := by decide +kernel
theorem dX5_count_168 : decode cX5_count 168 = .ok (.iload_n 2, 1) := by decide +kernel
theorem dX5_count_169 : decode cX5_count 169 = .ok (.ireturn, 1) := by decide +kernel
theorem dX5_count_170 : decode cX5_count 170 = .ok (.iconst 0, 1) := by decide +kernel
theorem dX5_count_171 : decode cX5_count 171 = .ok (.istore_n 3, 1) := by decide +kernel
theorem dX5_count_172 : decode cX5_count 172 = .ok (.iload_n 3, 1) := by decide +kernel
theorem dX5_count_173 : decode cX5_count 173 = .ok (.bipush 64, 2) := by decide +kernel
theorem dX5_count_175 : decode cX5_count 175 = .ok (.aload_n 0, 1) := by decide +kernel
theorem dX5_count_176 : decode cX5_count 176 = .ok (.getfield 7, 3) := by decide +kernel
theorem dX5_count_179 : decode cX5_count 179 = .ok (.imul, 1) := by decide +kernel
theorem dX5_count_180 : decode cX5_count 180 = .ok (.if_icmp .ge 34, 3) := by decide +kernel
theorem dX5_count_183 : decode cX5_count 183 = .ok (.iload_n 2, 1) := by decide +kernel
theorem dX5_count_184 : decode cX5_count 184 = .ok (.aload_n 0, 1) := by decide +kernel
theorem dX5_count_185 : decode cX5_count 185 = .ok (.getfield 30, 3) := by decide +kernel
theorem dX5_count_188 : decode cX5_count 188 = .ok (.iload_n 3, 1) := by decide +kernel
theorem dX5_count_189 : decode cX5_count 189 = .ok (.baload, 1) := by decide +kernel
theorem dX5_count_190 : decode cX5_count 190 = .ok (.ifCond .eq 15, 3) := by decide +kernel
theorem dX5_count_193 : decode cX5_count 193 = .ok (.aload_n 0, 1) := by decide +kernel
theorem dX5_count_194 : decode cX5_count 194 = .ok (.iload_n 3, 1) := by decide +kernel
theorem dX5_count_195 : decode cX5_count 195 = .ok (.invokevirtual 131, 3) := by decide +kernel
theorem dX5_count_198 : decode cX5_count 198 = .ok (.ifCond .eq 7, 3) := by decide +kernel
theorem dX5_count_201 : decode cX5_count 201 = .ok (.iconst 1, 1) := by decide +kernel
theorem dX5_count_202 : decode cX5_count 202 = .ok (.goto 4, 3) := by decide +kernel
theorem dX5_count_205 : decode cX5_count 205 = .ok (.iconst 0, 1) := by decide +kernel
theorem dX5_count_206 : decode cX5_count 206 = .ok (.iadd, 1) := by decide +kernel
theorem dX5_count_207 : decode cX5_count 207 = .ok (.istore_n 2, 1) := by decide +kernel
theorem dX5_count_208 : decode cX5_count 208 = .ok (.iinc 3 1, 3) := by decide +kernel
theorem dX5_count_211 : decode cX5_count 211 = .ok (.goto (-39), 3) := by decide +kernel
theorem dX5_count_214 : decode cX5_count 214 = .ok (.iload_n 2, 1) := by decide +kernel
theorem dX5_count_215 : decode cX5_count 215 = .ok (.ireturn, 1) := by decide +kernel
theorem dX5_count_216 : decode cX5_count 216 = .ok (.aload_n 0, 1) := by decide +kernel
theorem dX5_count_217 : decode cX5_count 217 = .ok (.getfield 75, 3) := by decide +kernel
theorem dX5_count_220 : decode cX5_count 220 = .ok (.ifCond .eq 7, 3) := by decide +kernel
theorem dX5_count_223 : decode cX5_count 223 = .ok (.iconst 1, 1) := by decide +kernel
theorem dX5_count_224 : decode cX5_count 224 = .ok (.goto 4, 3) := by decide +kernel
theorem dX5_count_227 : decode cX5_count 227 = .ok (.iconst 0, 1) := by decide +kernel
theorem dX5_count_228 : decode cX5_count 228 = .ok (.ireturn, 1) := by decide +kernel
theorem dX5_count_229 : decode cX5_count 229 = .ok (.aload_n 0, 1) := by decide +kernel
theorem dX5_count_230 : decode cX5_count 230 = .ok (.getfield 121, 3) := by decide +kernel
theorem dX5_count_233 : decode cX5_count 233 = .ok (.ireturn, 1) := by decide +kernel
theorem dX5_count_234 : decode cX5_count 234 = .ok (.aload_n 0, 1) := by decide +kernel
theorem dX5_count_235 : decode cX5_count 235 = .ok (.getfield 108, 3) := by decide +kernel
theorem dX5_count_238 : decode cX5_count 238 = .ok (.ireturn, 1) := by decide +kernel
theorem dX5_count_239 : decode cX5_count 239 = .ok (.aload_n 0, 1) := by decide +kernel
theorem dX5_count_240 : decode cX5_count 240 = .ok (.getfield 115, 3) := by decide +kernel
theorem dX5_count_243 : decode cX5_count 243 = .ok (.ireturn, 1) := by decide +kernel
theorem dX5_count_244 : decode cX5_count 244 = .ok (.aload_n 0, 1) := by decide +kernel
theorem dX5_count_245 : decode cX5_count 245 = .ok (.getfield 118, 3) := by decide +kernel
theorem dX5_count_248 : decode cX5_count 248 = .ok (.ireturn, 1) := by decide +kernel
theorem dX5_count_249 : decode cX5_count 249 = .ok (.aload_n 0, 1) := by decide +kernel
theorem dX5_count_250 : decode cX5_count 250 = .ok (.getfield 141, 3) := by decide +kernel
theorem dX5_count_253 : decode cX5_count 253 = .ok (.ireturn, 1) := by decide +kernel
theorem dX5_count_254 : decode cX5_count 254 = .ok (.bipush (-102), 2) := by decide +kernel
theorem dX5_count_256 : decode cX5_count 256 = .ok (.ireturn, 1) := by decide +kernel
theorem dX5_mix_0 : decode cX5_mix 0 = .ok (.aload_n 0, 1) := by decide +kernel
theorem dX5_mix_1 : decode cX5_mix 1 = .ok (.ldc2_w 162, 3) := by decide +kernel
theorem dX5_mix_4 : decode cX5_mix 4 = .ok (.aload_n 0, 1) := by decide +kernel
theorem dX5_mix_5 : decode cX5_mix 5 = .ok (.getfield 164, 3) := by decide +kernel
theorem dX5_mix_8 : decode cX5_mix 8 = .ok (.lmul, 1) := by decide +kernel
theorem dX5_mix_9 : decode cX5_mix 9 = .ok (.lload_n 1, 1) := by decide +kernel
theorem dX5_mix_10 : decode cX5_mix 10 = .ok (.ladd, 1) := by decide +kernel
theorem dX5_mix_11 : decode cX5_mix 11 = .ok (.putfield 164, 3) := by decide +kernel
theorem dX5_mix_14 : decode cX5_mix 14 = .ok (.return_, 1) := by decide +kernel
set_option maxRecDepth 20000 in
theorem ggX5_digest_X5_mix : GoodIn wsX5_digest wsX5_mix := goodIn_r _ [22, 23, 2, 28, 29, 30, 31, 32, 33, 34, 35, 36, 37, 38, 39, 40, 41, 42, 43, 44, 45, 46, 47, 48, 49, 50, 51, 52, 53, 54] (by decide +kernel) (by decide +kernel)
set_option maxRecDepth 20000 in
theorem gX5_digest_X5_mix : GoodIn wsX5_digest (wsV RX5 170 RX5 yX5_mix wsX5_mix) := goodIn_app (goodIn_of _ (by decide +kernel)) ggX5_digest_X5_mix
set_option maxRecDepth 20000 in
theorem ggX5_digest_X5_size : GoodIn wsX5_digest wsX5_size := goodIn_r _ [27, 5, 6, 28, 29, 30, 31, 32, 33, 34, 35, 36, 37, 38, 39, 40, 41, 42, 43, 44, 45, 46, 47, 48, 49, 50, 51, 52, 53, 54] (by decide +kernel) (by decide +kernel)
set_option maxRecDepth 20000 in
theorem gX5_digest_X5_size : GoodIn wsX5_digest (wsV RX5 84 RX5 yX5_size wsX5_size) := goodIn_app (goodIn_of _ (by decide +kernel)) ggX5_digest_X5_size
theorem dX5_digest_0 : decode cX5_digest 0 = .ok (.aload_n 0, 1) := by decide +kernel
theorem dX5_digest_1 : decode cX5_digest 1 = .ok (.ldc2_w 168, 3) := by decide +kernel
theorem dX5_digest_4 : decode cX5_digest 4 = .ok (.putfield 164, 3) := by decide +kernel
theorem dX5_digest_7 : decode cX5_digest 7 = .ok (.aload_n 0, 1) := by decide +kernel
theorem dX5_digest_8 : decode cX5_digest 8 = .ok (.aload_n 0, 1) := by decide +kernel
theorem dX5_digest_9 : decode cX5_digest 9 = .ok (.getfield 7, 3) := by decide +kernel
theorem dX5_digest_12 : decode cX5_digest 12 = .ok (.i2l, 1) := by decide +kernel
theorem dX5_digest_13 : decode cX5_digest 13 = .ok (.invokevirtual 170, 3) := by decide +kernel
theorem dX5_digest_16 : decode cX5_digest 16 = .ok (.iconst 0, 1) := by decide +kernel
theorem dX5_digest_17 : decode cX5_digest 17 = .ok (.istore_n 1, 1) := by decide +kernel
theorem dX5_digest_18 : decode cX5_digest 18 = .ok (.iload_n 1, 1) := by decide +kernel
theorem dX5_digest_19 : decode cX5_digest 19 = .ok (.bipush 64, 2) := by decide +kernel
theorem dX5_digest_21 : decode cX5_digest 21 = .ok (.aload_n 0, 1) := by decide +kernel
theorem dX5_digest_22 : decode cX5_digest 22 = .ok (.getfield 7, 3) := by decide +kernel
theorem dX5_digest_25 : decode cX5_digest 25 = .ok (.imul, 1) := by decide +kernel
theorem dX5_digest_26 : decode cX5_digest 26 = .ok (.if_icmp .ge 94, 3) := by decide +kernel
theorem dX5_digest_29 : decode cX5_digest 29 = .ok (.aload_n 0, 1) := by decide +kernel
theorem dX5_digest_30 : decode cX5_digest 30 = .ok (.getfield 30, 3) := by decide +kernel
theorem dX5_digest_33 : decode cX5_digest 33 = .ok (.iload_n 1, 1) := by decide +kernel
theorem dX5_digest_34 : decode cX5_digest 34 = .ok (.baload, 1) := by decide +kernel
theorem dX5_digest_35 : decode cX5_digest 35 = .ok (.ifCond .eq 79, 3) := by decide +kernel
theorem dX5_digest_38 : decode cX5_digest 38 = .ok (.aload_n 0, 1) := by decide +kernel
theorem dX5_digest_39 : decode cX5_digest 39 = .ok (.iload_n 1, 1) := by decide +kernel
theorem dX5_digest_40 : decode cX5_digest 40 = .ok (.i2l, 1) := by decide +kernel
theorem dX5_digest_41 : decode cX5_digest 41 = .ok (.invokevirtual 170, 3) := by decide +kernel
theorem dX5_digest_44 : decode cX5_digest 44 = .ok (.aload_n 0, 1) := by decide +kernel
theorem dX5_digest_45 : decode cX5_digest 45 = .ok (.aload_n 0, 1) := by decide +kernel
theorem dX5_digest_46 : decode cX5_digest 46 = .ok (.getfield 39, 3) := by decide +kernel
theorem dX5_digest_49 : decode cX5_digest 49 = .ok (.iload_n 1, 1) := by decide +kernel
theorem dX5_digest_50 : decode cX5_digest 50 = .ok (.iaload, 1) := by decide +kernel
theorem dX5_digest_51 : decode cX5_digest 51 = .ok (.i2l, 1) := by decide +kernel
theorem dX5_digest_52 : decode cX5_digest 52 = .ok (.invokevirtual 170, 3) := by decide +kernel
theorem dX5_digest_55 : decode cX5_digest 55 = .ok (.aload_n 0, 1) := by decide +kernel
theorem dX5_digest_56 : decode cX5_digest 56 = .ok (.aload_n 0, 1) := by decide +kernel
theorem dX5_digest_57 : decode cX5_digest 57 = .ok (.getfield 42, 3) := by decide +kernel
theorem dX5_digest_60 : decode cX5_digest 60 = .ok (.iload_n 1, 1) := by decide +kernel
theorem dX5_digest_61 : decode cX5_digest 61 = .ok (.iaload, 1) := by decide +kernel
theorem dX5_digest_62 : decode cX5_digest 62 = .ok (.i2l, 1) := by decide +kernel
theorem dX5_digest_63 : decode cX5_digest 63 = .ok (.invokevirtual 170, 3) := by decide +kernel
theorem dX5_digest_66 : decode cX5_digest 66 = .ok (.aload_n 0, 1) := by decide +kernel
theorem dX5_digest_67 : decode cX5_digest 67 = .ok (.aload_n 0, 1) := by decide +kernel
theorem dX5_digest_68 : decode cX5_digest 68 = .ok (.getfield 33, 3) := by decide +kernel
theorem dX5_digest_71 : decode cX5_digest 71 = .ok (.iload_n 1, 1) := by decide +kernel
theorem dX5_digest_72 : decode cX5_digest 72 = .ok (.baload, 1) := by decide +kernel
theorem dX5_digest_73 : decode cX5_digest 73 = .ok (.ifCond .eq 7, 3) := by decide +kernel
theorem dX5_digest_76 : decode cX5_digest 76 = .ok (.lconst 1, 1) := by decide +kernel
theorem dX5_digest_77 : decode cX5_digest 77 = .ok (.goto 4, 3) := by decide +kernel
theorem dX5_digest_80 : decode cX5_digest 80 = .ok (.lconst 0, 1) := by decide +kernel
theorem dX5_digest_81 : decode cX5_digest 81 = .ok (.invokevirtual 170, 3) := by decide +kernel
theorem dX5_digest_84 : decode cX5_digest 84 = .ok (.iconst 0, 1) := by decide +kernel
theorem dX5_digest_85 : decode cX5_digest 85 = .ok (.istore_n 2, 1) := by decide +kernel
theorem dX5_digest_86 : decode cX5_digest 86 = .ok (.iload_n 2, 1) := by decide +kernel
theorem dX5_digest_87 : decode cX5_digest 87 = .ok (.aload_n 0, 1) := by decide +kernel
theorem dX5_digest_88 : decode cX5_digest 88 = .ok (.iload_n 1, 1) := by decide +kernel
theorem dX5_digest_89 : decode cX5_digest 89 = .ok (.invokevirtual 84, 3) := by decide +kernel
theorem dX5_digest_92 : decode cX5_digest 92 = .ok (.if_icmp .ge 22, 3) := by decide +kernel
theorem dX5_digest_95 : decode cX5_digest 95 = .ok (.aload_n 0, 1) := by decide +kernel
theorem dX5_digest_96 : decode cX5_digest 96 = .ok (.aload_n 0, 1) := by decide +kernel
theorem dX5_digest_97 : decode cX5_digest 97 = .ok (.getfield 27, 3) := by decide +kernel
theorem dX5_digest_100 : decode cX5_digest 100 = .ok (.iload_n 1, 1) := by decide +kernel
theorem dX5_digest_101 : decode cX5_digest 101 = .ok (.iload_n 2, 1) := by decide +kernel
theorem dX5_digest_102 : decode cX5_digest 102 = .ok (.iadd, 1) := by decide +kernel
theorem dX5_digest_103 : decode cX5_digest 103 = .ok (.iaload, 1) := by decide +kernel
theorem dX5_digest_104 : decode cX5_digest 104 = .ok (.i2l, 1) := by decide +kernel
theorem dX5_digest_105 : decode cX5_digest 105 = .ok (.invokevirtual 170, 3) := by decide +kernel
theorem dX5_digest_108 : decode cX5_digest 108 = .ok (.iinc 2 1, 3) := by decide +kernel
theorem dX5_digest_111 : decode cX5_digest 111 = .ok (.goto (-25), 3) := by decide +kernel
theorem dX5_digest_114 : decode cX5_digest 114 = .ok (.iinc 1 1, 3) := by decide +kernel
theorem dX5_digest_117 : decode cX5_digest 117 = .ok (.goto (-99), 3) := by decide +kernel
theorem dX5_digest_120 : decode cX5_digest 120 = .ok (.iconst 0, 1) := by decide +kernel
theorem dX5_digest_121 : decode cX5_digest 121 = .ok (.istore_n 1, 1) := by decide +kernel
theorem dX5_digest_122 : decode cX5_digest 122 = .ok (.iload_n 1, 1) := by decide +kernel
theorem dX5_digest_123 : decode cX5_digest 123 = .ok (.bipush 10, 2) := by decide +kernel
theorem dX5_digest_125 : decode cX5_digest 125 = .ok (.if_icmp .ge 20, 3) := by decide +kernel
theorem dX5_digest_128 : decode cX5_digest 128 = .ok (.aload_n 0, 1) := by decide +kernel
theorem dX5_digest_129 : decode cX5_digest 129 = .ok (.aload_n 0, 1) := by decide +kernel
theorem dX5_digest_130 : decode cX5_digest 130 = .ok (.getfield 45, 3) := by decide +kernel
theorem dX5_digest_133 : decode cX5_digest 133 = .ok (.iload_n 1, 1) := by decide +kernel
theorem dX5_digest_134 : decode cX5_digest 134 = .ok (.iaload, 1) := by decide +kernel
theorem dX5_digest_135 : decode cX5_digest 135 = .ok (.i2l, 1) := by decide +kernel
theorem dX5_digest_136 : decode cX5_digest 136 = .ok (.invokevirtual 170, 3) := by decide +kernel
theorem dX5_digest_139 : decode cX5_digest 139 = .ok (.iinc 1 1, 3) := by decide +kernel
theorem dX5_digest_142 : decode cX5_digest 142 = .ok (.goto (-20), 3) := by decide +kernel
theorem dX5_digest_145 : decode cX5_digest 145 = .ok (.iconst 0, 1) := by decide +kernel
theorem dX5_digest_146 : decode cX5_digest 146 = .ok (.istore_n 1, 1) := by decide +kernel
theorem dX5_digest_147 : decode cX5_digest 147 = .ok (.iload_n 1, 1) := by decide +kernel
theorem dX5_digest_148 : decode cX5_digest 148 = .ok (.aload_n 0, 1) := by decide +kernel
theorem dX5_digest_149 : decode cX5_digest 149 = .ok (.getfield 69, 3) := by decide +kernel
theorem dX5_digest_152 : decode cX5_digest 152 = .ok (.if_icmp .ge 20, 3) := by decide +kernel
theorem dX5_digest_155 : decode cX5_digest 155 = .ok (.aload_n 0, 1) := by decide +kernel
theorem dX5_digest_156 : decode cX5_digest 156 = .ok (.aload_n 0, 1) := by decide +kernel
theorem dX5_digest_157 : decode cX5_digest 157 = .ok (.getfield 48, 3) := by decide +kernel
theorem dX5_digest_160 : decode cX5_digest 160 = .ok (.iload_n 1, 1) := by decide +kernel
theorem dX5_digest_161 : decode cX5_digest 161 = .ok (.iaload, 1) := by decide +kernel
theorem dX5_digest_162 : decode cX5_digest 162 = .ok (.i2l, 1) := by decide +kernel
theorem dX5_digest_163 : decode cX5_digest 163 = .ok (.invokevirtual 170, 3) := by decide +kernel
theorem dX5_digest_166 : decode cX5_digest 166 = .ok (.iinc 1 1, 3) := by decide +kernel
theorem dX5_digest_169 : decode cX5_digest 169 = .ok (.goto (-22), 3) := by decide +kernel
theorem dX5_digest_172 : decode cX5_digest 172 = .ok (.iconst 0, 1) := by decide +kernel
theorem dX5_digest_173 : decode cX5_digest 173 = .ok (.istore_n 1, 1) := by decide +kernel
theorem dX5_digest_174 : decode cX5_digest 174 = .ok (.iload_n 1, 1) := by decide +kernel
theorem dX5_digest_175 : decode cX5_digest 175 = .ok (.aload_n 0, 1) := by decide +kernel
theorem dX5_digest_176 : decode cX5_digest 176 = .ok (.getfield 7, 3) := by decide +kernel
theorem dX5_digest_179 : decode cX5_digest 179 = .ok (.if_icmp .ge 56, 3) := by decide +kernel
theorem dX5_digest_182 : decode cX5_digest 182 = .ok (.aload_n 0, 1) := by decide +kernel
theorem dX5_digest_183 : decode cX5_digest 183 = .ok (.aload_n 0, 1) := by decide +kernel
theorem dX5_digest_184 : decode cX5_digest 184 = .ok (.getfield 13, 3) := by decide +kernel
theorem dX5_digest_187 : decode cX5_digest 187 = .ok (.iload_n 1, 1) := by decide +kernel
theorem dX5_digest_188 : decode cX5_digest 188 = .ok (.iaload, 1) := by decide +kernel
theorem dX5_digest_189 : decode cX5_digest 189 = .ok (.i2l, 1) := by decide +kernel
theorem dX5_digest_190 : decode cX5_digest 190 = .ok (.invokevirtual 170, 3) := by decide +kernel
theorem dX5_digest_193 : decode cX5_digest 193 = .ok (.aload_n 0, 1) := by decide +kernel
theorem dX5_digest_194 : decode cX5_digest 194 = .ok (.aload_n 0, 1) := by decide +kernel
theorem dX5_digest_195 : decode cX5_digest 195 = .ok (.getfield 20, 3) := by decide +kernel
theorem dX5_digest_198 : decode cX5_digest 198 = .ok (.iload_n 1, 1) := by decide +kernel
theorem dX5_digest_199 : decode cX5_digest 199 = .ok (.baload, 1) := by decide +kernel
theorem dX5_digest_200 : decode cX5_digest 200 = .ok (.ifCond .eq 7, 3) := by decide +kernel
theorem dX5_digest_203 : decode cX5_digest 203 = .ok (.lconst 1, 1) := by decide +kernel
theorem dX5_digest_204 : decode cX5_digest 204 = .ok (.goto 4, 3) := by decide +kernel
theorem dX5_digest_207 : decode cX5_digest 207 = .ok (.lconst 0, 1) := by decide +kernel
theorem dX5_digest_208 : decode cX5_digest 208 = .ok (.invokevirtual 170, 3) := by decide +kernel
theorem dX5_digest_211 : decode cX5_digest 211 = .ok (.aload_n 0, 1) := by decide +kernel
theorem dX5_digest_212 : decode cX5_digest 212 = .ok (.aload_n 0, 1) := by decide +kernel
theorem dX5_digest_213 : decode cX5_digest 213 = .ok (.getfield 24, 3) := by decide +kernel
theorem dX5_digest_216 : decode cX5_digest 216 = .ok (.iload_n 1, 1) := by decide +kernel
theorem dX5_digest_217 : decode cX5_digest 217 = .ok (.baload, 1) := by decide +kernel
theorem dX5_digest_218 : decode cX5_digest 218 = .ok (.ifCond .eq 7, 3) := by decide +kernel
theorem dX5_digest_221 : decode cX5_digest 221 = .ok (.lconst 1, 1) := by decide +kernel
theorem dX5_digest_222 : decode cX5_digest 222 = .ok (.goto 4, 3) := by decide +kernel
theorem dX5_digest_225 : decode cX5_digest 225 = .ok (.lconst 0, 1) := by decide +kernel
theorem dX5_digest_226 : decode cX5_digest 226 = .ok (.invokevirtual 170, 3) := by decide +kernel
theorem dX5_digest_229 : decode cX5_digest 229 = .ok (.iinc 1 1, 3) := by decide +kernel
theorem dX5_digest_232 : decode cX5_digest 232 = .ok (.goto (-58), 3) := by decide +kernel
theorem dX5_digest_235 : decode cX5_digest 235 = .ok (.iconst 0, 1) := by decide +kernel
theorem dX5_digest_236 : decode cX5_digest 236 = .ok (.istore_n 1, 1) := by decide +kernel
theorem dX5_digest_237 : decode cX5_digest 237 = .ok (.iload_n 1, 1) := by decide +kernel
theorem dX5_digest_238 : decode cX5_digest 238 = .ok (.aload_n 0, 1) := by decide +kernel
theorem dX5_digest_239 : decode cX5_digest 239 = .ok (.getfield 72, 3) := by decide +kernel
theorem dX5_digest_242 : decode cX5_digest 242 = .ok (.if_icmp .ge 20, 3) := by decide +kernel
theorem dX5_digest_245 : decode cX5_digest 245 = .ok (.aload_n 0, 1) := by decide +kernel
theorem dX5_digest_246 : decode cX5_digest 246 = .ok (.aload_n 0, 1) := by decide +kernel
theorem dX5_digest_247 : decode cX5_digest 247 = .ok (.getfield 51, 3) := by decide +kernel
theorem dX5_digest_250 : decode cX5_digest 250 = .ok (.iload_n 1, 1) := by decide +kernel
theorem dX5_digest_251 : decode cX5_digest 251 = .ok (.iaload, 1) := by decide +kernel
theorem dX5_digest_252 : decode cX5_digest 252 = .ok (.i2l, 1) := by decide +kernel
theorem dX5_digest_253 : decode cX5_digest 253 = .ok (.invokevirtual 170, 3) := by decide +kernel
theorem dX5_digest_256 : decode cX5_digest 256 = .ok (.iinc 1 1, 3) := by decide +kernel
theorem dX5_digest_259 : decode cX5_digest 259 = .ok (.goto (-22), 3) := by decide +kernel
theorem dX5_digest_262 : decode cX5_digest 262 = .ok (.aload_n 0, 1) := by decide +kernel
theorem dX5_digest_263 : decode cX5_digest 263 = .ok (.aload_n 0, 1) := by decide +kernel
theorem dX5_digest_264 : decode cX5_digest 264 = .ok (.getfield 75, 3) := by decide +kernel
theorem dX5_digest_267 : decode cX5_digest 267 = .ok (.ifCond .eq 7, 3) := by decide +kernel
theorem dX5_digest_270 : decode cX5_digest 270 = .ok (.lconst 1, 1) := by decide +kernel
theorem dX5_digest_271 : decode cX5_digest 271 = .ok (.goto 4, 3) := by decide +kernel
theorem dX5_digest_274 : decode cX5_digest 274 = .ok (.lconst 0, 1) := by decide +kernel
theorem dX5_digest_275 : decode cX5_digest 275 = .ok (.invokevirtual 170, 3) := by decide +kernel
theorem dX5_digest_278 : decode cX5_digest 278 = .ok (.aload_n 0, 1) := by decide +kernel
theorem dX5_digest_279 : decode cX5_digest 279 = .ok (.getfield 164, 3) := by decide +kernel
theorem dX5_digest_282 : decode cX5_digest 282 = .ok (.lreturn, 1) := by decide +kernel
