theorem dX3_init_0 : decode cX3_init 0 = .ok (.aload_n 0, 1) := by decide +kernel
theorem dX3_init_1 : decode cX3_init 1 = .ok (.invokespecial 3, 3) := by decide +kernel
theorem dX3_init_4 : decode cX3_init 4 = .ok (.aload_n 0, 1) := by decide +kernel
theorem dX3_init_5 : decode cX3_init 5 = .ok (.bipush 48, 2) := by decide +kernel
theorem dX3_init_7 : decode cX3_init 7 = .ok (.newarray .int, 2) := by decide +kernel
theorem dX3_init_9 : decode cX3_init 9 = .ok (.putfield 9, 3) := by decide +kernel
theorem dX3_init_12 : decode cX3_init 12 = .ok (.aload_n 0, 1) := by decide +kernel
theorem dX3_init_13 : decode cX3_init 13 = .ok (.bipush 48, 2) := by decide +kernel
theorem dX3_init_15 : decode cX3_init 15 = .ok (.newarray .int, 2) := by decide +kernel
theorem dX3_init_17 : decode cX3_init 17 = .ok (.putfield 13, 3) := by decide +kernel
theorem dX3_init_20 : decode cX3_init 20 = .ok (.aload_n 0, 1) := by decide +kernel
theorem dX3_init_21 : decode cX3_init 21 = .ok (.bipush 12, 2) := by decide +kernel
theorem dX3_init_23 : decode cX3_init 23 = .ok (.newarray .boolean, 2) := by decide +kernel
theorem dX3_init_25 : decode cX3_init 25 = .ok (.putfield 16, 3) := by decide +kernel
theorem dX3_init_28 : decode cX3_init 28 = .ok (.aload_n 0, 1) := by decide +kernel
theorem dX3_init_29 : decode cX3_init 29 = .ok (.new 20, 3) := by decide +kernel
theorem dX3_init_32 : decode cX3_init 32 = .ok (.dup, 1) := by decide +kernel
theorem dX3_init_33 : decode cX3_init 33 = .ok (.invokespecial 22, 3) := by decide +kernel
theorem dX3_init_36 : decode cX3_init 36 = .ok (.putfield 23, 3) := by decide +kernel
theorem dX3_init_39 : decode cX3_init 39 = .ok (.aload_n 0, 1) := by decide +kernel
theorem dX3_init_40 : decode cX3_init 40 = .ok (.new 20, 3) := by decide +kernel
theorem dX3_init_43 : decode cX3_init 43 = .ok (.dup, 1) := by decide +kernel
theorem dX3_init_44 : decode cX3_init 44 = .ok (.invokespecial 22, 3) := by decide +kernel
theorem dX3_init_47 : decode cX3_init 47 = .ok (.putfield 27, 3) := by decide +kernel
theorem dX3_init_50 : decode cX3_init 50 = .ok (.aload_n 0, 1) := by decide +kernel
theorem dX3_init_51 : decode cX3_init 51 = .ok (.iconst 3, 1) := by decide +kernel
theorem dX3_init_52 : decode cX3_init 52 = .ok (.anewarray 30, 3) := by decide +kernel
theorem dX3_init_55 : decode cX3_init 55 = .ok (.putfield 32, 3) := by decide +kernel
theorem dX3_init_58 : decode cX3_init 58 = .ok (.iconst 0, 1) := by decide +kernel
theorem dX3_init_59 : decode cX3_init 59 = .ok (.istore_n 1, 1) := by decide +kernel
theorem dX3_init_60 : decode cX3_init 60 = .ok (.iload_n 1, 1) := by decide +kernel
theorem dX3_init_61 : decode cX3_init 61 = .ok (.iconst 3, 1) := by decide +kernel
theorem dX3_init_62 : decode cX3_init 62 = .ok (.if_icmp .ge 22, 3) := by decide +kernel
theorem dX3_init_65 : decode cX3_init 65 = .ok (.aload_n 0, 1) := by decide +kernel
theorem dX3_init_66 : decode cX3_init 66 = .ok (.getfield 32, 3) := by decide +kernel
theorem dX3_init_69 : decode cX3_init 69 = .ok (.iload_n 1, 1) := by decide +kernel
theorem dX3_init_70 : decode cX3_init 70 = .ok (.new 30, 3) := by decide +kernel
theorem dX3_init_73 : decode cX3_init 73 = .ok (.dup, 1) := by decide +kernel
theorem dX3_init_74 : decode cX3_init 74 = .ok (.invokespecial 36, 3) := by decide +kernel
theorem dX3_init_77 : decode cX3_init 77 = .ok (.aastore, 1) := by decide +kernel
theorem dX3_init_78 : decode cX3_init 78 = .ok (.iinc 1 1, 3) := by decide +kernel
theorem dX3_init_81 : decode cX3_init 81 = .ok (.goto (-21), 3) := by decide +kernel
theorem dX3_init_84 : decode cX3_init 84 = .ok (.aload_n 0, 1) := by decide +kernel
theorem dX3_init_85 : decode cX3_init 85 = .ok (.new 30, 3) := by decide +kernel
theorem dX3_init_88 : decode cX3_init 88 = .ok (.dup, 1) := by decide +kernel
theorem dX3_init_89 : decode cX3_init 89 = .ok (.invokespecial 36, 3) := by decide +kernel
theorem dX3_init_92 : decode cX3_init 92 = .ok (.putfield 37, 3) := by decide +kernel
theorem dX3_init_95 : decode cX3_init 95 = .ok (.aload_n 0, 1) := by decide +kernel
theorem dX3_init_96 : decode cX3_init 96 = .ok (.iconst 1, 1) := by decide +kernel
theorem dX3_init_97 : decode cX3_init 97 = .ok (.iconst 1, 1) := by decide +kernel
theorem dX3_init_98 : decode cX3_init 98 = .ok (.invokevirtual 41, 3) := by decide +kernel
theorem dX3_init_101 : decode cX3_init 101 = .ok (.return_, 1) := by decide +kernel
set_option maxRecDepth 20000 in
theorem ggX3_start_X3_clear : GoodIn wsX3_start wsX3_clear := goodIn_r _ [5, 6, 7, 8, 9, 10, 11, 12, 4, 13, 14, 15, 16, 17, 18, 19, 20, 21, 22, 23, 24, 25, 26, 27, 28, 29, 30, 31, 32, 33, 34, 35, 36, 37, 38, 39] rfl (by decide +kernel)
set_option maxRecDepth 20000 in
theorem gX3_start_X3_clear : GoodIn wsX3_start (wsV RX3 41 RX3 yX3_clear wsX3_clear) := goodIn_app (goodIn_c (List.mem_of_getElem? (i := 1) rfl) rfl (goodIn_c (List.mem_of_getElem? (i := 2) rfl) rfl (goodIn_c (List.mem_of_getElem? (i := 3) rfl) rfl (goodIn_c (List.mem_of_getElem? (i := 4) rfl) rfl (goodIn_nil))))) ggX3_start_X3_clear
theorem dX3_start_0 : decode cX3_start 0 = .ok (.iload_n 1, 1) := by decide +kernel
theorem dX3_start_1 : decode cX3_start 1 = .ok (.iconst 1, 1) := by decide +kernel
theorem dX3_start_2 : decode cX3_start 2 = .ok (.if_icmp .lt 18, 3) := by decide +kernel
theorem dX3_start_5 : decode cX3_start 5 = .ok (.iload_n 1, 1) := by decide +kernel
theorem dX3_start_6 : decode cX3_start 6 = .ok (.iconst 2, 1) := by decide +kernel
theorem dX3_start_7 : decode cX3_start 7 = .ok (.if_icmp .gt 13, 3) := by decide +kernel
theorem dX3_start_10 : decode cX3_start 10 = .ok (.iload_n 2, 1) := by decide +kernel
theorem dX3_start_11 : decode cX3_start 11 = .ok (.iconst 1, 1) := by decide +kernel
theorem dX3_start_12 : decode cX3_start 12 = .ok (.if_icmp .lt 8, 3) := by decide +kernel
theorem dX3_start_15 : decode cX3_start 15 = .ok (.iload_n 2, 1) := by decide +kernel
theorem dX3_start_16 : decode cX3_start 16 = .ok (.iconst 2, 1) := by decide +kernel
theorem dX3_start_17 : decode cX3_start 17 = .ok (.if_icmp .le 5, 3) := by decide +kernel
theorem dX3_start_20 : decode cX3_start 20 = .ok (.iconst 0, 1) := by decide +kernel
theorem dX3_start_21 : decode cX3_start 21 = .ok (.ireturn, 1) := by decide +kernel
theorem dX3_start_22 : decode cX3_start 22 = .ok (.aload_n 0, 1) := by decide +kernel
theorem dX3_start_23 : decode cX3_start 23 = .ok (.iload_n 1, 1) := by decide +kernel
theorem dX3_start_24 : decode cX3_start 24 = .ok (.iload_n 2, 1) := by decide +kernel
theorem dX3_start_25 : decode cX3_start 25 = .ok (.invokevirtual 41, 3) := by decide +kernel
theorem dX3_start_28 : decode cX3_start 28 = .ok (.iconst 1, 1) := by decide +kernel
theorem dX3_start_29 : decode cX3_start 29 = .ok (.ireturn, 1) := by decide +kernel
set_option maxRecDepth 20000 in
theorem ggX3_work_X3_pick : GoodIn wsX3_work wsX3_pick := goodIn_r _ [10] rfl (by decide +kernel)
set_option maxRecDepth 20000 in
theorem gX3_work_X3_pick : GoodIn wsX3_work (va_wsS RX3 55 yX3_pick wsX3_pick) := goodIn_app (goodIn_c (List.mem_of_getElem? (i := 7) rfl) rfl (goodIn_c (List.mem_of_getElem? (i := 8) rfl) rfl (goodIn_c (List.mem_of_getElem? (i := 9) rfl) rfl (goodIn_nil)))) ggX3_work_X3_pick
set_option maxRecDepth 20000 in
theorem ggX3_work_X3_isNumber : GoodIn wsX3_work wsX3_isNumber := goodIn_r _ [13] rfl (by decide +kernel)
set_option maxRecDepth 20000 in
theorem gX3_work_X3_isNumber : GoodIn wsX3_work (va_wsS RX3 59 yX3_isNumber wsX3_isNumber) := goodIn_app (goodIn_c (List.mem_of_getElem? (i := 11) rfl) rfl (goodIn_c (List.mem_of_getElem? (i := 12) rfl) rfl (goodIn_c (List.mem_of_getElem? (i := 9) rfl) rfl (goodIn_nil)))) ggX3_work_X3_isNumber
set_option maxRecDepth 20000 in
theorem ggX3_work_X3_retell : GoodIn wsX3_work wsX3_retell := goodIn_r _ [17, 18, 2, 3, 6, 4, 5, 19, 20, 21, 22, 23, 24, 25, 26, 27, 28, 29, 30, 31, 32, 33, 34, 35, 36, 37, 38, 39, 40, 41] rfl (by decide +kernel)
set_option maxRecDepth 20000 in
theorem gX3_work_X3_retell : GoodIn wsX3_work (wsV RX3 63 RX3 yX3_retell wsX3_retell) := goodIn_app (goodIn_c (List.mem_of_getElem? (i := 14) rfl) rfl (goodIn_c (List.mem_of_getElem? (i := 15) rfl) rfl (goodIn_c (List.mem_of_getElem? (i := 16) rfl) rfl (goodIn_c (List.mem_of_getElem? (i := 9) rfl) rfl (goodIn_nil))))) ggX3_work_X3_retell
theorem dX3_work_0 : decode cX3_work 0 = .ok (.aload_n 0, 1) := by decide +kernel
theorem dX3_work_1 : decode cX3_work 1 = .ok (.getfield 45, 3) := by decide +kernel
theorem dX3_work_4 : decode cX3_work 4 = .ok (.bipush 12, 2) := by decide +kernel
theorem dX3_work_6 : decode cX3_work 6 = .ok (.if_icmp .lt 5, 3) := by decide +kernel
theorem dX3_work_9 : decode cX3_work 9 = .ok (.iconst (-1), 1) := by decide +kernel
theorem dX3_work_10 : decode cX3_work 10 = .ok (.ireturn, 1) := by decide +kernel
theorem dX3_work_11 : decode cX3_work 11 = .ok (.iconst 0, 1) := by decide +kernel
theorem dX3_work_12 : decode cX3_work 12 = .ok (.istore 5, 2) := by decide +kernel
theorem dX3_work_14 : decode cX3_work 14 = .ok (.iconst 0, 1) := by decide +kernel
theorem dX3_work_15 : decode cX3_work 15 = .ok (.istore 6, 2) := by decide +kernel
theorem dX3_work_17 : decode cX3_work 17 = .ok (.iconst 0, 1) := by decide +kernel
theorem dX3_work_18 : decode cX3_work 18 = .ok (.istore 7, 2) := by decide +kernel
theorem dX3_work_20 : decode cX3_work 20 = .ok (.iload 7, 2) := by decide +kernel
theorem dX3_work_22 : decode cX3_work 22 = .ok (.aload_n 0, 1) := by decide +kernel
theorem dX3_work_23 : decode cX3_work 23 = .ok (.getfield 49, 3) := by decide +kernel
theorem dX3_work_26 : decode cX3_work 26 = .ok (.aload_n 0, 1) := by decide +kernel
theorem dX3_work_27 : decode cX3_work 27 = .ok (.getfield 52, 3) := by decide +kernel
theorem dX3_work_30 : decode cX3_work 30 = .ok (.iadd, 1) := by decide +kernel
theorem dX3_work_31 : decode cX3_work 31 = .ok (.if_icmp .ge 57, 3) := by decide +kernel
theorem dX3_work_34 : decode cX3_work 34 = .ok (.iload 7, 2) := by decide +kernel
theorem dX3_work_36 : decode cX3_work 36 = .ok (.iload_n 1, 1) := by decide +kernel
theorem dX3_work_37 : decode cX3_work 37 = .ok (.iload_n 2, 1) := by decide +kernel
theorem dX3_work_38 : decode cX3_work 38 = .ok (.iload_n 3, 1) := by decide +kernel
theorem dX3_work_39 : decode cX3_work 39 = .ok (.iload 4, 2) := by decide +kernel
theorem dX3_work_41 : decode cX3_work 41 = .ok (.invokestatic 55, 3) := by decide +kernel
theorem dX3_work_44 : decode cX3_work 44 = .ok (.istore 8, 2) := by decide +kernel
theorem dX3_work_46 : decode cX3_work 46 = .ok (.iload 8, 2) := by decide +kernel
theorem dX3_work_48 : decode cX3_work 48 = .ok (.invokestatic 59, 3) := by decide +kernel
theorem dX3_work_51 : decode cX3_work 51 = .ok (.ifCond .ne 5, 3) := by decide +kernel
theorem dX3_work_54 : decode cX3_work 54 = .ok (.iconst (-1), 1) := by decide +kernel
theorem dX3_work_55 : decode cX3_work 55 = .ok (.ireturn, 1) := by decide +kernel
theorem dX3_work_56 : decode cX3_work 56 = .ok (.iload 7, 2) := by decide +kernel
theorem dX3_work_58 : decode cX3_work 58 = .ok (.aload_n 0, 1) := by decide +kernel
theorem dX3_work_59 : decode cX3_work 59 = .ok (.getfield 49, 3) := by decide +kernel
theorem dX3_work_62 : decode cX3_work 62 = .ok (.if_icmp .ge 13, 3) := by decide +kernel
theorem dX3_work_65 : decode cX3_work 65 = .ok (.iload 5, 2) := by decide +kernel
theorem dX3_work_67 : decode cX3_work 67 = .ok (.iload 8, 2) := by decide +kernel
theorem dX3_work_69 : decode cX3_work 69 = .ok (.iadd, 1) := by decide +kernel
theorem dX3_work_70 : decode cX3_work 70 = .ok (.istore 5, 2) := by decide +kernel
theorem dX3_work_72 : decode cX3_work 72 = .ok (.goto 10, 3) := by decide +kernel
theorem dX3_work_75 : decode cX3_work 75 = .ok (.iload 6, 2) := by decide +kernel
theorem dX3_work_77 : decode cX3_work 77 = .ok (.iload 8, 2) := by decide +kernel
theorem dX3_work_79 : decode cX3_work 79 = .ok (.iadd, 1) := by decide +kernel
theorem dX3_work_80 : decode cX3_work 80 = .ok (.istore 6, 2) := by decide +kernel
theorem dX3_work_82 : decode cX3_work 82 = .ok (.iinc 7 1, 3) := by decide +kernel
theorem dX3_work_85 : decode cX3_work 85 = .ok (.goto (-65), 3) := by decide +kernel
theorem dX3_work_88 : decode cX3_work 88 = .ok (.iload 5, 2) := by decide +kernel
theorem dX3_work_90 : decode cX3_work 90 = .ok (.ifCond .eq 8, 3) := by decide +kernel
theorem dX3_work_93 : decode cX3_work 93 = .ok (.iload 6, 2) := by decide +kernel
theorem dX3_work_95 : decode cX3_work 95 = .ok (.ifCond .ne 5, 3) := by decide +kernel
theorem dX3_work_98 : decode cX3_work 98 = .ok (.iconst (-1), 1) := by decide +kernel
theorem dX3_work_99 : decode cX3_work 99 = .ok (.ireturn, 1) := by decide +kernel
theorem dX3_work_100 : decode cX3_work 100 = .ok (.iconst 0, 1) := by decide +kernel
theorem dX3_work_101 : decode cX3_work 101 = .ok (.istore 7, 2) := by decide +kernel
theorem dX3_work_103 : decode cX3_work 103 = .ok (.iload 7, 2) := by decide +kernel
theorem dX3_work_105 : decode cX3_work 105 = .ok (.aload_n 0, 1) := by decide +kernel
theorem dX3_work_106 : decode cX3_work 106 = .ok (.getfield 49, 3) := by decide +kernel
theorem dX3_work_109 : decode cX3_work 109 = .ok (.aload_n 0, 1) := by decide +kernel
theorem dX3_work_110 : decode cX3_work 110 = .ok (.getfield 52, 3) := by decide +kernel
theorem dX3_work_113 : decode cX3_work 113 = .ok (.iadd, 1) := by decide +kernel
theorem dX3_work_114 : decode cX3_work 114 = .ok (.if_icmp .ge 51, 3) := by decide +kernel
theorem dX3_work_117 : decode cX3_work 117 = .ok (.aload_n 0, 1) := by decide +kernel
theorem dX3_work_118 : decode cX3_work 118 = .ok (.getfield 45, 3) := by decide +kernel
theorem dX3_work_121 : decode cX3_work 121 = .ok (.iconst 4, 1) := by decide +kernel
theorem dX3_work_122 : decode cX3_work 122 = .ok (.imul, 1) := by decide +kernel
theorem dX3_work_123 : decode cX3_work 123 = .ok (.iload 7, 2) := by decide +kernel
theorem dX3_work_125 : decode cX3_work 125 = .ok (.iadd, 1) := by decide +kernel
theorem dX3_work_126 : decode cX3_work 126 = .ok (.istore 8, 2) := by decide +kernel
theorem dX3_work_128 : decode cX3_work 128 = .ok (.aload_n 0, 1) := by decide +kernel
theorem dX3_work_129 : decode cX3_work 129 = .ok (.getfield 9, 3) := by decide +kernel
theorem dX3_work_132 : decode cX3_work 132 = .ok (.iload 8, 2) := by decide +kernel
theorem dX3_work_134 : decode cX3_work 134 = .ok (.iload 7, 2) := by decide +kernel
theorem dX3_work_136 : decode cX3_work 136 = .ok (.iload_n 1, 1) := by decide +kernel
theorem dX3_work_137 : decode cX3_work 137 = .ok (.iload_n 2, 1) := by decide +kernel
theorem dX3_work_138 : decode cX3_work 138 = .ok (.iload_n 3, 1) := by decide +kernel
theorem dX3_work_139 : decode cX3_work 139 = .ok (.iload 4, 2) := by decide +kernel
theorem dX3_work_141 : decode cX3_work 141 = .ok (.invokestatic 55, 3) := by decide +kernel
theorem dX3_work_144 : decode cX3_work 144 = .ok (.iastore, 1) := by decide +kernel
theorem dX3_work_145 : decode cX3_work 145 = .ok (.aload_n 0, 1) := by decide +kernel
theorem dX3_work_146 : decode cX3_work 146 = .ok (.getfield 13, 3) := by decide +kernel
theorem dX3_work_149 : decode cX3_work 149 = .ok (.iload 8, 2) := by decide +kernel
theorem dX3_work_151 : decode cX3_work 151 = .ok (.aload_n 0, 1) := by decide +kernel
theorem dX3_work_152 : decode cX3_work 152 = .ok (.getfield 9, 3) := by decide +kernel
theorem dX3_work_155 : decode cX3_work 155 = .ok (.iload 8, 2) := by decide +kernel
theorem dX3_work_157 : decode cX3_work 157 = .ok (.iaload, 1) := by decide +kernel
theorem dX3_work_158 : decode cX3_work 158 = .ok (.iastore, 1) := by decide +kernel
theorem dX3_work_159 : decode cX3_work 159 = .ok (.iinc 7 1, 3) := by decide +kernel
theorem dX3_work_162 : decode cX3_work 162 = .ok (.goto (-59), 3) := by decide +kernel
theorem dX3_work_165 : decode cX3_work 165 = .ok (.aload_n 0, 1) := by decide +kernel
theorem dX3_work_166 : decode cX3_work 166 = .ok (.getfield 16, 3) := by decide +kernel
theorem dX3_work_169 : decode cX3_work 169 = .ok (.aload_n 0, 1) := by decide +kernel
theorem dX3_work_170 : decode cX3_work 170 = .ok (.getfield 45, 3) := by decide +kernel
theorem dX3_work_173 : decode cX3_work 173 = .ok (.iconst 1, 1) := by decide +kernel
theorem dX3_work_174 : decode cX3_work 174 = .ok (.bastore, 1) := by decide +kernel
theorem dX3_work_175 : decode cX3_work 175 = .ok (.aload_n 0, 1) := by decide +kernel
theorem dX3_work_176 : decode cX3_work 176 = .ok (.dup, 1) := by decide +kernel
theorem dX3_work_177 : decode cX3_work 177 = .ok (.getfield 45, 3) := by decide +kernel
theorem dX3_work_180 : decode cX3_work 180 = .ok (.iconst 1, 1) := by decide +kernel
theorem dX3_work_181 : decode cX3_work 181 = .ok (.iadd, 1) := by decide +kernel
theorem dX3_work_182 : decode cX3_work 182 = .ok (.putfield 45, 3) := by decide +kernel
theorem dX3_work_185 : decode cX3_work 185 = .ok (.aload_n 0, 1) := by decide +kernel
theorem dX3_work_186 : decode cX3_work 186 = .ok (.invokevirtual 63, 3) := by decide +kernel
theorem dX3_work_189 : decode cX3_work 189 = .ok (.aload_n 0, 1) := by decide +kernel
theorem dX3_work_190 : decode cX3_work 190 = .ok (.getfield 45, 3) := by decide +kernel
theorem dX3_work_193 : decode cX3_work 193 = .ok (.iconst 1, 1) := by decide +kernel
theorem dX3_work_194 : decode cX3_work 194 = .ok (.isub, 1) := by decide +kernel
theorem dX3_work_195 : decode cX3_work 195 = .ok (.ireturn, 1) := by decide +kernel
set_option maxRecDepth 20000 in
theorem ggX3_set_X3_isWork : GoodIn wsX3_set wsX3_isWork := goodIn_r _ [6, 7, 18, 19, 20, 21, 22, 23, 24, 25, 26, 27] rfl (by decide +kernel)
set_option maxRecDepth 20000 in
theorem gX3_set_X3_isWork : GoodIn wsX3_set (wsV RX3 66 RX3 yX3_isWork wsX3_isWork) := goodIn_app (goodIn_c (List.mem_of_getElem? (i := 2) rfl) rfl (goodIn_c (List.mem_of_getElem? (i := 3) rfl) rfl (goodIn_c (List.mem_of_getElem? (i := 4) rfl) rfl (goodIn_c (List.mem_of_getElem? (i := 5) rfl) rfl (goodIn_nil))))) ggX3_set_X3_isWork
set_option maxRecDepth 20000 in
theorem ggX3_set_X3_retell : GoodIn wsX3_set wsX3_retell := goodIn_r _ [11, 12, 13, 14, 1, 15, 16, 17, 18, 19, 20, 21, 22, 23, 24, 25, 26, 27, 28, 29, 30, 31, 32, 33, 34, 35, 36, 37, 38, 39] rfl (by decide +kernel)
set_option maxRecDepth 20000 in
theorem gX3_set_X3_retell : GoodIn wsX3_set (wsV RX3 63 RX3 yX3_retell wsX3_retell) := goodIn_app (goodIn_c (List.mem_of_getElem? (i := 8) rfl) rfl (goodIn_c (List.mem_of_getElem? (i := 9) rfl) rfl (goodIn_c (List.mem_of_getElem? (i := 10) rfl) rfl (goodIn_c (List.mem_of_getElem? (i := 5) rfl) rfl (goodIn_nil))))) ggX3_set_X3_retell
theorem dX3_set_0 : decode cX3_set 0 = .ok (.aload_n 0, 1) := by decide +kernel
theorem dX3_set_1 : decode cX3_set 1 = .ok (.iload_n 1, 1) := by decide +kernel
theorem dX3_set_2 : decode cX3_set 2 = .ok (.invokevirtual 66, 3) := by decide +kernel
theorem dX3_set_5 : decode cX3_set 5 = .ok (.ifCond .eq 13, 3) := by decide +kernel
theorem dX3_set_8 : decode cX3_set 8 = .ok (.aload_n 0, 1) := by decide +kernel
theorem dX3_set_9 : decode cX3_set 9 = .ok (.getfield 16, 3) := by decide +kernel
theorem dX3_set_12 : decode cX3_set 12 = .ok (.iload_n 1, 1) := by decide +kernel
theorem dX3_set_13 : decode cX3_set 13 = .ok (.baload, 1) := by decide +kernel
theorem dX3_set_14 : decode cX3_set 14 = .ok (.iload_n 2, 1) := by decide +kernel
theorem dX3_set_15 : decode cX3_set 15 = .ok (.if_icmp .ne 5, 3) := by decide +kernel
theorem dX3_set_18 : decode cX3_set 18 = .ok (.iconst 0, 1) := by decide +kernel
theorem dX3_set_19 : decode cX3_set 19 = .ok (.ireturn, 1) := by decide +kernel
theorem dX3_set_20 : decode cX3_set 20 = .ok (.aload_n 0, 1) := by decide +kernel
theorem dX3_set_21 : decode cX3_set 21 = .ok (.getfield 16, 3) := by decide +kernel
theorem dX3_set_24 : decode cX3_set 24 = .ok (.iload_n 1, 1) := by decide +kernel
theorem dX3_set_25 : decode cX3_set 25 = .ok (.iload_n 2, 1) := by decide +kernel
theorem dX3_set_26 : decode cX3_set 26 = .ok (.bastore, 1) := by decide +kernel
theorem dX3_set_27 : decode cX3_set 27 = .ok (.aload_n 0, 1) := by decide +kernel
theorem dX3_set_28 : decode cX3_set 28 = .ok (.invokevirtual 63, 3) := by decide +kernel
theorem dX3_set_31 : decode cX3_set 31 = .ok (.iconst 1, 1) := by decide +kernel
theorem dX3_set_32 : decode cX3_set 32 = .ok (.ireturn, 1) := by decide +kernel
set_option maxRecDepth 20000 in
theorem ggX3_missing_X3_isWork : GoodIn wsX3_missing wsX3_isWork := goodIn_r _ [7, 8, 25, 26, 27, 28, 29, 30, 31, 32, 33, 34] rfl (by decide +kernel)
set_option maxRecDepth 20000 in
theorem gX3_missing_X3_isWork : GoodIn wsX3_missing (wsV RX3 66 RX3 yX3_isWork wsX3_isWork) := goodIn_app (goodIn_c (List.mem_of_getElem? (i := 3) rfl) rfl (goodIn_c (List.mem_of_getElem? (i := 4) rfl) rfl (goodIn_c (List.mem_of_getElem? (i := 5) rfl) rfl (goodIn_c (List.mem_of_getElem? (i := 6) rfl) rfl (goodIn_nil))))) ggX3_missing_X3_isWork
set_option maxRecDepth 20000 in
theorem ggX3_missing_X3_isThing : GoodIn wsX3_missing wsX3_isThing := goodIn_r _ [12, 13, 14, 25, 26, 27, 28, 29, 30, 31, 32, 33, 34] rfl (by decide +kernel)
set_option maxRecDepth 20000 in
theorem gX3_missing_X3_isThing : GoodIn wsX3_missing (wsV RX3 69 RX3 yX3_isThing wsX3_isThing) := goodIn_app (goodIn_c (List.mem_of_getElem? (i := 9) rfl) rfl (goodIn_c (List.mem_of_getElem? (i := 10) rfl) rfl (goodIn_c (List.mem_of_getElem? (i := 11) rfl) rfl (goodIn_c (List.mem_of_getElem? (i := 6) rfl) rfl (goodIn_nil))))) ggX3_missing_X3_isThing
set_option maxRecDepth 20000 in
theorem ggX3_missing_X3_isNumber : GoodIn wsX3_missing wsX3_isNumber := goodIn_r _ [17] rfl (by decide +kernel)
set_option maxRecDepth 20000 in
theorem gX3_missing_X3_isNumber : GoodIn wsX3_missing (va_wsS RX3 59 yX3_isNumber wsX3_isNumber) := goodIn_app (goodIn_c (List.mem_of_getElem? (i := 15) rfl) rfl (goodIn_c (List.mem_of_getElem? (i := 16) rfl) rfl (goodIn_c (List.mem_of_getElem? (i := 6) rfl) rfl (goodIn_nil)))) ggX3_missing_X3_isNumber
set_option maxRecDepth 20000 in
theorem ggX3_missing_X3_retell : GoodIn wsX3_missing wsX3_retell := goodIn_r _ [21, 22, 13, 14, 23, 1, 2, 24, 25, 26, 27, 28, 29, 30, 31, 32, 33, 34, 35, 36, 37, 38, 39, 40, 41, 42, 43, 44, 45, 46] rfl (by decide +kernel)
set_option maxRecDepth 20000 in
theorem gX3_missing_X3_retell : GoodIn wsX3_missing (wsV RX3 63 RX3 yX3_retell wsX3_retell) := goodIn_app (goodIn_c (List.mem_of_getElem? (i := 18) rfl) rfl (goodIn_c (List.mem_of_getElem? (i := 19) rfl) rfl (goodIn_c (List.mem_of_getElem? (i := 20) rfl) rfl (goodIn_c (List.mem_of_getElem? (i := 6) rfl) rfl (goodIn_nil))))) ggX3_missing_X3_retell
theorem dX3_missing_0 : decode cX3_missing 0 = .ok (.aload_n 0, 1) := by decide +kernel
theorem dX3_missing_1 : decode cX3_missing 1 = .ok (.iload_n 1, 1) := by decide +kernel
theorem dX3_missing_2 : decode cX3_missing 2 = .ok (.invokevirtual 66, 3) := by decide +kernel
theorem dX3_missing_5 : decode cX3_missing 5 = .ok (.ifCond .eq 32, 3) := by decide +kernel
theorem dX3_missing_8 : decode cX3_missing 8 = .ok (.aload_n 0, 1) := by decide +kernel
theorem dX3_missing_9 : decode cX3_missing 9 = .ok (.iload_n 2, 1) := by decide +kernel
theorem dX3_missing_10 : decode cX3_missing 10 = .ok (.invokevirtual 69, 3) := by decide +kernel
theorem dX3_missing_13 : decode cX3_missing 13 = .ok (.ifCond .eq 24, 3) := by decide +kernel
theorem dX3_missing_16 : decode cX3_missing 16 = .ok (.iload_n 3, 1) := by decide +kernel
theorem dX3_missing_17 : decode cX3_missing 17 = .ok (.invokestatic 59, 3) := by decide +kernel
theorem dX3_missing_20 : decode cX3_missing 20 = .ok (.ifCond .eq 17, 3) := by decide +kernel
theorem dX3_missing_23 : decode cX3_missing 23 = .ok (.iload 4, 2) := by decide +kernel
theorem dX3_missing_25 : decode cX3_missing 25 = .ok (.invokestatic 59, 3) := by decide +kernel
theorem dX3_missing_28 : decode cX3_missing 28 = .ok (.ifCond .eq 9, 3) := by decide +kernel
theorem dX3_missing_31 : decode cX3_missing 31 = .ok (.iload 4, 2) := by decide +kernel
theorem dX3_missing_33 : decode cX3_missing 33 = .ok (.iload_n 3, 1) := by decide +kernel
theorem dX3_missing_34 : decode cX3_missing 34 = .ok (.if_icmp .ge 5, 3) := by decide +kernel
theorem dX3_missing_37 : decode cX3_missing 37 = .ok (.iconst 0, 1) := by decide +kernel
theorem dX3_missing_38 : decode cX3_missing 38 = .ok (.ireturn, 1) := by decide +kernel
theorem dX3_missing_39 : decode cX3_missing 39 = .ok (.aload_n 0, 1) := by decide +kernel
theorem dX3_missing_40 : decode cX3_missing 40 = .ok (.getfield 9, 3) := by decide +kernel
theorem dX3_missing_43 : decode cX3_missing 43 = .ok (.iload_n 1, 1) := by decide +kernel
theorem dX3_missing_44 : decode cX3_missing 44 = .ok (.iconst 4, 1) := by decide +kernel
theorem dX3_missing_45 : decode cX3_missing 45 = .ok (.imul, 1) := by decide +kernel
theorem dX3_missing_46 : decode cX3_missing 46 = .ok (.iload_n 2, 1) := by decide +kernel
theorem dX3_missing_47 : decode cX3_missing 47 = .ok (.iadd, 1) := by decide +kernel
theorem dX3_missing_48 : decode cX3_missing 48 = .ok (.iload_n 3, 1) := by decide +kernel
theorem dX3_missing_49 : decode cX3_missing 49 = .ok (.iastore, 1) := by decide +kernel
theorem dX3_missing_50 : decode cX3_missing 50 = .ok (.aload_n 0, 1) := by decide +kernel
theorem dX3_missing_51 : decode cX3_missing 51 = .ok (.getfield 13, 3) := by decide +kernel
theorem dX3_missing_54 : decode cX3_missing 54 = .ok (.iload_n 1, 1) := by decide +kernel
theorem dX3_missing_55 : decode cX3_missing 55 = .ok (.iconst 4, 1) := by decide +kernel
theorem dX3_missing_56 : decode cX3_missing 56 = .ok (.imul, 1) := by decide +kernel
theorem dX3_missing_57 : decode cX3_missing 57 = .ok (.iload_n 2, 1) := by decide +kernel
theorem dX3_missing_58 : decode cX3_missing 58 = .ok (.iadd, 1) := by decide +kernel
theorem dX3_missing_59 : decode cX3_missing 59 = .ok (.iload 4, 2) := by decide +kernel
theorem dX3_missing_61 : decode cX3_missing 61 = .ok (.iastore, 1) := by decide +kernel
theorem dX3_missing_62 : decode cX3_missing 62 = .ok (.aload_n 0, 1) := by decide +kernel
theorem dX3_missing_63 : decode cX3_missing 63 = .ok (.invokevirtual 63, 3) := by decide +kernel
theorem dX3_missing_66 : decode cX3_missing 66 = .ok (.iconst 1, 1) := by decide +kernel
theorem dX3_missing_67 : decode cX3_missing 67 = .ok (.ireturn, 1) := by decide +kernel
set_option maxRecDepth 20000 in
theorem ggX3_at_X3_isWork : GoodIn wsX3_at wsX3_isWork := goodIn_r _ [7, 8, 15, 16, 17, 18, 19, 20, 21, 22, 23, 24] rfl (by decide +kernel)
set_option maxRecDepth 20000 in
theorem gX3_at_X3_isWork : GoodIn wsX3_at (wsV RX3 66 RX3 yX3_isWork wsX3_isWork) := goodIn_app (goodIn_c (List.mem_of_getElem? (i := 3) rfl) rfl (goodIn_c (List.mem_of_getElem? (i := 4) rfl) rfl (goodIn_c (List.mem_of_getElem? (i := 5) rfl) rfl (goodIn_c (List.mem_of_getElem? (i := 6) rfl) rfl (goodIn_nil))))) ggX3_at_X3_isWork
set_option maxRecDepth 20000 in
theorem ggX3_at_X3_isThing : GoodIn wsX3_at wsX3_isThing := goodIn_r _ [12, 13, 14, 15, 16, 17, 18, 19, 20, 21, 22, 23, 24] rfl (by decide +kernel)
set_option maxRecDepth 20000 in
theorem gX3_at_X3_isThing : GoodIn wsX3_at (wsV RX3 69 RX3 yX3_isThing wsX3_isThing) := goodIn_app (goodIn_c (List.mem_of_getElem? (i := 9) rfl) rfl (goodIn_c (List.mem_of_getElem? (i := 10) rfl) rfl (goodIn_c (List.mem_of_getElem? (i := 11) rfl) rfl (goodIn_c (List.mem_of_getElem? (i := 6) rfl) rfl (goodIn_nil))))) ggX3_at_X3_isThing
theorem dX3_at_0 : decode cX3_at 0 = .ok (.aload_n 0, 1) := by decide +kernel
theorem dX3_at_1 : decode cX3_at 1 = .ok (.iload_n 1, 1) := by decide +kernel
theorem dX3_at_2 : decode cX3_at 2 = .ok (.invokevirtual 66, 3) := by decide +kernel
theorem dX3_at_5 : decode cX3_at 5 = .ok (.ifCond .eq 11, 3) := by decide +kernel
theorem dX3_at_8 : decode cX3_at 8 = .ok (.aload_n 0, 1) := by decide +kernel
theorem dX3_at_9 : decode cX3_at 9 = .ok (.iload_n 2, 1) := by decide +kernel
theorem dX3_at_10 : decode cX3_at 10 = .ok (.invokevirtual 69, 3) := by decide +kernel
theorem dX3_at_13 : decode cX3_at 13 = .ok (.ifCond .ne 5, 3) := by decide +kernel
theorem dX3_at_16 : decode cX3_at 16 = .ok (.iconst (-1), 1) := by decide +kernel
theorem dX3_at_17 : decode cX3_at 17 = .ok (.ireturn, 1) := by decide +kernel
theorem dX3_at_18 : decode cX3_at 18 = .ok (.iload_n 3, 1) := by decide +kernel
theorem dX3_at_19 : decode cX3_at 19 = .ok (.ifCond .ne 14, 3) := by decide +kernel
theorem dX3_at_22 : decode cX3_at 22 = .ok (.aload_n 0, 1) := by decide +kernel
theorem dX3_at_23 : decode cX3_at 23 = .ok (.getfield 9, 3) := by decide +kernel
theorem dX3_at_26 : decode cX3_at 26 = .ok (.iload_n 1, 1) := by decide +kernel
theorem dX3_at_27 : decode cX3_at 27 = .ok (.iconst 4, 1) := by decide +kernel
theorem dX3_at_28 : decode cX3_at 28 = .ok (.imul, 1) := by decide +kernel
theorem dX3_at_29 : decode cX3_at 29 = .ok (.iload_n 2, 1) := by decide +kernel
theorem dX3_at_30 : decode cX3_at 30 = .ok (.iadd, 1) := by decide +kernel
theorem dX3_at_31 : decode cX3_at 31 = .ok (.iaload, 1) := by decide +kernel
theorem dX3_at_32 : decode cX3_at 32 = .ok (.ireturn, 1) := by decide +kernel
theorem dX3_at_33 : decode cX3_at 33 = .ok (.iload_n 3, 1) := by decide +kernel
theorem dX3_at_34 : decode cX3_at 34 = .ok (.iconst 1, 1) := by decide +kernel
theorem dX3_at_35 : decode cX3_at 35 = .ok (.if_icmp .ne 16, 3) := by decide +kernel
theorem dX3_at_38 : decode cX3_at 38 = .ok (.aload_n 0, 1) := by decide +kernel
theorem dX3_at_39 : decode cX3_at 39 = .ok (.getfield 13, 3) := by decide +kernel
theorem dX3_at_42 : decode cX3_at 42 = .ok (.iload_n 1, 1) := by decide +kernel
theorem dX3_at_43 : decode cX3_at 43 = .ok (.iconst 4, 1) := by decide +kernel
theorem dX3_at_44 : decode cX3_at 44 = .ok (.imul, 1) := by decide +kernel
theorem dX3_at_45 : decode cX3_at 45 = .ok (.iload_n 2, 1) := by decide +kernel
theorem dX3_at_46 : decode cX3_at 46 = .ok (.iadd, 1) := by decide +kernel
theorem dX3_at_47 : decode cX3_at 47 = .ok (.iaload, 1) := by decide +kernel
theorem dX3_at_48 : decode cX3_at 48 = .ok (.goto 4, 3) := by decide +kernel
theorem dX3_at_51 : decode cX3_at 51 = .ok (.iconst (-1), 1) := by decide +kernel
theorem dX3_at_52 : decode cX3_at 52 = .ok (.ireturn, 1) := by decide +kernel
set_option maxRecDepth 20000 in
theorem ggX3_share_X3_isView : GoodIn wsX3_share wsX3_isView := goodIn_r _ [5] rfl (by decide +kernel)
set_option maxRecDepth 20000 in
theorem gX3_share_X3_isView : GoodIn wsX3_share (va_wsS RX3 72 yX3_isView wsX3_isView) := goodIn_app (goodIn_c (List.mem_of_getElem? (i := 2) rfl) rfl (goodIn_c (List.mem_of_getElem? (i := 3) rfl) rfl (goodIn_c (List.mem_of_getElem? (i := 4) rfl) rfl (goodIn_nil)))) ggX3_share_X3_isView
set_option maxRecDepth 20000 in
theorem ggX3_share_X3_isHeld : GoodIn wsX3_share wsX3_isHeld := goodIn_r _ [9, 10, 11, 12, 13, 4, 14, 15, 16, 17, 18, 19, 20, 21, 22, 23, 24, 25, 26, 27, 28, 29, 30, 31, 32, 141, 142, 143, 144, 145, 146, 147, 148, 149, 150, 151, 152, 153, 154] rfl (by decide +kernel)
set_option maxRecDepth 20000 in
theorem gX3_share_X3_isHeld : GoodIn wsX3_share (wsV RX3 75 RX3 yX3_isHeld wsX3_isHeld) := goodIn_app (goodIn_c (List.mem_of_getElem? (i := 6) rfl) rfl (goodIn_c (List.mem_of_getElem? (i := 7) rfl) rfl (goodIn_c (List.mem_of_getElem? (i := 8) rfl) rfl (goodIn_c (List.mem_of_getElem? (i := 4) rfl) rfl (goodIn_nil))))) ggX3_share_X3_isHeld
set_option maxRecDepth 20000 in
theorem ggX3_share_X3_toldShare : GoodIn wsX3_share wsX3_toldShare := goodIn_r _ [36, 10, 37, 22, 38, 39, 26, 40, 41, 42, 43, 44, 45, 46, 47, 25, 48, 49, 50, 51, 32, 52, 53, 54, 55, 56, 57, 58, 59, 4, 60, 61, 62, 63, 64, 65, 66, 67, 68, 69, 70, 71, 72, 73, 74, 75, 76, 77, 78, 79, 80, 81, 82, 83, 84, 85, 86, 87, 88, 89, 90, 91, 92, 93, 94, 95, 96, 97, 98, 99, 100, 101, 102, 103, 104, 105, 106, 107, 108, 109, 110, 111, 112, 113, 114, 115, 116, 117, 118, 119, 120, 121, 122, 123, 124, 125, 126, 127, 128, 129, 130, 131, 132, 133, 134, 141, 142, 143, 144, 145, 146, 147, 148, 149, 150, 151, 152, 153, 154, 155, 156, 157, 158, 159, 160, 161, 162, 163, 164] rfl (by decide +kernel)
set_option maxRecDepth 20000 in
theorem gX3_share_X3_toldShare : GoodIn wsX3_share (wsV RX3 80 RX3 yX3_toldShare wsX3_toldShare) := goodIn_app (goodIn_c (List.mem_of_getElem? (i := 33) rfl) rfl (goodIn_c (List.mem_of_getElem? (i := 34) rfl) rfl (goodIn_c (List.mem_of_getElem? (i := 35) rfl) rfl (goodIn_c (List.mem_of_getElem? (i := 4) rfl) rfl (goodIn_nil))))) ggX3_share_X3_toldShare
set_option maxRecDepth 20000 in
theorem ggX3_share_X3_partOf : GoodIn wsX3_share wsX3_partOf := goodIn_r _ [137, 1, 138, 43, 139, 140, 58, 155, 156] rfl (by decide +kernel)
set_option maxRecDepth 20000 in
theorem gX3_share_X3_partOf : GoodIn wsX3_share (va_wsS RX3 84 yX3_partOf wsX3_partOf) := goodIn_app (goodIn_c (List.mem_of_getElem? (i := 135) rfl) rfl (goodIn_c (List.mem_of_getElem? (i := 136) rfl) rfl (goodIn_c (List.mem_of_getElem? (i := 4) rfl) rfl (goodIn_nil)))) ggX3_share_X3_partOf
theorem dX3_share_0 : decode cX3_share 0 = .ok (.iload_n 1, 1) := by decide +kernel
theorem dX3_share_1 : decode cX3_share 1 = .ok (.invokestatic 72, 3) := by decide +kernel
theorem dX3_share_4 : decode cX3_share 4 = .ok (.ifCond .eq 11, 3) := by decide +kernel
theorem dX3_share_7 : decode cX3_share 7 = .ok (.aload_n 0, 1) := by decide +kernel
theorem dX3_share_8 : decode cX3_share 8 = .ok (.iload_n 2, 1) := by decide +kernel
theorem dX3_share_9 : decode cX3_share 9 = .ok (.invokevirtual 75, 3) := by decide +kernel
theorem dX3_share_12 : decode cX3_share 12 = .ok (.ifCond .ne 7, 3) := by decide +kernel
theorem dX3_share_15 : decode cX3_share 15 = .ok (.ldc2_w 78, 3) := by decide +kernel
theorem dX3_share_18 : decode cX3_share 18 = .ok (.lreturn, 1) := by decide +kernel
theorem dX3_share_19 : decode cX3_share 19 = .ok (.aload_n 0, 1) := by decide +kernel
theorem dX3_share_20 : decode cX3_share 20 = .ok (.iload_n 1, 1) := by decide +kernel
theorem dX3_share_21 : decode cX3_share 21 = .ok (.iload_n 2, 1) := by decide +kernel
theorem dX3_share_22 : decode cX3_share 22 = .ok (.invokevirtual 80, 3) := by decide +kernel
theorem dX3_share_25 : decode cX3_share 25 = .ok (.iload_n 3, 1) := by decide +kernel
theorem dX3_share_26 : decode cX3_share 26 = .ok (.invokestatic 84, 3) := by decide +kernel
theorem dX3_share_29 : decode cX3_share 29 = .ok (.lreturn, 1) := by decide +kernel
set_option maxRecDepth 20000 in
theorem ggX3_strong_X3_isView : GoodIn wsX3_strong wsX3_isView := goodIn_r _ [5] rfl (by decide +kernel)
set_option maxRecDepth 20000 in
theorem gX3_strong_X3_isView : GoodIn wsX3_strong (va_wsS RX3 72 yX3_isView wsX3_isView) := goodIn_app (goodIn_c (List.mem_of_getElem? (i := 2) rfl) rfl (goodIn_c (List.mem_of_getElem? (i := 3) rfl) rfl (goodIn_c (List.mem_of_getElem? (i := 4) rfl) rfl (goodIn_nil)))) ggX3_strong_X3_isView
set_option maxRecDepth 20000 in
theorem ggX3_strong_X3_isHeld : GoodIn wsX3_strong wsX3_isHeld := goodIn_r _ [9, 1, 10, 11, 12, 4, 13, 14, 15, 16, 17, 18, 19, 20, 21, 22, 23, 24, 25, 26, 27, 28, 29, 30, 31, 146, 147, 148, 149, 150, 151, 152, 153, 154, 155, 156, 157, 158, 159] rfl (by decide +kernel)
set_option maxRecDepth 20000 in
theorem gX3_strong_X3_isHeld : GoodIn wsX3_strong (wsV RX3 75 RX3 yX3_isHeld wsX3_isHeld) := goodIn_app (goodIn_c (List.mem_of_getElem? (i := 6) rfl) rfl (goodIn_c (List.mem_of_getElem? (i := 7) rfl) rfl (goodIn_c (List.mem_of_getElem? (i := 8) rfl) rfl (goodIn_c (List.mem_of_getElem? (i := 4) rfl) rfl (goodIn_nil))))) ggX3_strong_X3_isHeld
set_option maxRecDepth 20000 in
theorem ggX3_strong_X3_toldShare : GoodIn wsX3_strong wsX3_toldShare := goodIn_r _ [35, 1, 36, 21, 37, 38, 25, 39, 40, 41, 42, 43, 44, 45, 46, 24, 47, 48, 49, 50, 31, 51, 52, 53, 54, 55, 56, 57, 58, 4, 59, 60, 61, 62, 63, 64, 65, 66, 67, 68, 69, 70, 71, 72, 73, 74, 75, 76, 77, 78, 79, 80, 81, 82, 83, 84, 85, 86, 87, 88, 89, 90, 91, 92, 93, 94, 95, 96, 97, 98, 99, 100, 101, 102, 103, 104, 105, 106, 107, 108, 109, 110, 111, 112, 113, 114, 115, 116, 117, 118, 119, 120, 121, 122, 123, 124, 125, 126, 127, 128, 129, 130, 131, 132, 133, 146, 147, 148, 149, 150, 151, 152, 153, 154, 155, 156, 157, 158, 159, 144, 145, 160, 161, 162, 163, 164, 165, 166, 167] rfl (by decide +kernel)
set_option maxRecDepth 20000 in
theorem gX3_strong_X3_toldShare : GoodIn wsX3_strong (wsV RX3 80 RX3 yX3_toldShare wsX3_toldShare) := goodIn_app (goodIn_c (List.mem_of_getElem? (i := 32) rfl) rfl (goodIn_c (List.mem_of_getElem? (i := 33) rfl) rfl (goodIn_c (List.mem_of_getElem? (i := 34) rfl) rfl (goodIn_c (List.mem_of_getElem? (i := 4) rfl) rfl (goodIn_nil))))) ggX3_strong_X3_toldShare
set_option maxRecDepth 20000 in
theorem ggX3_strong_X2_isMatchedByItsLikeAlone : GoodIn wsX3_strong wsX2_isMatchedByItsLikeAlone := goodIn_r _ [136, 39, 47, 48, 49, 21, 50, 25, 31, 43, 44, 45, 46, 24, 156, 157, 158, 159] rfl (by decide +kernel)
set_option maxRecDepth 20000 in
theorem gX3_strong_X2_isMatchedByItsLikeAlone_n97 : GoodIn wsX3_strong (wsX2_isMatchedByItsLikeAlone) := ggX3_strong_X2_isMatchedByItsLikeAlone
set_option maxRecDepth 20000 in
theorem ggX3_strong_X3_coneOf : GoodIn wsX3_strong wsX3_coneOf := goodIn_r _ [63, 64, 1, 65, 66, 67, 68, 69, 70, 71, 72, 73, 74, 75, 76, 77, 78, 21, 79, 80, 39, 44, 45, 46, 24, 81, 82, 83, 84, 85, 86, 87, 88, 89, 90, 91, 92, 93, 94, 95, 96, 97, 98, 99, 100, 101, 102, 103, 104, 105, 106, 107, 108, 109, 110, 111, 112, 113, 58, 4, 59, 114, 115, 116, 117, 118, 119, 120, 121, 122, 123, 124, 125, 126, 127, 128, 129, 146, 147, 148, 149, 150, 151, 152, 153, 154, 155, 160, 161, 162, 163, 164, 165, 166, 167, 156, 157, 158, 159] rfl (by decide +kernel)
set_option maxRecDepth 20000 in
theorem gX3_strong_X3_coneOf : GoodIn wsX3_strong (wsV RX3 100 RX3 yX3_coneOf wsX3_coneOf) := goodIn_app (goodIn_c (List.mem_of_getElem? (i := 60) rfl) rfl (goodIn_c (List.mem_of_getElem? (i := 61) rfl) rfl (goodIn_c (List.mem_of_getElem? (i := 62) rfl) rfl (goodIn_c (List.mem_of_getElem? (i := 4) rfl) rfl (goodIn_nil))))) ggX3_strong_X3_coneOf
set_option maxRecDepth 20000 in
theorem ggX3_strong_X0_weighsAllThings : GoodIn wsX3_strong wsX0_weighsAllThings := goodIn_r _ [139, 76, 85, 70, 140, 141, 142, 66, 143, 95, 96, 97, 98, 77, 69, 44, 21, 45, 46, 24, 91, 92, 93, 94, 160, 161, 162, 163, 164, 165, 166, 167, 144, 145, 156, 157, 158, 159] rfl (by decide +kernel)
set_option maxRecDepth 20000 in
theorem gX3_strong_X0_weighsAllThings_n104 : GoodIn wsX3_strong (wsX0_weighsAllThings) := ggX3_strong_X0_weighsAllThings
theorem dX3_strong_0 : decode cX3_strong 0 = .ok (.iload_n 1, 1) := by decide +kernel
theorem dX3_strong_1 : decode cX3_strong 1 = .ok (.invokestatic 72, 3) := by decide +kernel
theorem dX3_strong_4 : decode cX3_strong 4 = .ok (.ifCond .eq 11, 3) := by decide +kernel
theorem dX3_strong_7 : decode cX3_strong 7 = .ok (.aload_n 0, 1) := by decide +kernel
theorem dX3_strong_8 : decode cX3_strong 8 = .ok (.iload_n 2, 1) := by decide +kernel
theorem dX3_strong_9 : decode cX3_strong 9 = .ok (.invokevirtual 75, 3) := by decide +kernel
theorem dX3_strong_12 : decode cX3_strong 12 = .ok (.ifCond .ne 5, 3) := by decide +kernel
theorem dX3_strong_15 : decode cX3_strong 15 = .ok (.iconst (-1), 1) := by decide +kernel
theorem dX3_strong_16 : decode cX3_strong 16 = .ok (.ireturn, 1) := by decide +kernel
theorem dX3_strong_17 : decode cX3_strong 17 = .ok (.aload_n 0, 1) := by decide +kernel
theorem dX3_strong_18 : decode cX3_strong 18 = .ok (.iload_n 1, 1) := by decide +kernel
theorem dX3_strong_19 : decode cX3_strong 19 = .ok (.iload_n 2, 1) := by decide +kernel
theorem dX3_strong_20 : decode cX3_strong 20 = .ok (.invokevirtual 80, 3) := by decide +kernel
theorem dX3_strong_23 : decode cX3_strong 23 = .ok (.astore_n 3, 1) := by decide +kernel
theorem dX3_strong_24 : decode cX3_strong 24 = .ok (.aload_n 3, 1) := by decide +kernel
theorem dX3_strong_25 : decode cX3_strong 25 = .ok (.getfield 88, 3) := by decide +kernel
theorem dX3_strong_28 : decode cX3_strong 28 = .ok (.aload_n 3, 1) := by decide +kernel
theorem dX3_strong_29 : decode cX3_strong 29 = .ok (.getfield 94, 3) := by decide +kernel
theorem dX3_strong_32 : decode cX3_strong 32 = .ok (.lcmp, 1) := by decide +kernel
theorem dX3_strong_33 : decode cX3_strong 33 = .ok (.ifCond .eq 5, 3) := by decide +kernel
theorem dX3_strong_36 : decode cX3_strong 36 = .ok (.iconst 0, 1) := by decide +kernel
theorem dX3_strong_37 : decode cX3_strong 37 = .ok (.ireturn, 1) := by decide +kernel
theorem dX3_strong_38 : decode cX3_strong 38 = .ok (.iload_n 1, 1) := by decide +kernel
theorem dX3_strong_39 : decode cX3_strong 39 = .ok (.iconst 3, 1) := by decide +kernel
theorem dX3_strong_40 : decode cX3_strong 40 = .ok (.if_icmp .ne 14, 3) := by decide +kernel
theorem dX3_strong_43 : decode cX3_strong 43 = .ok (.aload_n 0, 1) := by decide +kernel
theorem dX3_strong_44 : decode cX3_strong 44 = .ok (.getfield 23, 3) := by decide +kernel
theorem dX3_strong_47 : decode cX3_strong 47 = .ok (.iload_n 2, 1) := by decide +kernel
theorem dX3_strong_48 : decode cX3_strong 48 = .ok (.invokevirtual 97, 3) := by decide +kernel
theorem dX3_strong_51 : decode cX3_strong 51 = .ok (.goto 17, 3) := by decide +kernel
theorem dX3_strong_54 : decode cX3_strong 54 = .ok (.aload_n 0, 1) := by decide +kernel
theorem dX3_strong_55 : decode cX3_strong 55 = .ok (.iload_n 1, 1) := by decide +kernel
theorem dX3_strong_56 : decode cX3_strong 56 = .ok (.invokevirtual 100, 3) := by decide +kernel
theorem dX3_strong_59 : decode cX3_strong 59 = .ok (.aload_n 0, 1) := by decide +kernel
theorem dX3_strong_60 : decode cX3_strong 60 = .ok (.getfield 23, 3) := by decide +kernel
theorem dX3_strong_63 : decode cX3_strong 63 = .ok (.iload_n 2, 1) := by decide +kernel
theorem dX3_strong_64 : decode cX3_strong 64 = .ok (.aload_n 3, 1) := by decide +kernel
theorem dX3_strong_65 : decode cX3_strong 65 = .ok (.invokevirtual 104, 3) := by decide +kernel
theorem dX3_strong_68 : decode cX3_strong 68 = .ok (.istore 4, 2) := by decide +kernel
theorem dX3_strong_70 : decode cX3_strong 70 = .ok (.iload 4, 2) := by decide +kernel
theorem dX3_strong_72 : decode cX3_strong 72 = .ok (.ifCond .eq 7, 3) := by decide +kernel
theorem dX3_strong_75 : decode cX3_strong 75 = .ok (.iconst 1, 1) := by decide +kernel
theorem dX3_strong_76 : decode cX3_strong 76 = .ok (.goto 4, 3) := by decide +kernel
theorem dX3_strong_79 : decode cX3_strong 79 = .ok (.iconst 0, 1) := by decide +kernel
theorem dX3_strong_80 : decode cX3_strong 80 = .ok (.ireturn, 1) := by decide +kernel
set_option maxRecDepth 20000 in
theorem ggX3_peer_X3_isView : GoodIn wsX3_peer wsX3_isView := goodIn_r _ [5] rfl (by decide +kernel)
set_option maxRecDepth 20000 in
theorem gX3_peer_X3_isView : GoodIn wsX3_peer (va_wsS RX3 72 yX3_isView wsX3_isView) := goodIn_app (goodIn_c (List.mem_of_getElem? (i := 2) rfl) rfl (goodIn_c (List.mem_of_getElem? (i := 3) rfl) rfl (goodIn_c (List.mem_of_getElem? (i := 4) rfl) rfl (goodIn_nil)))) ggX3_peer_X3_isView
set_option maxRecDepth 20000 in
theorem ggX3_peer_X3_isHeld : GoodIn wsX3_peer wsX3_isHeld := goodIn_r _ [9, 1, 10, 11, 12, 4, 13, 14, 15, 16, 17, 18, 19, 20, 21, 22, 23, 24, 25, 26, 27, 28, 29, 30, 31, 141, 142, 143, 144, 145, 146, 147, 148, 149, 150, 153, 154, 155, 156] rfl (by decide +kernel)
set_option maxRecDepth 20000 in
theorem gX3_peer_X3_isHeld : GoodIn wsX3_peer (wsV RX3 75 RX3 yX3_isHeld wsX3_isHeld) := goodIn_app (goodIn_c (List.mem_of_getElem? (i := 6) rfl) rfl (goodIn_c (List.mem_of_getElem? (i := 7) rfl) rfl (goodIn_c (List.mem_of_getElem? (i := 8) rfl) rfl (goodIn_c (List.mem_of_getElem? (i := 4) rfl) rfl (goodIn_nil))))) ggX3_peer_X3_isHeld
set_option maxRecDepth 20000 in
theorem ggX3_peer_X3_isThere : GoodIn wsX3_peer wsX3_isThere := goodIn_r _ [13, 14, 15, 16, 17, 4, 18, 19, 141, 142, 143, 144, 145, 146, 147, 148, 149, 150] rfl (by decide +kernel)
set_option maxRecDepth 20000 in
theorem gX3_peer_X3_isThere : GoodIn wsX3_peer (wsV RX3 108 RX3 yX3_isThere wsX3_isThere) := goodIn_app (goodIn_c (List.mem_of_getElem? (i := 10) rfl) rfl (goodIn_c (List.mem_of_getElem? (i := 11) rfl) rfl (goodIn_c (List.mem_of_getElem? (i := 12) rfl) rfl (goodIn_c (List.mem_of_getElem? (i := 4) rfl) rfl (goodIn_nil))))) ggX3_peer_X3_isThere
set_option maxRecDepth 20000 in
theorem ggX3_peer_X3_toldShare : GoodIn wsX3_peer wsX3_toldShare := goodIn_r _ [35, 1, 36, 21, 37, 38, 25, 39, 40, 41, 42, 43, 44, 45, 46, 24, 47, 48, 49, 50, 31, 51, 52, 53, 54, 55, 56, 57, 58, 4, 59, 60, 61, 62, 63, 64, 65, 66, 67, 68, 69, 70, 71, 72, 73, 74, 75, 76, 77, 78, 79, 80, 81, 82, 83, 84, 85, 86, 87, 88, 89, 90, 91, 92, 93, 94, 95, 96, 97, 98, 99, 100, 101, 102, 103, 104, 105, 106, 107, 108, 109, 110, 111, 112, 113, 114, 115, 116, 117, 118, 119, 120, 121, 122, 123, 124, 125, 126, 127, 128, 129, 130, 131, 132, 133, 141, 142, 143, 144, 145, 146, 147, 148, 149, 150, 153, 154, 155, 156, 151, 152, 157, 158, 159, 160, 161, 162, 163, 164] rfl (by decide +kernel)
set_option maxRecDepth 20000 in
theorem gX3_peer_X3_toldShare : GoodIn wsX3_peer (wsV RX3 80 RX3 yX3_toldShare wsX3_toldShare) := goodIn_app (goodIn_c (List.mem_of_getElem? (i := 32) rfl) rfl (goodIn_c (List.mem_of_getElem? (i := 33) rfl) rfl (goodIn_c (List.mem_of_getElem? (i := 34) rfl) rfl (goodIn_c (List.mem_of_getElem? (i := 4) rfl) rfl (goodIn_nil))))) ggX3_peer_X3_toldShare
set_option maxRecDepth 20000 in
theorem ggX3_peer_X2_fits : GoodIn wsX3_peer wsX2_fits := goodIn_r _ [50, 25, 31, 43, 44, 45, 21, 46, 24, 153, 154, 155, 156] rfl (by decide +kernel)
set_option maxRecDepth 20000 in
theorem gX3_peer_X2_fits_n111 : GoodIn wsX3_peer (wsX2_fits) := ggX3_peer_X2_fits
set_option maxRecDepth 20000 in
theorem ggX3_peer_X3_coneOf : GoodIn wsX3_peer wsX3_coneOf := goodIn_r _ [63, 64, 1, 65, 66, 67, 68, 69, 70, 71, 72, 73, 74, 75, 76, 77, 78, 21, 79, 80, 39, 44, 45, 46, 24, 81, 82, 83, 84, 85, 86, 87, 88, 89, 90, 91, 92, 93, 94, 95, 96, 97, 98, 99, 100, 101, 102, 103, 104, 105, 106, 107, 108, 109, 110, 111, 112, 113, 58, 4, 59, 114, 115, 116, 117, 118, 119, 120, 121, 122, 123, 124, 125, 126, 127, 128, 129, 141, 142, 143, 144, 145, 146, 147, 148, 149, 150, 157, 158, 159, 160, 161, 162, 163, 164, 153, 154, 155, 156] rfl (by decide +kernel)
set_option maxRecDepth 20000 in
theorem gX3_peer_X3_coneOf : GoodIn wsX3_peer (wsV RX3 100 RX3 yX3_coneOf wsX3_coneOf) := goodIn_app (goodIn_c (List.mem_of_getElem? (i := 60) rfl) rfl (goodIn_c (List.mem_of_getElem? (i := 61) rfl) rfl (goodIn_c (List.mem_of_getElem? (i := 62) rfl) rfl (goodIn_c (List.mem_of_getElem? (i := 4) rfl) rfl (goodIn_nil))))) ggX3_peer_X3_coneOf
set_option maxRecDepth 20000 in
theorem ggX3_peer_X0_isTightWhereBest : GoodIn wsX3_peer wsX0_isTightWhereBest := goodIn_r _ [136, 76, 85, 137, 138, 139, 66, 140, 95, 96, 97, 98, 77, 70, 69, 44, 21, 45, 46, 24, 91, 92, 93, 94, 157, 158, 159, 160, 161, 162, 163, 164, 151, 152, 153, 154, 155, 156] rfl (by decide +kernel)
set_option maxRecDepth 20000 in
theorem gX3_peer_X0_isTightWhereBest_n115 : GoodIn wsX3_peer (wsX0_isTightWhereBest) := ggX3_peer_X0_isTightWhereBest
theorem dX3_peer_0 : decode cX3_peer 0 = .ok (.iload_n 1, 1) := by decide +kernel
theorem dX3_peer_1 : decode cX3_peer 1 = .ok (.invokestatic 72, 3) := by decide +kernel
theorem dX3_peer_4 : decode cX3_peer 4 = .ok (.ifCond .eq 19, 3) := by decide +kernel
theorem dX3_peer_7 : decode cX3_peer 7 = .ok (.aload_n 0, 1) := by decide +kernel
theorem dX3_peer_8 : decode cX3_peer 8 = .ok (.iload_n 2, 1) := by decide +kernel
theorem dX3_peer_9 : decode cX3_peer 9 = .ok (.invokevirtual 75, 3) := by decide +kernel
theorem dX3_peer_12 : decode cX3_peer 12 = .ok (.ifCond .eq 11, 3) := by decide +kernel
theorem dX3_peer_15 : decode cX3_peer 15 = .ok (.aload_n 0, 1) := by decide +kernel
theorem dX3_peer_16 : decode cX3_peer 16 = .ok (.iload_n 3, 1) := by decide +kernel
theorem dX3_peer_17 : decode cX3_peer 17 = .ok (.invokevirtual 108, 3) := by decide +kernel
theorem dX3_peer_20 : decode cX3_peer 20 = .ok (.ifCond .ne 5, 3) := by decide +kernel
theorem dX3_peer_23 : decode cX3_peer 23 = .ok (.iconst (-1), 1) := by decide +kernel
theorem dX3_peer_24 : decode cX3_peer 24 = .ok (.ireturn, 1) := by decide +kernel
theorem dX3_peer_25 : decode cX3_peer 25 = .ok (.aload_n 0, 1) := by decide +kernel
theorem dX3_peer_26 : decode cX3_peer 26 = .ok (.iload_n 1, 1) := by decide +kernel
theorem dX3_peer_27 : decode cX3_peer 27 = .ok (.iload_n 2, 1) := by decide +kernel
theorem dX3_peer_28 : decode cX3_peer 28 = .ok (.invokevirtual 80, 3) := by decide +kernel
theorem dX3_peer_31 : decode cX3_peer 31 = .ok (.astore 4, 2) := by decide +kernel
theorem dX3_peer_33 : decode cX3_peer 33 = .ok (.iload_n 1, 1) := by decide +kernel
theorem dX3_peer_34 : decode cX3_peer 34 = .ok (.iconst 3, 1) := by decide +kernel
theorem dX3_peer_35 : decode cX3_peer 35 = .ok (.if_icmp .ne 25, 3) := by decide +kernel
theorem dX3_peer_38 : decode cX3_peer 38 = .ok (.aload_n 0, 1) := by decide +kernel
theorem dX3_peer_39 : decode cX3_peer 39 = .ok (.getfield 23, 3) := by decide +kernel
theorem dX3_peer_42 : decode cX3_peer 42 = .ok (.iload_n 3, 1) := by decide +kernel
theorem dX3_peer_43 : decode cX3_peer 43 = .ok (.iload_n 2, 1) := by decide +kernel
theorem dX3_peer_44 : decode cX3_peer 44 = .ok (.aload 4, 2) := by decide +kernel
theorem dX3_peer_46 : decode cX3_peer 46 = .ok (.getfield 88, 3) := by decide +kernel
theorem dX3_peer_49 : decode cX3_peer 49 = .ok (.aload 4, 2) := by decide +kernel
theorem dX3_peer_51 : decode cX3_peer 51 = .ok (.getfield 94, 3) := by decide +kernel
theorem dX3_peer_54 : decode cX3_peer 54 = .ok (.invokevirtual 111, 3) := by decide +kernel
theorem dX3_peer_57 : decode cX3_peer 57 = .ok (.goto 19, 3) := by decide +kernel
theorem dX3_peer_60 : decode cX3_peer 60 = .ok (.aload_n 0, 1) := by decide +kernel
theorem dX3_peer_61 : decode cX3_peer 61 = .ok (.iload_n 1, 1) := by decide +kernel
theorem dX3_peer_62 : decode cX3_peer 62 = .ok (.invokevirtual 100, 3) := by decide +kernel
theorem dX3_peer_65 : decode cX3_peer 65 = .ok (.aload_n 0, 1) := by decide +kernel
theorem dX3_peer_66 : decode cX3_peer 66 = .ok (.getfield 23, 3) := by decide +kernel
theorem dX3_peer_69 : decode cX3_peer 69 = .ok (.iload_n 2, 1) := by decide +kernel
theorem dX3_peer_70 : decode cX3_peer 70 = .ok (.aload 4, 2) := by decide +kernel
theorem dX3_peer_72 : decode cX3_peer 72 = .ok (.iload_n 3, 1) := by decide +kernel
theorem dX3_peer_73 : decode cX3_peer 73 = .ok (.invokevirtual 115, 3) := by decide +kernel
theorem dX3_peer_76 : decode cX3_peer 76 = .ok (.istore 5, 2) := by decide +kernel
theorem dX3_peer_78 : decode cX3_peer 78 = .ok (.iload 5, 2) := by decide +kernel
theorem dX3_peer_80 : decode cX3_peer 80 = .ok (.ifCond .eq 7, 3) := by decide +kernel
theorem dX3_peer_83 : decode cX3_peer 83 = .ok (.iconst 1, 1) := by decide +kernel
theorem dX3_peer_84 : decode cX3_peer 84 = .ok (.goto 4, 3) := by decide +kernel
theorem dX3_peer_87 : decode cX3_peer 87 = .ok (.iconst 0, 1) := by decide +kernel
theorem dX3_peer_88 : decode cX3_peer 88 = .ok (.ireturn, 1) := by decide +kernel
set_option maxRecDepth 20000 in
theorem ggX3_size_X3_isHeld : GoodIn wsX3_size wsX3_isHeld := goodIn_r _ [5, 6, 7, 8, 9, 4, 10, 11, 12, 13, 14, 15, 16, 17, 18, 19, 20, 21, 22, 23, 24, 25, 26, 27, 28, 134, 135, 136, 137, 138, 139, 140, 141, 142, 143, 144, 145, 146, 147] rfl (by decide +kernel)
set_option maxRecDepth 20000 in
theorem gX3_size_X3_isHeld : GoodIn wsX3_size (wsV RX3 75 RX3 yX3_isHeld wsX3_isHeld) := goodIn_app (goodIn_c (List.mem_of_getElem? (i := 1) rfl) rfl (goodIn_c (List.mem_of_getElem? (i := 2) rfl) rfl (goodIn_c (List.mem_of_getElem? (i := 3) rfl) rfl (goodIn_c (List.mem_of_getElem? (i := 4) rfl) rfl (goodIn_nil))))) ggX3_size_X3_isHeld
set_option maxRecDepth 20000 in
theorem ggX3_size_X3_toldShare : GoodIn wsX3_size wsX3_toldShare := goodIn_r _ [32, 6, 33, 18, 34, 35, 22, 36, 37, 38, 39, 40, 41, 42, 43, 21, 44, 45, 46, 47, 28, 48, 49, 50, 51, 52, 53, 54, 55, 4, 56, 57, 58, 59, 60, 61, 62, 63, 64, 65, 66, 67, 68, 69, 70, 71, 72, 73, 74, 75, 76, 77, 78, 79, 80, 81, 82, 83, 84, 85, 86, 87, 88, 89, 90, 91, 92, 93, 94, 95, 96, 97, 98, 99, 100, 101, 102, 103, 104, 105, 106, 107, 108, 109, 110, 111, 112, 113, 114, 115, 116, 117, 118, 119, 120, 121, 122, 123, 124, 125, 126, 127, 128, 129, 130, 134, 135, 136, 137, 138, 139, 140, 141, 142, 143, 144, 145, 146, 147, 148, 149, 150, 151, 152, 153, 154, 155, 156, 157] rfl (by decide +kernel)
set_option maxRecDepth 20000 in
theorem gX3_size_X3_toldShare : GoodIn wsX3_size (wsV RX3 80 RX3 yX3_toldShare wsX3_toldShare) := goodIn_app (goodIn_c (List.mem_of_getElem? (i := 29) rfl) rfl (goodIn_c (List.mem_of_getElem? (i := 30) rfl) rfl (goodIn_c (List.mem_of_getElem? (i := 31) rfl) rfl (goodIn_c (List.mem_of_getElem? (i := 4) rfl) rfl (goodIn_nil))))) ggX3_size_X3_toldShare
set_option maxRecDepth 20000 in
theorem ggX3_size_X1_isLike : GoodIn wsX3_size wsX1_isLike := goodIn_r _ [133, 53, 54, 148, 149] rfl (by decide +kernel)
set_option maxRecDepth 20000 in
theorem gX3_size_X1_isLike_n119 : GoodIn wsX3_size (wsX1_isLike) := ggX3_size_X1_isLike
theorem dX3_size_0 : decode cX3_size 0 = .ok (.aload_n 0, 1) := by decide +kernel
theorem dX3_size_1 : decode cX3_size 1 = .ok (.iload_n 1, 1) := by decide +kernel
theorem dX3_size_2 : decode cX3_size 2 = .ok (.invokevirtual 75, 3) := by decide +kernel
theorem dX3_size_5 : decode cX3_size 5 = .ok (.ifCond .ne 5, 3) := by decide +kernel
theorem dX3_size_8 : decode cX3_size 8 = .ok (.iconst 2, 1) := by decide +kernel
theorem dX3_size_9 : decode cX3_size 9 = .ok (.ireturn, 1) := by decide +kernel
theorem dX3_size_10 : decode cX3_size 10 = .ok (.aload_n 0, 1) := by decide +kernel
theorem dX3_size_11 : decode cX3_size 11 = .ok (.iconst 0, 1) := by decide +kernel
theorem dX3_size_12 : decode cX3_size 12 = .ok (.iload_n 1, 1) := by decide +kernel
theorem dX3_size_13 : decode cX3_size 13 = .ok (.invokevirtual 80, 3) := by decide +kernel
theorem dX3_size_16 : decode cX3_size 16 = .ok (.astore_n 2, 1) := by decide +kernel
theorem dX3_size_17 : decode cX3_size 17 = .ok (.aload_n 2, 1) := by decide +kernel
theorem dX3_size_18 : decode cX3_size 18 = .ok (.aload_n 0, 1) := by decide +kernel
theorem dX3_size_19 : decode cX3_size 19 = .ok (.iconst 2, 1) := by decide +kernel
theorem dX3_size_20 : decode cX3_size 20 = .ok (.iload_n 1, 1) := by decide +kernel
theorem dX3_size_21 : decode cX3_size 21 = .ok (.invokevirtual 80, 3) := by decide +kernel
theorem dX3_size_24 : decode cX3_size 24 = .ok (.invokevirtual 119, 3) := by decide +kernel
theorem dX3_size_27 : decode cX3_size 27 = .ok (.ifCond .eq 5, 3) := by decide +kernel
theorem dX3_size_30 : decode cX3_size 30 = .ok (.iconst 0, 1) := by decide +kernel
theorem dX3_size_31 : decode cX3_size 31 = .ok (.ireturn, 1) := by decide +kernel
theorem dX3_size_32 : decode cX3_size 32 = .ok (.aload_n 2, 1) := by decide +kernel
theorem dX3_size_33 : decode cX3_size 33 = .ok (.aload_n 0, 1) := by decide +kernel
theorem dX3_size_34 : decode cX3_size 34 = .ok (.iconst 1, 1) := by decide +kernel
theorem dX3_size_35 : decode cX3_size 35 = .ok (.iload_n 1, 1) := by decide +kernel
theorem dX3_size_36 : decode cX3_size 36 = .ok (.invokevirtual 80, 3) := by decide +kernel
theorem dX3_size_39 : decode cX3_size 39 = .ok (.invokevirtual 119, 3) := by decide +kernel
theorem dX3_size_42 : decode cX3_size 42 = .ok (.ifCond .eq 7, 3) := by decide +kernel
theorem dX3_size_45 : decode cX3_size 45 = .ok (.iconst 1, 1) := by decide +kernel
theorem dX3_size_46 : decode cX3_size 46 = .ok (.goto 4, 3) := by decide +kernel
theorem dX3_size_49 : decode cX3_size 49 = .ok (.iconst (-1), 1) := by decide +kernel
theorem dX3_size_50 : decode cX3_size 50 = .ok (.ireturn, 1) := by decide +kernel
set_option maxRecDepth 20000 in
theorem ggX3_above_X3_isView : GoodIn wsX3_above wsX3_isView := goodIn_r _ [7] rfl (by decide +kernel)
set_option maxRecDepth 20000 in
theorem gX3_above_X3_isView : GoodIn wsX3_above (va_wsS RX3 72 yX3_isView wsX3_isView) := goodIn_app (goodIn_c (List.mem_of_getElem? (i := 4) rfl) rfl (goodIn_c (List.mem_of_getElem? (i := 5) rfl) rfl (goodIn_c (List.mem_of_getElem? (i := 6) rfl) rfl (goodIn_nil)))) ggX3_above_X3_isView
set_option maxRecDepth 20000 in
theorem ggX3_above_X3_isHeld : GoodIn wsX3_above wsX3_isHeld := goodIn_r _ [11, 3, 12, 13, 14, 6, 15, 16, 17, 18, 19, 20, 21, 22, 23, 24, 25, 26, 27, 28, 29, 30, 31, 32, 33, 146, 147, 148, 149, 150, 151, 152, 153, 154, 155, 156, 157, 158, 159] rfl (by decide +kernel)
set_option maxRecDepth 20000 in
theorem gX3_above_X3_isHeld : GoodIn wsX3_above (wsV RX3 75 RX3 yX3_isHeld wsX3_isHeld) := goodIn_app (goodIn_c (List.mem_of_getElem? (i := 8) rfl) rfl (goodIn_c (List.mem_of_getElem? (i := 9) rfl) rfl (goodIn_c (List.mem_of_getElem? (i := 10) rfl) rfl (goodIn_c (List.mem_of_getElem? (i := 6) rfl) rfl (goodIn_nil))))) ggX3_above_X3_isHeld
set_option maxRecDepth 20000 in
theorem ggX3_above_X2_copy : GoodIn wsX3_above wsX2_copy := goodIn_r _ [36, 27, 33, 26, 37, 38, 39, 40, 41, 156, 157, 158, 159] rfl (by decide +kernel)
set_option maxRecDepth 20000 in
theorem gX3_above_X2_copy_n123 : GoodIn wsX3_above (wsX2_copy) := ggX3_above_X2_copy
set_option maxRecDepth 20000 in
theorem ggX3_above_X3_askedShare : GoodIn wsX3_above wsX3_askedShare := goodIn_r _ [45, 2, 46, 47, 48, 49, 50, 23, 51, 52, 27, 41, 53, 54, 55, 56, 57, 26, 58, 59, 60, 61, 33, 62, 63, 64, 65, 66, 67, 68, 69, 6, 70, 71, 72, 73, 74, 75, 76, 77, 78, 79, 80, 81, 82, 83, 84, 85, 86, 87, 88, 89, 90, 91, 92, 93, 94, 95, 96, 97, 98, 99, 100, 101, 102, 103, 104, 105, 106, 107, 108, 109, 110, 111, 112, 113, 114, 115, 116, 117, 118, 119, 120, 121, 122, 123, 124, 125, 126, 127, 128, 129, 130, 131, 132, 133, 134, 135, 136, 137, 138, 139, 146, 147, 148, 149, 150, 151, 152, 153, 154, 155, 160, 161, 156, 157, 158, 159, 162, 163, 164, 165, 166, 167, 168, 169] rfl (by decide +kernel)
set_option maxRecDepth 20000 in
theorem gX3_above_X3_askedShare : GoodIn wsX3_above (wsV RX3 130 RX3 yX3_askedShare wsX3_askedShare) := goodIn_app (goodIn_c (List.mem_of_getElem? (i := 42) rfl) rfl (goodIn_c (List.mem_of_getElem? (i := 43) rfl) rfl (goodIn_c (List.mem_of_getElem? (i := 44) rfl) rfl (goodIn_c (List.mem_of_getElem? (i := 6) rfl) rfl (goodIn_nil))))) ggX3_above_X3_askedShare
set_option maxRecDepth 20000 in
theorem ggX3_above_X3_partOf : GoodIn wsX3_above wsX3_partOf := goodIn_r _ [142, 1, 143, 48, 144, 145, 68, 160, 161] rfl (by decide +kernel)
set_option maxRecDepth 20000 in
theorem gX3_above_X3_partOf : GoodIn wsX3_above (va_wsS RX3 84 yX3_partOf wsX3_partOf) := goodIn_app (goodIn_c (List.mem_of_getElem? (i := 140) rfl) rfl (goodIn_c (List.mem_of_getElem? (i := 141) rfl) rfl (goodIn_c (List.mem_of_getElem? (i := 6) rfl) rfl (goodIn_nil)))) ggX3_above_X3_partOf
theorem dX3_above_0 : decode cX3_above 0 = .ok (.iload_n 1, 1) := by decide +kernel
theorem dX3_above_1 : decode cX3_above 1 = .ok (.invokestatic 72, 3) := by decide +kernel
theorem dX3_above_4 : decode cX3_above 4 = .ok (.ifCond .eq 11, 3) := by decide +kernel
theorem dX3_above_7 : decode cX3_above 7 = .ok (.aload_n 0, 1) := by decide +kernel
theorem dX3_above_8 : decode cX3_above 8 = .ok (.iload_n 2, 1) := by decide +kernel
theorem dX3_above_9 : decode cX3_above 9 = .ok (.invokevirtual 75, 3) := by decide +kernel
theorem dX3_above_12 : decode cX3_above 12 = .ok (.ifCond .ne 7, 3) := by decide +kernel
theorem dX3_above_15 : decode cX3_above 15 = .ok (.ldc2_w 78, 3) := by decide +kernel
theorem dX3_above_18 : decode cX3_above 18 = .ok (.lreturn, 1) := by decide +kernel
theorem dX3_above_19 : decode cX3_above 19 = .ok (.aload_n 0, 1) := by decide +kernel
theorem dX3_above_20 : decode cX3_above 20 = .ok (.getfield 27, 3) := by decide +kernel
theorem dX3_above_23 : decode cX3_above 23 = .ok (.aload_n 0, 1) := by decide +kernel
theorem dX3_above_24 : decode cX3_above 24 = .ok (.getfield 23, 3) := by decide +kernel
theorem dX3_above_27 : decode cX3_above 27 = .ok (.invokevirtual 123, 3) := by decide +kernel
theorem dX3_above_30 : decode cX3_above 30 = .ok (.aload_n 0, 1) := by decide +kernel
theorem dX3_above_31 : decode cX3_above 31 = .ok (.getfield 27, 3) := by decide +kernel
theorem dX3_above_34 : decode cX3_above 34 = .ok (.getfield 127, 3) := by decide +kernel
theorem dX3_above_37 : decode cX3_above 37 = .ok (.iload_n 2, 1) := by decide +kernel
theorem dX3_above_38 : decode cX3_above 38 = .ok (.iconst 0, 1) := by decide +kernel
theorem dX3_above_39 : decode cX3_above 39 = .ok (.bastore, 1) := by decide +kernel
theorem dX3_above_40 : decode cX3_above 40 = .ok (.aload_n 0, 1) := by decide +kernel
theorem dX3_above_41 : decode cX3_above 41 = .ok (.iload_n 1, 1) := by decide +kernel
theorem dX3_above_42 : decode cX3_above 42 = .ok (.iload_n 2, 1) := by decide +kernel
theorem dX3_above_43 : decode cX3_above 43 = .ok (.invokevirtual 130, 3) := by decide +kernel
theorem dX3_above_46 : decode cX3_above 46 = .ok (.iload_n 3, 1) := by decide +kernel
theorem dX3_above_47 : decode cX3_above 47 = .ok (.invokestatic 84, 3) := by decide +kernel
theorem dX3_above_50 : decode cX3_above 50 = .ok (.lreturn, 1) := by decide +kernel
set_option maxRecDepth 20000 in
theorem ggX3_cost_X3_isView : GoodIn wsX3_cost wsX3_isView := goodIn_r _ [8] rfl (by decide +kernel)
set_option maxRecDepth 20000 in
theorem gX3_cost_X3_isView : GoodIn wsX3_cost (va_wsS RX3 72 yX3_isView wsX3_isView) := goodIn_app (goodIn_c (List.mem_of_getElem? (i := 5) rfl) rfl (goodIn_c (List.mem_of_getElem? (i := 6) rfl) rfl (goodIn_c (List.mem_of_getElem? (i := 7) rfl) rfl (goodIn_nil)))) ggX3_cost_X3_isView
set_option maxRecDepth 20000 in
theorem ggX3_cost_X3_isHeld : GoodIn wsX3_cost wsX3_isHeld := goodIn_r _ [12, 4, 13, 14, 15, 7, 16, 17, 18, 19, 20, 21, 22, 23, 24, 25, 26, 27, 28, 29, 30, 31, 32, 33, 34, 153, 154, 155, 156, 157, 158, 159, 160, 161, 162, 163, 164, 165, 166] rfl (by decide +kernel)
set_option maxRecDepth 20000 in
theorem gX3_cost_X3_isHeld : GoodIn wsX3_cost (wsV RX3 75 RX3 yX3_isHeld wsX3_isHeld) := goodIn_app (goodIn_c (List.mem_of_getElem? (i := 9) rfl) rfl (goodIn_c (List.mem_of_getElem? (i := 10) rfl) rfl (goodIn_c (List.mem_of_getElem? (i := 11) rfl) rfl (goodIn_c (List.mem_of_getElem? (i := 7) rfl) rfl (goodIn_nil))))) ggX3_cost_X3_isHeld
set_option maxRecDepth 20000 in
theorem ggX3_cost_X3_isNumber : GoodIn wsX3_cost wsX3_isNumber := goodIn_r _ [37] rfl (by decide +kernel)
set_option maxRecDepth 20000 in
theorem gX3_cost_X3_isNumber : GoodIn wsX3_cost (va_wsS RX3 59 yX3_isNumber wsX3_isNumber) := goodIn_app (goodIn_c (List.mem_of_getElem? (i := 35) rfl) rfl (goodIn_c (List.mem_of_getElem? (i := 36) rfl) rfl (goodIn_c (List.mem_of_getElem? (i := 7) rfl) rfl (goodIn_nil)))) ggX3_cost_X3_isNumber
set_option maxRecDepth 20000 in
theorem ggX3_cost_X2_copy : GoodIn wsX3_cost wsX2_copy := goodIn_r _ [40, 28, 34, 27, 41, 42, 43, 44, 45, 163, 164, 165, 166] rfl (by decide +kernel)
set_option maxRecDepth 20000 in
theorem gX3_cost_X2_copy_n123 : GoodIn wsX3_cost (wsX2_copy) := ggX3_cost_X2_copy
set_option maxRecDepth 20000 in
theorem ggX3_cost_X2_priceIns : GoodIn wsX3_cost wsX2_priceIns := goodIn_r _ [48, 28, 34, 27, 49, 50, 51, 24, 52, 163, 164, 165, 166] rfl (by decide +kernel)
set_option maxRecDepth 20000 in
theorem gX3_cost_X2_priceIns_n133 : GoodIn wsX3_cost (wsX2_priceIns) := ggX3_cost_X2_priceIns
set_option maxRecDepth 20000 in
theorem ggX3_cost_X2_takes : GoodIn wsX3_cost wsX2_takes := goodIn_r _ [26, 27, 28, 29, 7, 30, 163, 164, 165, 166] rfl (by decide +kernel)
set_option maxRecDepth 20000 in
theorem gX3_cost_X2_takes_n136 : GoodIn wsX3_cost (wsX2_takes) := ggX3_cost_X2_takes
set_option maxRecDepth 20000 in
theorem ggX3_cost_X3_askedShare : GoodIn wsX3_cost wsX3_askedShare := goodIn_r _ [56, 3, 57, 58, 59, 60, 61, 24, 62, 63, 28, 45, 64, 49, 50, 51, 52, 27, 65, 66, 67, 68, 34, 69, 70, 71, 72, 73, 74, 75, 76, 7, 77, 78, 79, 80, 81, 82, 83, 84, 85, 86, 87, 88, 89, 90, 91, 92, 93, 94, 95, 96, 97, 98, 99, 100, 101, 102, 103, 104, 105, 106, 107, 108, 109, 110, 111, 112, 113, 114, 115, 116, 117, 118, 119, 120, 121, 122, 123, 124, 125, 126, 127, 128, 129, 130, 131, 132, 133, 134, 135, 136, 137, 138, 139, 140, 141, 142, 143, 144, 145, 146, 153, 154, 155, 156, 157, 158, 159, 160, 161, 162, 167, 168, 163, 164, 165, 166, 169, 170, 171, 172, 173, 174, 175, 176] rfl (by decide +kernel)
set_option maxRecDepth 20000 in
theorem gX3_cost_X3_askedShare : GoodIn wsX3_cost (wsV RX3 130 RX3 yX3_askedShare wsX3_askedShare) := goodIn_app (goodIn_c (List.mem_of_getElem? (i := 53) rfl) rfl (goodIn_c (List.mem_of_getElem? (i := 54) rfl) rfl (goodIn_c (List.mem_of_getElem? (i := 55) rfl) rfl (goodIn_c (List.mem_of_getElem? (i := 7) rfl) rfl (goodIn_nil))))) ggX3_cost_X3_askedShare
set_option maxRecDepth 20000 in
theorem ggX3_cost_X3_partOf : GoodIn wsX3_cost wsX3_partOf := goodIn_r _ [149, 1, 150, 59, 151, 152, 75, 167, 168] rfl (by decide +kernel)
set_option maxRecDepth 20000 in
theorem gX3_cost_X3_partOf : GoodIn wsX3_cost (va_wsS RX3 84 yX3_partOf wsX3_partOf) := goodIn_app (goodIn_c (List.mem_of_getElem? (i := 147) rfl) rfl (goodIn_c (List.mem_of_getElem? (i := 148) rfl) rfl (goodIn_c (List.mem_of_getElem? (i := 7) rfl) rfl (goodIn_nil)))) ggX3_cost_X3_partOf
theorem dX3_cost_0 : decode cX3_cost 0 = .ok (.iload_n 1, 1) := by decide +kernel
theorem dX3_cost_1 : decode cX3_cost 1 = .ok (.invokestatic 72, 3) := by decide +kernel
theorem dX3_cost_4 : decode cX3_cost 4 = .ok (.ifCond .eq 11, 3) := by decide +kernel
theorem dX3_cost_7 : decode cX3_cost 7 = .ok (.aload_n 0, 1) := by decide +kernel
theorem dX3_cost_8 : decode cX3_cost 8 = .ok (.iload_n 2, 1) := by decide +kernel
theorem dX3_cost_9 : decode cX3_cost 9 = .ok (.invokevirtual 75, 3) := by decide +kernel
theorem dX3_cost_12 : decode cX3_cost 12 = .ok (.ifCond .ne 7, 3) := by decide +kernel
theorem dX3_cost_15 : decode cX3_cost 15 = .ok (.ldc2_w 78, 3) := by decide +kernel
theorem dX3_cost_18 : decode cX3_cost 18 = .ok (.lreturn, 1) := by decide +kernel
theorem dX3_cost_19 : decode cX3_cost 19 = .ok (.aload_n 0, 1) := by decide +kernel
theorem dX3_cost_20 : decode cX3_cost 20 = .ok (.getfield 49, 3) := by decide +kernel
theorem dX3_cost_23 : decode cX3_cost 23 = .ok (.iconst 1, 1) := by decide +kernel
theorem dX3_cost_24 : decode cX3_cost 24 = .ok (.if_icmp .ne 7, 3) := by decide +kernel
theorem dX3_cost_27 : decode cX3_cost 27 = .ok (.iconst 0, 1) := by decide +kernel
theorem dX3_cost_28 : decode cX3_cost 28 = .ok (.goto 5, 3) := by decide +kernel
theorem dX3_cost_31 : decode cX3_cost 31 = .ok (.iload 4, 2) := by decide +kernel
theorem dX3_cost_33 : decode cX3_cost 33 = .ok (.istore 6, 2) := by decide +kernel
theorem dX3_cost_35 : decode cX3_cost 35 = .ok (.iload_n 3, 1) := by decide +kernel
theorem dX3_cost_36 : decode cX3_cost 36 = .ok (.invokestatic 59, 3) := by decide +kernel
theorem dX3_cost_39 : decode cX3_cost 39 = .ok (.ifCond .eq 11, 3) := by decide +kernel
theorem dX3_cost_42 : decode cX3_cost 42 = .ok (.iload 6, 2) := by decide +kernel
theorem dX3_cost_44 : decode cX3_cost 44 = .ok (.invokestatic 59, 3) := by decide +kernel
theorem dX3_cost_47 : decode cX3_cost 47 = .ok (.ifCond .ne 7, 3) := by decide +kernel
theorem dX3_cost_50 : decode cX3_cost 50 = .ok (.ldc2_w 78, 3) := by decide +kernel
theorem dX3_cost_53 : decode cX3_cost 53 = .ok (.lreturn, 1) := by decide +kernel
theorem dX3_cost_54 : decode cX3_cost 54 = .ok (.aload_n 0, 1) := by decide +kernel
theorem dX3_cost_55 : decode cX3_cost 55 = .ok (.getfield 27, 3) := by decide +kernel
theorem dX3_cost_58 : decode cX3_cost 58 = .ok (.aload_n 0, 1) := by decide +kernel
theorem dX3_cost_59 : decode cX3_cost 59 = .ok (.getfield 23, 3) := by decide +kernel
theorem dX3_cost_62 : decode cX3_cost 62 = .ok (.invokevirtual 123, 3) := by decide +kernel
theorem dX3_cost_65 : decode cX3_cost 65 = .ok (.aload_n 0, 1) := by decide +kernel
theorem dX3_cost_66 : decode cX3_cost 66 = .ok (.getfield 27, 3) := by decide +kernel
theorem dX3_cost_69 : decode cX3_cost 69 = .ok (.iload_n 3, 1) := by decide +kernel
theorem dX3_cost_70 : decode cX3_cost 70 = .ok (.iload 6, 2) := by decide +kernel
theorem dX3_cost_72 : decode cX3_cost 72 = .ok (.invokevirtual 133, 3) := by decide +kernel
theorem dX3_cost_75 : decode cX3_cost 75 = .ok (.aload_n 0, 1) := by decide +kernel
theorem dX3_cost_76 : decode cX3_cost 76 = .ok (.getfield 27, 3) := by decide +kernel
theorem dX3_cost_79 : decode cX3_cost 79 = .ok (.iload_n 2, 1) := by decide +kernel
theorem dX3_cost_80 : decode cX3_cost 80 = .ok (.invokevirtual 136, 3) := by decide +kernel
theorem dX3_cost_83 : decode cX3_cost 83 = .ok (.ifCond .ne 7, 3) := by decide +kernel
theorem dX3_cost_86 : decode cX3_cost 86 = .ok (.ldc2_w 78, 3) := by decide +kernel
theorem dX3_cost_89 : decode cX3_cost 89 = .ok (.lreturn, 1) := by decide +kernel
theorem dX3_cost_90 : decode cX3_cost 90 = .ok (.aload_n 0, 1) := by decide +kernel
theorem dX3_cost_91 : decode cX3_cost 91 = .ok (.iload_n 1, 1) := by decide +kernel
theorem dX3_cost_92 : decode cX3_cost 92 = .ok (.iload_n 2, 1) := by decide +kernel
theorem dX3_cost_93 : decode cX3_cost 93 = .ok (.invokevirtual 130, 3) := by decide +kernel
theorem dX3_cost_96 : decode cX3_cost 96 = .ok (.iload 5, 2) := by decide +kernel
theorem dX3_cost_98 : decode cX3_cost 98 = .ok (.invokestatic 84, 3) := by decide +kernel
theorem dX3_cost_101 : decode cX3_cost 101 = .ok (.lreturn, 1) := by decide +kernel
set_option maxRecDepth 20000 in
theorem ggX3_span_X3_isView : GoodIn wsX3_span wsX3_isView := goodIn_r _ [12] rfl (by decide +kernel)
set_option maxRecDepth 20000 in
theorem gX3_span_X3_isView : GoodIn wsX3_span (va_wsS RX3 72 yX3_isView wsX3_isView) := goodIn_app (goodIn_c (List.mem_of_getElem? (i := 9) rfl) rfl (goodIn_c (List.mem_of_getElem? (i := 10) rfl) rfl (goodIn_c (List.mem_of_getElem? (i := 11) rfl) rfl (goodIn_nil)))) ggX3_span_X3_isView
set_option maxRecDepth 20000 in
theorem ggX3_span_X3_isHeld : GoodIn wsX3_span wsX3_isHeld := goodIn_r _ [16, 3, 17, 18, 19, 11, 20, 21, 22, 23, 24, 25, 4, 26, 27, 28, 29, 30, 31, 32, 33, 34, 35, 36, 37, 159, 160, 161, 162, 163, 164, 165, 166, 167, 168, 169, 170, 171, 172] rfl (by decide +kernel)
set_option maxRecDepth 20000 in
theorem gX3_span_X3_isHeld : GoodIn wsX3_span (wsV RX3 75 RX3 yX3_isHeld wsX3_isHeld) := goodIn_app (goodIn_c (List.mem_of_getElem? (i := 13) rfl) rfl (goodIn_c (List.mem_of_getElem? (i := 14) rfl) rfl (goodIn_c (List.mem_of_getElem? (i := 15) rfl) rfl (goodIn_c (List.mem_of_getElem? (i := 11) rfl) rfl (goodIn_nil))))) ggX3_span_X3_isHeld
set_option maxRecDepth 20000 in
theorem ggX3_span_X3_missingThere : GoodIn wsX3_span wsX3_missingThere := goodIn_r _ [41, 4, 5, 6, 21, 7, 8, 159, 160, 161, 162, 163, 164, 165, 166, 167, 168] rfl (by decide +kernel)
set_option maxRecDepth 20000 in
theorem gX3_span_X3_missingThere : GoodIn wsX3_span (wsV RX3 139 RX3 yX3_missingThere wsX3_missingThere) := goodIn_app (goodIn_c (List.mem_of_getElem? (i := 38) rfl) rfl (goodIn_c (List.mem_of_getElem? (i := 39) rfl) rfl (goodIn_c (List.mem_of_getElem? (i := 40) rfl) rfl (goodIn_c (List.mem_of_getElem? (i := 11) rfl) rfl (goodIn_nil))))) ggX3_span_X3_missingThere
set_option maxRecDepth 20000 in
theorem ggX3_span_X3_someMayBeBare : GoodIn wsX3_span wsX3_someMayBeBare := goodIn_r _ [45, 4, 21, 7, 5, 6, 46, 32, 11, 33, 159, 160, 161, 162, 163, 164, 165, 166, 167, 168] rfl (by decide +kernel)
set_option maxRecDepth 20000 in
theorem gX3_span_X3_someMayBeBare : GoodIn wsX3_span (wsV RX3 143 RX3 yX3_someMayBeBare wsX3_someMayBeBare) := goodIn_app (goodIn_c (List.mem_of_getElem? (i := 42) rfl) rfl (goodIn_c (List.mem_of_getElem? (i := 43) rfl) rfl (goodIn_c (List.mem_of_getElem? (i := 44) rfl) rfl (goodIn_c (List.mem_of_getElem? (i := 11) rfl) rfl (goodIn_nil))))) ggX3_span_X3_someMayBeBare
set_option maxRecDepth 20000 in
theorem ggX3_span_X2_copy : GoodIn wsX3_span wsX2_copy := goodIn_r _ [49, 31, 37, 30, 50, 51, 52, 53, 54, 169, 170, 171, 172] rfl (by decide +kernel)
set_option maxRecDepth 20000 in
theorem gX3_span_X2_copy_n123 : GoodIn wsX3_span (wsX2_copy) := ggX3_span_X2_copy
set_option maxRecDepth 20000 in
theorem ggX3_span_X3_askedShare : GoodIn wsX3_span wsX3_askedShare := goodIn_r _ [58, 2, 59, 60, 61, 62, 63, 27, 64, 65, 31, 54, 66, 67, 68, 69, 70, 30, 71, 72, 73, 74, 37, 75, 76, 77, 78, 79, 80, 81, 82, 11, 83, 84, 85, 86, 87, 88, 89, 90, 91, 92, 93, 94, 95, 96, 97, 98, 99, 100, 101, 102, 103, 104, 105, 106, 107, 108, 109, 110, 111, 112, 113, 114, 115, 116, 117, 118, 119, 120, 121, 122, 123, 124, 125, 126, 127, 128, 129, 130, 131, 132, 133, 134, 135, 136, 137, 138, 139, 140, 141, 142, 143, 144, 145, 146, 147, 148, 149, 150, 151, 152, 159, 160, 161, 162, 163, 164, 165, 166, 167, 168, 173, 174, 169, 170, 171, 172, 175, 176, 177, 178, 179, 180, 181, 182] rfl (by decide +kernel)
set_option maxRecDepth 20000 in
theorem gX3_span_X3_askedShare : GoodIn wsX3_span (wsV RX3 130 RX3 yX3_askedShare wsX3_askedShare) := goodIn_app (goodIn_c (List.mem_of_getElem? (i := 55) rfl) rfl (goodIn_c (List.mem_of_getElem? (i := 56) rfl) rfl (goodIn_c (List.mem_of_getElem? (i := 57) rfl) rfl (goodIn_c (List.mem_of_getElem? (i := 11) rfl) rfl (goodIn_nil))))) ggX3_span_X3_askedShare
set_option maxRecDepth 20000 in
theorem ggX3_span_X3_partOf : GoodIn wsX3_span wsX3_partOf := goodIn_r _ [155, 1, 156, 61, 157, 158, 81, 173, 174] rfl (by decide +kernel)
set_option maxRecDepth 20000 in
theorem gX3_span_X3_partOf : GoodIn wsX3_span (va_wsS RX3 84 yX3_partOf wsX3_partOf) := goodIn_app (goodIn_c (List.mem_of_getElem? (i := 153) rfl) rfl (goodIn_c (List.mem_of_getElem? (i := 154) rfl) rfl (goodIn_c (List.mem_of_getElem? (i := 11) rfl) rfl (goodIn_nil)))) ggX3_span_X3_partOf
theorem dX3_span_0 : decode cX3_span 0 = .ok (.iload_n 1, 1) := by decide +kernel
theorem dX3_span_1 : decode cX3_span 1 = .ok (.invokestatic 72, 3) := by decide +kernel
theorem dX3_span_4 : decode cX3_span 4 = .ok (.ifCond .eq 26, 3) := by decide +kernel
theorem dX3_span_7 : decode cX3_span 7 = .ok (.aload_n 0, 1) := by decide +kernel
theorem dX3_span_8 : decode cX3_span 8 = .ok (.iload_n 2, 1) := by decide +kernel
theorem dX3_span_9 : decode cX3_span 9 = .ok (.invokevirtual 75, 3) := by decide +kernel
theorem dX3_span_12 : decode cX3_span 12 = .ok (.ifCond .eq 18, 3) := by decide +kernel
theorem dX3_span_15 : decode cX3_span 15 = .ok (.aload_n 0, 1) := by decide +kernel
theorem dX3_span_16 : decode cX3_span 16 = .ok (.invokevirtual 139, 3) := by decide +kernel
theorem dX3_span_19 : decode cX3_span 19 = .ok (.iconst 4, 1) := by decide +kernel
theorem dX3_span_20 : decode cX3_span 20 = .ok (.if_icmp .gt 10, 3) := by decide +kernel
theorem dX3_span_23 : decode cX3_span 23 = .ok (.aload_n 0, 1) := by decide +kernel
theorem dX3_span_24 : decode cX3_span 24 = .ok (.invokevirtual 143, 3) := by decide +kernel
theorem dX3_span_27 : decode cX3_span 27 = .ok (.ifCond .eq 7, 3) := by decide +kernel
theorem dX3_span_30 : decode cX3_span 30 = .ok (.ldc2_w 78, 3) := by decide +kernel
theorem dX3_span_33 : decode cX3_span 33 = .ok (.lreturn, 1) := by decide +kernel
theorem dX3_span_34 : decode cX3_span 34 = .ok (.aload_n 0, 1) := by decide +kernel
theorem dX3_span_35 : decode cX3_span 35 = .ok (.getfield 27, 3) := by decide +kernel
theorem dX3_span_38 : decode cX3_span 38 = .ok (.aload_n 0, 1) := by decide +kernel
theorem dX3_span_39 : decode cX3_span 39 = .ok (.getfield 23, 3) := by decide +kernel
theorem dX3_span_42 : decode cX3_span 42 = .ok (.invokevirtual 123, 3) := by decide +kernel
theorem dX3_span_45 : decode cX3_span 45 = .ok (.iconst 0, 1) := by decide +kernel
theorem dX3_span_46 : decode cX3_span 46 = .ok (.istore 5, 2) := by decide +kernel
theorem dX3_span_48 : decode cX3_span 48 = .ok (.iload 5, 2) := by decide +kernel
theorem dX3_span_50 : decode cX3_span 50 = .ok (.aload_n 0, 1) := by decide +kernel
theorem dX3_span_51 : decode cX3_span 51 = .ok (.getfield 45, 3) := by decide +kernel
theorem dX3_span_54 : decode cX3_span 54 = .ok (.if_icmp .ge 109, 3) := by decide +kernel
theorem dX3_span_57 : decode cX3_span 57 = .ok (.iload 5, 2) := by decide +kernel
theorem dX3_span_59 : decode cX3_span 59 = .ok (.iload_n 2, 1) := by decide +kernel
theorem dX3_span_60 : decode cX3_span 60 = .ok (.if_icmp .ne 7, 3) := by decide +kernel
theorem dX3_span_63 : decode cX3_span 63 = .ok (.iconst 1, 1) := by decide +kernel
theorem dX3_span_64 : decode cX3_span 64 = .ok (.goto 4, 3) := by decide +kernel
theorem dX3_span_67 : decode cX3_span 67 = .ok (.iconst 0, 1) := by decide +kernel
theorem dX3_span_68 : decode cX3_span 68 = .ok (.iload_n 3, 1) := by decide +kernel
theorem dX3_span_69 : decode cX3_span 69 = .ok (.if_icmp .ne 7, 3) := by decide +kernel
theorem dX3_span_72 : decode cX3_span 72 = .ok (.iconst 1, 1) := by decide +kernel
theorem dX3_span_73 : decode cX3_span 73 = .ok (.goto 4, 3) := by decide +kernel
theorem dX3_span_76 : decode cX3_span 76 = .ok (.iconst 0, 1) := by decide +kernel
theorem dX3_span_77 : decode cX3_span 77 = .ok (.istore 6, 2) := by decide +kernel
theorem dX3_span_79 : decode cX3_span 79 = .ok (.iconst 0, 1) := by decide +kernel
theorem dX3_span_80 : decode cX3_span 80 = .ok (.istore 7, 2) := by decide +kernel
theorem dX3_span_82 : decode cX3_span 82 = .ok (.iload 7, 2) := by decide +kernel
theorem dX3_span_84 : decode cX3_span 84 = .ok (.aload_n 0, 1) := by decide +kernel
theorem dX3_span_85 : decode cX3_span 85 = .ok (.getfield 49, 3) := by decide +kernel
theorem dX3_span_88 : decode cX3_span 88 = .ok (.aload_n 0, 1) := by decide +kernel
theorem dX3_span_89 : decode cX3_span 89 = .ok (.getfield 52, 3) := by decide +kernel
theorem dX3_span_92 : decode cX3_span 92 = .ok (.iadd, 1) := by decide +kernel
theorem dX3_span_93 : decode cX3_span 93 = .ok (.if_icmp .ge 64, 3) := by decide +kernel
theorem dX3_span_96 : decode cX3_span 96 = .ok (.iload 5, 2) := by decide +kernel
theorem dX3_span_98 : decode cX3_span 98 = .ok (.iconst 4, 1) := by decide +kernel
theorem dX3_span_99 : decode cX3_span 99 = .ok (.imul, 1) := by decide +kernel
theorem dX3_span_100 : decode cX3_span 100 = .ok (.iload 7, 2) := by decide +kernel
theorem dX3_span_102 : decode cX3_span 102 = .ok (.iadd, 1) := by decide +kernel
theorem dX3_span_103 : decode cX3_span 103 = .ok (.istore 8, 2) := by decide +kernel
theorem dX3_span_105 : decode cX3_span 105 = .ok (.aload_n 0, 1) := by decide +kernel
theorem dX3_span_106 : decode cX3_span 106 = .ok (.getfield 27, 3) := by decide +kernel
theorem dX3_span_109 : decode cX3_span 109 = .ok (.getfield 147, 3) := by decide +kernel
theorem dX3_span_112 : decode cX3_span 112 = .ok (.iload 8, 2) := by decide +kernel
theorem dX3_span_114 : decode cX3_span 114 = .ok (.iload 7, 2) := by decide +kernel
theorem dX3_span_116 : decode cX3_span 116 = .ok (.aload_n 0, 1) := by decide +kernel
theorem dX3_span_117 : decode cX3_span 117 = .ok (.getfield 49, 3) := by decide +kernel
theorem dX3_span_120 : decode cX3_span 120 = .ok (.if_icmp .ge 7, 3) := by decide +kernel
theorem dX3_span_123 : decode cX3_span 123 = .ok (.iconst 1, 1) := by decide +kernel
theorem dX3_span_124 : decode cX3_span 124 = .ok (.goto 4, 3) := by decide +kernel
theorem dX3_span_127 : decode cX3_span 127 = .ok (.iconst 0, 1) := by decide +kernel
theorem dX3_span_128 : decode cX3_span 128 = .ok (.iload 6, 2) := by decide +kernel
theorem dX3_span_130 : decode cX3_span 130 = .ok (.if_icmp .ne 13, 3) := by decide +kernel
theorem dX3_span_133 : decode cX3_span 133 = .ok (.aload_n 0, 1) := by decide +kernel
theorem dX3_span_134 : decode cX3_span 134 = .ok (.getfield 9, 3) := by decide +kernel
theorem dX3_span_137 : decode cX3_span 137 = .ok (.iload 8, 2) := by decide +kernel
theorem dX3_span_139 : decode cX3_span 139 = .ok (.iaload, 1) := by decide +kernel
theorem dX3_span_140 : decode cX3_span 140 = .ok (.goto 10, 3) := by decide +kernel
theorem dX3_span_143 : decode cX3_span 143 = .ok (.aload_n 0, 1) := by decide +kernel
theorem dX3_span_144 : decode cX3_span 144 = .ok (.getfield 13, 3) := by decide +kernel
theorem dX3_span_147 : decode cX3_span 147 = .ok (.iload 8, 2) := by decide +kernel
theorem dX3_span_149 : decode cX3_span 149 = .ok (.iaload, 1) := by decide +kernel
theorem dX3_span_150 : decode cX3_span 150 = .ok (.iastore, 1) := by decide +kernel
theorem dX3_span_151 : decode cX3_span 151 = .ok (.iinc 7 1, 3) := by decide +kernel
theorem dX3_span_154 : decode cX3_span 154 = .ok (.goto (-72), 3) := by decide +kernel
theorem dX3_span_157 : decode cX3_span 157 = .ok (.iinc 5 1, 3) := by decide +kernel
theorem dX3_span_160 : decode cX3_span 160 = .ok (.goto (-112), 3) := by decide +kernel
theorem dX3_span_163 : decode cX3_span 163 = .ok (.aload_n 0, 1) := by decide +kernel
theorem dX3_span_164 : decode cX3_span 164 = .ok (.iload_n 1, 1) := by decide +kernel
theorem dX3_span_165 : decode cX3_span 165 = .ok (.iload_n 2, 1) := by decide +kernel
theorem dX3_span_166 : decode cX3_span 166 = .ok (.invokevirtual 130, 3) := by decide +kernel
theorem dX3_span_169 : decode cX3_span 169 = .ok (.iload 4, 2) := by decide +kernel
theorem dX3_span_171 : decode cX3_span 171 = .ok (.invokestatic 84, 3) := by decide +kernel
theorem dX3_span_174 : decode cX3_span 174 = .ok (.lreturn, 1) := by decide +kernel
set_option maxRecDepth 20000 in
theorem ggX3_sides_X3_hasSides : GoodIn wsX3_sides wsX3_hasSides := goodIn_r _ [5, 6, 7, 4, 8, 9, 10, 11, 12, 13, 14, 102, 103, 104, 105, 106, 107, 108, 109, 110, 111] rfl (by decide +kernel)
set_option maxRecDepth 20000 in
theorem gX3_sides_X3_hasSides : GoodIn wsX3_sides (wsV RX3 150 RX3 yX3_hasSides wsX3_hasSides) := goodIn_app (goodIn_c (List.mem_of_getElem? (i := 1) rfl) rfl (goodIn_c (List.mem_of_getElem? (i := 2) rfl) rfl (goodIn_c (List.mem_of_getElem? (i := 3) rfl) rfl (goodIn_c (List.mem_of_getElem? (i := 4) rfl) rfl (goodIn_nil))))) ggX3_sides_X3_hasSides
set_option maxRecDepth 20000 in
theorem ggX3_sides_X3_coneOf : GoodIn wsX3_sides wsX3_coneOf := goodIn_r _ [18, 19, 20, 21, 22, 23, 24, 25, 26, 27, 28, 29, 30, 31, 32, 33, 34, 35, 36, 37, 38, 39, 40, 41, 42, 43, 44, 45, 46, 47, 48, 49, 50, 51, 52, 53, 54, 55, 56, 57, 58, 59, 60, 61, 62, 63, 64, 65, 66, 67, 68, 69, 70, 71, 72, 73, 74, 75, 76, 4, 77, 78, 79, 80, 81, 82, 83, 84, 85, 86, 87, 88, 89, 90, 91, 92, 93, 102, 103, 104, 105, 106, 107, 108, 109, 110, 111, 94, 95, 96, 97, 98, 99, 100, 101, 112, 113, 114, 115] rfl (by decide +kernel)
set_option maxRecDepth 20000 in
theorem gX3_sides_X3_coneOf : GoodIn wsX3_sides (wsV RX3 100 RX3 yX3_coneOf wsX3_coneOf) := goodIn_app (goodIn_c (List.mem_of_getElem? (i := 15) rfl) rfl (goodIn_c (List.mem_of_getElem? (i := 16) rfl) rfl (goodIn_c (List.mem_of_getElem? (i := 17) rfl) rfl (goodIn_c (List.mem_of_getElem? (i := 4) rfl) rfl (goodIn_nil))))) ggX3_sides_X3_coneOf
theorem dX3_sides_0 : decode cX3_sides 0 = .ok (.aload_n 0, 1) := by decide +kernel
theorem dX3_sides_1 : decode cX3_sides 1 = .ok (.iload_n 1, 1) := by decide +kernel
theorem dX3_sides_2 : decode cX3_sides 2 = .ok (.invokevirtual 150, 3) := by decide +kernel
theorem dX3_sides_5 : decode cX3_sides 5 = .ok (.ifCond .eq 14, 3) := by decide +kernel
theorem dX3_sides_8 : decode cX3_sides 8 = .ok (.aload_n 0, 1) := by decide +kernel
theorem dX3_sides_9 : decode cX3_sides 9 = .ok (.iload_n 1, 1) := by decide +kernel
theorem dX3_sides_10 : decode cX3_sides 10 = .ok (.invokevirtual 100, 3) := by decide +kernel
theorem dX3_sides_13 : decode cX3_sides 13 = .ok (.getfield 153, 3) := by decide +kernel
theorem dX3_sides_16 : decode cX3_sides 16 = .ok (.goto 4, 3) := by decide +kernel
theorem dX3_sides_19 : decode cX3_sides 19 = .ok (.iconst (-1), 1) := by decide +kernel
theorem dX3_sides_20 : decode cX3_sides 20 = .ok (.ireturn, 1) := by decide +kernel
set_option maxRecDepth 20000 in
theorem ggX3_side_X3_hasSides : GoodIn wsX3_side wsX3_hasSides := goodIn_r _ [7, 8, 9, 6, 10, 11, 12, 13, 14, 15, 16, 104, 105, 106, 107, 108, 109, 110, 111, 112, 113] rfl (by decide +kernel)
set_option maxRecDepth 20000 in
theorem gX3_side_X3_hasSides : GoodIn wsX3_side (wsV RX3 150 RX3 yX3_hasSides wsX3_hasSides) := goodIn_app (goodIn_c (List.mem_of_getElem? (i := 3) rfl) rfl (goodIn_c (List.mem_of_getElem? (i := 4) rfl) rfl (goodIn_c (List.mem_of_getElem? (i := 5) rfl) rfl (goodIn_c (List.mem_of_getElem? (i := 6) rfl) rfl (goodIn_nil))))) ggX3_side_X3_hasSides
set_option maxRecDepth 20000 in
theorem ggX3_side_X3_coneOf : GoodIn wsX3_side wsX3_coneOf := goodIn_r _ [20, 21, 22, 23, 24, 25, 26, 27, 28, 29, 30, 31, 32, 33, 34, 35, 36, 37, 38, 39, 40, 41, 42, 43, 44, 45, 46, 47, 48, 49, 50, 51, 52, 53, 54, 55, 56, 57, 58, 59, 60, 61, 62, 63, 64, 65, 66, 67, 68, 69, 70, 71, 72, 73, 74, 75, 76, 77, 78, 6, 79, 80, 81, 82, 83, 84, 85, 86, 87, 88, 89, 90, 91, 92, 93, 94, 95, 104, 105, 106, 107, 108, 109, 110, 111, 112, 113, 96, 97, 98, 99, 100, 101, 102, 103, 114, 115, 116, 117] rfl (by decide +kernel)
set_option maxRecDepth 20000 in
theorem gX3_side_X3_coneOf : GoodIn wsX3_side (wsV RX3 100 RX3 yX3_coneOf wsX3_coneOf) := goodIn_app (goodIn_c (List.mem_of_getElem? (i := 17) rfl) rfl (goodIn_c (List.mem_of_getElem? (i := 18) rfl) rfl (goodIn_c (List.mem_of_getElem? (i := 19) rfl) rfl (goodIn_c (List.mem_of_getElem? (i := 6) rfl) rfl (goodIn_nil))))) ggX3_side_X3_coneOf
theorem dX3_side_0 : decode cX3_side 0 = .ok (.aload_n 0, 1) := by decide +kernel
theorem dX3_side_1 : decode cX3_side 1 = .ok (.iload_n 1, 1) := by decide +kernel
theorem dX3_side_2 : decode cX3_side 2 = .ok (.invokevirtual 150, 3) := by decide +kernel
theorem dX3_side_5 : decode cX3_side 5 = .ok (.ifCond .ne 5, 3) := by decide +kernel
theorem dX3_side_8 : decode cX3_side 8 = .ok (.iconst (-1), 1) := by decide +kernel
theorem dX3_side_9 : decode cX3_side 9 = .ok (.ireturn, 1) := by decide +kernel
theorem dX3_side_10 : decode cX3_side 10 = .ok (.aload_n 0, 1) := by decide +kernel
theorem dX3_side_11 : decode cX3_side 11 = .ok (.iload_n 1, 1) := by decide +kernel
theorem dX3_side_12 : decode cX3_side 12 = .ok (.invokevirtual 100, 3) := by decide +kernel
theorem dX3_side_15 : decode cX3_side 15 = .ok (.astore 4, 2) := by decide +kernel
theorem dX3_side_17 : decode cX3_side 17 = .ok (.iload_n 2, 1) := by decide +kernel
theorem dX3_side_18 : decode cX3_side 18 = .ok (.ifCond .lt 29, 3) := by decide +kernel
theorem dX3_side_21 : decode cX3_side 21 = .ok (.iload_n 2, 1) := by decide +kernel
theorem dX3_side_22 : decode cX3_side 22 = .ok (.aload 4, 2) := by decide +kernel
theorem dX3_side_24 : decode cX3_side 24 = .ok (.getfield 153, 3) := by decide +kernel
theorem dX3_side_27 : decode cX3_side 27 = .ok (.if_icmp .ge 20, 3) := by decide +kernel
theorem dX3_side_30 : decode cX3_side 30 = .ok (.iload_n 3, 1) := by decide +kernel
theorem dX3_side_31 : decode cX3_side 31 = .ok (.ifCond .lt 16, 3) := by decide +kernel
theorem dX3_side_34 : decode cX3_side 34 = .ok (.iload_n 3, 1) := by decide +kernel
theorem dX3_side_35 : decode cX3_side 35 = .ok (.aload_n 0, 1) := by decide +kernel
theorem dX3_side_36 : decode cX3_side 36 = .ok (.getfield 49, 3) := by decide +kernel
theorem dX3_side_39 : decode cX3_side 39 = .ok (.aload_n 0, 1) := by decide +kernel
theorem dX3_side_40 : decode cX3_side 40 = .ok (.getfield 52, 3) := by decide +kernel
theorem dX3_side_43 : decode cX3_side 43 = .ok (.iadd, 1) := by decide +kernel
theorem dX3_side_44 : decode cX3_side 44 = .ok (.if_icmp .le 5, 3) := by decide +kernel
theorem dX3_side_47 : decode cX3_side 47 = .ok (.iconst (-1), 1) := by decide +kernel
theorem dX3_side_48 : decode cX3_side 48 = .ok (.ireturn, 1) := by decide +kernel
theorem dX3_side_49 : decode cX3_side 49 = .ok (.aload 4, 2) := by decide +kernel
theorem dX3_side_51 : decode cX3_side 51 = .ok (.getfield 156, 3) := by decide +kernel
theorem dX3_side_54 : decode cX3_side 54 = .ok (.iload_n 2, 1) := by decide +kernel
theorem dX3_side_55 : decode cX3_side 55 = .ok (.iconst 5, 1) := by decide +kernel
theorem dX3_side_56 : decode cX3_side 56 = .ok (.imul, 1) := by decide +kernel
theorem dX3_side_57 : decode cX3_side 57 = .ok (.iload_n 3, 1) := by decide +kernel
theorem dX3_side_58 : decode cX3_side 58 = .ok (.iadd, 1) := by decide +kernel
theorem dX3_side_59 : decode cX3_side 59 = .ok (.laload, 1) := by decide +kernel
theorem dX3_side_60 : decode cX3_side 60 = .ok (.l2i, 1) := by decide +kernel
theorem dX3_side_61 : decode cX3_side 61 = .ok (.ireturn, 1) := by decide +kernel
set_option maxRecDepth 20000 in
theorem ggX3_suits_X3_hasSides : GoodIn wsX3_suits wsX3_hasSides := goodIn_r _ [6, 7, 8, 5, 9, 10, 11, 12, 13, 14, 15, 153, 154, 155, 156, 157, 158, 159, 160, 161, 162] rfl (by decide +kernel)
set_option maxRecDepth 20000 in
theorem gX3_suits_X3_hasSides : GoodIn wsX3_suits (wsV RX3 150 RX3 yX3_hasSides wsX3_hasSides) := goodIn_app (goodIn_c (List.mem_of_getElem? (i := 2) rfl) rfl (goodIn_c (List.mem_of_getElem? (i := 3) rfl) rfl (goodIn_c (List.mem_of_getElem? (i := 4) rfl) rfl (goodIn_c (List.mem_of_getElem? (i := 5) rfl) rfl (goodIn_nil))))) ggX3_suits_X3_hasSides
set_option maxRecDepth 20000 in
theorem ggX3_suits_X3_isHeld : GoodIn wsX3_suits wsX3_isHeld := goodIn_r _ [19, 1, 20, 21, 22, 5, 23, 15, 24, 25, 26, 27, 14, 28, 29, 30, 31, 32, 33, 34, 35, 36, 37, 38, 39, 153, 154, 155, 156, 157, 158, 159, 160, 161, 162, 163, 164, 165, 166] rfl (by decide +kernel)
set_option maxRecDepth 20000 in
theorem gX3_suits_X3_isHeld : GoodIn wsX3_suits (wsV RX3 75 RX3 yX3_isHeld wsX3_isHeld) := goodIn_app (goodIn_c (List.mem_of_getElem? (i := 16) rfl) rfl (goodIn_c (List.mem_of_getElem? (i := 17) rfl) rfl (goodIn_c (List.mem_of_getElem? (i := 18) rfl) rfl (goodIn_c (List.mem_of_getElem? (i := 5) rfl) rfl (goodIn_nil))))) ggX3_suits_X3_isHeld
set_option maxRecDepth 20000 in
theorem ggX3_suits_X3_coneOf : GoodIn wsX3_suits wsX3_coneOf := goodIn_r _ [43, 44, 1, 45, 46, 47, 48, 49, 50, 51, 52, 53, 54, 55, 56, 57, 58, 29, 59, 60, 61, 62, 63, 64, 32, 65, 66, 67, 68, 69, 70, 71, 72, 73, 74, 75, 76, 77, 78, 79, 80, 81, 82, 83, 84, 85, 86, 87, 88, 89, 90, 91, 92, 93, 94, 95, 96, 97, 98, 5, 99, 100, 101, 102, 103, 104, 105, 106, 107, 108, 109, 110, 111, 112, 113, 114, 115, 153, 154, 155, 156, 157, 158, 159, 160, 161, 162, 145, 146, 147, 148, 149, 150, 151, 152, 163, 164, 165, 166] rfl (by decide +kernel)
set_option maxRecDepth 20000 in
theorem gX3_suits_X3_coneOf : GoodIn wsX3_suits (wsV RX3 100 RX3 yX3_coneOf wsX3_coneOf) := goodIn_app (goodIn_c (List.mem_of_getElem? (i := 40) rfl) rfl (goodIn_c (List.mem_of_getElem? (i := 41) rfl) rfl (goodIn_c (List.mem_of_getElem? (i := 42) rfl) rfl (goodIn_c (List.mem_of_getElem? (i := 5) rfl) rfl (goodIn_nil))))) ggX3_suits_X3_coneOf
set_option maxRecDepth 20000 in
theorem ggX3_suits_X0_insWeighed : GoodIn wsX3_suits wsX0_insWeighed := goodIn_r _ [78, 49, 57, 62, 29, 63, 64, 32, 145, 146, 147, 148, 149, 150, 151, 152, 163, 164, 165, 166] rfl (by decide +kernel)
set_option maxRecDepth 20000 in
theorem gX3_suits_X0_insWeighed_n160 : GoodIn wsX3_suits (wsX0_insWeighed) := ggX3_suits_X0_insWeighed
set_option maxRecDepth 20000 in
theorem ggX3_suits_X3_toldShare : GoodIn wsX3_suits wsX3_toldShare := goodIn_r _ [119, 1, 120, 29, 121, 122, 33, 61, 123, 124, 125, 126, 62, 63, 64, 32, 127, 128, 129, 130, 39, 131, 132, 133, 134, 135, 136, 137, 98, 5, 99, 40, 41, 42, 43, 44, 45, 46, 47, 48, 49, 50, 51, 52, 53, 54, 55, 56, 57, 58, 59, 60, 65, 66, 67, 68, 69, 70, 71, 72, 73, 74, 75, 76, 77, 78, 79, 80, 81, 82, 83, 84, 85, 86, 87, 88, 89, 90, 91, 92, 93, 94, 95, 96, 97, 100, 101, 102, 103, 104, 105, 106, 107, 108, 109, 110, 111, 112, 113, 114, 115, 138, 139, 140, 141, 153, 154, 155, 156, 157, 158, 159, 160, 161, 162, 163, 164, 165, 166, 167, 168, 145, 146, 147, 148, 149, 150, 151, 152] rfl (by decide +kernel)
set_option maxRecDepth 20000 in
theorem gX3_suits_X3_toldShare : GoodIn wsX3_suits (wsV RX3 80 RX3 yX3_toldShare wsX3_toldShare) := goodIn_app (goodIn_c (List.mem_of_getElem? (i := 116) rfl) rfl (goodIn_c (List.mem_of_getElem? (i := 117) rfl) rfl (goodIn_c (List.mem_of_getElem? (i := 118) rfl) rfl (goodIn_c (List.mem_of_getElem? (i := 5) rfl) rfl (goodIn_nil))))) ggX3_suits_X3_toldShare
set_option maxRecDepth 20000 in
theorem ggX3_suits_X0_isBest : GoodIn wsX3_suits wsX0_isBest := goodIn_r _ [144, 79, 80, 81, 46, 82, 57, 50, 49, 62, 29, 63, 64, 32, 75, 76, 77, 78, 167, 168, 145, 146, 147, 148, 149, 150, 151, 152, 163, 164, 165, 166] rfl (by decide +kernel)
set_option maxRecDepth 20000 in
theorem gX3_suits_X0_isBest_n164 : GoodIn wsX3_suits (wsX0_isBest) := ggX3_suits_X0_isBest
theorem dX3_suits_0 : decode cX3_suits 0 = .ok (.aload_n 0, 1) := by decide +kernel
theorem dX3_suits_1 : decode cX3_suits 1 = .ok (.iload_n 1, 1) := by decide +kernel
theorem dX3_suits_2 : decode cX3_suits 2 = .ok (.invokevirtual 150, 3) := by decide +kernel
theorem dX3_suits_5 : decode cX3_suits 5 = .ok (.ifCond .eq 11, 3) := by decide +kernel
theorem dX3_suits_8 : decode cX3_suits 8 = .ok (.aload_n 0, 1) := by decide +kernel
theorem dX3_suits_9 : decode cX3_suits 9 = .ok (.iload_n 2, 1) := by decide +kernel
theorem dX3_suits_10 : decode cX3_suits 10 = .ok (.invokevirtual 75, 3) := by decide +kernel
theorem dX3_suits_13 : decode cX3_suits 13 = .ok (.ifCond .ne 5, 3) := by decide +kernel
theorem dX3_suits_16 : decode cX3_suits 16 = .ok (.iconst (-1), 1) := by decide +kernel
theorem dX3_suits_17 : decode cX3_suits 17 = .ok (.ireturn, 1) := by decide +kernel
theorem dX3_suits_18 : decode cX3_suits 18 = .ok (.aload_n 0, 1) := by decide +kernel
theorem dX3_suits_19 : decode cX3_suits 19 = .ok (.iload_n 1, 1) := by decide +kernel
theorem dX3_suits_20 : decode cX3_suits 20 = .ok (.invokevirtual 100, 3) := by decide +kernel
theorem dX3_suits_23 : decode cX3_suits 23 = .ok (.astore 4, 2) := by decide +kernel
theorem dX3_suits_25 : decode cX3_suits 25 = .ok (.iload_n 3, 1) := by decide +kernel
theorem dX3_suits_26 : decode cX3_suits 26 = .ok (.ifCond .lt 12, 3) := by decide +kernel
theorem dX3_suits_29 : decode cX3_suits 29 = .ok (.iload_n 3, 1) := by decide +kernel
theorem dX3_suits_30 : decode cX3_suits 30 = .ok (.aload 4, 2) := by decide +kernel
theorem dX3_suits_32 : decode cX3_suits 32 = .ok (.getfield 153, 3) := by decide +kernel
theorem dX3_suits_35 : decode cX3_suits 35 = .ok (.if_icmp .lt 5, 3) := by decide +kernel
theorem dX3_suits_38 : decode cX3_suits 38 = .ok (.iconst (-1), 1) := by decide +kernel
theorem dX3_suits_39 : decode cX3_suits 39 = .ok (.ireturn, 1) := by decide +kernel
theorem dX3_suits_40 : decode cX3_suits 40 = .ok (.aload 4, 2) := by decide +kernel
theorem dX3_suits_42 : decode cX3_suits 42 = .ok (.iload_n 3, 1) := by decide +kernel
theorem dX3_suits_43 : decode cX3_suits 43 = .ok (.aload_n 0, 1) := by decide +kernel
theorem dX3_suits_44 : decode cX3_suits 44 = .ok (.getfield 23, 3) := by decide +kernel
theorem dX3_suits_47 : decode cX3_suits 47 = .ok (.iload_n 2, 1) := by decide +kernel
theorem dX3_suits_48 : decode cX3_suits 48 = .ok (.invokevirtual 160, 3) := by decide +kernel
theorem dX3_suits_51 : decode cX3_suits 51 = .ok (.lconst 0, 1) := by decide +kernel
theorem dX3_suits_52 : decode cX3_suits 52 = .ok (.lcmp, 1) := by decide +kernel
theorem dX3_suits_53 : decode cX3_suits 53 = .ok (.ifCond .le 27, 3) := by decide +kernel
theorem dX3_suits_56 : decode cX3_suits 56 = .ok (.aload 4, 2) := by decide +kernel
theorem dX3_suits_58 : decode cX3_suits 58 = .ok (.iload_n 3, 1) := by decide +kernel
theorem dX3_suits_59 : decode cX3_suits 59 = .ok (.aload_n 0, 1) := by decide +kernel
theorem dX3_suits_60 : decode cX3_suits 60 = .ok (.getfield 23, 3) := by decide +kernel
theorem dX3_suits_63 : decode cX3_suits 63 = .ok (.iload_n 2, 1) := by decide +kernel
theorem dX3_suits_64 : decode cX3_suits 64 = .ok (.aload_n 0, 1) := by decide +kernel
theorem dX3_suits_65 : decode cX3_suits 65 = .ok (.iload_n 1, 1) := by decide +kernel
theorem dX3_suits_66 : decode cX3_suits 66 = .ok (.iload_n 2, 1) := by decide +kernel
theorem dX3_suits_67 : decode cX3_suits 67 = .ok (.invokevirtual 80, 3) := by decide +kernel
theorem dX3_suits_70 : decode cX3_suits 70 = .ok (.invokevirtual 164, 3) := by decide +kernel
theorem dX3_suits_73 : decode cX3_suits 73 = .ok (.ifCond .eq 7, 3) := by decide +kernel
theorem dX3_suits_76 : decode cX3_suits 76 = .ok (.iconst 1, 1) := by decide +kernel
theorem dX3_suits_77 : decode cX3_suits 77 = .ok (.goto 4, 3) := by decide +kernel
theorem dX3_suits_80 : decode cX3_suits 80 = .ok (.iconst 0, 1) := by decide +kernel
theorem dX3_suits_81 : decode cX3_suits 81 = .ok (.istore 5, 2) := by decide +kernel
theorem dX3_suits_83 : decode cX3_suits 83 = .ok (.iload 5, 2) := by decide +kernel
theorem dX3_suits_85 : decode cX3_suits 85 = .ok (.ifCond .eq 7, 3) := by decide +kernel
theorem dX3_suits_88 : decode cX3_suits 88 = .ok (.iconst 1, 1) := by decide +kernel
theorem dX3_suits_89 : decode cX3_suits 89 = .ok (.goto 4, 3) := by decide +kernel
theorem dX3_suits_92 : decode cX3_suits 92 = .ok (.iconst 0, 1) := by decide +kernel
theorem dX3_suits_93 : decode cX3_suits 93 = .ok (.ireturn, 1) := by decide +kernel
set_option maxRecDepth 20000 in
theorem ggX3_count_X3_worksThere : GoodIn wsX3_count wsX3_worksThere := goodIn_r _ [8, 3, 9, 16, 17, 18, 19, 20, 21, 22, 23, 24, 25] rfl (by decide +kernel)
set_option maxRecDepth 20000 in
theorem gX3_count_X3_worksThere : GoodIn wsX3_count (wsV RX3 168 RX3 yX3_worksThere wsX3_worksThere) := goodIn_app (goodIn_c (List.mem_of_getElem? (i := 4) rfl) rfl (goodIn_c (List.mem_of_getElem? (i := 5) rfl) rfl (goodIn_c (List.mem_of_getElem? (i := 6) rfl) rfl (goodIn_c (List.mem_of_getElem? (i := 7) rfl) rfl (goodIn_nil))))) ggX3_count_X3_worksThere
set_option maxRecDepth 20000 in
theorem ggX3_count_X3_missingThere : GoodIn wsX3_count wsX3_missingThere := goodIn_r _ [13, 3, 1, 2, 9, 14, 15, 16, 17, 18, 19, 20, 21, 22, 23, 24, 25] rfl (by decide +kernel)
set_option maxRecDepth 20000 in
theorem gX3_count_X3_missingThere : GoodIn wsX3_count (wsV RX3 139 RX3 yX3_missingThere wsX3_missingThere) := goodIn_app (goodIn_c (List.mem_of_getElem? (i := 10) rfl) rfl (goodIn_c (List.mem_of_getElem? (i := 11) rfl) rfl (goodIn_c (List.mem_of_getElem? (i := 12) rfl) rfl (goodIn_c (List.mem_of_getElem? (i := 7) rfl) rfl (goodIn_nil))))) ggX3_count_X3_missingThere
theorem dX3_count_0 : decode cX3_count 0 = .ok (.iload_n 1, 1) := by decide +kernel
theorem dX3_count_1 : decode cX3_count 1 = .ok (.tableswitch 60 0 4 #[35, 40, 45, 50, 55], 35) := by decide +kernel
theorem dX3_count_36 : decode cX3_count 36 = .ok (.aload_n 0, 1) := by decide +kernel
theorem dX3_count_37 : decode cX3_count 37 = .ok (.getfield 49, 3) := by decide +kernel
theorem dX3_count_40 : decode cX3_count 40 = .ok (.ireturn, 1) := by decide +kernel
theorem dX3_count_41 : decode cX3_count 41 = .ok (.aload_n 0, 1) := by decide +kernel
theorem dX3_count_42 : decode cX3_count 42 = .ok (.getfield 52, 3) := by decide +kernel
theorem dX3_count_45 : decode cX3_count 45 = .ok (.ireturn, 1) := by decide +kernel
theorem dX3_count_46 : decode cX3_count 46 = .ok (.aload_n 0, 1) := by decide +kernel
theorem dX3_count_47 : decode cX3_count 47 = .ok (.getfield 45, 3) := by decide +kernel
theorem dX3_count_50 : decode cX3_count 50 = .ok (.ireturn, 1) := by decide +kernel
theorem dX3_count_51 : decode cX3_count 51 = .ok (.aload_n 0, 1) := by decide +kernel
theorem dX3_count_52 : decode cX3_count 52 = .ok (.invokevirtual 168, 3) := by decide +kernel
theorem dX3_count_55 : decode cX3_count 55 = .ok (.ireturn, 1) := by decide +kernel
theorem dX3_count_56 : decode cX3_count 56 = .ok (.aload_n 0, 1) := by decide +kernel
theorem dX3_count_57 : decode cX3_count 57 = .ok (.invokevirtual 139, 3) := by decide +kernel
theorem dX3_count_60 : decode cX3_count 60 = .ok (.ireturn, 1) := by decide +kernel
theorem dX3_count_61 : decode cX3_count 61 = .ok (.iconst (-1), 1) := by decide +kernel
theorem dX3_count_62 : decode cX3_count 62 = .ok (.ireturn, 1) := by decide +kernel
set_option maxRecDepth 20000 in
theorem ggX3_clear_X3_retell : GoodIn wsX3_clear wsX3_retell := goodIn_r _ [9, 10, 1, 2, 4, 11, 12, 13, 14, 15, 16, 17, 18, 19, 20, 21, 22, 23, 24, 25, 26, 27, 28, 29, 30, 31, 32, 33, 34, 35] rfl (by decide +kernel)
set_option maxRecDepth 20000 in
theorem gX3_clear_X3_retell : GoodIn wsX3_clear (wsV RX3 63 RX3 yX3_retell wsX3_retell) := goodIn_app (goodIn_c (List.mem_of_getElem? (i := 5) rfl) rfl (goodIn_c (List.mem_of_getElem? (i := 6) rfl) rfl (goodIn_c (List.mem_of_getElem? (i := 7) rfl) rfl (goodIn_c (List.mem_of_getElem? (i := 8) rfl) rfl (goodIn_nil))))) ggX3_clear_X3_retell
theorem dX3_clear_0 : decode cX3_clear 0 = .ok (.aload_n 0, 1) := by decide +kernel
theorem dX3_clear_1 : decode cX3_clear 1 = .ok (.iload_n 1, 1) := by decide +kernel
theorem dX3_clear_2 : decode cX3_clear 2 = .ok (.putfield 49, 3) := by decide +kernel
theorem dX3_clear_5 : decode cX3_clear 5 = .ok (.aload_n 0, 1) := by decide +kernel
theorem dX3_clear_6 : decode cX3_clear 6 = .ok (.iload_n 2, 1) := by decide +kernel
theorem dX3_clear_7 : decode cX3_clear 7 = .ok (.putfield 52, 3) := by decide +kernel
theorem dX3_clear_10 : decode cX3_clear 10 = .ok (.aload_n 0, 1) := by decide +kernel
theorem dX3_clear_11 : decode cX3_clear 11 = .ok (.iconst 0, 1) := by decide +kernel
theorem dX3_clear_12 : decode cX3_clear 12 = .ok (.putfield 45, 3) := by decide +kernel
theorem dX3_clear_15 : decode cX3_clear 15 = .ok (.iconst 0, 1) := by decide +kernel
theorem dX3_clear_16 : decode cX3_clear 16 = .ok (.istore_n 3, 1) := by decide +kernel
theorem dX3_clear_17 : decode cX3_clear 17 = .ok (.iload_n 3, 1) := by decide +kernel
theorem dX3_clear_18 : decode cX3_clear 18 = .ok (.bipush 12, 2) := by decide +kernel
theorem dX3_clear_20 : decode cX3_clear 20 = .ok (.if_icmp .ge 16, 3) := by decide +kernel
theorem dX3_clear_23 : decode cX3_clear 23 = .ok (.aload_n 0, 1) := by decide +kernel
theorem dX3_clear_24 : decode cX3_clear 24 = .ok (.getfield 16, 3) := by decide +kernel
theorem dX3_clear_27 : decode cX3_clear 27 = .ok (.iload_n 3, 1) := by decide +kernel
theorem dX3_clear_28 : decode cX3_clear 28 = .ok (.iconst 0, 1) := by decide +kernel
theorem dX3_clear_29 : decode cX3_clear 29 = .ok (.bastore, 1) := by decide +kernel
theorem dX3_clear_30 : decode cX3_clear 30 = .ok (.iinc 3 1, 3) := by decide +kernel
theorem dX3_clear_33 : decode cX3_clear 33 = .ok (.goto (-16), 3) := by decide +kernel
theorem dX3_clear_36 : decode cX3_clear 36 = .ok (.aload_n 0, 1) := by decide +kernel
theorem dX3_clear_37 : decode cX3_clear 37 = .ok (.invokevirtual 63, 3) := by decide +kernel
theorem dX3_clear_40 : decode cX3_clear 40 = .ok (.return_, 1) := by decide +kernel
theorem dX3_retell_0 : decode cX3_retell 0 = .ok (.aload_n 0, 1) := by decide +kernel
theorem dX3_retell_1 : decode cX3_retell 1 = .ok (.getfield 23, 3) := by decide +kernel
theorem dX3_retell_4 : decode cX3_retell 4 = .ok (.aload_n 0, 1) := by decide +kernel
theorem dX3_retell_5 : decode cX3_retell 5 = .ok (.getfield 49, 3) := by decide +kernel
theorem dX3_retell_8 : decode cX3_retell 8 = .ok (.putfield 171, 3) := by decide +kernel
theorem dX3_retell_11 : decode cX3_retell 11 = .ok (.aload_n 0, 1) := by decide +kernel
theorem dX3_retell_12 : decode cX3_retell 12 = .ok (.getfield 23, 3) := by decide +kernel
theorem dX3_retell_15 : decode cX3_retell 15 = .ok (.aload_n 0, 1) := by decide +kernel
theorem dX3_retell_16 : decode cX3_retell 16 = .ok (.getfield 52, 3) := by decide +kernel
theorem dX3_retell_19 : decode cX3_retell 19 = .ok (.putfield 172, 3) := by decide +kernel
theorem dX3_retell_22 : decode cX3_retell 22 = .ok (.iconst 0, 1) := by decide +kernel
theorem dX3_retell_23 : decode cX3_retell 23 = .ok (.istore_n 1, 1) := by decide +kernel
theorem dX3_retell_24 : decode cX3_retell 24 = .ok (.iload_n 1, 1) := by decide +kernel
theorem dX3_retell_25 : decode cX3_retell 25 = .ok (.bipush 12, 2) := by decide +kernel
theorem dX3_retell_27 : decode cX3_retell 27 = .ok (.if_icmp .ge 83, 3) := by decide +kernel
theorem dX3_retell_30 : decode cX3_retell 30 = .ok (.aload_n 0, 1) := by decide +kernel
theorem dX3_retell_31 : decode cX3_retell 31 = .ok (.getfield 23, 3) := by decide +kernel
theorem dX3_retell_34 : decode cX3_retell 34 = .ok (.getfield 127, 3) := by decide +kernel
theorem dX3_retell_37 : decode cX3_retell 37 = .ok (.iload_n 1, 1) := by decide +kernel
theorem dX3_retell_38 : decode cX3_retell 38 = .ok (.aload_n 0, 1) := by decide +kernel
theorem dX3_retell_39 : decode cX3_retell 39 = .ok (.getfield 16, 3) := by decide +kernel
theorem dX3_retell_42 : decode cX3_retell 42 = .ok (.iload_n 1, 1) := by decide +kernel
theorem dX3_retell_43 : decode cX3_retell 43 = .ok (.baload, 1) := by decide +kernel
theorem dX3_retell_44 : decode cX3_retell 44 = .ok (.bastore, 1) := by decide +kernel
theorem dX3_retell_45 : decode cX3_retell 45 = .ok (.iconst 0, 1) := by decide +kernel
theorem dX3_retell_46 : decode cX3_retell 46 = .ok (.istore_n 2, 1) := by decide +kernel
theorem dX3_retell_47 : decode cX3_retell 47 = .ok (.iload_n 2, 1) := by decide +kernel
theorem dX3_retell_48 : decode cX3_retell 48 = .ok (.aload_n 0, 1) := by decide +kernel
theorem dX3_retell_49 : decode cX3_retell 49 = .ok (.getfield 49, 3) := by decide +kernel
theorem dX3_retell_52 : decode cX3_retell 52 = .ok (.aload_n 0, 1) := by decide +kernel
theorem dX3_retell_53 : decode cX3_retell 53 = .ok (.getfield 52, 3) := by decide +kernel
theorem dX3_retell_56 : decode cX3_retell 56 = .ok (.iadd, 1) := by decide +kernel
theorem dX3_retell_57 : decode cX3_retell 57 = .ok (.if_icmp .ge 47, 3) := by decide +kernel
theorem dX3_retell_60 : decode cX3_retell 60 = .ok (.iload_n 1, 1) := by decide +kernel
theorem dX3_retell_61 : decode cX3_retell 61 = .ok (.iconst 4, 1) := by decide +kernel
theorem dX3_retell_62 : decode cX3_retell 62 = .ok (.imul, 1) := by decide +kernel
theorem dX3_retell_63 : decode cX3_retell 63 = .ok (.iload_n 2, 1) := by decide +kernel
theorem dX3_retell_64 : decode cX3_retell 64 = .ok (.iadd, 1) := by decide +kernel
theorem dX3_retell_65 : decode cX3_retell 65 = .ok (.istore_n 3, 1) := by decide +kernel
theorem dX3_retell_66 : decode cX3_retell 66 = .ok (.aload_n 0, 1) := by decide +kernel
theorem dX3_retell_67 : decode cX3_retell 67 = .ok (.getfield 23, 3) := by decide +kernel
theorem dX3_retell_70 : decode cX3_retell 70 = .ok (.getfield 147, 3) := by decide +kernel
theorem dX3_retell_73 : decode cX3_retell 73 = .ok (.iload_n 3, 1) := by decide +kernel
theorem dX3_retell_74 : decode cX3_retell 74 = .ok (.iload_n 2, 1) := by decide +kernel
theorem dX3_retell_75 : decode cX3_retell 75 = .ok (.aload_n 0, 1) := by decide +kernel
theorem dX3_retell_76 : decode cX3_retell 76 = .ok (.getfield 49, 3) := by decide +kernel
theorem dX3_retell_79 : decode cX3_retell 79 = .ok (.if_icmp .ge 12, 3) := by decide +kernel
theorem dX3_retell_82 : decode cX3_retell 82 = .ok (.aload_n 0, 1) := by decide +kernel
theorem dX3_retell_83 : decode cX3_retell 83 = .ok (.getfield 9, 3) := by decide +kernel
theorem dX3_retell_86 : decode cX3_retell 86 = .ok (.iload_n 3, 1) := by decide +kernel
theorem dX3_retell_87 : decode cX3_retell 87 = .ok (.iaload, 1) := by decide +kernel
theorem dX3_retell_88 : decode cX3_retell 88 = .ok (.goto 9, 3) := by decide +kernel
theorem dX3_retell_91 : decode cX3_retell 91 = .ok (.aload_n 0, 1) := by decide +kernel
theorem dX3_retell_92 : decode cX3_retell 92 = .ok (.getfield 13, 3) := by decide +kernel
theorem dX3_retell_95 : decode cX3_retell 95 = .ok (.iload_n 3, 1) := by decide +kernel
theorem dX3_retell_96 : decode cX3_retell 96 = .ok (.iaload, 1) := by decide +kernel
theorem dX3_retell_97 : decode cX3_retell 97 = .ok (.iastore, 1) := by decide +kernel
theorem dX3_retell_98 : decode cX3_retell 98 = .ok (.iinc 2 1, 3) := by decide +kernel
theorem dX3_retell_101 : decode cX3_retell 101 = .ok (.goto (-54), 3) := by decide +kernel
theorem dX3_retell_104 : decode cX3_retell 104 = .ok (.iinc 1 1, 3) := by decide +kernel
theorem dX3_retell_107 : decode cX3_retell 107 = .ok (.goto (-83), 3) := by decide +kernel
theorem dX3_retell_110 : decode cX3_retell 110 = .ok (.iconst 0, 1) := by decide +kernel
theorem dX3_retell_111 : decode cX3_retell 111 = .ok (.istore_n 1, 1) := by decide +kernel
theorem dX3_retell_112 : decode cX3_retell 112 = .ok (.iload_n 1, 1) := by decide +kernel
theorem dX3_retell_113 : decode cX3_retell 113 = .ok (.iconst 3, 1) := by decide +kernel
theorem dX3_retell_114 : decode cX3_retell 114 = .ok (.if_icmp .ge 19, 3) := by decide +kernel
theorem dX3_retell_117 : decode cX3_retell 117 = .ok (.aload_n 0, 1) := by decide +kernel
theorem dX3_retell_118 : decode cX3_retell 118 = .ok (.getfield 32, 3) := by decide +kernel
theorem dX3_retell_121 : decode cX3_retell 121 = .ok (.iload_n 1, 1) := by decide +kernel
theorem dX3_retell_122 : decode cX3_retell 122 = .ok (.aaload, 1) := by decide +kernel
theorem dX3_retell_123 : decode cX3_retell 123 = .ok (.iconst 0, 1) := by decide +kernel
theorem dX3_retell_124 : decode cX3_retell 124 = .ok (.putfield 173, 3) := by decide +kernel
theorem dX3_retell_127 : decode cX3_retell 127 = .ok (.iinc 1 1, 3) := by decide +kernel
theorem dX3_retell_130 : decode cX3_retell 130 = .ok (.goto (-18), 3) := by decide +kernel
theorem dX3_retell_133 : decode cX3_retell 133 = .ok (.return_, 1) := by decide +kernel
theorem dX3_pick_0 : decode cX3_pick 0 = .ok (.iload_n 0, 1) := by decide +kernel
theorem dX3_pick_1 : decode cX3_pick 1 = .ok (.iconst 2, 1) := by decide +kernel
theorem dX3_pick_2 : decode cX3_pick 2 = .ok (.if_icmp .ge 13, 3) := by decide +kernel
theorem dX3_pick_5 : decode cX3_pick 5 = .ok (.iload_n 0, 1) := by decide +kernel
theorem dX3_pick_6 : decode cX3_pick 6 = .ok (.ifCond .ne 7, 3) := by decide +kernel
theorem dX3_pick_9 : decode cX3_pick 9 = .ok (.iload_n 1, 1) := by decide +kernel
theorem dX3_pick_10 : decode cX3_pick 10 = .ok (.goto 4, 3) := by decide +kernel
theorem dX3_pick_13 : decode cX3_pick 13 = .ok (.iload_n 2, 1) := by decide +kernel
theorem dX3_pick_14 : decode cX3_pick 14 = .ok (.ireturn, 1) := by decide +kernel
theorem dX3_pick_15 : decode cX3_pick 15 = .ok (.iload_n 0, 1) := by decide +kernel
theorem dX3_pick_16 : decode cX3_pick 16 = .ok (.iconst 2, 1) := by decide +kernel
theorem dX3_pick_17 : decode cX3_pick 17 = .ok (.if_icmp .ne 7, 3) := by decide +kernel
theorem dX3_pick_20 : decode cX3_pick 20 = .ok (.iload_n 3, 1) := by decide +kernel
theorem dX3_pick_21 : decode cX3_pick 21 = .ok (.goto 5, 3) := by decide +kernel
theorem dX3_pick_24 : decode cX3_pick 24 = .ok (.iload 4, 2) := by decide +kernel
theorem dX3_pick_26 : decode cX3_pick 26 = .ok (.ireturn, 1) := by decide +kernel
theorem dX3_isNumber_0 : decode cX3_isNumber 0 = .ok (.iload_n 0, 1) := by decide +kernel
theorem dX3_isNumber_1 : decode cX3_isNumber 1 = .ok (.ifCond .lt 13, 3) := by decide +kernel
theorem dX3_isNumber_4 : decode cX3_isNumber 4 = .ok (.iload_n 0, 1) := by decide +kernel
theorem dX3_isNumber_5 : decode cX3_isNumber 5 = .ok (.bipush 30, 2) := by decide +kernel
theorem dX3_isNumber_7 : decode cX3_isNumber 7 = .ok (.if_icmp .gt 7, 3) := by decide +kernel
theorem dX3_isNumber_10 : decode cX3_isNumber 10 = .ok (.iconst 1, 1) := by decide +kernel
theorem dX3_isNumber_11 : decode cX3_isNumber 11 = .ok (.goto 4, 3) := by decide +kernel
theorem dX3_isNumber_14 : decode cX3_isNumber 14 = .ok (.iconst 0, 1) := by decide +kernel
theorem dX3_isNumber_15 : decode cX3_isNumber 15 = .ok (.ireturn, 1) := by decide +kernel
theorem dX3_isView_0 : decode cX3_isView 0 = .ok (.iload_n 0, 1) := by decide +kernel
theorem dX3_isView_1 : decode cX3_isView 1 = .ok (.ifCond .lt 12, 3) := by decide +kernel
theorem dX3_isView_4 : decode cX3_isView 4 = .ok (.iload_n 0, 1) := by decide +kernel
theorem dX3_isView_5 : decode cX3_isView 5 = .ok (.iconst 3, 1) := by decide +kernel
theorem dX3_isView_6 : decode cX3_isView 6 = .ok (.if_icmp .gt 7, 3) := by decide +kernel
theorem dX3_isView_9 : decode cX3_isView 9 = .ok (.iconst 1, 1) := by decide +kernel
theorem dX3_isView_10 : decode cX3_isView 10 = .ok (.goto 4, 3) := by decide +kernel
theorem dX3_isView_13 : decode cX3_isView 13 = .ok (.iconst 0, 1) := by decide +kernel
theorem dX3_isView_14 : decode cX3_isView 14 = .ok (.ireturn, 1) := by decide +kernel
theorem dX3_isWork_0 : decode cX3_isWork 0 = .ok (.iload_n 1, 1) := by decide +kernel
theorem dX3_isWork_1 : decode cX3_isWork 1 = .ok (.ifCond .lt 15, 3) := by decide +kernel
theorem dX3_isWork_4 : decode cX3_isWork 4 = .ok (.iload_n 1, 1) := by decide +kernel
theorem dX3_isWork_5 : decode cX3_isWork 5 = .ok (.aload_n 0, 1) := by decide +kernel
theorem dX3_isWork_6 : decode cX3_isWork 6 = .ok (.getfield 45, 3) := by decide +kernel
theorem dX3_isWork_9 : decode cX3_isWork 9 = .ok (.if_icmp .ge 7, 3) := by decide +kernel
theorem dX3_isWork_12 : decode cX3_isWork 12 = .ok (.iconst 1, 1) := by decide +kernel
theorem dX3_isWork_13 : decode cX3_isWork 13 = .ok (.goto 4, 3) := by decide +kernel
theorem dX3_isWork_16 : decode cX3_isWork 16 = .ok (.iconst 0, 1) := by decide +kernel
theorem dX3_isWork_17 : decode cX3_isWork 17 = .ok (.ireturn, 1) := by decide +kernel
theorem dX3_isThing_0 : decode cX3_isThing 0 = .ok (.iload_n 1, 1) := by decide +kernel
theorem dX3_isThing_1 : decode cX3_isThing 1 = .ok (.ifCond .lt 20, 3) := by decide +kernel
theorem dX3_isThing_4 : decode cX3_isThing 4 = .ok (.iload_n 1, 1) := by decide +kernel
theorem dX3_isThing_5 : decode cX3_isThing 5 = .ok (.aload_n 0, 1) := by decide +kernel
theorem dX3_isThing_6 : decode cX3_isThing 6 = .ok (.getfield 49, 3) := by decide +kernel
theorem dX3_isThing_9 : decode cX3_isThing 9 = .ok (.aload_n 0, 1) := by decide +kernel
theorem dX3_isThing_10 : decode cX3_isThing 10 = .ok (.getfield 52, 3) := by decide +kernel
theorem dX3_isThing_13 : decode cX3_isThing 13 = .ok (.iadd, 1) := by decide +kernel
theorem dX3_isThing_14 : decode cX3_isThing 14 = .ok (.if_icmp .ge 7, 3) := by decide +kernel
theorem dX3_isThing_17 : decode cX3_isThing 17 = .ok (.iconst 1, 1) := by decide +kernel
theorem dX3_isThing_18 : decode cX3_isThing 18 = .ok (.goto 4, 3) := by decide +kernel
theorem dX3_isThing_21 : decode cX3_isThing 21 = .ok (.iconst 0, 1) := by decide +kernel
theorem dX3_isThing_22 : decode cX3_isThing 22 = .ok (.ireturn, 1) := by decide +kernel
set_option maxRecDepth 20000 in
theorem ggX3_isThere_X3_isWork : GoodIn wsX3_isThere wsX3_isWork := goodIn_r _ [6, 7, 8, 9, 10, 11, 12, 13, 14, 15, 16, 17] rfl (by decide +kernel)
set_option maxRecDepth 20000 in
theorem gX3_isThere_X3_isWork : GoodIn wsX3_isThere (wsV RX3 66 RX3 yX3_isWork wsX3_isWork) := goodIn_app (goodIn_c (List.mem_of_getElem? (i := 2) rfl) rfl (goodIn_c (List.mem_of_getElem? (i := 3) rfl) rfl (goodIn_c (List.mem_of_getElem? (i := 4) rfl) rfl (goodIn_c (List.mem_of_getElem? (i := 5) rfl) rfl (goodIn_nil))))) ggX3_isThere_X3_isWork
theorem dX3_isThere_0 : decode cX3_isThere 0 = .ok (.aload_n 0, 1) := by decide +kernel
theorem dX3_isThere_1 : decode cX3_isThere 1 = .ok (.iload_n 1, 1) := by decide +kernel
theorem dX3_isThere_2 : decode cX3_isThere 2 = .ok (.invokevirtual 66, 3) := by decide +kernel
theorem dX3_isThere_5 : decode cX3_isThere 5 = .ok (.ifCond .eq 16, 3) := by decide +kernel
theorem dX3_isThere_8 : decode cX3_isThere 8 = .ok (.aload_n 0, 1) := by decide +kernel
theorem dX3_isThere_9 : decode cX3_isThere 9 = .ok (.getfield 16, 3) := by decide +kernel
theorem dX3_isThere_12 : decode cX3_isThere 12 = .ok (.iload_n 1, 1) := by decide +kernel
theorem dX3_isThere_13 : decode cX3_isThere 13 = .ok (.baload, 1) := by decide +kernel
theorem dX3_isThere_14 : decode cX3_isThere 14 = .ok (.ifCond .eq 7, 3) := by decide +kernel
theorem dX3_isThere_17 : decode cX3_isThere 17 = .ok (.iconst 1, 1) := by decide +kernel
theorem dX3_isThere_18 : decode cX3_isThere 18 = .ok (.goto 4, 3) := by decide +kernel
theorem dX3_isThere_21 : decode cX3_isThere 21 = .ok (.iconst 0, 1) := by decide +kernel
theorem dX3_isThere_22 : decode cX3_isThere 22 = .ok (.ireturn, 1) := by decide +kernel
set_option maxRecDepth 20000 in
theorem ggX3_isHeld_X3_isThere : GoodIn wsX3_isHeld wsX3_isThere := goodIn_r _ [6, 7, 8, 9, 10, 5, 11, 12, 25, 26, 27, 28, 29, 30, 31, 32, 33, 34] rfl (by decide +kernel)
set_option maxRecDepth 20000 in
theorem gX3_isHeld_X3_isThere : GoodIn wsX3_isHeld (wsV RX3 108 RX3 yX3_isThere wsX3_isThere) := goodIn_app (goodIn_c (List.mem_of_getElem? (i := 2) rfl) rfl (goodIn_c (List.mem_of_getElem? (i := 3) rfl) rfl (goodIn_c (List.mem_of_getElem? (i := 4) rfl) rfl (goodIn_c (List.mem_of_getElem? (i := 5) rfl) rfl (goodIn_nil))))) ggX3_isHeld_X3_isThere
set_option maxRecDepth 20000 in
theorem ggX3_isHeld_X2_takes : GoodIn wsX3_isHeld wsX2_takes := goodIn_r _ [16, 17, 18, 19, 5, 20, 35, 36, 37, 38] rfl (by decide +kernel)
set_option maxRecDepth 20000 in
theorem gX3_isHeld_X2_takes_n136 : GoodIn wsX3_isHeld (wsX2_takes) := ggX3_isHeld_X2_takes
set_option maxRecDepth 20000 in
theorem ggX3_isHeld_X2_gives : GoodIn wsX3_isHeld wsX2_gives := goodIn_r _ [23, 17, 18, 24, 19, 5, 20, 35, 36, 37, 38] rfl (by decide +kernel)
set_option maxRecDepth 20000 in
theorem gX3_isHeld_X2_gives_n177 : GoodIn wsX3_isHeld (wsX2_gives) := ggX3_isHeld_X2_gives
theorem dX3_isHeld_0 : decode cX3_isHeld 0 = .ok (.aload_n 0, 1) := by decide +kernel
theorem dX3_isHeld_1 : decode cX3_isHeld 1 = .ok (.iload_n 1, 1) := by decide +kernel
theorem dX3_isHeld_2 : decode cX3_isHeld 2 = .ok (.invokevirtual 108, 3) := by decide +kernel
theorem dX3_isHeld_5 : decode cX3_isHeld 5 = .ok (.ifCond .eq 29, 3) := by decide +kernel
theorem dX3_isHeld_8 : decode cX3_isHeld 8 = .ok (.aload_n 0, 1) := by decide +kernel
theorem dX3_isHeld_9 : decode cX3_isHeld 9 = .ok (.getfield 23, 3) := by decide +kernel
theorem dX3_isHeld_12 : decode cX3_isHeld 12 = .ok (.iload_n 1, 1) := by decide +kernel
theorem dX3_isHeld_13 : decode cX3_isHeld 13 = .ok (.invokevirtual 136, 3) := by decide +kernel
theorem dX3_isHeld_16 : decode cX3_isHeld 16 = .ok (.ifCond .eq 18, 3) := by decide +kernel
theorem dX3_isHeld_19 : decode cX3_isHeld 19 = .ok (.aload_n 0, 1) := by decide +kernel
theorem dX3_isHeld_20 : decode cX3_isHeld 20 = .ok (.getfield 23, 3) := by decide +kernel
theorem dX3_isHeld_23 : decode cX3_isHeld 23 = .ok (.iload_n 1, 1) := by decide +kernel
theorem dX3_isHeld_24 : decode cX3_isHeld 24 = .ok (.invokevirtual 177, 3) := by decide +kernel
theorem dX3_isHeld_27 : decode cX3_isHeld 27 = .ok (.ifCond .eq 7, 3) := by decide +kernel
theorem dX3_isHeld_30 : decode cX3_isHeld 30 = .ok (.iconst 1, 1) := by decide +kernel
theorem dX3_isHeld_31 : decode cX3_isHeld 31 = .ok (.goto 4, 3) := by decide +kernel
theorem dX3_isHeld_34 : decode cX3_isHeld 34 = .ok (.iconst 0, 1) := by decide +kernel
theorem dX3_isHeld_35 : decode cX3_isHeld 35 = .ok (.ireturn, 1) := by decide +kernel
set_option maxRecDepth 20000 in
theorem ggX3_hasSides_X3_isView : GoodIn wsX3_hasSides wsX3_isView := goodIn_r _ [4] rfl (by decide +kernel)
set_option maxRecDepth 20000 in
theorem gX3_hasSides_X3_isView : GoodIn wsX3_hasSides (va_wsS RX3 72 yX3_isView wsX3_isView) := goodIn_app (goodIn_c (List.mem_of_getElem? (i := 1) rfl) rfl (goodIn_c (List.mem_of_getElem? (i := 2) rfl) rfl (goodIn_c (List.mem_of_getElem? (i := 3) rfl) rfl (goodIn_nil)))) ggX3_hasSides_X3_isView
set_option maxRecDepth 20000 in
theorem ggX3_hasSides_X3_worksThere : GoodIn wsX3_hasSides wsX3_worksThere := goodIn_r _ [8, 9, 10, 11, 12, 13, 14, 15, 16, 17, 18, 19, 20] rfl (by decide +kernel)
set_option maxRecDepth 20000 in
theorem gX3_hasSides_X3_worksThere : GoodIn wsX3_hasSides (wsV RX3 168 RX3 yX3_worksThere wsX3_worksThere) := goodIn_app (goodIn_c (List.mem_of_getElem? (i := 5) rfl) rfl (goodIn_c (List.mem_of_getElem? (i := 6) rfl) rfl (goodIn_c (List.mem_of_getElem? (i := 7) rfl) rfl (goodIn_c (List.mem_of_getElem? (i := 3) rfl) rfl (goodIn_nil))))) ggX3_hasSides_X3_worksThere
theorem dX3_hasSides_0 : decode cX3_hasSides 0 = .ok (.iload_n 1, 1) := by decide +kernel
theorem dX3_hasSides_1 : decode cX3_hasSides 1 = .ok (.invokestatic 72, 3) := by decide +kernel
theorem dX3_hasSides_4 : decode cX3_hasSides 4 = .ok (.ifCond .eq 19, 3) := by decide +kernel
theorem dX3_hasSides_7 : decode cX3_hasSides 7 = .ok (.iload_n 1, 1) := by decide +kernel
theorem dX3_hasSides_8 : decode cX3_hasSides 8 = .ok (.iconst 3, 1) := by decide +kernel
theorem dX3_hasSides_9 : decode cX3_hasSides 9 = .ok (.if_icmp .eq 14, 3) := by decide +kernel
theorem dX3_hasSides_12 : decode cX3_hasSides 12 = .ok (.aload_n 0, 1) := by decide +kernel
theorem dX3_hasSides_13 : decode cX3_hasSides 13 = .ok (.invokevirtual 168, 3) := by decide +kernel
theorem dX3_hasSides_16 : decode cX3_hasSides 16 = .ok (.ifCond .le 7, 3) := by decide +kernel
theorem dX3_hasSides_19 : decode cX3_hasSides 19 = .ok (.iconst 1, 1) := by decide +kernel
theorem dX3_hasSides_20 : decode cX3_hasSides 20 = .ok (.goto 4, 3) := by decide +kernel
theorem dX3_hasSides_23 : decode cX3_hasSides 23 = .ok (.iconst 0, 1) := by decide +kernel
theorem dX3_hasSides_24 : decode cX3_hasSides 24 = .ok (.ireturn, 1) := by decide +kernel
theorem dX3_worksThere_0 : decode cX3_worksThere 0 = .ok (.iconst 0, 1) := by decide +kernel
theorem dX3_worksThere_1 : decode cX3_worksThere 1 = .ok (.istore_n 1, 1) := by decide +kernel
theorem dX3_worksThere_2 : decode cX3_worksThere 2 = .ok (.iconst 0, 1) := by decide +kernel
theorem dX3_worksThere_3 : decode cX3_worksThere 3 = .ok (.istore_n 2, 1) := by decide +kernel
theorem dX3_worksThere_4 : decode cX3_worksThere 4 = .ok (.iload_n 2, 1) := by decide +kernel
theorem dX3_worksThere_5 : decode cX3_worksThere 5 = .ok (.aload_n 0, 1) := by decide +kernel
theorem dX3_worksThere_6 : decode cX3_worksThere 6 = .ok (.getfield 45, 3) := by decide +kernel
theorem dX3_worksThere_9 : decode cX3_worksThere 9 = .ok (.if_icmp .ge 21, 3) := by decide +kernel
theorem dX3_worksThere_12 : decode cX3_worksThere 12 = .ok (.aload_n 0, 1) := by decide +kernel
theorem dX3_worksThere_13 : decode cX3_worksThere 13 = .ok (.getfield 16, 3) := by decide +kernel
theorem dX3_worksThere_16 : decode cX3_worksThere 16 = .ok (.iload_n 2, 1) := by decide +kernel
theorem dX3_worksThere_17 : decode cX3_worksThere 17 = .ok (.baload, 1) := by decide +kernel
theorem dX3_worksThere_18 : decode cX3_worksThere 18 = .ok (.ifCond .eq 6, 3) := by decide +kernel
theorem dX3_worksThere_21 : decode cX3_worksThere 21 = .ok (.iinc 1 1, 3) := by decide +kernel
theorem dX3_worksThere_24 : decode cX3_worksThere 24 = .ok (.iinc 2 1, 3) := by decide +kernel
theorem dX3_worksThere_27 : decode cX3_worksThere 27 = .ok (.goto (-23), 3) := by decide +kernel
theorem dX3_worksThere_30 : decode cX3_worksThere 30 = .ok (.iload_n 1, 1) := by decide +kernel
theorem dX3_worksThere_31 : decode cX3_worksThere 31 = .ok (.ireturn, 1) := by decide +kernel
theorem dX3_missingThere_0 : decode cX3_missingThere 0 = .ok (.iconst 0, 1) := by decide +kernel
theorem dX3_missingThere_1 : decode cX3_missingThere 1 = .ok (.istore_n 1, 1) := by decide +kernel
theorem dX3_missingThere_2 : decode cX3_missingThere 2 = .ok (.iconst 0, 1) := by decide +kernel
theorem dX3_missingThere_3 : decode cX3_missingThere 3 = .ok (.istore_n 2, 1) := by decide +kernel
theorem dX3_missingThere_4 : decode cX3_missingThere 4 = .ok (.iload_n 2, 1) := by decide +kernel
theorem dX3_missingThere_5 : decode cX3_missingThere 5 = .ok (.aload_n 0, 1) := by decide +kernel
theorem dX3_missingThere_6 : decode cX3_missingThere 6 = .ok (.getfield 45, 3) := by decide +kernel
theorem dX3_missingThere_9 : decode cX3_missingThere 9 = .ok (.if_icmp .ge 66, 3) := by decide +kernel
theorem dX3_missingThere_12 : decode cX3_missingThere 12 = .ok (.iconst 0, 1) := by decide +kernel
theorem dX3_missingThere_13 : decode cX3_missingThere 13 = .ok (.istore_n 3, 1) := by decide +kernel
theorem dX3_missingThere_14 : decode cX3_missingThere 14 = .ok (.iload_n 3, 1) := by decide +kernel
theorem dX3_missingThere_15 : decode cX3_missingThere 15 = .ok (.aload_n 0, 1) := by decide +kernel
theorem dX3_missingThere_16 : decode cX3_missingThere 16 = .ok (.getfield 49, 3) := by decide +kernel
theorem dX3_missingThere_19 : decode cX3_missingThere 19 = .ok (.aload_n 0, 1) := by decide +kernel
theorem dX3_missingThere_20 : decode cX3_missingThere 20 = .ok (.getfield 52, 3) := by decide +kernel
theorem dX3_missingThere_23 : decode cX3_missingThere 23 = .ok (.iadd, 1) := by decide +kernel
theorem dX3_missingThere_24 : decode cX3_missingThere 24 = .ok (.if_icmp .ge 45, 3) := by decide +kernel
theorem dX3_missingThere_27 : decode cX3_missingThere 27 = .ok (.iload_n 2, 1) := by decide +kernel
theorem dX3_missingThere_28 : decode cX3_missingThere 28 = .ok (.iconst 4, 1) := by decide +kernel
theorem dX3_missingThere_29 : decode cX3_missingThere 29 = .ok (.imul, 1) := by decide +kernel
theorem dX3_missingThere_30 : decode cX3_missingThere 30 = .ok (.iload_n 3, 1) := by decide +kernel
theorem dX3_missingThere_31 : decode cX3_missingThere 31 = .ok (.iadd, 1) := by decide +kernel
theorem dX3_missingThere_32 : decode cX3_missingThere 32 = .ok (.istore 4, 2) := by decide +kernel
theorem dX3_missingThere_34 : decode cX3_missingThere 34 = .ok (.aload_n 0, 1) := by decide +kernel
theorem dX3_missingThere_35 : decode cX3_missingThere 35 = .ok (.getfield 16, 3) := by decide +kernel
theorem dX3_missingThere_38 : decode cX3_missingThere 38 = .ok (.iload_n 2, 1) := by decide +kernel
theorem dX3_missingThere_39 : decode cX3_missingThere 39 = .ok (.baload, 1) := by decide +kernel
theorem dX3_missingThere_40 : decode cX3_missingThere 40 = .ok (.ifCond .eq 23, 3) := by decide +kernel
theorem dX3_missingThere_43 : decode cX3_missingThere 43 = .ok (.aload_n 0, 1) := by decide +kernel
theorem dX3_missingThere_44 : decode cX3_missingThere 44 = .ok (.getfield 9, 3) := by decide +kernel
theorem dX3_missingThere_47 : decode cX3_missingThere 47 = .ok (.iload 4, 2) := by decide +kernel
theorem dX3_missingThere_49 : decode cX3_missingThere 49 = .ok (.iaload, 1) := by decide +kernel
theorem dX3_missingThere_50 : decode cX3_missingThere 50 = .ok (.aload_n 0, 1) := by decide +kernel
theorem dX3_missingThere_51 : decode cX3_missingThere 51 = .ok (.getfield 13, 3) := by decide +kernel
theorem dX3_missingThere_54 : decode cX3_missingThere 54 = .ok (.iload 4, 2) := by decide +kernel
theorem dX3_missingThere_56 : decode cX3_missingThere 56 = .ok (.iaload, 1) := by decide +kernel
theorem dX3_missingThere_57 : decode cX3_missingThere 57 = .ok (.if_icmp .ge 6, 3) := by decide +kernel
theorem dX3_missingThere_60 : decode cX3_missingThere 60 = .ok (.iinc 1 1, 3) := by decide +kernel
theorem dX3_missingThere_63 : decode cX3_missingThere 63 = .ok (.iinc 3 1, 3) := by decide +kernel
theorem dX3_missingThere_66 : decode cX3_missingThere 66 = .ok (.goto (-52), 3) := by decide +kernel
theorem dX3_missingThere_69 : decode cX3_missingThere 69 = .ok (.iinc 2 1, 3) := by decide +kernel
theorem dX3_missingThere_72 : decode cX3_missingThere 72 = .ok (.goto (-68), 3) := by decide +kernel
theorem dX3_missingThere_75 : decode cX3_missingThere 75 = .ok (.iload_n 1, 1) := by decide +kernel
theorem dX3_missingThere_76 : decode cX3_missingThere 76 = .ok (.ireturn, 1) := by decide +kernel
set_option maxRecDepth 20000 in
theorem ggX3_someMayBeBare_X3_areZero : GoodIn wsX3_someMayBeBare wsX3_areZero := goodIn_r _ [9] rfl (by decide +kernel)
set_option maxRecDepth 20000 in
theorem gX3_someMayBeBare_X3_areZero : GoodIn wsX3_someMayBeBare (va_wsS RX3 180 yX3_areZero wsX3_areZero) := goodIn_app (goodIn_c (List.mem_of_getElem? (i := 6) rfl) rfl (goodIn_c (List.mem_of_getElem? (i := 7) rfl) rfl (goodIn_c (List.mem_of_getElem? (i := 8) rfl) rfl (goodIn_nil)))) ggX3_someMayBeBare_X3_areZero
theorem dX3_someMayBeBare_0 : decode cX3_someMayBeBare 0 = .ok (.iconst 0, 1) := by decide +kernel
theorem dX3_someMayBeBare_1 : decode cX3_someMayBeBare 1 = .ok (.istore_n 1, 1) := by decide +kernel
theorem dX3_someMayBeBare_2 : decode cX3_someMayBeBare 2 = .ok (.iload_n 1, 1) := by decide +kernel
theorem dX3_someMayBeBare_3 : decode cX3_someMayBeBare 3 = .ok (.aload_n 0, 1) := by decide +kernel
theorem dX3_someMayBeBare_4 : decode cX3_someMayBeBare 4 = .ok (.getfield 45, 3) := by decide +kernel
theorem dX3_someMayBeBare_7 : decode cX3_someMayBeBare 7 = .ok (.if_icmp .ge 60, 3) := by decide +kernel
theorem dX3_someMayBeBare_10 : decode cX3_someMayBeBare 10 = .ok (.aload_n 0, 1) := by decide +kernel
theorem dX3_someMayBeBare_11 : decode cX3_someMayBeBare 11 = .ok (.getfield 16, 3) := by decide +kernel
theorem dX3_someMayBeBare_14 : decode cX3_someMayBeBare 14 = .ok (.iload_n 1, 1) := by decide +kernel
theorem dX3_someMayBeBare_15 : decode cX3_someMayBeBare 15 = .ok (.baload, 1) := by decide +kernel
theorem dX3_someMayBeBare_16 : decode cX3_someMayBeBare 16 = .ok (.ifCond .eq 45, 3) := by decide +kernel
theorem dX3_someMayBeBare_19 : decode cX3_someMayBeBare 19 = .ok (.aload_n 0, 1) := by decide +kernel
theorem dX3_someMayBeBare_20 : decode cX3_someMayBeBare 20 = .ok (.getfield 9, 3) := by decide +kernel
theorem dX3_someMayBeBare_23 : decode cX3_someMayBeBare 23 = .ok (.iload_n 1, 1) := by decide +kernel
theorem dX3_someMayBeBare_24 : decode cX3_someMayBeBare 24 = .ok (.iconst 0, 1) := by decide +kernel
theorem dX3_someMayBeBare_25 : decode cX3_someMayBeBare 25 = .ok (.aload_n 0, 1) := by decide +kernel
theorem dX3_someMayBeBare_26 : decode cX3_someMayBeBare 26 = .ok (.getfield 49, 3) := by decide +kernel
theorem dX3_someMayBeBare_29 : decode cX3_someMayBeBare 29 = .ok (.invokestatic 180, 3) := by decide +kernel
theorem dX3_someMayBeBare_32 : decode cX3_someMayBeBare 32 = .ok (.ifCond .ne 27, 3) := by decide +kernel
theorem dX3_someMayBeBare_35 : decode cX3_someMayBeBare 35 = .ok (.aload_n 0, 1) := by decide +kernel
theorem dX3_someMayBeBare_36 : decode cX3_someMayBeBare 36 = .ok (.getfield 9, 3) := by decide +kernel
theorem dX3_someMayBeBare_39 : decode cX3_someMayBeBare 39 = .ok (.iload_n 1, 1) := by decide +kernel
theorem dX3_someMayBeBare_40 : decode cX3_someMayBeBare 40 = .ok (.aload_n 0, 1) := by decide +kernel
theorem dX3_someMayBeBare_41 : decode cX3_someMayBeBare 41 = .ok (.getfield 49, 3) := by decide +kernel
theorem dX3_someMayBeBare_44 : decode cX3_someMayBeBare 44 = .ok (.aload_n 0, 1) := by decide +kernel
theorem dX3_someMayBeBare_45 : decode cX3_someMayBeBare 45 = .ok (.getfield 49, 3) := by decide +kernel
theorem dX3_someMayBeBare_48 : decode cX3_someMayBeBare 48 = .ok (.aload_n 0, 1) := by decide +kernel
theorem dX3_someMayBeBare_49 : decode cX3_someMayBeBare 49 = .ok (.getfield 52, 3) := by decide +kernel
theorem dX3_someMayBeBare_52 : decode cX3_someMayBeBare 52 = .ok (.iadd, 1) := by decide +kernel
theorem dX3_someMayBeBare_53 : decode cX3_someMayBeBare 53 = .ok (.invokestatic 180, 3) := by decide +kernel
theorem dX3_someMayBeBare_56 : decode cX3_someMayBeBare 56 = .ok (.ifCond .eq 5, 3) := by decide +kernel
theorem dX3_someMayBeBare_59 : decode cX3_someMayBeBare 59 = .ok (.iconst 1, 1) := by decide +kernel
theorem dX3_someMayBeBare_60 : decode cX3_someMayBeBare 60 = .ok (.ireturn, 1) := by decide +kernel
theorem dX3_someMayBeBare_61 : decode cX3_someMayBeBare 61 = .ok (.iinc 1 1, 3) := by decide +kernel
theorem dX3_someMayBeBare_64 : decode cX3_someMayBeBare 64 = .ok (.goto (-62), 3) := by decide +kernel
theorem dX3_someMayBeBare_67 : decode cX3_someMayBeBare 67 = .ok (.iconst 0, 1) := by decide +kernel
theorem dX3_someMayBeBare_68 : decode cX3_someMayBeBare 68 = .ok (.ireturn, 1) := by decide +kernel
theorem dX3_areZero_0 : decode cX3_areZero 0 = .ok (.iload_n 2, 1) := by decide +kernel
theorem dX3_areZero_1 : decode cX3_areZero 1 = .ok (.istore 4, 2) := by decide +kernel
theorem dX3_areZero_3 : decode cX3_areZero 3 = .ok (.iload 4, 2) := by decide +kernel
theorem dX3_areZero_5 : decode cX3_areZero 5 = .ok (.iload_n 3, 1) := by decide +kernel
theorem dX3_areZero_6 : decode cX3_areZero 6 = .ok (.if_icmp .ge 22, 3) := by decide +kernel
theorem dX3_areZero_9 : decode cX3_areZero 9 = .ok (.aload_n 0, 1) := by decide +kernel
theorem dX3_areZero_10 : decode cX3_areZero 10 = .ok (.iload_n 1, 1) := by decide +kernel
theorem dX3_areZero_11 : decode cX3_areZero 11 = .ok (.iconst 4, 1) := by decide +kernel
theorem dX3_areZero_12 : decode cX3_areZero 12 = .ok (.imul, 1) := by decide +kernel
theorem dX3_areZero_13 : decode cX3_areZero 13 = .ok (.iload 4, 2) := by decide +kernel
theorem dX3_areZero_15 : decode cX3_areZero 15 = .ok (.iadd, 1) := by decide +kernel
theorem dX3_areZero_16 : decode cX3_areZero 16 = .ok (.iaload, 1) := by decide +kernel
theorem dX3_areZero_17 : decode cX3_areZero 17 = .ok (.ifCond .eq 5, 3) := by decide +kernel
theorem dX3_areZero_20 : decode cX3_areZero 20 = .ok (.iconst 0, 1) := by decide +kernel
theorem dX3_areZero_21 : decode cX3_areZero 21 = .ok (.ireturn, 1) := by decide +kernel
theorem dX3_areZero_22 : decode cX3_areZero 22 = .ok (.iinc 4 1, 3) := by decide +kernel
theorem dX3_areZero_25 : decode cX3_areZero 25 = .ok (.goto (-22), 3) := by decide +kernel
theorem dX3_areZero_28 : decode cX3_areZero 28 = .ok (.iconst 1, 1) := by decide +kernel
theorem dX3_areZero_29 : decode cX3_areZero 29 = .ok (.ireturn, 1) := by decide +kernel
set_option maxRecDepth 20000 in
theorem ggX3_partOf_X1_isNone : GoodIn wsX3_partOf wsX1_isNone := goodIn_r _ [5, 6, 7, 8] rfl (by decide +kernel)
set_option maxRecDepth 20000 in
theorem gX3_partOf_X1_isNone_n184 : GoodIn wsX3_partOf (wsX1_isNone) := ggX3_partOf_X1_isNone
theorem dX3_partOf_0 : decode cX3_partOf 0 = .ok (.aload_n 0, 1) := by decide +kernel
theorem dX3_partOf_1 : decode cX3_partOf 1 = .ok (.invokevirtual 184, 3) := by decide +kernel
theorem dX3_partOf_4 : decode cX3_partOf 4 = .ok (.ifCond .eq 7, 3) := by decide +kernel
theorem dX3_partOf_7 : decode cX3_partOf 7 = .ok (.ldc2_w 78, 3) := by decide +kernel
theorem dX3_partOf_10 : decode cX3_partOf 10 = .ok (.lreturn, 1) := by decide +kernel
theorem dX3_partOf_11 : decode cX3_partOf 11 = .ok (.iload_n 1, 1) := by decide +kernel
theorem dX3_partOf_12 : decode cX3_partOf 12 = .ok (.ifCond .ne 8, 3) := by decide +kernel
theorem dX3_partOf_15 : decode cX3_partOf 15 = .ok (.aload_n 0, 1) := by decide +kernel
theorem dX3_partOf_16 : decode cX3_partOf 16 = .ok (.getfield 88, 3) := by decide +kernel
theorem dX3_partOf_19 : decode cX3_partOf 19 = .ok (.lreturn, 1) := by decide +kernel
theorem dX3_partOf_20 : decode cX3_partOf 20 = .ok (.iload_n 1, 1) := by decide +kernel
theorem dX3_partOf_21 : decode cX3_partOf 21 = .ok (.iconst 1, 1) := by decide +kernel
theorem dX3_partOf_22 : decode cX3_partOf 22 = .ok (.if_icmp .ne 10, 3) := by decide +kernel
theorem dX3_partOf_25 : decode cX3_partOf 25 = .ok (.aload_n 0, 1) := by decide +kernel
theorem dX3_partOf_26 : decode cX3_partOf 26 = .ok (.getfield 94, 3) := by decide +kernel
theorem dX3_partOf_29 : decode cX3_partOf 29 = .ok (.goto 6, 3) := by decide +kernel
theorem dX3_partOf_32 : decode cX3_partOf 32 = .ok (.ldc2_w 78, 3) := by decide +kernel
theorem dX3_partOf_35 : decode cX3_partOf 35 = .ok (.lreturn, 1) := by decide +kernel
set_option maxRecDepth 20000 in
theorem ggX3_coneOf_X0_build : GoodIn wsX3_coneOf wsX0_build := goodIn_r _ [6, 7, 8, 9, 10, 11, 12, 4, 13, 14, 15, 16, 17, 18, 19, 20, 21, 22, 23, 24, 25, 26, 27, 28, 29, 30, 31, 32, 33, 34, 35, 36, 37, 38, 39, 40, 41, 42, 43, 44, 45, 46, 47, 48, 49, 50, 51, 52, 53, 54, 55, 56, 57, 58, 59, 60, 61, 62, 63, 64, 65, 66, 67, 68, 69, 70, 71, 72, 73, 74, 75, 76, 95, 96, 97, 98, 87, 88, 89, 90, 91, 92, 93, 94] rfl (by decide +kernel)
set_option maxRecDepth 20000 in
theorem gX3_coneOf_X0_build_n187 : GoodIn wsX3_coneOf (wsX0_build) := ggX3_coneOf_X0_build
theorem dX3_coneOf_0 : decode cX3_coneOf 0 = .ok (.aload_n 0, 1) := by decide +kernel
theorem dX3_coneOf_1 : decode cX3_coneOf 1 = .ok (.getfield 32, 3) := by decide +kernel
theorem dX3_coneOf_4 : decode cX3_coneOf 4 = .ok (.iload_n 1, 1) := by decide +kernel
theorem dX3_coneOf_5 : decode cX3_coneOf 5 = .ok (.aaload, 1) := by decide +kernel
theorem dX3_coneOf_6 : decode cX3_coneOf 6 = .ok (.astore_n 2, 1) := by decide +kernel
theorem dX3_coneOf_7 : decode cX3_coneOf 7 = .ok (.aload_n 2, 1) := by decide +kernel
theorem dX3_coneOf_8 : decode cX3_coneOf 8 = .ok (.getfield 173, 3) := by decide +kernel
theorem dX3_coneOf_11 : decode cX3_coneOf 11 = .ok (.ifCond .ne 17, 3) := by decide +kernel
theorem dX3_coneOf_14 : decode cX3_coneOf 14 = .ok (.aload_n 2, 1) := by decide +kernel
theorem dX3_coneOf_15 : decode cX3_coneOf 15 = .ok (.aload_n 0, 1) := by decide +kernel
theorem dX3_coneOf_16 : decode cX3_coneOf 16 = .ok (.getfield 23, 3) := by decide +kernel
theorem dX3_coneOf_19 : decode cX3_coneOf 19 = .ok (.iload_n 1, 1) := by decide +kernel
theorem dX3_coneOf_20 : decode cX3_coneOf 20 = .ok (.invokevirtual 187, 3) := by decide +kernel
theorem dX3_coneOf_23 : decode cX3_coneOf 23 = .ok (.aload_n 2, 1) := by decide +kernel
theorem dX3_coneOf_24 : decode cX3_coneOf 24 = .ok (.iconst 1, 1) := by decide +kernel
theorem dX3_coneOf_25 : decode cX3_coneOf 25 = .ok (.putfield 173, 3) := by decide +kernel
theorem dX3_coneOf_28 : decode cX3_coneOf 28 = .ok (.aload_n 2, 1) := by decide +kernel
theorem dX3_coneOf_29 : decode cX3_coneOf 29 = .ok (.areturn, 1) := by decide +kernel
set_option maxRecDepth 20000 in
theorem ggX3_toldShare_X2_shareByOne : GoodIn wsX3_toldShare wsX2_shareByOne := goodIn_r _ [5, 6, 7, 8, 9, 10, 11, 12, 13, 3, 14, 15, 16, 17, 18, 19, 20, 21, 22, 23, 24, 25, 26, 27, 28, 29, 30, 115, 116, 117, 118, 119, 120] rfl (by decide +kernel)
set_option maxRecDepth 20000 in
theorem gX3_toldShare_X2_shareByOne_n191 : GoodIn wsX3_toldShare (wsX2_shareByOne) := ggX3_toldShare_X2_shareByOne
set_option maxRecDepth 20000 in
theorem ggX3_toldShare_X3_coneOf : GoodIn wsX3_toldShare wsX3_coneOf := goodIn_r _ [34, 35, 1, 36, 37, 38, 39, 40, 41, 42, 43, 44, 45, 46, 47, 48, 49, 3, 50, 51, 7, 12, 13, 14, 15, 52, 53, 54, 55, 56, 57, 58, 59, 60, 61, 62, 63, 64, 65, 66, 67, 68, 69, 70, 71, 72, 73, 74, 75, 76, 77, 78, 79, 80, 81, 82, 83, 84, 28, 29, 30, 85, 86, 87, 88, 89, 90, 91, 92, 93, 94, 95, 96, 97, 98, 99, 100, 105, 106, 107, 108, 109, 110, 111, 112, 113, 114, 121, 122, 123, 124, 125, 126, 127, 128, 115, 116, 117, 118] rfl (by decide +kernel)
set_option maxRecDepth 20000 in
theorem gX3_toldShare_X3_coneOf : GoodIn wsX3_toldShare (wsV RX3 100 RX3 yX3_coneOf wsX3_coneOf) := goodIn_app (goodIn_c (List.mem_of_getElem? (i := 31) rfl) rfl (goodIn_c (List.mem_of_getElem? (i := 32) rfl) rfl (goodIn_c (List.mem_of_getElem? (i := 33) rfl) rfl (goodIn_c (List.mem_of_getElem? (i := 29) rfl) rfl (goodIn_nil))))) ggX3_toldShare_X3_coneOf
set_option maxRecDepth 20000 in
theorem ggX3_toldShare_X0_shareOf : GoodIn wsX3_toldShare wsX0_shareOf := goodIn_r _ [103, 47, 104, 9, 10, 62, 63, 64, 37, 65, 40, 48, 12, 3, 13, 14, 15, 66, 67, 68, 69, 41, 21, 22, 23, 24, 25, 26, 27, 28, 29, 30, 121, 122, 123, 124, 125, 126, 127, 128, 119, 120, 115, 116, 117, 118] rfl (by decide +kernel)
set_option maxRecDepth 20000 in
theorem gX3_toldShare_X0_shareOf_n195 : GoodIn wsX3_toldShare (wsX0_shareOf) := ggX3_toldShare_X0_shareOf
theorem dX3_toldShare_0 : decode cX3_toldShare 0 = .ok (.iload_n 1, 1) := by decide +kernel
theorem dX3_toldShare_1 : decode cX3_toldShare 1 = .ok (.iconst 3, 1) := by decide +kernel
theorem dX3_toldShare_2 : decode cX3_toldShare 2 = .ok (.if_icmp .ne 14, 3) := by decide +kernel
theorem dX3_toldShare_5 : decode cX3_toldShare 5 = .ok (.aload_n 0, 1) := by decide +kernel
theorem dX3_toldShare_6 : decode cX3_toldShare 6 = .ok (.getfield 23, 3) := by decide +kernel
theorem dX3_toldShare_9 : decode cX3_toldShare 9 = .ok (.iload_n 2, 1) := by decide +kernel
theorem dX3_toldShare_10 : decode cX3_toldShare 10 = .ok (.invokevirtual 191, 3) := by decide +kernel
theorem dX3_toldShare_13 : decode cX3_toldShare 13 = .ok (.goto 16, 3) := by decide +kernel
theorem dX3_toldShare_16 : decode cX3_toldShare 16 = .ok (.aload_n 0, 1) := by decide +kernel
theorem dX3_toldShare_17 : decode cX3_toldShare 17 = .ok (.iload_n 1, 1) := by decide +kernel
theorem dX3_toldShare_18 : decode cX3_toldShare 18 = .ok (.invokevirtual 100, 3) := by decide +kernel
theorem dX3_toldShare_21 : decode cX3_toldShare 21 = .ok (.aload_n 0, 1) := by decide +kernel
theorem dX3_toldShare_22 : decode cX3_toldShare 22 = .ok (.getfield 23, 3) := by decide +kernel
theorem dX3_toldShare_25 : decode cX3_toldShare 25 = .ok (.iload_n 2, 1) := by decide +kernel
theorem dX3_toldShare_26 : decode cX3_toldShare 26 = .ok (.invokevirtual 195, 3) := by decide +kernel
theorem dX3_toldShare_29 : decode cX3_toldShare 29 = .ok (.areturn, 1) := by decide +kernel
set_option maxRecDepth 20000 in
theorem ggX3_askedShare_X2_shareByOne : GoodIn wsX3_askedShare wsX2_shareByOne := goodIn_r _ [9, 10, 11, 12, 3, 4, 13, 14, 15, 7, 16, 17, 18, 19, 20, 21, 22, 23, 24, 25, 26, 27, 28, 29, 30, 31, 32, 114, 115, 116, 117, 112, 113] rfl (by decide +kernel)
set_option maxRecDepth 20000 in
theorem gX3_askedShare_X2_shareByOne_n191 : GoodIn wsX3_askedShare (wsX2_shareByOne) := ggX3_askedShare_X2_shareByOne
set_option maxRecDepth 20000 in
theorem ggX3_askedShare_X2_firstPart : GoodIn wsX3_askedShare wsX2_firstPart := goodIn_r _ [35, 11, 114, 115, 116, 117] rfl (by decide +kernel)
set_option maxRecDepth 20000 in
theorem gX3_askedShare_X2_firstPart_n199 : GoodIn wsX3_askedShare (wsX2_firstPart) := ggX3_askedShare_X2_firstPart
set_option maxRecDepth 20000 in
theorem ggX3_askedShare_X1_init : GoodIn wsX3_askedShare wsX1_init := goodIn_r _ [24, 25, 26, 27, 28, 29, 30, 31, 32, 112, 113] rfl (by decide +kernel)
set_option maxRecDepth 20000 in
theorem gX3_askedShare_X1_init_n202 : GoodIn wsX3_askedShare (wsX1_init) := ggX3_askedShare_X1_init
set_option maxRecDepth 20000 in
theorem ggX3_askedShare_X0_build : GoodIn wsX3_askedShare wsX0_build := goodIn_r _ [39, 40, 41, 42, 43, 44, 45, 37, 46, 47, 48, 33, 7, 34, 35, 11, 14, 15, 16, 17, 49, 50, 51, 52, 53, 54, 55, 56, 57, 58, 59, 60, 61, 62, 63, 64, 65, 66, 67, 68, 69, 70, 71, 72, 73, 74, 75, 76, 77, 78, 79, 80, 81, 30, 31, 32, 82, 83, 84, 85, 86, 87, 88, 89, 90, 91, 92, 93, 94, 95, 96, 97, 114, 115, 116, 117, 118, 119, 120, 121, 122, 123, 124, 125] rfl (by decide +kernel)
set_option maxRecDepth 20000 in
theorem gX3_askedShare_X0_build_n187 : GoodIn wsX3_askedShare (wsX0_build) := ggX3_askedShare_X0_build
set_option maxRecDepth 20000 in
theorem ggX3_askedShare_X0_shareOf : GoodIn wsX3_askedShare wsX0_shareOf := goodIn_r _ [100, 47, 101, 3, 4, 59, 60, 61, 37, 62, 40, 48, 14, 7, 15, 16, 17, 63, 64, 65, 66, 41, 23, 24, 25, 26, 27, 28, 29, 30, 31, 32, 118, 119, 120, 121, 122, 123, 124, 125, 112, 113, 114, 115, 116, 117] rfl (by decide +kernel)
set_option maxRecDepth 20000 in
theorem gX3_askedShare_X0_shareOf_n195 : GoodIn wsX3_askedShare (wsX0_shareOf) := ggX3_askedShare_X0_shareOf
theorem dX3_askedShare_0 : decode cX3_askedShare 0 = .ok (.iload_n 1, 1) := by decide +kernel
theorem dX3_askedShare_1 : decode cX3_askedShare 1 = .ok (.iconst 3, 1) := by decide +kernel
theorem dX3_askedShare_2 : decode cX3_askedShare 2 = .ok (.if_icmp .ne 12, 3) := by decide +kernel
theorem dX3_askedShare_5 : decode cX3_askedShare 5 = .ok (.aload_n 0, 1) := by decide +kernel
theorem dX3_askedShare_6 : decode cX3_askedShare 6 = .ok (.getfield 27, 3) := by decide +kernel
theorem dX3_askedShare_9 : decode cX3_askedShare 9 = .ok (.iload_n 2, 1) := by decide +kernel
theorem dX3_askedShare_10 : decode cX3_askedShare 10 = .ok (.invokevirtual 191, 3) := by decide +kernel
theorem dX3_askedShare_13 : decode cX3_askedShare 13 = .ok (.areturn, 1) := by decide +kernel
theorem dX3_askedShare_14 : decode cX3_askedShare 14 = .ok (.aload_n 0, 1) := by decide +kernel
theorem dX3_askedShare_15 : decode cX3_askedShare 15 = .ok (.getfield 27, 3) := by decide +kernel
theorem dX3_askedShare_18 : decode cX3_askedShare 18 = .ok (.invokevirtual 199, 3) := by decide +kernel
theorem dX3_askedShare_21 : decode cX3_askedShare 21 = .ok (.iconst (-1), 1) := by decide +kernel
theorem dX3_askedShare_22 : decode cX3_askedShare 22 = .ok (.if_icmp .ne 13, 3) := by decide +kernel
theorem dX3_askedShare_25 : decode cX3_askedShare 25 = .ok (.new 89, 3) := by decide +kernel
theorem dX3_askedShare_28 : decode cX3_askedShare 28 = .ok (.dup, 1) := by decide +kernel
theorem dX3_askedShare_29 : decode cX3_askedShare 29 = .ok (.lconst 0, 1) := by decide +kernel
theorem dX3_askedShare_30 : decode cX3_askedShare 30 = .ok (.lconst 0, 1) := by decide +kernel
theorem dX3_askedShare_31 : decode cX3_askedShare 31 = .ok (.invokespecial 202, 3) := by decide +kernel
theorem dX3_askedShare_34 : decode cX3_askedShare 34 = .ok (.areturn, 1) := by decide +kernel
theorem dX3_askedShare_35 : decode cX3_askedShare 35 = .ok (.aload_n 0, 1) := by decide +kernel
theorem dX3_askedShare_36 : decode cX3_askedShare 36 = .ok (.getfield 37, 3) := by decide +kernel
theorem dX3_askedShare_39 : decode cX3_askedShare 39 = .ok (.aload_n 0, 1) := by decide +kernel
theorem dX3_askedShare_40 : decode cX3_askedShare 40 = .ok (.getfield 27, 3) := by decide +kernel
theorem dX3_askedShare_43 : decode cX3_askedShare 43 = .ok (.iload_n 1, 1) := by decide +kernel
theorem dX3_askedShare_44 : decode cX3_askedShare 44 = .ok (.invokevirtual 187, 3) := by decide +kernel
theorem dX3_askedShare_47 : decode cX3_askedShare 47 = .ok (.aload_n 0, 1) := by decide +kernel
theorem dX3_askedShare_48 : decode cX3_askedShare 48 = .ok (.getfield 37, 3) := by decide +kernel
theorem dX3_askedShare_51 : decode cX3_askedShare 51 = .ok (.aload_n 0, 1) := by decide +kernel
theorem dX3_askedShare_52 : decode cX3_askedShare 52 = .ok (.getfield 27, 3) := by decide +kernel
theorem dX3_askedShare_55 : decode cX3_askedShare 55 = .ok (.iload_n 2, 1) := by decide +kernel
theorem dX3_askedShare_56 : decode cX3_askedShare 56 = .ok (.invokevirtual 195, 3) := by decide +kernel
theorem dX3_askedShare_59 : decode cX3_askedShare 59 = .ok (.areturn, 1) := by decide +kernel
theorem dX3_commonDivisor_0 : decode cX3_commonDivisor 0 = .ok (.lload_n 0, 1) := by decide +kernel
theorem dX3_commonDivisor_1 : decode cX3_commonDivisor 1 = .ok (.lconst 0, 1) := by decide +kernel
theorem dX3_commonDivisor_2 : decode cX3_commonDivisor 2 = .ok (.lcmp, 1) := by decide +kernel
theorem dX3_commonDivisor_3 : decode cX3_commonDivisor 3 = .ok (.ifCond .ge 8, 3) := by decide +kernel
theorem dX3_commonDivisor_6 : decode cX3_commonDivisor 6 = .ok (.lload_n 0, 1) := by decide +kernel
theorem dX3_commonDivisor_7 : decode cX3_commonDivisor 7 = .ok (.lneg, 1) := by decide +kernel
theorem dX3_commonDivisor_8 : decode cX3_commonDivisor 8 = .ok (.goto 4, 3) := by decide +kernel
theorem dX3_commonDivisor_11 : decode cX3_commonDivisor 11 = .ok (.lload_n 0, 1) := by decide +kernel
theorem dX3_commonDivisor_12 : decode cX3_commonDivisor 12 = .ok (.lstore 4, 2) := by decide +kernel
theorem dX3_commonDivisor_14 : decode cX3_commonDivisor 14 = .ok (.lload_n 2, 1) := by decide +kernel
theorem dX3_commonDivisor_15 : decode cX3_commonDivisor 15 = .ok (.lconst 0, 1) := by decide +kernel
theorem dX3_commonDivisor_16 : decode cX3_commonDivisor 16 = .ok (.lcmp, 1) := by decide +kernel
theorem dX3_commonDivisor_17 : decode cX3_commonDivisor 17 = .ok (.ifCond .ge 8, 3) := by decide +kernel
theorem dX3_commonDivisor_20 : decode cX3_commonDivisor 20 = .ok (.lload_n 2, 1) := by decide +kernel
theorem dX3_commonDivisor_21 : decode cX3_commonDivisor 21 = .ok (.lneg, 1) := by decide +kernel
theorem dX3_commonDivisor_22 : decode cX3_commonDivisor 22 = .ok (.goto 4, 3) := by decide +kernel
theorem dX3_commonDivisor_25 : decode cX3_commonDivisor 25 = .ok (.lload_n 2, 1) := by decide +kernel
theorem dX3_commonDivisor_26 : decode cX3_commonDivisor 26 = .ok (.lstore 6, 2) := by decide +kernel
theorem dX3_commonDivisor_28 : decode cX3_commonDivisor 28 = .ok (.iconst 0, 1) := by decide +kernel
theorem dX3_commonDivisor_29 : decode cX3_commonDivisor 29 = .ok (.istore 8, 2) := by decide +kernel
theorem dX3_commonDivisor_31 : decode cX3_commonDivisor 31 = .ok (.iload 8, 2) := by decide +kernel
theorem dX3_commonDivisor_33 : decode cX3_commonDivisor 33 = .ok (.bipush 100, 2) := by decide +kernel
theorem dX3_commonDivisor_35 : decode cX3_commonDivisor 35 = .ok (.if_icmp .ge 31, 3) := by decide +kernel
theorem dX3_commonDivisor_38 : decode cX3_commonDivisor 38 = .ok (.lload 6, 2) := by decide +kernel
theorem dX3_commonDivisor_40 : decode cX3_commonDivisor 40 = .ok (.lconst 0, 1) := by decide +kernel
theorem dX3_commonDivisor_41 : decode cX3_commonDivisor 41 = .ok (.lcmp, 1) := by decide +kernel
theorem dX3_commonDivisor_42 : decode cX3_commonDivisor 42 = .ok (.ifCond .eq 24, 3) := by decide +kernel
theorem dX3_commonDivisor_45 : decode cX3_commonDivisor 45 = .ok (.lload 4, 2) := by decide +kernel
theorem dX3_commonDivisor_47 : decode cX3_commonDivisor 47 = .ok (.lload 6, 2) := by decide +kernel
theorem dX3_commonDivisor_49 : decode cX3_commonDivisor 49 = .ok (.lrem, 1) := by decide +kernel
theorem dX3_commonDivisor_50 : decode cX3_commonDivisor 50 = .ok (.lstore 9, 2) := by decide +kernel
theorem dX3_commonDivisor_52 : decode cX3_commonDivisor 52 = .ok (.lload 6, 2) := by decide +kernel
theorem dX3_commonDivisor_54 : decode cX3_commonDivisor 54 = .ok (.lstore 4, 2) := by decide +kernel
theorem dX3_commonDivisor_56 : decode cX3_commonDivisor 56 = .ok (.lload 9, 2) := by decide +kernel
theorem dX3_commonDivisor_58 : decode cX3_commonDivisor 58 = .ok (.lstore 6, 2) := by decide +kernel
theorem dX3_commonDivisor_60 : decode cX3_commonDivisor 60 = .ok (.iinc 8 1, 3) := by decide +kernel
theorem dX3_commonDivisor_63 : decode cX3_commonDivisor 63 = .ok (.goto (-32), 3) := by decide +kernel
theorem dX3_commonDivisor_66 : decode cX3_commonDivisor 66 = .ok (.lload 4, 2) := by decide +kernel
theorem dX3_commonDivisor_68 : decode cX3_commonDivisor 68 = .ok (.lreturn, 1) := by decide +kernel
