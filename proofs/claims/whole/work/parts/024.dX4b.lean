theorem dX4_oneFor_6 : decode cX4_oneFor 6 = .ok (.aload_n 0, 1) := by decide +kernel
theorem dX4_oneFor_7 : decode cX4_oneFor 7 = .ok (.getfield 64, 3) := by decide +kernel
theorem dX4_oneFor_10 : decode cX4_oneFor 10 = .ok (.aload_n 0, 1) := by decide +kernel
theorem dX4_oneFor_11 : decode cX4_oneFor 11 = .ok (.getfield 67, 3) := by decide +kernel
theorem dX4_oneFor_14 : decode cX4_oneFor 14 = .ok (.iadd, 1) := by decide +kernel
theorem dX4_oneFor_15 : decode cX4_oneFor 15 = .ok (.if_icmp .ge 34, 3) := by decide +kernel
theorem dX4_oneFor_18 : decode cX4_oneFor 18 = .ok (.aload_n 0, 1) := by decide +kernel
theorem dX4_oneFor_19 : decode cX4_oneFor 19 = .ok (.getfield 27, 3) := by decide +kernel
theorem dX4_oneFor_22 : decode cX4_oneFor 22 = .ok (.iconst 4, 1) := by decide +kernel
theorem dX4_oneFor_23 : decode cX4_oneFor 23 = .ok (.iload_n 1, 1) := by decide +kernel
theorem dX4_oneFor_24 : decode cX4_oneFor 24 = .ok (.imul, 1) := by decide +kernel
theorem dX4_oneFor_25 : decode cX4_oneFor 25 = .ok (.iload_n 3, 1) := by decide +kernel
theorem dX4_oneFor_26 : decode cX4_oneFor 26 = .ok (.iadd, 1) := by decide +kernel
theorem dX4_oneFor_27 : decode cX4_oneFor 27 = .ok (.iaload, 1) := by decide +kernel
theorem dX4_oneFor_28 : decode cX4_oneFor 28 = .ok (.aload_n 0, 1) := by decide +kernel
theorem dX4_oneFor_29 : decode cX4_oneFor 29 = .ok (.getfield 27, 3) := by decide +kernel
theorem dX4_oneFor_32 : decode cX4_oneFor 32 = .ok (.iconst 4, 1) := by decide +kernel
theorem dX4_oneFor_33 : decode cX4_oneFor 33 = .ok (.iload_n 2, 1) := by decide +kernel
theorem dX4_oneFor_34 : decode cX4_oneFor 34 = .ok (.imul, 1) := by decide +kernel
theorem dX4_oneFor_35 : decode cX4_oneFor 35 = .ok (.iload_n 3, 1) := by decide +kernel
theorem dX4_oneFor_36 : decode cX4_oneFor 36 = .ok (.iadd, 1) := by decide +kernel
theorem dX4_oneFor_37 : decode cX4_oneFor 37 = .ok (.iaload, 1) := by decide +kernel
theorem dX4_oneFor_38 : decode cX4_oneFor 38 = .ok (.if_icmp .ge 5, 3) := by decide +kernel
theorem dX4_oneFor_41 : decode cX4_oneFor 41 = .ok (.iconst 0, 1) := by decide +kernel
theorem dX4_oneFor_42 : decode cX4_oneFor 42 = .ok (.ireturn, 1) := by decide +kernel
theorem dX4_oneFor_43 : decode cX4_oneFor 43 = .ok (.iinc 3 1, 3) := by decide +kernel
theorem dX4_oneFor_46 : decode cX4_oneFor 46 = .ok (.goto (-41), 3) := by decide +kernel
theorem dX4_oneFor_49 : decode cX4_oneFor 49 = .ok (.aload_n 0, 1) := by decide +kernel
theorem dX4_oneFor_50 : decode cX4_oneFor 50 = .ok (.lconst 0, 1) := by decide +kernel
theorem dX4_oneFor_51 : decode cX4_oneFor 51 = .ok (.putfield 134, 3) := by decide +kernel
theorem dX4_oneFor_54 : decode cX4_oneFor 54 = .ok (.aload_n 0, 1) := by decide +kernel
theorem dX4_oneFor_55 : decode cX4_oneFor 55 = .ok (.lconst 1, 1) := by decide +kernel
theorem dX4_oneFor_56 : decode cX4_oneFor 56 = .ok (.putfield 137, 3) := by decide +kernel
theorem dX4_oneFor_59 : decode cX4_oneFor 59 = .ok (.iconst 0, 1) := by decide +kernel
theorem dX4_oneFor_60 : decode cX4_oneFor 60 = .ok (.istore_n 3, 1) := by decide +kernel
theorem dX4_oneFor_61 : decode cX4_oneFor 61 = .ok (.iload_n 3, 1) := by decide +kernel
theorem dX4_oneFor_62 : decode cX4_oneFor 62 = .ok (.aload_n 0, 1) := by decide +kernel
theorem dX4_oneFor_63 : decode cX4_oneFor 63 = .ok (.getfield 64, 3) := by decide +kernel
theorem dX4_oneFor_66 : decode cX4_oneFor 66 = .ok (.if_icmp .ge 88, 3) := by decide +kernel
theorem dX4_oneFor_69 : decode cX4_oneFor 69 = .ok (.aload_n 0, 1) := by decide +kernel
theorem dX4_oneFor_70 : decode cX4_oneFor 70 = .ok (.getfield 27, 3) := by decide +kernel
theorem dX4_oneFor_73 : decode cX4_oneFor 73 = .ok (.iconst 4, 1) := by decide +kernel
theorem dX4_oneFor_74 : decode cX4_oneFor 74 = .ok (.iload_n 1, 1) := by decide +kernel
theorem dX4_oneFor_75 : decode cX4_oneFor 75 = .ok (.imul, 1) := by decide +kernel
theorem dX4_oneFor_76 : decode cX4_oneFor 76 = .ok (.iload_n 3, 1) := by decide +kernel
theorem dX4_oneFor_77 : decode cX4_oneFor 77 = .ok (.iadd, 1) := by decide +kernel
theorem dX4_oneFor_78 : decode cX4_oneFor 78 = .ok (.iaload, 1) := by decide +kernel
theorem dX4_oneFor_79 : decode cX4_oneFor 79 = .ok (.i2l, 1) := by decide +kernel
theorem dX4_oneFor_80 : decode cX4_oneFor 80 = .ok (.lstore 4, 2) := by decide +kernel
theorem dX4_oneFor_82 : decode cX4_oneFor 82 = .ok (.aload_n 0, 1) := by decide +kernel
theorem dX4_oneFor_83 : decode cX4_oneFor 83 = .ok (.getfield 27, 3) := by decide +kernel
theorem dX4_oneFor_86 : decode cX4_oneFor 86 = .ok (.iconst 4, 1) := by decide +kernel
theorem dX4_oneFor_87 : decode cX4_oneFor 87 = .ok (.iload_n 2, 1) := by decide +kernel
theorem dX4_oneFor_88 : decode cX4_oneFor 88 = .ok (.imul, 1) := by decide +kernel
theorem dX4_oneFor_89 : decode cX4_oneFor 89 = .ok (.iload_n 3, 1) := by decide +kernel
theorem dX4_oneFor_90 : decode cX4_oneFor 90 = .ok (.iadd, 1) := by decide +kernel
theorem dX4_oneFor_91 : decode cX4_oneFor 91 = .ok (.iaload, 1) := by decide +kernel
theorem dX4_oneFor_92 : decode cX4_oneFor 92 = .ok (.i2l, 1) := by decide +kernel
theorem dX4_oneFor_93 : decode cX4_oneFor 93 = .ok (.lstore 6, 2) := by decide +kernel
theorem dX4_oneFor_95 : decode cX4_oneFor 95 = .ok (.lload 6, 2) := by decide +kernel
theorem dX4_oneFor_97 : decode cX4_oneFor 97 = .ok (.lconst 0, 1) := by decide +kernel
theorem dX4_oneFor_98 : decode cX4_oneFor 98 = .ok (.lcmp, 1) := by decide +kernel
theorem dX4_oneFor_99 : decode cX4_oneFor 99 = .ok (.ifCond .ne 12, 3) := by decide +kernel
theorem dX4_oneFor_102 : decode cX4_oneFor 102 = .ok (.lload 4, 2) := by decide +kernel
theorem dX4_oneFor_104 : decode cX4_oneFor 104 = .ok (.lconst 0, 1) := by decide +kernel
theorem dX4_oneFor_105 : decode cX4_oneFor 105 = .ok (.lcmp, 1) := by decide +kernel
theorem dX4_oneFor_106 : decode cX4_oneFor 106 = .ok (.ifCond .le 5, 3) := by decide +kernel
theorem dX4_oneFor_109 : decode cX4_oneFor 109 = .ok (.iconst 0, 1) := by decide +kernel
theorem dX4_oneFor_110 : decode cX4_oneFor 110 = .ok (.ireturn, 1) := by decide +kernel
theorem dX4_oneFor_111 : decode cX4_oneFor 111 = .ok (.lload 6, 2) := by decide +kernel
theorem dX4_oneFor_113 : decode cX4_oneFor 113 = .ok (.lconst 0, 1) := by decide +kernel
theorem dX4_oneFor_114 : decode cX4_oneFor 114 = .ok (.lcmp, 1) := by decide +kernel
theorem dX4_oneFor_115 : decode cX4_oneFor 115 = .ok (.ifCond .le 33, 3) := by decide +kernel
theorem dX4_oneFor_118 : decode cX4_oneFor 118 = .ok (.lload 4, 2) := by decide +kernel
theorem dX4_oneFor_120 : decode cX4_oneFor 120 = .ok (.aload_n 0, 1) := by decide +kernel
theorem dX4_oneFor_121 : decode cX4_oneFor 121 = .ok (.getfield 137, 3) := by decide +kernel
theorem dX4_oneFor_124 : decode cX4_oneFor 124 = .ok (.lmul, 1) := by decide +kernel
theorem dX4_oneFor_125 : decode cX4_oneFor 125 = .ok (.aload_n 0, 1) := by decide +kernel
theorem dX4_oneFor_126 : decode cX4_oneFor 126 = .ok (.getfield 134, 3) := by decide +kernel
theorem dX4_oneFor_129 : decode cX4_oneFor 129 = .ok (.lload 6, 2) := by decide +kernel
theorem dX4_oneFor_131 : decode cX4_oneFor 131 = .ok (.lmul, 1) := by decide +kernel
theorem dX4_oneFor_132 : decode cX4_oneFor 132 = .ok (.lcmp, 1) := by decide +kernel
theorem dX4_oneFor_133 : decode cX4_oneFor 133 = .ok (.ifCond .le 15, 3) := by decide +kernel
theorem dX4_oneFor_136 : decode cX4_oneFor 136 = .ok (.aload_n 0, 1) := by decide +kernel
theorem dX4_oneFor_137 : decode cX4_oneFor 137 = .ok (.lload 4, 2) := by decide +kernel
theorem dX4_oneFor_139 : decode cX4_oneFor 139 = .ok (.putfield 134, 3) := by decide +kernel
theorem dX4_oneFor_142 : decode cX4_oneFor 142 = .ok (.aload_n 0, 1) := by decide +kernel
theorem dX4_oneFor_143 : decode cX4_oneFor 143 = .ok (.lload 6, 2) := by decide +kernel
theorem dX4_oneFor_145 : decode cX4_oneFor 145 = .ok (.putfield 137, 3) := by decide +kernel
theorem dX4_oneFor_148 : decode cX4_oneFor 148 = .ok (.iinc 3 1, 3) := by decide +kernel
theorem dX4_oneFor_151 : decode cX4_oneFor 151 = .ok (.goto (-90), 3) := by decide +kernel
theorem dX4_oneFor_154 : decode cX4_oneFor 154 = .ok (.iconst 1, 1) := by decide +kernel
theorem dX4_oneFor_155 : decode cX4_oneFor 155 = .ok (.ireturn, 1) := by decide +kernel
set_option maxRecDepth 20000 in
theorem ggX4_wholes_X4_oneFor : GoodIn wsX4_wholes wsX4_oneFor := goodIn_r _ [11, 12, 13, 14, 3, 6, 15, 16, 17, 18, 19, 20, 21, 22, 23, 24, 25, 26, 27, 28, 29, 30, 31, 32, 33, 34, 35, 36] rfl (by decide +kernel)
set_option maxRecDepth 20000 in
theorem gX4_wholes_X4_oneFor : GoodIn wsX4_wholes (wsV RX4 140 RX4 yX4_oneFor wsX4_oneFor) := goodIn_app (goodIn_c (List.mem_of_getElem? (i := 7) rfl) rfl (goodIn_c (List.mem_of_getElem? (i := 8) rfl) rfl (goodIn_c (List.mem_of_getElem? (i := 9) rfl) rfl (goodIn_c (List.mem_of_getElem? (i := 10) rfl) rfl (goodIn_nil))))) ggX4_wholes_X4_oneFor
theorem dX4_wholes_0 : decode cX4_wholes 0 = .ok (.iconst 0, 1) := by decide +kernel
theorem dX4_wholes_1 : decode cX4_wholes 1 = .ok (.istore_n 2, 1) := by decide +kernel
theorem dX4_wholes_2 : decode cX4_wholes 2 = .ok (.iconst 0, 1) := by decide +kernel
theorem dX4_wholes_3 : decode cX4_wholes 3 = .ok (.istore_n 3, 1) := by decide +kernel
theorem dX4_wholes_4 : decode cX4_wholes 4 = .ok (.iload_n 3, 1) := by decide +kernel
theorem dX4_wholes_5 : decode cX4_wholes 5 = .ok (.aload_n 0, 1) := by decide +kernel
theorem dX4_wholes_6 : decode cX4_wholes 6 = .ok (.getfield 49, 3) := by decide +kernel
theorem dX4_wholes_9 : decode cX4_wholes 9 = .ok (.if_icmp .ge 77, 3) := by decide +kernel
theorem dX4_wholes_12 : decode cX4_wholes 12 = .ok (.aload_n 0, 1) := by decide +kernel
theorem dX4_wholes_13 : decode cX4_wholes 13 = .ok (.getfield 30, 3) := by decide +kernel
theorem dX4_wholes_16 : decode cX4_wholes 16 = .ok (.iload_n 3, 1) := by decide +kernel
theorem dX4_wholes_17 : decode cX4_wholes 17 = .ok (.baload, 1) := by decide +kernel
theorem dX4_wholes_18 : decode cX4_wholes 18 = .ok (.ifCond .eq 62, 3) := by decide +kernel
theorem dX4_wholes_21 : decode cX4_wholes 21 = .ok (.aload_n 0, 1) := by decide +kernel
theorem dX4_wholes_22 : decode cX4_wholes 22 = .ok (.iload_n 3, 1) := by decide +kernel
theorem dX4_wholes_23 : decode cX4_wholes 23 = .ok (.iload_n 1, 1) := by decide +kernel
theorem dX4_wholes_24 : decode cX4_wholes 24 = .ok (.invokevirtual 140, 3) := by decide +kernel
theorem dX4_wholes_27 : decode cX4_wholes 27 = .ok (.ifCond .ne 6, 3) := by decide +kernel
theorem dX4_wholes_30 : decode cX4_wholes 30 = .ok (.goto 50, 3) := by decide +kernel
theorem dX4_wholes_33 : decode cX4_wholes 33 = .ok (.iload_n 2, 1) := by decide +kernel
theorem dX4_wholes_34 : decode cX4_wholes 34 = .ok (.ifCond .eq 28, 3) := by decide +kernel
theorem dX4_wholes_37 : decode cX4_wholes 37 = .ok (.aload_n 0, 1) := by decide +kernel
theorem dX4_wholes_38 : decode cX4_wholes 38 = .ok (.getfield 134, 3) := by decide +kernel
theorem dX4_wholes_41 : decode cX4_wholes 41 = .ok (.aload_n 0, 1) := by decide +kernel
theorem dX4_wholes_42 : decode cX4_wholes 42 = .ok (.getfield 125, 3) := by decide +kernel
theorem dX4_wholes_45 : decode cX4_wholes 45 = .ok (.lmul, 1) := by decide +kernel
theorem dX4_wholes_46 : decode cX4_wholes 46 = .ok (.aload_n 0, 1) := by decide +kernel
theorem dX4_wholes_47 : decode cX4_wholes 47 = .ok (.getfield 121, 3) := by decide +kernel
theorem dX4_wholes_50 : decode cX4_wholes 50 = .ok (.aload_n 0, 1) := by decide +kernel
theorem dX4_wholes_51 : decode cX4_wholes 51 = .ok (.getfield 137, 3) := by decide +kernel
theorem dX4_wholes_54 : decode cX4_wholes 54 = .ok (.lmul, 1) := by decide +kernel
theorem dX4_wholes_55 : decode cX4_wholes 55 = .ok (.lcmp, 1) := by decide +kernel
theorem dX4_wholes_56 : decode cX4_wholes 56 = .ok (.ifCond .lt 6, 3) := by decide +kernel
theorem dX4_wholes_59 : decode cX4_wholes 59 = .ok (.goto 21, 3) := by decide +kernel
theorem dX4_wholes_62 : decode cX4_wholes 62 = .ok (.iconst 1, 1) := by decide +kernel
theorem dX4_wholes_63 : decode cX4_wholes 63 = .ok (.istore_n 2, 1) := by decide +kernel
theorem dX4_wholes_64 : decode cX4_wholes 64 = .ok (.aload_n 0, 1) := by decide +kernel
theorem dX4_wholes_65 : decode cX4_wholes 65 = .ok (.aload_n 0, 1) := by decide +kernel
theorem dX4_wholes_66 : decode cX4_wholes 66 = .ok (.getfield 134, 3) := by decide +kernel
theorem dX4_wholes_69 : decode cX4_wholes 69 = .ok (.putfield 121, 3) := by decide +kernel
theorem dX4_wholes_72 : decode cX4_wholes 72 = .ok (.aload_n 0, 1) := by decide +kernel
theorem dX4_wholes_73 : decode cX4_wholes 73 = .ok (.aload_n 0, 1) := by decide +kernel
theorem dX4_wholes_74 : decode cX4_wholes 74 = .ok (.getfield 137, 3) := by decide +kernel
theorem dX4_wholes_77 : decode cX4_wholes 77 = .ok (.putfield 125, 3) := by decide +kernel
theorem dX4_wholes_80 : decode cX4_wholes 80 = .ok (.iinc 3 1, 3) := by decide +kernel
theorem dX4_wholes_83 : decode cX4_wholes 83 = .ok (.goto (-79), 3) := by decide +kernel
theorem dX4_wholes_86 : decode cX4_wholes 86 = .ok (.iload_n 2, 1) := by decide +kernel
theorem dX4_wholes_87 : decode cX4_wholes 87 = .ok (.ireturn, 1) := by decide +kernel
set_option maxRecDepth 20000 in
theorem ggX4_part_X4_common : GoodIn wsX4_part wsX4_common := goodIn_r _ [6, 7, 8, 9, 10] rfl (by decide +kernel)
set_option maxRecDepth 20000 in
theorem gX4_part_X4_common : GoodIn wsX4_part (va_wsS RX4 101 yX4_common wsX4_common) := goodIn_app (goodIn_c (List.mem_of_getElem? (i := 3) rfl) rfl (goodIn_c (List.mem_of_getElem? (i := 4) rfl) rfl (goodIn_c (List.mem_of_getElem? (i := 5) rfl) rfl (goodIn_nil)))) ggX4_part_X4_common
theorem dX4_part_0 : decode cX4_part 0 = .ok (.aload_n 0, 1) := by decide +kernel
theorem dX4_part_1 : decode cX4_part 1 = .ok (.getfield 121, 3) := by decide +kernel
theorem dX4_part_4 : decode cX4_part 4 = .ok (.aload_n 0, 1) := by decide +kernel
theorem dX4_part_5 : decode cX4_part 5 = .ok (.getfield 125, 3) := by decide +kernel
theorem dX4_part_8 : decode cX4_part 8 = .ok (.invokestatic 101, 3) := by decide +kernel
theorem dX4_part_11 : decode cX4_part 11 = .ok (.lstore_n 2, 1) := by decide +kernel
theorem dX4_part_12 : decode cX4_part 12 = .ok (.iload_n 1, 1) := by decide +kernel
theorem dX4_part_13 : decode cX4_part 13 = .ok (.ifCond .ne 12, 3) := by decide +kernel
theorem dX4_part_16 : decode cX4_part 16 = .ok (.aload_n 0, 1) := by decide +kernel
theorem dX4_part_17 : decode cX4_part 17 = .ok (.getfield 121, 3) := by decide +kernel
theorem dX4_part_20 : decode cX4_part 20 = .ok (.lload_n 2, 1) := by decide +kernel
theorem dX4_part_21 : decode cX4_part 21 = .ok (.ldiv, 1) := by decide +kernel
theorem dX4_part_22 : decode cX4_part 22 = .ok (.goto 9, 3) := by decide +kernel
theorem dX4_part_25 : decode cX4_part 25 = .ok (.aload_n 0, 1) := by decide +kernel
theorem dX4_part_26 : decode cX4_part 26 = .ok (.getfield 125, 3) := by decide +kernel
theorem dX4_part_29 : decode cX4_part 29 = .ok (.lload_n 2, 1) := by decide +kernel
theorem dX4_part_30 : decode cX4_part 30 = .ok (.ldiv, 1) := by decide +kernel
theorem dX4_part_31 : decode cX4_part 31 = .ok (.lreturn, 1) := by decide +kernel
set_option maxRecDepth 20000 in
theorem ggX4_asks_X4_isIn : GoodIn wsX4_asks wsX4_isIn := goodIn_r _ [6] rfl (by decide +kernel)
set_option maxRecDepth 20000 in
theorem gX4_asks_X4_isIn : GoodIn wsX4_asks (va_wsS RX4 52 yX4_isIn wsX4_isIn) := goodIn_app (goodIn_c (List.mem_of_getElem? (i := 3) rfl) rfl (goodIn_c (List.mem_of_getElem? (i := 4) rfl) rfl (goodIn_c (List.mem_of_getElem? (i := 5) rfl) rfl (goodIn_nil)))) ggX4_asks_X4_isIn
set_option maxRecDepth 20000 in
theorem ggX4_asks_X4_isWork : GoodIn wsX4_asks wsX4_isWork := goodIn_r _ [10, 11, 36, 37, 38, 39, 40, 41, 42, 43, 44, 45, 46, 47, 48, 49, 50, 51, 52, 53, 54, 55, 56, 57] rfl (by decide +kernel)
set_option maxRecDepth 20000 in
theorem gX4_asks_X4_isWork : GoodIn wsX4_asks (wsV RX4 60 RX4 yX4_isWork wsX4_isWork) := goodIn_app (goodIn_c (List.mem_of_getElem? (i := 7) rfl) rfl (goodIn_c (List.mem_of_getElem? (i := 8) rfl) rfl (goodIn_c (List.mem_of_getElem? (i := 9) rfl) rfl (goodIn_c (List.mem_of_getElem? (i := 5) rfl) rfl (goodIn_nil))))) ggX4_asks_X4_isWork
set_option maxRecDepth 20000 in
theorem ggX4_asks_X4_plain : GoodIn wsX4_asks wsX4_plain := goodIn_r _ [15, 16, 17, 18, 19, 11, 20, 2, 21, 22, 23, 24, 25, 26, 5, 27, 36, 37, 38, 39, 40, 41, 42, 43, 44, 45, 46, 47, 48, 49, 50, 51, 52, 53, 54, 55, 56, 57] rfl (by decide +kernel)
set_option maxRecDepth 20000 in
theorem gX4_asks_X4_plain : GoodIn wsX4_asks (wsV RX4 144 RX4 yX4_plain wsX4_plain) := goodIn_app (goodIn_c (List.mem_of_getElem? (i := 12) rfl) rfl (goodIn_c (List.mem_of_getElem? (i := 13) rfl) rfl (goodIn_c (List.mem_of_getElem? (i := 14) rfl) rfl (goodIn_c (List.mem_of_getElem? (i := 5) rfl) rfl (goodIn_nil))))) ggX4_asks_X4_plain
set_option maxRecDepth 20000 in
theorem ggX4_asks_X4_taken : GoodIn wsX4_asks wsX4_taken := goodIn_r _ [31, 17, 21, 36, 37, 38, 39, 40, 41, 42, 43, 44, 45, 46, 47, 48, 49, 50, 51, 52, 53, 54, 55, 56, 57] rfl (by decide +kernel)
set_option maxRecDepth 20000 in
theorem gX4_asks_X4_taken : GoodIn wsX4_asks (wsV RX4 147 RX4 yX4_taken wsX4_taken) := goodIn_app (goodIn_c (List.mem_of_getElem? (i := 28) rfl) rfl (goodIn_c (List.mem_of_getElem? (i := 29) rfl) rfl (goodIn_c (List.mem_of_getElem? (i := 30) rfl) rfl (goodIn_c (List.mem_of_getElem? (i := 5) rfl) rfl (goodIn_nil))))) ggX4_asks_X4_taken
set_option maxRecDepth 20000 in
theorem ggX4_asks_X4_given : GoodIn wsX4_asks wsX4_given := goodIn_r _ [35, 17, 19, 21, 36, 37, 38, 39, 40, 41, 42, 43, 44, 45, 46, 47, 48, 49, 50, 51, 52, 53, 54, 55, 56, 57] rfl (by decide +kernel)
set_option maxRecDepth 20000 in
theorem gX4_asks_X4_given : GoodIn wsX4_asks (wsV RX4 151 RX4 yX4_given wsX4_given) := goodIn_app (goodIn_c (List.mem_of_getElem? (i := 32) rfl) rfl (goodIn_c (List.mem_of_getElem? (i := 33) rfl) rfl (goodIn_c (List.mem_of_getElem? (i := 34) rfl) rfl (goodIn_c (List.mem_of_getElem? (i := 5) rfl) rfl (goodIn_nil))))) ggX4_asks_X4_given
theorem dX4_asks_0 : decode cX4_asks 0 = .ok (.aload_n 0, 1) := by decide +kernel
theorem dX4_asks_1 : decode cX4_asks 1 = .ok (.iconst 0, 1) := by decide +kernel
theorem dX4_asks_2 : decode cX4_asks 2 = .ok (.putfield 46, 3) := by decide +kernel
theorem dX4_asks_5 : decode cX4_asks 5 = .ok (.iload_n 1, 1) := by decide +kernel
theorem dX4_asks_6 : decode cX4_asks 6 = .ok (.iconst 0, 1) := by decide +kernel
theorem dX4_asks_7 : decode cX4_asks 7 = .ok (.iconst 3, 1) := by decide +kernel
theorem dX4_asks_8 : decode cX4_asks 8 = .ok (.invokestatic 52, 3) := by decide +kernel
theorem dX4_asks_11 : decode cX4_asks 11 = .ok (.ifCond .eq 20, 3) := by decide +kernel
theorem dX4_asks_14 : decode cX4_asks 14 = .ok (.aload_n 0, 1) := by decide +kernel
theorem dX4_asks_15 : decode cX4_asks 15 = .ok (.iload_n 2, 1) := by decide +kernel
theorem dX4_asks_16 : decode cX4_asks 16 = .ok (.invokevirtual 60, 3) := by decide +kernel
theorem dX4_asks_19 : decode cX4_asks 19 = .ok (.ifCond .eq 12, 3) := by decide +kernel
theorem dX4_asks_22 : decode cX4_asks 22 = .ok (.aload_n 0, 1) := by decide +kernel
theorem dX4_asks_23 : decode cX4_asks 23 = .ok (.getfield 23, 3) := by decide +kernel
theorem dX4_asks_26 : decode cX4_asks 26 = .ok (.iload_n 2, 1) := by decide +kernel
theorem dX4_asks_27 : decode cX4_asks 27 = .ok (.baload, 1) := by decide +kernel
theorem dX4_asks_28 : decode cX4_asks 28 = .ok (.ifCond .ne 5, 3) := by decide +kernel
theorem dX4_asks_31 : decode cX4_asks 31 = .ok (.iconst 0, 1) := by decide +kernel
theorem dX4_asks_32 : decode cX4_asks 32 = .ok (.ireturn, 1) := by decide +kernel
theorem dX4_asks_33 : decode cX4_asks 33 = .ok (.aload_n 0, 1) := by decide +kernel
theorem dX4_asks_34 : decode cX4_asks 34 = .ok (.invokevirtual 144, 3) := by decide +kernel
theorem dX4_asks_37 : decode cX4_asks 37 = .ok (.aload_n 0, 1) := by decide +kernel
theorem dX4_asks_38 : decode cX4_asks 38 = .ok (.iload_n 2, 1) := by decide +kernel
theorem dX4_asks_39 : decode cX4_asks 39 = .ok (.invokevirtual 147, 3) := by decide +kernel
theorem dX4_asks_42 : decode cX4_asks 42 = .ok (.ifCond .le 15, 3) := by decide +kernel
theorem dX4_asks_45 : decode cX4_asks 45 = .ok (.aload_n 0, 1) := by decide +kernel
theorem dX4_asks_46 : decode cX4_asks 46 = .ok (.iload_n 2, 1) := by decide +kernel
theorem dX4_asks_47 : decode cX4_asks 47 = .ok (.invokevirtual 151, 3) := by decide +kernel
theorem dX4_asks_50 : decode cX4_asks 50 = .ok (.ifCond .le 7, 3) := by decide +kernel
theorem dX4_asks_53 : decode cX4_asks 53 = .ok (.iconst 1, 1) := by decide +kernel
theorem dX4_asks_54 : decode cX4_asks 54 = .ok (.goto 4, 3) := by decide +kernel
theorem dX4_asks_57 : decode cX4_asks 57 = .ok (.iconst 0, 1) := by decide +kernel
theorem dX4_asks_58 : decode cX4_asks 58 = .ok (.ireturn, 1) := by decide +kernel
set_option maxRecDepth 20000 in
theorem ggX4_share_X4_asks : GoodIn wsX4_share wsX4_asks := goodIn_r _ [6, 7, 8, 9, 10, 5, 11, 12, 13, 14, 15, 16, 17, 18, 19, 20, 21, 22, 23, 24, 25, 26, 27, 28, 29, 30, 31, 32, 33, 34, 35, 36, 37, 38, 39, 40, 115, 116, 117, 118, 119, 120, 121, 122, 123, 124, 125, 126, 127, 128, 129, 130, 131, 132, 133, 134, 135, 136] rfl (by decide +kernel)
set_option maxRecDepth 20000 in
theorem gX4_share_X4_asks : GoodIn wsX4_share (wsV RX4 154 RX4 yX4_asks wsX4_asks) := goodIn_app (goodIn_c (List.mem_of_getElem? (i := 2) rfl) rfl (goodIn_c (List.mem_of_getElem? (i := 3) rfl) rfl (goodIn_c (List.mem_of_getElem? (i := 4) rfl) rfl (goodIn_c (List.mem_of_getElem? (i := 5) rfl) rfl (goodIn_nil))))) ggX4_share_X4_asks
set_option maxRecDepth 20000 in
theorem ggX4_share_X4_isIn : GoodIn wsX4_share wsX4_isIn := goodIn_r _ [11] rfl (by decide +kernel)
set_option maxRecDepth 20000 in
theorem gX4_share_X4_isIn : GoodIn wsX4_share (va_wsS RX4 52 yX4_isIn wsX4_isIn) := goodIn_app (goodIn_c (List.mem_of_getElem? (i := 9) rfl) rfl (goodIn_c (List.mem_of_getElem? (i := 10) rfl) rfl (goodIn_c (List.mem_of_getElem? (i := 5) rfl) rfl (goodIn_nil)))) ggX4_share_X4_isIn
set_option maxRecDepth 20000 in
theorem ggX4_share_X4_shares : GoodIn wsX4_share wsX4_shares := goodIn_r _ [44, 16, 25, 45, 46, 47, 48, 49, 50, 5, 51, 52, 53, 54, 55, 56, 57, 22, 24, 26, 58, 59, 60, 61, 62, 63, 64, 65, 66, 67, 68, 1, 69, 70, 71, 72, 73, 74, 75, 76, 77, 78, 79, 80, 81, 82, 83, 84, 85, 86, 87, 88, 89, 90, 91, 92, 93, 94, 95, 96, 97, 98, 99, 100, 101, 102, 103, 104, 105, 106, 107, 108, 109, 110, 115, 116, 117, 118, 119, 120, 121, 122, 123, 124, 125, 126, 127, 128, 129, 130, 131, 132, 133, 134, 135, 136] rfl (by decide +kernel)
set_option maxRecDepth 20000 in
theorem gX4_share_X4_shares : GoodIn wsX4_share (wsV RX4 157 RX4 yX4_shares wsX4_shares) := goodIn_app (goodIn_c (List.mem_of_getElem? (i := 41) rfl) rfl (goodIn_c (List.mem_of_getElem? (i := 42) rfl) rfl (goodIn_c (List.mem_of_getElem? (i := 43) rfl) rfl (goodIn_c (List.mem_of_getElem? (i := 5) rfl) rfl (goodIn_nil))))) ggX4_share_X4_shares
set_option maxRecDepth 20000 in
theorem ggX4_share_X4_part : GoodIn wsX4_share wsX4_part := goodIn_r _ [114, 45, 46, 83, 84, 5, 85, 86, 87, 88, 89, 115, 116, 117, 118, 119, 120, 121, 122, 123, 124, 125, 126, 127, 128, 129, 130, 131, 132, 133, 134, 135, 136] rfl (by decide +kernel)
set_option maxRecDepth 20000 in
theorem gX4_share_X4_part : GoodIn wsX4_share (wsV RX4 160 RX4 yX4_part wsX4_part) := goodIn_app (goodIn_c (List.mem_of_getElem? (i := 111) rfl) rfl (goodIn_c (List.mem_of_getElem? (i := 112) rfl) rfl (goodIn_c (List.mem_of_getElem? (i := 113) rfl) rfl (goodIn_c (List.mem_of_getElem? (i := 5) rfl) rfl (goodIn_nil))))) ggX4_share_X4_part
theorem dX4_share_0 : decode cX4_share 0 = .ok (.aload_n 0, 1) := by decide +kernel
theorem dX4_share_1 : decode cX4_share 1 = .ok (.iload_n 1, 1) := by decide +kernel
theorem dX4_share_2 : decode cX4_share 2 = .ok (.iload_n 2, 1) := by decide +kernel
theorem dX4_share_3 : decode cX4_share 3 = .ok (.invokevirtual 154, 3) := by decide +kernel
theorem dX4_share_6 : decode cX4_share 6 = .ok (.ifCond .eq 12, 3) := by decide +kernel
theorem dX4_share_9 : decode cX4_share 9 = .ok (.iload_n 3, 1) := by decide +kernel
theorem dX4_share_10 : decode cX4_share 10 = .ok (.iconst 0, 1) := by decide +kernel
theorem dX4_share_11 : decode cX4_share 11 = .ok (.iconst 1, 1) := by decide +kernel
theorem dX4_share_12 : decode cX4_share 12 = .ok (.invokestatic 52, 3) := by decide +kernel
theorem dX4_share_15 : decode cX4_share 15 = .ok (.ifCond .ne 7, 3) := by decide +kernel
theorem dX4_share_18 : decode cX4_share 18 = .ok (.ldc2_w 76, 3) := by decide +kernel
theorem dX4_share_21 : decode cX4_share 21 = .ok (.lreturn, 1) := by decide +kernel
theorem dX4_share_22 : decode cX4_share 22 = .ok (.aload_n 0, 1) := by decide +kernel
theorem dX4_share_23 : decode cX4_share 23 = .ok (.iload_n 1, 1) := by decide +kernel
theorem dX4_share_24 : decode cX4_share 24 = .ok (.iload_n 2, 1) := by decide +kernel
theorem dX4_share_25 : decode cX4_share 25 = .ok (.invokevirtual 157, 3) := by decide +kernel
theorem dX4_share_28 : decode cX4_share 28 = .ok (.istore 4, 2) := by decide +kernel
theorem dX4_share_30 : decode cX4_share 30 = .ok (.aload_n 0, 1) := by decide +kernel
theorem dX4_share_31 : decode cX4_share 31 = .ok (.iload_n 3, 1) := by decide +kernel
theorem dX4_share_32 : decode cX4_share 32 = .ok (.invokevirtual 160, 3) := by decide +kernel
theorem dX4_share_35 : decode cX4_share 35 = .ok (.lreturn, 1) := by decide +kernel
set_option maxRecDepth 20000 in
theorem ggX4_isBest_X4_outWeighed : GoodIn wsX4_isBest wsX4_outWeighed := goodIn_r _ [7, 8, 9, 10, 11, 16, 17, 18, 19, 20, 21, 22, 23, 24, 25, 26, 27, 28, 29, 30, 31, 32, 33, 34, 35, 36, 37] rfl (by decide +kernel)
set_option maxRecDepth 20000 in
theorem gX4_isBest_X4_outWeighed : GoodIn wsX4_isBest (wsV RX4 131 RX4 yX4_outWeighed wsX4_outWeighed) := goodIn_app (goodIn_c (List.mem_of_getElem? (i := 3) rfl) rfl (goodIn_c (List.mem_of_getElem? (i := 4) rfl) rfl (goodIn_c (List.mem_of_getElem? (i := 5) rfl) rfl (goodIn_c (List.mem_of_getElem? (i := 6) rfl) rfl (goodIn_nil))))) ggX4_isBest_X4_outWeighed
set_option maxRecDepth 20000 in
theorem ggX4_isBest_X4_inWeighed : GoodIn wsX4_isBest wsX4_inWeighed := goodIn_r _ [15, 9, 8, 11, 16, 17, 18, 19, 20, 21, 22, 23, 24, 25, 26, 27, 28, 29, 30, 31, 32, 33, 34, 35, 36, 37] rfl (by decide +kernel)
set_option maxRecDepth 20000 in
theorem gX4_isBest_X4_inWeighed : GoodIn wsX4_isBest (wsV RX4 128 RX4 yX4_inWeighed wsX4_inWeighed) := goodIn_app (goodIn_c (List.mem_of_getElem? (i := 12) rfl) rfl (goodIn_c (List.mem_of_getElem? (i := 13) rfl) rfl (goodIn_c (List.mem_of_getElem? (i := 14) rfl) rfl (goodIn_c (List.mem_of_getElem? (i := 6) rfl) rfl (goodIn_nil))))) ggX4_isBest_X4_inWeighed
theorem dX4_isBest_0 : decode cX4_isBest 0 = .ok (.aload_n 0, 1) := by decide +kernel
theorem dX4_isBest_1 : decode cX4_isBest 1 = .ok (.iload_n 1, 1) := by decide +kernel
theorem dX4_isBest_2 : decode cX4_isBest 2 = .ok (.iload_n 2, 1) := by decide +kernel
theorem dX4_isBest_3 : decode cX4_isBest 3 = .ok (.invokevirtual 131, 3) := by decide +kernel
theorem dX4_isBest_6 : decode cX4_isBest 6 = .ok (.aload_n 0, 1) := by decide +kernel
theorem dX4_isBest_7 : decode cX4_isBest 7 = .ok (.getfield 125, 3) := by decide +kernel
theorem dX4_isBest_10 : decode cX4_isBest 10 = .ok (.lmul, 1) := by decide +kernel
theorem dX4_isBest_11 : decode cX4_isBest 11 = .ok (.aload_n 0, 1) := by decide +kernel
theorem dX4_isBest_12 : decode cX4_isBest 12 = .ok (.getfield 121, 3) := by decide +kernel
theorem dX4_isBest_15 : decode cX4_isBest 15 = .ok (.aload_n 0, 1) := by decide +kernel
theorem dX4_isBest_16 : decode cX4_isBest 16 = .ok (.iload_n 1, 1) := by decide +kernel
theorem dX4_isBest_17 : decode cX4_isBest 17 = .ok (.iload_n 2, 1) := by decide +kernel
theorem dX4_isBest_18 : decode cX4_isBest 18 = .ok (.invokevirtual 128, 3) := by decide +kernel
theorem dX4_isBest_21 : decode cX4_isBest 21 = .ok (.lmul, 1) := by decide +kernel
theorem dX4_isBest_22 : decode cX4_isBest 22 = .ok (.lcmp, 1) := by decide +kernel
theorem dX4_isBest_23 : decode cX4_isBest 23 = .ok (.ifCond .ne 7, 3) := by decide +kernel
theorem dX4_isBest_26 : decode cX4_isBest 26 = .ok (.iconst 1, 1) := by decide +kernel
theorem dX4_isBest_27 : decode cX4_isBest 27 = .ok (.goto 4, 3) := by decide +kernel
theorem dX4_isBest_30 : decode cX4_isBest 30 = .ok (.iconst 0, 1) := by decide +kernel
theorem dX4_isBest_31 : decode cX4_isBest 31 = .ok (.ireturn, 1) := by decide +kernel
theorem dX4_isAlike_0 : decode cX4_isAlike 0 = .ok (.iconst 1, 1) := by decide +kernel
theorem dX4_isAlike_1 : decode cX4_isAlike 1 = .ok (.istore_n 3, 1) := by decide +kernel
theorem dX4_isAlike_2 : decode cX4_isAlike 2 = .ok (.iconst 0, 1) := by decide +kernel
theorem dX4_isAlike_3 : decode cX4_isAlike 3 = .ok (.istore 4, 2) := by decide +kernel
theorem dX4_isAlike_5 : decode cX4_isAlike 5 = .ok (.iload 4, 2) := by decide +kernel
theorem dX4_isAlike_7 : decode cX4_isAlike 7 = .ok (.aload_n 0, 1) := by decide +kernel
theorem dX4_isAlike_8 : decode cX4_isAlike 8 = .ok (.getfield 64, 3) := by decide +kernel
theorem dX4_isAlike_11 : decode cX4_isAlike 11 = .ok (.aload_n 0, 1) := by decide +kernel
theorem dX4_isAlike_12 : decode cX4_isAlike 12 = .ok (.getfield 67, 3) := by decide +kernel
theorem dX4_isAlike_15 : decode cX4_isAlike 15 = .ok (.iadd, 1) := by decide +kernel
theorem dX4_isAlike_16 : decode cX4_isAlike 16 = .ok (.if_icmp .ge 44, 3) := by decide +kernel
theorem dX4_isAlike_19 : decode cX4_isAlike 19 = .ok (.iload_n 3, 1) := by decide +kernel
theorem dX4_isAlike_20 : decode cX4_isAlike 20 = .ok (.ifCond .eq 32, 3) := by decide +kernel
theorem dX4_isAlike_23 : decode cX4_isAlike 23 = .ok (.aload_n 0, 1) := by decide +kernel
theorem dX4_isAlike_24 : decode cX4_isAlike 24 = .ok (.getfield 27, 3) := by decide +kernel
theorem dX4_isAlike_27 : decode cX4_isAlike 27 = .ok (.iconst 4, 1) := by decide +kernel
theorem dX4_isAlike_28 : decode cX4_isAlike 28 = .ok (.iload_n 1, 1) := by decide +kernel
theorem dX4_isAlike_29 : decode cX4_isAlike 29 = .ok (.imul, 1) := by decide +kernel
theorem dX4_isAlike_30 : decode cX4_isAlike 30 = .ok (.iload 4, 2) := by decide +kernel
theorem dX4_isAlike_32 : decode cX4_isAlike 32 = .ok (.iadd, 1) := by decide +kernel
theorem dX4_isAlike_33 : decode cX4_isAlike 33 = .ok (.iaload, 1) := by decide +kernel
theorem dX4_isAlike_34 : decode cX4_isAlike 34 = .ok (.aload_n 0, 1) := by decide +kernel
theorem dX4_isAlike_35 : decode cX4_isAlike 35 = .ok (.getfield 27, 3) := by decide +kernel
theorem dX4_isAlike_38 : decode cX4_isAlike 38 = .ok (.iconst 4, 1) := by decide +kernel
theorem dX4_isAlike_39 : decode cX4_isAlike 39 = .ok (.iload_n 2, 1) := by decide +kernel
theorem dX4_isAlike_40 : decode cX4_isAlike 40 = .ok (.imul, 1) := by decide +kernel
theorem dX4_isAlike_41 : decode cX4_isAlike 41 = .ok (.iload 4, 2) := by decide +kernel
theorem dX4_isAlike_43 : decode cX4_isAlike 43 = .ok (.iadd, 1) := by decide +kernel
theorem dX4_isAlike_44 : decode cX4_isAlike 44 = .ok (.iaload, 1) := by decide +kernel
theorem dX4_isAlike_45 : decode cX4_isAlike 45 = .ok (.if_icmp .ne 7, 3) := by decide +kernel
theorem dX4_isAlike_48 : decode cX4_isAlike 48 = .ok (.iconst 1, 1) := by decide +kernel
theorem dX4_isAlike_49 : decode cX4_isAlike 49 = .ok (.goto 4, 3) := by decide +kernel
theorem dX4_isAlike_52 : decode cX4_isAlike 52 = .ok (.iconst 0, 1) := by decide +kernel
theorem dX4_isAlike_53 : decode cX4_isAlike 53 = .ok (.istore_n 3, 1) := by decide +kernel
theorem dX4_isAlike_54 : decode cX4_isAlike 54 = .ok (.iinc 4 1, 3) := by decide +kernel
theorem dX4_isAlike_57 : decode cX4_isAlike 57 = .ok (.goto (-52), 3) := by decide +kernel
theorem dX4_isAlike_60 : decode cX4_isAlike 60 = .ok (.iload_n 3, 1) := by decide +kernel
theorem dX4_isAlike_61 : decode cX4_isAlike 61 = .ok (.ireturn, 1) := by decide +kernel
set_option maxRecDepth 20000 in
theorem ggX4_strong_X4_asks : GoodIn wsX4_strong wsX4_asks := goodIn_r _ [15, 16, 17, 18, 19, 14, 20, 21, 22, 23, 24, 3, 25, 26, 27, 28, 29, 7, 30, 8, 4, 31, 32, 33, 34, 35, 36, 37, 38, 39, 40, 41, 42, 43, 44, 45, 119, 120, 121, 122, 123, 124, 125, 126, 127, 128, 129, 130, 131, 132, 133, 134, 135, 136, 137, 138, 139, 140] rfl (by decide +kernel)
set_option maxRecDepth 20000 in
theorem gX4_strong_X4_asks : GoodIn wsX4_strong (wsV RX4 154 RX4 yX4_asks wsX4_asks) := goodIn_app (goodIn_c (List.mem_of_getElem? (i := 11) rfl) rfl (goodIn_c (List.mem_of_getElem? (i := 12) rfl) rfl (goodIn_c (List.mem_of_getElem? (i := 13) rfl) rfl (goodIn_c (List.mem_of_getElem? (i := 14) rfl) rfl (goodIn_nil))))) ggX4_strong_X4_asks
set_option maxRecDepth 20000 in
theorem ggX4_strong_X4_shares : GoodIn wsX4_strong wsX4_shares := goodIn_r _ [49, 3, 4, 1, 2, 9, 50, 51, 52, 14, 53, 5, 6, 54, 55, 56, 57, 7, 8, 31, 58, 59, 60, 61, 62, 63, 64, 65, 66, 67, 68, 69, 70, 71, 72, 73, 74, 75, 76, 77, 78, 79, 80, 81, 82, 83, 84, 85, 86, 87, 88, 89, 90, 91, 92, 93, 94, 95, 96, 97, 98, 10, 99, 100, 101, 102, 103, 104, 105, 106, 107, 108, 109, 110, 119, 120, 121, 122, 123, 124, 125, 126, 127, 128, 129, 130, 131, 132, 133, 134, 135, 136, 137, 138, 139, 140] rfl (by decide +kernel)
set_option maxRecDepth 20000 in
theorem gX4_strong_X4_shares : GoodIn wsX4_strong (wsV RX4 157 RX4 yX4_shares wsX4_shares) := goodIn_app (goodIn_c (List.mem_of_getElem? (i := 46) rfl) rfl (goodIn_c (List.mem_of_getElem? (i := 47) rfl) rfl (goodIn_c (List.mem_of_getElem? (i := 48) rfl) rfl (goodIn_c (List.mem_of_getElem? (i := 14) rfl) rfl (goodIn_nil))))) ggX4_strong_X4_shares
set_option maxRecDepth 20000 in
theorem ggX4_strong_X4_oneFor : GoodIn wsX4_strong wsX4_oneFor := goodIn_r _ [57, 7, 8, 31, 5, 6, 119, 120, 121, 122, 123, 124, 125, 126, 127, 128, 129, 130, 131, 132, 133, 134, 135, 136, 137, 138, 139, 140] rfl (by decide +kernel)
set_option maxRecDepth 20000 in
theorem gX4_strong_X4_oneFor : GoodIn wsX4_strong (wsV RX4 140 RX4 yX4_oneFor wsX4_oneFor) := goodIn_app (goodIn_c (List.mem_of_getElem? (i := 54) rfl) rfl (goodIn_c (List.mem_of_getElem? (i := 55) rfl) rfl (goodIn_c (List.mem_of_getElem? (i := 56) rfl) rfl (goodIn_c (List.mem_of_getElem? (i := 14) rfl) rfl (goodIn_nil))))) ggX4_strong_X4_oneFor
set_option maxRecDepth 20000 in
theorem ggX4_strong_X4_isAlike : GoodIn wsX4_strong wsX4_isAlike := goodIn_r _ [114, 7, 8, 31, 119, 120, 121, 122, 123, 124, 125, 126, 127, 128, 129, 130, 131, 132, 133, 134, 135, 136, 137, 138, 139, 140] rfl (by decide +kernel)
set_option maxRecDepth 20000 in
theorem gX4_strong_X4_isAlike : GoodIn wsX4_strong (wsV RX4 164 RX4 yX4_isAlike wsX4_isAlike) := goodIn_app (goodIn_c (List.mem_of_getElem? (i := 111) rfl) rfl (goodIn_c (List.mem_of_getElem? (i := 112) rfl) rfl (goodIn_c (List.mem_of_getElem? (i := 113) rfl) rfl (goodIn_c (List.mem_of_getElem? (i := 14) rfl) rfl (goodIn_nil))))) ggX4_strong_X4_isAlike
set_option maxRecDepth 20000 in
theorem ggX4_strong_X4_isBest : GoodIn wsX4_strong wsX4_isBest := goodIn_r _ [118, 2, 1, 107, 108, 109, 14, 110, 10, 7, 8, 31, 103, 104, 105, 106, 119, 120, 121, 122, 123, 124, 125, 126, 127, 128, 129, 130, 131, 132, 133, 134, 135, 136, 137, 138, 139, 140] rfl (by decide +kernel)
set_option maxRecDepth 20000 in
theorem gX4_strong_X4_isBest : GoodIn wsX4_strong (wsV RX4 167 RX4 yX4_isBest wsX4_isBest) := goodIn_app (goodIn_c (List.mem_of_getElem? (i := 115) rfl) rfl (goodIn_c (List.mem_of_getElem? (i := 116) rfl) rfl (goodIn_c (List.mem_of_getElem? (i := 117) rfl) rfl (goodIn_c (List.mem_of_getElem? (i := 14) rfl) rfl (goodIn_nil))))) ggX4_strong_X4_isBest
theorem dX4_strong_0 : decode cX4_strong 0 = .ok (.aload_n 0, 1) := by decide +kernel
theorem dX4_strong_1 : decode cX4_strong 1 = .ok (.iload_n 1, 1) := by decide +kernel
theorem dX4_strong_2 : decode cX4_strong 2 = .ok (.iload_n 2, 1) := by decide +kernel
theorem dX4_strong_3 : decode cX4_strong 3 = .ok (.invokevirtual 154, 3) := by decide +kernel
theorem dX4_strong_6 : decode cX4_strong 6 = .ok (.ifCond .ne 5, 3) := by decide +kernel
theorem dX4_strong_9 : decode cX4_strong 9 = .ok (.iconst (-1), 1) := by decide +kernel
theorem dX4_strong_10 : decode cX4_strong 10 = .ok (.ireturn, 1) := by decide +kernel
theorem dX4_strong_11 : decode cX4_strong 11 = .ok (.aload_n 0, 1) := by decide +kernel
theorem dX4_strong_12 : decode cX4_strong 12 = .ok (.iload_n 1, 1) := by decide +kernel
theorem dX4_strong_13 : decode cX4_strong 13 = .ok (.iload_n 2, 1) := by decide +kernel
theorem dX4_strong_14 : decode cX4_strong 14 = .ok (.invokevirtual 157, 3) := by decide +kernel
theorem dX4_strong_17 : decode cX4_strong 17 = .ok (.istore_n 3, 1) := by decide +kernel
theorem dX4_strong_18 : decode cX4_strong 18 = .ok (.aload_n 0, 1) := by decide +kernel
theorem dX4_strong_19 : decode cX4_strong 19 = .ok (.getfield 121, 3) := by decide +kernel
theorem dX4_strong_22 : decode cX4_strong 22 = .ok (.aload_n 0, 1) := by decide +kernel
theorem dX4_strong_23 : decode cX4_strong 23 = .ok (.getfield 125, 3) := by decide +kernel
theorem dX4_strong_26 : decode cX4_strong 26 = .ok (.lcmp, 1) := by decide +kernel
theorem dX4_strong_27 : decode cX4_strong 27 = .ok (.ifCond .eq 5, 3) := by decide +kernel
theorem dX4_strong_30 : decode cX4_strong 30 = .ok (.iconst 0, 1) := by decide +kernel
theorem dX4_strong_31 : decode cX4_strong 31 = .ok (.ireturn, 1) := by decide +kernel
theorem dX4_strong_32 : decode cX4_strong 32 = .ok (.iload_n 1, 1) := by decide +kernel
theorem dX4_strong_33 : decode cX4_strong 33 = .ok (.iconst 3, 1) := by decide +kernel
theorem dX4_strong_34 : decode cX4_strong 34 = .ok (.if_icmp .ne 67, 3) := by decide +kernel
theorem dX4_strong_37 : decode cX4_strong 37 = .ok (.iconst 0, 1) := by decide +kernel
theorem dX4_strong_38 : decode cX4_strong 38 = .ok (.istore 4, 2) := by decide +kernel
theorem dX4_strong_40 : decode cX4_strong 40 = .ok (.iload 4, 2) := by decide +kernel
theorem dX4_strong_42 : decode cX4_strong 42 = .ok (.aload_n 0, 1) := by decide +kernel
theorem dX4_strong_43 : decode cX4_strong 43 = .ok (.getfield 49, 3) := by decide +kernel
theorem dX4_strong_46 : decode cX4_strong 46 = .ok (.if_icmp .ge 53, 3) := by decide +kernel
theorem dX4_strong_49 : decode cX4_strong 49 = .ok (.aload_n 0, 1) := by decide +kernel
theorem dX4_strong_50 : decode cX4_strong 50 = .ok (.getfield 30, 3) := by decide +kernel
theorem dX4_strong_53 : decode cX4_strong 53 = .ok (.iload 4, 2) := by decide +kernel
theorem dX4_strong_55 : decode cX4_strong 55 = .ok (.baload, 1) := by decide +kernel
theorem dX4_strong_56 : decode cX4_strong 56 = .ok (.ifCond .eq 37, 3) := by decide +kernel
theorem dX4_strong_59 : decode cX4_strong 59 = .ok (.aload_n 0, 1) := by decide +kernel
theorem dX4_strong_60 : decode cX4_strong 60 = .ok (.iload 4, 2) := by decide +kernel
theorem dX4_strong_62 : decode cX4_strong 62 = .ok (.iload_n 2, 1) := by decide +kernel
theorem dX4_strong_63 : decode cX4_strong 63 = .ok (.invokevirtual 140, 3) := by decide +kernel
theorem dX4_strong_66 : decode cX4_strong 66 = .ok (.ifCond .eq 27, 3) := by decide +kernel
theorem dX4_strong_69 : decode cX4_strong 69 = .ok (.aload_n 0, 1) := by decide +kernel
theorem dX4_strong_70 : decode cX4_strong 70 = .ok (.getfield 134, 3) := by decide +kernel
theorem dX4_strong_73 : decode cX4_strong 73 = .ok (.aload_n 0, 1) := by decide +kernel
theorem dX4_strong_74 : decode cX4_strong 74 = .ok (.getfield 137, 3) := by decide +kernel
theorem dX4_strong_77 : decode cX4_strong 77 = .ok (.lcmp, 1) := by decide +kernel
theorem dX4_strong_78 : decode cX4_strong 78 = .ok (.ifCond .ne 15, 3) := by decide +kernel
theorem dX4_strong_81 : decode cX4_strong 81 = .ok (.aload_n 0, 1) := by decide +kernel
theorem dX4_strong_82 : decode cX4_strong 82 = .ok (.iload 4, 2) := by decide +kernel
theorem dX4_strong_84 : decode cX4_strong 84 = .ok (.iload_n 2, 1) := by decide +kernel
theorem dX4_strong_85 : decode cX4_strong 85 = .ok (.invokevirtual 164, 3) := by decide +kernel
theorem dX4_strong_88 : decode cX4_strong 88 = .ok (.ifCond .ne 5, 3) := by decide +kernel
theorem dX4_strong_91 : decode cX4_strong 91 = .ok (.iconst 0, 1) := by decide +kernel
theorem dX4_strong_92 : decode cX4_strong 92 = .ok (.ireturn, 1) := by decide +kernel
theorem dX4_strong_93 : decode cX4_strong 93 = .ok (.iinc 4 1, 3) := by decide +kernel
theorem dX4_strong_96 : decode cX4_strong 96 = .ok (.goto (-56), 3) := by decide +kernel
theorem dX4_strong_99 : decode cX4_strong 99 = .ok (.iconst 1, 1) := by decide +kernel
theorem dX4_strong_100 : decode cX4_strong 100 = .ok (.ireturn, 1) := by decide +kernel
theorem dX4_strong_101 : decode cX4_strong 101 = .ok (.iconst 0, 1) := by decide +kernel
theorem dX4_strong_102 : decode cX4_strong 102 = .ok (.istore 4, 2) := by decide +kernel
theorem dX4_strong_104 : decode cX4_strong 104 = .ok (.iload 4, 2) := by decide +kernel
theorem dX4_strong_106 : decode cX4_strong 106 = .ok (.aload_n 0, 1) := by decide +kernel
theorem dX4_strong_107 : decode cX4_strong 107 = .ok (.getfield 64, 3) := by decide +kernel
theorem dX4_strong_110 : decode cX4_strong 110 = .ok (.aload_n 0, 1) := by decide +kernel
theorem dX4_strong_111 : decode cX4_strong 111 = .ok (.getfield 67, 3) := by decide +kernel
theorem dX4_strong_114 : decode cX4_strong 114 = .ok (.iadd, 1) := by decide +kernel
theorem dX4_strong_115 : decode cX4_strong 115 = .ok (.if_icmp .ge 76, 3) := by decide +kernel
theorem dX4_strong_118 : decode cX4_strong 118 = .ok (.iconst 0, 1) := by decide +kernel
theorem dX4_strong_119 : decode cX4_strong 119 = .ok (.istore 5, 2) := by decide +kernel
theorem dX4_strong_121 : decode cX4_strong 121 = .ok (.iconst 0, 1) := by decide +kernel
theorem dX4_strong_122 : decode cX4_strong 122 = .ok (.istore 6, 2) := by decide +kernel
theorem dX4_strong_124 : decode cX4_strong 124 = .ok (.iload 6, 2) := by decide +kernel
theorem dX4_strong_126 : decode cX4_strong 126 = .ok (.aload_n 0, 1) := by decide +kernel
theorem dX4_strong_127 : decode cX4_strong 127 = .ok (.getfield 81, 3) := by decide +kernel
theorem dX4_strong_130 : decode cX4_strong 130 = .ok (.if_icmp .ge 48, 3) := by decide +kernel
theorem dX4_strong_133 : decode cX4_strong 133 = .ok (.iload 5, 2) := by decide +kernel
theorem dX4_strong_135 : decode cX4_strong 135 = .ok (.ifCond .ne 30, 3) := by decide +kernel
theorem dX4_strong_138 : decode cX4_strong 138 = .ok (.aload_n 0, 1) := by decide +kernel
theorem dX4_strong_139 : decode cX4_strong 139 = .ok (.getfield 33, 3) := by decide +kernel
theorem dX4_strong_142 : decode cX4_strong 142 = .ok (.iconst 5, 1) := by decide +kernel
theorem dX4_strong_143 : decode cX4_strong 143 = .ok (.iload 6, 2) := by decide +kernel
theorem dX4_strong_145 : decode cX4_strong 145 = .ok (.imul, 1) := by decide +kernel
theorem dX4_strong_146 : decode cX4_strong 146 = .ok (.iload 4, 2) := by decide +kernel
theorem dX4_strong_148 : decode cX4_strong 148 = .ok (.iadd, 1) := by decide +kernel
theorem dX4_strong_149 : decode cX4_strong 149 = .ok (.laload, 1) := by decide +kernel
theorem dX4_strong_150 : decode cX4_strong 150 = .ok (.lconst 0, 1) := by decide +kernel
theorem dX4_strong_151 : decode cX4_strong 151 = .ok (.lcmp, 1) := by decide +kernel
theorem dX4_strong_152 : decode cX4_strong 152 = .ok (.ifCond .le 17, 3) := by decide +kernel
theorem dX4_strong_155 : decode cX4_strong 155 = .ok (.aload_n 0, 1) := by decide +kernel
theorem dX4_strong_156 : decode cX4_strong 156 = .ok (.iload 6, 2) := by decide +kernel
theorem dX4_strong_158 : decode cX4_strong 158 = .ok (.iload_n 2, 1) := by decide +kernel
theorem dX4_strong_159 : decode cX4_strong 159 = .ok (.invokevirtual 167, 3) := by decide +kernel
theorem dX4_strong_162 : decode cX4_strong 162 = .ok (.ifCond .eq 7, 3) := by decide +kernel
theorem dX4_strong_165 : decode cX4_strong 165 = .ok (.iconst 1, 1) := by decide +kernel
theorem dX4_strong_166 : decode cX4_strong 166 = .ok (.goto 4, 3) := by decide +kernel
theorem dX4_strong_169 : decode cX4_strong 169 = .ok (.iconst 0, 1) := by decide +kernel
theorem dX4_strong_170 : decode cX4_strong 170 = .ok (.istore 5, 2) := by decide +kernel
theorem dX4_strong_172 : decode cX4_strong 172 = .ok (.iinc 6 1, 3) := by decide +kernel
theorem dX4_strong_175 : decode cX4_strong 175 = .ok (.goto (-51), 3) := by decide +kernel
theorem dX4_strong_178 : decode cX4_strong 178 = .ok (.iload 5, 2) := by decide +kernel
theorem dX4_strong_180 : decode cX4_strong 180 = .ok (.ifCond .ne 5, 3) := by decide +kernel
theorem dX4_strong_183 : decode cX4_strong 183 = .ok (.iconst 0, 1) := by decide +kernel
theorem dX4_strong_184 : decode cX4_strong 184 = .ok (.ireturn, 1) := by decide +kernel
theorem dX4_strong_185 : decode cX4_strong 185 = .ok (.iinc 4 1, 3) := by decide +kernel
theorem dX4_strong_188 : decode cX4_strong 188 = .ok (.goto (-84), 3) := by decide +kernel
theorem dX4_strong_191 : decode cX4_strong 191 = .ok (.iconst 1, 1) := by decide +kernel
theorem dX4_strong_192 : decode cX4_strong 192 = .ok (.ireturn, 1) := by decide +kernel
set_option maxRecDepth 20000 in
theorem ggX4_peer_X4_asks : GoodIn wsX4_peer wsX4_asks := goodIn_r _ [11, 12, 1, 13, 14, 10, 15, 16, 17, 18, 19, 20, 21, 22, 23, 24, 25, 26, 27, 28, 29, 30, 31, 32, 33, 34, 35, 36, 37, 38, 39, 40, 41, 42, 43, 44, 115, 116, 117, 118, 119, 120, 121, 122, 123, 124, 125, 126, 127, 128, 129, 130, 131, 132, 133, 134, 135, 136] rfl (by decide +kernel)
set_option maxRecDepth 20000 in
theorem gX4_peer_X4_asks : GoodIn wsX4_peer (wsV RX4 154 RX4 yX4_asks wsX4_asks) := goodIn_app (goodIn_c (List.mem_of_getElem? (i := 7) rfl) rfl (goodIn_c (List.mem_of_getElem? (i := 8) rfl) rfl (goodIn_c (List.mem_of_getElem? (i := 9) rfl) rfl (goodIn_c (List.mem_of_getElem? (i := 10) rfl) rfl (goodIn_nil))))) ggX4_peer_X4_asks
set_option maxRecDepth 20000 in
theorem ggX4_peer_X4_isWork : GoodIn wsX4_peer wsX4_isWork := goodIn_r _ [19, 20, 115, 116, 117, 118, 119, 120, 121, 122, 123, 124, 125, 126, 127, 128, 129, 130, 131, 132, 133, 134, 135, 136] rfl (by decide +kernel)
set_option maxRecDepth 20000 in
theorem gX4_peer_X4_isWork : GoodIn wsX4_peer (wsV RX4 60 RX4 yX4_isWork wsX4_isWork) := goodIn_app (goodIn_c (List.mem_of_getElem? (i := 16) rfl) rfl (goodIn_c (List.mem_of_getElem? (i := 17) rfl) rfl (goodIn_c (List.mem_of_getElem? (i := 18) rfl) rfl (goodIn_c (List.mem_of_getElem? (i := 10) rfl) rfl (goodIn_nil))))) ggX4_peer_X4_isWork
set_option maxRecDepth 20000 in
theorem ggX4_peer_X4_shares : GoodIn wsX4_peer wsX4_shares := goodIn_r _ [48, 20, 29, 4, 3, 6, 49, 50, 51, 10, 52, 2, 5, 53, 54, 55, 56, 26, 28, 30, 57, 58, 59, 60, 61, 62, 63, 64, 65, 66, 67, 68, 69, 70, 71, 72, 73, 74, 75, 76, 77, 78, 79, 80, 81, 82, 83, 84, 85, 86, 87, 88, 89, 90, 91, 92, 93, 94, 95, 96, 97, 98, 99, 100, 101, 102, 103, 104, 105, 106, 107, 108, 109, 110, 115, 116, 117, 118, 119, 120, 121, 122, 123, 124, 125, 126, 127, 128, 129, 130, 131, 132, 133, 134, 135, 136] rfl (by decide +kernel)
set_option maxRecDepth 20000 in
theorem gX4_peer_X4_shares : GoodIn wsX4_peer (wsV RX4 157 RX4 yX4_shares wsX4_shares) := goodIn_app (goodIn_c (List.mem_of_getElem? (i := 45) rfl) rfl (goodIn_c (List.mem_of_getElem? (i := 46) rfl) rfl (goodIn_c (List.mem_of_getElem? (i := 47) rfl) rfl (goodIn_c (List.mem_of_getElem? (i := 10) rfl) rfl (goodIn_nil))))) ggX4_peer_X4_shares
set_option maxRecDepth 20000 in
theorem ggX4_peer_X4_oneFor : GoodIn wsX4_peer wsX4_oneFor := goodIn_r _ [56, 26, 28, 30, 2, 5, 115, 116, 117, 118, 119, 120, 121, 122, 123, 124, 125, 126, 127, 128, 129, 130, 131, 132, 133, 134, 135, 136] rfl (by decide +kernel)
set_option maxRecDepth 20000 in
theorem gX4_peer_X4_oneFor : GoodIn wsX4_peer (wsV RX4 140 RX4 yX4_oneFor wsX4_oneFor) := goodIn_app (goodIn_c (List.mem_of_getElem? (i := 53) rfl) rfl (goodIn_c (List.mem_of_getElem? (i := 54) rfl) rfl (goodIn_c (List.mem_of_getElem? (i := 55) rfl) rfl (goodIn_c (List.mem_of_getElem? (i := 10) rfl) rfl (goodIn_nil))))) ggX4_peer_X4_oneFor
set_option maxRecDepth 20000 in
theorem ggX4_peer_X4_isBest : GoodIn wsX4_peer wsX4_isBest := goodIn_r _ [114, 3, 4, 107, 108, 109, 10, 110, 98, 26, 28, 30, 103, 104, 105, 106, 115, 116, 117, 118, 119, 120, 121, 122, 123, 124, 125, 126, 127, 128, 129, 130, 131, 132, 133, 134, 135, 136] rfl (by decide +kernel)
set_option maxRecDepth 20000 in
theorem gX4_peer_X4_isBest : GoodIn wsX4_peer (wsV RX4 167 RX4 yX4_isBest wsX4_isBest) := goodIn_app (goodIn_c (List.mem_of_getElem? (i := 111) rfl) rfl (goodIn_c (List.mem_of_getElem? (i := 112) rfl) rfl (goodIn_c (List.mem_of_getElem? (i := 113) rfl) rfl (goodIn_c (List.mem_of_getElem? (i := 10) rfl) rfl (goodIn_nil))))) ggX4_peer_X4_isBest
set_option maxRecDepth 20000 in
theorem ggX4_peer_X4_outWeighed : GoodIn wsX4_peer wsX4_outWeighed := goodIn_r _ [110, 98, 26, 28, 30, 115, 116, 117, 118, 119, 120, 121, 122, 123, 124, 125, 126, 127, 128, 129, 130, 131, 132, 133, 134, 135, 136] rfl (by decide +kernel)
set_option maxRecDepth 20000 in
theorem gX4_peer_X4_outWeighed : GoodIn wsX4_peer (wsV RX4 131 RX4 yX4_outWeighed wsX4_outWeighed) := goodIn_app (goodIn_c (List.mem_of_getElem? (i := 107) rfl) rfl (goodIn_c (List.mem_of_getElem? (i := 108) rfl) rfl (goodIn_c (List.mem_of_getElem? (i := 109) rfl) rfl (goodIn_c (List.mem_of_getElem? (i := 10) rfl) rfl (goodIn_nil))))) ggX4_peer_X4_outWeighed
set_option maxRecDepth 20000 in
theorem ggX4_peer_X4_inWeighed : GoodIn wsX4_peer wsX4_inWeighed := goodIn_r _ [106, 26, 98, 30, 115, 116, 117, 118, 119, 120, 121, 122, 123, 124, 125, 126, 127, 128, 129, 130, 131, 132, 133, 134, 135, 136] rfl (by decide +kernel)
set_option maxRecDepth 20000 in
theorem gX4_peer_X4_inWeighed : GoodIn wsX4_peer (wsV RX4 128 RX4 yX4_inWeighed wsX4_inWeighed) := goodIn_app (goodIn_c (List.mem_of_getElem? (i := 103) rfl) rfl (goodIn_c (List.mem_of_getElem? (i := 104) rfl) rfl (goodIn_c (List.mem_of_getElem? (i := 105) rfl) rfl (goodIn_c (List.mem_of_getElem? (i := 10) rfl) rfl (goodIn_nil))))) ggX4_peer_X4_inWeighed
theorem dX4_peer_0 : decode cX4_peer 0 = .ok (.aload_n 0, 1) := by decide +kernel
theorem dX4_peer_1 : decode cX4_peer 1 = .ok (.iload_n 1, 1) := by decide +kernel
theorem dX4_peer_2 : decode cX4_peer 2 = .ok (.iload_n 2, 1) := by decide +kernel
theorem dX4_peer_3 : decode cX4_peer 3 = .ok (.invokevirtual 154, 3) := by decide +kernel
theorem dX4_peer_6 : decode cX4_peer 6 = .ok (.ifCond .eq 20, 3) := by decide +kernel
theorem dX4_peer_9 : decode cX4_peer 9 = .ok (.aload_n 0, 1) := by decide +kernel
theorem dX4_peer_10 : decode cX4_peer 10 = .ok (.iload_n 3, 1) := by decide +kernel
theorem dX4_peer_11 : decode cX4_peer 11 = .ok (.invokevirtual 60, 3) := by decide +kernel
theorem dX4_peer_14 : decode cX4_peer 14 = .ok (.ifCond .eq 12, 3) := by decide +kernel
theorem dX4_peer_17 : decode cX4_peer 17 = .ok (.aload_n 0, 1) := by decide +kernel
theorem dX4_peer_18 : decode cX4_peer 18 = .ok (.getfield 23, 3) := by decide +kernel
theorem dX4_peer_21 : decode cX4_peer 21 = .ok (.iload_n 3, 1) := by decide +kernel
theorem dX4_peer_22 : decode cX4_peer 22 = .ok (.baload, 1) := by decide +kernel
theorem dX4_peer_23 : decode cX4_peer 23 = .ok (.ifCond .ne 5, 3) := by decide +kernel
theorem dX4_peer_26 : decode cX4_peer 26 = .ok (.iconst (-1), 1) := by decide +kernel
theorem dX4_peer_27 : decode cX4_peer 27 = .ok (.ireturn, 1) := by decide +kernel
theorem dX4_peer_28 : decode cX4_peer 28 = .ok (.aload_n 0, 1) := by decide +kernel
theorem dX4_peer_29 : decode cX4_peer 29 = .ok (.iload_n 1, 1) := by decide +kernel
theorem dX4_peer_30 : decode cX4_peer 30 = .ok (.iload_n 2, 1) := by decide +kernel
theorem dX4_peer_31 : decode cX4_peer 31 = .ok (.invokevirtual 157, 3) := by decide +kernel
theorem dX4_peer_34 : decode cX4_peer 34 = .ok (.istore 4, 2) := by decide +kernel
theorem dX4_peer_36 : decode cX4_peer 36 = .ok (.iload_n 1, 1) := by decide +kernel
theorem dX4_peer_37 : decode cX4_peer 37 = .ok (.iconst 3, 1) := by decide +kernel
theorem dX4_peer_38 : decode cX4_peer 38 = .ok (.if_icmp .ne 40, 3) := by decide +kernel
theorem dX4_peer_41 : decode cX4_peer 41 = .ok (.aload_n 0, 1) := by decide +kernel
theorem dX4_peer_42 : decode cX4_peer 42 = .ok (.iload_n 3, 1) := by decide +kernel
theorem dX4_peer_43 : decode cX4_peer 43 = .ok (.iload_n 2, 1) := by decide +kernel
theorem dX4_peer_44 : decode cX4_peer 44 = .ok (.invokevirtual 140, 3) := by decide +kernel
theorem dX4_peer_47 : decode cX4_peer 47 = .ok (.ifCond .eq 29, 3) := by decide +kernel
theorem dX4_peer_50 : decode cX4_peer 50 = .ok (.aload_n 0, 1) := by decide +kernel
theorem dX4_peer_51 : decode cX4_peer 51 = .ok (.getfield 134, 3) := by decide +kernel
theorem dX4_peer_54 : decode cX4_peer 54 = .ok (.aload_n 0, 1) := by decide +kernel
theorem dX4_peer_55 : decode cX4_peer 55 = .ok (.getfield 125, 3) := by decide +kernel
theorem dX4_peer_58 : decode cX4_peer 58 = .ok (.lmul, 1) := by decide +kernel
theorem dX4_peer_59 : decode cX4_peer 59 = .ok (.aload_n 0, 1) := by decide +kernel
theorem dX4_peer_60 : decode cX4_peer 60 = .ok (.getfield 121, 3) := by decide +kernel
theorem dX4_peer_63 : decode cX4_peer 63 = .ok (.aload_n 0, 1) := by decide +kernel
theorem dX4_peer_64 : decode cX4_peer 64 = .ok (.getfield 137, 3) := by decide +kernel
theorem dX4_peer_67 : decode cX4_peer 67 = .ok (.lmul, 1) := by decide +kernel
theorem dX4_peer_68 : decode cX4_peer 68 = .ok (.lcmp, 1) := by decide +kernel
theorem dX4_peer_69 : decode cX4_peer 69 = .ok (.ifCond .ne 7, 3) := by decide +kernel
theorem dX4_peer_72 : decode cX4_peer 72 = .ok (.iconst 1, 1) := by decide +kernel
theorem dX4_peer_73 : decode cX4_peer 73 = .ok (.goto 4, 3) := by decide +kernel
theorem dX4_peer_76 : decode cX4_peer 76 = .ok (.iconst 0, 1) := by decide +kernel
theorem dX4_peer_77 : decode cX4_peer 77 = .ok (.ireturn, 1) := by decide +kernel
theorem dX4_peer_78 : decode cX4_peer 78 = .ok (.iconst 0, 1) := by decide +kernel
theorem dX4_peer_79 : decode cX4_peer 79 = .ok (.istore 5, 2) := by decide +kernel
theorem dX4_peer_81 : decode cX4_peer 81 = .ok (.iload 5, 2) := by decide +kernel
theorem dX4_peer_83 : decode cX4_peer 83 = .ok (.aload_n 0, 1) := by decide +kernel
theorem dX4_peer_84 : decode cX4_peer 84 = .ok (.getfield 81, 3) := by decide +kernel
theorem dX4_peer_87 : decode cX4_peer 87 = .ok (.if_icmp .ge 39, 3) := by decide +kernel
theorem dX4_peer_90 : decode cX4_peer 90 = .ok (.aload_n 0, 1) := by decide +kernel
theorem dX4_peer_91 : decode cX4_peer 91 = .ok (.iload 5, 2) := by decide +kernel
theorem dX4_peer_93 : decode cX4_peer 93 = .ok (.iload_n 2, 1) := by decide +kernel
theorem dX4_peer_94 : decode cX4_peer 94 = .ok (.invokevirtual 167, 3) := by decide +kernel
theorem dX4_peer_97 : decode cX4_peer 97 = .ok (.ifCond .eq 23, 3) := by decide +kernel
theorem dX4_peer_100 : decode cX4_peer 100 = .ok (.aload_n 0, 1) := by decide +kernel
theorem dX4_peer_101 : decode cX4_peer 101 = .ok (.iload 5, 2) := by decide +kernel
theorem dX4_peer_103 : decode cX4_peer 103 = .ok (.iload_n 3, 1) := by decide +kernel
theorem dX4_peer_104 : decode cX4_peer 104 = .ok (.invokevirtual 131, 3) := by decide +kernel
theorem dX4_peer_107 : decode cX4_peer 107 = .ok (.aload_n 0, 1) := by decide +kernel
theorem dX4_peer_108 : decode cX4_peer 108 = .ok (.iload 5, 2) := by decide +kernel
theorem dX4_peer_110 : decode cX4_peer 110 = .ok (.iload_n 3, 1) := by decide +kernel
theorem dX4_peer_111 : decode cX4_peer 111 = .ok (.invokevirtual 128, 3) := by decide +kernel
theorem dX4_peer_114 : decode cX4_peer 114 = .ok (.lcmp, 1) := by decide +kernel
theorem dX4_peer_115 : decode cX4_peer 115 = .ok (.ifCond .eq 5, 3) := by decide +kernel
theorem dX4_peer_118 : decode cX4_peer 118 = .ok (.iconst 0, 1) := by decide +kernel
theorem dX4_peer_119 : decode cX4_peer 119 = .ok (.ireturn, 1) := by decide +kernel
theorem dX4_peer_120 : decode cX4_peer 120 = .ok (.iinc 5 1, 3) := by decide +kernel
theorem dX4_peer_123 : decode cX4_peer 123 = .ok (.goto (-42), 3) := by decide +kernel
theorem dX4_peer_126 : decode cX4_peer 126 = .ok (.iconst 1, 1) := by decide +kernel
theorem dX4_peer_127 : decode cX4_peer 127 = .ok (.ireturn, 1) := by decide +kernel
set_option maxRecDepth 20000 in
theorem ggX4_size_X4_asks : GoodIn wsX4_size wsX4_asks := goodIn_r _ [7, 8, 9, 10, 11, 6, 12, 13, 14, 15, 16, 17, 18, 19, 20, 21, 22, 23, 24, 25, 26, 27, 28, 29, 30, 31, 32, 33, 34, 35, 36, 37, 38, 39, 40, 41, 111, 112, 113, 114, 115, 116, 117, 118, 119, 120, 121, 122, 123, 124, 125, 126, 127, 128, 129, 130, 131, 132] rfl (by decide +kernel)
set_option maxRecDepth 20000 in
theorem gX4_size_X4_asks : GoodIn wsX4_size (wsV RX4 154 RX4 yX4_asks wsX4_asks) := goodIn_app (goodIn_c (List.mem_of_getElem? (i := 3) rfl) rfl (goodIn_c (List.mem_of_getElem? (i := 4) rfl) rfl (goodIn_c (List.mem_of_getElem? (i := 5) rfl) rfl (goodIn_c (List.mem_of_getElem? (i := 6) rfl) rfl (goodIn_nil))))) ggX4_size_X4_asks
set_option maxRecDepth 20000 in
theorem ggX4_size_X4_shares : GoodIn wsX4_size wsX4_shares := goodIn_r _ [45, 17, 26, 1, 2, 46, 47, 48, 49, 6, 50, 51, 52, 53, 54, 55, 56, 23, 25, 27, 57, 58, 59, 60, 61, 62, 63, 64, 65, 66, 67, 68, 69, 70, 71, 72, 73, 74, 75, 76, 77, 78, 79, 80, 81, 82, 83, 84, 85, 86, 87, 88, 89, 90, 91, 92, 93, 94, 95, 96, 97, 98, 99, 100, 101, 102, 103, 104, 105, 106, 107, 108, 109, 110, 111, 112, 113, 114, 115, 116, 117, 118, 119, 120, 121, 122, 123, 124, 125, 126, 127, 128, 129, 130, 131, 132] rfl (by decide +kernel)
set_option maxRecDepth 20000 in
theorem gX4_size_X4_shares : GoodIn wsX4_size (wsV RX4 157 RX4 yX4_shares wsX4_shares) := goodIn_app (goodIn_c (List.mem_of_getElem? (i := 42) rfl) rfl (goodIn_c (List.mem_of_getElem? (i := 43) rfl) rfl (goodIn_c (List.mem_of_getElem? (i := 44) rfl) rfl (goodIn_c (List.mem_of_getElem? (i := 6) rfl) rfl (goodIn_nil))))) ggX4_size_X4_shares
theorem dX4_size_0 : decode cX4_size 0 = .ok (.aload_n 0, 1) := by decide +kernel
theorem dX4_size_1 : decode cX4_size 1 = .ok (.iconst 0, 1) := by decide +kernel
theorem dX4_size_2 : decode cX4_size 2 = .ok (.iload_n 1, 1) := by decide +kernel
theorem dX4_size_3 : decode cX4_size 3 = .ok (.invokevirtual 154, 3) := by decide +kernel
theorem dX4_size_6 : decode cX4_size 6 = .ok (.ifCond .ne 5, 3) := by decide +kernel
theorem dX4_size_9 : decode cX4_size 9 = .ok (.iconst 2, 1) := by decide +kernel
theorem dX4_size_10 : decode cX4_size 10 = .ok (.ireturn, 1) := by decide +kernel
theorem dX4_size_11 : decode cX4_size 11 = .ok (.aload_n 0, 1) := by decide +kernel
theorem dX4_size_12 : decode cX4_size 12 = .ok (.iconst 0, 1) := by decide +kernel
theorem dX4_size_13 : decode cX4_size 13 = .ok (.iload_n 1, 1) := by decide +kernel
theorem dX4_size_14 : decode cX4_size 14 = .ok (.invokevirtual 157, 3) := by decide +kernel
theorem dX4_size_17 : decode cX4_size 17 = .ok (.istore_n 2, 1) := by decide +kernel
theorem dX4_size_18 : decode cX4_size 18 = .ok (.aload_n 0, 1) := by decide +kernel
theorem dX4_size_19 : decode cX4_size 19 = .ok (.getfield 121, 3) := by decide +kernel
theorem dX4_size_22 : decode cX4_size 22 = .ok (.lstore_n 3, 1) := by decide +kernel
theorem dX4_size_23 : decode cX4_size 23 = .ok (.aload_n 0, 1) := by decide +kernel
theorem dX4_size_24 : decode cX4_size 24 = .ok (.getfield 125, 3) := by decide +kernel
theorem dX4_size_27 : decode cX4_size 27 = .ok (.lstore 5, 2) := by decide +kernel
theorem dX4_size_29 : decode cX4_size 29 = .ok (.aload_n 0, 1) := by decide +kernel
theorem dX4_size_30 : decode cX4_size 30 = .ok (.iconst 2, 1) := by decide +kernel
theorem dX4_size_31 : decode cX4_size 31 = .ok (.iload_n 1, 1) := by decide +kernel
theorem dX4_size_32 : decode cX4_size 32 = .ok (.invokevirtual 157, 3) := by decide +kernel
theorem dX4_size_35 : decode cX4_size 35 = .ok (.istore_n 2, 1) := by decide +kernel
theorem dX4_size_36 : decode cX4_size 36 = .ok (.lload_n 3, 1) := by decide +kernel
theorem dX4_size_37 : decode cX4_size 37 = .ok (.aload_n 0, 1) := by decide +kernel
theorem dX4_size_38 : decode cX4_size 38 = .ok (.getfield 125, 3) := by decide +kernel
theorem dX4_size_41 : decode cX4_size 41 = .ok (.lmul, 1) := by decide +kernel
theorem dX4_size_42 : decode cX4_size 42 = .ok (.aload_n 0, 1) := by decide +kernel
theorem dX4_size_43 : decode cX4_size 43 = .ok (.getfield 121, 3) := by decide +kernel
theorem dX4_size_46 : decode cX4_size 46 = .ok (.lload 5, 2) := by decide +kernel
theorem dX4_size_48 : decode cX4_size 48 = .ok (.lmul, 1) := by decide +kernel
theorem dX4_size_49 : decode cX4_size 49 = .ok (.lcmp, 1) := by decide +kernel
theorem dX4_size_50 : decode cX4_size 50 = .ok (.ifCond .ne 5, 3) := by decide +kernel
theorem dX4_size_53 : decode cX4_size 53 = .ok (.iconst 0, 1) := by decide +kernel
theorem dX4_size_54 : decode cX4_size 54 = .ok (.ireturn, 1) := by decide +kernel
theorem dX4_size_55 : decode cX4_size 55 = .ok (.aload_n 0, 1) := by decide +kernel
theorem dX4_size_56 : decode cX4_size 56 = .ok (.iconst 1, 1) := by decide +kernel
theorem dX4_size_57 : decode cX4_size 57 = .ok (.iload_n 1, 1) := by decide +kernel
theorem dX4_size_58 : decode cX4_size 58 = .ok (.invokevirtual 157, 3) := by decide +kernel
theorem dX4_size_61 : decode cX4_size 61 = .ok (.istore_n 2, 1) := by decide +kernel
theorem dX4_size_62 : decode cX4_size 62 = .ok (.lload_n 3, 1) := by decide +kernel
theorem dX4_size_63 : decode cX4_size 63 = .ok (.aload_n 0, 1) := by decide +kernel
theorem dX4_size_64 : decode cX4_size 64 = .ok (.getfield 125, 3) := by decide +kernel
theorem dX4_size_67 : decode cX4_size 67 = .ok (.lmul, 1) := by decide +kernel
theorem dX4_size_68 : decode cX4_size 68 = .ok (.aload_n 0, 1) := by decide +kernel
theorem dX4_size_69 : decode cX4_size 69 = .ok (.getfield 121, 3) := by decide +kernel
theorem dX4_size_72 : decode cX4_size 72 = .ok (.lload 5, 2) := by decide +kernel
theorem dX4_size_74 : decode cX4_size 74 = .ok (.lmul, 1) := by decide +kernel
theorem dX4_size_75 : decode cX4_size 75 = .ok (.lcmp, 1) := by decide +kernel
theorem dX4_size_76 : decode cX4_size 76 = .ok (.ifCond .ne 7, 3) := by decide +kernel
theorem dX4_size_79 : decode cX4_size 79 = .ok (.iconst 1, 1) := by decide +kernel
theorem dX4_size_80 : decode cX4_size 80 = .ok (.goto 4, 3) := by decide +kernel
theorem dX4_size_83 : decode cX4_size 83 = .ok (.iconst (-1), 1) := by decide +kernel
theorem dX4_size_84 : decode cX4_size 84 = .ok (.ireturn, 1) := by decide +kernel
set_option maxRecDepth 20000 in
theorem ggX4_above_X4_asks : GoodIn wsX4_above wsX4_asks := goodIn_r _ [7, 8, 9, 10, 11, 6, 12, 13, 14, 15, 16, 17, 18, 19, 20, 21, 22, 23, 24, 25, 2, 26, 27, 28, 29, 30, 31, 32, 33, 34, 35, 36, 37, 38, 39, 40, 115, 116, 117, 118, 119, 120, 121, 122, 123, 124, 125, 126, 127, 128, 129, 130, 131, 132, 133, 134, 135, 136] rfl (by decide +kernel)
set_option maxRecDepth 20000 in
theorem gX4_above_X4_asks : GoodIn wsX4_above (wsV RX4 154 RX4 yX4_asks wsX4_asks) := goodIn_app (goodIn_c (List.mem_of_getElem? (i := 3) rfl) rfl (goodIn_c (List.mem_of_getElem? (i := 4) rfl) rfl (goodIn_c (List.mem_of_getElem? (i := 5) rfl) rfl (goodIn_c (List.mem_of_getElem? (i := 6) rfl) rfl (goodIn_nil))))) ggX4_above_X4_asks
set_option maxRecDepth 20000 in
theorem ggX4_above_X4_isIn : GoodIn wsX4_above wsX4_isIn := goodIn_r _ [12] rfl (by decide +kernel)
set_option maxRecDepth 20000 in
theorem gX4_above_X4_isIn : GoodIn wsX4_above (va_wsS RX4 52 yX4_isIn wsX4_isIn) := goodIn_app (goodIn_c (List.mem_of_getElem? (i := 10) rfl) rfl (goodIn_c (List.mem_of_getElem? (i := 11) rfl) rfl (goodIn_c (List.mem_of_getElem? (i := 6) rfl) rfl (goodIn_nil)))) ggX4_above_X4_isIn
set_option maxRecDepth 20000 in
theorem ggX4_above_X4_shares : GoodIn wsX4_above wsX4_shares := goodIn_r _ [44, 17, 2, 45, 46, 47, 48, 49, 50, 6, 51, 52, 53, 54, 55, 56, 57, 23, 25, 26, 58, 59, 60, 61, 62, 63, 64, 65, 66, 67, 68, 1, 69, 70, 71, 72, 73, 74, 75, 76, 77, 78, 79, 80, 81, 82, 83, 84, 85, 86, 87, 88, 89, 90, 91, 92, 93, 94, 95, 96, 97, 98, 99, 100, 101, 102, 103, 104, 105, 106, 107, 108, 109, 110, 115, 116, 117, 118, 119, 120, 121, 122, 123, 124, 125, 126, 127, 128, 129, 130, 131, 132, 133, 134, 135, 136] rfl (by decide +kernel)
set_option maxRecDepth 20000 in
theorem gX4_above_X4_shares : GoodIn wsX4_above (wsV RX4 157 RX4 yX4_shares wsX4_shares) := goodIn_app (goodIn_c (List.mem_of_getElem? (i := 41) rfl) rfl (goodIn_c (List.mem_of_getElem? (i := 42) rfl) rfl (goodIn_c (List.mem_of_getElem? (i := 43) rfl) rfl (goodIn_c (List.mem_of_getElem? (i := 6) rfl) rfl (goodIn_nil))))) ggX4_above_X4_shares
set_option maxRecDepth 20000 in
theorem ggX4_above_X4_part : GoodIn wsX4_above wsX4_part := goodIn_r _ [114, 45, 46, 83, 84, 6, 85, 86, 87, 88, 89, 115, 116, 117, 118, 119, 120, 121, 122, 123, 124, 125, 126, 127, 128, 129, 130, 131, 132, 133, 134, 135, 136] rfl (by decide +kernel)
set_option maxRecDepth 20000 in
theorem gX4_above_X4_part : GoodIn wsX4_above (wsV RX4 160 RX4 yX4_part wsX4_part) := goodIn_app (goodIn_c (List.mem_of_getElem? (i := 111) rfl) rfl (goodIn_c (List.mem_of_getElem? (i := 112) rfl) rfl (goodIn_c (List.mem_of_getElem? (i := 113) rfl) rfl (goodIn_c (List.mem_of_getElem? (i := 6) rfl) rfl (goodIn_nil))))) ggX4_above_X4_part
theorem dX4_above_0 : decode cX4_above 0 = .ok (.aload_n 0, 1) := by decide +kernel
theorem dX4_above_1 : decode cX4_above 1 = .ok (.iload_n 1, 1) := by decide +kernel
theorem dX4_above_2 : decode cX4_above 2 = .ok (.iload_n 2, 1) := by decide +kernel
theorem dX4_above_3 : decode cX4_above 3 = .ok (.invokevirtual 154, 3) := by decide +kernel
theorem dX4_above_6 : decode cX4_above 6 = .ok (.ifCond .eq 12, 3) := by decide +kernel
theorem dX4_above_9 : decode cX4_above 9 = .ok (.iload_n 3, 1) := by decide +kernel
theorem dX4_above_10 : decode cX4_above 10 = .ok (.iconst 0, 1) := by decide +kernel
theorem dX4_above_11 : decode cX4_above 11 = .ok (.iconst 1, 1) := by decide +kernel
theorem dX4_above_12 : decode cX4_above 12 = .ok (.invokestatic 52, 3) := by decide +kernel
theorem dX4_above_15 : decode cX4_above 15 = .ok (.ifCond .ne 7, 3) := by decide +kernel
theorem dX4_above_18 : decode cX4_above 18 = .ok (.ldc2_w 76, 3) := by decide +kernel
theorem dX4_above_21 : decode cX4_above 21 = .ok (.lreturn, 1) := by decide +kernel
theorem dX4_above_22 : decode cX4_above 22 = .ok (.aload_n 0, 1) := by decide +kernel
theorem dX4_above_23 : decode cX4_above 23 = .ok (.getfield 30, 3) := by decide +kernel
theorem dX4_above_26 : decode cX4_above 26 = .ok (.iload_n 2, 1) := by decide +kernel
theorem dX4_above_27 : decode cX4_above 27 = .ok (.iconst 0, 1) := by decide +kernel
theorem dX4_above_28 : decode cX4_above 28 = .ok (.bastore, 1) := by decide +kernel
theorem dX4_above_29 : decode cX4_above 29 = .ok (.aload_n 0, 1) := by decide +kernel
theorem dX4_above_30 : decode cX4_above 30 = .ok (.iload_n 1, 1) := by decide +kernel
theorem dX4_above_31 : decode cX4_above 31 = .ok (.iload_n 2, 1) := by decide +kernel
theorem dX4_above_32 : decode cX4_above 32 = .ok (.invokevirtual 157, 3) := by decide +kernel
theorem dX4_above_35 : decode cX4_above 35 = .ok (.ifCond .eq 11, 3) := by decide +kernel
theorem dX4_above_38 : decode cX4_above 38 = .ok (.aload_n 0, 1) := by decide +kernel
theorem dX4_above_39 : decode cX4_above 39 = .ok (.iload_n 3, 1) := by decide +kernel
theorem dX4_above_40 : decode cX4_above 40 = .ok (.invokevirtual 160, 3) := by decide +kernel
theorem dX4_above_43 : decode cX4_above 43 = .ok (.goto 6, 3) := by decide +kernel
theorem dX4_above_46 : decode cX4_above 46 = .ok (.ldc2_w 76, 3) := by decide +kernel
theorem dX4_above_49 : decode cX4_above 49 = .ok (.lreturn, 1) := by decide +kernel
set_option maxRecDepth 20000 in
theorem ggX4_cost_X4_asks : GoodIn wsX4_cost wsX4_asks := goodIn_r _ [11, 12, 13, 14, 15, 10, 16, 17, 18, 19, 20, 3, 21, 22, 23, 24, 1, 6, 5, 25, 26, 4, 27, 28, 29, 30, 31, 32, 33, 34, 35, 36, 37, 38, 39, 40, 115, 116, 117, 118, 119, 120, 121, 122, 123, 124, 125, 126, 127, 128, 129, 130, 131, 132, 133, 134, 135, 136] rfl (by decide +kernel)
set_option maxRecDepth 20000 in
theorem gX4_cost_X4_asks : GoodIn wsX4_cost (wsV RX4 154 RX4 yX4_asks wsX4_asks) := goodIn_app (goodIn_c (List.mem_of_getElem? (i := 7) rfl) rfl (goodIn_c (List.mem_of_getElem? (i := 8) rfl) rfl (goodIn_c (List.mem_of_getElem? (i := 9) rfl) rfl (goodIn_c (List.mem_of_getElem? (i := 10) rfl) rfl (goodIn_nil))))) ggX4_cost_X4_asks
set_option maxRecDepth 20000 in
theorem ggX4_cost_X4_isIn : GoodIn wsX4_cost wsX4_isIn := goodIn_r _ [16] rfl (by decide +kernel)
set_option maxRecDepth 20000 in
theorem gX4_cost_X4_isIn : GoodIn wsX4_cost (va_wsS RX4 52 yX4_isIn wsX4_isIn) := goodIn_app (goodIn_c (List.mem_of_getElem? (i := 14) rfl) rfl (goodIn_c (List.mem_of_getElem? (i := 15) rfl) rfl (goodIn_c (List.mem_of_getElem? (i := 10) rfl) rfl (goodIn_nil)))) ggX4_cost_X4_isIn
set_option maxRecDepth 20000 in
theorem ggX4_cost_X4_shares : GoodIn wsX4_cost wsX4_shares := goodIn_r _ [44, 3, 26, 45, 46, 47, 48, 49, 50, 10, 51, 52, 53, 54, 55, 56, 57, 6, 25, 4, 58, 59, 60, 61, 62, 63, 64, 65, 66, 67, 68, 2, 69, 70, 71, 72, 73, 74, 75, 76, 77, 78, 79, 80, 81, 82, 83, 84, 85, 86, 87, 88, 89, 90, 91, 92, 93, 94, 95, 96, 97, 98, 99, 100, 101, 102, 103, 104, 105, 106, 107, 108, 109, 110, 115, 116, 117, 118, 119, 120, 121, 122, 123, 124, 125, 126, 127, 128, 129, 130, 131, 132, 133, 134, 135, 136] rfl (by decide +kernel)
set_option maxRecDepth 20000 in
theorem gX4_cost_X4_shares : GoodIn wsX4_cost (wsV RX4 157 RX4 yX4_shares wsX4_shares) := goodIn_app (goodIn_c (List.mem_of_getElem? (i := 41) rfl) rfl (goodIn_c (List.mem_of_getElem? (i := 42) rfl) rfl (goodIn_c (List.mem_of_getElem? (i := 43) rfl) rfl (goodIn_c (List.mem_of_getElem? (i := 10) rfl) rfl (goodIn_nil))))) ggX4_cost_X4_shares
set_option maxRecDepth 20000 in
theorem ggX4_cost_X4_part : GoodIn wsX4_cost wsX4_part := goodIn_r _ [114, 45, 46, 83, 84, 10, 85, 86, 87, 88, 89, 115, 116, 117, 118, 119, 120, 121, 122, 123, 124, 125, 126, 127, 128, 129, 130, 131, 132, 133, 134, 135, 136] rfl (by decide +kernel)
set_option maxRecDepth 20000 in
theorem gX4_cost_X4_part : GoodIn wsX4_cost (wsV RX4 160 RX4 yX4_part wsX4_part) := goodIn_app (goodIn_c (List.mem_of_getElem? (i := 111) rfl) rfl (goodIn_c (List.mem_of_getElem? (i := 112) rfl) rfl (goodIn_c (List.mem_of_getElem? (i := 113) rfl) rfl (goodIn_c (List.mem_of_getElem? (i := 10) rfl) rfl (goodIn_nil))))) ggX4_cost_X4_part
theorem dX4_cost_0 : decode cX4_cost 0 = .ok (.aload_n 0, 1) := by decide +kernel
theorem dX4_cost_1 : decode cX4_cost 1 = .ok (.iload_n 1, 1) := by decide +kernel
theorem dX4_cost_2 : decode cX4_cost 2 = .ok (.iload_n 2, 1) := by decide +kernel
theorem dX4_cost_3 : decode cX4_cost 3 = .ok (.invokevirtual 154, 3) := by decide +kernel
theorem dX4_cost_6 : decode cX4_cost 6 = .ok (.ifCond .eq 61, 3) := by decide +kernel
theorem dX4_cost_9 : decode cX4_cost 9 = .ok (.iload 5, 2) := by decide +kernel
theorem dX4_cost_11 : decode cX4_cost 11 = .ok (.iconst 0, 1) := by decide +kernel
theorem dX4_cost_12 : decode cX4_cost 12 = .ok (.iconst 1, 1) := by decide +kernel
theorem dX4_cost_13 : decode cX4_cost 13 = .ok (.invokestatic 52, 3) := by decide +kernel
theorem dX4_cost_16 : decode cX4_cost 16 = .ok (.ifCond .eq 51, 3) := by decide +kernel
theorem dX4_cost_19 : decode cX4_cost 19 = .ok (.iload_n 3, 1) := by decide +kernel
theorem dX4_cost_20 : decode cX4_cost 20 = .ok (.iconst 0, 1) := by decide +kernel
theorem dX4_cost_21 : decode cX4_cost 21 = .ok (.bipush 30, 2) := by decide +kernel
theorem dX4_cost_23 : decode cX4_cost 23 = .ok (.invokestatic 52, 3) := by decide +kernel
theorem dX4_cost_26 : decode cX4_cost 26 = .ok (.ifCond .eq 41, 3) := by decide +kernel
theorem dX4_cost_29 : decode cX4_cost 29 = .ok (.aload_n 0, 1) := by decide +kernel
theorem dX4_cost_30 : decode cX4_cost 30 = .ok (.getfield 9, 3) := by decide +kernel
theorem dX4_cost_33 : decode cX4_cost 33 = .ok (.iconst 1, 1) := by decide +kernel
theorem dX4_cost_34 : decode cX4_cost 34 = .ok (.if_icmp .le 14, 3) := by decide +kernel
theorem dX4_cost_37 : decode cX4_cost 37 = .ok (.iload 4, 2) := by decide +kernel
theorem dX4_cost_39 : decode cX4_cost 39 = .ok (.iconst 0, 1) := by decide +kernel
theorem dX4_cost_40 : decode cX4_cost 40 = .ok (.bipush 30, 2) := by decide +kernel
theorem dX4_cost_42 : decode cX4_cost 42 = .ok (.invokestatic 52, 3) := by decide +kernel
theorem dX4_cost_45 : decode cX4_cost 45 = .ok (.ifCond .eq 22, 3) := by decide +kernel
theorem dX4_cost_48 : decode cX4_cost 48 = .ok (.iload_n 3, 1) := by decide +kernel
theorem dX4_cost_49 : decode cX4_cost 49 = .ok (.aload_n 0, 1) := by decide +kernel
theorem dX4_cost_50 : decode cX4_cost 50 = .ok (.getfield 9, 3) := by decide +kernel
theorem dX4_cost_53 : decode cX4_cost 53 = .ok (.iconst 1, 1) := by decide +kernel
theorem dX4_cost_54 : decode cX4_cost 54 = .ok (.if_icmp .le 8, 3) := by decide +kernel
theorem dX4_cost_57 : decode cX4_cost 57 = .ok (.iload 4, 2) := by decide +kernel
theorem dX4_cost_59 : decode cX4_cost 59 = .ok (.goto 4, 3) := by decide +kernel
theorem dX4_cost_62 : decode cX4_cost 62 = .ok (.iconst 0, 1) := by decide +kernel
theorem dX4_cost_63 : decode cX4_cost 63 = .ok (.iadd, 1) := by decide +kernel
theorem dX4_cost_64 : decode cX4_cost 64 = .ok (.ifCond .ne 7, 3) := by decide +kernel
theorem dX4_cost_67 : decode cX4_cost 67 = .ok (.ldc2_w 76, 3) := by decide +kernel
theorem dX4_cost_70 : decode cX4_cost 70 = .ok (.lreturn, 1) := by decide +kernel
theorem dX4_cost_71 : decode cX4_cost 71 = .ok (.iconst 0, 1) := by decide +kernel
theorem dX4_cost_72 : decode cX4_cost 72 = .ok (.istore 6, 2) := by decide +kernel
theorem dX4_cost_74 : decode cX4_cost 74 = .ok (.iload 6, 2) := by decide +kernel
theorem dX4_cost_76 : decode cX4_cost 76 = .ok (.aload_n 0, 1) := by decide +kernel
theorem dX4_cost_77 : decode cX4_cost 77 = .ok (.getfield 49, 3) := by decide +kernel
theorem dX4_cost_80 : decode cX4_cost 80 = .ok (.if_icmp .ge 109, 3) := by decide +kernel
theorem dX4_cost_83 : decode cX4_cost 83 = .ok (.iload_n 3, 1) := by decide +kernel
theorem dX4_cost_84 : decode cX4_cost 84 = .ok (.aload_n 0, 1) := by decide +kernel
theorem dX4_cost_85 : decode cX4_cost 85 = .ok (.getfield 27, 3) := by decide +kernel
theorem dX4_cost_88 : decode cX4_cost 88 = .ok (.iconst 4, 1) := by decide +kernel
theorem dX4_cost_89 : decode cX4_cost 89 = .ok (.iload 6, 2) := by decide +kernel
theorem dX4_cost_91 : decode cX4_cost 91 = .ok (.imul, 1) := by decide +kernel
theorem dX4_cost_92 : decode cX4_cost 92 = .ok (.iaload, 1) := by decide +kernel
theorem dX4_cost_93 : decode cX4_cost 93 = .ok (.imul, 1) := by decide +kernel
theorem dX4_cost_94 : decode cX4_cost 94 = .ok (.aload_n 0, 1) := by decide +kernel
theorem dX4_cost_95 : decode cX4_cost 95 = .ok (.getfield 9, 3) := by decide +kernel
theorem dX4_cost_98 : decode cX4_cost 98 = .ok (.iconst 1, 1) := by decide +kernel
theorem dX4_cost_99 : decode cX4_cost 99 = .ok (.if_icmp .le 20, 3) := by decide +kernel
theorem dX4_cost_102 : decode cX4_cost 102 = .ok (.iload 4, 2) := by decide +kernel
theorem dX4_cost_104 : decode cX4_cost 104 = .ok (.aload_n 0, 1) := by decide +kernel
theorem dX4_cost_105 : decode cX4_cost 105 = .ok (.getfield 27, 3) := by decide +kernel
theorem dX4_cost_108 : decode cX4_cost 108 = .ok (.iconst 4, 1) := by decide +kernel
theorem dX4_cost_109 : decode cX4_cost 109 = .ok (.iload 6, 2) := by decide +kernel
theorem dX4_cost_111 : decode cX4_cost 111 = .ok (.imul, 1) := by decide +kernel
theorem dX4_cost_112 : decode cX4_cost 112 = .ok (.iconst 1, 1) := by decide +kernel
theorem dX4_cost_113 : decode cX4_cost 113 = .ok (.iadd, 1) := by decide +kernel
theorem dX4_cost_114 : decode cX4_cost 114 = .ok (.iaload, 1) := by decide +kernel
theorem dX4_cost_115 : decode cX4_cost 115 = .ok (.imul, 1) := by decide +kernel
theorem dX4_cost_116 : decode cX4_cost 116 = .ok (.goto 4, 3) := by decide +kernel
theorem dX4_cost_119 : decode cX4_cost 119 = .ok (.iconst 0, 1) := by decide +kernel
theorem dX4_cost_120 : decode cX4_cost 120 = .ok (.iadd, 1) := by decide +kernel
theorem dX4_cost_121 : decode cX4_cost 121 = .ok (.istore 7, 2) := by decide +kernel
theorem dX4_cost_123 : decode cX4_cost 123 = .ok (.iconst 0, 1) := by decide +kernel
theorem dX4_cost_124 : decode cX4_cost 124 = .ok (.istore 8, 2) := by decide +kernel
theorem dX4_cost_126 : decode cX4_cost 126 = .ok (.iload 8, 2) := by decide +kernel
theorem dX4_cost_128 : decode cX4_cost 128 = .ok (.aload_n 0, 1) := by decide +kernel
theorem dX4_cost_129 : decode cX4_cost 129 = .ok (.getfield 13, 3) := by decide +kernel
theorem dX4_cost_132 : decode cX4_cost 132 = .ok (.if_icmp .ge 40, 3) := by decide +kernel
theorem dX4_cost_135 : decode cX4_cost 135 = .ok (.aload_n 0, 1) := by decide +kernel
theorem dX4_cost_136 : decode cX4_cost 136 = .ok (.getfield 27, 3) := by decide +kernel
theorem dX4_cost_139 : decode cX4_cost 139 = .ok (.iconst 4, 1) := by decide +kernel
theorem dX4_cost_140 : decode cX4_cost 140 = .ok (.iload 6, 2) := by decide +kernel
theorem dX4_cost_142 : decode cX4_cost 142 = .ok (.imul, 1) := by decide +kernel
theorem dX4_cost_143 : decode cX4_cost 143 = .ok (.iconst 1, 1) := by decide +kernel
theorem dX4_cost_144 : decode cX4_cost 144 = .ok (.iadd, 1) := by decide +kernel
theorem dX4_cost_145 : decode cX4_cost 145 = .ok (.iload 8, 2) := by decide +kernel
theorem dX4_cost_147 : decode cX4_cost 147 = .ok (.iadd, 1) := by decide +kernel
theorem dX4_cost_148 : decode cX4_cost 148 = .ok (.aload_n 0, 1) := by decide +kernel
theorem dX4_cost_149 : decode cX4_cost 149 = .ok (.getfield 27, 3) := by decide +kernel
theorem dX4_cost_152 : decode cX4_cost 152 = .ok (.iconst 4, 1) := by decide +kernel
theorem dX4_cost_153 : decode cX4_cost 153 = .ok (.iload 6, 2) := by decide +kernel
theorem dX4_cost_155 : decode cX4_cost 155 = .ok (.imul, 1) := by decide +kernel
theorem dX4_cost_156 : decode cX4_cost 156 = .ok (.aload_n 0, 1) := by decide +kernel
theorem dX4_cost_157 : decode cX4_cost 157 = .ok (.getfield 9, 3) := by decide +kernel
theorem dX4_cost_160 : decode cX4_cost 160 = .ok (.iadd, 1) := by decide +kernel
theorem dX4_cost_161 : decode cX4_cost 161 = .ok (.iload 8, 2) := by decide +kernel
theorem dX4_cost_163 : decode cX4_cost 163 = .ok (.iadd, 1) := by decide +kernel
theorem dX4_cost_164 : decode cX4_cost 164 = .ok (.iaload, 1) := by decide +kernel
theorem dX4_cost_165 : decode cX4_cost 165 = .ok (.iastore, 1) := by decide +kernel
theorem dX4_cost_166 : decode cX4_cost 166 = .ok (.iinc 8 1, 3) := by decide +kernel
theorem dX4_cost_169 : decode cX4_cost 169 = .ok (.goto (-43), 3) := by decide +kernel
theorem dX4_cost_172 : decode cX4_cost 172 = .ok (.aload_n 0, 1) := by decide +kernel
theorem dX4_cost_173 : decode cX4_cost 173 = .ok (.getfield 27, 3) := by decide +kernel
theorem dX4_cost_176 : decode cX4_cost 176 = .ok (.iconst 4, 1) := by decide +kernel
theorem dX4_cost_177 : decode cX4_cost 177 = .ok (.iload 6, 2) := by decide +kernel
theorem dX4_cost_179 : decode cX4_cost 179 = .ok (.imul, 1) := by decide +kernel
theorem dX4_cost_180 : decode cX4_cost 180 = .ok (.iload 7, 2) := by decide +kernel
theorem dX4_cost_182 : decode cX4_cost 182 = .ok (.iastore, 1) := by decide +kernel
theorem dX4_cost_183 : decode cX4_cost 183 = .ok (.iinc 6 1, 3) := by decide +kernel
theorem dX4_cost_186 : decode cX4_cost 186 = .ok (.goto (-112), 3) := by decide +kernel
theorem dX4_cost_189 : decode cX4_cost 189 = .ok (.aload_n 0, 1) := by decide +kernel
theorem dX4_cost_190 : decode cX4_cost 190 = .ok (.iconst 1, 1) := by decide +kernel
theorem dX4_cost_191 : decode cX4_cost 191 = .ok (.putfield 64, 3) := by decide +kernel
theorem dX4_cost_194 : decode cX4_cost 194 = .ok (.aload_n 0, 1) := by decide +kernel
theorem dX4_cost_195 : decode cX4_cost 195 = .ok (.getfield 27, 3) := by decide +kernel
theorem dX4_cost_198 : decode cX4_cost 198 = .ok (.iconst 4, 1) := by decide +kernel
theorem dX4_cost_199 : decode cX4_cost 199 = .ok (.iload_n 2, 1) := by decide +kernel
theorem dX4_cost_200 : decode cX4_cost 200 = .ok (.imul, 1) := by decide +kernel
theorem dX4_cost_201 : decode cX4_cost 201 = .ok (.iaload, 1) := by decide +kernel
theorem dX4_cost_202 : decode cX4_cost 202 = .ok (.ifCond .ne 7, 3) := by decide +kernel
theorem dX4_cost_205 : decode cX4_cost 205 = .ok (.ldc2_w 76, 3) := by decide +kernel
theorem dX4_cost_208 : decode cX4_cost 208 = .ok (.lreturn, 1) := by decide +kernel
theorem dX4_cost_209 : decode cX4_cost 209 = .ok (.aload_n 0, 1) := by decide +kernel
theorem dX4_cost_210 : decode cX4_cost 210 = .ok (.iload_n 1, 1) := by decide +kernel
theorem dX4_cost_211 : decode cX4_cost 211 = .ok (.iload_n 2, 1) := by decide +kernel
theorem dX4_cost_212 : decode cX4_cost 212 = .ok (.invokevirtual 157, 3) := by decide +kernel
theorem dX4_cost_215 : decode cX4_cost 215 = .ok (.istore 6, 2) := by decide +kernel
theorem dX4_cost_217 : decode cX4_cost 217 = .ok (.aload_n 0, 1) := by decide +kernel
theorem dX4_cost_218 : decode cX4_cost 218 = .ok (.iload 5, 2) := by decide +kernel
theorem dX4_cost_220 : decode cX4_cost 220 = .ok (.invokevirtual 160, 3) := by decide +kernel
theorem dX4_cost_223 : decode cX4_cost 223 = .ok (.lreturn, 1) := by decide +kernel
set_option maxRecDepth 20000 in
theorem ggX4_span_X4_asks : GoodIn wsX4_span wsX4_asks := goodIn_r _ [12, 13, 3, 14, 15, 11, 16, 17, 18, 19, 20, 2, 21, 22, 23, 24, 4, 25, 26, 27, 28, 6, 5, 7, 29, 30, 31, 32, 33, 34, 35, 36, 37, 38, 39, 40, 119, 120, 121, 122, 123, 124, 125, 126, 127, 128, 129, 130, 131, 132, 133, 134, 135, 136, 137, 138, 139, 140] rfl (by decide +kernel)
set_option maxRecDepth 20000 in
theorem gX4_span_X4_asks : GoodIn wsX4_span (wsV RX4 154 RX4 yX4_asks wsX4_asks) := goodIn_app (goodIn_c (List.mem_of_getElem? (i := 8) rfl) rfl (goodIn_c (List.mem_of_getElem? (i := 9) rfl) rfl (goodIn_c (List.mem_of_getElem? (i := 10) rfl) rfl (goodIn_c (List.mem_of_getElem? (i := 11) rfl) rfl (goodIn_nil))))) ggX4_span_X4_asks
set_option maxRecDepth 20000 in
theorem ggX4_span_X4_isIn : GoodIn wsX4_span wsX4_isIn := goodIn_r _ [16] rfl (by decide +kernel)
set_option maxRecDepth 20000 in
theorem gX4_span_X4_isIn : GoodIn wsX4_span (va_wsS RX4 52 yX4_isIn wsX4_isIn) := goodIn_app (goodIn_c (List.mem_of_getElem? (i := 14) rfl) rfl (goodIn_c (List.mem_of_getElem? (i := 15) rfl) rfl (goodIn_c (List.mem_of_getElem? (i := 11) rfl) rfl (goodIn_nil)))) ggX4_span_X4_isIn
set_option maxRecDepth 20000 in
theorem ggX4_span_X4_missingThere : GoodIn wsX4_span wsX4_missingThere := goodIn_r _ [44, 2, 3, 5, 7, 29, 30, 31, 11, 32, 4, 26, 119, 120, 121, 122, 123, 124, 125, 126, 127, 128, 129, 130, 131, 132, 133, 134, 135, 136, 137, 138, 139, 140] rfl (by decide +kernel)
set_option maxRecDepth 20000 in
theorem gX4_span_X4_missingThere : GoodIn wsX4_span (wsV RX4 170 RX4 yX4_missingThere wsX4_missingThere) := goodIn_app (goodIn_c (List.mem_of_getElem? (i := 41) rfl) rfl (goodIn_c (List.mem_of_getElem? (i := 42) rfl) rfl (goodIn_c (List.mem_of_getElem? (i := 43) rfl) rfl (goodIn_c (List.mem_of_getElem? (i := 11) rfl) rfl (goodIn_nil))))) ggX4_span_X4_missingThere
set_option maxRecDepth 20000 in
theorem ggX4_span_X4_things : GoodIn wsX4_span wsX4_things := goodIn_r _ [32, 4, 26, 119, 120, 121, 122, 123, 124, 125, 126, 127, 128, 129, 130, 131, 132, 133, 134, 135, 136, 137, 138, 139, 140] rfl (by decide +kernel)
set_option maxRecDepth 20000 in
theorem gX4_span_X4_things : GoodIn wsX4_span (wsV RX4 56 RX4 yX4_things wsX4_things) := goodIn_app (goodIn_c (List.mem_of_getElem? (i := 29) rfl) rfl (goodIn_c (List.mem_of_getElem? (i := 30) rfl) rfl (goodIn_c (List.mem_of_getElem? (i := 31) rfl) rfl (goodIn_c (List.mem_of_getElem? (i := 11) rfl) rfl (goodIn_nil))))) ggX4_span_X4_things
set_option maxRecDepth 20000 in
theorem ggX4_span_X4_shares : GoodIn wsX4_span wsX4_shares := goodIn_r _ [48, 2, 28, 49, 50, 51, 52, 53, 54, 11, 55, 56, 57, 58, 59, 60, 61, 25, 27, 6, 62, 63, 64, 65, 66, 67, 68, 69, 70, 71, 72, 1, 73, 74, 75, 76, 77, 78, 79, 80, 81, 82, 83, 84, 85, 86, 87, 88, 89, 90, 91, 92, 93, 94, 95, 96, 97, 98, 99, 100, 101, 102, 103, 104, 105, 106, 107, 108, 109, 110, 111, 112, 113, 114, 119, 120, 121, 122, 123, 124, 125, 126, 127, 128, 129, 130, 131, 132, 133, 134, 135, 136, 137, 138, 139, 140] rfl (by decide +kernel)
set_option maxRecDepth 20000 in
theorem gX4_span_X4_shares : GoodIn wsX4_span (wsV RX4 157 RX4 yX4_shares wsX4_shares) := goodIn_app (goodIn_c (List.mem_of_getElem? (i := 45) rfl) rfl (goodIn_c (List.mem_of_getElem? (i := 46) rfl) rfl (goodIn_c (List.mem_of_getElem? (i := 47) rfl) rfl (goodIn_c (List.mem_of_getElem? (i := 11) rfl) rfl (goodIn_nil))))) ggX4_span_X4_shares
set_option maxRecDepth 20000 in
theorem ggX4_span_X4_part : GoodIn wsX4_span wsX4_part := goodIn_r _ [118, 49, 50, 87, 88, 11, 89, 90, 91, 92, 93, 119, 120, 121, 122, 123, 124, 125, 126, 127, 128, 129, 130, 131, 132, 133, 134, 135, 136, 137, 138, 139, 140] rfl (by decide +kernel)
set_option maxRecDepth 20000 in
theorem gX4_span_X4_part : GoodIn wsX4_span (wsV RX4 160 RX4 yX4_part wsX4_part) := goodIn_app (goodIn_c (List.mem_of_getElem? (i := 115) rfl) rfl (goodIn_c (List.mem_of_getElem? (i := 116) rfl) rfl (goodIn_c (List.mem_of_getElem? (i := 117) rfl) rfl (goodIn_c (List.mem_of_getElem? (i := 11) rfl) rfl (goodIn_nil))))) ggX4_span_X4_part
theorem dX4_span_0 : decode cX4_span 0 = .ok (.aload_n 0, 1) := by decide +kernel
theorem dX4_span_1 : decode cX4_span 1 = .ok (.iload_n 1, 1) := by decide +kernel
theorem dX4_span_2 : decode cX4_span 2 = .ok (.iload_n 2, 1) := by decide +kernel
theorem dX4_span_3 : decode cX4_span 3 = .ok (.invokevirtual 154, 3) := by decide +kernel
theorem dX4_span_6 : decode cX4_span 6 = .ok (.ifCond .eq 21, 3) := by decide +kernel
theorem dX4_span_9 : decode cX4_span 9 = .ok (.iload 4, 2) := by decide +kernel
theorem dX4_span_11 : decode cX4_span 11 = .ok (.iconst 0, 1) := by decide +kernel
theorem dX4_span_12 : decode cX4_span 12 = .ok (.iconst 1, 1) := by decide +kernel
theorem dX4_span_13 : decode cX4_span 13 = .ok (.invokestatic 52, 3) := by decide +kernel
theorem dX4_span_16 : decode cX4_span 16 = .ok (.ifCond .eq 11, 3) := by decide +kernel
theorem dX4_span_19 : decode cX4_span 19 = .ok (.aload_n 0, 1) := by decide +kernel
theorem dX4_span_20 : decode cX4_span 20 = .ok (.invokevirtual 170, 3) := by decide +kernel
theorem dX4_span_23 : decode cX4_span 23 = .ok (.iconst 4, 1) := by decide +kernel
theorem dX4_span_24 : decode cX4_span 24 = .ok (.if_icmp .le 7, 3) := by decide +kernel
theorem dX4_span_27 : decode cX4_span 27 = .ok (.ldc2_w 76, 3) := by decide +kernel
theorem dX4_span_30 : decode cX4_span 30 = .ok (.lreturn, 1) := by decide +kernel
theorem dX4_span_31 : decode cX4_span 31 = .ok (.iconst 0, 1) := by decide +kernel
theorem dX4_span_32 : decode cX4_span 32 = .ok (.istore 5, 2) := by decide +kernel
theorem dX4_span_34 : decode cX4_span 34 = .ok (.iload 5, 2) := by decide +kernel
theorem dX4_span_36 : decode cX4_span 36 = .ok (.aload_n 0, 1) := by decide +kernel
theorem dX4_span_37 : decode cX4_span 37 = .ok (.getfield 49, 3) := by decide +kernel
theorem dX4_span_40 : decode cX4_span 40 = .ok (.if_icmp .ge 204, 3) := by decide +kernel
theorem dX4_span_43 : decode cX4_span 43 = .ok (.aload_n 0, 1) := by decide +kernel
theorem dX4_span_44 : decode cX4_span 44 = .ok (.getfield 23, 3) := by decide +kernel
theorem dX4_span_47 : decode cX4_span 47 = .ok (.iload 5, 2) := by decide +kernel
theorem dX4_span_49 : decode cX4_span 49 = .ok (.baload, 1) := by decide +kernel
theorem dX4_span_50 : decode cX4_span 50 = .ok (.ifCond .ne 6, 3) := by decide +kernel
theorem dX4_span_53 : decode cX4_span 53 = .ok (.goto 185, 3) := by decide +kernel
theorem dX4_span_56 : decode cX4_span 56 = .ok (.iconst 0, 1) := by decide +kernel
theorem dX4_span_57 : decode cX4_span 57 = .ok (.istore 6, 2) := by decide +kernel
theorem dX4_span_59 : decode cX4_span 59 = .ok (.iconst 0, 1) := by decide +kernel
theorem dX4_span_60 : decode cX4_span 60 = .ok (.istore 7, 2) := by decide +kernel
theorem dX4_span_62 : decode cX4_span 62 = .ok (.iconst 0, 1) := by decide +kernel
theorem dX4_span_63 : decode cX4_span 63 = .ok (.istore 8, 2) := by decide +kernel
theorem dX4_span_65 : decode cX4_span 65 = .ok (.iload 8, 2) := by decide +kernel
theorem dX4_span_67 : decode cX4_span 67 = .ok (.aload_n 0, 1) := by decide +kernel
theorem dX4_span_68 : decode cX4_span 68 = .ok (.invokevirtual 56, 3) := by decide +kernel
theorem dX4_span_71 : decode cX4_span 71 = .ok (.if_icmp .ge 55, 3) := by decide +kernel
theorem dX4_span_74 : decode cX4_span 74 = .ok (.iload 8, 2) := by decide +kernel
theorem dX4_span_76 : decode cX4_span 76 = .ok (.aload_n 0, 1) := by decide +kernel
theorem dX4_span_77 : decode cX4_span 77 = .ok (.getfield 9, 3) := by decide +kernel
theorem dX4_span_80 : decode cX4_span 80 = .ok (.if_icmp .ge 23, 3) := by decide +kernel
theorem dX4_span_83 : decode cX4_span 83 = .ok (.iload 6, 2) := by decide +kernel
theorem dX4_span_85 : decode cX4_span 85 = .ok (.aload_n 0, 1) := by decide +kernel
theorem dX4_span_86 : decode cX4_span 86 = .ok (.getfield 16, 3) := by decide +kernel
theorem dX4_span_89 : decode cX4_span 89 = .ok (.iconst 4, 1) := by decide +kernel
theorem dX4_span_90 : decode cX4_span 90 = .ok (.iload 5, 2) := by decide +kernel
theorem dX4_span_92 : decode cX4_span 92 = .ok (.imul, 1) := by decide +kernel
theorem dX4_span_93 : decode cX4_span 93 = .ok (.iload 8, 2) := by decide +kernel
theorem dX4_span_95 : decode cX4_span 95 = .ok (.iadd, 1) := by decide +kernel
theorem dX4_span_96 : decode cX4_span 96 = .ok (.iaload, 1) := by decide +kernel
theorem dX4_span_97 : decode cX4_span 97 = .ok (.iadd, 1) := by decide +kernel
theorem dX4_span_98 : decode cX4_span 98 = .ok (.istore 6, 2) := by decide +kernel
theorem dX4_span_100 : decode cX4_span 100 = .ok (.goto 20, 3) := by decide +kernel
theorem dX4_span_103 : decode cX4_span 103 = .ok (.iload 7, 2) := by decide +kernel
theorem dX4_span_105 : decode cX4_span 105 = .ok (.aload_n 0, 1) := by decide +kernel
theorem dX4_span_106 : decode cX4_span 106 = .ok (.getfield 16, 3) := by decide +kernel
theorem dX4_span_109 : decode cX4_span 109 = .ok (.iconst 4, 1) := by decide +kernel
theorem dX4_span_110 : decode cX4_span 110 = .ok (.iload 5, 2) := by decide +kernel
theorem dX4_span_112 : decode cX4_span 112 = .ok (.imul, 1) := by decide +kernel
theorem dX4_span_113 : decode cX4_span 113 = .ok (.iload 8, 2) := by decide +kernel
theorem dX4_span_115 : decode cX4_span 115 = .ok (.iadd, 1) := by decide +kernel
theorem dX4_span_116 : decode cX4_span 116 = .ok (.iaload, 1) := by decide +kernel
theorem dX4_span_117 : decode cX4_span 117 = .ok (.iadd, 1) := by decide +kernel
theorem dX4_span_118 : decode cX4_span 118 = .ok (.istore 7, 2) := by decide +kernel
theorem dX4_span_120 : decode cX4_span 120 = .ok (.iinc 8 1, 3) := by decide +kernel
theorem dX4_span_123 : decode cX4_span 123 = .ok (.goto (-58), 3) := by decide +kernel
theorem dX4_span_126 : decode cX4_span 126 = .ok (.iload 6, 2) := by decide +kernel
theorem dX4_span_128 : decode cX4_span 128 = .ok (.ifCond .eq 8, 3) := by decide +kernel
theorem dX4_span_131 : decode cX4_span 131 = .ok (.iload 7, 2) := by decide +kernel
theorem dX4_span_133 : decode cX4_span 133 = .ok (.ifCond .ne 7, 3) := by decide +kernel
theorem dX4_span_136 : decode cX4_span 136 = .ok (.ldc2_w 76, 3) := by decide +kernel
theorem dX4_span_139 : decode cX4_span 139 = .ok (.lreturn, 1) := by decide +kernel
theorem dX4_span_140 : decode cX4_span 140 = .ok (.iload 5, 2) := by decide +kernel
theorem dX4_span_142 : decode cX4_span 142 = .ok (.iload_n 2, 1) := by decide +kernel
theorem dX4_span_143 : decode cX4_span 143 = .ok (.if_icmp .ne 7, 3) := by decide +kernel
theorem dX4_span_146 : decode cX4_span 146 = .ok (.iconst 1, 1) := by decide +kernel
theorem dX4_span_147 : decode cX4_span 147 = .ok (.goto 4, 3) := by decide +kernel
theorem dX4_span_150 : decode cX4_span 150 = .ok (.iconst 0, 1) := by decide +kernel
theorem dX4_span_151 : decode cX4_span 151 = .ok (.iload_n 3, 1) := by decide +kernel
theorem dX4_span_152 : decode cX4_span 152 = .ok (.if_icmp .ne 7, 3) := by decide +kernel
theorem dX4_span_155 : decode cX4_span 155 = .ok (.iconst 1, 1) := by decide +kernel
theorem dX4_span_156 : decode cX4_span 156 = .ok (.goto 4, 3) := by decide +kernel
theorem dX4_span_159 : decode cX4_span 159 = .ok (.iconst 0, 1) := by decide +kernel
theorem dX4_span_160 : decode cX4_span 160 = .ok (.istore 8, 2) := by decide +kernel
theorem dX4_span_162 : decode cX4_span 162 = .ok (.iconst 0, 1) := by decide +kernel
theorem dX4_span_163 : decode cX4_span 163 = .ok (.istore 9, 2) := by decide +kernel
theorem dX4_span_165 : decode cX4_span 165 = .ok (.iload 9, 2) := by decide +kernel
theorem dX4_span_167 : decode cX4_span 167 = .ok (.aload_n 0, 1) := by decide +kernel
theorem dX4_span_168 : decode cX4_span 168 = .ok (.invokevirtual 56, 3) := by decide +kernel
theorem dX4_span_171 : decode cX4_span 171 = .ok (.if_icmp .ge 67, 3) := by decide +kernel
theorem dX4_span_174 : decode cX4_span 174 = .ok (.aload_n 0, 1) := by decide +kernel
theorem dX4_span_175 : decode cX4_span 175 = .ok (.getfield 27, 3) := by decide +kernel
theorem dX4_span_178 : decode cX4_span 178 = .ok (.iconst 4, 1) := by decide +kernel
theorem dX4_span_179 : decode cX4_span 179 = .ok (.iload 5, 2) := by decide +kernel
theorem dX4_span_181 : decode cX4_span 181 = .ok (.imul, 1) := by decide +kernel
theorem dX4_span_182 : decode cX4_span 182 = .ok (.iload 9, 2) := by decide +kernel
theorem dX4_span_184 : decode cX4_span 184 = .ok (.iadd, 1) := by decide +kernel
theorem dX4_span_185 : decode cX4_span 185 = .ok (.iload 9, 2) := by decide +kernel
theorem dX4_span_187 : decode cX4_span 187 = .ok (.aload_n 0, 1) := by decide +kernel
theorem dX4_span_188 : decode cX4_span 188 = .ok (.getfield 9, 3) := by decide +kernel
theorem dX4_span_191 : decode cX4_span 191 = .ok (.if_icmp .ge 7, 3) := by decide +kernel
theorem dX4_span_194 : decode cX4_span 194 = .ok (.iconst 1, 1) := by decide +kernel
theorem dX4_span_195 : decode cX4_span 195 = .ok (.goto 4, 3) := by decide +kernel
theorem dX4_span_198 : decode cX4_span 198 = .ok (.iconst 0, 1) := by decide +kernel
theorem dX4_span_199 : decode cX4_span 199 = .ok (.iload 8, 2) := by decide +kernel
theorem dX4_span_201 : decode cX4_span 201 = .ok (.if_icmp .ne 18, 3) := by decide +kernel
theorem dX4_span_204 : decode cX4_span 204 = .ok (.aload_n 0, 1) := by decide +kernel
theorem dX4_span_205 : decode cX4_span 205 = .ok (.getfield 16, 3) := by decide +kernel
theorem dX4_span_208 : decode cX4_span 208 = .ok (.iconst 4, 1) := by decide +kernel
theorem dX4_span_209 : decode cX4_span 209 = .ok (.iload 5, 2) := by decide +kernel
theorem dX4_span_211 : decode cX4_span 211 = .ok (.imul, 1) := by decide +kernel
theorem dX4_span_212 : decode cX4_span 212 = .ok (.iload 9, 2) := by decide +kernel
theorem dX4_span_214 : decode cX4_span 214 = .ok (.iadd, 1) := by decide +kernel
theorem dX4_span_215 : decode cX4_span 215 = .ok (.iaload, 1) := by decide +kernel
theorem dX4_span_216 : decode cX4_span 216 = .ok (.goto 15, 3) := by decide +kernel
theorem dX4_span_219 : decode cX4_span 219 = .ok (.aload_n 0, 1) := by decide +kernel
theorem dX4_span_220 : decode cX4_span 220 = .ok (.getfield 20, 3) := by decide +kernel
theorem dX4_span_223 : decode cX4_span 223 = .ok (.iconst 4, 1) := by decide +kernel
theorem dX4_span_224 : decode cX4_span 224 = .ok (.iload 5, 2) := by decide +kernel
theorem dX4_span_226 : decode cX4_span 226 = .ok (.imul, 1) := by decide +kernel
theorem dX4_span_227 : decode cX4_span 227 = .ok (.iload 9, 2) := by decide +kernel
theorem dX4_span_229 : decode cX4_span 229 = .ok (.iadd, 1) := by decide +kernel
theorem dX4_span_230 : decode cX4_span 230 = .ok (.iaload, 1) := by decide +kernel
theorem dX4_span_231 : decode cX4_span 231 = .ok (.iastore, 1) := by decide +kernel
theorem dX4_span_232 : decode cX4_span 232 = .ok (.iinc 9 1, 3) := by decide +kernel
theorem dX4_span_235 : decode cX4_span 235 = .ok (.goto (-70), 3) := by decide +kernel
theorem dX4_span_238 : decode cX4_span 238 = .ok (.iinc 5 1, 3) := by decide +kernel
theorem dX4_span_241 : decode cX4_span 241 = .ok (.goto (-207), 3) := by decide +kernel
theorem dX4_span_244 : decode cX4_span 244 = .ok (.aload_n 0, 1) := by decide +kernel
theorem dX4_span_245 : decode cX4_span 245 = .ok (.iload_n 1, 1) := by decide +kernel
theorem dX4_span_246 : decode cX4_span 246 = .ok (.iload_n 2, 1) := by decide +kernel
theorem dX4_span_247 : decode cX4_span 247 = .ok (.invokevirtual 157, 3) := by decide +kernel
theorem dX4_span_250 : decode cX4_span 250 = .ok (.istore 5, 2) := by decide +kernel
theorem dX4_span_252 : decode cX4_span 252 = .ok (.aload_n 0, 1) := by decide +kernel
theorem dX4_span_253 : decode cX4_span 253 = .ok (.iload 4, 2) := by decide +kernel
theorem dX4_span_255 : decode cX4_span 255 = .ok (.invokevirtual 160, 3) := by decide +kernel
theorem dX4_span_258 : decode cX4_span 258 = .ok (.lreturn, 1) := by decide +kernel
set_option maxRecDepth 20000 in
theorem ggX4_missingThere_X4_things : GoodIn wsX4_missingThere wsX4_things := goodIn_r _ [9, 10, 11, 12, 13, 14, 15, 16, 17, 18, 19, 20, 21, 22, 23, 24, 25, 26, 27, 28, 29, 30, 31, 32, 33] rfl (by decide +kernel)
set_option maxRecDepth 20000 in
theorem gX4_missingThere_X4_things : GoodIn wsX4_missingThere (wsV RX4 56 RX4 yX4_things wsX4_things) := goodIn_app (goodIn_c (List.mem_of_getElem? (i := 5) rfl) rfl (goodIn_c (List.mem_of_getElem? (i := 6) rfl) rfl (goodIn_c (List.mem_of_getElem? (i := 7) rfl) rfl (goodIn_c (List.mem_of_getElem? (i := 8) rfl) rfl (goodIn_nil))))) ggX4_missingThere_X4_things
theorem dX4_missingThere_0 : decode cX4_missingThere 0 = .ok (.iconst 0, 1) := by decide +kernel
theorem dX4_missingThere_1 : decode cX4_missingThere 1 = .ok (.istore_n 1, 1) := by decide +kernel
theorem dX4_missingThere_2 : decode cX4_missingThere 2 = .ok (.iconst 0, 1) := by decide +kernel
theorem dX4_missingThere_3 : decode cX4_missingThere 3 = .ok (.istore_n 2, 1) := by decide +kernel
theorem dX4_missingThere_4 : decode cX4_missingThere 4 = .ok (.iload_n 2, 1) := by decide +kernel
theorem dX4_missingThere_5 : decode cX4_missingThere 5 = .ok (.aload_n 0, 1) := by decide +kernel
theorem dX4_missingThere_6 : decode cX4_missingThere 6 = .ok (.getfield 49, 3) := by decide +kernel
theorem dX4_missingThere_9 : decode cX4_missingThere 9 = .ok (.if_icmp .ge 65, 3) := by decide +kernel
theorem dX4_missingThere_12 : decode cX4_missingThere 12 = .ok (.iconst 0, 1) := by decide +kernel
theorem dX4_missingThere_13 : decode cX4_missingThere 13 = .ok (.istore_n 3, 1) := by decide +kernel
theorem dX4_missingThere_14 : decode cX4_missingThere 14 = .ok (.iload_n 3, 1) := by decide +kernel
theorem dX4_missingThere_15 : decode cX4_missingThere 15 = .ok (.aload_n 0, 1) := by decide +kernel
theorem dX4_missingThere_16 : decode cX4_missingThere 16 = .ok (.invokevirtual 56, 3) := by decide +kernel
theorem dX4_missingThere_19 : decode cX4_missingThere 19 = .ok (.if_icmp .ge 49, 3) := by decide +kernel
theorem dX4_missingThere_22 : decode cX4_missingThere 22 = .ok (.aload_n 0, 1) := by decide +kernel
theorem dX4_missingThere_23 : decode cX4_missingThere 23 = .ok (.getfield 23, 3) := by decide +kernel
theorem dX4_missingThere_26 : decode cX4_missingThere 26 = .ok (.iload_n 2, 1) := by decide +kernel
theorem dX4_missingThere_27 : decode cX4_missingThere 27 = .ok (.baload, 1) := by decide +kernel
theorem dX4_missingThere_28 : decode cX4_missingThere 28 = .ok (.ifCond .eq 40, 3) := by decide +kernel
theorem dX4_missingThere_31 : decode cX4_missingThere 31 = .ok (.iload_n 1, 1) := by decide +kernel
theorem dX4_missingThere_32 : decode cX4_missingThere 32 = .ok (.aload_n 0, 1) := by decide +kernel
theorem dX4_missingThere_33 : decode cX4_missingThere 33 = .ok (.getfield 16, 3) := by decide +kernel
theorem dX4_missingThere_36 : decode cX4_missingThere 36 = .ok (.iconst 4, 1) := by decide +kernel
theorem dX4_missingThere_37 : decode cX4_missingThere 37 = .ok (.iload_n 2, 1) := by decide +kernel
theorem dX4_missingThere_38 : decode cX4_missingThere 38 = .ok (.imul, 1) := by decide +kernel
theorem dX4_missingThere_39 : decode cX4_missingThere 39 = .ok (.iload_n 3, 1) := by decide +kernel
theorem dX4_missingThere_40 : decode cX4_missingThere 40 = .ok (.iadd, 1) := by decide +kernel
theorem dX4_missingThere_41 : decode cX4_missingThere 41 = .ok (.iaload, 1) := by decide +kernel
theorem dX4_missingThere_42 : decode cX4_missingThere 42 = .ok (.aload_n 0, 1) := by decide +kernel
theorem dX4_missingThere_43 : decode cX4_missingThere 43 = .ok (.getfield 20, 3) := by decide +kernel
theorem dX4_missingThere_46 : decode cX4_missingThere 46 = .ok (.iconst 4, 1) := by decide +kernel
theorem dX4_missingThere_47 : decode cX4_missingThere 47 = .ok (.iload_n 2, 1) := by decide +kernel
theorem dX4_missingThere_48 : decode cX4_missingThere 48 = .ok (.imul, 1) := by decide +kernel
theorem dX4_missingThere_49 : decode cX4_missingThere 49 = .ok (.iload_n 3, 1) := by decide +kernel
theorem dX4_missingThere_50 : decode cX4_missingThere 50 = .ok (.iadd, 1) := by decide +kernel
theorem dX4_missingThere_51 : decode cX4_missingThere 51 = .ok (.iaload, 1) := by decide +kernel
theorem dX4_missingThere_52 : decode cX4_missingThere 52 = .ok (.if_icmp .ge 7, 3) := by decide +kernel
theorem dX4_missingThere_55 : decode cX4_missingThere 55 = .ok (.iconst 1, 1) := by decide +kernel
theorem dX4_missingThere_56 : decode cX4_missingThere 56 = .ok (.goto 4, 3) := by decide +kernel
theorem dX4_missingThere_59 : decode cX4_missingThere 59 = .ok (.iconst 0, 1) := by decide +kernel
theorem dX4_missingThere_60 : decode cX4_missingThere 60 = .ok (.iadd, 1) := by decide +kernel
theorem dX4_missingThere_61 : decode cX4_missingThere 61 = .ok (.istore_n 1, 1) := by decide +kernel
theorem dX4_missingThere_62 : decode cX4_missingThere 62 = .ok (.iinc 3 1, 3) := by decide +kernel
theorem dX4_missingThere_65 : decode cX4_missingThere 65 = .ok (.goto (-51), 3) := by decide +kernel
theorem dX4_missingThere_68 : decode cX4_missingThere 68 = .ok (.iinc 2 1, 3) := by decide +kernel
theorem dX4_missingThere_71 : decode cX4_missingThere 71 = .ok (.goto (-67), 3) := by decide +kernel
theorem dX4_missingThere_74 : decode cX4_missingThere 74 = .ok (.iload_n 1, 1) := by decide +kernel
theorem dX4_missingThere_75 : decode cX4_missingThere 75 = .ok (.ireturn, 1) := by decide +kernel
set_option maxRecDepth 20000 in
theorem ggX4_ready_X4_plain : GoodIn wsX4_ready wsX4_plain := goodIn_r _ [8, 9, 10, 11, 12, 2, 13, 3, 14, 15, 16, 17, 18, 19, 7, 20, 71, 72, 73, 74, 75, 76, 77, 78, 79, 80, 81, 82, 83, 84, 85, 86, 87, 88, 89, 90, 91, 92] rfl (by decide +kernel)
set_option maxRecDepth 20000 in
theorem gX4_ready_X4_plain : GoodIn wsX4_ready (wsV RX4 144 RX4 yX4_plain wsX4_plain) := goodIn_app (goodIn_c (List.mem_of_getElem? (i := 4) rfl) rfl (goodIn_c (List.mem_of_getElem? (i := 5) rfl) rfl (goodIn_c (List.mem_of_getElem? (i := 6) rfl) rfl (goodIn_c (List.mem_of_getElem? (i := 7) rfl) rfl (goodIn_nil))))) ggX4_ready_X4_plain
set_option maxRecDepth 20000 in
theorem ggX4_ready_X4_isIn : GoodIn wsX4_ready wsX4_isIn := goodIn_r _ [23] rfl (by decide +kernel)
set_option maxRecDepth 20000 in
theorem gX4_ready_X4_isIn : GoodIn wsX4_ready (va_wsS RX4 52 yX4_isIn wsX4_isIn) := goodIn_app (goodIn_c (List.mem_of_getElem? (i := 21) rfl) rfl (goodIn_c (List.mem_of_getElem? (i := 22) rfl) rfl (goodIn_c (List.mem_of_getElem? (i := 7) rfl) rfl (goodIn_nil)))) ggX4_ready_X4_isIn
set_option maxRecDepth 20000 in
theorem ggX4_ready_X4_allSides : GoodIn wsX4_ready wsX4_allSides := goodIn_r _ [27, 28, 29, 30, 31, 7, 32, 10, 12, 33, 34, 2, 13, 35, 14, 36, 37, 38, 39, 40, 41, 42, 43, 44, 45, 46, 47, 48, 49, 50, 51, 52, 53, 54, 55, 56, 57, 58, 59, 60, 61, 62, 63, 64, 65, 66, 67, 68, 69, 70, 71, 72, 73, 74, 75, 76, 77, 78, 79, 80, 81, 82, 83, 84, 85, 86, 87, 88, 89, 90, 91, 92] rfl (by decide +kernel)
set_option maxRecDepth 20000 in
theorem gX4_ready_X4_allSides : GoodIn wsX4_ready (wsV RX4 118 RX4 yX4_allSides wsX4_allSides) := goodIn_app (goodIn_c (List.mem_of_getElem? (i := 24) rfl) rfl (goodIn_c (List.mem_of_getElem? (i := 25) rfl) rfl (goodIn_c (List.mem_of_getElem? (i := 26) rfl) rfl (goodIn_c (List.mem_of_getElem? (i := 7) rfl) rfl (goodIn_nil))))) ggX4_ready_X4_allSides
theorem dX4_ready_0 : decode cX4_ready 0 = .ok (.aload_n 0, 1) := by decide +kernel
theorem dX4_ready_1 : decode cX4_ready 1 = .ok (.iconst 0, 1) := by decide +kernel
theorem dX4_ready_2 : decode cX4_ready 2 = .ok (.putfield 46, 3) := by decide +kernel
theorem dX4_ready_5 : decode cX4_ready 5 = .ok (.aload_n 0, 1) := by decide +kernel
theorem dX4_ready_6 : decode cX4_ready 6 = .ok (.invokevirtual 144, 3) := by decide +kernel
theorem dX4_ready_9 : decode cX4_ready 9 = .ok (.iconst 0, 1) := by decide +kernel
theorem dX4_ready_10 : decode cX4_ready 10 = .ok (.istore_n 2, 1) := by decide +kernel
theorem dX4_ready_11 : decode cX4_ready 11 = .ok (.iconst 0, 1) := by decide +kernel
theorem dX4_ready_12 : decode cX4_ready 12 = .ok (.istore_n 3, 1) := by decide +kernel
theorem dX4_ready_13 : decode cX4_ready 13 = .ok (.iload_n 3, 1) := by decide +kernel
theorem dX4_ready_14 : decode cX4_ready 14 = .ok (.aload_n 0, 1) := by decide +kernel
theorem dX4_ready_15 : decode cX4_ready 15 = .ok (.getfield 49, 3) := by decide +kernel
theorem dX4_ready_18 : decode cX4_ready 18 = .ok (.if_icmp .ge 28, 3) := by decide +kernel
theorem dX4_ready_21 : decode cX4_ready 21 = .ok (.iload_n 2, 1) := by decide +kernel
theorem dX4_ready_22 : decode cX4_ready 22 = .ok (.ifCond .ne 12, 3) := by decide +kernel
theorem dX4_ready_25 : decode cX4_ready 25 = .ok (.aload_n 0, 1) := by decide +kernel
theorem dX4_ready_26 : decode cX4_ready 26 = .ok (.getfield 23, 3) := by decide +kernel
theorem dX4_ready_29 : decode cX4_ready 29 = .ok (.iload_n 3, 1) := by decide +kernel
theorem dX4_ready_30 : decode cX4_ready 30 = .ok (.baload, 1) := by decide +kernel
theorem dX4_ready_31 : decode cX4_ready 31 = .ok (.ifCond .eq 7, 3) := by decide +kernel
theorem dX4_ready_34 : decode cX4_ready 34 = .ok (.iconst 1, 1) := by decide +kernel
theorem dX4_ready_35 : decode cX4_ready 35 = .ok (.goto 4, 3) := by decide +kernel
theorem dX4_ready_38 : decode cX4_ready 38 = .ok (.iconst 0, 1) := by decide +kernel
theorem dX4_ready_39 : decode cX4_ready 39 = .ok (.istore_n 2, 1) := by decide +kernel
theorem dX4_ready_40 : decode cX4_ready 40 = .ok (.iinc 3 1, 3) := by decide +kernel
theorem dX4_ready_43 : decode cX4_ready 43 = .ok (.goto (-30), 3) := by decide +kernel
theorem dX4_ready_46 : decode cX4_ready 46 = .ok (.iload_n 1, 1) := by decide +kernel
theorem dX4_ready_47 : decode cX4_ready 47 = .ok (.iconst 0, 1) := by decide +kernel
theorem dX4_ready_48 : decode cX4_ready 48 = .ok (.iconst 2, 1) := by decide +kernel
theorem dX4_ready_49 : decode cX4_ready 49 = .ok (.invokestatic 52, 3) := by decide +kernel
theorem dX4_ready_52 : decode cX4_ready 52 = .ok (.ifCond .eq 7, 3) := by decide +kernel
theorem dX4_ready_55 : decode cX4_ready 55 = .ok (.iload_n 2, 1) := by decide +kernel
theorem dX4_ready_56 : decode cX4_ready 56 = .ok (.ifCond .ne 5, 3) := by decide +kernel
theorem dX4_ready_59 : decode cX4_ready 59 = .ok (.iconst 0, 1) := by decide +kernel
theorem dX4_ready_60 : decode cX4_ready 60 = .ok (.ireturn, 1) := by decide +kernel
theorem dX4_ready_61 : decode cX4_ready 61 = .ok (.aload_n 0, 1) := by decide +kernel
theorem dX4_ready_62 : decode cX4_ready 62 = .ok (.iload_n 1, 1) := by decide +kernel
theorem dX4_ready_63 : decode cX4_ready 63 = .ok (.invokevirtual 118, 3) := by decide +kernel
theorem dX4_ready_66 : decode cX4_ready 66 = .ok (.iconst 1, 1) := by decide +kernel
theorem dX4_ready_67 : decode cX4_ready 67 = .ok (.ireturn, 1) := by decide +kernel
set_option maxRecDepth 20000 in
theorem ggX4_sides_X4_ready : GoodIn wsX4_sides wsX4_ready := goodIn_r _ [6, 7, 8, 9, 10, 11, 12, 5, 13, 14, 15, 16, 17, 18, 19, 20, 21, 22, 23, 24, 25, 26, 27, 28, 29, 30, 31, 32, 1, 33, 34, 35, 36, 37, 38, 39, 40, 41, 42, 43, 44, 45, 46, 47, 48, 49, 50, 51, 52, 53, 54, 55, 56, 57, 58, 59, 60, 61, 62, 63, 64, 65, 66, 67, 68, 69, 70, 71, 72, 73, 74, 75, 76, 77, 78, 79, 80, 81, 82, 83, 84, 85, 86, 87, 88, 89, 90, 91, 92, 93, 94, 95, 96] rfl (by decide +kernel)
set_option maxRecDepth 20000 in
theorem gX4_sides_X4_ready : GoodIn wsX4_sides (wsV RX4 173 RX4 yX4_ready wsX4_ready) := goodIn_app (goodIn_c (List.mem_of_getElem? (i := 2) rfl) rfl (goodIn_c (List.mem_of_getElem? (i := 3) rfl) rfl (goodIn_c (List.mem_of_getElem? (i := 4) rfl) rfl (goodIn_c (List.mem_of_getElem? (i := 5) rfl) rfl (goodIn_nil))))) ggX4_sides_X4_ready
theorem dX4_sides_0 : decode cX4_sides 0 = .ok (.aload_n 0, 1) := by decide +kernel
theorem dX4_sides_1 : decode cX4_sides 1 = .ok (.iload_n 1, 1) := by decide +kernel
theorem dX4_sides_2 : decode cX4_sides 2 = .ok (.invokevirtual 173, 3) := by decide +kernel
theorem dX4_sides_5 : decode cX4_sides 5 = .ok (.ifCond .eq 10, 3) := by decide +kernel
theorem dX4_sides_8 : decode cX4_sides 8 = .ok (.aload_n 0, 1) := by decide +kernel
theorem dX4_sides_9 : decode cX4_sides 9 = .ok (.getfield 81, 3) := by decide +kernel
theorem dX4_sides_12 : decode cX4_sides 12 = .ok (.goto 4, 3) := by decide +kernel
theorem dX4_sides_15 : decode cX4_sides 15 = .ok (.iconst (-1), 1) := by decide +kernel
theorem dX4_sides_16 : decode cX4_sides 16 = .ok (.ireturn, 1) := by decide +kernel
set_option maxRecDepth 20000 in
theorem ggX4_side_X4_ready : GoodIn wsX4_side wsX4_ready := goodIn_r _ [7, 8, 9, 10, 11, 12, 13, 6, 14, 15, 16, 17, 18, 19, 20, 21, 22, 23, 24, 25, 26, 27, 28, 29, 30, 31, 32, 33, 1, 34, 35, 36, 37, 38, 39, 40, 41, 42, 43, 44, 45, 46, 47, 48, 49, 50, 51, 52, 53, 54, 55, 56, 57, 58, 59, 60, 61, 62, 63, 64, 65, 66, 67, 68, 69, 70, 2, 71, 72, 73, 74, 75, 76, 77, 78, 79, 80, 81, 82, 83, 84, 85, 86, 87, 88, 89, 90, 91, 92, 93, 94, 95, 96] rfl (by decide +kernel)
set_option maxRecDepth 20000 in
theorem gX4_side_X4_ready : GoodIn wsX4_side (wsV RX4 173 RX4 yX4_ready wsX4_ready) := goodIn_app (goodIn_c (List.mem_of_getElem? (i := 3) rfl) rfl (goodIn_c (List.mem_of_getElem? (i := 4) rfl) rfl (goodIn_c (List.mem_of_getElem? (i := 5) rfl) rfl (goodIn_c (List.mem_of_getElem? (i := 6) rfl) rfl (goodIn_nil))))) ggX4_side_X4_ready
set_option maxRecDepth 20000 in
theorem ggX4_side_X4_things : GoodIn wsX4_side wsX4_things := goodIn_r _ [26, 15, 17, 75, 76, 77, 78, 79, 80, 81, 82, 83, 84, 85, 86, 87, 88, 89, 90, 91, 92, 93, 94, 95, 96] rfl (by decide +kernel)
set_option maxRecDepth 20000 in
theorem gX4_side_X4_things : GoodIn wsX4_side (wsV RX4 56 RX4 yX4_things wsX4_things) := goodIn_app (goodIn_c (List.mem_of_getElem? (i := 23) rfl) rfl (goodIn_c (List.mem_of_getElem? (i := 24) rfl) rfl (goodIn_c (List.mem_of_getElem? (i := 25) rfl) rfl (goodIn_c (List.mem_of_getElem? (i := 6) rfl) rfl (goodIn_nil))))) ggX4_side_X4_things
theorem dX4_side_0 : decode cX4_side 0 = .ok (.aload_n 0, 1) := by decide +kernel
theorem dX4_side_1 : decode cX4_side 1 = .ok (.iload_n 1, 1) := by decide +kernel
theorem dX4_side_2 : decode cX4_side 2 = .ok (.invokevirtual 173, 3) := by decide +kernel
theorem dX4_side_5 : decode cX4_side 5 = .ok (.ifCond .eq 27, 3) := by decide +kernel
theorem dX4_side_8 : decode cX4_side 8 = .ok (.iload_n 2, 1) := by decide +kernel
theorem dX4_side_9 : decode cX4_side 9 = .ok (.ifCond .lt 23, 3) := by decide +kernel
theorem dX4_side_12 : decode cX4_side 12 = .ok (.iload_n 2, 1) := by decide +kernel
theorem dX4_side_13 : decode cX4_side 13 = .ok (.aload_n 0, 1) := by decide +kernel
theorem dX4_side_14 : decode cX4_side 14 = .ok (.getfield 81, 3) := by decide +kernel
theorem dX4_side_17 : decode cX4_side 17 = .ok (.if_icmp .ge 15, 3) := by decide +kernel
theorem dX4_side_20 : decode cX4_side 20 = .ok (.iload_n 3, 1) := by decide +kernel
theorem dX4_side_21 : decode cX4_side 21 = .ok (.ifCond .lt 11, 3) := by decide +kernel
theorem dX4_side_24 : decode cX4_side 24 = .ok (.iload_n 3, 1) := by decide +kernel
theorem dX4_side_25 : decode cX4_side 25 = .ok (.aload_n 0, 1) := by decide +kernel
theorem dX4_side_26 : decode cX4_side 26 = .ok (.invokevirtual 56, 3) := by decide +kernel
theorem dX4_side_29 : decode cX4_side 29 = .ok (.if_icmp .le 5, 3) := by decide +kernel
theorem dX4_side_32 : decode cX4_side 32 = .ok (.iconst (-1), 1) := by decide +kernel
theorem dX4_side_33 : decode cX4_side 33 = .ok (.ireturn, 1) := by decide +kernel
theorem dX4_side_34 : decode cX4_side 34 = .ok (.iload_n 3, 1) := by decide +kernel
theorem dX4_side_35 : decode cX4_side 35 = .ok (.aload_n 0, 1) := by decide +kernel
theorem dX4_side_36 : decode cX4_side 36 = .ok (.invokevirtual 56, 3) := by decide +kernel
theorem dX4_side_39 : decode cX4_side 39 = .ok (.if_icmp .ne 18, 3) := by decide +kernel
theorem dX4_side_42 : decode cX4_side 42 = .ok (.aload_n 0, 1) := by decide +kernel
theorem dX4_side_43 : decode cX4_side 43 = .ok (.getfield 33, 3) := by decide +kernel
theorem dX4_side_46 : decode cX4_side 46 = .ok (.iconst 5, 1) := by decide +kernel
theorem dX4_side_47 : decode cX4_side 47 = .ok (.iload_n 2, 1) := by decide +kernel
theorem dX4_side_48 : decode cX4_side 48 = .ok (.imul, 1) := by decide +kernel
theorem dX4_side_49 : decode cX4_side 49 = .ok (.iconst 5, 1) := by decide +kernel
theorem dX4_side_50 : decode cX4_side 50 = .ok (.iadd, 1) := by decide +kernel
theorem dX4_side_51 : decode cX4_side 51 = .ok (.iconst 1, 1) := by decide +kernel
theorem dX4_side_52 : decode cX4_side 52 = .ok (.isub, 1) := by decide +kernel
theorem dX4_side_53 : decode cX4_side 53 = .ok (.laload, 1) := by decide +kernel
theorem dX4_side_54 : decode cX4_side 54 = .ok (.goto 13, 3) := by decide +kernel
theorem dX4_side_57 : decode cX4_side 57 = .ok (.aload_n 0, 1) := by decide +kernel
theorem dX4_side_58 : decode cX4_side 58 = .ok (.getfield 33, 3) := by decide +kernel
theorem dX4_side_61 : decode cX4_side 61 = .ok (.iconst 5, 1) := by decide +kernel
theorem dX4_side_62 : decode cX4_side 62 = .ok (.iload_n 2, 1) := by decide +kernel
theorem dX4_side_63 : decode cX4_side 63 = .ok (.imul, 1) := by decide +kernel
theorem dX4_side_64 : decode cX4_side 64 = .ok (.iload_n 3, 1) := by decide +kernel
theorem dX4_side_65 : decode cX4_side 65 = .ok (.iadd, 1) := by decide +kernel
theorem dX4_side_66 : decode cX4_side 66 = .ok (.laload, 1) := by decide +kernel
theorem dX4_side_67 : decode cX4_side 67 = .ok (.l2i, 1) := by decide +kernel
theorem dX4_side_68 : decode cX4_side 68 = .ok (.ireturn, 1) := by decide +kernel
set_option maxRecDepth 20000 in
theorem ggX4_suits_X4_isIn : GoodIn wsX4_suits wsX4_isIn := goodIn_r _ [5] rfl (by decide +kernel)
set_option maxRecDepth 20000 in
theorem gX4_suits_X4_isIn : GoodIn wsX4_suits (va_wsS RX4 52 yX4_isIn wsX4_isIn) := goodIn_app (goodIn_c (List.mem_of_getElem? (i := 2) rfl) rfl (goodIn_c (List.mem_of_getElem? (i := 3) rfl) rfl (goodIn_c (List.mem_of_getElem? (i := 4) rfl) rfl (goodIn_nil)))) ggX4_suits_X4_isIn
set_option maxRecDepth 20000 in
theorem ggX4_suits_X4_asks : GoodIn wsX4_suits wsX4_asks := goodIn_r _ [9, 10, 11, 2, 3, 4, 5, 12, 13, 14, 15, 16, 17, 18, 19, 20, 21, 22, 23, 24, 25, 26, 27, 28, 29, 30, 31, 32, 33, 34, 35, 36, 37, 38, 39, 40, 115, 116, 117, 118, 119, 120, 121, 122, 123, 124, 125, 126, 127, 128, 129, 130, 131, 132, 133, 134, 135, 136] rfl (by decide +kernel)
set_option maxRecDepth 20000 in
theorem gX4_suits_X4_asks : GoodIn wsX4_suits (wsV RX4 154 RX4 yX4_asks wsX4_asks) := goodIn_app (goodIn_c (List.mem_of_getElem? (i := 6) rfl) rfl (goodIn_c (List.mem_of_getElem? (i := 7) rfl) rfl (goodIn_c (List.mem_of_getElem? (i := 8) rfl) rfl (goodIn_c (List.mem_of_getElem? (i := 4) rfl) rfl (goodIn_nil))))) ggX4_suits_X4_asks
set_option maxRecDepth 20000 in
theorem ggX4_suits_X4_shares : GoodIn wsX4_suits wsX4_shares := goodIn_r _ [44, 16, 25, 45, 46, 1, 47, 48, 49, 4, 50, 51, 52, 53, 54, 55, 56, 22, 24, 26, 57, 58, 59, 60, 61, 62, 63, 64, 65, 66, 67, 68, 69, 70, 71, 72, 73, 74, 75, 76, 77, 78, 79, 80, 81, 82, 83, 84, 85, 86, 87, 88, 89, 90, 91, 92, 93, 94, 95, 96, 97, 98, 99, 100, 101, 102, 103, 104, 105, 106, 107, 108, 109, 110, 115, 116, 117, 118, 119, 120, 121, 122, 123, 124, 125, 126, 127, 128, 129, 130, 131, 132, 133, 134, 135, 136] rfl (by decide +kernel)
set_option maxRecDepth 20000 in
theorem gX4_suits_X4_shares : GoodIn wsX4_suits (wsV RX4 157 RX4 yX4_shares wsX4_shares) := goodIn_app (goodIn_c (List.mem_of_getElem? (i := 41) rfl) rfl (goodIn_c (List.mem_of_getElem? (i := 42) rfl) rfl (goodIn_c (List.mem_of_getElem? (i := 43) rfl) rfl (goodIn_c (List.mem_of_getElem? (i := 4) rfl) rfl (goodIn_nil))))) ggX4_suits_X4_shares
set_option maxRecDepth 20000 in
theorem ggX4_suits_X4_inWeighed : GoodIn wsX4_suits wsX4_inWeighed := goodIn_r _ [106, 22, 98, 26, 115, 116, 117, 118, 119, 120, 121, 122, 123, 124, 125, 126, 127, 128, 129, 130, 131, 132, 133, 134, 135, 136] rfl (by decide +kernel)
set_option maxRecDepth 20000 in
theorem gX4_suits_X4_inWeighed : GoodIn wsX4_suits (wsV RX4 128 RX4 yX4_inWeighed wsX4_inWeighed) := goodIn_app (goodIn_c (List.mem_of_getElem? (i := 103) rfl) rfl (goodIn_c (List.mem_of_getElem? (i := 104) rfl) rfl (goodIn_c (List.mem_of_getElem? (i := 105) rfl) rfl (goodIn_c (List.mem_of_getElem? (i := 4) rfl) rfl (goodIn_nil))))) ggX4_suits_X4_inWeighed
set_option maxRecDepth 20000 in
theorem ggX4_suits_X4_isBest : GoodIn wsX4_suits wsX4_isBest := goodIn_r _ [114, 46, 45, 107, 108, 109, 4, 110, 98, 22, 24, 26, 103, 104, 105, 106, 115, 116, 117, 118, 119, 120, 121, 122, 123, 124, 125, 126, 127, 128, 129, 130, 131, 132, 133, 134, 135, 136] rfl (by decide +kernel)
set_option maxRecDepth 20000 in
theorem gX4_suits_X4_isBest : GoodIn wsX4_suits (wsV RX4 167 RX4 yX4_isBest wsX4_isBest) := goodIn_app (goodIn_c (List.mem_of_getElem? (i := 111) rfl) rfl (goodIn_c (List.mem_of_getElem? (i := 112) rfl) rfl (goodIn_c (List.mem_of_getElem? (i := 113) rfl) rfl (goodIn_c (List.mem_of_getElem? (i := 4) rfl) rfl (goodIn_nil))))) ggX4_suits_X4_isBest
theorem dX4_suits_0 : decode cX4_suits 0 = .ok (.iload_n 1, 1) := by decide +kernel
theorem dX4_suits_1 : decode cX4_suits 1 = .ok (.iconst 0, 1) := by decide +kernel
theorem dX4_suits_2 : decode cX4_suits 2 = .ok (.iconst 2, 1) := by decide +kernel
theorem dX4_suits_3 : decode cX4_suits 3 = .ok (.invokestatic 52, 3) := by decide +kernel
theorem dX4_suits_6 : decode cX4_suits 6 = .ok (.ifCond .eq 12, 3) := by decide +kernel
theorem dX4_suits_9 : decode cX4_suits 9 = .ok (.aload_n 0, 1) := by decide +kernel
theorem dX4_suits_10 : decode cX4_suits 10 = .ok (.iload_n 1, 1) := by decide +kernel
theorem dX4_suits_11 : decode cX4_suits 11 = .ok (.iload_n 2, 1) := by decide +kernel
theorem dX4_suits_12 : decode cX4_suits 12 = .ok (.invokevirtual 154, 3) := by decide +kernel
theorem dX4_suits_15 : decode cX4_suits 15 = .ok (.ifCond .ne 5, 3) := by decide +kernel
theorem dX4_suits_18 : decode cX4_suits 18 = .ok (.iconst (-1), 1) := by decide +kernel
theorem dX4_suits_19 : decode cX4_suits 19 = .ok (.ireturn, 1) := by decide +kernel
theorem dX4_suits_20 : decode cX4_suits 20 = .ok (.aload_n 0, 1) := by decide +kernel
theorem dX4_suits_21 : decode cX4_suits 21 = .ok (.iload_n 1, 1) := by decide +kernel
theorem dX4_suits_22 : decode cX4_suits 22 = .ok (.iload_n 2, 1) := by decide +kernel
theorem dX4_suits_23 : decode cX4_suits 23 = .ok (.invokevirtual 157, 3) := by decide +kernel
theorem dX4_suits_26 : decode cX4_suits 26 = .ok (.istore 4, 2) := by decide +kernel
theorem dX4_suits_28 : decode cX4_suits 28 = .ok (.iload_n 3, 1) := by decide +kernel
theorem dX4_suits_29 : decode cX4_suits 29 = .ok (.ifCond .lt 11, 3) := by decide +kernel
theorem dX4_suits_32 : decode cX4_suits 32 = .ok (.iload_n 3, 1) := by decide +kernel
theorem dX4_suits_33 : decode cX4_suits 33 = .ok (.aload_n 0, 1) := by decide +kernel
theorem dX4_suits_34 : decode cX4_suits 34 = .ok (.getfield 81, 3) := by decide +kernel
theorem dX4_suits_37 : decode cX4_suits 37 = .ok (.if_icmp .lt 5, 3) := by decide +kernel
theorem dX4_suits_40 : decode cX4_suits 40 = .ok (.iconst (-1), 1) := by decide +kernel
theorem dX4_suits_41 : decode cX4_suits 41 = .ok (.ireturn, 1) := by decide +kernel
theorem dX4_suits_42 : decode cX4_suits 42 = .ok (.aload_n 0, 1) := by decide +kernel
theorem dX4_suits_43 : decode cX4_suits 43 = .ok (.iload_n 3, 1) := by decide +kernel
theorem dX4_suits_44 : decode cX4_suits 44 = .ok (.iload_n 2, 1) := by decide +kernel
theorem dX4_suits_45 : decode cX4_suits 45 = .ok (.invokevirtual 128, 3) := by decide +kernel
theorem dX4_suits_48 : decode cX4_suits 48 = .ok (.lconst 0, 1) := by decide +kernel
theorem dX4_suits_49 : decode cX4_suits 49 = .ok (.lcmp, 1) := by decide +kernel
theorem dX4_suits_50 : decode cX4_suits 50 = .ok (.ifCond .le 16, 3) := by decide +kernel
theorem dX4_suits_53 : decode cX4_suits 53 = .ok (.aload_n 0, 1) := by decide +kernel
theorem dX4_suits_54 : decode cX4_suits 54 = .ok (.iload_n 3, 1) := by decide +kernel
theorem dX4_suits_55 : decode cX4_suits 55 = .ok (.iload_n 2, 1) := by decide +kernel
theorem dX4_suits_56 : decode cX4_suits 56 = .ok (.invokevirtual 167, 3) := by decide +kernel
theorem dX4_suits_59 : decode cX4_suits 59 = .ok (.ifCond .eq 7, 3) := by decide +kernel
theorem dX4_suits_62 : decode cX4_suits 62 = .ok (.iconst 1, 1) := by decide +kernel
theorem dX4_suits_63 : decode cX4_suits 63 = .ok (.goto 4, 3) := by decide +kernel
theorem dX4_suits_66 : decode cX4_suits 66 = .ok (.iconst 0, 1) := by decide +kernel
theorem dX4_suits_67 : decode cX4_suits 67 = .ok (.ireturn, 1) := by decide +kernel
set_option maxRecDepth 20000 in
theorem ggX4_count_X4_missingThere : GoodIn wsX4_count wsX4_missingThere := goodIn_r _ [10, 4, 5, 11, 12, 13, 14, 15, 9, 16, 2, 3, 17, 18, 19, 20, 21, 22, 23, 24, 25, 26, 27, 28, 29, 30, 31, 32, 33, 34, 35, 36, 37, 38] rfl (by decide +kernel)
set_option maxRecDepth 20000 in
theorem gX4_count_X4_missingThere : GoodIn wsX4_count (wsV RX4 170 RX4 yX4_missingThere wsX4_missingThere) := goodIn_app (goodIn_c (List.mem_of_getElem? (i := 6) rfl) rfl (goodIn_c (List.mem_of_getElem? (i := 7) rfl) rfl (goodIn_c (List.mem_of_getElem? (i := 8) rfl) rfl (goodIn_c (List.mem_of_getElem? (i := 9) rfl) rfl (goodIn_nil))))) ggX4_count_X4_missingThere
theorem dX4_count_0 : decode cX4_count 0 = .ok (.aload_n 0, 1) := by decide +kernel
theorem dX4_count_1 : decode cX4_count 1 = .ok (.iconst 0, 1) := by decide +kernel
theorem dX4_count_2 : decode cX4_count 2 = .ok (.putfield 46, 3) := by decide +kernel
theorem dX4_count_5 : decode cX4_count 5 = .ok (.iload_n 1, 1) := by decide +kernel
theorem dX4_count_6 : decode cX4_count 6 = .ok (.tableswitch 91 0 4 #[34, 39, 44, 49, 86], 34) := by decide +kernel
theorem dX4_count_40 : decode cX4_count 40 = .ok (.aload_n 0, 1) := by decide +kernel
theorem dX4_count_41 : decode cX4_count 41 = .ok (.getfield 9, 3) := by decide +kernel
theorem dX4_count_44 : decode cX4_count 44 = .ok (.ireturn, 1) := by decide +kernel
theorem dX4_count_45 : decode cX4_count 45 = .ok (.aload_n 0, 1) := by decide +kernel
theorem dX4_count_46 : decode cX4_count 46 = .ok (.getfield 13, 3) := by decide +kernel
theorem dX4_count_49 : decode cX4_count 49 = .ok (.ireturn, 1) := by decide +kernel
theorem dX4_count_50 : decode cX4_count 50 = .ok (.aload_n 0, 1) := by decide +kernel
theorem dX4_count_51 : decode cX4_count 51 = .ok (.getfield 49, 3) := by decide +kernel
theorem dX4_count_54 : decode cX4_count 54 = .ok (.ireturn, 1) := by decide +kernel
theorem dX4_count_55 : decode cX4_count 55 = .ok (.iconst 0, 1) := by decide +kernel
theorem dX4_count_56 : decode cX4_count 56 = .ok (.istore_n 2, 1) := by decide +kernel
theorem dX4_count_57 : decode cX4_count 57 = .ok (.iconst 0, 1) := by decide +kernel
theorem dX4_count_58 : decode cX4_count 58 = .ok (.istore_n 3, 1) := by decide +kernel
theorem dX4_count_59 : decode cX4_count 59 = .ok (.iload_n 3, 1) := by decide +kernel
theorem dX4_count_60 : decode cX4_count 60 = .ok (.aload_n 0, 1) := by decide +kernel
theorem dX4_count_61 : decode cX4_count 61 = .ok (.getfield 49, 3) := by decide +kernel
theorem dX4_count_64 : decode cX4_count 64 = .ok (.if_icmp .ge 26, 3) := by decide +kernel
theorem dX4_count_67 : decode cX4_count 67 = .ok (.iload_n 2, 1) := by decide +kernel
theorem dX4_count_68 : decode cX4_count 68 = .ok (.aload_n 0, 1) := by decide +kernel
theorem dX4_count_69 : decode cX4_count 69 = .ok (.getfield 23, 3) := by decide +kernel
theorem dX4_count_72 : decode cX4_count 72 = .ok (.iload_n 3, 1) := by decide +kernel
theorem dX4_count_73 : decode cX4_count 73 = .ok (.baload, 1) := by decide +kernel
theorem dX4_count_74 : decode cX4_count 74 = .ok (.ifCond .eq 7, 3) := by decide +kernel
theorem dX4_count_77 : decode cX4_count 77 = .ok (.iconst 1, 1) := by decide +kernel
theorem dX4_count_78 : decode cX4_count 78 = .ok (.goto 4, 3) := by decide +kernel
theorem dX4_count_81 : decode cX4_count 81 = .ok (.iconst 0, 1) := by decide +kernel
theorem dX4_count_82 : decode cX4_count 82 = .ok (.iadd, 1) := by decide +kernel
theorem dX4_count_83 : decode cX4_count 83 = .ok (.istore_n 2, 1) := by decide +kernel
theorem dX4_count_84 : decode cX4_count 84 = .ok (.iinc 3 1, 3) := by decide +kernel
theorem dX4_count_87 : decode cX4_count 87 = .ok (.goto (-28), 3) := by decide +kernel
theorem dX4_count_90 : decode cX4_count 90 = .ok (.iload_n 2, 1) := by decide +kernel
theorem dX4_count_91 : decode cX4_count 91 = .ok (.ireturn, 1) := by decide +kernel
theorem dX4_count_92 : decode cX4_count 92 = .ok (.aload_n 0, 1) := by decide +kernel
theorem dX4_count_93 : decode cX4_count 93 = .ok (.invokevirtual 170, 3) := by decide +kernel
theorem dX4_count_96 : decode cX4_count 96 = .ok (.ireturn, 1) := by decide +kernel
theorem dX4_count_97 : decode cX4_count 97 = .ok (.iconst (-1), 1) := by decide +kernel
theorem dX4_count_98 : decode cX4_count 98 = .ok (.ireturn, 1) := by decide +kernel
