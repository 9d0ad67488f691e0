theorem dX4_init_0 : decode cX4_init 0 = .ok (.aload_n 0, 1) := by decide +kernel
theorem dX4_init_1 : decode cX4_init 1 = .ok (.invokespecial 3, 3) := by decide +kernel
theorem dX4_init_4 : decode cX4_init 4 = .ok (.aload_n 0, 1) := by decide +kernel
theorem dX4_init_5 : decode cX4_init 5 = .ok (.iconst 1, 1) := by decide +kernel
theorem dX4_init_6 : decode cX4_init 6 = .ok (.putfield 9, 3) := by decide +kernel
theorem dX4_init_9 : decode cX4_init 9 = .ok (.aload_n 0, 1) := by decide +kernel
theorem dX4_init_10 : decode cX4_init 10 = .ok (.iconst 1, 1) := by decide +kernel
theorem dX4_init_11 : decode cX4_init 11 = .ok (.putfield 13, 3) := by decide +kernel
theorem dX4_init_14 : decode cX4_init 14 = .ok (.aload_n 0, 1) := by decide +kernel
theorem dX4_init_15 : decode cX4_init 15 = .ok (.bipush 48, 2) := by decide +kernel
theorem dX4_init_17 : decode cX4_init 17 = .ok (.newarray .int, 2) := by decide +kernel
theorem dX4_init_19 : decode cX4_init 19 = .ok (.putfield 16, 3) := by decide +kernel
theorem dX4_init_22 : decode cX4_init 22 = .ok (.aload_n 0, 1) := by decide +kernel
theorem dX4_init_23 : decode cX4_init 23 = .ok (.bipush 48, 2) := by decide +kernel
theorem dX4_init_25 : decode cX4_init 25 = .ok (.newarray .int, 2) := by decide +kernel
theorem dX4_init_27 : decode cX4_init 27 = .ok (.putfield 20, 3) := by decide +kernel
theorem dX4_init_30 : decode cX4_init 30 = .ok (.aload_n 0, 1) := by decide +kernel
theorem dX4_init_31 : decode cX4_init 31 = .ok (.bipush 12, 2) := by decide +kernel
theorem dX4_init_33 : decode cX4_init 33 = .ok (.newarray .boolean, 2) := by decide +kernel
theorem dX4_init_35 : decode cX4_init 35 = .ok (.putfield 23, 3) := by decide +kernel
theorem dX4_init_38 : decode cX4_init 38 = .ok (.aload_n 0, 1) := by decide +kernel
theorem dX4_init_39 : decode cX4_init 39 = .ok (.bipush 48, 2) := by decide +kernel
theorem dX4_init_41 : decode cX4_init 41 = .ok (.newarray .int, 2) := by decide +kernel
theorem dX4_init_43 : decode cX4_init 43 = .ok (.putfield 27, 3) := by decide +kernel
theorem dX4_init_46 : decode cX4_init 46 = .ok (.aload_n 0, 1) := by decide +kernel
theorem dX4_init_47 : decode cX4_init 47 = .ok (.bipush 12, 2) := by decide +kernel
theorem dX4_init_49 : decode cX4_init 49 = .ok (.newarray .boolean, 2) := by decide +kernel
theorem dX4_init_51 : decode cX4_init 51 = .ok (.putfield 30, 3) := by decide +kernel
theorem dX4_init_54 : decode cX4_init 54 = .ok (.aload_n 0, 1) := by decide +kernel
theorem dX4_init_55 : decode cX4_init 55 = .ok (.sipush 13000, 3) := by decide +kernel
theorem dX4_init_58 : decode cX4_init 58 = .ok (.newarray .long, 2) := by decide +kernel
theorem dX4_init_60 : decode cX4_init 60 = .ok (.putfield 33, 3) := by decide +kernel
theorem dX4_init_63 : decode cX4_init 63 = .ok (.aload_n 0, 1) := by decide +kernel
theorem dX4_init_64 : decode cX4_init 64 = .ok (.bipush 85, 2) := by decide +kernel
theorem dX4_init_66 : decode cX4_init 66 = .ok (.newarray .long, 2) := by decide +kernel
theorem dX4_init_68 : decode cX4_init 68 = .ok (.putfield 37, 3) := by decide +kernel
theorem dX4_init_71 : decode cX4_init 71 = .ok (.aload_n 0, 1) := by decide +kernel
theorem dX4_init_72 : decode cX4_init 72 = .ok (.iconst 5, 1) := by decide +kernel
theorem dX4_init_73 : decode cX4_init 73 = .ok (.newarray .long, 2) := by decide +kernel
theorem dX4_init_75 : decode cX4_init 75 = .ok (.putfield 40, 3) := by decide +kernel
theorem dX4_init_78 : decode cX4_init 78 = .ok (.aload_n 0, 1) := by decide +kernel
theorem dX4_init_79 : decode cX4_init 79 = .ok (.iconst 5, 1) := by decide +kernel
theorem dX4_init_80 : decode cX4_init 80 = .ok (.newarray .int, 2) := by decide +kernel
theorem dX4_init_82 : decode cX4_init 82 = .ok (.putfield 43, 3) := by decide +kernel
theorem dX4_init_85 : decode cX4_init 85 = .ok (.return_, 1) := by decide +kernel
theorem dX4_things_0 : decode cX4_things 0 = .ok (.aload_n 0, 1) := by decide +kernel
theorem dX4_things_1 : decode cX4_things 1 = .ok (.getfield 9, 3) := by decide +kernel
theorem dX4_things_4 : decode cX4_things 4 = .ok (.aload_n 0, 1) := by decide +kernel
theorem dX4_things_5 : decode cX4_things 5 = .ok (.getfield 13, 3) := by decide +kernel
theorem dX4_things_8 : decode cX4_things 8 = .ok (.iadd, 1) := by decide +kernel
theorem dX4_things_9 : decode cX4_things 9 = .ok (.ireturn, 1) := by decide +kernel
theorem dX4_isWork_0 : decode cX4_isWork 0 = .ok (.iload_n 1, 1) := by decide +kernel
theorem dX4_isWork_1 : decode cX4_isWork 1 = .ok (.ifCond .lt 15, 3) := by decide +kernel
theorem dX4_isWork_4 : decode cX4_isWork 4 = .ok (.iload_n 1, 1) := by decide +kernel
theorem dX4_isWork_5 : decode cX4_isWork 5 = .ok (.aload_n 0, 1) := by decide +kernel
theorem dX4_isWork_6 : decode cX4_isWork 6 = .ok (.getfield 49, 3) := by decide +kernel
theorem dX4_isWork_9 : decode cX4_isWork 9 = .ok (.if_icmp .ge 7, 3) := by decide +kernel
theorem dX4_isWork_12 : decode cX4_isWork 12 = .ok (.iconst 1, 1) := by decide +kernel
theorem dX4_isWork_13 : decode cX4_isWork 13 = .ok (.goto 4, 3) := by decide +kernel
theorem dX4_isWork_16 : decode cX4_isWork 16 = .ok (.iconst 0, 1) := by decide +kernel
theorem dX4_isWork_17 : decode cX4_isWork 17 = .ok (.ireturn, 1) := by decide +kernel
theorem dX4_isIn_0 : decode cX4_isIn 0 = .ok (.iload_n 0, 1) := by decide +kernel
theorem dX4_isIn_1 : decode cX4_isIn 1 = .ok (.iload_n 1, 1) := by decide +kernel
theorem dX4_isIn_2 : decode cX4_isIn 2 = .ok (.if_icmp .lt 12, 3) := by decide +kernel
theorem dX4_isIn_5 : decode cX4_isIn 5 = .ok (.iload_n 0, 1) := by decide +kernel
theorem dX4_isIn_6 : decode cX4_isIn 6 = .ok (.iload_n 2, 1) := by decide +kernel
theorem dX4_isIn_7 : decode cX4_isIn 7 = .ok (.if_icmp .gt 7, 3) := by decide +kernel
theorem dX4_isIn_10 : decode cX4_isIn 10 = .ok (.iconst 1, 1) := by decide +kernel
theorem dX4_isIn_11 : decode cX4_isIn 11 = .ok (.goto 4, 3) := by decide +kernel
theorem dX4_isIn_14 : decode cX4_isIn 14 = .ok (.iconst 0, 1) := by decide +kernel
theorem dX4_isIn_15 : decode cX4_isIn 15 = .ok (.ireturn, 1) := by decide +kernel
set_option maxRecDepth 20000 in
theorem ggX4_start_X4_isIn : GoodIn wsX4_start wsX4_isIn := goodIn_r _ [8] rfl (by decide +kernel)
set_option maxRecDepth 20000 in
theorem gX4_start_X4_isIn : GoodIn wsX4_start (va_wsS RX4 52 yX4_isIn wsX4_isIn) := goodIn_app (goodIn_c (List.mem_of_getElem? (i := 5) rfl) rfl (goodIn_c (List.mem_of_getElem? (i := 6) rfl) rfl (goodIn_c (List.mem_of_getElem? (i := 7) rfl) rfl (goodIn_nil)))) ggX4_start_X4_isIn
theorem dX4_start_0 : decode cX4_start 0 = .ok (.aload_n 0, 1) := by decide +kernel
theorem dX4_start_1 : decode cX4_start 1 = .ok (.iconst 0, 1) := by decide +kernel
theorem dX4_start_2 : decode cX4_start 2 = .ok (.putfield 46, 3) := by decide +kernel
theorem dX4_start_5 : decode cX4_start 5 = .ok (.iload_n 1, 1) := by decide +kernel
theorem dX4_start_6 : decode cX4_start 6 = .ok (.iconst 1, 1) := by decide +kernel
theorem dX4_start_7 : decode cX4_start 7 = .ok (.iconst 2, 1) := by decide +kernel
theorem dX4_start_8 : decode cX4_start 8 = .ok (.invokestatic 52, 3) := by decide +kernel
theorem dX4_start_11 : decode cX4_start 11 = .ok (.ifCond .eq 12, 3) := by decide +kernel
theorem dX4_start_14 : decode cX4_start 14 = .ok (.iload_n 2, 1) := by decide +kernel
theorem dX4_start_15 : decode cX4_start 15 = .ok (.iconst 1, 1) := by decide +kernel
theorem dX4_start_16 : decode cX4_start 16 = .ok (.iconst 2, 1) := by decide +kernel
theorem dX4_start_17 : decode cX4_start 17 = .ok (.invokestatic 52, 3) := by decide +kernel
theorem dX4_start_20 : decode cX4_start 20 = .ok (.ifCond .ne 5, 3) := by decide +kernel
theorem dX4_start_23 : decode cX4_start 23 = .ok (.iconst 0, 1) := by decide +kernel
theorem dX4_start_24 : decode cX4_start 24 = .ok (.ireturn, 1) := by decide +kernel
theorem dX4_start_25 : decode cX4_start 25 = .ok (.aload_n 0, 1) := by decide +kernel
theorem dX4_start_26 : decode cX4_start 26 = .ok (.iload_n 1, 1) := by decide +kernel
theorem dX4_start_27 : decode cX4_start 27 = .ok (.putfield 9, 3) := by decide +kernel
theorem dX4_start_30 : decode cX4_start 30 = .ok (.aload_n 0, 1) := by decide +kernel
theorem dX4_start_31 : decode cX4_start 31 = .ok (.iload_n 2, 1) := by decide +kernel
theorem dX4_start_32 : decode cX4_start 32 = .ok (.putfield 13, 3) := by decide +kernel
theorem dX4_start_35 : decode cX4_start 35 = .ok (.aload_n 0, 1) := by decide +kernel
theorem dX4_start_36 : decode cX4_start 36 = .ok (.iconst 0, 1) := by decide +kernel
theorem dX4_start_37 : decode cX4_start 37 = .ok (.putfield 49, 3) := by decide +kernel
theorem dX4_start_40 : decode cX4_start 40 = .ok (.iconst 1, 1) := by decide +kernel
theorem dX4_start_41 : decode cX4_start 41 = .ok (.ireturn, 1) := by decide +kernel
set_option maxRecDepth 20000 in
theorem ggX4_work_X4_things : GoodIn wsX4_work wsX4_things := goodIn_r _ [12, 3, 13, 17, 18, 19, 20, 21, 22, 23, 24, 25, 26, 27, 28, 29, 30, 31, 32, 33, 34, 35, 36, 37, 38] rfl (by decide +kernel)
set_option maxRecDepth 20000 in
theorem gX4_work_X4_things : GoodIn wsX4_work (wsV RX4 56 RX4 yX4_things wsX4_things) := goodIn_app (goodIn_c (List.mem_of_getElem? (i := 8) rfl) rfl (goodIn_c (List.mem_of_getElem? (i := 9) rfl) rfl (goodIn_c (List.mem_of_getElem? (i := 10) rfl) rfl (goodIn_c (List.mem_of_getElem? (i := 11) rfl) rfl (goodIn_nil))))) ggX4_work_X4_things
set_option maxRecDepth 20000 in
theorem ggX4_work_X4_isIn : GoodIn wsX4_work wsX4_isIn := goodIn_r _ [16] rfl (by decide +kernel)
set_option maxRecDepth 20000 in
theorem gX4_work_X4_isIn : GoodIn wsX4_work (va_wsS RX4 52 yX4_isIn wsX4_isIn) := goodIn_app (goodIn_c (List.mem_of_getElem? (i := 14) rfl) rfl (goodIn_c (List.mem_of_getElem? (i := 15) rfl) rfl (goodIn_c (List.mem_of_getElem? (i := 11) rfl) rfl (goodIn_nil)))) ggX4_work_X4_isIn
theorem dX4_work_0 : decode cX4_work 0 = .ok (.aload_n 0, 1) := by decide +kernel
theorem dX4_work_1 : decode cX4_work 1 = .ok (.iconst 0, 1) := by decide +kernel
theorem dX4_work_2 : decode cX4_work 2 = .ok (.putfield 46, 3) := by decide +kernel
theorem dX4_work_5 : decode cX4_work 5 = .ok (.iconst 4, 1) := by decide +kernel
theorem dX4_work_6 : decode cX4_work 6 = .ok (.newarray .int, 2) := by decide +kernel
theorem dX4_work_8 : decode cX4_work 8 = .ok (.dup, 1) := by decide +kernel
theorem dX4_work_9 : decode cX4_work 9 = .ok (.iconst 0, 1) := by decide +kernel
theorem dX4_work_10 : decode cX4_work 10 = .ok (.iload_n 1, 1) := by decide +kernel
theorem dX4_work_11 : decode cX4_work 11 = .ok (.iastore, 1) := by decide +kernel
theorem dX4_work_12 : decode cX4_work 12 = .ok (.dup, 1) := by decide +kernel
theorem dX4_work_13 : decode cX4_work 13 = .ok (.iconst 1, 1) := by decide +kernel
theorem dX4_work_14 : decode cX4_work 14 = .ok (.iload_n 2, 1) := by decide +kernel
theorem dX4_work_15 : decode cX4_work 15 = .ok (.iastore, 1) := by decide +kernel
theorem dX4_work_16 : decode cX4_work 16 = .ok (.dup, 1) := by decide +kernel
theorem dX4_work_17 : decode cX4_work 17 = .ok (.iconst 2, 1) := by decide +kernel
theorem dX4_work_18 : decode cX4_work 18 = .ok (.iload_n 3, 1) := by decide +kernel
theorem dX4_work_19 : decode cX4_work 19 = .ok (.iastore, 1) := by decide +kernel
theorem dX4_work_20 : decode cX4_work 20 = .ok (.dup, 1) := by decide +kernel
theorem dX4_work_21 : decode cX4_work 21 = .ok (.iconst 3, 1) := by decide +kernel
theorem dX4_work_22 : decode cX4_work 22 = .ok (.iload 4, 2) := by decide +kernel
theorem dX4_work_24 : decode cX4_work 24 = .ok (.iastore, 1) := by decide +kernel
theorem dX4_work_25 : decode cX4_work 25 = .ok (.astore 5, 2) := by decide +kernel
theorem dX4_work_27 : decode cX4_work 27 = .ok (.iconst 0, 1) := by decide +kernel
theorem dX4_work_28 : decode cX4_work 28 = .ok (.istore 6, 2) := by decide +kernel
theorem dX4_work_30 : decode cX4_work 30 = .ok (.iconst 0, 1) := by decide +kernel
theorem dX4_work_31 : decode cX4_work 31 = .ok (.istore 7, 2) := by decide +kernel
theorem dX4_work_33 : decode cX4_work 33 = .ok (.iconst 0, 1) := by decide +kernel
theorem dX4_work_34 : decode cX4_work 34 = .ok (.istore 8, 2) := by decide +kernel
theorem dX4_work_36 : decode cX4_work 36 = .ok (.iload 8, 2) := by decide +kernel
theorem dX4_work_38 : decode cX4_work 38 = .ok (.aload_n 0, 1) := by decide +kernel
theorem dX4_work_39 : decode cX4_work 39 = .ok (.invokevirtual 56, 3) := by decide +kernel
theorem dX4_work_42 : decode cX4_work 42 = .ok (.if_icmp .ge 57, 3) := by decide +kernel
theorem dX4_work_45 : decode cX4_work 45 = .ok (.aload 5, 2) := by decide +kernel
theorem dX4_work_47 : decode cX4_work 47 = .ok (.iload 8, 2) := by decide +kernel
theorem dX4_work_49 : decode cX4_work 49 = .ok (.iaload, 1) := by decide +kernel
theorem dX4_work_50 : decode cX4_work 50 = .ok (.iconst 0, 1) := by decide +kernel
theorem dX4_work_51 : decode cX4_work 51 = .ok (.bipush 30, 2) := by decide +kernel
theorem dX4_work_53 : decode cX4_work 53 = .ok (.invokestatic 52, 3) := by decide +kernel
theorem dX4_work_56 : decode cX4_work 56 = .ok (.ifCond .ne 5, 3) := by decide +kernel
theorem dX4_work_59 : decode cX4_work 59 = .ok (.iconst (-1), 1) := by decide +kernel
theorem dX4_work_60 : decode cX4_work 60 = .ok (.ireturn, 1) := by decide +kernel
theorem dX4_work_61 : decode cX4_work 61 = .ok (.iload 8, 2) := by decide +kernel
theorem dX4_work_63 : decode cX4_work 63 = .ok (.aload_n 0, 1) := by decide +kernel
theorem dX4_work_64 : decode cX4_work 64 = .ok (.getfield 9, 3) := by decide +kernel
theorem dX4_work_67 : decode cX4_work 67 = .ok (.if_icmp .ge 16, 3) := by decide +kernel
theorem dX4_work_70 : decode cX4_work 70 = .ok (.iload 6, 2) := by decide +kernel
theorem dX4_work_72 : decode cX4_work 72 = .ok (.aload 5, 2) := by decide +kernel
theorem dX4_work_74 : decode cX4_work 74 = .ok (.iload 8, 2) := by decide +kernel
theorem dX4_work_76 : decode cX4_work 76 = .ok (.iaload, 1) := by decide +kernel
theorem dX4_work_77 : decode cX4_work 77 = .ok (.iadd, 1) := by decide +kernel
theorem dX4_work_78 : decode cX4_work 78 = .ok (.istore 6, 2) := by decide +kernel
theorem dX4_work_80 : decode cX4_work 80 = .ok (.goto 13, 3) := by decide +kernel
theorem dX4_work_83 : decode cX4_work 83 = .ok (.iload 7, 2) := by decide +kernel
theorem dX4_work_85 : decode cX4_work 85 = .ok (.aload 5, 2) := by decide +kernel
theorem dX4_work_87 : decode cX4_work 87 = .ok (.iload 8, 2) := by decide +kernel
theorem dX4_work_89 : decode cX4_work 89 = .ok (.iaload, 1) := by decide +kernel
theorem dX4_work_90 : decode cX4_work 90 = .ok (.iadd, 1) := by decide +kernel
theorem dX4_work_91 : decode cX4_work 91 = .ok (.istore 7, 2) := by decide +kernel
theorem dX4_work_93 : decode cX4_work 93 = .ok (.iinc 8 1, 3) := by decide +kernel
theorem dX4_work_96 : decode cX4_work 96 = .ok (.goto (-60), 3) := by decide +kernel
theorem dX4_work_99 : decode cX4_work 99 = .ok (.aload_n 0, 1) := by decide +kernel
theorem dX4_work_100 : decode cX4_work 100 = .ok (.getfield 49, 3) := by decide +kernel
theorem dX4_work_103 : decode cX4_work 103 = .ok (.bipush 12, 2) := by decide +kernel
theorem dX4_work_105 : decode cX4_work 105 = .ok (.if_icmp .eq 13, 3) := by decide +kernel
theorem dX4_work_108 : decode cX4_work 108 = .ok (.iload 6, 2) := by decide +kernel
theorem dX4_work_110 : decode cX4_work 110 = .ok (.ifCond .eq 8, 3) := by decide +kernel
theorem dX4_work_113 : decode cX4_work 113 = .ok (.iload 7, 2) := by decide +kernel
theorem dX4_work_115 : decode cX4_work 115 = .ok (.ifCond .ne 5, 3) := by decide +kernel
theorem dX4_work_118 : decode cX4_work 118 = .ok (.iconst (-1), 1) := by decide +kernel
theorem dX4_work_119 : decode cX4_work 119 = .ok (.ireturn, 1) := by decide +kernel
theorem dX4_work_120 : decode cX4_work 120 = .ok (.iconst 0, 1) := by decide +kernel
theorem dX4_work_121 : decode cX4_work 121 = .ok (.istore 8, 2) := by decide +kernel
theorem dX4_work_123 : decode cX4_work 123 = .ok (.iload 8, 2) := by decide +kernel
theorem dX4_work_125 : decode cX4_work 125 = .ok (.iconst 4, 1) := by decide +kernel
theorem dX4_work_126 : decode cX4_work 126 = .ok (.if_icmp .ge 73, 3) := by decide +kernel
theorem dX4_work_129 : decode cX4_work 129 = .ok (.aload_n 0, 1) := by decide +kernel
theorem dX4_work_130 : decode cX4_work 130 = .ok (.getfield 16, 3) := by decide +kernel
theorem dX4_work_133 : decode cX4_work 133 = .ok (.iconst 4, 1) := by decide +kernel
theorem dX4_work_134 : decode cX4_work 134 = .ok (.aload_n 0, 1) := by decide +kernel
theorem dX4_work_135 : decode cX4_work 135 = .ok (.getfield 49, 3) := by decide +kernel
theorem dX4_work_138 : decode cX4_work 138 = .ok (.imul, 1) := by decide +kernel
theorem dX4_work_139 : decode cX4_work 139 = .ok (.iload 8, 2) := by decide +kernel
theorem dX4_work_141 : decode cX4_work 141 = .ok (.iadd, 1) := by decide +kernel
theorem dX4_work_142 : decode cX4_work 142 = .ok (.iload 8, 2) := by decide +kernel
theorem dX4_work_144 : decode cX4_work 144 = .ok (.aload_n 0, 1) := by decide +kernel
theorem dX4_work_145 : decode cX4_work 145 = .ok (.invokevirtual 56, 3) := by decide +kernel
theorem dX4_work_148 : decode cX4_work 148 = .ok (.if_icmp .ge 11, 3) := by decide +kernel
theorem dX4_work_151 : decode cX4_work 151 = .ok (.aload 5, 2) := by decide +kernel
theorem dX4_work_153 : decode cX4_work 153 = .ok (.iload 8, 2) := by decide +kernel
theorem dX4_work_155 : decode cX4_work 155 = .ok (.iaload, 1) := by decide +kernel
theorem dX4_work_156 : decode cX4_work 156 = .ok (.goto 4, 3) := by decide +kernel
theorem dX4_work_159 : decode cX4_work 159 = .ok (.iconst 0, 1) := by decide +kernel
theorem dX4_work_160 : decode cX4_work 160 = .ok (.iastore, 1) := by decide +kernel
theorem dX4_work_161 : decode cX4_work 161 = .ok (.aload_n 0, 1) := by decide +kernel
theorem dX4_work_162 : decode cX4_work 162 = .ok (.getfield 20, 3) := by decide +kernel
theorem dX4_work_165 : decode cX4_work 165 = .ok (.iconst 4, 1) := by decide +kernel
theorem dX4_work_166 : decode cX4_work 166 = .ok (.aload_n 0, 1) := by decide +kernel
theorem dX4_work_167 : decode cX4_work 167 = .ok (.getfield 49, 3) := by decide +kernel
theorem dX4_work_170 : decode cX4_work 170 = .ok (.imul, 1) := by decide +kernel
theorem dX4_work_171 : decode cX4_work 171 = .ok (.iload 8, 2) := by decide +kernel
theorem dX4_work_173 : decode cX4_work 173 = .ok (.iadd, 1) := by decide +kernel
theorem dX4_work_174 : decode cX4_work 174 = .ok (.iload 8, 2) := by decide +kernel
theorem dX4_work_176 : decode cX4_work 176 = .ok (.aload_n 0, 1) := by decide +kernel
theorem dX4_work_177 : decode cX4_work 177 = .ok (.invokevirtual 56, 3) := by decide +kernel
theorem dX4_work_180 : decode cX4_work 180 = .ok (.if_icmp .ge 11, 3) := by decide +kernel
theorem dX4_work_183 : decode cX4_work 183 = .ok (.aload 5, 2) := by decide +kernel
theorem dX4_work_185 : decode cX4_work 185 = .ok (.iload 8, 2) := by decide +kernel
theorem dX4_work_187 : decode cX4_work 187 = .ok (.iaload, 1) := by decide +kernel
theorem dX4_work_188 : decode cX4_work 188 = .ok (.goto 4, 3) := by decide +kernel
theorem dX4_work_191 : decode cX4_work 191 = .ok (.iconst 0, 1) := by decide +kernel
theorem dX4_work_192 : decode cX4_work 192 = .ok (.iastore, 1) := by decide +kernel
theorem dX4_work_193 : decode cX4_work 193 = .ok (.iinc 8 1, 3) := by decide +kernel
theorem dX4_work_196 : decode cX4_work 196 = .ok (.goto (-73), 3) := by decide +kernel
theorem dX4_work_199 : decode cX4_work 199 = .ok (.aload_n 0, 1) := by decide +kernel
theorem dX4_work_200 : decode cX4_work 200 = .ok (.getfield 23, 3) := by decide +kernel
theorem dX4_work_203 : decode cX4_work 203 = .ok (.aload_n 0, 1) := by decide +kernel
theorem dX4_work_204 : decode cX4_work 204 = .ok (.getfield 49, 3) := by decide +kernel
theorem dX4_work_207 : decode cX4_work 207 = .ok (.iconst 1, 1) := by decide +kernel
theorem dX4_work_208 : decode cX4_work 208 = .ok (.bastore, 1) := by decide +kernel
theorem dX4_work_209 : decode cX4_work 209 = .ok (.aload_n 0, 1) := by decide +kernel
theorem dX4_work_210 : decode cX4_work 210 = .ok (.dup, 1) := by decide +kernel
theorem dX4_work_211 : decode cX4_work 211 = .ok (.getfield 49, 3) := by decide +kernel
theorem dX4_work_214 : decode cX4_work 214 = .ok (.iconst 1, 1) := by decide +kernel
theorem dX4_work_215 : decode cX4_work 215 = .ok (.iadd, 1) := by decide +kernel
theorem dX4_work_216 : decode cX4_work 216 = .ok (.putfield 49, 3) := by decide +kernel
theorem dX4_work_219 : decode cX4_work 219 = .ok (.aload_n 0, 1) := by decide +kernel
theorem dX4_work_220 : decode cX4_work 220 = .ok (.getfield 49, 3) := by decide +kernel
theorem dX4_work_223 : decode cX4_work 223 = .ok (.iconst 1, 1) := by decide +kernel
theorem dX4_work_224 : decode cX4_work 224 = .ok (.isub, 1) := by decide +kernel
theorem dX4_work_225 : decode cX4_work 225 = .ok (.ireturn, 1) := by decide +kernel
set_option maxRecDepth 20000 in
theorem ggX4_set_X4_isWork : GoodIn wsX4_set wsX4_isWork := goodIn_r _ [7, 8, 9, 10, 11, 12, 13, 14, 15, 16, 17, 18, 19, 20, 21, 22, 23, 24, 25, 26, 27, 28, 29, 30] rfl (by decide +kernel)
set_option maxRecDepth 20000 in
theorem gX4_set_X4_isWork : GoodIn wsX4_set (wsV RX4 60 RX4 yX4_isWork wsX4_isWork) := goodIn_app (goodIn_c (List.mem_of_getElem? (i := 3) rfl) rfl (goodIn_c (List.mem_of_getElem? (i := 4) rfl) rfl (goodIn_c (List.mem_of_getElem? (i := 5) rfl) rfl (goodIn_c (List.mem_of_getElem? (i := 6) rfl) rfl (goodIn_nil))))) ggX4_set_X4_isWork
theorem dX4_set_0 : decode cX4_set 0 = .ok (.aload_n 0, 1) := by decide +kernel
theorem dX4_set_1 : decode cX4_set 1 = .ok (.iconst 0, 1) := by decide +kernel
theorem dX4_set_2 : decode cX4_set 2 = .ok (.putfield 46, 3) := by decide +kernel
theorem dX4_set_5 : decode cX4_set 5 = .ok (.aload_n 0, 1) := by decide +kernel
theorem dX4_set_6 : decode cX4_set 6 = .ok (.iload_n 1, 1) := by decide +kernel
theorem dX4_set_7 : decode cX4_set 7 = .ok (.invokevirtual 60, 3) := by decide +kernel
theorem dX4_set_10 : decode cX4_set 10 = .ok (.ifCond .eq 13, 3) := by decide +kernel
theorem dX4_set_13 : decode cX4_set 13 = .ok (.aload_n 0, 1) := by decide +kernel
theorem dX4_set_14 : decode cX4_set 14 = .ok (.getfield 23, 3) := by decide +kernel
theorem dX4_set_17 : decode cX4_set 17 = .ok (.iload_n 1, 1) := by decide +kernel
theorem dX4_set_18 : decode cX4_set 18 = .ok (.baload, 1) := by decide +kernel
theorem dX4_set_19 : decode cX4_set 19 = .ok (.iload_n 2, 1) := by decide +kernel
theorem dX4_set_20 : decode cX4_set 20 = .ok (.if_icmp .ne 5, 3) := by decide +kernel
theorem dX4_set_23 : decode cX4_set 23 = .ok (.iconst 0, 1) := by decide +kernel
theorem dX4_set_24 : decode cX4_set 24 = .ok (.ireturn, 1) := by decide +kernel
theorem dX4_set_25 : decode cX4_set 25 = .ok (.aload_n 0, 1) := by decide +kernel
theorem dX4_set_26 : decode cX4_set 26 = .ok (.getfield 23, 3) := by decide +kernel
theorem dX4_set_29 : decode cX4_set 29 = .ok (.iload_n 1, 1) := by decide +kernel
theorem dX4_set_30 : decode cX4_set 30 = .ok (.iload_n 2, 1) := by decide +kernel
theorem dX4_set_31 : decode cX4_set 31 = .ok (.bastore, 1) := by decide +kernel
theorem dX4_set_32 : decode cX4_set 32 = .ok (.iconst 1, 1) := by decide +kernel
theorem dX4_set_33 : decode cX4_set 33 = .ok (.ireturn, 1) := by decide +kernel
set_option maxRecDepth 20000 in
theorem ggX4_missing_X4_isWork : GoodIn wsX4_missing wsX4_isWork := goodIn_r _ [8, 9, 19, 20, 21, 22, 23, 24, 25, 26, 27, 28, 29, 30, 31, 32, 33, 34, 35, 36, 37, 38, 39, 40] rfl (by decide +kernel)
set_option maxRecDepth 20000 in
theorem gX4_missing_X4_isWork : GoodIn wsX4_missing (wsV RX4 60 RX4 yX4_isWork wsX4_isWork) := goodIn_app (goodIn_c (List.mem_of_getElem? (i := 4) rfl) rfl (goodIn_c (List.mem_of_getElem? (i := 5) rfl) rfl (goodIn_c (List.mem_of_getElem? (i := 6) rfl) rfl (goodIn_c (List.mem_of_getElem? (i := 7) rfl) rfl (goodIn_nil))))) ggX4_missing_X4_isWork
set_option maxRecDepth 20000 in
theorem ggX4_missing_X4_things : GoodIn wsX4_missing wsX4_things := goodIn_r _ [13, 14, 15, 19, 20, 21, 22, 23, 24, 25, 26, 27, 28, 29, 30, 31, 32, 33, 34, 35, 36, 37, 38, 39, 40] rfl (by decide +kernel)
set_option maxRecDepth 20000 in
theorem gX4_missing_X4_things : GoodIn wsX4_missing (wsV RX4 56 RX4 yX4_things wsX4_things) := goodIn_app (goodIn_c (List.mem_of_getElem? (i := 10) rfl) rfl (goodIn_c (List.mem_of_getElem? (i := 11) rfl) rfl (goodIn_c (List.mem_of_getElem? (i := 12) rfl) rfl (goodIn_c (List.mem_of_getElem? (i := 7) rfl) rfl (goodIn_nil))))) ggX4_missing_X4_things
set_option maxRecDepth 20000 in
theorem ggX4_missing_X4_isIn : GoodIn wsX4_missing wsX4_isIn := goodIn_r _ [18] rfl (by decide +kernel)
set_option maxRecDepth 20000 in
theorem gX4_missing_X4_isIn : GoodIn wsX4_missing (va_wsS RX4 52 yX4_isIn wsX4_isIn) := goodIn_app (goodIn_c (List.mem_of_getElem? (i := 16) rfl) rfl (goodIn_c (List.mem_of_getElem? (i := 17) rfl) rfl (goodIn_c (List.mem_of_getElem? (i := 7) rfl) rfl (goodIn_nil)))) ggX4_missing_X4_isIn
theorem dX4_missing_0 : decode cX4_missing 0 = .ok (.aload_n 0, 1) := by decide +kernel
theorem dX4_missing_1 : decode cX4_missing 1 = .ok (.iconst 0, 1) := by decide +kernel
theorem dX4_missing_2 : decode cX4_missing 2 = .ok (.putfield 46, 3) := by decide +kernel
theorem dX4_missing_5 : decode cX4_missing 5 = .ok (.aload_n 0, 1) := by decide +kernel
theorem dX4_missing_6 : decode cX4_missing 6 = .ok (.iload_n 1, 1) := by decide +kernel
theorem dX4_missing_7 : decode cX4_missing 7 = .ok (.invokevirtual 60, 3) := by decide +kernel
theorem dX4_missing_10 : decode cX4_missing 10 = .ok (.ifCond .eq 38, 3) := by decide +kernel
theorem dX4_missing_13 : decode cX4_missing 13 = .ok (.iload_n 2, 1) := by decide +kernel
theorem dX4_missing_14 : decode cX4_missing 14 = .ok (.iconst 0, 1) := by decide +kernel
theorem dX4_missing_15 : decode cX4_missing 15 = .ok (.aload_n 0, 1) := by decide +kernel
theorem dX4_missing_16 : decode cX4_missing 16 = .ok (.invokevirtual 56, 3) := by decide +kernel
theorem dX4_missing_19 : decode cX4_missing 19 = .ok (.iconst 1, 1) := by decide +kernel
theorem dX4_missing_20 : decode cX4_missing 20 = .ok (.isub, 1) := by decide +kernel
theorem dX4_missing_21 : decode cX4_missing 21 = .ok (.invokestatic 52, 3) := by decide +kernel
theorem dX4_missing_24 : decode cX4_missing 24 = .ok (.ifCond .eq 24, 3) := by decide +kernel
theorem dX4_missing_27 : decode cX4_missing 27 = .ok (.iload_n 3, 1) := by decide +kernel
theorem dX4_missing_28 : decode cX4_missing 28 = .ok (.iconst 0, 1) := by decide +kernel
theorem dX4_missing_29 : decode cX4_missing 29 = .ok (.bipush 30, 2) := by decide +kernel
theorem dX4_missing_31 : decode cX4_missing 31 = .ok (.invokestatic 52, 3) := by decide +kernel
theorem dX4_missing_34 : decode cX4_missing 34 = .ok (.ifCond .eq 14, 3) := by decide +kernel
theorem dX4_missing_37 : decode cX4_missing 37 = .ok (.iload 4, 2) := by decide +kernel
theorem dX4_missing_39 : decode cX4_missing 39 = .ok (.iload_n 3, 1) := by decide +kernel
theorem dX4_missing_40 : decode cX4_missing 40 = .ok (.bipush 30, 2) := by decide +kernel
theorem dX4_missing_42 : decode cX4_missing 42 = .ok (.invokestatic 52, 3) := by decide +kernel
theorem dX4_missing_45 : decode cX4_missing 45 = .ok (.ifCond .ne 5, 3) := by decide +kernel
theorem dX4_missing_48 : decode cX4_missing 48 = .ok (.iconst 0, 1) := by decide +kernel
theorem dX4_missing_49 : decode cX4_missing 49 = .ok (.ireturn, 1) := by decide +kernel
theorem dX4_missing_50 : decode cX4_missing 50 = .ok (.aload_n 0, 1) := by decide +kernel
theorem dX4_missing_51 : decode cX4_missing 51 = .ok (.getfield 16, 3) := by decide +kernel
theorem dX4_missing_54 : decode cX4_missing 54 = .ok (.iconst 4, 1) := by decide +kernel
theorem dX4_missing_55 : decode cX4_missing 55 = .ok (.iload_n 1, 1) := by decide +kernel
theorem dX4_missing_56 : decode cX4_missing 56 = .ok (.imul, 1) := by decide +kernel
theorem dX4_missing_57 : decode cX4_missing 57 = .ok (.iload_n 2, 1) := by decide +kernel
theorem dX4_missing_58 : decode cX4_missing 58 = .ok (.iadd, 1) := by decide +kernel
theorem dX4_missing_59 : decode cX4_missing 59 = .ok (.iload_n 3, 1) := by decide +kernel
theorem dX4_missing_60 : decode cX4_missing 60 = .ok (.iastore, 1) := by decide +kernel
theorem dX4_missing_61 : decode cX4_missing 61 = .ok (.aload_n 0, 1) := by decide +kernel
theorem dX4_missing_62 : decode cX4_missing 62 = .ok (.getfield 20, 3) := by decide +kernel
theorem dX4_missing_65 : decode cX4_missing 65 = .ok (.iconst 4, 1) := by decide +kernel
theorem dX4_missing_66 : decode cX4_missing 66 = .ok (.iload_n 1, 1) := by decide +kernel
theorem dX4_missing_67 : decode cX4_missing 67 = .ok (.imul, 1) := by decide +kernel
theorem dX4_missing_68 : decode cX4_missing 68 = .ok (.iload_n 2, 1) := by decide +kernel
theorem dX4_missing_69 : decode cX4_missing 69 = .ok (.iadd, 1) := by decide +kernel
theorem dX4_missing_70 : decode cX4_missing 70 = .ok (.iload 4, 2) := by decide +kernel
theorem dX4_missing_72 : decode cX4_missing 72 = .ok (.iastore, 1) := by decide +kernel
theorem dX4_missing_73 : decode cX4_missing 73 = .ok (.iconst 1, 1) := by decide +kernel
theorem dX4_missing_74 : decode cX4_missing 74 = .ok (.ireturn, 1) := by decide +kernel
set_option maxRecDepth 20000 in
theorem ggX4_at_X4_isWork : GoodIn wsX4_at wsX4_isWork := goodIn_r _ [8, 9, 19, 20, 21, 22, 23, 24, 25, 26, 27, 28, 29, 30, 31, 32, 33, 34, 35, 36, 37, 38, 39, 40] rfl (by decide +kernel)
set_option maxRecDepth 20000 in
theorem gX4_at_X4_isWork : GoodIn wsX4_at (wsV RX4 60 RX4 yX4_isWork wsX4_isWork) := goodIn_app (goodIn_c (List.mem_of_getElem? (i := 4) rfl) rfl (goodIn_c (List.mem_of_getElem? (i := 5) rfl) rfl (goodIn_c (List.mem_of_getElem? (i := 6) rfl) rfl (goodIn_c (List.mem_of_getElem? (i := 7) rfl) rfl (goodIn_nil))))) ggX4_at_X4_isWork
set_option maxRecDepth 20000 in
theorem ggX4_at_X4_things : GoodIn wsX4_at wsX4_things := goodIn_r _ [13, 14, 15, 19, 20, 21, 22, 23, 24, 25, 26, 27, 28, 29, 30, 31, 32, 33, 34, 35, 36, 37, 38, 39, 40] rfl (by decide +kernel)
set_option maxRecDepth 20000 in
theorem gX4_at_X4_things : GoodIn wsX4_at (wsV RX4 56 RX4 yX4_things wsX4_things) := goodIn_app (goodIn_c (List.mem_of_getElem? (i := 10) rfl) rfl (goodIn_c (List.mem_of_getElem? (i := 11) rfl) rfl (goodIn_c (List.mem_of_getElem? (i := 12) rfl) rfl (goodIn_c (List.mem_of_getElem? (i := 7) rfl) rfl (goodIn_nil))))) ggX4_at_X4_things
set_option maxRecDepth 20000 in
theorem ggX4_at_X4_isIn : GoodIn wsX4_at wsX4_isIn := goodIn_r _ [18] rfl (by decide +kernel)
set_option maxRecDepth 20000 in
theorem gX4_at_X4_isIn : GoodIn wsX4_at (va_wsS RX4 52 yX4_isIn wsX4_isIn) := goodIn_app (goodIn_c (List.mem_of_getElem? (i := 16) rfl) rfl (goodIn_c (List.mem_of_getElem? (i := 17) rfl) rfl (goodIn_c (List.mem_of_getElem? (i := 7) rfl) rfl (goodIn_nil)))) ggX4_at_X4_isIn
theorem dX4_at_0 : decode cX4_at 0 = .ok (.aload_n 0, 1) := by decide +kernel
theorem dX4_at_1 : decode cX4_at 1 = .ok (.iconst 0, 1) := by decide +kernel
theorem dX4_at_2 : decode cX4_at 2 = .ok (.putfield 46, 3) := by decide +kernel
theorem dX4_at_5 : decode cX4_at 5 = .ok (.aload_n 0, 1) := by decide +kernel
theorem dX4_at_6 : decode cX4_at 6 = .ok (.iload_n 1, 1) := by decide +kernel
theorem dX4_at_7 : decode cX4_at 7 = .ok (.invokevirtual 60, 3) := by decide +kernel
theorem dX4_at_10 : decode cX4_at 10 = .ok (.ifCond .eq 26, 3) := by decide +kernel
theorem dX4_at_13 : decode cX4_at 13 = .ok (.iload_n 2, 1) := by decide +kernel
theorem dX4_at_14 : decode cX4_at 14 = .ok (.iconst 0, 1) := by decide +kernel
theorem dX4_at_15 : decode cX4_at 15 = .ok (.aload_n 0, 1) := by decide +kernel
theorem dX4_at_16 : decode cX4_at 16 = .ok (.invokevirtual 56, 3) := by decide +kernel
theorem dX4_at_19 : decode cX4_at 19 = .ok (.iconst 1, 1) := by decide +kernel
theorem dX4_at_20 : decode cX4_at 20 = .ok (.isub, 1) := by decide +kernel
theorem dX4_at_21 : decode cX4_at 21 = .ok (.invokestatic 52, 3) := by decide +kernel
theorem dX4_at_24 : decode cX4_at 24 = .ok (.ifCond .eq 12, 3) := by decide +kernel
theorem dX4_at_27 : decode cX4_at 27 = .ok (.iload_n 3, 1) := by decide +kernel
theorem dX4_at_28 : decode cX4_at 28 = .ok (.iconst 0, 1) := by decide +kernel
theorem dX4_at_29 : decode cX4_at 29 = .ok (.iconst 1, 1) := by decide +kernel
theorem dX4_at_30 : decode cX4_at 30 = .ok (.invokestatic 52, 3) := by decide +kernel
theorem dX4_at_33 : decode cX4_at 33 = .ok (.ifCond .ne 5, 3) := by decide +kernel
theorem dX4_at_36 : decode cX4_at 36 = .ok (.iconst (-1), 1) := by decide +kernel
theorem dX4_at_37 : decode cX4_at 37 = .ok (.ireturn, 1) := by decide +kernel
theorem dX4_at_38 : decode cX4_at 38 = .ok (.iload_n 3, 1) := by decide +kernel
theorem dX4_at_39 : decode cX4_at 39 = .ok (.ifCond .ne 16, 3) := by decide +kernel
theorem dX4_at_42 : decode cX4_at 42 = .ok (.aload_n 0, 1) := by decide +kernel
theorem dX4_at_43 : decode cX4_at 43 = .ok (.getfield 16, 3) := by decide +kernel
theorem dX4_at_46 : decode cX4_at 46 = .ok (.iconst 4, 1) := by decide +kernel
theorem dX4_at_47 : decode cX4_at 47 = .ok (.iload_n 1, 1) := by decide +kernel
theorem dX4_at_48 : decode cX4_at 48 = .ok (.imul, 1) := by decide +kernel
theorem dX4_at_49 : decode cX4_at 49 = .ok (.iload_n 2, 1) := by decide +kernel
theorem dX4_at_50 : decode cX4_at 50 = .ok (.iadd, 1) := by decide +kernel
theorem dX4_at_51 : decode cX4_at 51 = .ok (.iaload, 1) := by decide +kernel
theorem dX4_at_52 : decode cX4_at 52 = .ok (.goto 13, 3) := by decide +kernel
theorem dX4_at_55 : decode cX4_at 55 = .ok (.aload_n 0, 1) := by decide +kernel
theorem dX4_at_56 : decode cX4_at 56 = .ok (.getfield 20, 3) := by decide +kernel
theorem dX4_at_59 : decode cX4_at 59 = .ok (.iconst 4, 1) := by decide +kernel
theorem dX4_at_60 : decode cX4_at 60 = .ok (.iload_n 1, 1) := by decide +kernel
theorem dX4_at_61 : decode cX4_at 61 = .ok (.imul, 1) := by decide +kernel
theorem dX4_at_62 : decode cX4_at 62 = .ok (.iload_n 2, 1) := by decide +kernel
theorem dX4_at_63 : decode cX4_at 63 = .ok (.iadd, 1) := by decide +kernel
theorem dX4_at_64 : decode cX4_at 64 = .ok (.iaload, 1) := by decide +kernel
theorem dX4_at_65 : decode cX4_at 65 = .ok (.ireturn, 1) := by decide +kernel
set_option maxRecDepth 20000 in
theorem ggX4_plain_X4_things : GoodIn wsX4_plain wsX4_things := goodIn_r _ [15, 1, 3, 16, 17, 18, 19, 20, 21, 22, 23, 24, 25, 26, 27, 28, 29, 30, 31, 32, 33, 34, 35, 36, 37] rfl (by decide +kernel)
set_option maxRecDepth 20000 in
theorem gX4_plain_X4_things : GoodIn wsX4_plain (wsV RX4 56 RX4 yX4_things wsX4_things) := goodIn_app (goodIn_c (List.mem_of_getElem? (i := 11) rfl) rfl (goodIn_c (List.mem_of_getElem? (i := 12) rfl) rfl (goodIn_c (List.mem_of_getElem? (i := 13) rfl) rfl (goodIn_c (List.mem_of_getElem? (i := 14) rfl) rfl (goodIn_nil))))) ggX4_plain_X4_things
theorem dX4_plain_0 : decode cX4_plain 0 = .ok (.aload_n 0, 1) := by decide +kernel
theorem dX4_plain_1 : decode cX4_plain 1 = .ok (.aload_n 0, 1) := by decide +kernel
theorem dX4_plain_2 : decode cX4_plain 2 = .ok (.getfield 9, 3) := by decide +kernel
theorem dX4_plain_5 : decode cX4_plain 5 = .ok (.putfield 64, 3) := by decide +kernel
theorem dX4_plain_8 : decode cX4_plain 8 = .ok (.aload_n 0, 1) := by decide +kernel
theorem dX4_plain_9 : decode cX4_plain 9 = .ok (.aload_n 0, 1) := by decide +kernel
theorem dX4_plain_10 : decode cX4_plain 10 = .ok (.getfield 13, 3) := by decide +kernel
theorem dX4_plain_13 : decode cX4_plain 13 = .ok (.putfield 67, 3) := by decide +kernel
theorem dX4_plain_16 : decode cX4_plain 16 = .ok (.iconst 0, 1) := by decide +kernel
theorem dX4_plain_17 : decode cX4_plain 17 = .ok (.istore_n 1, 1) := by decide +kernel
theorem dX4_plain_18 : decode cX4_plain 18 = .ok (.iload_n 1, 1) := by decide +kernel
theorem dX4_plain_19 : decode cX4_plain 19 = .ok (.aload_n 0, 1) := by decide +kernel
theorem dX4_plain_20 : decode cX4_plain 20 = .ok (.getfield 49, 3) := by decide +kernel
theorem dX4_plain_23 : decode cX4_plain 23 = .ok (.if_icmp .ge 78, 3) := by decide +kernel
theorem dX4_plain_26 : decode cX4_plain 26 = .ok (.aload_n 0, 1) := by decide +kernel
theorem dX4_plain_27 : decode cX4_plain 27 = .ok (.getfield 30, 3) := by decide +kernel
theorem dX4_plain_30 : decode cX4_plain 30 = .ok (.iload_n 1, 1) := by decide +kernel
theorem dX4_plain_31 : decode cX4_plain 31 = .ok (.aload_n 0, 1) := by decide +kernel
theorem dX4_plain_32 : decode cX4_plain 32 = .ok (.getfield 23, 3) := by decide +kernel
theorem dX4_plain_35 : decode cX4_plain 35 = .ok (.iload_n 1, 1) := by decide +kernel
theorem dX4_plain_36 : decode cX4_plain 36 = .ok (.baload, 1) := by decide +kernel
theorem dX4_plain_37 : decode cX4_plain 37 = .ok (.bastore, 1) := by decide +kernel
theorem dX4_plain_38 : decode cX4_plain 38 = .ok (.iconst 0, 1) := by decide +kernel
theorem dX4_plain_39 : decode cX4_plain 39 = .ok (.istore_n 2, 1) := by decide +kernel
theorem dX4_plain_40 : decode cX4_plain 40 = .ok (.iload_n 2, 1) := by decide +kernel
theorem dX4_plain_41 : decode cX4_plain 41 = .ok (.aload_n 0, 1) := by decide +kernel
theorem dX4_plain_42 : decode cX4_plain 42 = .ok (.invokevirtual 56, 3) := by decide +kernel
theorem dX4_plain_45 : decode cX4_plain 45 = .ok (.if_icmp .ge 50, 3) := by decide +kernel
theorem dX4_plain_48 : decode cX4_plain 48 = .ok (.aload_n 0, 1) := by decide +kernel
theorem dX4_plain_49 : decode cX4_plain 49 = .ok (.getfield 27, 3) := by decide +kernel
theorem dX4_plain_52 : decode cX4_plain 52 = .ok (.iconst 4, 1) := by decide +kernel
theorem dX4_plain_53 : decode cX4_plain 53 = .ok (.iload_n 1, 1) := by decide +kernel
theorem dX4_plain_54 : decode cX4_plain 54 = .ok (.imul, 1) := by decide +kernel
theorem dX4_plain_55 : decode cX4_plain 55 = .ok (.iload_n 2, 1) := by decide +kernel
theorem dX4_plain_56 : decode cX4_plain 56 = .ok (.iadd, 1) := by decide +kernel
theorem dX4_plain_57 : decode cX4_plain 57 = .ok (.iload_n 2, 1) := by decide +kernel
theorem dX4_plain_58 : decode cX4_plain 58 = .ok (.aload_n 0, 1) := by decide +kernel
theorem dX4_plain_59 : decode cX4_plain 59 = .ok (.getfield 9, 3) := by decide +kernel
theorem dX4_plain_62 : decode cX4_plain 62 = .ok (.if_icmp .ge 16, 3) := by decide +kernel
theorem dX4_plain_65 : decode cX4_plain 65 = .ok (.aload_n 0, 1) := by decide +kernel
theorem dX4_plain_66 : decode cX4_plain 66 = .ok (.getfield 16, 3) := by decide +kernel
theorem dX4_plain_69 : decode cX4_plain 69 = .ok (.iconst 4, 1) := by decide +kernel
theorem dX4_plain_70 : decode cX4_plain 70 = .ok (.iload_n 1, 1) := by decide +kernel
theorem dX4_plain_71 : decode cX4_plain 71 = .ok (.imul, 1) := by decide +kernel
theorem dX4_plain_72 : decode cX4_plain 72 = .ok (.iload_n 2, 1) := by decide +kernel
theorem dX4_plain_73 : decode cX4_plain 73 = .ok (.iadd, 1) := by decide +kernel
theorem dX4_plain_74 : decode cX4_plain 74 = .ok (.iaload, 1) := by decide +kernel
theorem dX4_plain_75 : decode cX4_plain 75 = .ok (.goto 13, 3) := by decide +kernel
theorem dX4_plain_78 : decode cX4_plain 78 = .ok (.aload_n 0, 1) := by decide +kernel
theorem dX4_plain_79 : decode cX4_plain 79 = .ok (.getfield 20, 3) := by decide +kernel
theorem dX4_plain_82 : decode cX4_plain 82 = .ok (.iconst 4, 1) := by decide +kernel
theorem dX4_plain_83 : decode cX4_plain 83 = .ok (.iload_n 1, 1) := by decide +kernel
theorem dX4_plain_84 : decode cX4_plain 84 = .ok (.imul, 1) := by decide +kernel
theorem dX4_plain_85 : decode cX4_plain 85 = .ok (.iload_n 2, 1) := by decide +kernel
theorem dX4_plain_86 : decode cX4_plain 86 = .ok (.iadd, 1) := by decide +kernel
theorem dX4_plain_87 : decode cX4_plain 87 = .ok (.iaload, 1) := by decide +kernel
theorem dX4_plain_88 : decode cX4_plain 88 = .ok (.iastore, 1) := by decide +kernel
theorem dX4_plain_89 : decode cX4_plain 89 = .ok (.iinc 2 1, 3) := by decide +kernel
theorem dX4_plain_92 : decode cX4_plain 92 = .ok (.goto (-52), 3) := by decide +kernel
theorem dX4_plain_95 : decode cX4_plain 95 = .ok (.iinc 1 1, 3) := by decide +kernel
theorem dX4_plain_98 : decode cX4_plain 98 = .ok (.goto (-80), 3) := by decide +kernel
theorem dX4_plain_101 : decode cX4_plain 101 = .ok (.return_, 1) := by decide +kernel
theorem dX4_taken_0 : decode cX4_taken 0 = .ok (.iconst 0, 1) := by decide +kernel
theorem dX4_taken_1 : decode cX4_taken 1 = .ok (.istore_n 2, 1) := by decide +kernel
theorem dX4_taken_2 : decode cX4_taken 2 = .ok (.iconst 0, 1) := by decide +kernel
theorem dX4_taken_3 : decode cX4_taken 3 = .ok (.istore_n 3, 1) := by decide +kernel
theorem dX4_taken_4 : decode cX4_taken 4 = .ok (.iload_n 3, 1) := by decide +kernel
theorem dX4_taken_5 : decode cX4_taken 5 = .ok (.aload_n 0, 1) := by decide +kernel
theorem dX4_taken_6 : decode cX4_taken 6 = .ok (.getfield 64, 3) := by decide +kernel
theorem dX4_taken_9 : decode cX4_taken 9 = .ok (.if_icmp .ge 22, 3) := by decide +kernel
theorem dX4_taken_12 : decode cX4_taken 12 = .ok (.iload_n 2, 1) := by decide +kernel
theorem dX4_taken_13 : decode cX4_taken 13 = .ok (.aload_n 0, 1) := by decide +kernel
theorem dX4_taken_14 : decode cX4_taken 14 = .ok (.getfield 27, 3) := by decide +kernel
theorem dX4_taken_17 : decode cX4_taken 17 = .ok (.iconst 4, 1) := by decide +kernel
theorem dX4_taken_18 : decode cX4_taken 18 = .ok (.iload_n 1, 1) := by decide +kernel
theorem dX4_taken_19 : decode cX4_taken 19 = .ok (.imul, 1) := by decide +kernel
theorem dX4_taken_20 : decode cX4_taken 20 = .ok (.iload_n 3, 1) := by decide +kernel
theorem dX4_taken_21 : decode cX4_taken 21 = .ok (.iadd, 1) := by decide +kernel
theorem dX4_taken_22 : decode cX4_taken 22 = .ok (.iaload, 1) := by decide +kernel
theorem dX4_taken_23 : decode cX4_taken 23 = .ok (.iadd, 1) := by decide +kernel
theorem dX4_taken_24 : decode cX4_taken 24 = .ok (.istore_n 2, 1) := by decide +kernel
theorem dX4_taken_25 : decode cX4_taken 25 = .ok (.iinc 3 1, 3) := by decide +kernel
theorem dX4_taken_28 : decode cX4_taken 28 = .ok (.goto (-24), 3) := by decide +kernel
theorem dX4_taken_31 : decode cX4_taken 31 = .ok (.iload_n 2, 1) := by decide +kernel
theorem dX4_taken_32 : decode cX4_taken 32 = .ok (.ireturn, 1) := by decide +kernel
theorem dX4_given_0 : decode cX4_given 0 = .ok (.iconst 0, 1) := by decide +kernel
theorem dX4_given_1 : decode cX4_given 1 = .ok (.istore_n 2, 1) := by decide +kernel
theorem dX4_given_2 : decode cX4_given 2 = .ok (.aload_n 0, 1) := by decide +kernel
theorem dX4_given_3 : decode cX4_given 3 = .ok (.getfield 64, 3) := by decide +kernel
theorem dX4_given_6 : decode cX4_given 6 = .ok (.istore_n 3, 1) := by decide +kernel
theorem dX4_given_7 : decode cX4_given 7 = .ok (.iload_n 3, 1) := by decide +kernel
theorem dX4_given_8 : decode cX4_given 8 = .ok (.aload_n 0, 1) := by decide +kernel
theorem dX4_given_9 : decode cX4_given 9 = .ok (.getfield 64, 3) := by decide +kernel
theorem dX4_given_12 : decode cX4_given 12 = .ok (.aload_n 0, 1) := by decide +kernel
theorem dX4_given_13 : decode cX4_given 13 = .ok (.getfield 67, 3) := by decide +kernel
theorem dX4_given_16 : decode cX4_given 16 = .ok (.iadd, 1) := by decide +kernel
theorem dX4_given_17 : decode cX4_given 17 = .ok (.if_icmp .ge 22, 3) := by decide +kernel
theorem dX4_given_20 : decode cX4_given 20 = .ok (.iload_n 2, 1) := by decide +kernel
theorem dX4_given_21 : decode cX4_given 21 = .ok (.aload_n 0, 1) := by decide +kernel
theorem dX4_given_22 : decode cX4_given 22 = .ok (.getfield 27, 3) := by decide +kernel
theorem dX4_given_25 : decode cX4_given 25 = .ok (.iconst 4, 1) := by decide +kernel
theorem dX4_given_26 : decode cX4_given 26 = .ok (.iload_n 1, 1) := by decide +kernel
theorem dX4_given_27 : decode cX4_given 27 = .ok (.imul, 1) := by decide +kernel
theorem dX4_given_28 : decode cX4_given 28 = .ok (.iload_n 3, 1) := by decide +kernel
theorem dX4_given_29 : decode cX4_given 29 = .ok (.iadd, 1) := by decide +kernel
theorem dX4_given_30 : decode cX4_given 30 = .ok (.iaload, 1) := by decide +kernel
theorem dX4_given_31 : decode cX4_given 31 = .ok (.iadd, 1) := by decide +kernel
theorem dX4_given_32 : decode cX4_given 32 = .ok (.istore_n 2, 1) := by decide +kernel
theorem dX4_given_33 : decode cX4_given 33 = .ok (.iinc 3 1, 3) := by decide +kernel
theorem dX4_given_36 : decode cX4_given 36 = .ok (.goto (-29), 3) := by decide +kernel
theorem dX4_given_39 : decode cX4_given 39 = .ok (.iload_n 2, 1) := by decide +kernel
theorem dX4_given_40 : decode cX4_given 40 = .ok (.ireturn, 1) := by decide +kernel
theorem dX4_bounds_0 : decode cX4_bounds 0 = .ok (.aload_n 0, 1) := by decide +kernel
theorem dX4_bounds_1 : decode cX4_bounds 1 = .ok (.getfield 64, 3) := by decide +kernel
theorem dX4_bounds_4 : decode cX4_bounds 4 = .ok (.aload_n 0, 1) := by decide +kernel
theorem dX4_bounds_5 : decode cX4_bounds 5 = .ok (.getfield 67, 3) := by decide +kernel
theorem dX4_bounds_8 : decode cX4_bounds 8 = .ok (.iadd, 1) := by decide +kernel
theorem dX4_bounds_9 : decode cX4_bounds 9 = .ok (.istore_n 2, 1) := by decide +kernel
theorem dX4_bounds_10 : decode cX4_bounds 10 = .ok (.aload_n 0, 1) := by decide +kernel
theorem dX4_bounds_11 : decode cX4_bounds 11 = .ok (.iload_n 1, 1) := by decide +kernel
theorem dX4_bounds_12 : decode cX4_bounds 12 = .ok (.ifCond .ne 7, 3) := by decide +kernel
theorem dX4_bounds_15 : decode cX4_bounds 15 = .ok (.iload_n 2, 1) := by decide +kernel
theorem dX4_bounds_16 : decode cX4_bounds 16 = .ok (.goto 6, 3) := by decide +kernel
theorem dX4_bounds_19 : decode cX4_bounds 19 = .ok (.iload_n 2, 1) := by decide +kernel
theorem dX4_bounds_20 : decode cX4_bounds 20 = .ok (.iconst 1, 1) := by decide +kernel
theorem dX4_bounds_21 : decode cX4_bounds 21 = .ok (.iadd, 1) := by decide +kernel
theorem dX4_bounds_22 : decode cX4_bounds 22 = .ok (.putfield 70, 3) := by decide +kernel
theorem dX4_bounds_25 : decode cX4_bounds 25 = .ok (.aload_n 0, 1) := by decide +kernel
theorem dX4_bounds_26 : decode cX4_bounds 26 = .ok (.iconst 0, 1) := by decide +kernel
theorem dX4_bounds_27 : decode cX4_bounds 27 = .ok (.putfield 73, 3) := by decide +kernel
theorem dX4_bounds_30 : decode cX4_bounds 30 = .ok (.iconst 0, 1) := by decide +kernel
theorem dX4_bounds_31 : decode cX4_bounds 31 = .ok (.istore_n 3, 1) := by decide +kernel
theorem dX4_bounds_32 : decode cX4_bounds 32 = .ok (.iload_n 3, 1) := by decide +kernel
theorem dX4_bounds_33 : decode cX4_bounds 33 = .ok (.aload_n 0, 1) := by decide +kernel
theorem dX4_bounds_34 : decode cX4_bounds 34 = .ok (.getfield 49, 3) := by decide +kernel
theorem dX4_bounds_37 : decode cX4_bounds 37 = .ok (.if_icmp .ge 121, 3) := by decide +kernel
theorem dX4_bounds_40 : decode cX4_bounds 40 = .ok (.aload_n 0, 1) := by decide +kernel
theorem dX4_bounds_41 : decode cX4_bounds 41 = .ok (.getfield 30, 3) := by decide +kernel
theorem dX4_bounds_44 : decode cX4_bounds 44 = .ok (.iload_n 3, 1) := by decide +kernel
theorem dX4_bounds_45 : decode cX4_bounds 45 = .ok (.baload, 1) := by decide +kernel
theorem dX4_bounds_46 : decode cX4_bounds 46 = .ok (.ifCond .ne 6, 3) := by decide +kernel
theorem dX4_bounds_49 : decode cX4_bounds 49 = .ok (.goto 103, 3) := by decide +kernel
theorem dX4_bounds_52 : decode cX4_bounds 52 = .ok (.iconst 0, 1) := by decide +kernel
theorem dX4_bounds_53 : decode cX4_bounds 53 = .ok (.istore 4, 2) := by decide +kernel
theorem dX4_bounds_55 : decode cX4_bounds 55 = .ok (.iload 4, 2) := by decide +kernel
theorem dX4_bounds_57 : decode cX4_bounds 57 = .ok (.iload_n 2, 1) := by decide +kernel
theorem dX4_bounds_58 : decode cX4_bounds 58 = .ok (.if_icmp .ge 60, 3) := by decide +kernel
theorem dX4_bounds_61 : decode cX4_bounds 61 = .ok (.aload_n 0, 1) := by decide +kernel
theorem dX4_bounds_62 : decode cX4_bounds 62 = .ok (.getfield 37, 3) := by decide +kernel
theorem dX4_bounds_65 : decode cX4_bounds 65 = .ok (.iconst 5, 1) := by decide +kernel
theorem dX4_bounds_66 : decode cX4_bounds 66 = .ok (.aload_n 0, 1) := by decide +kernel
theorem dX4_bounds_67 : decode cX4_bounds 67 = .ok (.getfield 73, 3) := by decide +kernel
theorem dX4_bounds_70 : decode cX4_bounds 70 = .ok (.imul, 1) := by decide +kernel
theorem dX4_bounds_71 : decode cX4_bounds 71 = .ok (.iload 4, 2) := by decide +kernel
theorem dX4_bounds_73 : decode cX4_bounds 73 = .ok (.iadd, 1) := by decide +kernel
theorem dX4_bounds_74 : decode cX4_bounds 74 = .ok (.iload 4, 2) := by decide +kernel
theorem dX4_bounds_76 : decode cX4_bounds 76 = .ok (.aload_n 0, 1) := by decide +kernel
theorem dX4_bounds_77 : decode cX4_bounds 77 = .ok (.getfield 64, 3) := by decide +kernel
theorem dX4_bounds_80 : decode cX4_bounds 80 = .ok (.if_icmp .ge 18, 3) := by decide +kernel
theorem dX4_bounds_83 : decode cX4_bounds 83 = .ok (.aload_n 0, 1) := by decide +kernel
theorem dX4_bounds_84 : decode cX4_bounds 84 = .ok (.getfield 27, 3) := by decide +kernel
theorem dX4_bounds_87 : decode cX4_bounds 87 = .ok (.iconst 4, 1) := by decide +kernel
theorem dX4_bounds_88 : decode cX4_bounds 88 = .ok (.iload_n 3, 1) := by decide +kernel
theorem dX4_bounds_89 : decode cX4_bounds 89 = .ok (.imul, 1) := by decide +kernel
theorem dX4_bounds_90 : decode cX4_bounds 90 = .ok (.iload 4, 2) := by decide +kernel
theorem dX4_bounds_92 : decode cX4_bounds 92 = .ok (.iadd, 1) := by decide +kernel
theorem dX4_bounds_93 : decode cX4_bounds 93 = .ok (.iaload, 1) := by decide +kernel
theorem dX4_bounds_94 : decode cX4_bounds 94 = .ok (.i2l, 1) := by decide +kernel
theorem dX4_bounds_95 : decode cX4_bounds 95 = .ok (.goto 16, 3) := by decide +kernel
theorem dX4_bounds_98 : decode cX4_bounds 98 = .ok (.aload_n 0, 1) := by decide +kernel
theorem dX4_bounds_99 : decode cX4_bounds 99 = .ok (.getfield 27, 3) := by decide +kernel
theorem dX4_bounds_102 : decode cX4_bounds 102 = .ok (.iconst 4, 1) := by decide +kernel
theorem dX4_bounds_103 : decode cX4_bounds 103 = .ok (.iload_n 3, 1) := by decide +kernel
theorem dX4_bounds_104 : decode cX4_bounds 104 = .ok (.imul, 1) := by decide +kernel
theorem dX4_bounds_105 : decode cX4_bounds 105 = .ok (.iload 4, 2) := by decide +kernel
theorem dX4_bounds_107 : decode cX4_bounds 107 = .ok (.iadd, 1) := by decide +kernel
theorem dX4_bounds_108 : decode cX4_bounds 108 = .ok (.iaload, 1) := by decide +kernel
theorem dX4_bounds_109 : decode cX4_bounds 109 = .ok (.ineg, 1) := by decide +kernel
theorem dX4_bounds_110 : decode cX4_bounds 110 = .ok (.i2l, 1) := by decide +kernel
theorem dX4_bounds_111 : decode cX4_bounds 111 = .ok (.lastore, 1) := by decide +kernel
theorem dX4_bounds_112 : decode cX4_bounds 112 = .ok (.iinc 4 1, 3) := by decide +kernel
theorem dX4_bounds_115 : decode cX4_bounds 115 = .ok (.goto (-60), 3) := by decide +kernel
theorem dX4_bounds_118 : decode cX4_bounds 118 = .ok (.aload_n 0, 1) := by decide +kernel
theorem dX4_bounds_119 : decode cX4_bounds 119 = .ok (.getfield 70, 3) := by decide +kernel
theorem dX4_bounds_122 : decode cX4_bounds 122 = .ok (.iload_n 2, 1) := by decide +kernel
theorem dX4_bounds_123 : decode cX4_bounds 123 = .ok (.if_icmp .le 19, 3) := by decide +kernel
theorem dX4_bounds_126 : decode cX4_bounds 126 = .ok (.aload_n 0, 1) := by decide +kernel
theorem dX4_bounds_127 : decode cX4_bounds 127 = .ok (.getfield 37, 3) := by decide +kernel
theorem dX4_bounds_130 : decode cX4_bounds 130 = .ok (.iconst 5, 1) := by decide +kernel
theorem dX4_bounds_131 : decode cX4_bounds 131 = .ok (.aload_n 0, 1) := by decide +kernel
theorem dX4_bounds_132 : decode cX4_bounds 132 = .ok (.getfield 73, 3) := by decide +kernel
theorem dX4_bounds_135 : decode cX4_bounds 135 = .ok (.imul, 1) := by decide +kernel
theorem dX4_bounds_136 : decode cX4_bounds 136 = .ok (.iload_n 2, 1) := by decide +kernel
theorem dX4_bounds_137 : decode cX4_bounds 137 = .ok (.iadd, 1) := by decide +kernel
theorem dX4_bounds_138 : decode cX4_bounds 138 = .ok (.ldc2_w 76, 3) := by decide +kernel
theorem dX4_bounds_141 : decode cX4_bounds 141 = .ok (.lastore, 1) := by decide +kernel
theorem dX4_bounds_142 : decode cX4_bounds 142 = .ok (.aload_n 0, 1) := by decide +kernel
theorem dX4_bounds_143 : decode cX4_bounds 143 = .ok (.dup, 1) := by decide +kernel
theorem dX4_bounds_144 : decode cX4_bounds 144 = .ok (.getfield 73, 3) := by decide +kernel
theorem dX4_bounds_147 : decode cX4_bounds 147 = .ok (.iconst 1, 1) := by decide +kernel
theorem dX4_bounds_148 : decode cX4_bounds 148 = .ok (.iadd, 1) := by decide +kernel
theorem dX4_bounds_149 : decode cX4_bounds 149 = .ok (.putfield 73, 3) := by decide +kernel
theorem dX4_bounds_152 : decode cX4_bounds 152 = .ok (.iinc 3 1, 3) := by decide +kernel
theorem dX4_bounds_155 : decode cX4_bounds 155 = .ok (.goto (-123), 3) := by decide +kernel
theorem dX4_bounds_158 : decode cX4_bounds 158 = .ok (.iconst 0, 1) := by decide +kernel
theorem dX4_bounds_159 : decode cX4_bounds 159 = .ok (.istore_n 3, 1) := by decide +kernel
theorem dX4_bounds_160 : decode cX4_bounds 160 = .ok (.iload_n 3, 1) := by decide +kernel
theorem dX4_bounds_161 : decode cX4_bounds 161 = .ok (.iload_n 2, 1) := by decide +kernel
theorem dX4_bounds_162 : decode cX4_bounds 162 = .ok (.iload_n 1, 1) := by decide +kernel
theorem dX4_bounds_163 : decode cX4_bounds 163 = .ok (.iconst 1, 1) := by decide +kernel
theorem dX4_bounds_164 : decode cX4_bounds 164 = .ok (.if_icmp .ne 7, 3) := by decide +kernel
theorem dX4_bounds_167 : decode cX4_bounds 167 = .ok (.iconst 1, 1) := by decide +kernel
theorem dX4_bounds_168 : decode cX4_bounds 168 = .ok (.goto 4, 3) := by decide +kernel
theorem dX4_bounds_171 : decode cX4_bounds 171 = .ok (.iconst 0, 1) := by decide +kernel
theorem dX4_bounds_172 : decode cX4_bounds 172 = .ok (.iadd, 1) := by decide +kernel
theorem dX4_bounds_173 : decode cX4_bounds 173 = .ok (.if_icmp .ge 73, 3) := by decide +kernel
theorem dX4_bounds_176 : decode cX4_bounds 176 = .ok (.iconst 0, 1) := by decide +kernel
theorem dX4_bounds_177 : decode cX4_bounds 177 = .ok (.istore 4, 2) := by decide +kernel
theorem dX4_bounds_179 : decode cX4_bounds 179 = .ok (.iload 4, 2) := by decide +kernel
theorem dX4_bounds_181 : decode cX4_bounds 181 = .ok (.aload_n 0, 1) := by decide +kernel
theorem dX4_bounds_182 : decode cX4_bounds 182 = .ok (.getfield 70, 3) := by decide +kernel
theorem dX4_bounds_185 : decode cX4_bounds 185 = .ok (.if_icmp .ge 45, 3) := by decide +kernel
theorem dX4_bounds_188 : decode cX4_bounds 188 = .ok (.aload_n 0, 1) := by decide +kernel
theorem dX4_bounds_189 : decode cX4_bounds 189 = .ok (.getfield 37, 3) := by decide +kernel
theorem dX4_bounds_192 : decode cX4_bounds 192 = .ok (.iconst 5, 1) := by decide +kernel
theorem dX4_bounds_193 : decode cX4_bounds 193 = .ok (.aload_n 0, 1) := by decide +kernel
theorem dX4_bounds_194 : decode cX4_bounds 194 = .ok (.getfield 73, 3) := by decide +kernel
theorem dX4_bounds_197 : decode cX4_bounds 197 = .ok (.imul, 1) := by decide +kernel
theorem dX4_bounds_198 : decode cX4_bounds 198 = .ok (.iload 4, 2) := by decide +kernel
theorem dX4_bounds_200 : decode cX4_bounds 200 = .ok (.iadd, 1) := by decide +kernel
theorem dX4_bounds_201 : decode cX4_bounds 201 = .ok (.iload 4, 2) := by decide +kernel
theorem dX4_bounds_203 : decode cX4_bounds 203 = .ok (.iload_n 3, 1) := by decide +kernel
theorem dX4_bounds_204 : decode cX4_bounds 204 = .ok (.if_icmp .eq 7, 3) := by decide +kernel
theorem dX4_bounds_207 : decode cX4_bounds 207 = .ok (.lconst 0, 1) := by decide +kernel
theorem dX4_bounds_208 : decode cX4_bounds 208 = .ok (.goto 15, 3) := by decide +kernel
theorem dX4_bounds_211 : decode cX4_bounds 211 = .ok (.iload_n 3, 1) := by decide +kernel
theorem dX4_bounds_212 : decode cX4_bounds 212 = .ok (.iload_n 2, 1) := by decide +kernel
theorem dX4_bounds_213 : decode cX4_bounds 213 = .ok (.if_icmp .ge 7, 3) := by decide +kernel
theorem dX4_bounds_216 : decode cX4_bounds 216 = .ok (.lconst 1, 1) := by decide +kernel
theorem dX4_bounds_217 : decode cX4_bounds 217 = .ok (.goto 6, 3) := by decide +kernel
theorem dX4_bounds_220 : decode cX4_bounds 220 = .ok (.ldc2_w 76, 3) := by decide +kernel
theorem dX4_bounds_223 : decode cX4_bounds 223 = .ok (.lastore, 1) := by decide +kernel
theorem dX4_bounds_224 : decode cX4_bounds 224 = .ok (.iinc 4 1, 3) := by decide +kernel
theorem dX4_bounds_227 : decode cX4_bounds 227 = .ok (.goto (-48), 3) := by decide +kernel
theorem dX4_bounds_230 : decode cX4_bounds 230 = .ok (.aload_n 0, 1) := by decide +kernel
theorem dX4_bounds_231 : decode cX4_bounds 231 = .ok (.dup, 1) := by decide +kernel
theorem dX4_bounds_232 : decode cX4_bounds 232 = .ok (.getfield 73, 3) := by decide +kernel
theorem dX4_bounds_235 : decode cX4_bounds 235 = .ok (.iconst 1, 1) := by decide +kernel
theorem dX4_bounds_236 : decode cX4_bounds 236 = .ok (.iadd, 1) := by decide +kernel
theorem dX4_bounds_237 : decode cX4_bounds 237 = .ok (.putfield 73, 3) := by decide +kernel
theorem dX4_bounds_240 : decode cX4_bounds 240 = .ok (.iinc 3 1, 3) := by decide +kernel
theorem dX4_bounds_243 : decode cX4_bounds 243 = .ok (.goto (-83), 3) := by decide +kernel
theorem dX4_bounds_246 : decode cX4_bounds 246 = .ok (.return_, 1) := by decide +kernel
set_option maxRecDepth 20000 in
theorem ggX4_allSides_X4_bounds : GoodIn wsX4_allSides wsX4_bounds := goodIn_r _ [6, 7, 8, 9, 10, 11, 12, 13, 14, 15, 50, 51, 52, 53, 54, 55, 56, 57, 58, 59, 60, 61, 62, 63, 64, 65, 66, 67, 68, 69, 70, 71] rfl (by decide +kernel)
set_option maxRecDepth 20000 in
theorem gX4_allSides_X4_bounds : GoodIn wsX4_allSides (wsV RX4 78 RX4 yX4_bounds wsX4_bounds) := goodIn_app (goodIn_c (List.mem_of_getElem? (i := 2) rfl) rfl (goodIn_c (List.mem_of_getElem? (i := 3) rfl) rfl (goodIn_c (List.mem_of_getElem? (i := 4) rfl) rfl (goodIn_c (List.mem_of_getElem? (i := 5) rfl) rfl (goodIn_nil))))) ggX4_allSides_X4_bounds
set_option maxRecDepth 20000 in
theorem ggX4_allSides_X4_choose : GoodIn wsX4_allSides wsX4_choose := goodIn_r _ [19, 9, 10, 20, 21, 22, 23, 5, 24, 25, 26, 27, 28, 29, 13, 30, 31, 32, 33, 34, 35, 36, 37, 38, 39, 40, 41, 42, 43, 44, 7, 8, 1, 45, 46, 47, 48, 49, 16, 17, 18, 50, 51, 52, 53, 54, 55, 56, 57, 58, 59, 60, 61, 62, 63, 64, 65, 66, 67, 68, 69, 70, 71] rfl (by decide +kernel)
set_option maxRecDepth 20000 in
theorem gX4_allSides_X4_choose : GoodIn wsX4_allSides (wsV RX4 84 RX4 yX4_choose wsX4_choose) := goodIn_app (goodIn_c (List.mem_of_getElem? (i := 16) rfl) rfl (goodIn_c (List.mem_of_getElem? (i := 17) rfl) rfl (goodIn_c (List.mem_of_getElem? (i := 18) rfl) rfl (goodIn_c (List.mem_of_getElem? (i := 5) rfl) rfl (goodIn_nil))))) ggX4_allSides_X4_choose
theorem dX4_allSides_0 : decode cX4_allSides 0 = .ok (.aload_n 0, 1) := by decide +kernel
theorem dX4_allSides_1 : decode cX4_allSides 1 = .ok (.iload_n 1, 1) := by decide +kernel
theorem dX4_allSides_2 : decode cX4_allSides 2 = .ok (.invokevirtual 78, 3) := by decide +kernel
theorem dX4_allSides_5 : decode cX4_allSides 5 = .ok (.aload_n 0, 1) := by decide +kernel
theorem dX4_allSides_6 : decode cX4_allSides 6 = .ok (.iconst 0, 1) := by decide +kernel
theorem dX4_allSides_7 : decode cX4_allSides 7 = .ok (.putfield 81, 3) := by decide +kernel
theorem dX4_allSides_10 : decode cX4_allSides 10 = .ok (.aload_n 0, 1) := by decide +kernel
theorem dX4_allSides_11 : decode cX4_allSides 11 = .ok (.iconst 0, 1) := by decide +kernel
theorem dX4_allSides_12 : decode cX4_allSides 12 = .ok (.iconst 0, 1) := by decide +kernel
theorem dX4_allSides_13 : decode cX4_allSides 13 = .ok (.invokevirtual 84, 3) := by decide +kernel
theorem dX4_allSides_16 : decode cX4_allSides 16 = .ok (.return_, 1) := by decide +kernel
set_option maxRecDepth 20000 in
theorem ggX4_choose_X4_tries : GoodIn wsX4_choose wsX4_tries := goodIn_r _ [8, 1, 9, 10, 11, 12, 7, 13, 14, 3, 15, 16, 17, 18, 19, 20, 21, 22, 23, 24, 25, 2, 26, 27, 28, 29, 30, 31, 32, 33, 34, 35, 36, 37, 41, 42, 43, 44, 45, 46, 47, 48, 49, 50, 51, 52, 53, 54, 55, 56, 57, 58, 59, 60, 61, 62] rfl (by decide +kernel)
set_option maxRecDepth 20000 in
theorem gX4_choose_X4_tries : GoodIn wsX4_choose (wsV RX4 88 RX4 yX4_tries wsX4_tries) := goodIn_app (goodIn_c (List.mem_of_getElem? (i := 4) rfl) rfl (goodIn_c (List.mem_of_getElem? (i := 5) rfl) rfl (goodIn_c (List.mem_of_getElem? (i := 6) rfl) rfl (goodIn_c (List.mem_of_getElem? (i := 7) rfl) rfl (goodIn_nil))))) ggX4_choose_X4_tries
set_option maxRecDepth 20000 in
theorem ggX4_choose_X4_choose : GoodIn wsX4_choose wsX4_choose := goodIn_r _ [0, 1, 2, 3, 4, 5, 6, 7, 8, 9, 10, 11, 12, 13, 14, 15, 16, 17, 18, 19, 20, 21, 22, 23, 24, 25, 26, 27, 28, 29, 30, 31, 32, 33, 34, 35, 36, 37, 38, 39, 40, 41, 42, 43, 44, 45, 46, 47, 48, 49, 50, 51, 52, 53, 54, 55, 56, 57, 58, 59, 60, 61, 62] rfl (by decide +kernel)
set_option maxRecDepth 20000 in
theorem gX4_choose_X4_choose : GoodIn wsX4_choose (wsV RX4 84 RX4 yX4_choose wsX4_choose) := goodIn_app (goodIn_c (List.mem_of_getElem? (i := 38) rfl) rfl (goodIn_c (List.mem_of_getElem? (i := 39) rfl) rfl (goodIn_c (List.mem_of_getElem? (i := 40) rfl) rfl (goodIn_c (List.mem_of_getElem? (i := 7) rfl) rfl (goodIn_nil))))) ggX4_choose_X4_choose
theorem dX4_choose_0 : decode cX4_choose 0 = .ok (.iload_n 1, 1) := by decide +kernel
theorem dX4_choose_1 : decode cX4_choose 1 = .ok (.aload_n 0, 1) := by decide +kernel
theorem dX4_choose_2 : decode cX4_choose 2 = .ok (.getfield 70, 3) := by decide +kernel
theorem dX4_choose_5 : decode cX4_choose 5 = .ok (.iconst 1, 1) := by decide +kernel
theorem dX4_choose_6 : decode cX4_choose 6 = .ok (.isub, 1) := by decide +kernel
theorem dX4_choose_7 : decode cX4_choose 7 = .ok (.if_icmp .ne 8, 3) := by decide +kernel
theorem dX4_choose_10 : decode cX4_choose 10 = .ok (.aload_n 0, 1) := by decide +kernel
theorem dX4_choose_11 : decode cX4_choose 11 = .ok (.invokevirtual 88, 3) := by decide +kernel
theorem dX4_choose_14 : decode cX4_choose 14 = .ok (.return_, 1) := by decide +kernel
theorem dX4_choose_15 : decode cX4_choose 15 = .ok (.iload_n 2, 1) := by decide +kernel
theorem dX4_choose_16 : decode cX4_choose 16 = .ok (.istore_n 3, 1) := by decide +kernel
theorem dX4_choose_17 : decode cX4_choose 17 = .ok (.iload_n 3, 1) := by decide +kernel
theorem dX4_choose_18 : decode cX4_choose 18 = .ok (.aload_n 0, 1) := by decide +kernel
theorem dX4_choose_19 : decode cX4_choose 19 = .ok (.getfield 73, 3) := by decide +kernel
theorem dX4_choose_22 : decode cX4_choose 22 = .ok (.if_icmp .ge 26, 3) := by decide +kernel
theorem dX4_choose_25 : decode cX4_choose 25 = .ok (.aload_n 0, 1) := by decide +kernel
theorem dX4_choose_26 : decode cX4_choose 26 = .ok (.getfield 43, 3) := by decide +kernel
theorem dX4_choose_29 : decode cX4_choose 29 = .ok (.iload_n 1, 1) := by decide +kernel
theorem dX4_choose_30 : decode cX4_choose 30 = .ok (.iload_n 3, 1) := by decide +kernel
theorem dX4_choose_31 : decode cX4_choose 31 = .ok (.iastore, 1) := by decide +kernel
theorem dX4_choose_32 : decode cX4_choose 32 = .ok (.aload_n 0, 1) := by decide +kernel
theorem dX4_choose_33 : decode cX4_choose 33 = .ok (.iload_n 1, 1) := by decide +kernel
theorem dX4_choose_34 : decode cX4_choose 34 = .ok (.iconst 1, 1) := by decide +kernel
theorem dX4_choose_35 : decode cX4_choose 35 = .ok (.iadd, 1) := by decide +kernel
theorem dX4_choose_36 : decode cX4_choose 36 = .ok (.iload_n 3, 1) := by decide +kernel
theorem dX4_choose_37 : decode cX4_choose 37 = .ok (.iconst 1, 1) := by decide +kernel
theorem dX4_choose_38 : decode cX4_choose 38 = .ok (.iadd, 1) := by decide +kernel
theorem dX4_choose_39 : decode cX4_choose 39 = .ok (.invokevirtual 84, 3) := by decide +kernel
theorem dX4_choose_42 : decode cX4_choose 42 = .ok (.iinc 3 1, 3) := by decide +kernel
theorem dX4_choose_45 : decode cX4_choose 45 = .ok (.goto (-28), 3) := by decide +kernel
theorem dX4_choose_48 : decode cX4_choose 48 = .ok (.return_, 1) := by decide +kernel
set_option maxRecDepth 20000 in
theorem ggX4_determinant_X4_determinant : GoodIn wsX4_determinant wsX4_determinant := goodIn_r _ [0, 1, 2, 3, 4, 5, 6, 7, 8, 9, 10, 11, 12, 13, 14, 15, 16, 17, 18, 19, 20, 21, 22, 23, 24, 25, 26, 27, 28, 29] rfl (by decide +kernel)
set_option maxRecDepth 20000 in
theorem gX4_determinant_X4_determinant : GoodIn wsX4_determinant (wsV RX4 91 RX4 yX4_determinant wsX4_determinant) := goodIn_app (goodIn_of _ (by decide +kernel)) ggX4_determinant_X4_determinant
theorem dX4_determinant_0 : decode cX4_determinant 0 = .ok (.iload_n 1, 1) := by decide +kernel
theorem dX4_determinant_1 : decode cX4_determinant 1 = .ok (.aload_n 0, 1) := by decide +kernel
theorem dX4_determinant_2 : decode cX4_determinant 2 = .ok (.getfield 70, 3) := by decide +kernel
theorem dX4_determinant_5 : decode cX4_determinant 5 = .ok (.iconst 1, 1) := by decide +kernel
theorem dX4_determinant_6 : decode cX4_determinant 6 = .ok (.isub, 1) := by decide +kernel
theorem dX4_determinant_7 : decode cX4_determinant 7 = .ok (.if_icmp .ne 5, 3) := by decide +kernel
theorem dX4_determinant_10 : decode cX4_determinant 10 = .ok (.lconst 1, 1) := by decide +kernel
theorem dX4_determinant_11 : decode cX4_determinant 11 = .ok (.lreturn, 1) := by decide +kernel
theorem dX4_determinant_12 : decode cX4_determinant 12 = .ok (.lconst 0, 1) := by decide +kernel
theorem dX4_determinant_13 : decode cX4_determinant 13 = .ok (.lstore_n 3, 1) := by decide +kernel
theorem dX4_determinant_14 : decode cX4_determinant 14 = .ok (.iconst 1, 1) := by decide +kernel
theorem dX4_determinant_15 : decode cX4_determinant 15 = .ok (.istore 5, 2) := by decide +kernel
theorem dX4_determinant_17 : decode cX4_determinant 17 = .ok (.iconst 0, 1) := by decide +kernel
theorem dX4_determinant_18 : decode cX4_determinant 18 = .ok (.istore 6, 2) := by decide +kernel
theorem dX4_determinant_20 : decode cX4_determinant 20 = .ok (.iload 6, 2) := by decide +kernel
theorem dX4_determinant_22 : decode cX4_determinant 22 = .ok (.aload_n 0, 1) := by decide +kernel
theorem dX4_determinant_23 : decode cX4_determinant 23 = .ok (.getfield 70, 3) := by decide +kernel
theorem dX4_determinant_26 : decode cX4_determinant 26 = .ok (.if_icmp .ge 75, 3) := by decide +kernel
theorem dX4_determinant_29 : decode cX4_determinant 29 = .ok (.iload_n 2, 1) := by decide +kernel
theorem dX4_determinant_30 : decode cX4_determinant 30 = .ok (.iload 6, 2) := by decide +kernel
theorem dX4_determinant_32 : decode cX4_determinant 32 = .ok (.ishr, 1) := by decide +kernel
theorem dX4_determinant_33 : decode cX4_determinant 33 = .ok (.iconst 1, 1) := by decide +kernel
theorem dX4_determinant_34 : decode cX4_determinant 34 = .ok (.iand, 1) := by decide +kernel
theorem dX4_determinant_35 : decode cX4_determinant 35 = .ok (.iconst 1, 1) := by decide +kernel
theorem dX4_determinant_36 : decode cX4_determinant 36 = .ok (.if_icmp .ne 6, 3) := by decide +kernel
theorem dX4_determinant_39 : decode cX4_determinant 39 = .ok (.goto 56, 3) := by decide +kernel
theorem dX4_determinant_42 : decode cX4_determinant 42 = .ok (.aload_n 0, 1) := by decide +kernel
theorem dX4_determinant_43 : decode cX4_determinant 43 = .ok (.getfield 37, 3) := by decide +kernel
theorem dX4_determinant_46 : decode cX4_determinant 46 = .ok (.iconst 5, 1) := by decide +kernel
theorem dX4_determinant_47 : decode cX4_determinant 47 = .ok (.aload_n 0, 1) := by decide +kernel
theorem dX4_determinant_48 : decode cX4_determinant 48 = .ok (.getfield 43, 3) := by decide +kernel
theorem dX4_determinant_51 : decode cX4_determinant 51 = .ok (.iload_n 1, 1) := by decide +kernel
theorem dX4_determinant_52 : decode cX4_determinant 52 = .ok (.iaload, 1) := by decide +kernel
theorem dX4_determinant_53 : decode cX4_determinant 53 = .ok (.imul, 1) := by decide +kernel
theorem dX4_determinant_54 : decode cX4_determinant 54 = .ok (.iload 6, 2) := by decide +kernel
theorem dX4_determinant_56 : decode cX4_determinant 56 = .ok (.iadd, 1) := by decide +kernel
theorem dX4_determinant_57 : decode cX4_determinant 57 = .ok (.laload, 1) := by decide +kernel
theorem dX4_determinant_58 : decode cX4_determinant 58 = .ok (.lstore 7, 2) := by decide +kernel
theorem dX4_determinant_60 : decode cX4_determinant 60 = .ok (.lload 7, 2) := by decide +kernel
theorem dX4_determinant_62 : decode cX4_determinant 62 = .ok (.lconst 0, 1) := by decide +kernel
theorem dX4_determinant_63 : decode cX4_determinant 63 = .ok (.lcmp, 1) := by decide +kernel
theorem dX4_determinant_64 : decode cX4_determinant 64 = .ok (.ifCond .eq 26, 3) := by decide +kernel
theorem dX4_determinant_67 : decode cX4_determinant 67 = .ok (.lload_n 3, 1) := by decide +kernel
theorem dX4_determinant_68 : decode cX4_determinant 68 = .ok (.iload 5, 2) := by decide +kernel
theorem dX4_determinant_70 : decode cX4_determinant 70 = .ok (.i2l, 1) := by decide +kernel
theorem dX4_determinant_71 : decode cX4_determinant 71 = .ok (.lload 7, 2) := by decide +kernel
theorem dX4_determinant_73 : decode cX4_determinant 73 = .ok (.lmul, 1) := by decide +kernel
theorem dX4_determinant_74 : decode cX4_determinant 74 = .ok (.aload_n 0, 1) := by decide +kernel
theorem dX4_determinant_75 : decode cX4_determinant 75 = .ok (.iload_n 1, 1) := by decide +kernel
theorem dX4_determinant_76 : decode cX4_determinant 76 = .ok (.iconst 1, 1) := by decide +kernel
theorem dX4_determinant_77 : decode cX4_determinant 77 = .ok (.iadd, 1) := by decide +kernel
theorem dX4_determinant_78 : decode cX4_determinant 78 = .ok (.iload_n 2, 1) := by decide +kernel
theorem dX4_determinant_79 : decode cX4_determinant 79 = .ok (.iconst 1, 1) := by decide +kernel
theorem dX4_determinant_80 : decode cX4_determinant 80 = .ok (.iload 6, 2) := by decide +kernel
theorem dX4_determinant_82 : decode cX4_determinant 82 = .ok (.ishl, 1) := by decide +kernel
theorem dX4_determinant_83 : decode cX4_determinant 83 = .ok (.ior, 1) := by decide +kernel
theorem dX4_determinant_84 : decode cX4_determinant 84 = .ok (.invokevirtual 91, 3) := by decide +kernel
theorem dX4_determinant_87 : decode cX4_determinant 87 = .ok (.lmul, 1) := by decide +kernel
theorem dX4_determinant_88 : decode cX4_determinant 88 = .ok (.ladd, 1) := by decide +kernel
theorem dX4_determinant_89 : decode cX4_determinant 89 = .ok (.lstore_n 3, 1) := by decide +kernel
theorem dX4_determinant_90 : decode cX4_determinant 90 = .ok (.iload 5, 2) := by decide +kernel
theorem dX4_determinant_92 : decode cX4_determinant 92 = .ok (.ineg, 1) := by decide +kernel
theorem dX4_determinant_93 : decode cX4_determinant 93 = .ok (.istore 5, 2) := by decide +kernel
theorem dX4_determinant_95 : decode cX4_determinant 95 = .ok (.iinc 6 1, 3) := by decide +kernel
theorem dX4_determinant_98 : decode cX4_determinant 98 = .ok (.goto (-78), 3) := by decide +kernel
theorem dX4_determinant_101 : decode cX4_determinant 101 = .ok (.lload_n 3, 1) := by decide +kernel
theorem dX4_determinant_102 : decode cX4_determinant 102 = .ok (.lreturn, 1) := by decide +kernel
theorem dX4_common_0 : decode cX4_common 0 = .ok (.lload_n 0, 1) := by decide +kernel
theorem dX4_common_1 : decode cX4_common 1 = .ok (.invokestatic 95, 3) := by decide +kernel
theorem dX4_common_4 : decode cX4_common 4 = .ok (.lstore 4, 2) := by decide +kernel
theorem dX4_common_6 : decode cX4_common 6 = .ok (.lload_n 2, 1) := by decide +kernel
theorem dX4_common_7 : decode cX4_common 7 = .ok (.invokestatic 95, 3) := by decide +kernel
theorem dX4_common_10 : decode cX4_common 10 = .ok (.lstore 6, 2) := by decide +kernel
theorem dX4_common_12 : decode cX4_common 12 = .ok (.lload 6, 2) := by decide +kernel
theorem dX4_common_14 : decode cX4_common 14 = .ok (.lconst 0, 1) := by decide +kernel
theorem dX4_common_15 : decode cX4_common 15 = .ok (.lcmp, 1) := by decide +kernel
theorem dX4_common_16 : decode cX4_common 16 = .ok (.ifCond .eq 21, 3) := by decide +kernel
theorem dX4_common_19 : decode cX4_common 19 = .ok (.lload 4, 2) := by decide +kernel
theorem dX4_common_21 : decode cX4_common 21 = .ok (.lload 6, 2) := by decide +kernel
theorem dX4_common_23 : decode cX4_common 23 = .ok (.lrem, 1) := by decide +kernel
theorem dX4_common_24 : decode cX4_common 24 = .ok (.lstore 8, 2) := by decide +kernel
theorem dX4_common_26 : decode cX4_common 26 = .ok (.lload 6, 2) := by decide +kernel
theorem dX4_common_28 : decode cX4_common 28 = .ok (.lstore 4, 2) := by decide +kernel
theorem dX4_common_30 : decode cX4_common 30 = .ok (.lload 8, 2) := by decide +kernel
theorem dX4_common_32 : decode cX4_common 32 = .ok (.lstore 6, 2) := by decide +kernel
theorem dX4_common_34 : decode cX4_common 34 = .ok (.goto (-22), 3) := by decide +kernel
theorem dX4_common_37 : decode cX4_common 37 = .ok (.lload 4, 2) := by decide +kernel
theorem dX4_common_39 : decode cX4_common 39 = .ok (.lreturn, 1) := by decide +kernel
set_option maxRecDepth 20000 in
theorem ggX4_tries_X4_determinant : GoodIn wsX4_tries wsX4_determinant := goodIn_r _ [7, 1, 8, 9, 3, 4, 5, 6, 34, 35, 36, 37, 38, 39, 40, 41, 42, 43, 44, 45, 46, 47, 48, 49, 50, 51, 52, 53, 54, 55] rfl (by decide +kernel)
set_option maxRecDepth 20000 in
theorem gX4_tries_X4_determinant : GoodIn wsX4_tries (wsV RX4 91 RX4 yX4_determinant wsX4_determinant) := goodIn_app (goodIn_c (List.mem_of_getElem? (i := 3) rfl) rfl (goodIn_c (List.mem_of_getElem? (i := 4) rfl) rfl (goodIn_c (List.mem_of_getElem? (i := 5) rfl) rfl (goodIn_c (List.mem_of_getElem? (i := 6) rfl) rfl (goodIn_nil))))) ggX4_tries_X4_determinant
set_option maxRecDepth 20000 in
theorem ggX4_tries_X4_common : GoodIn wsX4_tries wsX4_common := goodIn_r _ [12, 13, 14, 15, 16] rfl (by decide +kernel)
set_option maxRecDepth 20000 in
theorem gX4_tries_X4_common : GoodIn wsX4_tries (va_wsS RX4 101 yX4_common wsX4_common) := goodIn_app (goodIn_c (List.mem_of_getElem? (i := 10) rfl) rfl (goodIn_c (List.mem_of_getElem? (i := 11) rfl) rfl (goodIn_c (List.mem_of_getElem? (i := 6) rfl) rfl (goodIn_nil)))) ggX4_tries_X4_common
set_option maxRecDepth 20000 in
theorem ggX4_tries_X4_isAllowed : GoodIn wsX4_tries wsX4_isAllowed := goodIn_r _ [20, 21, 1, 8, 2, 34, 35, 36, 37, 38, 39, 40, 41, 42, 43, 44, 45, 46, 47, 48, 49, 50, 51, 52, 53, 54, 55] rfl (by decide +kernel)
set_option maxRecDepth 20000 in
theorem gX4_tries_X4_isAllowed : GoodIn wsX4_tries (wsV RX4 105 RX4 yX4_isAllowed wsX4_isAllowed) := goodIn_app (goodIn_c (List.mem_of_getElem? (i := 17) rfl) rfl (goodIn_c (List.mem_of_getElem? (i := 18) rfl) rfl (goodIn_c (List.mem_of_getElem? (i := 19) rfl) rfl (goodIn_c (List.mem_of_getElem? (i := 6) rfl) rfl (goodIn_nil))))) ggX4_tries_X4_isAllowed
set_option maxRecDepth 20000 in
theorem ggX4_tries_X4_put : GoodIn wsX4_tries wsX4_put := goodIn_r _ [25, 26, 27, 28, 29, 30, 31, 32, 6, 33, 2, 1, 34, 35, 36, 37, 38, 39, 40, 41, 42, 43, 44, 45, 46, 47, 48, 49, 50, 51, 52, 53, 54, 55] rfl (by decide +kernel)
set_option maxRecDepth 20000 in
theorem gX4_tries_X4_put : GoodIn wsX4_tries (wsV RX4 108 RX4 yX4_put wsX4_put) := goodIn_app (goodIn_c (List.mem_of_getElem? (i := 22) rfl) rfl (goodIn_c (List.mem_of_getElem? (i := 23) rfl) rfl (goodIn_c (List.mem_of_getElem? (i := 24) rfl) rfl (goodIn_c (List.mem_of_getElem? (i := 6) rfl) rfl (goodIn_nil))))) ggX4_tries_X4_put
theorem dX4_tries_0 : decode cX4_tries 0 = .ok (.lconst 0, 1) := by decide +kernel
theorem dX4_tries_1 : decode cX4_tries 1 = .ok (.lstore_n 1, 1) := by decide +kernel
theorem dX4_tries_2 : decode cX4_tries 2 = .ok (.iconst 0, 1) := by decide +kernel
theorem dX4_tries_3 : decode cX4_tries 3 = .ok (.istore_n 3, 1) := by decide +kernel
theorem dX4_tries_4 : decode cX4_tries 4 = .ok (.iload_n 3, 1) := by decide +kernel
theorem dX4_tries_5 : decode cX4_tries 5 = .ok (.aload_n 0, 1) := by decide +kernel
theorem dX4_tries_6 : decode cX4_tries 6 = .ok (.getfield 70, 3) := by decide +kernel
theorem dX4_tries_9 : decode cX4_tries 9 = .ok (.if_icmp .ge 47, 3) := by decide +kernel
theorem dX4_tries_12 : decode cX4_tries 12 = .ok (.aload_n 0, 1) := by decide +kernel
theorem dX4_tries_13 : decode cX4_tries 13 = .ok (.getfield 40, 3) := by decide +kernel
theorem dX4_tries_16 : decode cX4_tries 16 = .ok (.iload_n 3, 1) := by decide +kernel
theorem dX4_tries_17 : decode cX4_tries 17 = .ok (.aload_n 0, 1) := by decide +kernel
theorem dX4_tries_18 : decode cX4_tries 18 = .ok (.iconst 0, 1) := by decide +kernel
theorem dX4_tries_19 : decode cX4_tries 19 = .ok (.iconst 1, 1) := by decide +kernel
theorem dX4_tries_20 : decode cX4_tries 20 = .ok (.iload_n 3, 1) := by decide +kernel
theorem dX4_tries_21 : decode cX4_tries 21 = .ok (.ishl, 1) := by decide +kernel
theorem dX4_tries_22 : decode cX4_tries 22 = .ok (.invokevirtual 91, 3) := by decide +kernel
theorem dX4_tries_25 : decode cX4_tries 25 = .ok (.iload_n 3, 1) := by decide +kernel
theorem dX4_tries_26 : decode cX4_tries 26 = .ok (.iconst 2, 1) := by decide +kernel
theorem dX4_tries_27 : decode cX4_tries 27 = .ok (.irem, 1) := by decide +kernel
theorem dX4_tries_28 : decode cX4_tries 28 = .ok (.ifCond .ne 7, 3) := by decide +kernel
theorem dX4_tries_31 : decode cX4_tries 31 = .ok (.iconst 1, 1) := by decide +kernel
theorem dX4_tries_32 : decode cX4_tries 32 = .ok (.goto 4, 3) := by decide +kernel
theorem dX4_tries_35 : decode cX4_tries 35 = .ok (.iconst (-1), 1) := by decide +kernel
theorem dX4_tries_36 : decode cX4_tries 36 = .ok (.i2l, 1) := by decide +kernel
theorem dX4_tries_37 : decode cX4_tries 37 = .ok (.lmul, 1) := by decide +kernel
theorem dX4_tries_38 : decode cX4_tries 38 = .ok (.lastore, 1) := by decide +kernel
theorem dX4_tries_39 : decode cX4_tries 39 = .ok (.lload_n 1, 1) := by decide +kernel
theorem dX4_tries_40 : decode cX4_tries 40 = .ok (.aload_n 0, 1) := by decide +kernel
theorem dX4_tries_41 : decode cX4_tries 41 = .ok (.getfield 40, 3) := by decide +kernel
theorem dX4_tries_44 : decode cX4_tries 44 = .ok (.iload_n 3, 1) := by decide +kernel
theorem dX4_tries_45 : decode cX4_tries 45 = .ok (.laload, 1) := by decide +kernel
theorem dX4_tries_46 : decode cX4_tries 46 = .ok (.invokestatic 101, 3) := by decide +kernel
theorem dX4_tries_49 : decode cX4_tries 49 = .ok (.lstore_n 1, 1) := by decide +kernel
theorem dX4_tries_50 : decode cX4_tries 50 = .ok (.iinc 3 1, 3) := by decide +kernel
theorem dX4_tries_53 : decode cX4_tries 53 = .ok (.goto (-49), 3) := by decide +kernel
theorem dX4_tries_56 : decode cX4_tries 56 = .ok (.lload_n 1, 1) := by decide +kernel
theorem dX4_tries_57 : decode cX4_tries 57 = .ok (.lconst 0, 1) := by decide +kernel
theorem dX4_tries_58 : decode cX4_tries 58 = .ok (.lcmp, 1) := by decide +kernel
theorem dX4_tries_59 : decode cX4_tries 59 = .ok (.ifCond .ne 4, 3) := by decide +kernel
theorem dX4_tries_62 : decode cX4_tries 62 = .ok (.return_, 1) := by decide +kernel
theorem dX4_tries_63 : decode cX4_tries 63 = .ok (.iconst 0, 1) := by decide +kernel
theorem dX4_tries_64 : decode cX4_tries 64 = .ok (.istore_n 3, 1) := by decide +kernel
theorem dX4_tries_65 : decode cX4_tries 65 = .ok (.iload_n 3, 1) := by decide +kernel
theorem dX4_tries_66 : decode cX4_tries 66 = .ok (.aload_n 0, 1) := by decide +kernel
theorem dX4_tries_67 : decode cX4_tries 67 = .ok (.getfield 70, 3) := by decide +kernel
theorem dX4_tries_70 : decode cX4_tries 70 = .ok (.if_icmp .ge 19, 3) := by decide +kernel
theorem dX4_tries_73 : decode cX4_tries 73 = .ok (.aload_n 0, 1) := by decide +kernel
theorem dX4_tries_74 : decode cX4_tries 74 = .ok (.getfield 40, 3) := by decide +kernel
theorem dX4_tries_77 : decode cX4_tries 77 = .ok (.iload_n 3, 1) := by decide +kernel
theorem dX4_tries_78 : decode cX4_tries 78 = .ok (.dup2, 1) := by decide +kernel
theorem dX4_tries_79 : decode cX4_tries 79 = .ok (.laload, 1) := by decide +kernel
theorem dX4_tries_80 : decode cX4_tries 80 = .ok (.lload_n 1, 1) := by decide +kernel
theorem dX4_tries_81 : decode cX4_tries 81 = .ok (.ldiv, 1) := by decide +kernel
theorem dX4_tries_82 : decode cX4_tries 82 = .ok (.lastore, 1) := by decide +kernel
theorem dX4_tries_83 : decode cX4_tries 83 = .ok (.iinc 3 1, 3) := by decide +kernel
theorem dX4_tries_86 : decode cX4_tries 86 = .ok (.goto (-21), 3) := by decide +kernel
theorem dX4_tries_89 : decode cX4_tries 89 = .ok (.iconst 1, 1) := by decide +kernel
theorem dX4_tries_90 : decode cX4_tries 90 = .ok (.istore_n 3, 1) := by decide +kernel
theorem dX4_tries_91 : decode cX4_tries 91 = .ok (.iload_n 3, 1) := by decide +kernel
theorem dX4_tries_92 : decode cX4_tries 92 = .ok (.bipush (-2), 2) := by decide +kernel
theorem dX4_tries_94 : decode cX4_tries 94 = .ok (.if_icmp .le 23, 3) := by decide +kernel
theorem dX4_tries_97 : decode cX4_tries 97 = .ok (.aload_n 0, 1) := by decide +kernel
theorem dX4_tries_98 : decode cX4_tries 98 = .ok (.iload_n 3, 1) := by decide +kernel
theorem dX4_tries_99 : decode cX4_tries 99 = .ok (.invokevirtual 105, 3) := by decide +kernel
theorem dX4_tries_102 : decode cX4_tries 102 = .ok (.ifCond .eq 9, 3) := by decide +kernel
theorem dX4_tries_105 : decode cX4_tries 105 = .ok (.aload_n 0, 1) := by decide +kernel
theorem dX4_tries_106 : decode cX4_tries 106 = .ok (.iload_n 3, 1) := by decide +kernel
theorem dX4_tries_107 : decode cX4_tries 107 = .ok (.invokevirtual 108, 3) := by decide +kernel
theorem dX4_tries_110 : decode cX4_tries 110 = .ok (.return_, 1) := by decide +kernel
theorem dX4_tries_111 : decode cX4_tries 111 = .ok (.iinc 3 (-2), 3) := by decide +kernel
theorem dX4_tries_114 : decode cX4_tries 114 = .ok (.goto (-23), 3) := by decide +kernel
theorem dX4_tries_117 : decode cX4_tries 117 = .ok (.return_, 1) := by decide +kernel
theorem dX4_isAllowed_0 : decode cX4_isAllowed 0 = .ok (.iconst 0, 1) := by decide +kernel
theorem dX4_isAllowed_1 : decode cX4_isAllowed 1 = .ok (.istore_n 2, 1) := by decide +kernel
theorem dX4_isAllowed_2 : decode cX4_isAllowed 2 = .ok (.iload_n 2, 1) := by decide +kernel
theorem dX4_isAllowed_3 : decode cX4_isAllowed 3 = .ok (.aload_n 0, 1) := by decide +kernel
theorem dX4_isAllowed_4 : decode cX4_isAllowed 4 = .ok (.getfield 73, 3) := by decide +kernel
theorem dX4_isAllowed_7 : decode cX4_isAllowed 7 = .ok (.if_icmp .ge 62, 3) := by decide +kernel
theorem dX4_isAllowed_10 : decode cX4_isAllowed 10 = .ok (.lconst 0, 1) := by decide +kernel
theorem dX4_isAllowed_11 : decode cX4_isAllowed 11 = .ok (.lstore_n 3, 1) := by decide +kernel
theorem dX4_isAllowed_12 : decode cX4_isAllowed 12 = .ok (.iconst 0, 1) := by decide +kernel
theorem dX4_isAllowed_13 : decode cX4_isAllowed 13 = .ok (.istore 5, 2) := by decide +kernel
theorem dX4_isAllowed_15 : decode cX4_isAllowed 15 = .ok (.iload 5, 2) := by decide +kernel
theorem dX4_isAllowed_17 : decode cX4_isAllowed 17 = .ok (.aload_n 0, 1) := by decide +kernel
theorem dX4_isAllowed_18 : decode cX4_isAllowed 18 = .ok (.getfield 70, 3) := by decide +kernel
theorem dX4_isAllowed_21 : decode cX4_isAllowed 21 = .ok (.if_icmp .ge 31, 3) := by decide +kernel
theorem dX4_isAllowed_24 : decode cX4_isAllowed 24 = .ok (.lload_n 3, 1) := by decide +kernel
theorem dX4_isAllowed_25 : decode cX4_isAllowed 25 = .ok (.aload_n 0, 1) := by decide +kernel
theorem dX4_isAllowed_26 : decode cX4_isAllowed 26 = .ok (.getfield 37, 3) := by decide +kernel
theorem dX4_isAllowed_29 : decode cX4_isAllowed 29 = .ok (.iconst 5, 1) := by decide +kernel
theorem dX4_isAllowed_30 : decode cX4_isAllowed 30 = .ok (.iload_n 2, 1) := by decide +kernel
theorem dX4_isAllowed_31 : decode cX4_isAllowed 31 = .ok (.imul, 1) := by decide +kernel
theorem dX4_isAllowed_32 : decode cX4_isAllowed 32 = .ok (.iload 5, 2) := by decide +kernel
theorem dX4_isAllowed_34 : decode cX4_isAllowed 34 = .ok (.iadd, 1) := by decide +kernel
theorem dX4_isAllowed_35 : decode cX4_isAllowed 35 = .ok (.laload, 1) := by decide +kernel
theorem dX4_isAllowed_36 : decode cX4_isAllowed 36 = .ok (.aload_n 0, 1) := by decide +kernel
theorem dX4_isAllowed_37 : decode cX4_isAllowed 37 = .ok (.getfield 40, 3) := by decide +kernel
theorem dX4_isAllowed_40 : decode cX4_isAllowed 40 = .ok (.iload 5, 2) := by decide +kernel
theorem dX4_isAllowed_42 : decode cX4_isAllowed 42 = .ok (.laload, 1) := by decide +kernel
theorem dX4_isAllowed_43 : decode cX4_isAllowed 43 = .ok (.lmul, 1) := by decide +kernel
theorem dX4_isAllowed_44 : decode cX4_isAllowed 44 = .ok (.ladd, 1) := by decide +kernel
theorem dX4_isAllowed_45 : decode cX4_isAllowed 45 = .ok (.lstore_n 3, 1) := by decide +kernel
theorem dX4_isAllowed_46 : decode cX4_isAllowed 46 = .ok (.iinc 5 1, 3) := by decide +kernel
theorem dX4_isAllowed_49 : decode cX4_isAllowed 49 = .ok (.goto (-34), 3) := by decide +kernel
theorem dX4_isAllowed_52 : decode cX4_isAllowed 52 = .ok (.iload_n 1, 1) := by decide +kernel
theorem dX4_isAllowed_53 : decode cX4_isAllowed 53 = .ok (.i2l, 1) := by decide +kernel
theorem dX4_isAllowed_54 : decode cX4_isAllowed 54 = .ok (.lload_n 3, 1) := by decide +kernel
theorem dX4_isAllowed_55 : decode cX4_isAllowed 55 = .ok (.lmul, 1) := by decide +kernel
theorem dX4_isAllowed_56 : decode cX4_isAllowed 56 = .ok (.lconst 0, 1) := by decide +kernel
theorem dX4_isAllowed_57 : decode cX4_isAllowed 57 = .ok (.lcmp, 1) := by decide +kernel
theorem dX4_isAllowed_58 : decode cX4_isAllowed 58 = .ok (.ifCond .ge 5, 3) := by decide +kernel
theorem dX4_isAllowed_61 : decode cX4_isAllowed 61 = .ok (.iconst 0, 1) := by decide +kernel
theorem dX4_isAllowed_62 : decode cX4_isAllowed 62 = .ok (.ireturn, 1) := by decide +kernel
theorem dX4_isAllowed_63 : decode cX4_isAllowed 63 = .ok (.iinc 2 1, 3) := by decide +kernel
theorem dX4_isAllowed_66 : decode cX4_isAllowed 66 = .ok (.goto (-64), 3) := by decide +kernel
theorem dX4_isAllowed_69 : decode cX4_isAllowed 69 = .ok (.iconst 1, 1) := by decide +kernel
theorem dX4_isAllowed_70 : decode cX4_isAllowed 70 = .ok (.ireturn, 1) := by decide +kernel
set_option maxRecDepth 20000 in
theorem ggX4_put_X4_told : GoodIn wsX4_put wsX4_told := goodIn_r _ [9, 10, 11, 12, 13, 14, 15, 16, 17, 18, 19, 20, 21, 22, 23, 24, 25, 26, 27, 28, 29, 30, 31, 32, 33] rfl (by decide +kernel)
set_option maxRecDepth 20000 in
theorem gX4_put_X4_told : GoodIn wsX4_put (wsV RX4 111 RX4 yX4_told wsX4_told) := goodIn_app (goodIn_c (List.mem_of_getElem? (i := 5) rfl) rfl (goodIn_c (List.mem_of_getElem? (i := 6) rfl) rfl (goodIn_c (List.mem_of_getElem? (i := 7) rfl) rfl (goodIn_c (List.mem_of_getElem? (i := 8) rfl) rfl (goodIn_nil))))) ggX4_put_X4_told
theorem dX4_put_0 : decode cX4_put 0 = .ok (.aload_n 0, 1) := by decide +kernel
theorem dX4_put_1 : decode cX4_put 1 = .ok (.getfield 64, 3) := by decide +kernel
theorem dX4_put_4 : decode cX4_put 4 = .ok (.aload_n 0, 1) := by decide +kernel
theorem dX4_put_5 : decode cX4_put 5 = .ok (.getfield 67, 3) := by decide +kernel
theorem dX4_put_8 : decode cX4_put 8 = .ok (.iadd, 1) := by decide +kernel
theorem dX4_put_9 : decode cX4_put 9 = .ok (.istore_n 2, 1) := by decide +kernel
theorem dX4_put_10 : decode cX4_put 10 = .ok (.iconst 0, 1) := by decide +kernel
theorem dX4_put_11 : decode cX4_put 11 = .ok (.istore_n 3, 1) := by decide +kernel
theorem dX4_put_12 : decode cX4_put 12 = .ok (.iload_n 3, 1) := by decide +kernel
theorem dX4_put_13 : decode cX4_put 13 = .ok (.aload_n 0, 1) := by decide +kernel
theorem dX4_put_14 : decode cX4_put 14 = .ok (.getfield 81, 3) := by decide +kernel
theorem dX4_put_17 : decode cX4_put 17 = .ok (.if_icmp .ge 80, 3) := by decide +kernel
theorem dX4_put_20 : decode cX4_put 20 = .ok (.iconst 0, 1) := by decide +kernel
theorem dX4_put_21 : decode cX4_put 21 = .ok (.istore 4, 2) := by decide +kernel
theorem dX4_put_23 : decode cX4_put 23 = .ok (.iload 4, 2) := by decide +kernel
theorem dX4_put_25 : decode cX4_put 25 = .ok (.iconst 5, 1) := by decide +kernel
theorem dX4_put_26 : decode cX4_put 26 = .ok (.if_icmp .ge 32, 3) := by decide +kernel
theorem dX4_put_29 : decode cX4_put 29 = .ok (.aload_n 0, 1) := by decide +kernel
theorem dX4_put_30 : decode cX4_put 30 = .ok (.getfield 33, 3) := by decide +kernel
theorem dX4_put_33 : decode cX4_put 33 = .ok (.iconst 5, 1) := by decide +kernel
theorem dX4_put_34 : decode cX4_put 34 = .ok (.iload_n 3, 1) := by decide +kernel
theorem dX4_put_35 : decode cX4_put 35 = .ok (.imul, 1) := by decide +kernel
theorem dX4_put_36 : decode cX4_put 36 = .ok (.iload 4, 2) := by decide +kernel
theorem dX4_put_38 : decode cX4_put 38 = .ok (.iadd, 1) := by decide +kernel
theorem dX4_put_39 : decode cX4_put 39 = .ok (.laload, 1) := by decide +kernel
theorem dX4_put_40 : decode cX4_put 40 = .ok (.aload_n 0, 1) := by decide +kernel
theorem dX4_put_41 : decode cX4_put 41 = .ok (.iload 4, 2) := by decide +kernel
theorem dX4_put_43 : decode cX4_put 43 = .ok (.iload_n 2, 1) := by decide +kernel
theorem dX4_put_44 : decode cX4_put 44 = .ok (.iload_n 1, 1) := by decide +kernel
theorem dX4_put_45 : decode cX4_put 45 = .ok (.invokevirtual 111, 3) := by decide +kernel
theorem dX4_put_48 : decode cX4_put 48 = .ok (.lcmp, 1) := by decide +kernel
theorem dX4_put_49 : decode cX4_put 49 = .ok (.ifCond .ne 9, 3) := by decide +kernel
theorem dX4_put_52 : decode cX4_put 52 = .ok (.iinc 4 1, 3) := by decide +kernel
theorem dX4_put_55 : decode cX4_put 55 = .ok (.goto (-32), 3) := by decide +kernel
theorem dX4_put_58 : decode cX4_put 58 = .ok (.iload 4, 2) := by decide +kernel
theorem dX4_put_60 : decode cX4_put 60 = .ok (.iconst 5, 1) := by decide +kernel
theorem dX4_put_61 : decode cX4_put 61 = .ok (.if_icmp .ne 4, 3) := by decide +kernel
theorem dX4_put_64 : decode cX4_put 64 = .ok (.return_, 1) := by decide +kernel
theorem dX4_put_65 : decode cX4_put 65 = .ok (.aload_n 0, 1) := by decide +kernel
theorem dX4_put_66 : decode cX4_put 66 = .ok (.getfield 33, 3) := by decide +kernel
theorem dX4_put_69 : decode cX4_put 69 = .ok (.iconst 5, 1) := by decide +kernel
theorem dX4_put_70 : decode cX4_put 70 = .ok (.iload_n 3, 1) := by decide +kernel
theorem dX4_put_71 : decode cX4_put 71 = .ok (.imul, 1) := by decide +kernel
theorem dX4_put_72 : decode cX4_put 72 = .ok (.iload 4, 2) := by decide +kernel
theorem dX4_put_74 : decode cX4_put 74 = .ok (.iadd, 1) := by decide +kernel
theorem dX4_put_75 : decode cX4_put 75 = .ok (.laload, 1) := by decide +kernel
theorem dX4_put_76 : decode cX4_put 76 = .ok (.aload_n 0, 1) := by decide +kernel
theorem dX4_put_77 : decode cX4_put 77 = .ok (.iload 4, 2) := by decide +kernel
theorem dX4_put_79 : decode cX4_put 79 = .ok (.iload_n 2, 1) := by decide +kernel
theorem dX4_put_80 : decode cX4_put 80 = .ok (.iload_n 1, 1) := by decide +kernel
theorem dX4_put_81 : decode cX4_put 81 = .ok (.invokevirtual 111, 3) := by decide +kernel
theorem dX4_put_84 : decode cX4_put 84 = .ok (.lcmp, 1) := by decide +kernel
theorem dX4_put_85 : decode cX4_put 85 = .ok (.ifCond .ge 6, 3) := by decide +kernel
theorem dX4_put_88 : decode cX4_put 88 = .ok (.goto 9, 3) := by decide +kernel
theorem dX4_put_91 : decode cX4_put 91 = .ok (.iinc 3 1, 3) := by decide +kernel
theorem dX4_put_94 : decode cX4_put 94 = .ok (.goto (-82), 3) := by decide +kernel
theorem dX4_put_97 : decode cX4_put 97 = .ok (.iconst 5, 1) := by decide +kernel
theorem dX4_put_98 : decode cX4_put 98 = .ok (.aload_n 0, 1) := by decide +kernel
theorem dX4_put_99 : decode cX4_put 99 = .ok (.getfield 81, 3) := by decide +kernel
theorem dX4_put_102 : decode cX4_put 102 = .ok (.imul, 1) := by decide +kernel
theorem dX4_put_103 : decode cX4_put 103 = .ok (.iconst 1, 1) := by decide +kernel
theorem dX4_put_104 : decode cX4_put 104 = .ok (.isub, 1) := by decide +kernel
theorem dX4_put_105 : decode cX4_put 105 = .ok (.istore 4, 2) := by decide +kernel
theorem dX4_put_107 : decode cX4_put 107 = .ok (.iload 4, 2) := by decide +kernel
theorem dX4_put_109 : decode cX4_put 109 = .ok (.iconst 5, 1) := by decide +kernel
theorem dX4_put_110 : decode cX4_put 110 = .ok (.iload_n 3, 1) := by decide +kernel
theorem dX4_put_111 : decode cX4_put 111 = .ok (.imul, 1) := by decide +kernel
theorem dX4_put_112 : decode cX4_put 112 = .ok (.if_icmp .lt 25, 3) := by decide +kernel
theorem dX4_put_115 : decode cX4_put 115 = .ok (.aload_n 0, 1) := by decide +kernel
theorem dX4_put_116 : decode cX4_put 116 = .ok (.getfield 33, 3) := by decide +kernel
theorem dX4_put_119 : decode cX4_put 119 = .ok (.iload 4, 2) := by decide +kernel
theorem dX4_put_121 : decode cX4_put 121 = .ok (.iconst 5, 1) := by decide +kernel
theorem dX4_put_122 : decode cX4_put 122 = .ok (.iadd, 1) := by decide +kernel
theorem dX4_put_123 : decode cX4_put 123 = .ok (.aload_n 0, 1) := by decide +kernel
theorem dX4_put_124 : decode cX4_put 124 = .ok (.getfield 33, 3) := by decide +kernel
theorem dX4_put_127 : decode cX4_put 127 = .ok (.iload 4, 2) := by decide +kernel
theorem dX4_put_129 : decode cX4_put 129 = .ok (.laload, 1) := by decide +kernel
theorem dX4_put_130 : decode cX4_put 130 = .ok (.lastore, 1) := by decide +kernel
theorem dX4_put_131 : decode cX4_put 131 = .ok (.iinc 4 (-1), 3) := by decide +kernel
theorem dX4_put_134 : decode cX4_put 134 = .ok (.goto (-27), 3) := by decide +kernel
theorem dX4_put_137 : decode cX4_put 137 = .ok (.iconst 0, 1) := by decide +kernel
theorem dX4_put_138 : decode cX4_put 138 = .ok (.istore 4, 2) := by decide +kernel
theorem dX4_put_140 : decode cX4_put 140 = .ok (.iload 4, 2) := by decide +kernel
theorem dX4_put_142 : decode cX4_put 142 = .ok (.iconst 5, 1) := by decide +kernel
theorem dX4_put_143 : decode cX4_put 143 = .ok (.if_icmp .ge 28, 3) := by decide +kernel
theorem dX4_put_146 : decode cX4_put 146 = .ok (.aload_n 0, 1) := by decide +kernel
theorem dX4_put_147 : decode cX4_put 147 = .ok (.getfield 33, 3) := by decide +kernel
theorem dX4_put_150 : decode cX4_put 150 = .ok (.iconst 5, 1) := by decide +kernel
theorem dX4_put_151 : decode cX4_put 151 = .ok (.iload_n 3, 1) := by decide +kernel
theorem dX4_put_152 : decode cX4_put 152 = .ok (.imul, 1) := by decide +kernel
theorem dX4_put_153 : decode cX4_put 153 = .ok (.iload 4, 2) := by decide +kernel
theorem dX4_put_155 : decode cX4_put 155 = .ok (.iadd, 1) := by decide +kernel
theorem dX4_put_156 : decode cX4_put 156 = .ok (.aload_n 0, 1) := by decide +kernel
theorem dX4_put_157 : decode cX4_put 157 = .ok (.iload 4, 2) := by decide +kernel
theorem dX4_put_159 : decode cX4_put 159 = .ok (.iload_n 2, 1) := by decide +kernel
theorem dX4_put_160 : decode cX4_put 160 = .ok (.iload_n 1, 1) := by decide +kernel
theorem dX4_put_161 : decode cX4_put 161 = .ok (.invokevirtual 111, 3) := by decide +kernel
theorem dX4_put_164 : decode cX4_put 164 = .ok (.lastore, 1) := by decide +kernel
theorem dX4_put_165 : decode cX4_put 165 = .ok (.iinc 4 1, 3) := by decide +kernel
theorem dX4_put_168 : decode cX4_put 168 = .ok (.goto (-28), 3) := by decide +kernel
theorem dX4_put_171 : decode cX4_put 171 = .ok (.aload_n 0, 1) := by decide +kernel
theorem dX4_put_172 : decode cX4_put 172 = .ok (.dup, 1) := by decide +kernel
theorem dX4_put_173 : decode cX4_put 173 = .ok (.getfield 81, 3) := by decide +kernel
theorem dX4_put_176 : decode cX4_put 176 = .ok (.iconst 1, 1) := by decide +kernel
theorem dX4_put_177 : decode cX4_put 177 = .ok (.iadd, 1) := by decide +kernel
theorem dX4_put_178 : decode cX4_put 178 = .ok (.putfield 81, 3) := by decide +kernel
theorem dX4_put_181 : decode cX4_put 181 = .ok (.return_, 1) := by decide +kernel
theorem dX4_told_0 : decode cX4_told 0 = .ok (.iload_n 1, 1) := by decide +kernel
theorem dX4_told_1 : decode cX4_told 1 = .ok (.iload_n 2, 1) := by decide +kernel
theorem dX4_told_2 : decode cX4_told 2 = .ok (.if_icmp .ge 15, 3) := by decide +kernel
theorem dX4_told_5 : decode cX4_told 5 = .ok (.iload_n 3, 1) := by decide +kernel
theorem dX4_told_6 : decode cX4_told 6 = .ok (.i2l, 1) := by decide +kernel
theorem dX4_told_7 : decode cX4_told 7 = .ok (.aload_n 0, 1) := by decide +kernel
theorem dX4_told_8 : decode cX4_told 8 = .ok (.getfield 40, 3) := by decide +kernel
theorem dX4_told_11 : decode cX4_told 11 = .ok (.iload_n 1, 1) := by decide +kernel
theorem dX4_told_12 : decode cX4_told 12 = .ok (.laload, 1) := by decide +kernel
theorem dX4_told_13 : decode cX4_told 13 = .ok (.lmul, 1) := by decide +kernel
theorem dX4_told_14 : decode cX4_told 14 = .ok (.goto 29, 3) := by decide +kernel
theorem dX4_told_17 : decode cX4_told 17 = .ok (.iload_n 1, 1) := by decide +kernel
theorem dX4_told_18 : decode cX4_told 18 = .ok (.iconst 4, 1) := by decide +kernel
theorem dX4_told_19 : decode cX4_told 19 = .ok (.if_icmp .ne 23, 3) := by decide +kernel
theorem dX4_told_22 : decode cX4_told 22 = .ok (.aload_n 0, 1) := by decide +kernel
theorem dX4_told_23 : decode cX4_told 23 = .ok (.getfield 70, 3) := by decide +kernel
theorem dX4_told_26 : decode cX4_told 26 = .ok (.iload_n 2, 1) := by decide +kernel
theorem dX4_told_27 : decode cX4_told 27 = .ok (.if_icmp .le 15, 3) := by decide +kernel
theorem dX4_told_30 : decode cX4_told 30 = .ok (.iload_n 3, 1) := by decide +kernel
theorem dX4_told_31 : decode cX4_told 31 = .ok (.i2l, 1) := by decide +kernel
theorem dX4_told_32 : decode cX4_told 32 = .ok (.aload_n 0, 1) := by decide +kernel
theorem dX4_told_33 : decode cX4_told 33 = .ok (.getfield 40, 3) := by decide +kernel
theorem dX4_told_36 : decode cX4_told 36 = .ok (.iload_n 2, 1) := by decide +kernel
theorem dX4_told_37 : decode cX4_told 37 = .ok (.laload, 1) := by decide +kernel
theorem dX4_told_38 : decode cX4_told 38 = .ok (.lmul, 1) := by decide +kernel
theorem dX4_told_39 : decode cX4_told 39 = .ok (.goto 4, 3) := by decide +kernel
theorem dX4_told_42 : decode cX4_told 42 = .ok (.lconst 0, 1) := by decide +kernel
theorem dX4_told_43 : decode cX4_told 43 = .ok (.lreturn, 1) := by decide +kernel
theorem dX4_inWeighed_0 : decode cX4_inWeighed 0 = .ok (.lconst 0, 1) := by decide +kernel
theorem dX4_inWeighed_1 : decode cX4_inWeighed 1 = .ok (.lstore_n 3, 1) := by decide +kernel
theorem dX4_inWeighed_2 : decode cX4_inWeighed 2 = .ok (.iconst 0, 1) := by decide +kernel
theorem dX4_inWeighed_3 : decode cX4_inWeighed 3 = .ok (.istore 5, 2) := by decide +kernel
theorem dX4_inWeighed_5 : decode cX4_inWeighed 5 = .ok (.iload 5, 2) := by decide +kernel
theorem dX4_inWeighed_7 : decode cX4_inWeighed 7 = .ok (.aload_n 0, 1) := by decide +kernel
theorem dX4_inWeighed_8 : decode cX4_inWeighed 8 = .ok (.getfield 64, 3) := by decide +kernel
theorem dX4_inWeighed_11 : decode cX4_inWeighed 11 = .ok (.if_icmp .ge 36, 3) := by decide +kernel
theorem dX4_inWeighed_14 : decode cX4_inWeighed 14 = .ok (.lload_n 3, 1) := by decide +kernel
theorem dX4_inWeighed_15 : decode cX4_inWeighed 15 = .ok (.aload_n 0, 1) := by decide +kernel
theorem dX4_inWeighed_16 : decode cX4_inWeighed 16 = .ok (.getfield 33, 3) := by decide +kernel
theorem dX4_inWeighed_19 : decode cX4_inWeighed 19 = .ok (.iconst 5, 1) := by decide +kernel
theorem dX4_inWeighed_20 : decode cX4_inWeighed 20 = .ok (.iload_n 1, 1) := by decide +kernel
theorem dX4_inWeighed_21 : decode cX4_inWeighed 21 = .ok (.imul, 1) := by decide +kernel
theorem dX4_inWeighed_22 : decode cX4_inWeighed 22 = .ok (.iload 5, 2) := by decide +kernel
theorem dX4_inWeighed_24 : decode cX4_inWeighed 24 = .ok (.iadd, 1) := by decide +kernel
theorem dX4_inWeighed_25 : decode cX4_inWeighed 25 = .ok (.laload, 1) := by decide +kernel
theorem dX4_inWeighed_26 : decode cX4_inWeighed 26 = .ok (.aload_n 0, 1) := by decide +kernel
theorem dX4_inWeighed_27 : decode cX4_inWeighed 27 = .ok (.getfield 27, 3) := by decide +kernel
theorem dX4_inWeighed_30 : decode cX4_inWeighed 30 = .ok (.iconst 4, 1) := by decide +kernel
theorem dX4_inWeighed_31 : decode cX4_inWeighed 31 = .ok (.iload_n 2, 1) := by decide +kernel
theorem dX4_inWeighed_32 : decode cX4_inWeighed 32 = .ok (.imul, 1) := by decide +kernel
theorem dX4_inWeighed_33 : decode cX4_inWeighed 33 = .ok (.iload 5, 2) := by decide +kernel
theorem dX4_inWeighed_35 : decode cX4_inWeighed 35 = .ok (.iadd, 1) := by decide +kernel
theorem dX4_inWeighed_36 : decode cX4_inWeighed 36 = .ok (.iaload, 1) := by decide +kernel
theorem dX4_inWeighed_37 : decode cX4_inWeighed 37 = .ok (.i2l, 1) := by decide +kernel
theorem dX4_inWeighed_38 : decode cX4_inWeighed 38 = .ok (.lmul, 1) := by decide +kernel
theorem dX4_inWeighed_39 : decode cX4_inWeighed 39 = .ok (.ladd, 1) := by decide +kernel
theorem dX4_inWeighed_40 : decode cX4_inWeighed 40 = .ok (.lstore_n 3, 1) := by decide +kernel
theorem dX4_inWeighed_41 : decode cX4_inWeighed 41 = .ok (.iinc 5 1, 3) := by decide +kernel
theorem dX4_inWeighed_44 : decode cX4_inWeighed 44 = .ok (.goto (-39), 3) := by decide +kernel
theorem dX4_inWeighed_47 : decode cX4_inWeighed 47 = .ok (.lload_n 3, 1) := by decide +kernel
theorem dX4_inWeighed_48 : decode cX4_inWeighed 48 = .ok (.lreturn, 1) := by decide +kernel
theorem dX4_outWeighed_0 : decode cX4_outWeighed 0 = .ok (.aload_n 0, 1) := by decide +kernel
theorem dX4_outWeighed_1 : decode cX4_outWeighed 1 = .ok (.getfield 33, 3) := by decide +kernel
theorem dX4_outWeighed_4 : decode cX4_outWeighed 4 = .ok (.iconst 5, 1) := by decide +kernel
theorem dX4_outWeighed_5 : decode cX4_outWeighed 5 = .ok (.iload_n 1, 1) := by decide +kernel
theorem dX4_outWeighed_6 : decode cX4_outWeighed 6 = .ok (.imul, 1) := by decide +kernel
theorem dX4_outWeighed_7 : decode cX4_outWeighed 7 = .ok (.iconst 5, 1) := by decide +kernel
theorem dX4_outWeighed_8 : decode cX4_outWeighed 8 = .ok (.iadd, 1) := by decide +kernel
theorem dX4_outWeighed_9 : decode cX4_outWeighed 9 = .ok (.iconst 1, 1) := by decide +kernel
theorem dX4_outWeighed_10 : decode cX4_outWeighed 10 = .ok (.isub, 1) := by decide +kernel
theorem dX4_outWeighed_11 : decode cX4_outWeighed 11 = .ok (.laload, 1) := by decide +kernel
theorem dX4_outWeighed_12 : decode cX4_outWeighed 12 = .ok (.lstore_n 3, 1) := by decide +kernel
theorem dX4_outWeighed_13 : decode cX4_outWeighed 13 = .ok (.aload_n 0, 1) := by decide +kernel
theorem dX4_outWeighed_14 : decode cX4_outWeighed 14 = .ok (.getfield 64, 3) := by decide +kernel
theorem dX4_outWeighed_17 : decode cX4_outWeighed 17 = .ok (.istore 5, 2) := by decide +kernel
theorem dX4_outWeighed_19 : decode cX4_outWeighed 19 = .ok (.iload 5, 2) := by decide +kernel
theorem dX4_outWeighed_21 : decode cX4_outWeighed 21 = .ok (.aload_n 0, 1) := by decide +kernel
theorem dX4_outWeighed_22 : decode cX4_outWeighed 22 = .ok (.getfield 64, 3) := by decide +kernel
theorem dX4_outWeighed_25 : decode cX4_outWeighed 25 = .ok (.aload_n 0, 1) := by decide +kernel
theorem dX4_outWeighed_26 : decode cX4_outWeighed 26 = .ok (.getfield 67, 3) := by decide +kernel
theorem dX4_outWeighed_29 : decode cX4_outWeighed 29 = .ok (.iadd, 1) := by decide +kernel
theorem dX4_outWeighed_30 : decode cX4_outWeighed 30 = .ok (.if_icmp .ge 36, 3) := by decide +kernel
theorem dX4_outWeighed_33 : decode cX4_outWeighed 33 = .ok (.lload_n 3, 1) := by decide +kernel
theorem dX4_outWeighed_34 : decode cX4_outWeighed 34 = .ok (.aload_n 0, 1) := by decide +kernel
theorem dX4_outWeighed_35 : decode cX4_outWeighed 35 = .ok (.getfield 33, 3) := by decide +kernel
theorem dX4_outWeighed_38 : decode cX4_outWeighed 38 = .ok (.iconst 5, 1) := by decide +kernel
theorem dX4_outWeighed_39 : decode cX4_outWeighed 39 = .ok (.iload_n 1, 1) := by decide +kernel
theorem dX4_outWeighed_40 : decode cX4_outWeighed 40 = .ok (.imul, 1) := by decide +kernel
theorem dX4_outWeighed_41 : decode cX4_outWeighed 41 = .ok (.iload 5, 2) := by decide +kernel
theorem dX4_outWeighed_43 : decode cX4_outWeighed 43 = .ok (.iadd, 1) := by decide +kernel
theorem dX4_outWeighed_44 : decode cX4_outWeighed 44 = .ok (.laload, 1) := by decide +kernel
theorem dX4_outWeighed_45 : decode cX4_outWeighed 45 = .ok (.aload_n 0, 1) := by decide +kernel
theorem dX4_outWeighed_46 : decode cX4_outWeighed 46 = .ok (.getfield 27, 3) := by decide +kernel
theorem dX4_outWeighed_49 : decode cX4_outWeighed 49 = .ok (.iconst 4, 1) := by decide +kernel
theorem dX4_outWeighed_50 : decode cX4_outWeighed 50 = .ok (.iload_n 2, 1) := by decide +kernel
theorem dX4_outWeighed_51 : decode cX4_outWeighed 51 = .ok (.imul, 1) := by decide +kernel
theorem dX4_outWeighed_52 : decode cX4_outWeighed 52 = .ok (.iload 5, 2) := by decide +kernel
theorem dX4_outWeighed_54 : decode cX4_outWeighed 54 = .ok (.iadd, 1) := by decide +kernel
theorem dX4_outWeighed_55 : decode cX4_outWeighed 55 = .ok (.iaload, 1) := by decide +kernel
theorem dX4_outWeighed_56 : decode cX4_outWeighed 56 = .ok (.i2l, 1) := by decide +kernel
theorem dX4_outWeighed_57 : decode cX4_outWeighed 57 = .ok (.lmul, 1) := by decide +kernel
theorem dX4_outWeighed_58 : decode cX4_outWeighed 58 = .ok (.ladd, 1) := by decide +kernel
theorem dX4_outWeighed_59 : decode cX4_outWeighed 59 = .ok (.lstore_n 3, 1) := by decide +kernel
theorem dX4_outWeighed_60 : decode cX4_outWeighed 60 = .ok (.iinc 5 1, 3) := by decide +kernel
theorem dX4_outWeighed_63 : decode cX4_outWeighed 63 = .ok (.goto (-44), 3) := by decide +kernel
theorem dX4_outWeighed_66 : decode cX4_outWeighed 66 = .ok (.lload_n 3, 1) := by decide +kernel
theorem dX4_outWeighed_67 : decode cX4_outWeighed 67 = .ok (.lreturn, 1) := by decide +kernel
set_option maxRecDepth 20000 in
theorem ggX4_shares_X4_wholes : GoodIn wsX4_shares wsX4_wholes := goodIn_r _ [10, 1, 2, 11, 4, 3, 12, 13, 14, 15, 9, 16, 17, 18, 19, 74, 75, 76, 77, 78, 79, 80, 81, 82, 83, 84, 85, 86, 87, 88, 89, 90, 91, 92, 93, 94, 95] rfl (by decide +kernel)
set_option maxRecDepth 20000 in
theorem gX4_shares_X4_wholes : GoodIn wsX4_shares (wsV RX4 115 RX4 yX4_wholes wsX4_wholes) := goodIn_app (goodIn_c (List.mem_of_getElem? (i := 6) rfl) rfl (goodIn_c (List.mem_of_getElem? (i := 7) rfl) rfl (goodIn_c (List.mem_of_getElem? (i := 8) rfl) rfl (goodIn_c (List.mem_of_getElem? (i := 9) rfl) rfl (goodIn_nil))))) ggX4_shares_X4_wholes
set_option maxRecDepth 20000 in
theorem ggX4_shares_X4_allSides : GoodIn wsX4_shares wsX4_allSides := goodIn_r _ [23, 5, 24, 25, 26, 9, 27, 17, 18, 28, 29, 1, 2, 30, 19, 31, 32, 33, 34, 35, 36, 37, 38, 39, 40, 41, 42, 43, 44, 45, 46, 47, 48, 49, 50, 51, 52, 53, 54, 55, 56, 57, 58, 59, 60, 61, 62, 63, 64, 65, 74, 75, 76, 77, 78, 79, 80, 81, 82, 83, 84, 85, 86, 87, 88, 89, 90, 91, 92, 93, 94, 95] rfl (by decide +kernel)
set_option maxRecDepth 20000 in
theorem gX4_shares_X4_allSides : GoodIn wsX4_shares (wsV RX4 118 RX4 yX4_allSides wsX4_allSides) := goodIn_app (goodIn_c (List.mem_of_getElem? (i := 20) rfl) rfl (goodIn_c (List.mem_of_getElem? (i := 21) rfl) rfl (goodIn_c (List.mem_of_getElem? (i := 22) rfl) rfl (goodIn_c (List.mem_of_getElem? (i := 9) rfl) rfl (goodIn_nil))))) ggX4_shares_X4_allSides
set_option maxRecDepth 20000 in
theorem ggX4_shares_X4_inWeighed : GoodIn wsX4_shares wsX4_inWeighed := goodIn_r _ [69, 17, 61, 19, 74, 75, 76, 77, 78, 79, 80, 81, 82, 83, 84, 85, 86, 87, 88, 89, 90, 91, 92, 93, 94, 95] rfl (by decide +kernel)
set_option maxRecDepth 20000 in
theorem gX4_shares_X4_inWeighed : GoodIn wsX4_shares (wsV RX4 128 RX4 yX4_inWeighed wsX4_inWeighed) := goodIn_app (goodIn_c (List.mem_of_getElem? (i := 66) rfl) rfl (goodIn_c (List.mem_of_getElem? (i := 67) rfl) rfl (goodIn_c (List.mem_of_getElem? (i := 68) rfl) rfl (goodIn_c (List.mem_of_getElem? (i := 9) rfl) rfl (goodIn_nil))))) ggX4_shares_X4_inWeighed
set_option maxRecDepth 20000 in
theorem ggX4_shares_X4_outWeighed : GoodIn wsX4_shares wsX4_outWeighed := goodIn_r _ [73, 61, 17, 18, 19, 74, 75, 76, 77, 78, 79, 80, 81, 82, 83, 84, 85, 86, 87, 88, 89, 90, 91, 92, 93, 94, 95] rfl (by decide +kernel)
set_option maxRecDepth 20000 in
theorem gX4_shares_X4_outWeighed : GoodIn wsX4_shares (wsV RX4 131 RX4 yX4_outWeighed wsX4_outWeighed) := goodIn_app (goodIn_c (List.mem_of_getElem? (i := 70) rfl) rfl (goodIn_c (List.mem_of_getElem? (i := 71) rfl) rfl (goodIn_c (List.mem_of_getElem? (i := 72) rfl) rfl (goodIn_c (List.mem_of_getElem? (i := 9) rfl) rfl (goodIn_nil))))) ggX4_shares_X4_outWeighed
theorem dX4_shares_0 : decode cX4_shares 0 = .ok (.iconst 0, 1) := by decide +kernel
theorem dX4_shares_1 : decode cX4_shares 1 = .ok (.istore_n 3, 1) := by decide +kernel
theorem dX4_shares_2 : decode cX4_shares 2 = .ok (.iconst 0, 1) := by decide +kernel
theorem dX4_shares_3 : decode cX4_shares 3 = .ok (.istore 4, 2) := by decide +kernel
theorem dX4_shares_5 : decode cX4_shares 5 = .ok (.iload 4, 2) := by decide +kernel
theorem dX4_shares_7 : decode cX4_shares 7 = .ok (.aload_n 0, 1) := by decide +kernel
theorem dX4_shares_8 : decode cX4_shares 8 = .ok (.getfield 49, 3) := by decide +kernel
theorem dX4_shares_11 : decode cX4_shares 11 = .ok (.if_icmp .ge 29, 3) := by decide +kernel
theorem dX4_shares_14 : decode cX4_shares 14 = .ok (.iload_n 3, 1) := by decide +kernel
theorem dX4_shares_15 : decode cX4_shares 15 = .ok (.ifCond .ne 13, 3) := by decide +kernel
theorem dX4_shares_18 : decode cX4_shares 18 = .ok (.aload_n 0, 1) := by decide +kernel
theorem dX4_shares_19 : decode cX4_shares 19 = .ok (.getfield 30, 3) := by decide +kernel
theorem dX4_shares_22 : decode cX4_shares 22 = .ok (.iload 4, 2) := by decide +kernel
theorem dX4_shares_24 : decode cX4_shares 24 = .ok (.baload, 1) := by decide +kernel
theorem dX4_shares_25 : decode cX4_shares 25 = .ok (.ifCond .eq 7, 3) := by decide +kernel
theorem dX4_shares_28 : decode cX4_shares 28 = .ok (.iconst 1, 1) := by decide +kernel
theorem dX4_shares_29 : decode cX4_shares 29 = .ok (.goto 4, 3) := by decide +kernel
theorem dX4_shares_32 : decode cX4_shares 32 = .ok (.iconst 0, 1) := by decide +kernel
theorem dX4_shares_33 : decode cX4_shares 33 = .ok (.istore_n 3, 1) := by decide +kernel
theorem dX4_shares_34 : decode cX4_shares 34 = .ok (.iinc 4 1, 3) := by decide +kernel
theorem dX4_shares_37 : decode cX4_shares 37 = .ok (.goto (-32), 3) := by decide +kernel
theorem dX4_shares_40 : decode cX4_shares 40 = .ok (.iload_n 3, 1) := by decide +kernel
theorem dX4_shares_41 : decode cX4_shares 41 = .ok (.ifCond .ne 5, 3) := by decide +kernel
theorem dX4_shares_44 : decode cX4_shares 44 = .ok (.iconst 0, 1) := by decide +kernel
theorem dX4_shares_45 : decode cX4_shares 45 = .ok (.ireturn, 1) := by decide +kernel
theorem dX4_shares_46 : decode cX4_shares 46 = .ok (.iload_n 1, 1) := by decide +kernel
theorem dX4_shares_47 : decode cX4_shares 47 = .ok (.iconst 3, 1) := by decide +kernel
theorem dX4_shares_48 : decode cX4_shares 48 = .ok (.if_icmp .ne 9, 3) := by decide +kernel
theorem dX4_shares_51 : decode cX4_shares 51 = .ok (.aload_n 0, 1) := by decide +kernel
theorem dX4_shares_52 : decode cX4_shares 52 = .ok (.iload_n 2, 1) := by decide +kernel
theorem dX4_shares_53 : decode cX4_shares 53 = .ok (.invokevirtual 115, 3) := by decide +kernel
theorem dX4_shares_56 : decode cX4_shares 56 = .ok (.ireturn, 1) := by decide +kernel
theorem dX4_shares_57 : decode cX4_shares 57 = .ok (.aload_n 0, 1) := by decide +kernel
theorem dX4_shares_58 : decode cX4_shares 58 = .ok (.iload_n 1, 1) := by decide +kernel
theorem dX4_shares_59 : decode cX4_shares 59 = .ok (.invokevirtual 118, 3) := by decide +kernel
theorem dX4_shares_62 : decode cX4_shares 62 = .ok (.aload_n 0, 1) := by decide +kernel
theorem dX4_shares_63 : decode cX4_shares 63 = .ok (.lconst 0, 1) := by decide +kernel
theorem dX4_shares_64 : decode cX4_shares 64 = .ok (.putfield 121, 3) := by decide +kernel
theorem dX4_shares_67 : decode cX4_shares 67 = .ok (.aload_n 0, 1) := by decide +kernel
theorem dX4_shares_68 : decode cX4_shares 68 = .ok (.lconst 1, 1) := by decide +kernel
theorem dX4_shares_69 : decode cX4_shares 69 = .ok (.putfield 125, 3) := by decide +kernel
theorem dX4_shares_72 : decode cX4_shares 72 = .ok (.iconst 0, 1) := by decide +kernel
theorem dX4_shares_73 : decode cX4_shares 73 = .ok (.istore 4, 2) := by decide +kernel
theorem dX4_shares_75 : decode cX4_shares 75 = .ok (.iload 4, 2) := by decide +kernel
theorem dX4_shares_77 : decode cX4_shares 77 = .ok (.aload_n 0, 1) := by decide +kernel
theorem dX4_shares_78 : decode cX4_shares 78 = .ok (.getfield 81, 3) := by decide +kernel
theorem dX4_shares_81 : decode cX4_shares 81 = .ok (.if_icmp .ge 80, 3) := by decide +kernel
theorem dX4_shares_84 : decode cX4_shares 84 = .ok (.aload_n 0, 1) := by decide +kernel
theorem dX4_shares_85 : decode cX4_shares 85 = .ok (.iload 4, 2) := by decide +kernel
theorem dX4_shares_87 : decode cX4_shares 87 = .ok (.iload_n 2, 1) := by decide +kernel
theorem dX4_shares_88 : decode cX4_shares 88 = .ok (.invokevirtual 128, 3) := by decide +kernel
theorem dX4_shares_91 : decode cX4_shares 91 = .ok (.lstore 5, 2) := by decide +kernel
theorem dX4_shares_93 : decode cX4_shares 93 = .ok (.aload_n 0, 1) := by decide +kernel
theorem dX4_shares_94 : decode cX4_shares 94 = .ok (.iload 4, 2) := by decide +kernel
theorem dX4_shares_96 : decode cX4_shares 96 = .ok (.iload_n 2, 1) := by decide +kernel
theorem dX4_shares_97 : decode cX4_shares 97 = .ok (.invokevirtual 131, 3) := by decide +kernel
theorem dX4_shares_100 : decode cX4_shares 100 = .ok (.lstore 7, 2) := by decide +kernel
theorem dX4_shares_102 : decode cX4_shares 102 = .ok (.lload 5, 2) := by decide +kernel
theorem dX4_shares_104 : decode cX4_shares 104 = .ok (.lconst 0, 1) := by decide +kernel
theorem dX4_shares_105 : decode cX4_shares 105 = .ok (.lcmp, 1) := by decide +kernel
theorem dX4_shares_106 : decode cX4_shares 106 = .ok (.ifCond .ne 12, 3) := by decide +kernel
theorem dX4_shares_109 : decode cX4_shares 109 = .ok (.lload 7, 2) := by decide +kernel
theorem dX4_shares_111 : decode cX4_shares 111 = .ok (.lconst 0, 1) := by decide +kernel
theorem dX4_shares_112 : decode cX4_shares 112 = .ok (.lcmp, 1) := by decide +kernel
theorem dX4_shares_113 : decode cX4_shares 113 = .ok (.ifCond .le 5, 3) := by decide +kernel
theorem dX4_shares_116 : decode cX4_shares 116 = .ok (.iconst 0, 1) := by decide +kernel
theorem dX4_shares_117 : decode cX4_shares 117 = .ok (.ireturn, 1) := by decide +kernel
theorem dX4_shares_118 : decode cX4_shares 118 = .ok (.lload 5, 2) := by decide +kernel
theorem dX4_shares_120 : decode cX4_shares 120 = .ok (.lconst 0, 1) := by decide +kernel
theorem dX4_shares_121 : decode cX4_shares 121 = .ok (.lcmp, 1) := by decide +kernel
theorem dX4_shares_122 : decode cX4_shares 122 = .ok (.ifCond .le 33, 3) := by decide +kernel
theorem dX4_shares_125 : decode cX4_shares 125 = .ok (.lload 7, 2) := by decide +kernel
theorem dX4_shares_127 : decode cX4_shares 127 = .ok (.aload_n 0, 1) := by decide +kernel
theorem dX4_shares_128 : decode cX4_shares 128 = .ok (.getfield 125, 3) := by decide +kernel
theorem dX4_shares_131 : decode cX4_shares 131 = .ok (.lmul, 1) := by decide +kernel
theorem dX4_shares_132 : decode cX4_shares 132 = .ok (.aload_n 0, 1) := by decide +kernel
theorem dX4_shares_133 : decode cX4_shares 133 = .ok (.getfield 121, 3) := by decide +kernel
theorem dX4_shares_136 : decode cX4_shares 136 = .ok (.lload 5, 2) := by decide +kernel
theorem dX4_shares_138 : decode cX4_shares 138 = .ok (.lmul, 1) := by decide +kernel
theorem dX4_shares_139 : decode cX4_shares 139 = .ok (.lcmp, 1) := by decide +kernel
theorem dX4_shares_140 : decode cX4_shares 140 = .ok (.ifCond .le 15, 3) := by decide +kernel
theorem dX4_shares_143 : decode cX4_shares 143 = .ok (.aload_n 0, 1) := by decide +kernel
theorem dX4_shares_144 : decode cX4_shares 144 = .ok (.lload 7, 2) := by decide +kernel
theorem dX4_shares_146 : decode cX4_shares 146 = .ok (.putfield 121, 3) := by decide +kernel
theorem dX4_shares_149 : decode cX4_shares 149 = .ok (.aload_n 0, 1) := by decide +kernel
theorem dX4_shares_150 : decode cX4_shares 150 = .ok (.lload 5, 2) := by decide +kernel
theorem dX4_shares_152 : decode cX4_shares 152 = .ok (.putfield 125, 3) := by decide +kernel
theorem dX4_shares_155 : decode cX4_shares 155 = .ok (.iinc 4 1, 3) := by decide +kernel
theorem dX4_shares_158 : decode cX4_shares 158 = .ok (.goto (-83), 3) := by decide +kernel
theorem dX4_shares_161 : decode cX4_shares 161 = .ok (.iconst 1, 1) := by decide +kernel
theorem dX4_shares_162 : decode cX4_shares 162 = .ok (.ireturn, 1) := by decide +kernel
theorem dX4_oneFor_0 : decode cX4_oneFor 0 = .ok (.aload_n 0, 1) := by decide +kernel
theorem dX4_oneFor_1 : decode cX4_oneFor 1 = .ok (.getfield 64, 3) := by decide +kernel
theorem dX4_oneFor_4 : decode cX4_oneFor 4 = .ok (.istore_n 3, 1) := by decide +kernel
theorem dX4_oneFor_5 : decode cX4_oneFor 5 = .ok (.iload_n 3, 1) := by decide +kernel
