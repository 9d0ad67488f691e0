theorem goodIn_nil {big : List Cond} : GoodIn big [] := fun _ h => absurd h List.not_mem_nil
theorem goodIn_c {big ws : List Cond} {w : Cond} (hm : w ∈ big) (hg : goodWord w = true) (h : GoodIn big ws) : GoodIn big (w :: ws) := fun x hx => (List.mem_cons.mp hx).elim (fun e => e ▸ ⟨hm, good_of_word hg⟩) (h x)
theorem dX0_init_0 : decode cX0_init 0 = .ok (.aload_n 0, 1) := by decide +kernel
theorem dX0_init_1 : decode cX0_init 1 = .ok (.invokespecial 3, 3) := by decide +kernel
theorem dX0_init_4 : decode cX0_init 4 = .ok (.aload_n 0, 1) := by decide +kernel
theorem dX0_init_5 : decode cX0_init 5 = .ok (.sipush 720, 3) := by decide +kernel
theorem dX0_init_8 : decode cX0_init 8 = .ok (.newarray .long, 2) := by decide +kernel
theorem dX0_init_10 : decode cX0_init 10 = .ok (.putfield 11, 3) := by decide +kernel
theorem dX0_init_13 : decode cX0_init 13 = .ok (.aload_n 0, 1) := by decide +kernel
theorem dX0_init_14 : decode cX0_init 14 = .ok (.sipush 144, 3) := by decide +kernel
theorem dX0_init_17 : decode cX0_init 17 = .ok (.newarray .int, 2) := by decide +kernel
theorem dX0_init_19 : decode cX0_init 19 = .ok (.putfield 15, 3) := by decide +kernel
theorem dX0_init_22 : decode cX0_init 22 = .ok (.aload_n 0, 1) := by decide +kernel
theorem dX0_init_23 : decode cX0_init 23 = .ok (.sipush 144, 3) := by decide +kernel
theorem dX0_init_26 : decode cX0_init 26 = .ok (.newarray .long, 2) := by decide +kernel
theorem dX0_init_28 : decode cX0_init 28 = .ok (.putfield 19, 3) := by decide +kernel
theorem dX0_init_31 : decode cX0_init 31 = .ok (.return_, 1) := by decide +kernel
set_option maxRecDepth 20000 in
theorem ggX0_build_X0_begin : GoodIn wsX0_build wsX0_begin := goodIn_r _ [8, 2, 9, 10, 1, 11, 12, 13, 14, 15, 16, 17, 18, 19, 20, 21, 22, 7, 23, 24, 76, 77, 78, 79, 80, 81, 82, 83, 72, 73, 74, 75] rfl (by decide +kernel)
set_option maxRecDepth 20000 in
theorem gX0_build_X0_begin : GoodIn wsX0_build (wsV RX0 38 RX0 yX0_begin wsX0_begin) := goodIn_app (goodIn_c (List.mem_of_getElem? (i := 4) rfl) rfl (goodIn_c (List.mem_of_getElem? (i := 5) rfl) rfl (goodIn_c (List.mem_of_getElem? (i := 6) rfl) rfl (goodIn_c (List.mem_of_getElem? (i := 7) rfl) rfl (goodIn_nil))))) ggX0_build_X0_begin
set_option maxRecDepth 20000 in
theorem ggX0_build_X0_cut : GoodIn wsX0_build wsX0_cut := goodIn_r _ [28, 9, 29, 24, 30, 31, 32, 7, 33, 1, 10, 16, 12, 17, 18, 19, 34, 35, 36, 37, 2, 38, 39, 40, 41, 3, 42, 43, 44, 45, 46, 47, 48, 49, 50, 51, 52, 53, 54, 55, 56, 57, 58, 59, 76, 77, 78, 79, 80, 81, 82, 83, 72, 73, 74, 75] rfl (by decide +kernel)
set_option maxRecDepth 20000 in
theorem gX0_build_X0_cut : GoodIn wsX0_build (wsV RX0 46 RX0 yX0_cut wsX0_cut) := goodIn_app (goodIn_c (List.mem_of_getElem? (i := 25) rfl) rfl (goodIn_c (List.mem_of_getElem? (i := 26) rfl) rfl (goodIn_c (List.mem_of_getElem? (i := 27) rfl) rfl (goodIn_c (List.mem_of_getElem? (i := 7) rfl) rfl (goodIn_nil))))) ggX0_build_X0_cut
set_option maxRecDepth 20000 in
theorem ggX0_build_X0_sort : GoodIn wsX0_build wsX0_sort := goodIn_r _ [63, 9, 64, 65, 66, 7, 67, 2, 10, 68, 69, 70, 71, 24, 76, 77, 78, 79, 80, 81, 82, 83] rfl (by decide +kernel)
set_option maxRecDepth 20000 in
theorem gX0_build_X0_sort : GoodIn wsX0_build (wsV RX0 49 RX0 yX0_sort wsX0_sort) := goodIn_app (goodIn_c (List.mem_of_getElem? (i := 60) rfl) rfl (goodIn_c (List.mem_of_getElem? (i := 61) rfl) rfl (goodIn_c (List.mem_of_getElem? (i := 62) rfl) rfl (goodIn_c (List.mem_of_getElem? (i := 7) rfl) rfl (goodIn_nil))))) ggX0_build_X0_sort
theorem dX0_build_0 : decode cX0_build 0 = .ok (.aload_n 0, 1) := by decide +kernel
theorem dX0_build_1 : decode cX0_build 1 = .ok (.aload_n 1, 1) := by decide +kernel
theorem dX0_build_2 : decode cX0_build 2 = .ok (.getfield 22, 3) := by decide +kernel
theorem dX0_build_5 : decode cX0_build 5 = .ok (.putfield 28, 3) := by decide +kernel
theorem dX0_build_8 : decode cX0_build 8 = .ok (.aload_n 0, 1) := by decide +kernel
theorem dX0_build_9 : decode cX0_build 9 = .ok (.aload_n 1, 1) := by decide +kernel
theorem dX0_build_10 : decode cX0_build 10 = .ok (.getfield 22, 3) := by decide +kernel
theorem dX0_build_13 : decode cX0_build 13 = .ok (.aload_n 1, 1) := by decide +kernel
theorem dX0_build_14 : decode cX0_build 14 = .ok (.getfield 29, 3) := by decide +kernel
theorem dX0_build_17 : decode cX0_build 17 = .ok (.iadd, 1) := by decide +kernel
theorem dX0_build_18 : decode cX0_build 18 = .ok (.putfield 32, 3) := by decide +kernel
theorem dX0_build_21 : decode cX0_build 21 = .ok (.aload_n 0, 1) := by decide +kernel
theorem dX0_build_22 : decode cX0_build 22 = .ok (.iload_n 2, 1) := by decide +kernel
theorem dX0_build_23 : decode cX0_build 23 = .ok (.ifCond .ne 10, 3) := by decide +kernel
theorem dX0_build_26 : decode cX0_build 26 = .ok (.aload_n 0, 1) := by decide +kernel
theorem dX0_build_27 : decode cX0_build 27 = .ok (.getfield 32, 3) := by decide +kernel
theorem dX0_build_30 : decode cX0_build 30 = .ok (.goto 9, 3) := by decide +kernel
theorem dX0_build_33 : decode cX0_build 33 = .ok (.aload_n 0, 1) := by decide +kernel
theorem dX0_build_34 : decode cX0_build 34 = .ok (.getfield 32, 3) := by decide +kernel
theorem dX0_build_37 : decode cX0_build 37 = .ok (.iconst 1, 1) := by decide +kernel
theorem dX0_build_38 : decode cX0_build 38 = .ok (.iadd, 1) := by decide +kernel
theorem dX0_build_39 : decode cX0_build 39 = .ok (.iconst 2, 1) := by decide +kernel
theorem dX0_build_40 : decode cX0_build 40 = .ok (.isub, 1) := by decide +kernel
theorem dX0_build_41 : decode cX0_build 41 = .ok (.putfield 35, 3) := by decide +kernel
theorem dX0_build_44 : decode cX0_build 44 = .ok (.aload_n 0, 1) := by decide +kernel
theorem dX0_build_45 : decode cX0_build 45 = .ok (.aload_n 1, 1) := by decide +kernel
theorem dX0_build_46 : decode cX0_build 46 = .ok (.iload_n 2, 1) := by decide +kernel
theorem dX0_build_47 : decode cX0_build 47 = .ok (.invokevirtual 38, 3) := by decide +kernel
theorem dX0_build_50 : decode cX0_build 50 = .ok (.iconst 0, 1) := by decide +kernel
theorem dX0_build_51 : decode cX0_build 51 = .ok (.istore_n 3, 1) := by decide +kernel
theorem dX0_build_52 : decode cX0_build 52 = .ok (.iload_n 3, 1) := by decide +kernel
theorem dX0_build_53 : decode cX0_build 53 = .ok (.bipush 12, 2) := by decide +kernel
theorem dX0_build_55 : decode cX0_build 55 = .ok (.if_icmp .ge 24, 3) := by decide +kernel
theorem dX0_build_58 : decode cX0_build 58 = .ok (.aload_n 1, 1) := by decide +kernel
theorem dX0_build_59 : decode cX0_build 59 = .ok (.getfield 42, 3) := by decide +kernel
theorem dX0_build_62 : decode cX0_build 62 = .ok (.iload_n 3, 1) := by decide +kernel
theorem dX0_build_63 : decode cX0_build 63 = .ok (.baload, 1) := by decide +kernel
theorem dX0_build_64 : decode cX0_build 64 = .ok (.ifCond .eq 9, 3) := by decide +kernel
theorem dX0_build_67 : decode cX0_build 67 = .ok (.aload_n 0, 1) := by decide +kernel
theorem dX0_build_68 : decode cX0_build 68 = .ok (.aload_n 1, 1) := by decide +kernel
theorem dX0_build_69 : decode cX0_build 69 = .ok (.iload_n 3, 1) := by decide +kernel
theorem dX0_build_70 : decode cX0_build 70 = .ok (.invokevirtual 46, 3) := by decide +kernel
theorem dX0_build_73 : decode cX0_build 73 = .ok (.iinc 3 1, 3) := by decide +kernel
theorem dX0_build_76 : decode cX0_build 76 = .ok (.goto (-24), 3) := by decide +kernel
theorem dX0_build_79 : decode cX0_build 79 = .ok (.aload_n 0, 1) := by decide +kernel
theorem dX0_build_80 : decode cX0_build 80 = .ok (.invokevirtual 49, 3) := by decide +kernel
theorem dX0_build_83 : decode cX0_build 83 = .ok (.return_, 1) := by decide +kernel
set_option maxRecDepth 20000 in
theorem ggX0_begin_X2_firstPart : GoodIn wsX0_begin wsX2_firstPart := goodIn_r _ [8, 9, 28, 29, 30, 31] rfl (by decide +kernel)
set_option maxRecDepth 20000 in
theorem gX0_begin_X2_firstPart_n52 : GoodIn wsX0_begin (wsX2_firstPart) := ggX0_begin_X2_firstPart
set_option maxRecDepth 20000 in
theorem ggX0_begin_X2_of : GoodIn wsX0_begin wsX2_of := goodIn_r _ [12, 13, 28, 29, 30, 31] rfl (by decide +kernel)
set_option maxRecDepth 20000 in
theorem gX0_begin_X2_of_n59 : GoodIn wsX0_begin (wsX2_of) := ggX0_begin_X2_of
set_option maxRecDepth 20000 in
theorem ggX0_begin_X0_addAxis : GoodIn wsX0_begin wsX0_addAxis := goodIn_r _ [18, 3, 2, 19, 20, 21, 22, 23, 24, 25, 26, 27] rfl (by decide +kernel)
set_option maxRecDepth 20000 in
theorem gX0_begin_X0_addAxis : GoodIn wsX0_begin (wsV RX0 63 RX0 yX0_addAxis wsX0_addAxis) := goodIn_app (goodIn_c (List.mem_of_getElem? (i := 14) rfl) rfl (goodIn_c (List.mem_of_getElem? (i := 15) rfl) rfl (goodIn_c (List.mem_of_getElem? (i := 16) rfl) rfl (goodIn_c (List.mem_of_getElem? (i := 17) rfl) rfl (goodIn_nil))))) ggX0_begin_X0_addAxis
theorem dX0_begin_0 : decode cX0_begin 0 = .ok (.iconst 1, 1) := by decide +kernel
theorem dX0_begin_1 : decode cX0_begin 1 = .ok (.aload_n 0, 1) := by decide +kernel
theorem dX0_begin_2 : decode cX0_begin 2 = .ok (.getfield 32, 3) := by decide +kernel
theorem dX0_begin_5 : decode cX0_begin 5 = .ok (.ishl, 1) := by decide +kernel
theorem dX0_begin_6 : decode cX0_begin 6 = .ok (.iconst 1, 1) := by decide +kernel
theorem dX0_begin_7 : decode cX0_begin 7 = .ok (.isub, 1) := by decide +kernel
theorem dX0_begin_8 : decode cX0_begin 8 = .ok (.istore_n 3, 1) := by decide +kernel
theorem dX0_begin_9 : decode cX0_begin 9 = .ok (.iload_n 2, 1) := by decide +kernel
theorem dX0_begin_10 : decode cX0_begin 10 = .ok (.iconst 1, 1) := by decide +kernel
theorem dX0_begin_11 : decode cX0_begin 11 = .ok (.if_icmp .ne 12, 3) := by decide +kernel
theorem dX0_begin_14 : decode cX0_begin 14 = .ok (.iconst 1, 1) := by decide +kernel
theorem dX0_begin_15 : decode cX0_begin 15 = .ok (.aload_n 0, 1) := by decide +kernel
theorem dX0_begin_16 : decode cX0_begin 16 = .ok (.getfield 32, 3) := by decide +kernel
theorem dX0_begin_19 : decode cX0_begin 19 = .ok (.ishl, 1) := by decide +kernel
theorem dX0_begin_20 : decode cX0_begin 20 = .ok (.goto 4, 3) := by decide +kernel
theorem dX0_begin_23 : decode cX0_begin 23 = .ok (.iconst 0, 1) := by decide +kernel
theorem dX0_begin_24 : decode cX0_begin 24 = .ok (.istore 4, 2) := by decide +kernel
theorem dX0_begin_26 : decode cX0_begin 26 = .ok (.iload_n 2, 1) := by decide +kernel
theorem dX0_begin_27 : decode cX0_begin 27 = .ok (.iconst 2, 1) := by decide +kernel
theorem dX0_begin_28 : decode cX0_begin 28 = .ok (.if_icmp .ne 10, 3) := by decide +kernel
theorem dX0_begin_31 : decode cX0_begin 31 = .ok (.aload_n 1, 1) := by decide +kernel
theorem dX0_begin_32 : decode cX0_begin 32 = .ok (.invokevirtual 52, 3) := by decide +kernel
theorem dX0_begin_35 : decode cX0_begin 35 = .ok (.goto 4, 3) := by decide +kernel
theorem dX0_begin_38 : decode cX0_begin 38 = .ok (.iconst (-1), 1) := by decide +kernel
theorem dX0_begin_39 : decode cX0_begin 39 = .ok (.istore 5, 2) := by decide +kernel
theorem dX0_begin_41 : decode cX0_begin 41 = .ok (.aload_n 0, 1) := by decide +kernel
theorem dX0_begin_42 : decode cX0_begin 42 = .ok (.iconst 0, 1) := by decide +kernel
theorem dX0_begin_43 : decode cX0_begin 43 = .ok (.putfield 56, 3) := by decide +kernel
theorem dX0_begin_46 : decode cX0_begin 46 = .ok (.iconst 0, 1) := by decide +kernel
theorem dX0_begin_47 : decode cX0_begin 47 = .ok (.istore 6, 2) := by decide +kernel
theorem dX0_begin_49 : decode cX0_begin 49 = .ok (.iload 6, 2) := by decide +kernel
theorem dX0_begin_51 : decode cX0_begin 51 = .ok (.aload_n 0, 1) := by decide +kernel
theorem dX0_begin_52 : decode cX0_begin 52 = .ok (.getfield 32, 3) := by decide +kernel
theorem dX0_begin_55 : decode cX0_begin 55 = .ok (.if_icmp .ge 84, 3) := by decide +kernel
theorem dX0_begin_58 : decode cX0_begin 58 = .ok (.iload 5, 2) := by decide +kernel
theorem dX0_begin_60 : decode cX0_begin 60 = .ok (.iconst (-1), 1) := by decide +kernel
theorem dX0_begin_61 : decode cX0_begin 61 = .ok (.if_icmp .ne 7, 3) := by decide +kernel
theorem dX0_begin_64 : decode cX0_begin 64 = .ok (.iconst 0, 1) := by decide +kernel
theorem dX0_begin_65 : decode cX0_begin 65 = .ok (.goto 11, 3) := by decide +kernel
theorem dX0_begin_68 : decode cX0_begin 68 = .ok (.aload_n 1, 1) := by decide +kernel
theorem dX0_begin_69 : decode cX0_begin 69 = .ok (.iload 5, 2) := by decide +kernel
theorem dX0_begin_71 : decode cX0_begin 71 = .ok (.iload 6, 2) := by decide +kernel
theorem dX0_begin_73 : decode cX0_begin 73 = .ok (.invokevirtual 59, 3) := by decide +kernel
theorem dX0_begin_76 : decode cX0_begin 76 = .ok (.istore 7, 2) := by decide +kernel
theorem dX0_begin_78 : decode cX0_begin 78 = .ok (.aload_n 0, 1) := by decide +kernel
theorem dX0_begin_79 : decode cX0_begin 79 = .ok (.iload 6, 2) := by decide +kernel
theorem dX0_begin_81 : decode cX0_begin 81 = .ok (.iconst 1, 1) := by decide +kernel
theorem dX0_begin_82 : decode cX0_begin 82 = .ok (.iload_n 3, 1) := by decide +kernel
theorem dX0_begin_83 : decode cX0_begin 83 = .ok (.iconst 1, 1) := by decide +kernel
theorem dX0_begin_84 : decode cX0_begin 84 = .ok (.iload 6, 2) := by decide +kernel
theorem dX0_begin_86 : decode cX0_begin 86 = .ok (.ishl, 1) := by decide +kernel
theorem dX0_begin_87 : decode cX0_begin 87 = .ok (.iconst (-1), 1) := by decide +kernel
theorem dX0_begin_88 : decode cX0_begin 88 = .ok (.ixor, 1) := by decide +kernel
theorem dX0_begin_89 : decode cX0_begin 89 = .ok (.iand, 1) := by decide +kernel
theorem dX0_begin_90 : decode cX0_begin 90 = .ok (.iload 4, 2) := by decide +kernel
theorem dX0_begin_92 : decode cX0_begin 92 = .ok (.ior, 1) := by decide +kernel
theorem dX0_begin_93 : decode cX0_begin 93 = .ok (.invokevirtual 63, 3) := by decide +kernel
theorem dX0_begin_96 : decode cX0_begin 96 = .ok (.aload_n 0, 1) := by decide +kernel
theorem dX0_begin_97 : decode cX0_begin 97 = .ok (.getfield 11, 3) := by decide +kernel
theorem dX0_begin_100 : decode cX0_begin 100 = .ok (.aload_n 0, 1) := by decide +kernel
theorem dX0_begin_101 : decode cX0_begin 101 = .ok (.getfield 56, 3) := by decide +kernel
theorem dX0_begin_104 : decode cX0_begin 104 = .ok (.iconst 1, 1) := by decide +kernel
theorem dX0_begin_105 : decode cX0_begin 105 = .ok (.isub, 1) := by decide +kernel
theorem dX0_begin_106 : decode cX0_begin 106 = .ok (.iconst 5, 1) := by decide +kernel
theorem dX0_begin_107 : decode cX0_begin 107 = .ok (.imul, 1) := by decide +kernel
theorem dX0_begin_108 : decode cX0_begin 108 = .ok (.aload_n 0, 1) := by decide +kernel
theorem dX0_begin_109 : decode cX0_begin 109 = .ok (.getfield 32, 3) := by decide +kernel
theorem dX0_begin_112 : decode cX0_begin 112 = .ok (.iadd, 1) := by decide +kernel
theorem dX0_begin_113 : decode cX0_begin 113 = .ok (.iload 6, 2) := by decide +kernel
theorem dX0_begin_115 : decode cX0_begin 115 = .ok (.aload_n 0, 1) := by decide +kernel
theorem dX0_begin_116 : decode cX0_begin 116 = .ok (.getfield 28, 3) := by decide +kernel
theorem dX0_begin_119 : decode cX0_begin 119 = .ok (.if_icmp .ge 9, 3) := by decide +kernel
theorem dX0_begin_122 : decode cX0_begin 122 = .ok (.iload 7, 2) := by decide +kernel
theorem dX0_begin_124 : decode cX0_begin 124 = .ok (.i2l, 1) := by decide +kernel
theorem dX0_begin_125 : decode cX0_begin 125 = .ok (.goto 7, 3) := by decide +kernel
theorem dX0_begin_128 : decode cX0_begin 128 = .ok (.iload 7, 2) := by decide +kernel
theorem dX0_begin_130 : decode cX0_begin 130 = .ok (.ineg, 1) := by decide +kernel
theorem dX0_begin_131 : decode cX0_begin 131 = .ok (.i2l, 1) := by decide +kernel
theorem dX0_begin_132 : decode cX0_begin 132 = .ok (.lastore, 1) := by decide +kernel
theorem dX0_begin_133 : decode cX0_begin 133 = .ok (.iinc 6 1, 3) := by decide +kernel
theorem dX0_begin_136 : decode cX0_begin 136 = .ok (.goto (-87), 3) := by decide +kernel
theorem dX0_begin_139 : decode cX0_begin 139 = .ok (.iload_n 2, 1) := by decide +kernel
theorem dX0_begin_140 : decode cX0_begin 140 = .ok (.ifCond .eq 13, 3) := by decide +kernel
theorem dX0_begin_143 : decode cX0_begin 143 = .ok (.aload_n 0, 1) := by decide +kernel
theorem dX0_begin_144 : decode cX0_begin 144 = .ok (.aload_n 0, 1) := by decide +kernel
theorem dX0_begin_145 : decode cX0_begin 145 = .ok (.getfield 32, 3) := by decide +kernel
theorem dX0_begin_148 : decode cX0_begin 148 = .ok (.iconst (-1), 1) := by decide +kernel
theorem dX0_begin_149 : decode cX0_begin 149 = .ok (.iload_n 3, 1) := by decide +kernel
theorem dX0_begin_150 : decode cX0_begin 150 = .ok (.invokevirtual 63, 3) := by decide +kernel
theorem dX0_begin_153 : decode cX0_begin 153 = .ok (.return_, 1) := by decide +kernel
theorem dX0_addAxis_0 : decode cX0_addAxis 0 = .ok (.iconst 0, 1) := by decide +kernel
theorem dX0_addAxis_1 : decode cX0_addAxis 1 = .ok (.istore 4, 2) := by decide +kernel
theorem dX0_addAxis_3 : decode cX0_addAxis 3 = .ok (.iload 4, 2) := by decide +kernel
theorem dX0_addAxis_5 : decode cX0_addAxis 5 = .ok (.iconst 5, 1) := by decide +kernel
theorem dX0_addAxis_6 : decode cX0_addAxis 6 = .ok (.if_icmp .ge 35, 3) := by decide +kernel
theorem dX0_addAxis_9 : decode cX0_addAxis 9 = .ok (.aload_n 0, 1) := by decide +kernel
theorem dX0_addAxis_10 : decode cX0_addAxis 10 = .ok (.getfield 11, 3) := by decide +kernel
theorem dX0_addAxis_13 : decode cX0_addAxis 13 = .ok (.aload_n 0, 1) := by decide +kernel
theorem dX0_addAxis_14 : decode cX0_addAxis 14 = .ok (.getfield 56, 3) := by decide +kernel
theorem dX0_addAxis_17 : decode cX0_addAxis 17 = .ok (.iconst 5, 1) := by decide +kernel
theorem dX0_addAxis_18 : decode cX0_addAxis 18 = .ok (.imul, 1) := by decide +kernel
theorem dX0_addAxis_19 : decode cX0_addAxis 19 = .ok (.iload 4, 2) := by decide +kernel
theorem dX0_addAxis_21 : decode cX0_addAxis 21 = .ok (.iadd, 1) := by decide +kernel
theorem dX0_addAxis_22 : decode cX0_addAxis 22 = .ok (.iload 4, 2) := by decide +kernel
theorem dX0_addAxis_24 : decode cX0_addAxis 24 = .ok (.iload_n 1, 1) := by decide +kernel
theorem dX0_addAxis_25 : decode cX0_addAxis 25 = .ok (.if_icmp .ne 8, 3) := by decide +kernel
theorem dX0_addAxis_28 : decode cX0_addAxis 28 = .ok (.iload_n 2, 1) := by decide +kernel
theorem dX0_addAxis_29 : decode cX0_addAxis 29 = .ok (.i2l, 1) := by decide +kernel
theorem dX0_addAxis_30 : decode cX0_addAxis 30 = .ok (.goto 4, 3) := by decide +kernel
theorem dX0_addAxis_33 : decode cX0_addAxis 33 = .ok (.lconst 0, 1) := by decide +kernel
theorem dX0_addAxis_34 : decode cX0_addAxis 34 = .ok (.lastore, 1) := by decide +kernel
theorem dX0_addAxis_35 : decode cX0_addAxis 35 = .ok (.iinc 4 1, 3) := by decide +kernel
theorem dX0_addAxis_38 : decode cX0_addAxis 38 = .ok (.goto (-35), 3) := by decide +kernel
theorem dX0_addAxis_41 : decode cX0_addAxis 41 = .ok (.aload_n 0, 1) := by decide +kernel
theorem dX0_addAxis_42 : decode cX0_addAxis 42 = .ok (.getfield 15, 3) := by decide +kernel
theorem dX0_addAxis_45 : decode cX0_addAxis 45 = .ok (.aload_n 0, 1) := by decide +kernel
theorem dX0_addAxis_46 : decode cX0_addAxis 46 = .ok (.getfield 56, 3) := by decide +kernel
theorem dX0_addAxis_49 : decode cX0_addAxis 49 = .ok (.iload_n 3, 1) := by decide +kernel
theorem dX0_addAxis_50 : decode cX0_addAxis 50 = .ok (.iastore, 1) := by decide +kernel
theorem dX0_addAxis_51 : decode cX0_addAxis 51 = .ok (.aload_n 0, 1) := by decide +kernel
theorem dX0_addAxis_52 : decode cX0_addAxis 52 = .ok (.dup, 1) := by decide +kernel
theorem dX0_addAxis_53 : decode cX0_addAxis 53 = .ok (.getfield 56, 3) := by decide +kernel
theorem dX0_addAxis_56 : decode cX0_addAxis 56 = .ok (.iconst 1, 1) := by decide +kernel
theorem dX0_addAxis_57 : decode cX0_addAxis 57 = .ok (.iadd, 1) := by decide +kernel
theorem dX0_addAxis_58 : decode cX0_addAxis 58 = .ok (.putfield 56, 3) := by decide +kernel
theorem dX0_addAxis_61 : decode cX0_addAxis 61 = .ok (.return_, 1) := by decide +kernel
set_option maxRecDepth 20000 in
theorem ggX0_cut_X0_insWeighed : GoodIn wsX0_cut wsX0_insWeighed := goodIn_r _ [8, 9, 10, 11, 12, 13, 14, 15, 44, 45, 46, 47, 48, 49, 50, 51, 52, 53, 54, 55] rfl (by decide +kernel)
set_option maxRecDepth 20000 in
theorem gX0_cut_X0_insWeighed : GoodIn wsX0_cut (wsV RX0 67 RX0 yX0_insWeighed wsX0_insWeighed) := goodIn_app (goodIn_c (List.mem_of_getElem? (i := 4) rfl) rfl (goodIn_c (List.mem_of_getElem? (i := 5) rfl) rfl (goodIn_c (List.mem_of_getElem? (i := 6) rfl) rfl (goodIn_c (List.mem_of_getElem? (i := 7) rfl) rfl (goodIn_nil))))) ggX0_cut_X0_insWeighed
set_option maxRecDepth 20000 in
theorem ggX0_cut_X0_outsWeighed : GoodIn wsX0_cut wsX0_outsWeighed := goodIn_r _ [19, 10, 20, 9, 11, 12, 13, 14, 15, 44, 45, 46, 47, 48, 49, 50, 51, 52, 53, 54, 55] rfl (by decide +kernel)
set_option maxRecDepth 20000 in
theorem gX0_cut_X0_outsWeighed : GoodIn wsX0_cut (wsV RX0 71 RX0 yX0_outsWeighed wsX0_outsWeighed) := goodIn_app (goodIn_c (List.mem_of_getElem? (i := 16) rfl) rfl (goodIn_c (List.mem_of_getElem? (i := 17) rfl) rfl (goodIn_c (List.mem_of_getElem? (i := 18) rfl) rfl (goodIn_c (List.mem_of_getElem? (i := 7) rfl) rfl (goodIn_nil))))) ggX0_cut_X0_outsWeighed
set_option maxRecDepth 20000 in
theorem ggX0_cut_X0_areNeighbours : GoodIn wsX0_cut wsX0_areNeighbours := goodIn_r _ [24, 3, 25, 26, 27, 28, 29, 30, 31, 32, 44, 45, 46, 47, 48, 49, 50, 51] rfl (by decide +kernel)
set_option maxRecDepth 20000 in
theorem gX0_cut_X0_areNeighbours : GoodIn wsX0_cut (wsV RX0 74 RX0 yX0_areNeighbours wsX0_areNeighbours) := goodIn_app (goodIn_c (List.mem_of_getElem? (i := 21) rfl) rfl (goodIn_c (List.mem_of_getElem? (i := 22) rfl) rfl (goodIn_c (List.mem_of_getElem? (i := 23) rfl) rfl (goodIn_c (List.mem_of_getElem? (i := 7) rfl) rfl (goodIn_nil))))) ggX0_cut_X0_areNeighbours
set_option maxRecDepth 20000 in
theorem ggX0_cut_X0_join : GoodIn wsX0_cut wsX0_join := goodIn_r _ [36, 1, 20, 2, 10, 3, 37, 38, 39, 44, 45, 46, 47, 48, 49, 50, 51] rfl (by decide +kernel)
set_option maxRecDepth 20000 in
theorem gX0_cut_X0_join : GoodIn wsX0_cut (wsV RX0 78 RX0 yX0_join wsX0_join) := goodIn_app (goodIn_c (List.mem_of_getElem? (i := 33) rfl) rfl (goodIn_c (List.mem_of_getElem? (i := 34) rfl) rfl (goodIn_c (List.mem_of_getElem? (i := 35) rfl) rfl (goodIn_c (List.mem_of_getElem? (i := 7) rfl) rfl (goodIn_nil))))) ggX0_cut_X0_join
set_option maxRecDepth 20000 in
theorem ggX0_cut_X0_move : GoodIn wsX0_cut wsX0_move := goodIn_r _ [43, 20, 10, 3, 44, 45, 46, 47, 48, 49, 50, 51] rfl (by decide +kernel)
set_option maxRecDepth 20000 in
theorem gX0_cut_X0_move : GoodIn wsX0_cut (wsV RX0 81 RX0 yX0_move wsX0_move) := goodIn_app (goodIn_c (List.mem_of_getElem? (i := 40) rfl) rfl (goodIn_c (List.mem_of_getElem? (i := 41) rfl) rfl (goodIn_c (List.mem_of_getElem? (i := 42) rfl) rfl (goodIn_c (List.mem_of_getElem? (i := 7) rfl) rfl (goodIn_nil))))) ggX0_cut_X0_move
theorem dX0_cut_0 : decode cX0_cut 0 = .ok (.iconst 1, 1) := by decide +kernel
theorem dX0_cut_1 : decode cX0_cut 1 = .ok (.iconst 5, 1) := by decide +kernel
theorem dX0_cut_2 : decode cX0_cut 2 = .ok (.iload_n 2, 1) := by decide +kernel
theorem dX0_cut_3 : decode cX0_cut 3 = .ok (.iadd, 1) := by decide +kernel
theorem dX0_cut_4 : decode cX0_cut 4 = .ok (.ishl, 1) := by decide +kernel
theorem dX0_cut_5 : decode cX0_cut 5 = .ok (.istore_n 3, 1) := by decide +kernel
theorem dX0_cut_6 : decode cX0_cut 6 = .ok (.aload_n 0, 1) := by decide +kernel
theorem dX0_cut_7 : decode cX0_cut 7 = .ok (.getfield 56, 3) := by decide +kernel
theorem dX0_cut_10 : decode cX0_cut 10 = .ok (.istore 4, 2) := by decide +kernel
theorem dX0_cut_12 : decode cX0_cut 12 = .ok (.iconst 0, 1) := by decide +kernel
theorem dX0_cut_13 : decode cX0_cut 13 = .ok (.istore 5, 2) := by decide +kernel
theorem dX0_cut_15 : decode cX0_cut 15 = .ok (.iload 5, 2) := by decide +kernel
theorem dX0_cut_17 : decode cX0_cut 17 = .ok (.iload 4, 2) := by decide +kernel
theorem dX0_cut_19 : decode cX0_cut 19 = .ok (.if_icmp .ge 33, 3) := by decide +kernel
theorem dX0_cut_22 : decode cX0_cut 22 = .ok (.aload_n 0, 1) := by decide +kernel
theorem dX0_cut_23 : decode cX0_cut 23 = .ok (.getfield 19, 3) := by decide +kernel
theorem dX0_cut_26 : decode cX0_cut 26 = .ok (.iload 5, 2) := by decide +kernel
theorem dX0_cut_28 : decode cX0_cut 28 = .ok (.aload_n 0, 1) := by decide +kernel
theorem dX0_cut_29 : decode cX0_cut 29 = .ok (.iload 5, 2) := by decide +kernel
theorem dX0_cut_31 : decode cX0_cut 31 = .ok (.aload_n 1, 1) := by decide +kernel
theorem dX0_cut_32 : decode cX0_cut 32 = .ok (.iload_n 2, 1) := by decide +kernel
theorem dX0_cut_33 : decode cX0_cut 33 = .ok (.invokevirtual 67, 3) := by decide +kernel
theorem dX0_cut_36 : decode cX0_cut 36 = .ok (.aload_n 0, 1) := by decide +kernel
theorem dX0_cut_37 : decode cX0_cut 37 = .ok (.iload 5, 2) := by decide +kernel
theorem dX0_cut_39 : decode cX0_cut 39 = .ok (.aload_n 1, 1) := by decide +kernel
theorem dX0_cut_40 : decode cX0_cut 40 = .ok (.iload_n 2, 1) := by decide +kernel
theorem dX0_cut_41 : decode cX0_cut 41 = .ok (.invokevirtual 71, 3) := by decide +kernel
theorem dX0_cut_44 : decode cX0_cut 44 = .ok (.lsub, 1) := by decide +kernel
theorem dX0_cut_45 : decode cX0_cut 45 = .ok (.lastore, 1) := by decide +kernel
theorem dX0_cut_46 : decode cX0_cut 46 = .ok (.iinc 5 1, 3) := by decide +kernel
theorem dX0_cut_49 : decode cX0_cut 49 = .ok (.goto (-34), 3) := by decide +kernel
theorem dX0_cut_52 : decode cX0_cut 52 = .ok (.iconst 0, 1) := by decide +kernel
theorem dX0_cut_53 : decode cX0_cut 53 = .ok (.istore 5, 2) := by decide +kernel
theorem dX0_cut_55 : decode cX0_cut 55 = .ok (.iload 5, 2) := by decide +kernel
theorem dX0_cut_57 : decode cX0_cut 57 = .ok (.iload 4, 2) := by decide +kernel
theorem dX0_cut_59 : decode cX0_cut 59 = .ok (.if_icmp .ge 71, 3) := by decide +kernel
theorem dX0_cut_62 : decode cX0_cut 62 = .ok (.iconst 0, 1) := by decide +kernel
theorem dX0_cut_63 : decode cX0_cut 63 = .ok (.istore 6, 2) := by decide +kernel
theorem dX0_cut_65 : decode cX0_cut 65 = .ok (.aload_n 0, 1) := by decide +kernel
theorem dX0_cut_66 : decode cX0_cut 66 = .ok (.getfield 19, 3) := by decide +kernel
theorem dX0_cut_69 : decode cX0_cut 69 = .ok (.iload 5, 2) := by decide +kernel
theorem dX0_cut_71 : decode cX0_cut 71 = .ok (.laload, 1) := by decide +kernel
theorem dX0_cut_72 : decode cX0_cut 72 = .ok (.lconst 0, 1) := by decide +kernel
theorem dX0_cut_73 : decode cX0_cut 73 = .ok (.lcmp, 1) := by decide +kernel
theorem dX0_cut_74 : decode cX0_cut 74 = .ok (.ifCond .le 50, 3) := by decide +kernel
theorem dX0_cut_77 : decode cX0_cut 77 = .ok (.iload 6, 2) := by decide +kernel
theorem dX0_cut_79 : decode cX0_cut 79 = .ok (.iload 4, 2) := by decide +kernel
theorem dX0_cut_81 : decode cX0_cut 81 = .ok (.if_icmp .ge 43, 3) := by decide +kernel
theorem dX0_cut_84 : decode cX0_cut 84 = .ok (.aload_n 0, 1) := by decide +kernel
theorem dX0_cut_85 : decode cX0_cut 85 = .ok (.getfield 19, 3) := by decide +kernel
theorem dX0_cut_88 : decode cX0_cut 88 = .ok (.iload 6, 2) := by decide +kernel
theorem dX0_cut_90 : decode cX0_cut 90 = .ok (.laload, 1) := by decide +kernel
theorem dX0_cut_91 : decode cX0_cut 91 = .ok (.lconst 0, 1) := by decide +kernel
theorem dX0_cut_92 : decode cX0_cut 92 = .ok (.lcmp, 1) := by decide +kernel
theorem dX0_cut_93 : decode cX0_cut 93 = .ok (.ifCond .ge 25, 3) := by decide +kernel
theorem dX0_cut_96 : decode cX0_cut 96 = .ok (.aload_n 0, 1) := by decide +kernel
theorem dX0_cut_97 : decode cX0_cut 97 = .ok (.iload 5, 2) := by decide +kernel
theorem dX0_cut_99 : decode cX0_cut 99 = .ok (.iload 6, 2) := by decide +kernel
theorem dX0_cut_101 : decode cX0_cut 101 = .ok (.iload 4, 2) := by decide +kernel
theorem dX0_cut_103 : decode cX0_cut 103 = .ok (.invokevirtual 74, 3) := by decide +kernel
theorem dX0_cut_106 : decode cX0_cut 106 = .ok (.ifCond .eq 12, 3) := by decide +kernel
theorem dX0_cut_109 : decode cX0_cut 109 = .ok (.aload_n 0, 1) := by decide +kernel
theorem dX0_cut_110 : decode cX0_cut 110 = .ok (.iload 5, 2) := by decide +kernel
theorem dX0_cut_112 : decode cX0_cut 112 = .ok (.iload 6, 2) := by decide +kernel
theorem dX0_cut_114 : decode cX0_cut 114 = .ok (.iload_n 3, 1) := by decide +kernel
theorem dX0_cut_115 : decode cX0_cut 115 = .ok (.invokevirtual 78, 3) := by decide +kernel
theorem dX0_cut_118 : decode cX0_cut 118 = .ok (.iinc 6 1, 3) := by decide +kernel
theorem dX0_cut_121 : decode cX0_cut 121 = .ok (.goto (-56), 3) := by decide +kernel
theorem dX0_cut_124 : decode cX0_cut 124 = .ok (.iinc 5 1, 3) := by decide +kernel
theorem dX0_cut_127 : decode cX0_cut 127 = .ok (.goto (-72), 3) := by decide +kernel
theorem dX0_cut_130 : decode cX0_cut 130 = .ok (.iconst 0, 1) := by decide +kernel
theorem dX0_cut_131 : decode cX0_cut 131 = .ok (.istore 5, 2) := by decide +kernel
theorem dX0_cut_133 : decode cX0_cut 133 = .ok (.iconst 0, 1) := by decide +kernel
theorem dX0_cut_134 : decode cX0_cut 134 = .ok (.istore 6, 2) := by decide +kernel
theorem dX0_cut_136 : decode cX0_cut 136 = .ok (.iload 6, 2) := by decide +kernel
theorem dX0_cut_138 : decode cX0_cut 138 = .ok (.aload_n 0, 1) := by decide +kernel
theorem dX0_cut_139 : decode cX0_cut 139 = .ok (.getfield 56, 3) := by decide +kernel
theorem dX0_cut_142 : decode cX0_cut 142 = .ok (.if_icmp .ge 69, 3) := by decide +kernel
theorem dX0_cut_145 : decode cX0_cut 145 = .ok (.iload 6, 2) := by decide +kernel
theorem dX0_cut_147 : decode cX0_cut 147 = .ok (.iload 4, 2) := by decide +kernel
theorem dX0_cut_149 : decode cX0_cut 149 = .ok (.if_icmp .ge 15, 3) := by decide +kernel
theorem dX0_cut_152 : decode cX0_cut 152 = .ok (.aload_n 0, 1) := by decide +kernel
theorem dX0_cut_153 : decode cX0_cut 153 = .ok (.getfield 19, 3) := by decide +kernel
theorem dX0_cut_156 : decode cX0_cut 156 = .ok (.iload 6, 2) := by decide +kernel
theorem dX0_cut_158 : decode cX0_cut 158 = .ok (.laload, 1) := by decide +kernel
theorem dX0_cut_159 : decode cX0_cut 159 = .ok (.lconst 0, 1) := by decide +kernel
theorem dX0_cut_160 : decode cX0_cut 160 = .ok (.lcmp, 1) := by decide +kernel
theorem dX0_cut_161 : decode cX0_cut 161 = .ok (.ifCond .lt 44, 3) := by decide +kernel
theorem dX0_cut_164 : decode cX0_cut 164 = .ok (.iload 6, 2) := by decide +kernel
theorem dX0_cut_166 : decode cX0_cut 166 = .ok (.iload 4, 2) := by decide +kernel
theorem dX0_cut_168 : decode cX0_cut 168 = .ok (.if_icmp .ge 26, 3) := by decide +kernel
theorem dX0_cut_171 : decode cX0_cut 171 = .ok (.aload_n 0, 1) := by decide +kernel
theorem dX0_cut_172 : decode cX0_cut 172 = .ok (.getfield 19, 3) := by decide +kernel
theorem dX0_cut_175 : decode cX0_cut 175 = .ok (.iload 6, 2) := by decide +kernel
theorem dX0_cut_177 : decode cX0_cut 177 = .ok (.laload, 1) := by decide +kernel
theorem dX0_cut_178 : decode cX0_cut 178 = .ok (.lconst 0, 1) := by decide +kernel
theorem dX0_cut_179 : decode cX0_cut 179 = .ok (.lcmp, 1) := by decide +kernel
theorem dX0_cut_180 : decode cX0_cut 180 = .ok (.ifCond .ne 14, 3) := by decide +kernel
theorem dX0_cut_183 : decode cX0_cut 183 = .ok (.aload_n 0, 1) := by decide +kernel
theorem dX0_cut_184 : decode cX0_cut 184 = .ok (.getfield 15, 3) := by decide +kernel
theorem dX0_cut_187 : decode cX0_cut 187 = .ok (.iload 6, 2) := by decide +kernel
theorem dX0_cut_189 : decode cX0_cut 189 = .ok (.dup2, 1) := by decide +kernel
theorem dX0_cut_190 : decode cX0_cut 190 = .ok (.iaload, 1) := by decide +kernel
theorem dX0_cut_191 : decode cX0_cut 191 = .ok (.iload_n 3, 1) := by decide +kernel
theorem dX0_cut_192 : decode cX0_cut 192 = .ok (.ior, 1) := by decide +kernel
theorem dX0_cut_193 : decode cX0_cut 193 = .ok (.iastore, 1) := by decide +kernel
theorem dX0_cut_194 : decode cX0_cut 194 = .ok (.aload_n 0, 1) := by decide +kernel
theorem dX0_cut_195 : decode cX0_cut 195 = .ok (.iload 6, 2) := by decide +kernel
theorem dX0_cut_197 : decode cX0_cut 197 = .ok (.iload 5, 2) := by decide +kernel
theorem dX0_cut_199 : decode cX0_cut 199 = .ok (.invokevirtual 81, 3) := by decide +kernel
theorem dX0_cut_202 : decode cX0_cut 202 = .ok (.iinc 5 1, 3) := by decide +kernel
theorem dX0_cut_205 : decode cX0_cut 205 = .ok (.iinc 6 1, 3) := by decide +kernel
theorem dX0_cut_208 : decode cX0_cut 208 = .ok (.goto (-72), 3) := by decide +kernel
theorem dX0_cut_211 : decode cX0_cut 211 = .ok (.aload_n 0, 1) := by decide +kernel
theorem dX0_cut_212 : decode cX0_cut 212 = .ok (.iload 5, 2) := by decide +kernel
theorem dX0_cut_214 : decode cX0_cut 214 = .ok (.putfield 56, 3) := by decide +kernel
theorem dX0_cut_217 : decode cX0_cut 217 = .ok (.return_, 1) := by decide +kernel
set_option maxRecDepth 20000 in
theorem ggX0_areNeighbours_J6_bitCount_0f7a4 : GoodIn wsX0_areNeighbours wsJ6_bitCount_0f7a4 := goodIn_r _ [6, 7, 8, 9] rfl (by decide +kernel)
set_option maxRecDepth 20000 in
theorem gX0_areNeighbours_J6_bitCount_0f7a4 : GoodIn wsX0_areNeighbours (va_wsS RX0 85 yJ6_bitCount_0f7a4 wsJ6_bitCount_0f7a4) := goodIn_app (goodIn_c (List.mem_of_getElem? (i := 3) rfl) rfl (goodIn_c (List.mem_of_getElem? (i := 4) rfl) rfl (goodIn_c (List.mem_of_getElem? (i := 5) rfl) rfl (goodIn_nil)))) ggX0_areNeighbours_J6_bitCount_0f7a4
theorem dX0_areNeighbours_0 : decode cX0_areNeighbours 0 = .ok (.aload_n 0, 1) := by decide +kernel
theorem dX0_areNeighbours_1 : decode cX0_areNeighbours 1 = .ok (.getfield 15, 3) := by decide +kernel
theorem dX0_areNeighbours_4 : decode cX0_areNeighbours 4 = .ok (.iload_n 1, 1) := by decide +kernel
theorem dX0_areNeighbours_5 : decode cX0_areNeighbours 5 = .ok (.iaload, 1) := by decide +kernel
theorem dX0_areNeighbours_6 : decode cX0_areNeighbours 6 = .ok (.aload_n 0, 1) := by decide +kernel
theorem dX0_areNeighbours_7 : decode cX0_areNeighbours 7 = .ok (.getfield 15, 3) := by decide +kernel
theorem dX0_areNeighbours_10 : decode cX0_areNeighbours 10 = .ok (.iload_n 2, 1) := by decide +kernel
theorem dX0_areNeighbours_11 : decode cX0_areNeighbours 11 = .ok (.iaload, 1) := by decide +kernel
theorem dX0_areNeighbours_12 : decode cX0_areNeighbours 12 = .ok (.iand, 1) := by decide +kernel
theorem dX0_areNeighbours_13 : decode cX0_areNeighbours 13 = .ok (.istore 4, 2) := by decide +kernel
theorem dX0_areNeighbours_15 : decode cX0_areNeighbours 15 = .ok (.iload 4, 2) := by decide +kernel
theorem dX0_areNeighbours_17 : decode cX0_areNeighbours 17 = .ok (.invokestatic 85, 3) := by decide +kernel
theorem dX0_areNeighbours_20 : decode cX0_areNeighbours 20 = .ok (.aload_n 0, 1) := by decide +kernel
theorem dX0_areNeighbours_21 : decode cX0_areNeighbours 21 = .ok (.getfield 35, 3) := by decide +kernel
theorem dX0_areNeighbours_24 : decode cX0_areNeighbours 24 = .ok (.if_icmp .ge 5, 3) := by decide +kernel
theorem dX0_areNeighbours_27 : decode cX0_areNeighbours 27 = .ok (.iconst 0, 1) := by decide +kernel
theorem dX0_areNeighbours_28 : decode cX0_areNeighbours 28 = .ok (.ireturn, 1) := by decide +kernel
theorem dX0_areNeighbours_29 : decode cX0_areNeighbours 29 = .ok (.iconst 0, 1) := by decide +kernel
theorem dX0_areNeighbours_30 : decode cX0_areNeighbours 30 = .ok (.istore 5, 2) := by decide +kernel
theorem dX0_areNeighbours_32 : decode cX0_areNeighbours 32 = .ok (.iload 5, 2) := by decide +kernel
theorem dX0_areNeighbours_34 : decode cX0_areNeighbours 34 = .ok (.iload_n 3, 1) := by decide +kernel
theorem dX0_areNeighbours_35 : decode cX0_areNeighbours 35 = .ok (.if_icmp .ge 38, 3) := by decide +kernel
theorem dX0_areNeighbours_38 : decode cX0_areNeighbours 38 = .ok (.iload 5, 2) := by decide +kernel
theorem dX0_areNeighbours_40 : decode cX0_areNeighbours 40 = .ok (.iload_n 1, 1) := by decide +kernel
theorem dX0_areNeighbours_41 : decode cX0_areNeighbours 41 = .ok (.if_icmp .eq 26, 3) := by decide +kernel
theorem dX0_areNeighbours_44 : decode cX0_areNeighbours 44 = .ok (.iload 5, 2) := by decide +kernel
theorem dX0_areNeighbours_46 : decode cX0_areNeighbours 46 = .ok (.iload_n 2, 1) := by decide +kernel
theorem dX0_areNeighbours_47 : decode cX0_areNeighbours 47 = .ok (.if_icmp .eq 20, 3) := by decide +kernel
theorem dX0_areNeighbours_50 : decode cX0_areNeighbours 50 = .ok (.aload_n 0, 1) := by decide +kernel
theorem dX0_areNeighbours_51 : decode cX0_areNeighbours 51 = .ok (.getfield 15, 3) := by decide +kernel
theorem dX0_areNeighbours_54 : decode cX0_areNeighbours 54 = .ok (.iload 5, 2) := by decide +kernel
theorem dX0_areNeighbours_56 : decode cX0_areNeighbours 56 = .ok (.iaload, 1) := by decide +kernel
theorem dX0_areNeighbours_57 : decode cX0_areNeighbours 57 = .ok (.iload 4, 2) := by decide +kernel
theorem dX0_areNeighbours_59 : decode cX0_areNeighbours 59 = .ok (.iand, 1) := by decide +kernel
theorem dX0_areNeighbours_60 : decode cX0_areNeighbours 60 = .ok (.iload 4, 2) := by decide +kernel
theorem dX0_areNeighbours_62 : decode cX0_areNeighbours 62 = .ok (.if_icmp .ne 5, 3) := by decide +kernel
theorem dX0_areNeighbours_65 : decode cX0_areNeighbours 65 = .ok (.iconst 0, 1) := by decide +kernel
theorem dX0_areNeighbours_66 : decode cX0_areNeighbours 66 = .ok (.ireturn, 1) := by decide +kernel
theorem dX0_areNeighbours_67 : decode cX0_areNeighbours 67 = .ok (.iinc 5 1, 3) := by decide +kernel
theorem dX0_areNeighbours_70 : decode cX0_areNeighbours 70 = .ok (.goto (-38), 3) := by decide +kernel
theorem dX0_areNeighbours_73 : decode cX0_areNeighbours 73 = .ok (.iconst 1, 1) := by decide +kernel
theorem dX0_areNeighbours_74 : decode cX0_areNeighbours 74 = .ok (.ireturn, 1) := by decide +kernel
set_option maxRecDepth 20000 in
theorem ggX0_join_X3_commonDivisor : GoodIn wsX0_join wsX3_commonDivisor := goodIn_r _ [8] rfl (by decide +kernel)
set_option maxRecDepth 20000 in
theorem gX0_join_X3_commonDivisor_n91 : GoodIn wsX0_join (wsX3_commonDivisor) := ggX0_join_X3_commonDivisor
theorem dX0_join_0 : decode cX0_join 0 = .ok (.aload_n 0, 1) := by decide +kernel
theorem dX0_join_1 : decode cX0_join 1 = .ok (.getfield 56, 3) := by decide +kernel
theorem dX0_join_4 : decode cX0_join 4 = .ok (.sipush 144, 3) := by decide +kernel
theorem dX0_join_7 : decode cX0_join 7 = .ok (.if_icmp .lt 4, 3) := by decide +kernel
theorem dX0_join_10 : decode cX0_join 10 = .ok (.return_, 1) := by decide +kernel
theorem dX0_join_11 : decode cX0_join 11 = .ok (.lconst 0, 1) := by decide +kernel
theorem dX0_join_12 : decode cX0_join 12 = .ok (.lstore 4, 2) := by decide +kernel
theorem dX0_join_14 : decode cX0_join 14 = .ok (.iconst 0, 1) := by decide +kernel
theorem dX0_join_15 : decode cX0_join 15 = .ok (.istore 6, 2) := by decide +kernel
theorem dX0_join_17 : decode cX0_join 17 = .ok (.iload 6, 2) := by decide +kernel
theorem dX0_join_19 : decode cX0_join 19 = .ok (.aload_n 0, 1) := by decide +kernel
theorem dX0_join_20 : decode cX0_join 20 = .ok (.getfield 32, 3) := by decide +kernel
theorem dX0_join_23 : decode cX0_join 23 = .ok (.if_icmp .gt 73, 3) := by decide +kernel
theorem dX0_join_26 : decode cX0_join 26 = .ok (.aload_n 0, 1) := by decide +kernel
theorem dX0_join_27 : decode cX0_join 27 = .ok (.getfield 19, 3) := by decide +kernel
theorem dX0_join_30 : decode cX0_join 30 = .ok (.iload_n 1, 1) := by decide +kernel
theorem dX0_join_31 : decode cX0_join 31 = .ok (.laload, 1) := by decide +kernel
theorem dX0_join_32 : decode cX0_join 32 = .ok (.aload_n 0, 1) := by decide +kernel
theorem dX0_join_33 : decode cX0_join 33 = .ok (.getfield 11, 3) := by decide +kernel
theorem dX0_join_36 : decode cX0_join 36 = .ok (.iload_n 2, 1) := by decide +kernel
theorem dX0_join_37 : decode cX0_join 37 = .ok (.iconst 5, 1) := by decide +kernel
theorem dX0_join_38 : decode cX0_join 38 = .ok (.imul, 1) := by decide +kernel
theorem dX0_join_39 : decode cX0_join 39 = .ok (.iload 6, 2) := by decide +kernel
theorem dX0_join_41 : decode cX0_join 41 = .ok (.iadd, 1) := by decide +kernel
theorem dX0_join_42 : decode cX0_join 42 = .ok (.laload, 1) := by decide +kernel
theorem dX0_join_43 : decode cX0_join 43 = .ok (.lmul, 1) := by decide +kernel
theorem dX0_join_44 : decode cX0_join 44 = .ok (.aload_n 0, 1) := by decide +kernel
theorem dX0_join_45 : decode cX0_join 45 = .ok (.getfield 19, 3) := by decide +kernel
theorem dX0_join_48 : decode cX0_join 48 = .ok (.iload_n 2, 1) := by decide +kernel
theorem dX0_join_49 : decode cX0_join 49 = .ok (.laload, 1) := by decide +kernel
theorem dX0_join_50 : decode cX0_join 50 = .ok (.aload_n 0, 1) := by decide +kernel
theorem dX0_join_51 : decode cX0_join 51 = .ok (.getfield 11, 3) := by decide +kernel
theorem dX0_join_54 : decode cX0_join 54 = .ok (.iload_n 1, 1) := by decide +kernel
theorem dX0_join_55 : decode cX0_join 55 = .ok (.iconst 5, 1) := by decide +kernel
theorem dX0_join_56 : decode cX0_join 56 = .ok (.imul, 1) := by decide +kernel
theorem dX0_join_57 : decode cX0_join 57 = .ok (.iload 6, 2) := by decide +kernel
theorem dX0_join_59 : decode cX0_join 59 = .ok (.iadd, 1) := by decide +kernel
theorem dX0_join_60 : decode cX0_join 60 = .ok (.laload, 1) := by decide +kernel
theorem dX0_join_61 : decode cX0_join 61 = .ok (.lmul, 1) := by decide +kernel
theorem dX0_join_62 : decode cX0_join 62 = .ok (.lsub, 1) := by decide +kernel
theorem dX0_join_63 : decode cX0_join 63 = .ok (.lstore 7, 2) := by decide +kernel
theorem dX0_join_65 : decode cX0_join 65 = .ok (.aload_n 0, 1) := by decide +kernel
theorem dX0_join_66 : decode cX0_join 66 = .ok (.getfield 11, 3) := by decide +kernel
theorem dX0_join_69 : decode cX0_join 69 = .ok (.aload_n 0, 1) := by decide +kernel
theorem dX0_join_70 : decode cX0_join 70 = .ok (.getfield 56, 3) := by decide +kernel
theorem dX0_join_73 : decode cX0_join 73 = .ok (.iconst 5, 1) := by decide +kernel
theorem dX0_join_74 : decode cX0_join 74 = .ok (.imul, 1) := by decide +kernel
theorem dX0_join_75 : decode cX0_join 75 = .ok (.iload 6, 2) := by decide +kernel
theorem dX0_join_77 : decode cX0_join 77 = .ok (.iadd, 1) := by decide +kernel
theorem dX0_join_78 : decode cX0_join 78 = .ok (.lload 7, 2) := by decide +kernel
theorem dX0_join_80 : decode cX0_join 80 = .ok (.lastore, 1) := by decide +kernel
theorem dX0_join_81 : decode cX0_join 81 = .ok (.lload 4, 2) := by decide +kernel
theorem dX0_join_83 : decode cX0_join 83 = .ok (.lload 7, 2) := by decide +kernel
theorem dX0_join_85 : decode cX0_join 85 = .ok (.invokestatic 91, 3) := by decide +kernel
theorem dX0_join_88 : decode cX0_join 88 = .ok (.lstore 4, 2) := by decide +kernel
theorem dX0_join_90 : decode cX0_join 90 = .ok (.iinc 6 1, 3) := by decide +kernel
theorem dX0_join_93 : decode cX0_join 93 = .ok (.goto (-76), 3) := by decide +kernel
theorem dX0_join_96 : decode cX0_join 96 = .ok (.iconst 0, 1) := by decide +kernel
theorem dX0_join_97 : decode cX0_join 97 = .ok (.istore 6, 2) := by decide +kernel
theorem dX0_join_99 : decode cX0_join 99 = .ok (.iload 6, 2) := by decide +kernel
theorem dX0_join_101 : decode cX0_join 101 = .ok (.aload_n 0, 1) := by decide +kernel
theorem dX0_join_102 : decode cX0_join 102 = .ok (.getfield 32, 3) := by decide +kernel
theorem dX0_join_105 : decode cX0_join 105 = .ok (.if_icmp .gt 35, 3) := by decide +kernel
theorem dX0_join_108 : decode cX0_join 108 = .ok (.lload 4, 2) := by decide +kernel
theorem dX0_join_110 : decode cX0_join 110 = .ok (.lconst 1, 1) := by decide +kernel
theorem dX0_join_111 : decode cX0_join 111 = .ok (.lcmp, 1) := by decide +kernel
theorem dX0_join_112 : decode cX0_join 112 = .ok (.ifCond .le 28, 3) := by decide +kernel
theorem dX0_join_115 : decode cX0_join 115 = .ok (.aload_n 0, 1) := by decide +kernel
theorem dX0_join_116 : decode cX0_join 116 = .ok (.getfield 11, 3) := by decide +kernel
theorem dX0_join_119 : decode cX0_join 119 = .ok (.aload_n 0, 1) := by decide +kernel
theorem dX0_join_120 : decode cX0_join 120 = .ok (.getfield 56, 3) := by decide +kernel
theorem dX0_join_123 : decode cX0_join 123 = .ok (.iconst 5, 1) := by decide +kernel
theorem dX0_join_124 : decode cX0_join 124 = .ok (.imul, 1) := by decide +kernel
theorem dX0_join_125 : decode cX0_join 125 = .ok (.iload 6, 2) := by decide +kernel
theorem dX0_join_127 : decode cX0_join 127 = .ok (.iadd, 1) := by decide +kernel
theorem dX0_join_128 : decode cX0_join 128 = .ok (.dup2, 1) := by decide +kernel
theorem dX0_join_129 : decode cX0_join 129 = .ok (.laload, 1) := by decide +kernel
theorem dX0_join_130 : decode cX0_join 130 = .ok (.lload 4, 2) := by decide +kernel
theorem dX0_join_132 : decode cX0_join 132 = .ok (.ldiv, 1) := by decide +kernel
theorem dX0_join_133 : decode cX0_join 133 = .ok (.lastore, 1) := by decide +kernel
theorem dX0_join_134 : decode cX0_join 134 = .ok (.iinc 6 1, 3) := by decide +kernel
theorem dX0_join_137 : decode cX0_join 137 = .ok (.goto (-38), 3) := by decide +kernel
theorem dX0_join_140 : decode cX0_join 140 = .ok (.aload_n 0, 1) := by decide +kernel
theorem dX0_join_141 : decode cX0_join 141 = .ok (.getfield 15, 3) := by decide +kernel
theorem dX0_join_144 : decode cX0_join 144 = .ok (.aload_n 0, 1) := by decide +kernel
theorem dX0_join_145 : decode cX0_join 145 = .ok (.getfield 56, 3) := by decide +kernel
theorem dX0_join_148 : decode cX0_join 148 = .ok (.aload_n 0, 1) := by decide +kernel
theorem dX0_join_149 : decode cX0_join 149 = .ok (.getfield 15, 3) := by decide +kernel
theorem dX0_join_152 : decode cX0_join 152 = .ok (.iload_n 1, 1) := by decide +kernel
theorem dX0_join_153 : decode cX0_join 153 = .ok (.iaload, 1) := by decide +kernel
theorem dX0_join_154 : decode cX0_join 154 = .ok (.aload_n 0, 1) := by decide +kernel
theorem dX0_join_155 : decode cX0_join 155 = .ok (.getfield 15, 3) := by decide +kernel
theorem dX0_join_158 : decode cX0_join 158 = .ok (.iload_n 2, 1) := by decide +kernel
theorem dX0_join_159 : decode cX0_join 159 = .ok (.iaload, 1) := by decide +kernel
theorem dX0_join_160 : decode cX0_join 160 = .ok (.iand, 1) := by decide +kernel
theorem dX0_join_161 : decode cX0_join 161 = .ok (.iload_n 3, 1) := by decide +kernel
theorem dX0_join_162 : decode cX0_join 162 = .ok (.ior, 1) := by decide +kernel
theorem dX0_join_163 : decode cX0_join 163 = .ok (.iastore, 1) := by decide +kernel
theorem dX0_join_164 : decode cX0_join 164 = .ok (.aload_n 0, 1) := by decide +kernel
theorem dX0_join_165 : decode cX0_join 165 = .ok (.dup, 1) := by decide +kernel
theorem dX0_join_166 : decode cX0_join 166 = .ok (.getfield 56, 3) := by decide +kernel
theorem dX0_join_169 : decode cX0_join 169 = .ok (.iconst 1, 1) := by decide +kernel
theorem dX0_join_170 : decode cX0_join 170 = .ok (.iadd, 1) := by decide +kernel
theorem dX0_join_171 : decode cX0_join 171 = .ok (.putfield 56, 3) := by decide +kernel
theorem dX0_join_174 : decode cX0_join 174 = .ok (.return_, 1) := by decide +kernel
theorem dX0_move_0 : decode cX0_move 0 = .ok (.iconst 0, 1) := by decide +kernel
theorem dX0_move_1 : decode cX0_move 1 = .ok (.istore_n 3, 1) := by decide +kernel
theorem dX0_move_2 : decode cX0_move 2 = .ok (.iload_n 3, 1) := by decide +kernel
theorem dX0_move_3 : decode cX0_move 3 = .ok (.aload_n 0, 1) := by decide +kernel
theorem dX0_move_4 : decode cX0_move 4 = .ok (.getfield 32, 3) := by decide +kernel
theorem dX0_move_7 : decode cX0_move 7 = .ok (.if_icmp .gt 29, 3) := by decide +kernel
theorem dX0_move_10 : decode cX0_move 10 = .ok (.aload_n 0, 1) := by decide +kernel
theorem dX0_move_11 : decode cX0_move 11 = .ok (.getfield 11, 3) := by decide +kernel
theorem dX0_move_14 : decode cX0_move 14 = .ok (.iload_n 2, 1) := by decide +kernel
theorem dX0_move_15 : decode cX0_move 15 = .ok (.iconst 5, 1) := by decide +kernel
theorem dX0_move_16 : decode cX0_move 16 = .ok (.imul, 1) := by decide +kernel
theorem dX0_move_17 : decode cX0_move 17 = .ok (.iload_n 3, 1) := by decide +kernel
theorem dX0_move_18 : decode cX0_move 18 = .ok (.iadd, 1) := by decide +kernel
theorem dX0_move_19 : decode cX0_move 19 = .ok (.aload_n 0, 1) := by decide +kernel
theorem dX0_move_20 : decode cX0_move 20 = .ok (.getfield 11, 3) := by decide +kernel
theorem dX0_move_23 : decode cX0_move 23 = .ok (.iload_n 1, 1) := by decide +kernel
theorem dX0_move_24 : decode cX0_move 24 = .ok (.iconst 5, 1) := by decide +kernel
theorem dX0_move_25 : decode cX0_move 25 = .ok (.imul, 1) := by decide +kernel
theorem dX0_move_26 : decode cX0_move 26 = .ok (.iload_n 3, 1) := by decide +kernel
theorem dX0_move_27 : decode cX0_move 27 = .ok (.iadd, 1) := by decide +kernel
theorem dX0_move_28 : decode cX0_move 28 = .ok (.laload, 1) := by decide +kernel
theorem dX0_move_29 : decode cX0_move 29 = .ok (.lastore, 1) := by decide +kernel
theorem dX0_move_30 : decode cX0_move 30 = .ok (.iinc 3 1, 3) := by decide +kernel
theorem dX0_move_33 : decode cX0_move 33 = .ok (.goto (-31), 3) := by decide +kernel
theorem dX0_move_36 : decode cX0_move 36 = .ok (.aload_n 0, 1) := by decide +kernel
theorem dX0_move_37 : decode cX0_move 37 = .ok (.getfield 15, 3) := by decide +kernel
theorem dX0_move_40 : decode cX0_move 40 = .ok (.iload_n 2, 1) := by decide +kernel
theorem dX0_move_41 : decode cX0_move 41 = .ok (.aload_n 0, 1) := by decide +kernel
theorem dX0_move_42 : decode cX0_move 42 = .ok (.getfield 15, 3) := by decide +kernel
theorem dX0_move_45 : decode cX0_move 45 = .ok (.iload_n 1, 1) := by decide +kernel
theorem dX0_move_46 : decode cX0_move 46 = .ok (.iaload, 1) := by decide +kernel
theorem dX0_move_47 : decode cX0_move 47 = .ok (.iastore, 1) := by decide +kernel
theorem dX0_move_48 : decode cX0_move 48 = .ok (.return_, 1) := by decide +kernel
set_option maxRecDepth 20000 in
theorem ggX0_sort_X0_isBefore : GoodIn wsX0_sort wsX0_isBefore := goodIn_r _ [6, 7, 8, 14, 15, 16, 17, 18, 19, 20, 21] rfl (by decide +kernel)
set_option maxRecDepth 20000 in
theorem gX0_sort_X0_isBefore : GoodIn wsX0_sort (wsV RX0 95 RX0 yX0_isBefore wsX0_isBefore) := goodIn_app (goodIn_c (List.mem_of_getElem? (i := 2) rfl) rfl (goodIn_c (List.mem_of_getElem? (i := 3) rfl) rfl (goodIn_c (List.mem_of_getElem? (i := 4) rfl) rfl (goodIn_c (List.mem_of_getElem? (i := 5) rfl) rfl (goodIn_nil))))) ggX0_sort_X0_isBefore
set_option maxRecDepth 20000 in
theorem ggX0_sort_X0_swap : GoodIn wsX0_sort wsX0_swap := goodIn_r _ [12, 7, 8, 13, 14, 15, 16, 17, 18, 19, 20, 21] rfl (by decide +kernel)
set_option maxRecDepth 20000 in
theorem gX0_sort_X0_swap : GoodIn wsX0_sort (wsV RX0 99 RX0 yX0_swap wsX0_swap) := goodIn_app (goodIn_c (List.mem_of_getElem? (i := 9) rfl) rfl (goodIn_c (List.mem_of_getElem? (i := 10) rfl) rfl (goodIn_c (List.mem_of_getElem? (i := 11) rfl) rfl (goodIn_c (List.mem_of_getElem? (i := 5) rfl) rfl (goodIn_nil))))) ggX0_sort_X0_swap
theorem dX0_sort_0 : decode cX0_sort 0 = .ok (.iconst 1, 1) := by decide +kernel
theorem dX0_sort_1 : decode cX0_sort 1 = .ok (.istore_n 1, 1) := by decide +kernel
theorem dX0_sort_2 : decode cX0_sort 2 = .ok (.iload_n 1, 1) := by decide +kernel
theorem dX0_sort_3 : decode cX0_sort 3 = .ok (.aload_n 0, 1) := by decide +kernel
theorem dX0_sort_4 : decode cX0_sort 4 = .ok (.getfield 56, 3) := by decide +kernel
theorem dX0_sort_7 : decode cX0_sort 7 = .ok (.if_icmp .ge 40, 3) := by decide +kernel
theorem dX0_sort_10 : decode cX0_sort 10 = .ok (.iload_n 1, 1) := by decide +kernel
theorem dX0_sort_11 : decode cX0_sort 11 = .ok (.istore_n 2, 1) := by decide +kernel
theorem dX0_sort_12 : decode cX0_sort 12 = .ok (.iload_n 2, 1) := by decide +kernel
theorem dX0_sort_13 : decode cX0_sort 13 = .ok (.ifCond .le 28, 3) := by decide +kernel
theorem dX0_sort_16 : decode cX0_sort 16 = .ok (.aload_n 0, 1) := by decide +kernel
theorem dX0_sort_17 : decode cX0_sort 17 = .ok (.iload_n 2, 1) := by decide +kernel
theorem dX0_sort_18 : decode cX0_sort 18 = .ok (.iload_n 2, 1) := by decide +kernel
theorem dX0_sort_19 : decode cX0_sort 19 = .ok (.iconst 1, 1) := by decide +kernel
theorem dX0_sort_20 : decode cX0_sort 20 = .ok (.isub, 1) := by decide +kernel
theorem dX0_sort_21 : decode cX0_sort 21 = .ok (.invokevirtual 95, 3) := by decide +kernel
theorem dX0_sort_24 : decode cX0_sort 24 = .ok (.ifCond .eq 17, 3) := by decide +kernel
theorem dX0_sort_27 : decode cX0_sort 27 = .ok (.aload_n 0, 1) := by decide +kernel
theorem dX0_sort_28 : decode cX0_sort 28 = .ok (.iload_n 2, 1) := by decide +kernel
theorem dX0_sort_29 : decode cX0_sort 29 = .ok (.iload_n 2, 1) := by decide +kernel
theorem dX0_sort_30 : decode cX0_sort 30 = .ok (.iconst 1, 1) := by decide +kernel
theorem dX0_sort_31 : decode cX0_sort 31 = .ok (.isub, 1) := by decide +kernel
theorem dX0_sort_32 : decode cX0_sort 32 = .ok (.invokevirtual 99, 3) := by decide +kernel
theorem dX0_sort_35 : decode cX0_sort 35 = .ok (.iinc 2 (-1), 3) := by decide +kernel
theorem dX0_sort_38 : decode cX0_sort 38 = .ok (.goto (-26), 3) := by decide +kernel
theorem dX0_sort_41 : decode cX0_sort 41 = .ok (.iinc 1 1, 3) := by decide +kernel
theorem dX0_sort_44 : decode cX0_sort 44 = .ok (.goto (-42), 3) := by decide +kernel
theorem dX0_sort_47 : decode cX0_sort 47 = .ok (.return_, 1) := by decide +kernel
theorem dX0_isBefore_0 : decode cX0_isBefore 0 = .ok (.iconst 0, 1) := by decide +kernel
theorem dX0_isBefore_1 : decode cX0_isBefore 1 = .ok (.istore_n 3, 1) := by decide +kernel
theorem dX0_isBefore_2 : decode cX0_isBefore 2 = .ok (.iload_n 3, 1) := by decide +kernel
theorem dX0_isBefore_3 : decode cX0_isBefore 3 = .ok (.aload_n 0, 1) := by decide +kernel
theorem dX0_isBefore_4 : decode cX0_isBefore 4 = .ok (.getfield 32, 3) := by decide +kernel
theorem dX0_isBefore_7 : decode cX0_isBefore 7 = .ok (.if_icmp .gt 52, 3) := by decide +kernel
theorem dX0_isBefore_10 : decode cX0_isBefore 10 = .ok (.aload_n 0, 1) := by decide +kernel
theorem dX0_isBefore_11 : decode cX0_isBefore 11 = .ok (.getfield 11, 3) := by decide +kernel
theorem dX0_isBefore_14 : decode cX0_isBefore 14 = .ok (.iload_n 1, 1) := by decide +kernel
theorem dX0_isBefore_15 : decode cX0_isBefore 15 = .ok (.iconst 5, 1) := by decide +kernel
theorem dX0_isBefore_16 : decode cX0_isBefore 16 = .ok (.imul, 1) := by decide +kernel
theorem dX0_isBefore_17 : decode cX0_isBefore 17 = .ok (.iload_n 3, 1) := by decide +kernel
theorem dX0_isBefore_18 : decode cX0_isBefore 18 = .ok (.iadd, 1) := by decide +kernel
theorem dX0_isBefore_19 : decode cX0_isBefore 19 = .ok (.laload, 1) := by decide +kernel
theorem dX0_isBefore_20 : decode cX0_isBefore 20 = .ok (.aload_n 0, 1) := by decide +kernel
theorem dX0_isBefore_21 : decode cX0_isBefore 21 = .ok (.getfield 11, 3) := by decide +kernel
theorem dX0_isBefore_24 : decode cX0_isBefore 24 = .ok (.iload_n 2, 1) := by decide +kernel
theorem dX0_isBefore_25 : decode cX0_isBefore 25 = .ok (.iconst 5, 1) := by decide +kernel
theorem dX0_isBefore_26 : decode cX0_isBefore 26 = .ok (.imul, 1) := by decide +kernel
theorem dX0_isBefore_27 : decode cX0_isBefore 27 = .ok (.iload_n 3, 1) := by decide +kernel
theorem dX0_isBefore_28 : decode cX0_isBefore 28 = .ok (.iadd, 1) := by decide +kernel
theorem dX0_isBefore_29 : decode cX0_isBefore 29 = .ok (.laload, 1) := by decide +kernel
theorem dX0_isBefore_30 : decode cX0_isBefore 30 = .ok (.lsub, 1) := by decide +kernel
theorem dX0_isBefore_31 : decode cX0_isBefore 31 = .ok (.lstore 4, 2) := by decide +kernel
theorem dX0_isBefore_33 : decode cX0_isBefore 33 = .ok (.lload 4, 2) := by decide +kernel
theorem dX0_isBefore_35 : decode cX0_isBefore 35 = .ok (.lconst 0, 1) := by decide +kernel
theorem dX0_isBefore_36 : decode cX0_isBefore 36 = .ok (.lcmp, 1) := by decide +kernel
theorem dX0_isBefore_37 : decode cX0_isBefore 37 = .ok (.ifCond .eq 16, 3) := by decide +kernel
theorem dX0_isBefore_40 : decode cX0_isBefore 40 = .ok (.lload 4, 2) := by decide +kernel
theorem dX0_isBefore_42 : decode cX0_isBefore 42 = .ok (.lconst 0, 1) := by decide +kernel
theorem dX0_isBefore_43 : decode cX0_isBefore 43 = .ok (.lcmp, 1) := by decide +kernel
theorem dX0_isBefore_44 : decode cX0_isBefore 44 = .ok (.ifCond .le 7, 3) := by decide +kernel
theorem dX0_isBefore_47 : decode cX0_isBefore 47 = .ok (.iconst 1, 1) := by decide +kernel
theorem dX0_isBefore_48 : decode cX0_isBefore 48 = .ok (.goto 4, 3) := by decide +kernel
theorem dX0_isBefore_51 : decode cX0_isBefore 51 = .ok (.iconst 0, 1) := by decide +kernel
theorem dX0_isBefore_52 : decode cX0_isBefore 52 = .ok (.ireturn, 1) := by decide +kernel
theorem dX0_isBefore_53 : decode cX0_isBefore 53 = .ok (.iinc 3 1, 3) := by decide +kernel
theorem dX0_isBefore_56 : decode cX0_isBefore 56 = .ok (.goto (-54), 3) := by decide +kernel
theorem dX0_isBefore_59 : decode cX0_isBefore 59 = .ok (.iconst 0, 1) := by decide +kernel
theorem dX0_isBefore_60 : decode cX0_isBefore 60 = .ok (.ireturn, 1) := by decide +kernel
theorem dX0_swap_0 : decode cX0_swap 0 = .ok (.iconst 0, 1) := by decide +kernel
theorem dX0_swap_1 : decode cX0_swap 1 = .ok (.istore_n 3, 1) := by decide +kernel
theorem dX0_swap_2 : decode cX0_swap 2 = .ok (.iload_n 3, 1) := by decide +kernel
theorem dX0_swap_3 : decode cX0_swap 3 = .ok (.aload_n 0, 1) := by decide +kernel
theorem dX0_swap_4 : decode cX0_swap 4 = .ok (.getfield 32, 3) := by decide +kernel
theorem dX0_swap_7 : decode cX0_swap 7 = .ok (.if_icmp .gt 53, 3) := by decide +kernel
theorem dX0_swap_10 : decode cX0_swap 10 = .ok (.aload_n 0, 1) := by decide +kernel
theorem dX0_swap_11 : decode cX0_swap 11 = .ok (.getfield 11, 3) := by decide +kernel
theorem dX0_swap_14 : decode cX0_swap 14 = .ok (.iload_n 1, 1) := by decide +kernel
theorem dX0_swap_15 : decode cX0_swap 15 = .ok (.iconst 5, 1) := by decide +kernel
theorem dX0_swap_16 : decode cX0_swap 16 = .ok (.imul, 1) := by decide +kernel
theorem dX0_swap_17 : decode cX0_swap 17 = .ok (.iload_n 3, 1) := by decide +kernel
theorem dX0_swap_18 : decode cX0_swap 18 = .ok (.iadd, 1) := by decide +kernel
theorem dX0_swap_19 : decode cX0_swap 19 = .ok (.laload, 1) := by decide +kernel
theorem dX0_swap_20 : decode cX0_swap 20 = .ok (.lstore 4, 2) := by decide +kernel
theorem dX0_swap_22 : decode cX0_swap 22 = .ok (.aload_n 0, 1) := by decide +kernel
theorem dX0_swap_23 : decode cX0_swap 23 = .ok (.getfield 11, 3) := by decide +kernel
theorem dX0_swap_26 : decode cX0_swap 26 = .ok (.iload_n 1, 1) := by decide +kernel
theorem dX0_swap_27 : decode cX0_swap 27 = .ok (.iconst 5, 1) := by decide +kernel
theorem dX0_swap_28 : decode cX0_swap 28 = .ok (.imul, 1) := by decide +kernel
theorem dX0_swap_29 : decode cX0_swap 29 = .ok (.iload_n 3, 1) := by decide +kernel
theorem dX0_swap_30 : decode cX0_swap 30 = .ok (.iadd, 1) := by decide +kernel
theorem dX0_swap_31 : decode cX0_swap 31 = .ok (.aload_n 0, 1) := by decide +kernel
theorem dX0_swap_32 : decode cX0_swap 32 = .ok (.getfield 11, 3) := by decide +kernel
theorem dX0_swap_35 : decode cX0_swap 35 = .ok (.iload_n 2, 1) := by decide +kernel
theorem dX0_swap_36 : decode cX0_swap 36 = .ok (.iconst 5, 1) := by decide +kernel
theorem dX0_swap_37 : decode cX0_swap 37 = .ok (.imul, 1) := by decide +kernel
theorem dX0_swap_38 : decode cX0_swap 38 = .ok (.iload_n 3, 1) := by decide +kernel
theorem dX0_swap_39 : decode cX0_swap 39 = .ok (.iadd, 1) := by decide +kernel
theorem dX0_swap_40 : decode cX0_swap 40 = .ok (.laload, 1) := by decide +kernel
theorem dX0_swap_41 : decode cX0_swap 41 = .ok (.lastore, 1) := by decide +kernel
theorem dX0_swap_42 : decode cX0_swap 42 = .ok (.aload_n 0, 1) := by decide +kernel
theorem dX0_swap_43 : decode cX0_swap 43 = .ok (.getfield 11, 3) := by decide +kernel
theorem dX0_swap_46 : decode cX0_swap 46 = .ok (.iload_n 2, 1) := by decide +kernel
theorem dX0_swap_47 : decode cX0_swap 47 = .ok (.iconst 5, 1) := by decide +kernel
theorem dX0_swap_48 : decode cX0_swap 48 = .ok (.imul, 1) := by decide +kernel
theorem dX0_swap_49 : decode cX0_swap 49 = .ok (.iload_n 3, 1) := by decide +kernel
theorem dX0_swap_50 : decode cX0_swap 50 = .ok (.iadd, 1) := by decide +kernel
theorem dX0_swap_51 : decode cX0_swap 51 = .ok (.lload 4, 2) := by decide +kernel
theorem dX0_swap_53 : decode cX0_swap 53 = .ok (.lastore, 1) := by decide +kernel
theorem dX0_swap_54 : decode cX0_swap 54 = .ok (.iinc 3 1, 3) := by decide +kernel
theorem dX0_swap_57 : decode cX0_swap 57 = .ok (.goto (-55), 3) := by decide +kernel
theorem dX0_swap_60 : decode cX0_swap 60 = .ok (.aload_n 0, 1) := by decide +kernel
theorem dX0_swap_61 : decode cX0_swap 61 = .ok (.getfield 15, 3) := by decide +kernel
theorem dX0_swap_64 : decode cX0_swap 64 = .ok (.iload_n 1, 1) := by decide +kernel
theorem dX0_swap_65 : decode cX0_swap 65 = .ok (.iaload, 1) := by decide +kernel
theorem dX0_swap_66 : decode cX0_swap 66 = .ok (.istore_n 3, 1) := by decide +kernel
theorem dX0_swap_67 : decode cX0_swap 67 = .ok (.aload_n 0, 1) := by decide +kernel
theorem dX0_swap_68 : decode cX0_swap 68 = .ok (.getfield 15, 3) := by decide +kernel
theorem dX0_swap_71 : decode cX0_swap 71 = .ok (.iload_n 1, 1) := by decide +kernel
theorem dX0_swap_72 : decode cX0_swap 72 = .ok (.aload_n 0, 1) := by decide +kernel
theorem dX0_swap_73 : decode cX0_swap 73 = .ok (.getfield 15, 3) := by decide +kernel
theorem dX0_swap_76 : decode cX0_swap 76 = .ok (.iload_n 2, 1) := by decide +kernel
theorem dX0_swap_77 : decode cX0_swap 77 = .ok (.iaload, 1) := by decide +kernel
theorem dX0_swap_78 : decode cX0_swap 78 = .ok (.iastore, 1) := by decide +kernel
theorem dX0_swap_79 : decode cX0_swap 79 = .ok (.aload_n 0, 1) := by decide +kernel
theorem dX0_swap_80 : decode cX0_swap 80 = .ok (.getfield 15, 3) := by decide +kernel
theorem dX0_swap_83 : decode cX0_swap 83 = .ok (.iload_n 2, 1) := by decide +kernel
theorem dX0_swap_84 : decode cX0_swap 84 = .ok (.iload_n 3, 1) := by decide +kernel
theorem dX0_swap_85 : decode cX0_swap 85 = .ok (.iastore, 1) := by decide +kernel
theorem dX0_swap_86 : decode cX0_swap 86 = .ok (.return_, 1) := by decide +kernel
set_option maxRecDepth 20000 in
theorem ggX0_insWeighed_X2_of : GoodIn wsX0_insWeighed wsX2_of := goodIn_r _ [6, 7, 16, 17, 18, 19] rfl (by decide +kernel)
set_option maxRecDepth 20000 in
theorem gX0_insWeighed_X2_of_n59 : GoodIn wsX0_insWeighed (wsX2_of) := ggX0_insWeighed_X2_of
theorem dX0_insWeighed_0 : decode cX0_insWeighed 0 = .ok (.lconst 0, 1) := by decide +kernel
theorem dX0_insWeighed_1 : decode cX0_insWeighed 1 = .ok (.lstore 4, 2) := by decide +kernel
theorem dX0_insWeighed_3 : decode cX0_insWeighed 3 = .ok (.iconst 0, 1) := by decide +kernel
theorem dX0_insWeighed_4 : decode cX0_insWeighed 4 = .ok (.istore 6, 2) := by decide +kernel
theorem dX0_insWeighed_6 : decode cX0_insWeighed 6 = .ok (.iload 6, 2) := by decide +kernel
theorem dX0_insWeighed_8 : decode cX0_insWeighed 8 = .ok (.aload_n 0, 1) := by decide +kernel
theorem dX0_insWeighed_9 : decode cX0_insWeighed 9 = .ok (.getfield 28, 3) := by decide +kernel
theorem dX0_insWeighed_12 : decode cX0_insWeighed 12 = .ok (.if_icmp .ge 34, 3) := by decide +kernel
theorem dX0_insWeighed_15 : decode cX0_insWeighed 15 = .ok (.lload 4, 2) := by decide +kernel
theorem dX0_insWeighed_17 : decode cX0_insWeighed 17 = .ok (.aload_n 0, 1) := by decide +kernel
theorem dX0_insWeighed_18 : decode cX0_insWeighed 18 = .ok (.getfield 11, 3) := by decide +kernel
theorem dX0_insWeighed_21 : decode cX0_insWeighed 21 = .ok (.iload_n 1, 1) := by decide +kernel
theorem dX0_insWeighed_22 : decode cX0_insWeighed 22 = .ok (.iconst 5, 1) := by decide +kernel
theorem dX0_insWeighed_23 : decode cX0_insWeighed 23 = .ok (.imul, 1) := by decide +kernel
theorem dX0_insWeighed_24 : decode cX0_insWeighed 24 = .ok (.iload 6, 2) := by decide +kernel
theorem dX0_insWeighed_26 : decode cX0_insWeighed 26 = .ok (.iadd, 1) := by decide +kernel
theorem dX0_insWeighed_27 : decode cX0_insWeighed 27 = .ok (.laload, 1) := by decide +kernel
theorem dX0_insWeighed_28 : decode cX0_insWeighed 28 = .ok (.aload_n 2, 1) := by decide +kernel
theorem dX0_insWeighed_29 : decode cX0_insWeighed 29 = .ok (.iload_n 3, 1) := by decide +kernel
theorem dX0_insWeighed_30 : decode cX0_insWeighed 30 = .ok (.iload 6, 2) := by decide +kernel
theorem dX0_insWeighed_32 : decode cX0_insWeighed 32 = .ok (.invokevirtual 59, 3) := by decide +kernel
theorem dX0_insWeighed_35 : decode cX0_insWeighed 35 = .ok (.i2l, 1) := by decide +kernel
theorem dX0_insWeighed_36 : decode cX0_insWeighed 36 = .ok (.lmul, 1) := by decide +kernel
theorem dX0_insWeighed_37 : decode cX0_insWeighed 37 = .ok (.ladd, 1) := by decide +kernel
theorem dX0_insWeighed_38 : decode cX0_insWeighed 38 = .ok (.lstore 4, 2) := by decide +kernel
theorem dX0_insWeighed_40 : decode cX0_insWeighed 40 = .ok (.iinc 6 1, 3) := by decide +kernel
theorem dX0_insWeighed_43 : decode cX0_insWeighed 43 = .ok (.goto (-37), 3) := by decide +kernel
theorem dX0_insWeighed_46 : decode cX0_insWeighed 46 = .ok (.lload 4, 2) := by decide +kernel
theorem dX0_insWeighed_48 : decode cX0_insWeighed 48 = .ok (.lreturn, 1) := by decide +kernel
set_option maxRecDepth 20000 in
theorem ggX0_outsWeighed_X2_of : GoodIn wsX0_outsWeighed wsX2_of := goodIn_r _ [7, 8, 17, 18, 19, 20] rfl (by decide +kernel)
set_option maxRecDepth 20000 in
theorem gX0_outsWeighed_X2_of_n59 : GoodIn wsX0_outsWeighed (wsX2_of) := ggX0_outsWeighed_X2_of
theorem dX0_outsWeighed_0 : decode cX0_outsWeighed 0 = .ok (.aload_n 0, 1) := by decide +kernel
theorem dX0_outsWeighed_1 : decode cX0_outsWeighed 1 = .ok (.getfield 11, 3) := by decide +kernel
theorem dX0_outsWeighed_4 : decode cX0_outsWeighed 4 = .ok (.iload_n 1, 1) := by decide +kernel
theorem dX0_outsWeighed_5 : decode cX0_outsWeighed 5 = .ok (.iconst 5, 1) := by decide +kernel
theorem dX0_outsWeighed_6 : decode cX0_outsWeighed 6 = .ok (.imul, 1) := by decide +kernel
theorem dX0_outsWeighed_7 : decode cX0_outsWeighed 7 = .ok (.aload_n 0, 1) := by decide +kernel
theorem dX0_outsWeighed_8 : decode cX0_outsWeighed 8 = .ok (.getfield 32, 3) := by decide +kernel
theorem dX0_outsWeighed_11 : decode cX0_outsWeighed 11 = .ok (.iadd, 1) := by decide +kernel
theorem dX0_outsWeighed_12 : decode cX0_outsWeighed 12 = .ok (.laload, 1) := by decide +kernel
theorem dX0_outsWeighed_13 : decode cX0_outsWeighed 13 = .ok (.lstore 4, 2) := by decide +kernel
theorem dX0_outsWeighed_15 : decode cX0_outsWeighed 15 = .ok (.aload_n 0, 1) := by decide +kernel
theorem dX0_outsWeighed_16 : decode cX0_outsWeighed 16 = .ok (.getfield 28, 3) := by decide +kernel
theorem dX0_outsWeighed_19 : decode cX0_outsWeighed 19 = .ok (.istore 6, 2) := by decide +kernel
theorem dX0_outsWeighed_21 : decode cX0_outsWeighed 21 = .ok (.iload 6, 2) := by decide +kernel
theorem dX0_outsWeighed_23 : decode cX0_outsWeighed 23 = .ok (.aload_n 0, 1) := by decide +kernel
theorem dX0_outsWeighed_24 : decode cX0_outsWeighed 24 = .ok (.getfield 32, 3) := by decide +kernel
theorem dX0_outsWeighed_27 : decode cX0_outsWeighed 27 = .ok (.if_icmp .ge 34, 3) := by decide +kernel
theorem dX0_outsWeighed_30 : decode cX0_outsWeighed 30 = .ok (.lload 4, 2) := by decide +kernel
theorem dX0_outsWeighed_32 : decode cX0_outsWeighed 32 = .ok (.aload_n 0, 1) := by decide +kernel
theorem dX0_outsWeighed_33 : decode cX0_outsWeighed 33 = .ok (.getfield 11, 3) := by decide +kernel
theorem dX0_outsWeighed_36 : decode cX0_outsWeighed 36 = .ok (.iload_n 1, 1) := by decide +kernel
theorem dX0_outsWeighed_37 : decode cX0_outsWeighed 37 = .ok (.iconst 5, 1) := by decide +kernel
theorem dX0_outsWeighed_38 : decode cX0_outsWeighed 38 = .ok (.imul, 1) := by decide +kernel
theorem dX0_outsWeighed_39 : decode cX0_outsWeighed 39 = .ok (.iload 6, 2) := by decide +kernel
theorem dX0_outsWeighed_41 : decode cX0_outsWeighed 41 = .ok (.iadd, 1) := by decide +kernel
theorem dX0_outsWeighed_42 : decode cX0_outsWeighed 42 = .ok (.laload, 1) := by decide +kernel
theorem dX0_outsWeighed_43 : decode cX0_outsWeighed 43 = .ok (.aload_n 2, 1) := by decide +kernel
theorem dX0_outsWeighed_44 : decode cX0_outsWeighed 44 = .ok (.iload_n 3, 1) := by decide +kernel
theorem dX0_outsWeighed_45 : decode cX0_outsWeighed 45 = .ok (.iload 6, 2) := by decide +kernel
theorem dX0_outsWeighed_47 : decode cX0_outsWeighed 47 = .ok (.invokevirtual 59, 3) := by decide +kernel
theorem dX0_outsWeighed_50 : decode cX0_outsWeighed 50 = .ok (.i2l, 1) := by decide +kernel
theorem dX0_outsWeighed_51 : decode cX0_outsWeighed 51 = .ok (.lmul, 1) := by decide +kernel
theorem dX0_outsWeighed_52 : decode cX0_outsWeighed 52 = .ok (.ladd, 1) := by decide +kernel
theorem dX0_outsWeighed_53 : decode cX0_outsWeighed 53 = .ok (.lstore 4, 2) := by decide +kernel
theorem dX0_outsWeighed_55 : decode cX0_outsWeighed 55 = .ok (.iinc 6 1, 3) := by decide +kernel
theorem dX0_outsWeighed_58 : decode cX0_outsWeighed 58 = .ok (.goto (-37), 3) := by decide +kernel
theorem dX0_outsWeighed_61 : decode cX0_outsWeighed 61 = .ok (.lload 4, 2) := by decide +kernel
theorem dX0_outsWeighed_63 : decode cX0_outsWeighed 63 = .ok (.lreturn, 1) := by decide +kernel
set_option maxRecDepth 20000 in
theorem ggX0_shareOf_X0_insWeighed : GoodIn wsX0_shareOf wsX0_insWeighed := goodIn_r _ [9, 10, 11, 12, 13, 14, 15, 16, 32, 33, 34, 35, 36, 37, 38, 39, 42, 43, 44, 45] rfl (by decide +kernel)
set_option maxRecDepth 20000 in
theorem gX0_shareOf_X0_insWeighed : GoodIn wsX0_shareOf (wsV RX0 67 RX0 yX0_insWeighed wsX0_insWeighed) := goodIn_app (goodIn_c (List.mem_of_getElem? (i := 5) rfl) rfl (goodIn_c (List.mem_of_getElem? (i := 6) rfl) rfl (goodIn_c (List.mem_of_getElem? (i := 7) rfl) rfl (goodIn_c (List.mem_of_getElem? (i := 8) rfl) rfl (goodIn_nil))))) ggX0_shareOf_X0_insWeighed
set_option maxRecDepth 20000 in
theorem ggX0_shareOf_X0_outsWeighed : GoodIn wsX0_shareOf wsX0_outsWeighed := goodIn_r _ [20, 11, 21, 10, 12, 13, 14, 15, 16, 32, 33, 34, 35, 36, 37, 38, 39, 42, 43, 44, 45] rfl (by decide +kernel)
set_option maxRecDepth 20000 in
theorem gX0_shareOf_X0_outsWeighed : GoodIn wsX0_shareOf (wsV RX0 71 RX0 yX0_outsWeighed wsX0_outsWeighed) := goodIn_app (goodIn_c (List.mem_of_getElem? (i := 17) rfl) rfl (goodIn_c (List.mem_of_getElem? (i := 18) rfl) rfl (goodIn_c (List.mem_of_getElem? (i := 19) rfl) rfl (goodIn_c (List.mem_of_getElem? (i := 8) rfl) rfl (goodIn_nil))))) ggX0_shareOf_X0_outsWeighed
set_option maxRecDepth 20000 in
theorem ggX0_shareOf_X1_init : GoodIn wsX0_shareOf wsX1_init := goodIn_r _ [23, 24, 25, 26, 27, 28, 29, 30, 31, 40, 41] rfl (by decide +kernel)
set_option maxRecDepth 20000 in
theorem gX0_shareOf_X1_init_n104 : GoodIn wsX0_shareOf (wsX1_init) := ggX0_shareOf_X1_init
theorem dX0_shareOf_0 : decode cX0_shareOf 0 = .ok (.lconst 0, 1) := by decide +kernel
theorem dX0_shareOf_1 : decode cX0_shareOf 1 = .ok (.lstore_n 3, 1) := by decide +kernel
theorem dX0_shareOf_2 : decode cX0_shareOf 2 = .ok (.lconst 0, 1) := by decide +kernel
theorem dX0_shareOf_3 : decode cX0_shareOf 3 = .ok (.lstore 5, 2) := by decide +kernel
theorem dX0_shareOf_5 : decode cX0_shareOf 5 = .ok (.iconst 0, 1) := by decide +kernel
theorem dX0_shareOf_6 : decode cX0_shareOf 6 = .ok (.istore 7, 2) := by decide +kernel
theorem dX0_shareOf_8 : decode cX0_shareOf 8 = .ok (.iload 7, 2) := by decide +kernel
theorem dX0_shareOf_10 : decode cX0_shareOf 10 = .ok (.aload_n 0, 1) := by decide +kernel
theorem dX0_shareOf_11 : decode cX0_shareOf 11 = .ok (.getfield 56, 3) := by decide +kernel
theorem dX0_shareOf_14 : decode cX0_shareOf 14 = .ok (.if_icmp .ge 87, 3) := by decide +kernel
theorem dX0_shareOf_17 : decode cX0_shareOf 17 = .ok (.aload_n 0, 1) := by decide +kernel
theorem dX0_shareOf_18 : decode cX0_shareOf 18 = .ok (.iload 7, 2) := by decide +kernel
theorem dX0_shareOf_20 : decode cX0_shareOf 20 = .ok (.aload_n 1, 1) := by decide +kernel
theorem dX0_shareOf_21 : decode cX0_shareOf 21 = .ok (.iload_n 2, 1) := by decide +kernel
theorem dX0_shareOf_22 : decode cX0_shareOf 22 = .ok (.invokevirtual 67, 3) := by decide +kernel
theorem dX0_shareOf_25 : decode cX0_shareOf 25 = .ok (.lstore 8, 2) := by decide +kernel
theorem dX0_shareOf_27 : decode cX0_shareOf 27 = .ok (.aload_n 0, 1) := by decide +kernel
theorem dX0_shareOf_28 : decode cX0_shareOf 28 = .ok (.iload 7, 2) := by decide +kernel
theorem dX0_shareOf_30 : decode cX0_shareOf 30 = .ok (.aload_n 1, 1) := by decide +kernel
theorem dX0_shareOf_31 : decode cX0_shareOf 31 = .ok (.iload_n 2, 1) := by decide +kernel
theorem dX0_shareOf_32 : decode cX0_shareOf 32 = .ok (.invokevirtual 71, 3) := by decide +kernel
theorem dX0_shareOf_35 : decode cX0_shareOf 35 = .ok (.lstore 10, 2) := by decide +kernel
theorem dX0_shareOf_37 : decode cX0_shareOf 37 = .ok (.lload 8, 2) := by decide +kernel
theorem dX0_shareOf_39 : decode cX0_shareOf 39 = .ok (.lconst 0, 1) := by decide +kernel
theorem dX0_shareOf_40 : decode cX0_shareOf 40 = .ok (.lcmp, 1) := by decide +kernel
theorem dX0_shareOf_41 : decode cX0_shareOf 41 = .ok (.ifCond .ne 20, 3) := by decide +kernel
theorem dX0_shareOf_44 : decode cX0_shareOf 44 = .ok (.lload 10, 2) := by decide +kernel
theorem dX0_shareOf_46 : decode cX0_shareOf 46 = .ok (.lconst 0, 1) := by decide +kernel
theorem dX0_shareOf_47 : decode cX0_shareOf 47 = .ok (.lcmp, 1) := by decide +kernel
theorem dX0_shareOf_48 : decode cX0_shareOf 48 = .ok (.ifCond .le 13, 3) := by decide +kernel
theorem dX0_shareOf_51 : decode cX0_shareOf 51 = .ok (.new 102, 3) := by decide +kernel
theorem dX0_shareOf_54 : decode cX0_shareOf 54 = .ok (.dup, 1) := by decide +kernel
theorem dX0_shareOf_55 : decode cX0_shareOf 55 = .ok (.lconst 0, 1) := by decide +kernel
theorem dX0_shareOf_56 : decode cX0_shareOf 56 = .ok (.lconst 0, 1) := by decide +kernel
theorem dX0_shareOf_57 : decode cX0_shareOf 57 = .ok (.invokespecial 104, 3) := by decide +kernel
theorem dX0_shareOf_60 : decode cX0_shareOf 60 = .ok (.areturn, 1) := by decide +kernel
theorem dX0_shareOf_61 : decode cX0_shareOf 61 = .ok (.lload 8, 2) := by decide +kernel
theorem dX0_shareOf_63 : decode cX0_shareOf 63 = .ok (.lconst 0, 1) := by decide +kernel
theorem dX0_shareOf_64 : decode cX0_shareOf 64 = .ok (.lcmp, 1) := by decide +kernel
theorem dX0_shareOf_65 : decode cX0_shareOf 65 = .ok (.ifCond .le 30, 3) := by decide +kernel
theorem dX0_shareOf_68 : decode cX0_shareOf 68 = .ok (.lload 5, 2) := by decide +kernel
theorem dX0_shareOf_70 : decode cX0_shareOf 70 = .ok (.lconst 0, 1) := by decide +kernel
theorem dX0_shareOf_71 : decode cX0_shareOf 71 = .ok (.lcmp, 1) := by decide +kernel
theorem dX0_shareOf_72 : decode cX0_shareOf 72 = .ok (.ifCond .eq 16, 3) := by decide +kernel
theorem dX0_shareOf_75 : decode cX0_shareOf 75 = .ok (.lload 10, 2) := by decide +kernel
theorem dX0_shareOf_77 : decode cX0_shareOf 77 = .ok (.lload 5, 2) := by decide +kernel
theorem dX0_shareOf_79 : decode cX0_shareOf 79 = .ok (.lmul, 1) := by decide +kernel
theorem dX0_shareOf_80 : decode cX0_shareOf 80 = .ok (.lload_n 3, 1) := by decide +kernel
theorem dX0_shareOf_81 : decode cX0_shareOf 81 = .ok (.lload 8, 2) := by decide +kernel
theorem dX0_shareOf_83 : decode cX0_shareOf 83 = .ok (.lmul, 1) := by decide +kernel
theorem dX0_shareOf_84 : decode cX0_shareOf 84 = .ok (.lcmp, 1) := by decide +kernel
theorem dX0_shareOf_85 : decode cX0_shareOf 85 = .ok (.ifCond .le 10, 3) := by decide +kernel
theorem dX0_shareOf_88 : decode cX0_shareOf 88 = .ok (.lload 10, 2) := by decide +kernel
theorem dX0_shareOf_90 : decode cX0_shareOf 90 = .ok (.lstore_n 3, 1) := by decide +kernel
theorem dX0_shareOf_91 : decode cX0_shareOf 91 = .ok (.lload 8, 2) := by decide +kernel
theorem dX0_shareOf_93 : decode cX0_shareOf 93 = .ok (.lstore 5, 2) := by decide +kernel
theorem dX0_shareOf_95 : decode cX0_shareOf 95 = .ok (.iinc 7 1, 3) := by decide +kernel
theorem dX0_shareOf_98 : decode cX0_shareOf 98 = .ok (.goto (-90), 3) := by decide +kernel
theorem dX0_shareOf_101 : decode cX0_shareOf 101 = .ok (.new 102, 3) := by decide +kernel
theorem dX0_shareOf_104 : decode cX0_shareOf 104 = .ok (.dup, 1) := by decide +kernel
theorem dX0_shareOf_105 : decode cX0_shareOf 105 = .ok (.lload_n 3, 1) := by decide +kernel
theorem dX0_shareOf_106 : decode cX0_shareOf 106 = .ok (.lload 5, 2) := by decide +kernel
theorem dX0_shareOf_108 : decode cX0_shareOf 108 = .ok (.invokespecial 104, 3) := by decide +kernel
theorem dX0_shareOf_111 : decode cX0_shareOf 111 = .ok (.areturn, 1) := by decide +kernel
set_option maxRecDepth 20000 in
theorem ggX0_isBest_X0_outsWeighed : GoodIn wsX0_isBest wsX0_outsWeighed := goodIn_r _ [5, 6, 7, 8, 9, 10, 11, 12, 13, 20, 21, 22, 23, 24, 25, 26, 27, 28, 29, 30, 31] rfl (by decide +kernel)
set_option maxRecDepth 20000 in
theorem gX0_isBest_X0_outsWeighed : GoodIn wsX0_isBest (wsV RX0 71 RX0 yX0_outsWeighed wsX0_outsWeighed) := goodIn_app (goodIn_c (List.mem_of_getElem? (i := 1) rfl) rfl (goodIn_c (List.mem_of_getElem? (i := 2) rfl) rfl (goodIn_c (List.mem_of_getElem? (i := 3) rfl) rfl (goodIn_c (List.mem_of_getElem? (i := 4) rfl) rfl (goodIn_nil))))) ggX0_isBest_X0_outsWeighed
set_option maxRecDepth 20000 in
theorem ggX0_isBest_X0_insWeighed : GoodIn wsX0_isBest wsX0_insWeighed := goodIn_r _ [17, 8, 6, 9, 10, 11, 12, 13, 20, 21, 22, 23, 24, 25, 26, 27, 28, 29, 30, 31] rfl (by decide +kernel)
set_option maxRecDepth 20000 in
theorem gX0_isBest_X0_insWeighed : GoodIn wsX0_isBest (wsV RX0 67 RX0 yX0_insWeighed wsX0_insWeighed) := goodIn_app (goodIn_c (List.mem_of_getElem? (i := 14) rfl) rfl (goodIn_c (List.mem_of_getElem? (i := 15) rfl) rfl (goodIn_c (List.mem_of_getElem? (i := 16) rfl) rfl (goodIn_c (List.mem_of_getElem? (i := 4) rfl) rfl (goodIn_nil))))) ggX0_isBest_X0_insWeighed
theorem dX0_isBest_0 : decode cX0_isBest 0 = .ok (.aload_n 0, 1) := by decide +kernel
theorem dX0_isBest_1 : decode cX0_isBest 1 = .ok (.iload_n 1, 1) := by decide +kernel
theorem dX0_isBest_2 : decode cX0_isBest 2 = .ok (.aload_n 2, 1) := by decide +kernel
theorem dX0_isBest_3 : decode cX0_isBest 3 = .ok (.iload_n 3, 1) := by decide +kernel
theorem dX0_isBest_4 : decode cX0_isBest 4 = .ok (.invokevirtual 71, 3) := by decide +kernel
theorem dX0_isBest_7 : decode cX0_isBest 7 = .ok (.aload 4, 2) := by decide +kernel
theorem dX0_isBest_9 : decode cX0_isBest 9 = .ok (.getfield 107, 3) := by decide +kernel
theorem dX0_isBest_12 : decode cX0_isBest 12 = .ok (.lmul, 1) := by decide +kernel
theorem dX0_isBest_13 : decode cX0_isBest 13 = .ok (.aload_n 0, 1) := by decide +kernel
theorem dX0_isBest_14 : decode cX0_isBest 14 = .ok (.iload_n 1, 1) := by decide +kernel
theorem dX0_isBest_15 : decode cX0_isBest 15 = .ok (.aload_n 2, 1) := by decide +kernel
theorem dX0_isBest_16 : decode cX0_isBest 16 = .ok (.iload_n 3, 1) := by decide +kernel
theorem dX0_isBest_17 : decode cX0_isBest 17 = .ok (.invokevirtual 67, 3) := by decide +kernel
theorem dX0_isBest_20 : decode cX0_isBest 20 = .ok (.aload 4, 2) := by decide +kernel
theorem dX0_isBest_22 : decode cX0_isBest 22 = .ok (.getfield 111, 3) := by decide +kernel
theorem dX0_isBest_25 : decode cX0_isBest 25 = .ok (.lmul, 1) := by decide +kernel
theorem dX0_isBest_26 : decode cX0_isBest 26 = .ok (.lcmp, 1) := by decide +kernel
theorem dX0_isBest_27 : decode cX0_isBest 27 = .ok (.ifCond .ne 7, 3) := by decide +kernel
theorem dX0_isBest_30 : decode cX0_isBest 30 = .ok (.iconst 1, 1) := by decide +kernel
theorem dX0_isBest_31 : decode cX0_isBest 31 = .ok (.goto 4, 3) := by decide +kernel
theorem dX0_isBest_34 : decode cX0_isBest 34 = .ok (.iconst 0, 1) := by decide +kernel
theorem dX0_isBest_35 : decode cX0_isBest 35 = .ok (.ireturn, 1) := by decide +kernel
set_option maxRecDepth 20000 in
theorem ggX0_weighsAllThings_X0_isBest : GoodIn wsX0_weighsAllThings wsX0_isBest := goodIn_r _ [8, 9, 10, 11, 7, 12, 13, 3, 14, 15, 16, 17, 18, 19, 20, 21, 22, 23, 32, 33, 24, 25, 26, 27, 28, 29, 30, 31, 34, 35, 36, 37] rfl (by decide +kernel)
set_option maxRecDepth 20000 in
theorem gX0_weighsAllThings_X0_isBest : GoodIn wsX0_weighsAllThings (wsV RX0 114 RX0 yX0_isBest wsX0_isBest) := goodIn_app (goodIn_c (List.mem_of_getElem? (i := 4) rfl) rfl (goodIn_c (List.mem_of_getElem? (i := 5) rfl) rfl (goodIn_c (List.mem_of_getElem? (i := 6) rfl) rfl (goodIn_c (List.mem_of_getElem? (i := 7) rfl) rfl (goodIn_nil))))) ggX0_weighsAllThings_X0_isBest
theorem dX0_weighsAllThings_0 : decode cX0_weighsAllThings 0 = .ok (.iconst 0, 1) := by decide +kernel
theorem dX0_weighsAllThings_1 : decode cX0_weighsAllThings 1 = .ok (.istore 4, 2) := by decide +kernel
theorem dX0_weighsAllThings_3 : decode cX0_weighsAllThings 3 = .ok (.iconst 0, 1) := by decide +kernel
theorem dX0_weighsAllThings_4 : decode cX0_weighsAllThings 4 = .ok (.istore 5, 2) := by decide +kernel
theorem dX0_weighsAllThings_6 : decode cX0_weighsAllThings 6 = .ok (.iload 5, 2) := by decide +kernel
theorem dX0_weighsAllThings_8 : decode cX0_weighsAllThings 8 = .ok (.aload_n 0, 1) := by decide +kernel
theorem dX0_weighsAllThings_9 : decode cX0_weighsAllThings 9 = .ok (.getfield 56, 3) := by decide +kernel
theorem dX0_weighsAllThings_12 : decode cX0_weighsAllThings 12 = .ok (.if_icmp .ge 35, 3) := by decide +kernel
theorem dX0_weighsAllThings_15 : decode cX0_weighsAllThings 15 = .ok (.aload_n 0, 1) := by decide +kernel
theorem dX0_weighsAllThings_16 : decode cX0_weighsAllThings 16 = .ok (.iload 5, 2) := by decide +kernel
theorem dX0_weighsAllThings_18 : decode cX0_weighsAllThings 18 = .ok (.aload_n 1, 1) := by decide +kernel
theorem dX0_weighsAllThings_19 : decode cX0_weighsAllThings 19 = .ok (.iload_n 2, 1) := by decide +kernel
theorem dX0_weighsAllThings_20 : decode cX0_weighsAllThings 20 = .ok (.aload_n 3, 1) := by decide +kernel
theorem dX0_weighsAllThings_21 : decode cX0_weighsAllThings 21 = .ok (.invokevirtual 114, 3) := by decide +kernel
theorem dX0_weighsAllThings_24 : decode cX0_weighsAllThings 24 = .ok (.ifCond .eq 17, 3) := by decide +kernel
theorem dX0_weighsAllThings_27 : decode cX0_weighsAllThings 27 = .ok (.iload 4, 2) := by decide +kernel
theorem dX0_weighsAllThings_29 : decode cX0_weighsAllThings 29 = .ok (.aload_n 0, 1) := by decide +kernel
theorem dX0_weighsAllThings_30 : decode cX0_weighsAllThings 30 = .ok (.getfield 15, 3) := by decide +kernel
theorem dX0_weighsAllThings_33 : decode cX0_weighsAllThings 33 = .ok (.iload 5, 2) := by decide +kernel
theorem dX0_weighsAllThings_35 : decode cX0_weighsAllThings 35 = .ok (.iaload, 1) := by decide +kernel
theorem dX0_weighsAllThings_36 : decode cX0_weighsAllThings 36 = .ok (.iconst (-1), 1) := by decide +kernel
theorem dX0_weighsAllThings_37 : decode cX0_weighsAllThings 37 = .ok (.ixor, 1) := by decide +kernel
theorem dX0_weighsAllThings_38 : decode cX0_weighsAllThings 38 = .ok (.ior, 1) := by decide +kernel
theorem dX0_weighsAllThings_39 : decode cX0_weighsAllThings 39 = .ok (.istore 4, 2) := by decide +kernel
theorem dX0_weighsAllThings_41 : decode cX0_weighsAllThings 41 = .ok (.iinc 5 1, 3) := by decide +kernel
theorem dX0_weighsAllThings_44 : decode cX0_weighsAllThings 44 = .ok (.goto (-38), 3) := by decide +kernel
theorem dX0_weighsAllThings_47 : decode cX0_weighsAllThings 47 = .ok (.iconst 1, 1) := by decide +kernel
theorem dX0_weighsAllThings_48 : decode cX0_weighsAllThings 48 = .ok (.aload_n 0, 1) := by decide +kernel
theorem dX0_weighsAllThings_49 : decode cX0_weighsAllThings 49 = .ok (.getfield 32, 3) := by decide +kernel
theorem dX0_weighsAllThings_52 : decode cX0_weighsAllThings 52 = .ok (.ishl, 1) := by decide +kernel
theorem dX0_weighsAllThings_53 : decode cX0_weighsAllThings 53 = .ok (.iconst 1, 1) := by decide +kernel
theorem dX0_weighsAllThings_54 : decode cX0_weighsAllThings 54 = .ok (.isub, 1) := by decide +kernel
theorem dX0_weighsAllThings_55 : decode cX0_weighsAllThings 55 = .ok (.istore 5, 2) := by decide +kernel
theorem dX0_weighsAllThings_57 : decode cX0_weighsAllThings 57 = .ok (.iload 4, 2) := by decide +kernel
theorem dX0_weighsAllThings_59 : decode cX0_weighsAllThings 59 = .ok (.iload 5, 2) := by decide +kernel
theorem dX0_weighsAllThings_61 : decode cX0_weighsAllThings 61 = .ok (.iand, 1) := by decide +kernel
theorem dX0_weighsAllThings_62 : decode cX0_weighsAllThings 62 = .ok (.iload 5, 2) := by decide +kernel
theorem dX0_weighsAllThings_64 : decode cX0_weighsAllThings 64 = .ok (.if_icmp .ne 7, 3) := by decide +kernel
theorem dX0_weighsAllThings_67 : decode cX0_weighsAllThings 67 = .ok (.iconst 1, 1) := by decide +kernel
theorem dX0_weighsAllThings_68 : decode cX0_weighsAllThings 68 = .ok (.goto 4, 3) := by decide +kernel
theorem dX0_weighsAllThings_71 : decode cX0_weighsAllThings 71 = .ok (.iconst 0, 1) := by decide +kernel
theorem dX0_weighsAllThings_72 : decode cX0_weighsAllThings 72 = .ok (.ireturn, 1) := by decide +kernel
set_option maxRecDepth 20000 in
theorem ggX0_isTightWhereBest_X0_isBest : GoodIn wsX0_isTightWhereBest wsX0_isBest := goodIn_r _ [7, 8, 9, 10, 6, 11, 12, 13, 14, 15, 16, 17, 18, 19, 20, 21, 22, 23, 32, 33, 24, 25, 26, 27, 28, 29, 30, 31, 34, 35, 36, 37] rfl (by decide +kernel)
set_option maxRecDepth 20000 in
theorem gX0_isTightWhereBest_X0_isBest : GoodIn wsX0_isTightWhereBest (wsV RX0 114 RX0 yX0_isBest wsX0_isBest) := goodIn_app (goodIn_c (List.mem_of_getElem? (i := 3) rfl) rfl (goodIn_c (List.mem_of_getElem? (i := 4) rfl) rfl (goodIn_c (List.mem_of_getElem? (i := 5) rfl) rfl (goodIn_c (List.mem_of_getElem? (i := 6) rfl) rfl (goodIn_nil))))) ggX0_isTightWhereBest_X0_isBest
theorem dX0_isTightWhereBest_0 : decode cX0_isTightWhereBest 0 = .ok (.iconst 1, 1) := by decide +kernel
theorem dX0_isTightWhereBest_1 : decode cX0_isTightWhereBest 1 = .ok (.iconst 5, 1) := by decide +kernel
theorem dX0_isTightWhereBest_2 : decode cX0_isTightWhereBest 2 = .ok (.iload 4, 2) := by decide +kernel
theorem dX0_isTightWhereBest_4 : decode cX0_isTightWhereBest 4 = .ok (.iadd, 1) := by decide +kernel
theorem dX0_isTightWhereBest_5 : decode cX0_isTightWhereBest 5 = .ok (.ishl, 1) := by decide +kernel
theorem dX0_isTightWhereBest_6 : decode cX0_isTightWhereBest 6 = .ok (.istore 5, 2) := by decide +kernel
theorem dX0_isTightWhereBest_8 : decode cX0_isTightWhereBest 8 = .ok (.iconst 0, 1) := by decide +kernel
theorem dX0_isTightWhereBest_9 : decode cX0_isTightWhereBest 9 = .ok (.istore 6, 2) := by decide +kernel
theorem dX0_isTightWhereBest_11 : decode cX0_isTightWhereBest 11 = .ok (.iload 6, 2) := by decide +kernel
theorem dX0_isTightWhereBest_13 : decode cX0_isTightWhereBest 13 = .ok (.aload_n 0, 1) := by decide +kernel
theorem dX0_isTightWhereBest_14 : decode cX0_isTightWhereBest 14 = .ok (.getfield 56, 3) := by decide +kernel
theorem dX0_isTightWhereBest_17 : decode cX0_isTightWhereBest 17 = .ok (.if_icmp .ge 36, 3) := by decide +kernel
theorem dX0_isTightWhereBest_20 : decode cX0_isTightWhereBest 20 = .ok (.aload_n 0, 1) := by decide +kernel
theorem dX0_isTightWhereBest_21 : decode cX0_isTightWhereBest 21 = .ok (.getfield 15, 3) := by decide +kernel
theorem dX0_isTightWhereBest_24 : decode cX0_isTightWhereBest 24 = .ok (.iload 6, 2) := by decide +kernel
theorem dX0_isTightWhereBest_26 : decode cX0_isTightWhereBest 26 = .ok (.iaload, 1) := by decide +kernel
theorem dX0_isTightWhereBest_27 : decode cX0_isTightWhereBest 27 = .ok (.iload 5, 2) := by decide +kernel
theorem dX0_isTightWhereBest_29 : decode cX0_isTightWhereBest 29 = .ok (.iand, 1) := by decide +kernel
theorem dX0_isTightWhereBest_30 : decode cX0_isTightWhereBest 30 = .ok (.ifCond .ne 17, 3) := by decide +kernel
theorem dX0_isTightWhereBest_33 : decode cX0_isTightWhereBest 33 = .ok (.aload_n 0, 1) := by decide +kernel
theorem dX0_isTightWhereBest_34 : decode cX0_isTightWhereBest 34 = .ok (.iload 6, 2) := by decide +kernel
theorem dX0_isTightWhereBest_36 : decode cX0_isTightWhereBest 36 = .ok (.aload_n 1, 1) := by decide +kernel
theorem dX0_isTightWhereBest_37 : decode cX0_isTightWhereBest 37 = .ok (.iload_n 2, 1) := by decide +kernel
theorem dX0_isTightWhereBest_38 : decode cX0_isTightWhereBest 38 = .ok (.aload_n 3, 1) := by decide +kernel
theorem dX0_isTightWhereBest_39 : decode cX0_isTightWhereBest 39 = .ok (.invokevirtual 114, 3) := by decide +kernel
theorem dX0_isTightWhereBest_42 : decode cX0_isTightWhereBest 42 = .ok (.ifCond .eq 5, 3) := by decide +kernel
theorem dX0_isTightWhereBest_45 : decode cX0_isTightWhereBest 45 = .ok (.iconst 0, 1) := by decide +kernel
theorem dX0_isTightWhereBest_46 : decode cX0_isTightWhereBest 46 = .ok (.ireturn, 1) := by decide +kernel
theorem dX0_isTightWhereBest_47 : decode cX0_isTightWhereBest 47 = .ok (.iinc 6 1, 3) := by decide +kernel
theorem dX0_isTightWhereBest_50 : decode cX0_isTightWhereBest 50 = .ok (.goto (-39), 3) := by decide +kernel
theorem dX0_isTightWhereBest_53 : decode cX0_isTightWhereBest 53 = .ok (.iconst 1, 1) := by decide +kernel
theorem dX0_isTightWhereBest_54 : decode cX0_isTightWhereBest 54 = .ok (.ireturn, 1) := by decide +kernel
set_option maxRecDepth 20000 in
theorem ggX1_init_X3_commonDivisor : GoodIn wsX1_init wsX3_commonDivisor := goodIn_r _ [8] rfl (by decide +kernel)
set_option maxRecDepth 20000 in
theorem gX1_init_X3_commonDivisor_n7 : GoodIn wsX1_init (wsX3_commonDivisor) := ggX1_init_X3_commonDivisor
