theorem dX1_init_0 : decode cX1_init 0 = .ok (.aload_n 0, 1) := by decide +kernel
theorem dX1_init_1 : decode cX1_init 1 = .ok (.invokespecial 1, 3) := by decide +kernel
theorem dX1_init_4 : decode cX1_init 4 = .ok (.lload_n 1, 1) := by decide +kernel
theorem dX1_init_5 : decode cX1_init 5 = .ok (.lload_n 3, 1) := by decide +kernel
theorem dX1_init_6 : decode cX1_init 6 = .ok (.invokestatic 7, 3) := by decide +kernel
theorem dX1_init_9 : decode cX1_init 9 = .ok (.lstore 5, 2) := by decide +kernel
theorem dX1_init_11 : decode cX1_init 11 = .ok (.aload_n 0, 1) := by decide +kernel
theorem dX1_init_12 : decode cX1_init 12 = .ok (.lload 5, 2) := by decide +kernel
theorem dX1_init_14 : decode cX1_init 14 = .ok (.lconst 1, 1) := by decide +kernel
theorem dX1_init_15 : decode cX1_init 15 = .ok (.lcmp, 1) := by decide +kernel
theorem dX1_init_16 : decode cX1_init 16 = .ok (.ifCond .le 10, 3) := by decide +kernel
theorem dX1_init_19 : decode cX1_init 19 = .ok (.lload_n 1, 1) := by decide +kernel
theorem dX1_init_20 : decode cX1_init 20 = .ok (.lload 5, 2) := by decide +kernel
theorem dX1_init_22 : decode cX1_init 22 = .ok (.ldiv, 1) := by decide +kernel
theorem dX1_init_23 : decode cX1_init 23 = .ok (.goto 4, 3) := by decide +kernel
theorem dX1_init_26 : decode cX1_init 26 = .ok (.lload_n 1, 1) := by decide +kernel
theorem dX1_init_27 : decode cX1_init 27 = .ok (.putfield 13, 3) := by decide +kernel
theorem dX1_init_30 : decode cX1_init 30 = .ok (.aload_n 0, 1) := by decide +kernel
theorem dX1_init_31 : decode cX1_init 31 = .ok (.lload 5, 2) := by decide +kernel
theorem dX1_init_33 : decode cX1_init 33 = .ok (.lconst 1, 1) := by decide +kernel
theorem dX1_init_34 : decode cX1_init 34 = .ok (.lcmp, 1) := by decide +kernel
theorem dX1_init_35 : decode cX1_init 35 = .ok (.ifCond .le 10, 3) := by decide +kernel
theorem dX1_init_38 : decode cX1_init 38 = .ok (.lload_n 3, 1) := by decide +kernel
theorem dX1_init_39 : decode cX1_init 39 = .ok (.lload 5, 2) := by decide +kernel
theorem dX1_init_41 : decode cX1_init 41 = .ok (.ldiv, 1) := by decide +kernel
theorem dX1_init_42 : decode cX1_init 42 = .ok (.goto 4, 3) := by decide +kernel
theorem dX1_init_45 : decode cX1_init 45 = .ok (.lload_n 3, 1) := by decide +kernel
theorem dX1_init_46 : decode cX1_init 46 = .ok (.putfield 19, 3) := by decide +kernel
theorem dX1_init_49 : decode cX1_init 49 = .ok (.return_, 1) := by decide +kernel
theorem dX1_isNone_0 : decode cX1_isNone 0 = .ok (.aload_n 0, 1) := by decide +kernel
theorem dX1_isNone_1 : decode cX1_isNone 1 = .ok (.getfield 19, 3) := by decide +kernel
theorem dX1_isNone_4 : decode cX1_isNone 4 = .ok (.lconst 0, 1) := by decide +kernel
theorem dX1_isNone_5 : decode cX1_isNone 5 = .ok (.lcmp, 1) := by decide +kernel
theorem dX1_isNone_6 : decode cX1_isNone 6 = .ok (.ifCond .ne 7, 3) := by decide +kernel
theorem dX1_isNone_9 : decode cX1_isNone 9 = .ok (.iconst 1, 1) := by decide +kernel
theorem dX1_isNone_10 : decode cX1_isNone 10 = .ok (.goto 4, 3) := by decide +kernel
theorem dX1_isNone_13 : decode cX1_isNone 13 = .ok (.iconst 0, 1) := by decide +kernel
theorem dX1_isNone_14 : decode cX1_isNone 14 = .ok (.ireturn, 1) := by decide +kernel
theorem dX1_isLike_0 : decode cX1_isLike 0 = .ok (.aload_n 0, 1) := by decide +kernel
theorem dX1_isLike_1 : decode cX1_isLike 1 = .ok (.getfield 13, 3) := by decide +kernel
theorem dX1_isLike_4 : decode cX1_isLike 4 = .ok (.aload_n 1, 1) := by decide +kernel
theorem dX1_isLike_5 : decode cX1_isLike 5 = .ok (.getfield 13, 3) := by decide +kernel
theorem dX1_isLike_8 : decode cX1_isLike 8 = .ok (.lcmp, 1) := by decide +kernel
theorem dX1_isLike_9 : decode cX1_isLike 9 = .ok (.ifCond .ne 19, 3) := by decide +kernel
theorem dX1_isLike_12 : decode cX1_isLike 12 = .ok (.aload_n 0, 1) := by decide +kernel
theorem dX1_isLike_13 : decode cX1_isLike 13 = .ok (.getfield 19, 3) := by decide +kernel
theorem dX1_isLike_16 : decode cX1_isLike 16 = .ok (.aload_n 1, 1) := by decide +kernel
theorem dX1_isLike_17 : decode cX1_isLike 17 = .ok (.getfield 19, 3) := by decide +kernel
theorem dX1_isLike_20 : decode cX1_isLike 20 = .ok (.lcmp, 1) := by decide +kernel
theorem dX1_isLike_21 : decode cX1_isLike 21 = .ok (.ifCond .ne 7, 3) := by decide +kernel
theorem dX1_isLike_24 : decode cX1_isLike 24 = .ok (.iconst 1, 1) := by decide +kernel
theorem dX1_isLike_25 : decode cX1_isLike 25 = .ok (.goto 4, 3) := by decide +kernel
theorem dX1_isLike_28 : decode cX1_isLike 28 = .ok (.iconst 0, 1) := by decide +kernel
theorem dX1_isLike_29 : decode cX1_isLike 29 = .ok (.ireturn, 1) := by decide +kernel
theorem dX2_init_0 : decode cX2_init 0 = .ok (.aload_n 0, 1) := by decide +kernel
theorem dX2_init_1 : decode cX2_init 1 = .ok (.invokespecial 3, 3) := by decide +kernel
theorem dX2_init_4 : decode cX2_init 4 = .ok (.aload_n 0, 1) := by decide +kernel
theorem dX2_init_5 : decode cX2_init 5 = .ok (.bipush 48, 2) := by decide +kernel
theorem dX2_init_7 : decode cX2_init 7 = .ok (.newarray .int, 2) := by decide +kernel
theorem dX2_init_9 : decode cX2_init 9 = .ok (.putfield 9, 3) := by decide +kernel
theorem dX2_init_12 : decode cX2_init 12 = .ok (.aload_n 0, 1) := by decide +kernel
theorem dX2_init_13 : decode cX2_init 13 = .ok (.bipush 12, 2) := by decide +kernel
theorem dX2_init_15 : decode cX2_init 15 = .ok (.newarray .boolean, 2) := by decide +kernel
theorem dX2_init_17 : decode cX2_init 17 = .ok (.putfield 15, 3) := by decide +kernel
theorem dX2_init_20 : decode cX2_init 20 = .ok (.return_, 1) := by decide +kernel
theorem dX2_copy_0 : decode cX2_copy 0 = .ok (.aload_n 0, 1) := by decide +kernel
theorem dX2_copy_1 : decode cX2_copy 1 = .ok (.aload_n 1, 1) := by decide +kernel
theorem dX2_copy_2 : decode cX2_copy 2 = .ok (.getfield 19, 3) := by decide +kernel
theorem dX2_copy_5 : decode cX2_copy 5 = .ok (.putfield 19, 3) := by decide +kernel
theorem dX2_copy_8 : decode cX2_copy 8 = .ok (.aload_n 0, 1) := by decide +kernel
theorem dX2_copy_9 : decode cX2_copy 9 = .ok (.aload_n 1, 1) := by decide +kernel
theorem dX2_copy_10 : decode cX2_copy 10 = .ok (.getfield 23, 3) := by decide +kernel
theorem dX2_copy_13 : decode cX2_copy 13 = .ok (.putfield 23, 3) := by decide +kernel
theorem dX2_copy_16 : decode cX2_copy 16 = .ok (.aload_n 1, 1) := by decide +kernel
theorem dX2_copy_17 : decode cX2_copy 17 = .ok (.getfield 9, 3) := by decide +kernel
theorem dX2_copy_20 : decode cX2_copy 20 = .ok (.iconst 0, 1) := by decide +kernel
theorem dX2_copy_21 : decode cX2_copy 21 = .ok (.aload_n 0, 1) := by decide +kernel
theorem dX2_copy_22 : decode cX2_copy 22 = .ok (.getfield 9, 3) := by decide +kernel
theorem dX2_copy_25 : decode cX2_copy 25 = .ok (.iconst 0, 1) := by decide +kernel
theorem dX2_copy_26 : decode cX2_copy 26 = .ok (.bipush 48, 2) := by decide +kernel
theorem dX2_copy_28 : decode cX2_copy 28 = .ok (.invokestatic 26, 3) := by decide +kernel
theorem dX2_copy_31 : decode cX2_copy 31 = .ok (.iconst 0, 1) := by decide +kernel
theorem dX2_copy_32 : decode cX2_copy 32 = .ok (.istore_n 2, 1) := by decide +kernel
theorem dX2_copy_33 : decode cX2_copy 33 = .ok (.iload_n 2, 1) := by decide +kernel
theorem dX2_copy_34 : decode cX2_copy 34 = .ok (.bipush 12, 2) := by decide +kernel
theorem dX2_copy_36 : decode cX2_copy 36 = .ok (.if_icmp .ge 21, 3) := by decide +kernel
theorem dX2_copy_39 : decode cX2_copy 39 = .ok (.aload_n 0, 1) := by decide +kernel
theorem dX2_copy_40 : decode cX2_copy 40 = .ok (.getfield 15, 3) := by decide +kernel
theorem dX2_copy_43 : decode cX2_copy 43 = .ok (.iload_n 2, 1) := by decide +kernel
theorem dX2_copy_44 : decode cX2_copy 44 = .ok (.aload_n 1, 1) := by decide +kernel
theorem dX2_copy_45 : decode cX2_copy 45 = .ok (.getfield 15, 3) := by decide +kernel
theorem dX2_copy_48 : decode cX2_copy 48 = .ok (.iload_n 2, 1) := by decide +kernel
theorem dX2_copy_49 : decode cX2_copy 49 = .ok (.baload, 1) := by decide +kernel
theorem dX2_copy_50 : decode cX2_copy 50 = .ok (.bastore, 1) := by decide +kernel
theorem dX2_copy_51 : decode cX2_copy 51 = .ok (.iinc 2 1, 3) := by decide +kernel
theorem dX2_copy_54 : decode cX2_copy 54 = .ok (.goto (-21), 3) := by decide +kernel
theorem dX2_copy_57 : decode cX2_copy 57 = .ok (.return_, 1) := by decide +kernel
theorem dX2_of_0 : decode cX2_of 0 = .ok (.aload_n 0, 1) := by decide +kernel
theorem dX2_of_1 : decode cX2_of 1 = .ok (.getfield 9, 3) := by decide +kernel
theorem dX2_of_4 : decode cX2_of 4 = .ok (.iload_n 1, 1) := by decide +kernel
theorem dX2_of_5 : decode cX2_of 5 = .ok (.iconst 4, 1) := by decide +kernel
theorem dX2_of_6 : decode cX2_of 6 = .ok (.imul, 1) := by decide +kernel
theorem dX2_of_7 : decode cX2_of 7 = .ok (.iload_n 2, 1) := by decide +kernel
theorem dX2_of_8 : decode cX2_of 8 = .ok (.iadd, 1) := by decide +kernel
theorem dX2_of_9 : decode cX2_of 9 = .ok (.iaload, 1) := by decide +kernel
theorem dX2_of_10 : decode cX2_of 10 = .ok (.ireturn, 1) := by decide +kernel
theorem dX2_firstPart_0 : decode cX2_firstPart 0 = .ok (.iconst 0, 1) := by decide +kernel
theorem dX2_firstPart_1 : decode cX2_firstPart 1 = .ok (.istore_n 1, 1) := by decide +kernel
theorem dX2_firstPart_2 : decode cX2_firstPart 2 = .ok (.iload_n 1, 1) := by decide +kernel
theorem dX2_firstPart_3 : decode cX2_firstPart 3 = .ok (.bipush 12, 2) := by decide +kernel
theorem dX2_firstPart_5 : decode cX2_firstPart 5 = .ok (.if_icmp .ge 20, 3) := by decide +kernel
theorem dX2_firstPart_8 : decode cX2_firstPart 8 = .ok (.aload_n 0, 1) := by decide +kernel
theorem dX2_firstPart_9 : decode cX2_firstPart 9 = .ok (.getfield 15, 3) := by decide +kernel
theorem dX2_firstPart_12 : decode cX2_firstPart 12 = .ok (.iload_n 1, 1) := by decide +kernel
theorem dX2_firstPart_13 : decode cX2_firstPart 13 = .ok (.baload, 1) := by decide +kernel
theorem dX2_firstPart_14 : decode cX2_firstPart 14 = .ok (.ifCond .eq 5, 3) := by decide +kernel
theorem dX2_firstPart_17 : decode cX2_firstPart 17 = .ok (.iload_n 1, 1) := by decide +kernel
theorem dX2_firstPart_18 : decode cX2_firstPart 18 = .ok (.ireturn, 1) := by decide +kernel
theorem dX2_firstPart_19 : decode cX2_firstPart 19 = .ok (.iinc 1 1, 3) := by decide +kernel
theorem dX2_firstPart_22 : decode cX2_firstPart 22 = .ok (.goto (-20), 3) := by decide +kernel
theorem dX2_firstPart_25 : decode cX2_firstPart 25 = .ok (.iconst (-1), 1) := by decide +kernel
theorem dX2_firstPart_26 : decode cX2_firstPart 26 = .ok (.ireturn, 1) := by decide +kernel
set_option maxRecDepth 20000 in
theorem ggX2_takes_X3_areZero : GoodIn wsX2_takes wsX3_areZero := goodIn_r _ [5] rfl (by decide +kernel)
set_option maxRecDepth 20000 in
theorem gX2_takes_X3_areZero_n32 : GoodIn wsX2_takes (wsX3_areZero) := ggX2_takes_X3_areZero
theorem dX2_takes_0 : decode cX2_takes 0 = .ok (.aload_n 0, 1) := by decide +kernel
theorem dX2_takes_1 : decode cX2_takes 1 = .ok (.getfield 9, 3) := by decide +kernel
theorem dX2_takes_4 : decode cX2_takes 4 = .ok (.iload_n 1, 1) := by decide +kernel
theorem dX2_takes_5 : decode cX2_takes 5 = .ok (.iconst 0, 1) := by decide +kernel
theorem dX2_takes_6 : decode cX2_takes 6 = .ok (.aload_n 0, 1) := by decide +kernel
theorem dX2_takes_7 : decode cX2_takes 7 = .ok (.getfield 19, 3) := by decide +kernel
theorem dX2_takes_10 : decode cX2_takes 10 = .ok (.invokestatic 32, 3) := by decide +kernel
theorem dX2_takes_13 : decode cX2_takes 13 = .ok (.ifCond .ne 7, 3) := by decide +kernel
theorem dX2_takes_16 : decode cX2_takes 16 = .ok (.iconst 1, 1) := by decide +kernel
theorem dX2_takes_17 : decode cX2_takes 17 = .ok (.goto 4, 3) := by decide +kernel
theorem dX2_takes_20 : decode cX2_takes 20 = .ok (.iconst 0, 1) := by decide +kernel
theorem dX2_takes_21 : decode cX2_takes 21 = .ok (.ireturn, 1) := by decide +kernel
set_option maxRecDepth 20000 in
theorem ggX2_gives_X3_areZero : GoodIn wsX2_gives wsX3_areZero := goodIn_r _ [6] rfl (by decide +kernel)
set_option maxRecDepth 20000 in
theorem gX2_gives_X3_areZero_n32 : GoodIn wsX2_gives (wsX3_areZero) := ggX2_gives_X3_areZero
theorem dX2_gives_0 : decode cX2_gives 0 = .ok (.aload_n 0, 1) := by decide +kernel
theorem dX2_gives_1 : decode cX2_gives 1 = .ok (.getfield 9, 3) := by decide +kernel
theorem dX2_gives_4 : decode cX2_gives 4 = .ok (.iload_n 1, 1) := by decide +kernel
theorem dX2_gives_5 : decode cX2_gives 5 = .ok (.aload_n 0, 1) := by decide +kernel
theorem dX2_gives_6 : decode cX2_gives 6 = .ok (.getfield 19, 3) := by decide +kernel
theorem dX2_gives_9 : decode cX2_gives 9 = .ok (.aload_n 0, 1) := by decide +kernel
theorem dX2_gives_10 : decode cX2_gives 10 = .ok (.getfield 19, 3) := by decide +kernel
theorem dX2_gives_13 : decode cX2_gives 13 = .ok (.aload_n 0, 1) := by decide +kernel
theorem dX2_gives_14 : decode cX2_gives 14 = .ok (.getfield 23, 3) := by decide +kernel
theorem dX2_gives_17 : decode cX2_gives 17 = .ok (.iadd, 1) := by decide +kernel
theorem dX2_gives_18 : decode cX2_gives 18 = .ok (.invokestatic 32, 3) := by decide +kernel
theorem dX2_gives_21 : decode cX2_gives 21 = .ok (.ifCond .ne 7, 3) := by decide +kernel
theorem dX2_gives_24 : decode cX2_gives 24 = .ok (.iconst 1, 1) := by decide +kernel
theorem dX2_gives_25 : decode cX2_gives 25 = .ok (.goto 4, 3) := by decide +kernel
theorem dX2_gives_28 : decode cX2_gives 28 = .ok (.iconst 0, 1) := by decide +kernel
theorem dX2_gives_29 : decode cX2_gives 29 = .ok (.ireturn, 1) := by decide +kernel
set_option maxRecDepth 20000 in
theorem ggX2_priceIns_X2_of : GoodIn wsX2_priceIns wsX2_of := goodIn_r _ [8, 3, 9, 10, 11, 12] rfl (by decide +kernel)
set_option maxRecDepth 20000 in
theorem gX2_priceIns_X2_of : GoodIn wsX2_priceIns (wsV RX2 36 RX2 yX2_of wsX2_of) := goodIn_app (goodIn_c (List.mem_of_getElem? (i := 4) rfl) rfl (goodIn_c (List.mem_of_getElem? (i := 5) rfl) rfl (goodIn_c (List.mem_of_getElem? (i := 6) rfl) rfl (goodIn_c (List.mem_of_getElem? (i := 7) rfl) rfl (goodIn_nil))))) ggX2_priceIns_X2_of
theorem dX2_priceIns_0 : decode cX2_priceIns 0 = .ok (.iconst 0, 1) := by decide +kernel
theorem dX2_priceIns_1 : decode cX2_priceIns 1 = .ok (.istore_n 3, 1) := by decide +kernel
theorem dX2_priceIns_2 : decode cX2_priceIns 2 = .ok (.iload_n 3, 1) := by decide +kernel
theorem dX2_priceIns_3 : decode cX2_priceIns 3 = .ok (.bipush 12, 2) := by decide +kernel
theorem dX2_priceIns_5 : decode cX2_priceIns 5 = .ok (.if_icmp .ge 93, 3) := by decide +kernel
theorem dX2_priceIns_8 : decode cX2_priceIns 8 = .ok (.iload_n 1, 1) := by decide +kernel
theorem dX2_priceIns_9 : decode cX2_priceIns 9 = .ok (.aload_n 0, 1) := by decide +kernel
theorem dX2_priceIns_10 : decode cX2_priceIns 10 = .ok (.iload_n 3, 1) := by decide +kernel
theorem dX2_priceIns_11 : decode cX2_priceIns 11 = .ok (.iconst 0, 1) := by decide +kernel
theorem dX2_priceIns_12 : decode cX2_priceIns 12 = .ok (.invokevirtual 36, 3) := by decide +kernel
theorem dX2_priceIns_15 : decode cX2_priceIns 15 = .ok (.imul, 1) := by decide +kernel
theorem dX2_priceIns_16 : decode cX2_priceIns 16 = .ok (.istore 4, 2) := by decide +kernel
theorem dX2_priceIns_18 : decode cX2_priceIns 18 = .ok (.aload_n 0, 1) := by decide +kernel
theorem dX2_priceIns_19 : decode cX2_priceIns 19 = .ok (.getfield 19, 3) := by decide +kernel
theorem dX2_priceIns_22 : decode cX2_priceIns 22 = .ok (.iconst 2, 1) := by decide +kernel
theorem dX2_priceIns_23 : decode cX2_priceIns 23 = .ok (.if_icmp .ne 16, 3) := by decide +kernel
theorem dX2_priceIns_26 : decode cX2_priceIns 26 = .ok (.iload 4, 2) := by decide +kernel
theorem dX2_priceIns_28 : decode cX2_priceIns 28 = .ok (.iload_n 2, 1) := by decide +kernel
theorem dX2_priceIns_29 : decode cX2_priceIns 29 = .ok (.aload_n 0, 1) := by decide +kernel
theorem dX2_priceIns_30 : decode cX2_priceIns 30 = .ok (.iload_n 3, 1) := by decide +kernel
theorem dX2_priceIns_31 : decode cX2_priceIns 31 = .ok (.iconst 1, 1) := by decide +kernel
theorem dX2_priceIns_32 : decode cX2_priceIns 32 = .ok (.invokevirtual 36, 3) := by decide +kernel
theorem dX2_priceIns_35 : decode cX2_priceIns 35 = .ok (.imul, 1) := by decide +kernel
theorem dX2_priceIns_36 : decode cX2_priceIns 36 = .ok (.iadd, 1) := by decide +kernel
theorem dX2_priceIns_37 : decode cX2_priceIns 37 = .ok (.istore 4, 2) := by decide +kernel
theorem dX2_priceIns_39 : decode cX2_priceIns 39 = .ok (.iconst 0, 1) := by decide +kernel
theorem dX2_priceIns_40 : decode cX2_priceIns 40 = .ok (.istore 5, 2) := by decide +kernel
theorem dX2_priceIns_42 : decode cX2_priceIns 42 = .ok (.iload 5, 2) := by decide +kernel
theorem dX2_priceIns_44 : decode cX2_priceIns 44 = .ok (.aload_n 0, 1) := by decide +kernel
theorem dX2_priceIns_45 : decode cX2_priceIns 45 = .ok (.getfield 23, 3) := by decide +kernel
theorem dX2_priceIns_48 : decode cX2_priceIns 48 = .ok (.if_icmp .ge 34, 3) := by decide +kernel
theorem dX2_priceIns_51 : decode cX2_priceIns 51 = .ok (.aload_n 0, 1) := by decide +kernel
theorem dX2_priceIns_52 : decode cX2_priceIns 52 = .ok (.getfield 9, 3) := by decide +kernel
theorem dX2_priceIns_55 : decode cX2_priceIns 55 = .ok (.iload_n 3, 1) := by decide +kernel
theorem dX2_priceIns_56 : decode cX2_priceIns 56 = .ok (.iconst 4, 1) := by decide +kernel
theorem dX2_priceIns_57 : decode cX2_priceIns 57 = .ok (.imul, 1) := by decide +kernel
theorem dX2_priceIns_58 : decode cX2_priceIns 58 = .ok (.iconst 1, 1) := by decide +kernel
theorem dX2_priceIns_59 : decode cX2_priceIns 59 = .ok (.iadd, 1) := by decide +kernel
theorem dX2_priceIns_60 : decode cX2_priceIns 60 = .ok (.iload 5, 2) := by decide +kernel
theorem dX2_priceIns_62 : decode cX2_priceIns 62 = .ok (.iadd, 1) := by decide +kernel
theorem dX2_priceIns_63 : decode cX2_priceIns 63 = .ok (.aload_n 0, 1) := by decide +kernel
theorem dX2_priceIns_64 : decode cX2_priceIns 64 = .ok (.iload_n 3, 1) := by decide +kernel
theorem dX2_priceIns_65 : decode cX2_priceIns 65 = .ok (.aload_n 0, 1) := by decide +kernel
theorem dX2_priceIns_66 : decode cX2_priceIns 66 = .ok (.getfield 19, 3) := by decide +kernel
theorem dX2_priceIns_69 : decode cX2_priceIns 69 = .ok (.iload 5, 2) := by decide +kernel
theorem dX2_priceIns_71 : decode cX2_priceIns 71 = .ok (.iadd, 1) := by decide +kernel
theorem dX2_priceIns_72 : decode cX2_priceIns 72 = .ok (.invokevirtual 36, 3) := by decide +kernel
theorem dX2_priceIns_75 : decode cX2_priceIns 75 = .ok (.iastore, 1) := by decide +kernel
theorem dX2_priceIns_76 : decode cX2_priceIns 76 = .ok (.iinc 5 1, 3) := by decide +kernel
theorem dX2_priceIns_79 : decode cX2_priceIns 79 = .ok (.goto (-37), 3) := by decide +kernel
theorem dX2_priceIns_82 : decode cX2_priceIns 82 = .ok (.aload_n 0, 1) := by decide +kernel
theorem dX2_priceIns_83 : decode cX2_priceIns 83 = .ok (.getfield 9, 3) := by decide +kernel
theorem dX2_priceIns_86 : decode cX2_priceIns 86 = .ok (.iload_n 3, 1) := by decide +kernel
theorem dX2_priceIns_87 : decode cX2_priceIns 87 = .ok (.iconst 4, 1) := by decide +kernel
theorem dX2_priceIns_88 : decode cX2_priceIns 88 = .ok (.imul, 1) := by decide +kernel
theorem dX2_priceIns_89 : decode cX2_priceIns 89 = .ok (.iload 4, 2) := by decide +kernel
theorem dX2_priceIns_91 : decode cX2_priceIns 91 = .ok (.iastore, 1) := by decide +kernel
theorem dX2_priceIns_92 : decode cX2_priceIns 92 = .ok (.iinc 3 1, 3) := by decide +kernel
theorem dX2_priceIns_95 : decode cX2_priceIns 95 = .ok (.goto (-93), 3) := by decide +kernel
theorem dX2_priceIns_98 : decode cX2_priceIns 98 = .ok (.aload_n 0, 1) := by decide +kernel
theorem dX2_priceIns_99 : decode cX2_priceIns 99 = .ok (.iconst 1, 1) := by decide +kernel
theorem dX2_priceIns_100 : decode cX2_priceIns 100 = .ok (.putfield 19, 3) := by decide +kernel
theorem dX2_priceIns_103 : decode cX2_priceIns 103 = .ok (.return_, 1) := by decide +kernel
set_option maxRecDepth 20000 in
theorem ggX2_shareByOne_X2_of : GoodIn wsX2_shareByOne wsX2_of := goodIn_r _ [10, 11, 27, 28, 29, 30] rfl (by decide +kernel)
set_option maxRecDepth 20000 in
theorem gX2_shareByOne_X2_of : GoodIn wsX2_shareByOne (wsV RX2 36 RX2 yX2_of wsX2_of) := goodIn_app (goodIn_c (List.mem_of_getElem? (i := 6) rfl) rfl (goodIn_c (List.mem_of_getElem? (i := 7) rfl) rfl (goodIn_c (List.mem_of_getElem? (i := 8) rfl) rfl (goodIn_c (List.mem_of_getElem? (i := 9) rfl) rfl (goodIn_nil))))) ggX2_shareByOne_X2_of
set_option maxRecDepth 20000 in
theorem ggX2_shareByOne_X2_fits : GoodIn wsX2_shareByOne wsX2_fits := goodIn_r _ [15, 1, 16, 6, 7, 8, 9, 10, 11, 27, 28, 29, 30] rfl (by decide +kernel)
set_option maxRecDepth 20000 in
theorem gX2_shareByOne_X2_fits : GoodIn wsX2_shareByOne (wsV RX2 40 RX2 yX2_fits wsX2_fits) := goodIn_app (goodIn_c (List.mem_of_getElem? (i := 12) rfl) rfl (goodIn_c (List.mem_of_getElem? (i := 13) rfl) rfl (goodIn_c (List.mem_of_getElem? (i := 14) rfl) rfl (goodIn_c (List.mem_of_getElem? (i := 9) rfl) rfl (goodIn_nil))))) ggX2_shareByOne_X2_fits
set_option maxRecDepth 20000 in
theorem ggX2_shareByOne_X1_init : GoodIn wsX2_shareByOne wsX1_init := goodIn_r _ [18, 19, 20, 21, 22, 23, 24, 25, 26, 31, 32] rfl (by decide +kernel)
set_option maxRecDepth 20000 in
theorem gX2_shareByOne_X1_init_n46 : GoodIn wsX2_shareByOne (wsX1_init) := ggX2_shareByOne_X1_init
theorem dX2_shareByOne_0 : decode cX2_shareByOne 0 = .ok (.lconst 0, 1) := by decide +kernel
theorem dX2_shareByOne_1 : decode cX2_shareByOne 1 = .ok (.lstore_n 2, 1) := by decide +kernel
theorem dX2_shareByOne_2 : decode cX2_shareByOne 2 = .ok (.lconst 0, 1) := by decide +kernel
theorem dX2_shareByOne_3 : decode cX2_shareByOne 3 = .ok (.lstore 4, 2) := by decide +kernel
theorem dX2_shareByOne_5 : decode cX2_shareByOne 5 = .ok (.iconst 0, 1) := by decide +kernel
theorem dX2_shareByOne_6 : decode cX2_shareByOne 6 = .ok (.istore 6, 2) := by decide +kernel
theorem dX2_shareByOne_8 : decode cX2_shareByOne 8 = .ok (.iload 6, 2) := by decide +kernel
theorem dX2_shareByOne_10 : decode cX2_shareByOne 10 = .ok (.bipush 12, 2) := by decide +kernel
theorem dX2_shareByOne_12 : decode cX2_shareByOne 12 = .ok (.if_icmp .ge 118, 3) := by decide +kernel
theorem dX2_shareByOne_15 : decode cX2_shareByOne 15 = .ok (.iconst 0, 1) := by decide +kernel
theorem dX2_shareByOne_16 : decode cX2_shareByOne 16 = .ok (.istore 7, 2) := by decide +kernel
theorem dX2_shareByOne_18 : decode cX2_shareByOne 18 = .ok (.iload 7, 2) := by decide +kernel
theorem dX2_shareByOne_20 : decode cX2_shareByOne 20 = .ok (.aload_n 0, 1) := by decide +kernel
theorem dX2_shareByOne_21 : decode cX2_shareByOne 21 = .ok (.getfield 19, 3) := by decide +kernel
theorem dX2_shareByOne_24 : decode cX2_shareByOne 24 = .ok (.if_icmp .ge 100, 3) := by decide +kernel
theorem dX2_shareByOne_27 : decode cX2_shareByOne 27 = .ok (.aload_n 0, 1) := by decide +kernel
theorem dX2_shareByOne_28 : decode cX2_shareByOne 28 = .ok (.iload 6, 2) := by decide +kernel
theorem dX2_shareByOne_30 : decode cX2_shareByOne 30 = .ok (.iload 7, 2) := by decide +kernel
theorem dX2_shareByOne_32 : decode cX2_shareByOne 32 = .ok (.invokevirtual 36, 3) := by decide +kernel
theorem dX2_shareByOne_35 : decode cX2_shareByOne 35 = .ok (.i2l, 1) := by decide +kernel
theorem dX2_shareByOne_36 : decode cX2_shareByOne 36 = .ok (.lstore 8, 2) := by decide +kernel
theorem dX2_shareByOne_38 : decode cX2_shareByOne 38 = .ok (.aload_n 0, 1) := by decide +kernel
theorem dX2_shareByOne_39 : decode cX2_shareByOne 39 = .ok (.iload_n 1, 1) := by decide +kernel
theorem dX2_shareByOne_40 : decode cX2_shareByOne 40 = .ok (.iload 7, 2) := by decide +kernel
theorem dX2_shareByOne_42 : decode cX2_shareByOne 42 = .ok (.invokevirtual 36, 3) := by decide +kernel
theorem dX2_shareByOne_45 : decode cX2_shareByOne 45 = .ok (.i2l, 1) := by decide +kernel
theorem dX2_shareByOne_46 : decode cX2_shareByOne 46 = .ok (.lstore 10, 2) := by decide +kernel
theorem dX2_shareByOne_48 : decode cX2_shareByOne 48 = .ok (.lload 4, 2) := by decide +kernel
theorem dX2_shareByOne_50 : decode cX2_shareByOne 50 = .ok (.lconst 0, 1) := by decide +kernel
theorem dX2_shareByOne_51 : decode cX2_shareByOne 51 = .ok (.lcmp, 1) := by decide +kernel
theorem dX2_shareByOne_52 : decode cX2_shareByOne 52 = .ok (.ifCond .eq 16, 3) := by decide +kernel
theorem dX2_shareByOne_55 : decode cX2_shareByOne 55 = .ok (.lload 8, 2) := by decide +kernel
theorem dX2_shareByOne_57 : decode cX2_shareByOne 57 = .ok (.lload 4, 2) := by decide +kernel
theorem dX2_shareByOne_59 : decode cX2_shareByOne 59 = .ok (.lmul, 1) := by decide +kernel
theorem dX2_shareByOne_60 : decode cX2_shareByOne 60 = .ok (.lload_n 2, 1) := by decide +kernel
theorem dX2_shareByOne_61 : decode cX2_shareByOne 61 = .ok (.lload 10, 2) := by decide +kernel
theorem dX2_shareByOne_63 : decode cX2_shareByOne 63 = .ok (.lmul, 1) := by decide +kernel
theorem dX2_shareByOne_64 : decode cX2_shareByOne 64 = .ok (.lcmp, 1) := by decide +kernel
theorem dX2_shareByOne_65 : decode cX2_shareByOne 65 = .ok (.ifCond .ge 7, 3) := by decide +kernel
theorem dX2_shareByOne_68 : decode cX2_shareByOne 68 = .ok (.iconst 1, 1) := by decide +kernel
theorem dX2_shareByOne_69 : decode cX2_shareByOne 69 = .ok (.goto 4, 3) := by decide +kernel
theorem dX2_shareByOne_72 : decode cX2_shareByOne 72 = .ok (.iconst 0, 1) := by decide +kernel
theorem dX2_shareByOne_73 : decode cX2_shareByOne 73 = .ok (.istore 12, 2) := by decide +kernel
theorem dX2_shareByOne_75 : decode cX2_shareByOne 75 = .ok (.aload_n 0, 1) := by decide +kernel
theorem dX2_shareByOne_76 : decode cX2_shareByOne 76 = .ok (.getfield 15, 3) := by decide +kernel
theorem dX2_shareByOne_79 : decode cX2_shareByOne 79 = .ok (.iload 6, 2) := by decide +kernel
theorem dX2_shareByOne_81 : decode cX2_shareByOne 81 = .ok (.baload, 1) := by decide +kernel
theorem dX2_shareByOne_82 : decode cX2_shareByOne 82 = .ok (.ifCond .eq 36, 3) := by decide +kernel
theorem dX2_shareByOne_85 : decode cX2_shareByOne 85 = .ok (.lload 10, 2) := by decide +kernel
theorem dX2_shareByOne_87 : decode cX2_shareByOne 87 = .ok (.lconst 0, 1) := by decide +kernel
theorem dX2_shareByOne_88 : decode cX2_shareByOne 88 = .ok (.lcmp, 1) := by decide +kernel
theorem dX2_shareByOne_89 : decode cX2_shareByOne 89 = .ok (.ifCond .le 29, 3) := by decide +kernel
theorem dX2_shareByOne_92 : decode cX2_shareByOne 92 = .ok (.iload 12, 2) := by decide +kernel
theorem dX2_shareByOne_94 : decode cX2_shareByOne 94 = .ok (.ifCond .eq 24, 3) := by decide +kernel
theorem dX2_shareByOne_97 : decode cX2_shareByOne 97 = .ok (.aload_n 0, 1) := by decide +kernel
theorem dX2_shareByOne_98 : decode cX2_shareByOne 98 = .ok (.iload 6, 2) := by decide +kernel
theorem dX2_shareByOne_100 : decode cX2_shareByOne 100 = .ok (.iload_n 1, 1) := by decide +kernel
theorem dX2_shareByOne_101 : decode cX2_shareByOne 101 = .ok (.lload 8, 2) := by decide +kernel
theorem dX2_shareByOne_103 : decode cX2_shareByOne 103 = .ok (.lload 10, 2) := by decide +kernel
theorem dX2_shareByOne_105 : decode cX2_shareByOne 105 = .ok (.invokevirtual 40, 3) := by decide +kernel
theorem dX2_shareByOne_108 : decode cX2_shareByOne 108 = .ok (.ifCond .eq 10, 3) := by decide +kernel
theorem dX2_shareByOne_111 : decode cX2_shareByOne 111 = .ok (.lload 8, 2) := by decide +kernel
theorem dX2_shareByOne_113 : decode cX2_shareByOne 113 = .ok (.lstore_n 2, 1) := by decide +kernel
theorem dX2_shareByOne_114 : decode cX2_shareByOne 114 = .ok (.lload 10, 2) := by decide +kernel
theorem dX2_shareByOne_116 : decode cX2_shareByOne 116 = .ok (.lstore 4, 2) := by decide +kernel
theorem dX2_shareByOne_118 : decode cX2_shareByOne 118 = .ok (.iinc 7 1, 3) := by decide +kernel
theorem dX2_shareByOne_121 : decode cX2_shareByOne 121 = .ok (.goto (-103), 3) := by decide +kernel
theorem dX2_shareByOne_124 : decode cX2_shareByOne 124 = .ok (.iinc 6 1, 3) := by decide +kernel
theorem dX2_shareByOne_127 : decode cX2_shareByOne 127 = .ok (.goto (-119), 3) := by decide +kernel
theorem dX2_shareByOne_130 : decode cX2_shareByOne 130 = .ok (.new 44, 3) := by decide +kernel
theorem dX2_shareByOne_133 : decode cX2_shareByOne 133 = .ok (.dup, 1) := by decide +kernel
theorem dX2_shareByOne_134 : decode cX2_shareByOne 134 = .ok (.lload_n 2, 1) := by decide +kernel
theorem dX2_shareByOne_135 : decode cX2_shareByOne 135 = .ok (.lload 4, 2) := by decide +kernel
theorem dX2_shareByOne_137 : decode cX2_shareByOne 137 = .ok (.invokespecial 46, 3) := by decide +kernel
theorem dX2_shareByOne_140 : decode cX2_shareByOne 140 = .ok (.areturn, 1) := by decide +kernel
set_option maxRecDepth 20000 in
theorem ggX2_fits_X2_of : GoodIn wsX2_fits wsX2_of := goodIn_r _ [7, 8, 9, 10, 11, 12] rfl (by decide +kernel)
set_option maxRecDepth 20000 in
theorem gX2_fits_X2_of : GoodIn wsX2_fits (wsV RX2 36 RX2 yX2_of wsX2_of) := goodIn_app (goodIn_c (List.mem_of_getElem? (i := 3) rfl) rfl (goodIn_c (List.mem_of_getElem? (i := 4) rfl) rfl (goodIn_c (List.mem_of_getElem? (i := 5) rfl) rfl (goodIn_c (List.mem_of_getElem? (i := 6) rfl) rfl (goodIn_nil))))) ggX2_fits_X2_of
theorem dX2_fits_0 : decode cX2_fits 0 = .ok (.iconst 0, 1) := by decide +kernel
theorem dX2_fits_1 : decode cX2_fits 1 = .ok (.istore 7, 2) := by decide +kernel
theorem dX2_fits_3 : decode cX2_fits 3 = .ok (.iload 7, 2) := by decide +kernel
theorem dX2_fits_5 : decode cX2_fits 5 = .ok (.aload_n 0, 1) := by decide +kernel
theorem dX2_fits_6 : decode cX2_fits 6 = .ok (.getfield 19, 3) := by decide +kernel
theorem dX2_fits_9 : decode cX2_fits 9 = .ok (.if_icmp .ge 36, 3) := by decide +kernel
theorem dX2_fits_12 : decode cX2_fits 12 = .ok (.aload_n 0, 1) := by decide +kernel
theorem dX2_fits_13 : decode cX2_fits 13 = .ok (.iload_n 1, 1) := by decide +kernel
theorem dX2_fits_14 : decode cX2_fits 14 = .ok (.iload 7, 2) := by decide +kernel
theorem dX2_fits_16 : decode cX2_fits 16 = .ok (.invokevirtual 36, 3) := by decide +kernel
theorem dX2_fits_19 : decode cX2_fits 19 = .ok (.i2l, 1) := by decide +kernel
theorem dX2_fits_20 : decode cX2_fits 20 = .ok (.lload 5, 2) := by decide +kernel
theorem dX2_fits_22 : decode cX2_fits 22 = .ok (.lmul, 1) := by decide +kernel
theorem dX2_fits_23 : decode cX2_fits 23 = .ok (.aload_n 0, 1) := by decide +kernel
theorem dX2_fits_24 : decode cX2_fits 24 = .ok (.iload_n 2, 1) := by decide +kernel
theorem dX2_fits_25 : decode cX2_fits 25 = .ok (.iload 7, 2) := by decide +kernel
theorem dX2_fits_27 : decode cX2_fits 27 = .ok (.invokevirtual 36, 3) := by decide +kernel
theorem dX2_fits_30 : decode cX2_fits 30 = .ok (.i2l, 1) := by decide +kernel
theorem dX2_fits_31 : decode cX2_fits 31 = .ok (.lload_n 3, 1) := by decide +kernel
theorem dX2_fits_32 : decode cX2_fits 32 = .ok (.lmul, 1) := by decide +kernel
theorem dX2_fits_33 : decode cX2_fits 33 = .ok (.lcmp, 1) := by decide +kernel
theorem dX2_fits_34 : decode cX2_fits 34 = .ok (.ifCond .le 5, 3) := by decide +kernel
theorem dX2_fits_37 : decode cX2_fits 37 = .ok (.iconst 0, 1) := by decide +kernel
theorem dX2_fits_38 : decode cX2_fits 38 = .ok (.ireturn, 1) := by decide +kernel
theorem dX2_fits_39 : decode cX2_fits 39 = .ok (.iinc 7 1, 3) := by decide +kernel
theorem dX2_fits_42 : decode cX2_fits 42 = .ok (.goto (-39), 3) := by decide +kernel
theorem dX2_fits_45 : decode cX2_fits 45 = .ok (.aload_n 0, 1) := by decide +kernel
theorem dX2_fits_46 : decode cX2_fits 46 = .ok (.getfield 19, 3) := by decide +kernel
theorem dX2_fits_49 : decode cX2_fits 49 = .ok (.istore 7, 2) := by decide +kernel
theorem dX2_fits_51 : decode cX2_fits 51 = .ok (.iload 7, 2) := by decide +kernel
theorem dX2_fits_53 : decode cX2_fits 53 = .ok (.aload_n 0, 1) := by decide +kernel
theorem dX2_fits_54 : decode cX2_fits 54 = .ok (.getfield 19, 3) := by decide +kernel
theorem dX2_fits_57 : decode cX2_fits 57 = .ok (.aload_n 0, 1) := by decide +kernel
theorem dX2_fits_58 : decode cX2_fits 58 = .ok (.getfield 23, 3) := by decide +kernel
theorem dX2_fits_61 : decode cX2_fits 61 = .ok (.iadd, 1) := by decide +kernel
theorem dX2_fits_62 : decode cX2_fits 62 = .ok (.if_icmp .ge 28, 3) := by decide +kernel
theorem dX2_fits_65 : decode cX2_fits 65 = .ok (.aload_n 0, 1) := by decide +kernel
theorem dX2_fits_66 : decode cX2_fits 66 = .ok (.iload_n 1, 1) := by decide +kernel
theorem dX2_fits_67 : decode cX2_fits 67 = .ok (.iload 7, 2) := by decide +kernel
theorem dX2_fits_69 : decode cX2_fits 69 = .ok (.invokevirtual 36, 3) := by decide +kernel
theorem dX2_fits_72 : decode cX2_fits 72 = .ok (.aload_n 0, 1) := by decide +kernel
theorem dX2_fits_73 : decode cX2_fits 73 = .ok (.iload_n 2, 1) := by decide +kernel
theorem dX2_fits_74 : decode cX2_fits 74 = .ok (.iload 7, 2) := by decide +kernel
theorem dX2_fits_76 : decode cX2_fits 76 = .ok (.invokevirtual 36, 3) := by decide +kernel
theorem dX2_fits_79 : decode cX2_fits 79 = .ok (.if_icmp .ge 5, 3) := by decide +kernel
theorem dX2_fits_82 : decode cX2_fits 82 = .ok (.iconst 0, 1) := by decide +kernel
theorem dX2_fits_83 : decode cX2_fits 83 = .ok (.ireturn, 1) := by decide +kernel
theorem dX2_fits_84 : decode cX2_fits 84 = .ok (.iinc 7 1, 3) := by decide +kernel
theorem dX2_fits_87 : decode cX2_fits 87 = .ok (.goto (-36), 3) := by decide +kernel
theorem dX2_fits_90 : decode cX2_fits 90 = .ok (.iconst 1, 1) := by decide +kernel
theorem dX2_fits_91 : decode cX2_fits 91 = .ok (.ireturn, 1) := by decide +kernel
set_option maxRecDepth 20000 in
theorem ggX2_isMatchedByItsLikeAlone_X2_fits : GoodIn wsX2_isMatchedByItsLikeAlone wsX2_fits := goodIn_r _ [6, 7, 8, 9, 10, 11, 5, 12, 13, 14, 15, 16, 17] rfl (by decide +kernel)
set_option maxRecDepth 20000 in
theorem gX2_isMatchedByItsLikeAlone_X2_fits : GoodIn wsX2_isMatchedByItsLikeAlone (wsV RX2 40 RX2 yX2_fits wsX2_fits) := goodIn_app (goodIn_c (List.mem_of_getElem? (i := 2) rfl) rfl (goodIn_c (List.mem_of_getElem? (i := 3) rfl) rfl (goodIn_c (List.mem_of_getElem? (i := 4) rfl) rfl (goodIn_c (List.mem_of_getElem? (i := 5) rfl) rfl (goodIn_nil))))) ggX2_isMatchedByItsLikeAlone_X2_fits
theorem dX2_isMatchedByItsLikeAlone_0 : decode cX2_isMatchedByItsLikeAlone 0 = .ok (.iconst 0, 1) := by decide +kernel
theorem dX2_isMatchedByItsLikeAlone_1 : decode cX2_isMatchedByItsLikeAlone 1 = .ok (.istore_n 2, 1) := by decide +kernel
theorem dX2_isMatchedByItsLikeAlone_2 : decode cX2_isMatchedByItsLikeAlone 2 = .ok (.iload_n 2, 1) := by decide +kernel
theorem dX2_isMatchedByItsLikeAlone_3 : decode cX2_isMatchedByItsLikeAlone 3 = .ok (.bipush 12, 2) := by decide +kernel
theorem dX2_isMatchedByItsLikeAlone_5 : decode cX2_isMatchedByItsLikeAlone 5 = .ok (.if_icmp .ge 42, 3) := by decide +kernel
theorem dX2_isMatchedByItsLikeAlone_8 : decode cX2_isMatchedByItsLikeAlone 8 = .ok (.aload_n 0, 1) := by decide +kernel
theorem dX2_isMatchedByItsLikeAlone_9 : decode cX2_isMatchedByItsLikeAlone 9 = .ok (.getfield 15, 3) := by decide +kernel
theorem dX2_isMatchedByItsLikeAlone_12 : decode cX2_isMatchedByItsLikeAlone 12 = .ok (.iload_n 2, 1) := by decide +kernel
theorem dX2_isMatchedByItsLikeAlone_13 : decode cX2_isMatchedByItsLikeAlone 13 = .ok (.baload, 1) := by decide +kernel
theorem dX2_isMatchedByItsLikeAlone_14 : decode cX2_isMatchedByItsLikeAlone 14 = .ok (.ifCond .eq 27, 3) := by decide +kernel
theorem dX2_isMatchedByItsLikeAlone_17 : decode cX2_isMatchedByItsLikeAlone 17 = .ok (.aload_n 0, 1) := by decide +kernel
theorem dX2_isMatchedByItsLikeAlone_18 : decode cX2_isMatchedByItsLikeAlone 18 = .ok (.iload_n 2, 1) := by decide +kernel
theorem dX2_isMatchedByItsLikeAlone_19 : decode cX2_isMatchedByItsLikeAlone 19 = .ok (.iload_n 1, 1) := by decide +kernel
theorem dX2_isMatchedByItsLikeAlone_20 : decode cX2_isMatchedByItsLikeAlone 20 = .ok (.lconst 1, 1) := by decide +kernel
theorem dX2_isMatchedByItsLikeAlone_21 : decode cX2_isMatchedByItsLikeAlone 21 = .ok (.lconst 1, 1) := by decide +kernel
theorem dX2_isMatchedByItsLikeAlone_22 : decode cX2_isMatchedByItsLikeAlone 22 = .ok (.invokevirtual 40, 3) := by decide +kernel
theorem dX2_isMatchedByItsLikeAlone_25 : decode cX2_isMatchedByItsLikeAlone 25 = .ok (.ifCond .eq 16, 3) := by decide +kernel
theorem dX2_isMatchedByItsLikeAlone_28 : decode cX2_isMatchedByItsLikeAlone 28 = .ok (.aload_n 0, 1) := by decide +kernel
theorem dX2_isMatchedByItsLikeAlone_29 : decode cX2_isMatchedByItsLikeAlone 29 = .ok (.iload_n 1, 1) := by decide +kernel
theorem dX2_isMatchedByItsLikeAlone_30 : decode cX2_isMatchedByItsLikeAlone 30 = .ok (.iload_n 2, 1) := by decide +kernel
theorem dX2_isMatchedByItsLikeAlone_31 : decode cX2_isMatchedByItsLikeAlone 31 = .ok (.lconst 1, 1) := by decide +kernel
theorem dX2_isMatchedByItsLikeAlone_32 : decode cX2_isMatchedByItsLikeAlone 32 = .ok (.lconst 1, 1) := by decide +kernel
theorem dX2_isMatchedByItsLikeAlone_33 : decode cX2_isMatchedByItsLikeAlone 33 = .ok (.invokevirtual 40, 3) := by decide +kernel
theorem dX2_isMatchedByItsLikeAlone_36 : decode cX2_isMatchedByItsLikeAlone 36 = .ok (.ifCond .ne 5, 3) := by decide +kernel
theorem dX2_isMatchedByItsLikeAlone_39 : decode cX2_isMatchedByItsLikeAlone 39 = .ok (.iconst 0, 1) := by decide +kernel
theorem dX2_isMatchedByItsLikeAlone_40 : decode cX2_isMatchedByItsLikeAlone 40 = .ok (.ireturn, 1) := by decide +kernel
theorem dX2_isMatchedByItsLikeAlone_41 : decode cX2_isMatchedByItsLikeAlone 41 = .ok (.iinc 2 1, 3) := by decide +kernel
theorem dX2_isMatchedByItsLikeAlone_44 : decode cX2_isMatchedByItsLikeAlone 44 = .ok (.goto (-42), 3) := by decide +kernel
theorem dX2_isMatchedByItsLikeAlone_47 : decode cX2_isMatchedByItsLikeAlone 47 = .ok (.iconst 1, 1) := by decide +kernel
theorem dX2_isMatchedByItsLikeAlone_48 : decode cX2_isMatchedByItsLikeAlone 48 = .ok (.ireturn, 1) := by decide +kernel
set_option maxRecDepth 20000 in
theorem ggX3_init_X2_init : GoodIn wsX3_init wsX2_init := goodIn_r _ [20, 21, 2, 3, 4, 22, 7, 23, 53, 54, 55, 56] rfl (by decide +kernel)
set_option maxRecDepth 20000 in
theorem gX3_init_X2_init_n22 : GoodIn wsX3_init (wsX2_init) := ggX3_init_X2_init
set_option maxRecDepth 20000 in
theorem ggX3_init_X0_init : GoodIn wsX3_init wsX0_init := goodIn_r _ [25, 26, 2, 3, 27, 28, 4, 29, 30, 57, 58, 59, 60, 61, 62, 63, 64] rfl (by decide +kernel)
set_option maxRecDepth 20000 in
theorem gX3_init_X0_init_n36 : GoodIn wsX3_init (wsX0_init) := ggX3_init_X0_init
set_option maxRecDepth 20000 in
theorem ggX3_init_X3_clear : GoodIn wsX3_init wsX3_clear := goodIn_r _ [35, 36, 37, 38, 8, 39, 40, 41, 34, 42, 12, 5, 6, 15, 43, 44, 45, 46, 47, 48, 49, 50, 51, 52, 53, 54, 55, 56, 57, 58, 59, 60, 61, 62, 63, 64] rfl (by decide +kernel)
set_option maxRecDepth 20000 in
theorem gX3_init_X3_clear : GoodIn wsX3_init (wsV RX3 41 RX3 yX3_clear wsX3_clear) := goodIn_app (goodIn_c (List.mem_of_getElem? (i := 31) rfl) rfl (goodIn_c (List.mem_of_getElem? (i := 32) rfl) rfl (goodIn_c (List.mem_of_getElem? (i := 33) rfl) rfl (goodIn_c (List.mem_of_getElem? (i := 34) rfl) rfl (goodIn_nil))))) ggX3_init_X3_clear
