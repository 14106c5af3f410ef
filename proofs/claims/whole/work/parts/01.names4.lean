theorem dX9_begin_0 : decode cX9_begin 0 = .ok (.aload_n 0, 1) := by decide +kernel
theorem dX9_begin_1 : decode cX9_begin 1 = .ok (.iconst 0, 1) := by decide +kernel
theorem dX9_begin_2 : decode cX9_begin 2 = .ok (.putfield 43, 3) := by decide +kernel
theorem dX9_begin_5 : decode cX9_begin 5 = .ok (.aload_n 0, 1) := by decide +kernel
theorem dX9_begin_6 : decode cX9_begin 6 = .ok (.iload_n 1, 1) := by decide +kernel
theorem dX9_begin_7 : decode cX9_begin 7 = .ok (.invokestatic 67, 3) := by decide +kernel
theorem dX9_begin_10 : decode cX9_begin 10 = .ok (.invokevirtual 63, 3) := by decide +kernel
theorem dX9_begin_13 : decode cX9_begin 13 = .ok (.aload_n 0, 1) := by decide +kernel
theorem dX9_begin_14 : decode cX9_begin 14 = .ok (.iload_n 1, 1) := by decide +kernel
theorem dX9_begin_15 : decode cX9_begin 15 = .ok (.invokevirtual 54, 3) := by decide +kernel
theorem dX9_begin_18 : decode cX9_begin 18 = .ok (.return_, 1) := by decide +kernel
set_option maxRecDepth 20000 in
theorem ggX9_checked_X9_crc : GoodIn wsX9_checked wsX9_crc := goodIn_r _ [6, 7] (by decide +kernel) (by decide +kernel)
set_option maxRecDepth 20000 in
theorem gX9_checked_X9_crc : GoodIn wsX9_checked (va_wsS RX9 50 yX9_crc wsX9_crc) := goodIn_app (goodIn_of _ (by decide +kernel)) ggX9_checked_X9_crc
set_option maxRecDepth 20000 in
theorem ggX9_checked_X9_u4 : GoodIn wsX9_checked wsX9_u4 := goodIn_r _ [11, 12, 13, 14, 5, 15, 16, 17, 18, 19, 1, 2, 20, 21, 22, 23, 24, 25, 26, 27, 28, 29, 30, 31, 32, 33, 34, 35, 36, 37, 38, 39] (by decide +kernel) (by decide +kernel)
set_option maxRecDepth 20000 in
theorem gX9_checked_X9_u4 : GoodIn wsX9_checked (wsV RX9 46 RX9 yX9_u4 wsX9_u4) := goodIn_app (goodIn_of _ (by decide +kernel)) ggX9_checked_X9_u4
set_option maxRecDepth 20000 in
theorem ggX9_checked_X9_u1 : GoodIn wsX9_checked wsX9_u1 := goodIn_r _ [19, 1, 2, 20, 21, 22, 23, 24, 25, 26, 27, 28, 29, 30, 31, 32, 33, 34, 35, 36, 37, 38, 39] (by decide +kernel) (by decide +kernel)
set_option maxRecDepth 20000 in
theorem gX9_checked_X9_u1 : GoodIn wsX9_checked (wsV RX9 54 RX9 yX9_u1 wsX9_u1) := goodIn_app (goodIn_of _ (by decide +kernel)) ggX9_checked_X9_u1
theorem dX9_checked_0 : decode cX9_checked 0 = .ok (.aload_n 0, 1) := by decide +kernel
theorem dX9_checked_1 : decode cX9_checked 1 = .ok (.aload_n 0, 1) := by decide +kernel
theorem dX9_checked_2 : decode cX9_checked 2 = .ok (.getfield 28, 3) := by decide +kernel
theorem dX9_checked_5 : decode cX9_checked 5 = .ok (.iconst 0, 1) := by decide +kernel
theorem dX9_checked_6 : decode cX9_checked 6 = .ok (.aload_n 0, 1) := by decide +kernel
theorem dX9_checked_7 : decode cX9_checked 7 = .ok (.getfield 43, 3) := by decide +kernel
theorem dX9_checked_10 : decode cX9_checked 10 = .ok (.invokestatic 50, 3) := by decide +kernel
theorem dX9_checked_13 : decode cX9_checked 13 = .ok (.invokevirtual 46, 3) := by decide +kernel
theorem dX9_checked_16 : decode cX9_checked 16 = .ok (.aload_n 0, 1) := by decide +kernel
theorem dX9_checked_17 : decode cX9_checked 17 = .ok (.sipush 165, 3) := by decide +kernel
theorem dX9_checked_20 : decode cX9_checked 20 = .ok (.invokevirtual 54, 3) := by decide +kernel
theorem dX9_checked_23 : decode cX9_checked 23 = .ok (.return_, 1) := by decide +kernel
set_option maxRecDepth 20000 in
theorem ggX9_write_X9_fails : GoodIn wsX9_write wsX9_fails := goodIn_r _ [8, 9, 10, 1, 11, 12, 13, 14, 15, 16, 17, 18, 19, 20, 21, 22, 23, 24, 25, 26, 27, 28, 29, 30] (by decide +kernel) (by decide +kernel)
set_option maxRecDepth 20000 in
theorem gX9_write_X9_fails : GoodIn wsX9_write (wsV RX9 71 RX9 yX9_fails wsX9_fails) := goodIn_app (goodIn_of _ (by decide +kernel)) ggX9_write_X9_fails
theorem dX9_write_0 : decode cX9_write 0 = .ok (.aload_n 0, 1) := by decide +kernel
theorem dX9_write_1 : decode cX9_write 1 = .ok (.getfield 9, 3) := by decide +kernel
theorem dX9_write_4 : decode cX9_write 4 = .ok (.ifCond .ne 9, 3) := by decide +kernel
theorem dX9_write_7 : decode cX9_write 7 = .ok (.aload_n 0, 1) := by decide +kernel
theorem dX9_write_8 : decode cX9_write 8 = .ok (.invokevirtual 71, 3) := by decide +kernel
theorem dX9_write_11 : decode cX9_write 11 = .ok (.iconst 0, 1) := by decide +kernel
theorem dX9_write_12 : decode cX9_write 12 = .ok (.ireturn, 1) := by decide +kernel
theorem dX9_write_13 : decode cX9_write 13 = .ok (.aload_n 0, 1) := by decide +kernel
theorem dX9_write_14 : decode cX9_write 14 = .ok (.getfield 40, 3) := by decide +kernel
theorem dX9_write_17 : decode cX9_write 17 = .ok (.iload_n 1, 1) := by decide +kernel
theorem dX9_write_18 : decode cX9_write 18 = .ok (.aaload, 1) := by decide +kernel
theorem dX9_write_19 : decode cX9_write 19 = .ok (.iload_n 2, 1) := by decide +kernel
theorem dX9_write_20 : decode cX9_write 20 = .ok (.iload_n 3, 1) := by decide +kernel
theorem dX9_write_21 : decode cX9_write 21 = .ok (.bastore, 1) := by decide +kernel
theorem dX9_write_22 : decode cX9_write 22 = .ok (.aload_n 0, 1) := by decide +kernel
theorem dX9_write_23 : decode cX9_write 23 = .ok (.dup, 1) := by decide +kernel
theorem dX9_write_24 : decode cX9_write 24 = .ok (.getfield 74, 3) := by decide +kernel
theorem dX9_write_27 : decode cX9_write 27 = .ok (.iconst 1, 1) := by decide +kernel
theorem dX9_write_28 : decode cX9_write 28 = .ok (.iadd, 1) := by decide +kernel
theorem dX9_write_29 : decode cX9_write 29 = .ok (.putfield 74, 3) := by decide +kernel
theorem dX9_write_32 : decode cX9_write 32 = .ok (.aload_n 0, 1) := by decide +kernel
theorem dX9_write_33 : decode cX9_write 33 = .ok (.getfield 9, 3) := by decide +kernel
theorem dX9_write_36 : decode cX9_write 36 = .ok (.ifCond .le 26, 3) := by decide +kernel
theorem dX9_write_39 : decode cX9_write 39 = .ok (.aload_n 0, 1) := by decide +kernel
theorem dX9_write_40 : decode cX9_write 40 = .ok (.dup, 1) := by decide +kernel
theorem dX9_write_41 : decode cX9_write 41 = .ok (.getfield 9, 3) := by decide +kernel
theorem dX9_write_44 : decode cX9_write 44 = .ok (.iconst 1, 1) := by decide +kernel
theorem dX9_write_45 : decode cX9_write 45 = .ok (.isub, 1) := by decide +kernel
theorem dX9_write_46 : decode cX9_write 46 = .ok (.putfield 9, 3) := by decide +kernel
theorem dX9_write_49 : decode cX9_write 49 = .ok (.aload_n 0, 1) := by decide +kernel
theorem dX9_write_50 : decode cX9_write 50 = .ok (.getfield 9, 3) := by decide +kernel
theorem dX9_write_53 : decode cX9_write 53 = .ok (.ifCond .ne 9, 3) := by decide +kernel
theorem dX9_write_56 : decode cX9_write 56 = .ok (.aload_n 0, 1) := by decide +kernel
theorem dX9_write_57 : decode cX9_write 57 = .ok (.invokevirtual 71, 3) := by decide +kernel
theorem dX9_write_60 : decode cX9_write 60 = .ok (.iconst 0, 1) := by decide +kernel
theorem dX9_write_61 : decode cX9_write 61 = .ok (.ireturn, 1) := by decide +kernel
theorem dX9_write_62 : decode cX9_write 62 = .ok (.iconst 1, 1) := by decide +kernel
theorem dX9_write_63 : decode cX9_write 63 = .ok (.ireturn, 1) := by decide +kernel
theorem dX9_fails_0 : decode cX9_fails 0 = .ok (.aload_n 0, 1) := by decide +kernel
theorem dX9_fails_1 : decode cX9_fails 1 = .ok (.iconst 1, 1) := by decide +kernel
theorem dX9_fails_2 : decode cX9_fails 2 = .ok (.putfield 77, 3) := by decide +kernel
theorem dX9_fails_5 : decode cX9_fails 5 = .ok (.aload_n 0, 1) := by decide +kernel
theorem dX9_fails_6 : decode cX9_fails 6 = .ok (.dup, 1) := by decide +kernel
theorem dX9_fails_7 : decode cX9_fails 7 = .ok (.getfield 81, 3) := by decide +kernel
theorem dX9_fails_10 : decode cX9_fails 10 = .ok (.iconst 1, 1) := by decide +kernel
theorem dX9_fails_11 : decode cX9_fails 11 = .ok (.iadd, 1) := by decide +kernel
theorem dX9_fails_12 : decode cX9_fails 12 = .ok (.putfield 81, 3) := by decide +kernel
theorem dX9_fails_15 : decode cX9_fails 15 = .ok (.aload_n 0, 1) := by decide +kernel
theorem dX9_fails_16 : decode cX9_fails 16 = .ok (.iconst (-1), 1) := by decide +kernel
theorem dX9_fails_17 : decode cX9_fails 17 = .ok (.putfield 9, 3) := by decide +kernel
theorem dX9_fails_20 : decode cX9_fails 20 = .ok (.return_, 1) := by decide +kernel
set_option maxRecDepth 20000 in
theorem ggX9_writeRow_X9_write : GoodIn wsX9_writeRow wsX9_write := goodIn_r _ [7, 8, 9, 10, 11, 12, 13, 6, 14, 15, 16, 17, 18, 19, 20, 21, 22, 23, 24, 25, 26, 27, 28, 29, 30, 31, 32, 33, 34, 35, 36] (by decide +kernel) (by decide +kernel)
set_option maxRecDepth 20000 in
theorem gX9_writeRow_X9_write : GoodIn wsX9_writeRow (wsV RX9 84 RX9 yX9_write wsX9_write) := goodIn_app (goodIn_of _ (by decide +kernel)) ggX9_writeRow_X9_write
theorem dX9_writeRow_0 : decode cX9_writeRow 0 = .ok (.iconst 0, 1) := by decide +kernel
theorem dX9_writeRow_1 : decode cX9_writeRow 1 = .ok (.istore_n 3, 1) := by decide +kernel
theorem dX9_writeRow_2 : decode cX9_writeRow 2 = .ok (.iload_n 3, 1) := by decide +kernel
theorem dX9_writeRow_3 : decode cX9_writeRow 3 = .ok (.aload_n 0, 1) := by decide +kernel
theorem dX9_writeRow_4 : decode cX9_writeRow 4 = .ok (.getfield 43, 3) := by decide +kernel
theorem dX9_writeRow_7 : decode cX9_writeRow 7 = .ok (.if_icmp .ge 28, 3) := by decide +kernel
theorem dX9_writeRow_10 : decode cX9_writeRow 10 = .ok (.aload_n 0, 1) := by decide +kernel
theorem dX9_writeRow_11 : decode cX9_writeRow 11 = .ok (.iload_n 1, 1) := by decide +kernel
theorem dX9_writeRow_12 : decode cX9_writeRow 12 = .ok (.iload_n 2, 1) := by decide +kernel
theorem dX9_writeRow_13 : decode cX9_writeRow 13 = .ok (.iload_n 3, 1) := by decide +kernel
theorem dX9_writeRow_14 : decode cX9_writeRow 14 = .ok (.iadd, 1) := by decide +kernel
theorem dX9_writeRow_15 : decode cX9_writeRow 15 = .ok (.aload_n 0, 1) := by decide +kernel
theorem dX9_writeRow_16 : decode cX9_writeRow 16 = .ok (.getfield 28, 3) := by decide +kernel
theorem dX9_writeRow_19 : decode cX9_writeRow 19 = .ok (.iload_n 3, 1) := by decide +kernel
theorem dX9_writeRow_20 : decode cX9_writeRow 20 = .ok (.baload, 1) := by decide +kernel
theorem dX9_writeRow_21 : decode cX9_writeRow 21 = .ok (.invokevirtual 84, 3) := by decide +kernel
theorem dX9_writeRow_24 : decode cX9_writeRow 24 = .ok (.ifCond .ne 5, 3) := by decide +kernel
theorem dX9_writeRow_27 : decode cX9_writeRow 27 = .ok (.iconst 0, 1) := by decide +kernel
theorem dX9_writeRow_28 : decode cX9_writeRow 28 = .ok (.ireturn, 1) := by decide +kernel
theorem dX9_writeRow_29 : decode cX9_writeRow 29 = .ok (.iinc 3 1, 3) := by decide +kernel
theorem dX9_writeRow_32 : decode cX9_writeRow 32 = .ok (.goto (-30), 3) := by decide +kernel
theorem dX9_writeRow_35 : decode cX9_writeRow 35 = .ok (.iconst 1, 1) := by decide +kernel
theorem dX9_writeRow_36 : decode cX9_writeRow 36 = .ok (.ireturn, 1) := by decide +kernel
theorem dX9_cut_0 : decode cX9_cut 0 = .ok (.iload_n 1, 1) := by decide +kernel
theorem dX9_cut_1 : decode cX9_cut 1 = .ok (.ifCond .lt 10, 3) := by decide +kernel
theorem dX9_cut_4 : decode cX9_cut 4 = .ok (.aload_n 0, 1) := by decide +kernel
theorem dX9_cut_5 : decode cX9_cut 5 = .ok (.getfield 77, 3) := by decide +kernel
theorem dX9_cut_8 : decode cX9_cut 8 = .ok (.ifCond .eq 5, 3) := by decide +kernel
theorem dX9_cut_11 : decode cX9_cut 11 = .ok (.iconst (-1), 1) := by decide +kernel
theorem dX9_cut_12 : decode cX9_cut 12 = .ok (.ireturn, 1) := by decide +kernel
theorem dX9_cut_13 : decode cX9_cut 13 = .ok (.aload_n 0, 1) := by decide +kernel
theorem dX9_cut_14 : decode cX9_cut 14 = .ok (.iload_n 1, 1) := by decide +kernel
theorem dX9_cut_15 : decode cX9_cut 15 = .ok (.putfield 9, 3) := by decide +kernel
theorem dX9_cut_18 : decode cX9_cut 18 = .ok (.iconst 1, 1) := by decide +kernel
theorem dX9_cut_19 : decode cX9_cut 19 = .ok (.ireturn, 1) := by decide +kernel
set_option maxRecDepth 20000 in
theorem ggX9_isRight_X9_take : GoodIn wsX9_isRight wsX9_take := goodIn_r _ [5] (by decide +kernel) (by decide +kernel)
set_option maxRecDepth 20000 in
theorem gX9_isRight_X9_take : GoodIn wsX9_isRight (va_wsS RX9 88 yX9_take wsX9_take) := goodIn_app (goodIn_of _ (by decide +kernel)) ggX9_isRight_X9_take
set_option maxRecDepth 20000 in
theorem ggX9_isRight_X9_crc : GoodIn wsX9_isRight wsX9_crc := goodIn_r _ [8, 9] (by decide +kernel) (by decide +kernel)
set_option maxRecDepth 20000 in
theorem gX9_isRight_X9_crc : GoodIn wsX9_isRight (va_wsS RX9 50 yX9_crc wsX9_crc) := goodIn_app (goodIn_of _ (by decide +kernel)) ggX9_isRight_X9_crc
theorem dX9_isRight_0 : decode cX9_isRight 0 = .ok (.aload_n 0, 1) := by decide +kernel
theorem dX9_isRight_1 : decode cX9_isRight 1 = .ok (.getfield 40, 3) := by decide +kernel
theorem dX9_isRight_4 : decode cX9_isRight 4 = .ok (.iload_n 1, 1) := by decide +kernel
theorem dX9_isRight_5 : decode cX9_isRight 5 = .ok (.aaload, 1) := by decide +kernel
theorem dX9_isRight_6 : decode cX9_isRight 6 = .ok (.iconst 4, 1) := by decide +kernel
theorem dX9_isRight_7 : decode cX9_isRight 7 = .ok (.iconst 4, 1) := by decide +kernel
theorem dX9_isRight_8 : decode cX9_isRight 8 = .ok (.invokestatic 88, 3) := by decide +kernel
theorem dX9_isRight_11 : decode cX9_isRight 11 = .ok (.l2i, 1) := by decide +kernel
theorem dX9_isRight_12 : decode cX9_isRight 12 = .ok (.aload_n 0, 1) := by decide +kernel
theorem dX9_isRight_13 : decode cX9_isRight 13 = .ok (.getfield 40, 3) := by decide +kernel
theorem dX9_isRight_16 : decode cX9_isRight 16 = .ok (.iload_n 1, 1) := by decide +kernel
theorem dX9_isRight_17 : decode cX9_isRight 17 = .ok (.aaload, 1) := by decide +kernel
theorem dX9_isRight_18 : decode cX9_isRight 18 = .ok (.iconst 0, 1) := by decide +kernel
theorem dX9_isRight_19 : decode cX9_isRight 19 = .ok (.iconst 4, 1) := by decide +kernel
theorem dX9_isRight_20 : decode cX9_isRight 20 = .ok (.invokestatic 50, 3) := by decide +kernel
theorem dX9_isRight_23 : decode cX9_isRight 23 = .ok (.if_icmp .ne 26, 3) := by decide +kernel
theorem dX9_isRight_26 : decode cX9_isRight 26 = .ok (.aload_n 0, 1) := by decide +kernel
theorem dX9_isRight_27 : decode cX9_isRight 27 = .ok (.getfield 40, 3) := by decide +kernel
theorem dX9_isRight_30 : decode cX9_isRight 30 = .ok (.iload_n 1, 1) := by decide +kernel
theorem dX9_isRight_31 : decode cX9_isRight 31 = .ok (.aaload, 1) := by decide +kernel
theorem dX9_isRight_32 : decode cX9_isRight 32 = .ok (.bipush 8, 2) := by decide +kernel
theorem dX9_isRight_34 : decode cX9_isRight 34 = .ok (.baload, 1) := by decide +kernel
theorem dX9_isRight_35 : decode cX9_isRight 35 = .ok (.sipush 255, 3) := by decide +kernel
theorem dX9_isRight_38 : decode cX9_isRight 38 = .ok (.iand, 1) := by decide +kernel
theorem dX9_isRight_39 : decode cX9_isRight 39 = .ok (.sipush 165, 3) := by decide +kernel
theorem dX9_isRight_42 : decode cX9_isRight 42 = .ok (.if_icmp .ne 7, 3) := by decide +kernel
theorem dX9_isRight_45 : decode cX9_isRight 45 = .ok (.iconst 1, 1) := by decide +kernel
theorem dX9_isRight_46 : decode cX9_isRight 46 = .ok (.goto 4, 3) := by decide +kernel
theorem dX9_isRight_49 : decode cX9_isRight 49 = .ok (.iconst 0, 1) := by decide +kernel
theorem dX9_isRight_50 : decode cX9_isRight 50 = .ok (.ireturn, 1) := by decide +kernel
set_option maxRecDepth 20000 in
theorem ggX9_generation_X9_take : GoodIn wsX9_generation wsX9_take := goodIn_r _ [5] (by decide +kernel) (by decide +kernel)
set_option maxRecDepth 20000 in
theorem gX9_generation_X9_take : GoodIn wsX9_generation (va_wsS RX9 88 yX9_take wsX9_take) := goodIn_app (goodIn_of _ (by decide +kernel)) ggX9_generation_X9_take
theorem dX9_generation_0 : decode cX9_generation 0 = .ok (.aload_n 0, 1) := by decide +kernel
theorem dX9_generation_1 : decode cX9_generation 1 = .ok (.getfield 40, 3) := by decide +kernel
theorem dX9_generation_4 : decode cX9_generation 4 = .ok (.iload_n 1, 1) := by decide +kernel
theorem dX9_generation_5 : decode cX9_generation 5 = .ok (.aaload, 1) := by decide +kernel
theorem dX9_generation_6 : decode cX9_generation 6 = .ok (.iconst 0, 1) := by decide +kernel
theorem dX9_generation_7 : decode cX9_generation 7 = .ok (.iconst 4, 1) := by decide +kernel
theorem dX9_generation_8 : decode cX9_generation 8 = .ok (.invokestatic 88, 3) := by decide +kernel
theorem dX9_generation_11 : decode cX9_generation 11 = .ok (.lreturn, 1) := by decide +kernel
set_option maxRecDepth 20000 in
theorem ggX9_recover_X9_isRight : GoodIn wsX9_recover wsX9_isRight := goodIn_r _ [12, 4, 13, 14, 11, 15, 16, 17, 18, 19, 48, 49, 50, 51, 52, 53, 54, 55, 56, 57, 58, 59, 60, 61, 62, 63, 64, 65, 66, 67] (by decide +kernel) (by decide +kernel)
set_option maxRecDepth 20000 in
theorem gX9_recover_X9_isRight : GoodIn wsX9_recover (wsV RX9 92 RX9 yX9_isRight wsX9_isRight) := goodIn_app (goodIn_of _ (by decide +kernel)) ggX9_recover_X9_isRight
set_option maxRecDepth 20000 in
theorem ggX9_recover_X9_generation : GoodIn wsX9_recover wsX9_generation := goodIn_r _ [23, 4, 13, 14, 11, 15, 48, 49, 50, 51, 52, 53, 54, 55, 56, 57, 58, 59, 60, 61, 62, 63, 64, 65, 66, 67] (by decide +kernel) (by decide +kernel)
set_option maxRecDepth 20000 in
theorem gX9_recover_X9_generation : GoodIn wsX9_recover (wsV RX9 96 RX9 yX9_generation wsX9_generation) := goodIn_app (goodIn_of _ (by decide +kernel)) ggX9_recover_X9_generation
set_option maxRecDepth 20000 in
theorem ggX9_recover_X9_reads : GoodIn wsX9_recover wsX9_reads := goodIn_r _ [27, 4, 1, 7, 28, 29, 2, 30, 31, 32, 33, 34, 11, 35, 3, 13, 14, 15, 16, 17, 18, 19, 36, 37, 38, 39, 40, 41, 42, 43, 44, 45, 46, 47, 48, 49, 50, 51, 52, 53, 54, 55, 56, 57, 58, 59, 60, 61, 62, 63, 64, 65, 66, 67] (by decide +kernel) (by decide +kernel)
set_option maxRecDepth 20000 in
theorem gX9_recover_X9_reads : GoodIn wsX9_recover (wsV RX9 57 RX9 yX9_reads wsX9_reads) := goodIn_app (goodIn_of _ (by decide +kernel)) ggX9_recover_X9_reads
theorem dX9_recover_0 : decode cX9_recover 0 = .ok (.aload_n 0, 1) := by decide +kernel
theorem dX9_recover_1 : decode cX9_recover 1 = .ok (.iconst 1, 1) := by decide +kernel
theorem dX9_recover_2 : decode cX9_recover 2 = .ok (.invokevirtual 92, 3) := by decide +kernel
theorem dX9_recover_5 : decode cX9_recover 5 = .ok (.ifCond .eq 29, 3) := by decide +kernel
theorem dX9_recover_8 : decode cX9_recover 8 = .ok (.aload_n 0, 1) := by decide +kernel
theorem dX9_recover_9 : decode cX9_recover 9 = .ok (.iconst 0, 1) := by decide +kernel
theorem dX9_recover_10 : decode cX9_recover 10 = .ok (.invokevirtual 92, 3) := by decide +kernel
theorem dX9_recover_13 : decode cX9_recover 13 = .ok (.ifCond .eq 17, 3) := by decide +kernel
theorem dX9_recover_16 : decode cX9_recover 16 = .ok (.aload_n 0, 1) := by decide +kernel
theorem dX9_recover_17 : decode cX9_recover 17 = .ok (.iconst 1, 1) := by decide +kernel
theorem dX9_recover_18 : decode cX9_recover 18 = .ok (.invokevirtual 96, 3) := by decide +kernel
theorem dX9_recover_21 : decode cX9_recover 21 = .ok (.aload_n 0, 1) := by decide +kernel
theorem dX9_recover_22 : decode cX9_recover 22 = .ok (.iconst 0, 1) := by decide +kernel
theorem dX9_recover_23 : decode cX9_recover 23 = .ok (.invokevirtual 96, 3) := by decide +kernel
theorem dX9_recover_26 : decode cX9_recover 26 = .ok (.lcmp, 1) := by decide +kernel
theorem dX9_recover_27 : decode cX9_recover 27 = .ok (.ifCond .le 7, 3) := by decide +kernel
theorem dX9_recover_30 : decode cX9_recover 30 = .ok (.iconst 1, 1) := by decide +kernel
theorem dX9_recover_31 : decode cX9_recover 31 = .ok (.goto 4, 3) := by decide +kernel
theorem dX9_recover_34 : decode cX9_recover 34 = .ok (.iconst 0, 1) := by decide +kernel
theorem dX9_recover_35 : decode cX9_recover 35 = .ok (.istore_n 1, 1) := by decide +kernel
theorem dX9_recover_36 : decode cX9_recover 36 = .ok (.aload_n 0, 1) := by decide +kernel
theorem dX9_recover_37 : decode cX9_recover 37 = .ok (.iload_n 1, 1) := by decide +kernel
theorem dX9_recover_38 : decode cX9_recover 38 = .ok (.ifCond .eq 7, 3) := by decide +kernel
theorem dX9_recover_41 : decode cX9_recover 41 = .ok (.iconst 1, 1) := by decide +kernel
theorem dX9_recover_42 : decode cX9_recover 42 = .ok (.goto 4, 3) := by decide +kernel
theorem dX9_recover_45 : decode cX9_recover 45 = .ok (.iconst 0, 1) := by decide +kernel
theorem dX9_recover_46 : decode cX9_recover 46 = .ok (.putfield 100, 3) := by decide +kernel
theorem dX9_recover_49 : decode cX9_recover 49 = .ok (.aload_n 0, 1) := by decide +kernel
theorem dX9_recover_50 : decode cX9_recover 50 = .ok (.invokevirtual 57, 3) := by decide +kernel
theorem dX9_recover_53 : decode cX9_recover 53 = .ok (.aload_n 0, 1) := by decide +kernel
theorem dX9_recover_54 : decode cX9_recover 54 = .ok (.getfield 103, 3) := by decide +kernel
theorem dX9_recover_57 : decode cX9_recover 57 = .ok (.istore_n 2, 1) := by decide +kernel
theorem dX9_recover_58 : decode cX9_recover 58 = .ok (.iload_n 2, 1) := by decide +kernel
theorem dX9_recover_59 : decode cX9_recover 59 = .ok (.aload_n 0, 1) := by decide +kernel
theorem dX9_recover_60 : decode cX9_recover 60 = .ok (.getfield 35, 3) := by decide +kernel
theorem dX9_recover_63 : decode cX9_recover 63 = .ok (.if_icmp .ge 21, 3) := by decide +kernel
theorem dX9_recover_66 : decode cX9_recover 66 = .ok (.aload_n 0, 1) := by decide +kernel
theorem dX9_recover_67 : decode cX9_recover 67 = .ok (.getfield 40, 3) := by decide +kernel
theorem dX9_recover_70 : decode cX9_recover 70 = .ok (.aload_n 0, 1) := by decide +kernel
theorem dX9_recover_71 : decode cX9_recover 71 = .ok (.getfield 100, 3) := by decide +kernel
theorem dX9_recover_74 : decode cX9_recover 74 = .ok (.aaload, 1) := by decide +kernel
theorem dX9_recover_75 : decode cX9_recover 75 = .ok (.iload_n 2, 1) := by decide +kernel
theorem dX9_recover_76 : decode cX9_recover 76 = .ok (.iconst 0, 1) := by decide +kernel
theorem dX9_recover_77 : decode cX9_recover 77 = .ok (.bastore, 1) := by decide +kernel
theorem dX9_recover_78 : decode cX9_recover 78 = .ok (.iinc 2 1, 3) := by decide +kernel
theorem dX9_recover_81 : decode cX9_recover 81 = .ok (.goto (-23), 3) := by decide +kernel
theorem dX9_recover_84 : decode cX9_recover 84 = .ok (.aload_n 0, 1) := by decide +kernel
theorem dX9_recover_85 : decode cX9_recover 85 = .ok (.iconst 0, 1) := by decide +kernel
theorem dX9_recover_86 : decode cX9_recover 86 = .ok (.putfield 77, 3) := by decide +kernel
theorem dX9_recover_89 : decode cX9_recover 89 = .ok (.aload_n 0, 1) := by decide +kernel
theorem dX9_recover_90 : decode cX9_recover 90 = .ok (.iconst (-1), 1) := by decide +kernel
theorem dX9_recover_91 : decode cX9_recover 91 = .ok (.putfield 9, 3) := by decide +kernel
theorem dX9_recover_94 : decode cX9_recover 94 = .ok (.aload_n 0, 1) := by decide +kernel
theorem dX9_recover_95 : decode cX9_recover 95 = .ok (.getfield 106, 3) := by decide +kernel
theorem dX9_recover_98 : decode cX9_recover 98 = .ok (.ireturn, 1) := by decide +kernel
set_option maxRecDepth 20000 in
theorem ggX9_whole_X9_take : GoodIn wsX9_whole wsX9_take := goodIn_r _ [7] (by decide +kernel) (by decide +kernel)
set_option maxRecDepth 20000 in
theorem gX9_whole_X9_take : GoodIn wsX9_whole (va_wsS RX9 88 yX9_take wsX9_take) := goodIn_app (goodIn_of _ (by decide +kernel)) ggX9_whole_X9_take
set_option maxRecDepth 20000 in
theorem ggX9_whole_X9_crc : GoodIn wsX9_whole wsX9_crc := goodIn_r _ [10, 11] (by decide +kernel) (by decide +kernel)
set_option maxRecDepth 20000 in
theorem gX9_whole_X9_crc : GoodIn wsX9_whole (va_wsS RX9 50 yX9_crc wsX9_crc) := goodIn_app (goodIn_of _ (by decide +kernel)) ggX9_whole_X9_crc
theorem dX9_whole_0 : decode cX9_whole 0 = .ok (.aload_n 0, 1) := by decide +kernel
theorem dX9_whole_1 : decode cX9_whole 1 = .ok (.getfield 40, 3) := by decide +kernel
theorem dX9_whole_4 : decode cX9_whole 4 = .ok (.aload_n 0, 1) := by decide +kernel
theorem dX9_whole_5 : decode cX9_whole 5 = .ok (.getfield 100, 3) := by decide +kernel
theorem dX9_whole_8 : decode cX9_whole 8 = .ok (.aaload, 1) := by decide +kernel
theorem dX9_whole_9 : decode cX9_whole 9 = .ok (.astore_n 2, 1) := by decide +kernel
theorem dX9_whole_10 : decode cX9_whole 10 = .ok (.iload_n 1, 1) := by decide +kernel
theorem dX9_whole_11 : decode cX9_whole 11 = .ok (.iconst 2, 1) := by decide +kernel
theorem dX9_whole_12 : decode cX9_whole 12 = .ok (.iadd, 1) := by decide +kernel
theorem dX9_whole_13 : decode cX9_whole 13 = .ok (.aload_n 0, 1) := by decide +kernel
theorem dX9_whole_14 : decode cX9_whole 14 = .ok (.getfield 35, 3) := by decide +kernel
theorem dX9_whole_17 : decode cX9_whole 17 = .ok (.if_icmp .le 5, 3) := by decide +kernel
theorem dX9_whole_20 : decode cX9_whole 20 = .ok (.iconst 0, 1) := by decide +kernel
theorem dX9_whole_21 : decode cX9_whole 21 = .ok (.ireturn, 1) := by decide +kernel
theorem dX9_whole_22 : decode cX9_whole 22 = .ok (.aload_n 2, 1) := by decide +kernel
theorem dX9_whole_23 : decode cX9_whole 23 = .ok (.iload_n 1, 1) := by decide +kernel
theorem dX9_whole_24 : decode cX9_whole 24 = .ok (.iconst 2, 1) := by decide +kernel
theorem dX9_whole_25 : decode cX9_whole 25 = .ok (.invokestatic 88, 3) := by decide +kernel
theorem dX9_whole_28 : decode cX9_whole 28 = .ok (.l2i, 1) := by decide +kernel
theorem dX9_whole_29 : decode cX9_whole 29 = .ok (.istore_n 3, 1) := by decide +kernel
theorem dX9_whole_30 : decode cX9_whole 30 = .ok (.iload_n 3, 1) := by decide +kernel
theorem dX9_whole_31 : decode cX9_whole 31 = .ok (.bipush 8, 2) := by decide +kernel
theorem dX9_whole_33 : decode cX9_whole 33 = .ok (.if_icmp .lt 13, 3) := by decide +kernel
theorem dX9_whole_36 : decode cX9_whole 36 = .ok (.iload_n 1, 1) := by decide +kernel
theorem dX9_whole_37 : decode cX9_whole 37 = .ok (.iload_n 3, 1) := by decide +kernel
theorem dX9_whole_38 : decode cX9_whole 38 = .ok (.iadd, 1) := by decide +kernel
theorem dX9_whole_39 : decode cX9_whole 39 = .ok (.aload_n 0, 1) := by decide +kernel
theorem dX9_whole_40 : decode cX9_whole 40 = .ok (.getfield 35, 3) := by decide +kernel
theorem dX9_whole_43 : decode cX9_whole 43 = .ok (.if_icmp .le 5, 3) := by decide +kernel
theorem dX9_whole_46 : decode cX9_whole 46 = .ok (.iconst 0, 1) := by decide +kernel
theorem dX9_whole_47 : decode cX9_whole 47 = .ok (.ireturn, 1) := by decide +kernel
theorem dX9_whole_48 : decode cX9_whole 48 = .ok (.aload_n 2, 1) := by decide +kernel
theorem dX9_whole_49 : decode cX9_whole 49 = .ok (.iload_n 1, 1) := by decide +kernel
theorem dX9_whole_50 : decode cX9_whole 50 = .ok (.iload_n 3, 1) := by decide +kernel
theorem dX9_whole_51 : decode cX9_whole 51 = .ok (.iadd, 1) := by decide +kernel
theorem dX9_whole_52 : decode cX9_whole 52 = .ok (.iconst 5, 1) := by decide +kernel
theorem dX9_whole_53 : decode cX9_whole 53 = .ok (.isub, 1) := by decide +kernel
theorem dX9_whole_54 : decode cX9_whole 54 = .ok (.iconst 4, 1) := by decide +kernel
theorem dX9_whole_55 : decode cX9_whole 55 = .ok (.invokestatic 88, 3) := by decide +kernel
theorem dX9_whole_58 : decode cX9_whole 58 = .ok (.l2i, 1) := by decide +kernel
theorem dX9_whole_59 : decode cX9_whole 59 = .ok (.aload_n 2, 1) := by decide +kernel
theorem dX9_whole_60 : decode cX9_whole 60 = .ok (.iload_n 1, 1) := by decide +kernel
theorem dX9_whole_61 : decode cX9_whole 61 = .ok (.iload_n 1, 1) := by decide +kernel
theorem dX9_whole_62 : decode cX9_whole 62 = .ok (.iload_n 3, 1) := by decide +kernel
theorem dX9_whole_63 : decode cX9_whole 63 = .ok (.iadd, 1) := by decide +kernel
theorem dX9_whole_64 : decode cX9_whole 64 = .ok (.iconst 5, 1) := by decide +kernel
theorem dX9_whole_65 : decode cX9_whole 65 = .ok (.isub, 1) := by decide +kernel
theorem dX9_whole_66 : decode cX9_whole 66 = .ok (.invokestatic 50, 3) := by decide +kernel
theorem dX9_whole_69 : decode cX9_whole 69 = .ok (.if_icmp .ne 24, 3) := by decide +kernel
theorem dX9_whole_72 : decode cX9_whole 72 = .ok (.aload_n 2, 1) := by decide +kernel
theorem dX9_whole_73 : decode cX9_whole 73 = .ok (.iload_n 1, 1) := by decide +kernel
theorem dX9_whole_74 : decode cX9_whole 74 = .ok (.iload_n 3, 1) := by decide +kernel
theorem dX9_whole_75 : decode cX9_whole 75 = .ok (.iadd, 1) := by decide +kernel
theorem dX9_whole_76 : decode cX9_whole 76 = .ok (.iconst 1, 1) := by decide +kernel
theorem dX9_whole_77 : decode cX9_whole 77 = .ok (.isub, 1) := by decide +kernel
theorem dX9_whole_78 : decode cX9_whole 78 = .ok (.baload, 1) := by decide +kernel
theorem dX9_whole_79 : decode cX9_whole 79 = .ok (.sipush 255, 3) := by decide +kernel
theorem dX9_whole_82 : decode cX9_whole 82 = .ok (.iand, 1) := by decide +kernel
theorem dX9_whole_83 : decode cX9_whole 83 = .ok (.sipush 165, 3) := by decide +kernel
theorem dX9_whole_86 : decode cX9_whole 86 = .ok (.if_icmp .ne 7, 3) := by decide +kernel
theorem dX9_whole_89 : decode cX9_whole 89 = .ok (.iload_n 3, 1) := by decide +kernel
theorem dX9_whole_90 : decode cX9_whole 90 = .ok (.goto 4, 3) := by decide +kernel
theorem dX9_whole_93 : decode cX9_whole 93 = .ok (.iconst 0, 1) := by decide +kernel
theorem dX9_whole_94 : decode cX9_whole 94 = .ok (.ireturn, 1) := by decide +kernel
set_option maxRecDepth 20000 in
theorem ggX9_reads_X9_whole : GoodIn wsX9_reads wsX9_whole := goodIn_r _ [13, 1, 2, 14, 15, 16, 12, 17, 18, 19, 20, 21, 34, 35, 36, 37, 38, 39, 40, 41, 42, 43, 44, 45, 46, 47, 48, 49, 50, 51, 52, 53] (by decide +kernel) (by decide +kernel)
set_option maxRecDepth 20000 in
theorem gX9_reads_X9_whole : GoodIn wsX9_reads (wsV RX9 112 RX9 yX9_whole wsX9_whole) := goodIn_app (goodIn_of _ (by decide +kernel)) ggX9_reads_X9_whole
set_option maxRecDepth 20000 in
theorem ggX9_reads_X9_apply : GoodIn wsX9_reads wsX9_apply := goodIn_r _ [25, 26, 27, 8, 28, 15, 16, 12, 17, 29, 30, 31, 32, 7, 33, 34, 35, 36, 37, 38, 39, 40, 41, 42, 43, 44, 45, 46, 47, 48, 49, 50, 51, 52, 53] (by decide +kernel) (by decide +kernel)
set_option maxRecDepth 20000 in
theorem gX9_reads_X9_apply : GoodIn wsX9_reads (wsV RX9 122 RX9 yX9_apply wsX9_apply) := goodIn_app (goodIn_of _ (by decide +kernel)) ggX9_reads_X9_apply
theorem dX9_reads_0 : decode cX9_reads 0 = .ok (.aload_n 0, 1) := by decide +kernel
theorem dX9_reads_1 : decode cX9_reads 1 = .ok (.getfield 40, 3) := by decide +kernel
theorem dX9_reads_4 : decode cX9_reads 4 = .ok (.aload_n 0, 1) := by decide +kernel
theorem dX9_reads_5 : decode cX9_reads 5 = .ok (.getfield 100, 3) := by decide +kernel
theorem dX9_reads_8 : decode cX9_reads 8 = .ok (.aaload, 1) := by decide +kernel
theorem dX9_reads_9 : decode cX9_reads 9 = .ok (.astore_n 1, 1) := by decide +kernel
theorem dX9_reads_10 : decode cX9_reads 10 = .ok (.iconst 0, 1) := by decide +kernel
theorem dX9_reads_11 : decode cX9_reads 11 = .ok (.istore_n 2, 1) := by decide +kernel
theorem dX9_reads_12 : decode cX9_reads 12 = .ok (.bipush 9, 2) := by decide +kernel
theorem dX9_reads_14 : decode cX9_reads 14 = .ok (.istore_n 3, 1) := by decide +kernel
theorem dX9_reads_15 : decode cX9_reads 15 = .ok (.aload_n 0, 1) := by decide +kernel
theorem dX9_reads_16 : decode cX9_reads 16 = .ok (.iconst 0, 1) := by decide +kernel
theorem dX9_reads_17 : decode cX9_reads 17 = .ok (.putfield 106, 3) := by decide +kernel
theorem dX9_reads_20 : decode cX9_reads 20 = .ok (.aload_n 0, 1) := by decide +kernel
theorem dX9_reads_21 : decode cX9_reads 21 = .ok (.iconst 0, 1) := by decide +kernel
theorem dX9_reads_22 : decode cX9_reads 22 = .ok (.putfield 109, 3) := by decide +kernel
theorem dX9_reads_25 : decode cX9_reads 25 = .ok (.aload_n 0, 1) := by decide +kernel
theorem dX9_reads_26 : decode cX9_reads 26 = .ok (.iload_n 3, 1) := by decide +kernel
theorem dX9_reads_27 : decode cX9_reads 27 = .ok (.invokevirtual 112, 3) := by decide +kernel
theorem dX9_reads_30 : decode cX9_reads 30 = .ok (.istore 4, 2) := by decide +kernel
theorem dX9_reads_32 : decode cX9_reads 32 = .ok (.iload 4, 2) := by decide +kernel
theorem dX9_reads_34 : decode cX9_reads 34 = .ok (.ifCond .le 87, 3) := by decide +kernel
theorem dX9_reads_37 : decode cX9_reads 37 = .ok (.aload_n 1, 1) := by decide +kernel
theorem dX9_reads_38 : decode cX9_reads 38 = .ok (.iload_n 3, 1) := by decide +kernel
theorem dX9_reads_39 : decode cX9_reads 39 = .ok (.iconst 2, 1) := by decide +kernel
theorem dX9_reads_40 : decode cX9_reads 40 = .ok (.iadd, 1) := by decide +kernel
theorem dX9_reads_41 : decode cX9_reads 41 = .ok (.baload, 1) := by decide +kernel
theorem dX9_reads_42 : decode cX9_reads 42 = .ok (.istore 5, 2) := by decide +kernel
theorem dX9_reads_44 : decode cX9_reads 44 = .ok (.iload 5, 2) := by decide +kernel
theorem dX9_reads_46 : decode cX9_reads 46 = .ok (.iconst 5, 1) := by decide +kernel
theorem dX9_reads_47 : decode cX9_reads 47 = .ok (.if_icmp .ne 19, 3) := by decide +kernel
theorem dX9_reads_50 : decode cX9_reads 50 = .ok (.iinc 2 (-1), 3) := by decide +kernel
theorem dX9_reads_53 : decode cX9_reads 53 = .ok (.aload_n 0, 1) := by decide +kernel
theorem dX9_reads_54 : decode cX9_reads 54 = .ok (.dup, 1) := by decide +kernel
theorem dX9_reads_55 : decode cX9_reads 55 = .ok (.getfield 109, 3) := by decide +kernel
theorem dX9_reads_58 : decode cX9_reads 58 = .ok (.iconst 1, 1) := by decide +kernel
theorem dX9_reads_59 : decode cX9_reads 59 = .ok (.isub, 1) := by decide +kernel
theorem dX9_reads_60 : decode cX9_reads 60 = .ok (.putfield 109, 3) := by decide +kernel
theorem dX9_reads_63 : decode cX9_reads 63 = .ok (.goto 33, 3) := by decide +kernel
theorem dX9_reads_66 : decode cX9_reads 66 = .ok (.aload_n 0, 1) := by decide +kernel
theorem dX9_reads_67 : decode cX9_reads 67 = .ok (.getfield 32, 3) := by decide +kernel
theorem dX9_reads_70 : decode cX9_reads 70 = .ok (.iload_n 2, 1) := by decide +kernel
theorem dX9_reads_71 : decode cX9_reads 71 = .ok (.iload_n 3, 1) := by decide +kernel
theorem dX9_reads_72 : decode cX9_reads 72 = .ok (.iastore, 1) := by decide +kernel
theorem dX9_reads_73 : decode cX9_reads 73 = .ok (.iinc 2 1, 3) := by decide +kernel
theorem dX9_reads_76 : decode cX9_reads 76 = .ok (.aload_n 0, 1) := by decide +kernel
theorem dX9_reads_77 : decode cX9_reads 77 = .ok (.dup, 1) := by decide +kernel
theorem dX9_reads_78 : decode cX9_reads 78 = .ok (.getfield 109, 3) := by decide +kernel
theorem dX9_reads_81 : decode cX9_reads 81 = .ok (.iload 5, 2) := by decide +kernel
theorem dX9_reads_83 : decode cX9_reads 83 = .ok (.iconst 5, 1) := by decide +kernel
theorem dX9_reads_84 : decode cX9_reads 84 = .ok (.if_icmp .ge 7, 3) := by decide +kernel
theorem dX9_reads_87 : decode cX9_reads 87 = .ok (.iconst 1, 1) := by decide +kernel
theorem dX9_reads_88 : decode cX9_reads 88 = .ok (.goto 4, 3) := by decide +kernel
theorem dX9_reads_91 : decode cX9_reads 91 = .ok (.iconst 0, 1) := by decide +kernel
theorem dX9_reads_92 : decode cX9_reads 92 = .ok (.iadd, 1) := by decide +kernel
theorem dX9_reads_93 : decode cX9_reads 93 = .ok (.putfield 109, 3) := by decide +kernel
theorem dX9_reads_96 : decode cX9_reads 96 = .ok (.aload_n 0, 1) := by decide +kernel
theorem dX9_reads_97 : decode cX9_reads 97 = .ok (.dup, 1) := by decide +kernel
theorem dX9_reads_98 : decode cX9_reads 98 = .ok (.getfield 106, 3) := by decide +kernel
theorem dX9_reads_101 : decode cX9_reads 101 = .ok (.iconst 1, 1) := by decide +kernel
theorem dX9_reads_102 : decode cX9_reads 102 = .ok (.iadd, 1) := by decide +kernel
theorem dX9_reads_103 : decode cX9_reads 103 = .ok (.putfield 106, 3) := by decide +kernel
theorem dX9_reads_106 : decode cX9_reads 106 = .ok (.iload_n 3, 1) := by decide +kernel
theorem dX9_reads_107 : decode cX9_reads 107 = .ok (.iload 4, 2) := by decide +kernel
theorem dX9_reads_109 : decode cX9_reads 109 = .ok (.iadd, 1) := by decide +kernel
theorem dX9_reads_110 : decode cX9_reads 110 = .ok (.istore_n 3, 1) := by decide +kernel
theorem dX9_reads_111 : decode cX9_reads 111 = .ok (.aload_n 0, 1) := by decide +kernel
theorem dX9_reads_112 : decode cX9_reads 112 = .ok (.iload_n 3, 1) := by decide +kernel
theorem dX9_reads_113 : decode cX9_reads 113 = .ok (.invokevirtual 112, 3) := by decide +kernel
theorem dX9_reads_116 : decode cX9_reads 116 = .ok (.istore 4, 2) := by decide +kernel
theorem dX9_reads_118 : decode cX9_reads 118 = .ok (.goto (-86), 3) := by decide +kernel
theorem dX9_reads_121 : decode cX9_reads 121 = .ok (.aload_n 0, 1) := by decide +kernel
theorem dX9_reads_122 : decode cX9_reads 122 = .ok (.iload_n 3, 1) := by decide +kernel
theorem dX9_reads_123 : decode cX9_reads 123 = .ok (.putfield 103, 3) := by decide +kernel
theorem dX9_reads_126 : decode cX9_reads 126 = .ok (.aload_n 0, 1) := by decide +kernel
theorem dX9_reads_127 : decode cX9_reads 127 = .ok (.iconst 0, 1) := by decide +kernel
theorem dX9_reads_128 : decode cX9_reads 128 = .ok (.putfield 115, 3) := by decide +kernel
theorem dX9_reads_131 : decode cX9_reads 131 = .ok (.aload_n 0, 1) := by decide +kernel
theorem dX9_reads_132 : decode cX9_reads 132 = .ok (.lconst 0, 1) := by decide +kernel
theorem dX9_reads_133 : decode cX9_reads 133 = .ok (.putfield 118, 3) := by decide +kernel
theorem dX9_reads_136 : decode cX9_reads 136 = .ok (.iconst 0, 1) := by decide +kernel
theorem dX9_reads_137 : decode cX9_reads 137 = .ok (.istore 4, 2) := by decide +kernel
theorem dX9_reads_139 : decode cX9_reads 139 = .ok (.iload 4, 2) := by decide +kernel
theorem dX9_reads_141 : decode cX9_reads 141 = .ok (.iload_n 2, 1) := by decide +kernel
theorem dX9_reads_142 : decode cX9_reads 142 = .ok (.if_icmp .ge 23, 3) := by decide +kernel
theorem dX9_reads_145 : decode cX9_reads 145 = .ok (.aload_n 0, 1) := by decide +kernel
theorem dX9_reads_146 : decode cX9_reads 146 = .ok (.aload_n 1, 1) := by decide +kernel
theorem dX9_reads_147 : decode cX9_reads 147 = .ok (.aload_n 0, 1) := by decide +kernel
theorem dX9_reads_148 : decode cX9_reads 148 = .ok (.getfield 32, 3) := by decide +kernel
theorem dX9_reads_151 : decode cX9_reads 151 = .ok (.iload 4, 2) := by decide +kernel
theorem dX9_reads_153 : decode cX9_reads 153 = .ok (.iaload, 1) := by decide +kernel
theorem dX9_reads_154 : decode cX9_reads 154 = .ok (.iconst 2, 1) := by decide +kernel
theorem dX9_reads_155 : decode cX9_reads 155 = .ok (.iadd, 1) := by decide +kernel
theorem dX9_reads_156 : decode cX9_reads 156 = .ok (.invokevirtual 122, 3) := by decide +kernel
theorem dX9_reads_159 : decode cX9_reads 159 = .ok (.iinc 4 1, 3) := by decide +kernel
theorem dX9_reads_162 : decode cX9_reads 162 = .ok (.goto (-23), 3) := by decide +kernel
theorem dX9_reads_165 : decode cX9_reads 165 = .ok (.return_, 1) := by decide +kernel
theorem dX9_comes_0 : decode cX9_comes 0 = .ok (.aload_n 0, 1) := by decide +kernel
theorem dX9_comes_1 : decode cX9_comes 1 = .ok (.dup, 1) := by decide +kernel
theorem dX9_comes_2 : decode cX9_comes 2 = .ok (.getfield 115, 3) := by decide +kernel
theorem dX9_comes_5 : decode cX9_comes 5 = .ok (.iconst 1, 1) := by decide +kernel
theorem dX9_comes_6 : decode cX9_comes 6 = .ok (.iadd, 1) := by decide +kernel
theorem dX9_comes_7 : decode cX9_comes 7 = .ok (.putfield 115, 3) := by decide +kernel
theorem dX9_comes_10 : decode cX9_comes 10 = .ok (.aload_n 0, 1) := by decide +kernel
theorem dX9_comes_11 : decode cX9_comes 11 = .ok (.getfield 13, 3) := by decide +kernel
theorem dX9_comes_14 : decode cX9_comes 14 = .ok (.aload_n 0, 1) := by decide +kernel
theorem dX9_comes_15 : decode cX9_comes 15 = .ok (.getfield 115, 3) := by decide +kernel
theorem dX9_comes_18 : decode cX9_comes 18 = .ok (.iload_n 1, 1) := by decide +kernel
theorem dX9_comes_19 : decode cX9_comes 19 = .ok (.iastore, 1) := by decide +kernel
theorem dX9_comes_20 : decode cX9_comes 20 = .ok (.aload_n 0, 1) := by decide +kernel
theorem dX9_comes_21 : decode cX9_comes 21 = .ok (.getfield 17, 3) := by decide +kernel
theorem dX9_comes_24 : decode cX9_comes 24 = .ok (.aload_n 0, 1) := by decide +kernel
theorem dX9_comes_25 : decode cX9_comes 25 = .ok (.getfield 115, 3) := by decide +kernel
theorem dX9_comes_28 : decode cX9_comes 28 = .ok (.iload_n 2, 1) := by decide +kernel
theorem dX9_comes_29 : decode cX9_comes 29 = .ok (.iastore, 1) := by decide +kernel
theorem dX9_comes_30 : decode cX9_comes 30 = .ok (.aload_n 0, 1) := by decide +kernel
theorem dX9_comes_31 : decode cX9_comes 31 = .ok (.getfield 24, 3) := by decide +kernel
theorem dX9_comes_34 : decode cX9_comes 34 = .ok (.aload_n 0, 1) := by decide +kernel
theorem dX9_comes_35 : decode cX9_comes 35 = .ok (.getfield 115, 3) := by decide +kernel
theorem dX9_comes_38 : decode cX9_comes 38 = .ok (.lload_n 3, 1) := by decide +kernel
theorem dX9_comes_39 : decode cX9_comes 39 = .ok (.lastore, 1) := by decide +kernel
theorem dX9_comes_40 : decode cX9_comes 40 = .ok (.aload_n 0, 1) := by decide +kernel
theorem dX9_comes_41 : decode cX9_comes 41 = .ok (.getfield 20, 3) := by decide +kernel
theorem dX9_comes_44 : decode cX9_comes 44 = .ok (.aload_n 0, 1) := by decide +kernel
theorem dX9_comes_45 : decode cX9_comes 45 = .ok (.getfield 115, 3) := by decide +kernel
theorem dX9_comes_48 : decode cX9_comes 48 = .ok (.iload 5, 2) := by decide +kernel
theorem dX9_comes_50 : decode cX9_comes 50 = .ok (.bastore, 1) := by decide +kernel
theorem dX9_comes_51 : decode cX9_comes 51 = .ok (.return_, 1) := by decide +kernel
set_option maxRecDepth 20000 in
theorem ggX9_apply_X9_take : GoodIn wsX9_apply wsX9_take := goodIn_r _ [8] (by decide +kernel) (by decide +kernel)
set_option maxRecDepth 20000 in
theorem gX9_apply_X9_take : GoodIn wsX9_apply (va_wsS RX9 88 yX9_take wsX9_take) := goodIn_app (goodIn_of _ (by decide +kernel)) ggX9_apply_X9_take
set_option maxRecDepth 20000 in
theorem ggX9_apply_X9_comes : GoodIn wsX9_apply wsX9_comes := goodIn_r _ [12, 13, 14, 2, 1, 4, 15, 16, 17, 18, 19, 20, 21, 22, 23, 24, 25, 26, 27, 28, 29, 30, 31, 32, 33, 34] (by decide +kernel) (by decide +kernel)
set_option maxRecDepth 20000 in
theorem gX9_apply_X9_comes : GoodIn wsX9_apply (wsV RX9 126 RX9 yX9_comes wsX9_comes) := goodIn_app (goodIn_of _ (by decide +kernel)) ggX9_apply_X9_comes
theorem dX9_apply_0 : decode cX9_apply 0 = .ok (.aload_n 1, 1) := by decide +kernel
theorem dX9_apply_1 : decode cX9_apply 1 = .ok (.iload_n 2, 1) := by decide +kernel
theorem dX9_apply_2 : decode cX9_apply 2 = .ok (.iconst 1, 1) := by decide +kernel
theorem dX9_apply_3 : decode cX9_apply 3 = .ok (.iadd, 1) := by decide +kernel
theorem dX9_apply_4 : decode cX9_apply 4 = .ok (.iconst 2, 1) := by decide +kernel
theorem dX9_apply_5 : decode cX9_apply 5 = .ok (.invokestatic 88, 3) := by decide +kernel
theorem dX9_apply_8 : decode cX9_apply 8 = .ok (.l2i, 1) := by decide +kernel
theorem dX9_apply_9 : decode cX9_apply 9 = .ok (.istore_n 3, 1) := by decide +kernel
theorem dX9_apply_10 : decode cX9_apply 10 = .ok (.aload_n 1, 1) := by decide +kernel
theorem dX9_apply_11 : decode cX9_apply 11 = .ok (.iload_n 2, 1) := by decide +kernel
theorem dX9_apply_12 : decode cX9_apply 12 = .ok (.baload, 1) := by decide +kernel
theorem dX9_apply_13 : decode cX9_apply 13 = .ok (.tableswitch 195 1 6 #[39, 62, 103, 117, 195, 149], 39) := by decide +kernel
theorem dX9_apply_52 : decode cX9_apply 52 = .ok (.aload_n 0, 1) := by decide +kernel
theorem dX9_apply_53 : decode cX9_apply 53 = .ok (.iconst 0, 1) := by decide +kernel
theorem dX9_apply_54 : decode cX9_apply 54 = .ok (.aload_n 1, 1) := by decide +kernel
theorem dX9_apply_55 : decode cX9_apply 55 = .ok (.iload_n 2, 1) := by decide +kernel
theorem dX9_apply_56 : decode cX9_apply 56 = .ok (.iconst 1, 1) := by decide +kernel
theorem dX9_apply_57 : decode cX9_apply 57 = .ok (.iadd, 1) := by decide +kernel
theorem dX9_apply_58 : decode cX9_apply 58 = .ok (.baload, 1) := by decide +kernel
theorem dX9_apply_59 : decode cX9_apply 59 = .ok (.aload_n 1, 1) := by decide +kernel
theorem dX9_apply_60 : decode cX9_apply 60 = .ok (.iload_n 2, 1) := by decide +kernel
theorem dX9_apply_61 : decode cX9_apply 61 = .ok (.iconst 2, 1) := by decide +kernel
theorem dX9_apply_62 : decode cX9_apply 62 = .ok (.iadd, 1) := by decide +kernel
theorem dX9_apply_63 : decode cX9_apply 63 = .ok (.bipush 8, 2) := by decide +kernel
theorem dX9_apply_65 : decode cX9_apply 65 = .ok (.invokestatic 88, 3) := by decide +kernel
theorem dX9_apply_68 : decode cX9_apply 68 = .ok (.iconst 1, 1) := by decide +kernel
theorem dX9_apply_69 : decode cX9_apply 69 = .ok (.invokevirtual 126, 3) := by decide +kernel
theorem dX9_apply_72 : decode cX9_apply 72 = .ok (.goto 149, 3) := by decide +kernel
theorem dX9_apply_75 : decode cX9_apply 75 = .ok (.aload_n 0, 1) := by decide +kernel
theorem dX9_apply_76 : decode cX9_apply 76 = .ok (.getfield 24, 3) := by decide +kernel
theorem dX9_apply_79 : decode cX9_apply 79 = .ok (.iload_n 3, 1) := by decide +kernel
theorem dX9_apply_80 : decode cX9_apply 80 = .ok (.dup2, 1) := by decide +kernel
theorem dX9_apply_81 : decode cX9_apply 81 = .ok (.laload, 1) := by decide +kernel
theorem dX9_apply_82 : decode cX9_apply 82 = .ok (.aload_n 1, 1) := by decide +kernel
theorem dX9_apply_83 : decode cX9_apply 83 = .ok (.iload_n 2, 1) := by decide +kernel
theorem dX9_apply_84 : decode cX9_apply 84 = .ok (.iconst 4, 1) := by decide +kernel
theorem dX9_apply_85 : decode cX9_apply 85 = .ok (.iadd, 1) := by decide +kernel
theorem dX9_apply_86 : decode cX9_apply 86 = .ok (.bipush 8, 2) := by decide +kernel
theorem dX9_apply_88 : decode cX9_apply 88 = .ok (.invokestatic 88, 3) := by decide +kernel
theorem dX9_apply_91 : decode cX9_apply 91 = .ok (.lsub, 1) := by decide +kernel
theorem dX9_apply_92 : decode cX9_apply 92 = .ok (.lastore, 1) := by decide +kernel
theorem dX9_apply_93 : decode cX9_apply 93 = .ok (.aload_n 0, 1) := by decide +kernel
theorem dX9_apply_94 : decode cX9_apply 94 = .ok (.iload_n 3, 1) := by decide +kernel
theorem dX9_apply_95 : decode cX9_apply 95 = .ok (.aload_n 1, 1) := by decide +kernel
theorem dX9_apply_96 : decode cX9_apply 96 = .ok (.iload_n 2, 1) := by decide +kernel
theorem dX9_apply_97 : decode cX9_apply 97 = .ok (.iconst 3, 1) := by decide +kernel
theorem dX9_apply_98 : decode cX9_apply 98 = .ok (.iadd, 1) := by decide +kernel
theorem dX9_apply_99 : decode cX9_apply 99 = .ok (.baload, 1) := by decide +kernel
theorem dX9_apply_100 : decode cX9_apply 100 = .ok (.aload_n 1, 1) := by decide +kernel
theorem dX9_apply_101 : decode cX9_apply 101 = .ok (.iload_n 2, 1) := by decide +kernel
theorem dX9_apply_102 : decode cX9_apply 102 = .ok (.iconst 4, 1) := by decide +kernel
theorem dX9_apply_103 : decode cX9_apply 103 = .ok (.iadd, 1) := by decide +kernel
theorem dX9_apply_104 : decode cX9_apply 104 = .ok (.bipush 8, 2) := by decide +kernel
theorem dX9_apply_106 : decode cX9_apply 106 = .ok (.invokestatic 88, 3) := by decide +kernel
theorem dX9_apply_109 : decode cX9_apply 109 = .ok (.iconst 1, 1) := by decide +kernel
theorem dX9_apply_110 : decode cX9_apply 110 = .ok (.invokevirtual 126, 3) := by decide +kernel
theorem dX9_apply_113 : decode cX9_apply 113 = .ok (.goto 108, 3) := by decide +kernel
theorem dX9_apply_116 : decode cX9_apply 116 = .ok (.aload_n 0, 1) := by decide +kernel
theorem dX9_apply_117 : decode cX9_apply 117 = .ok (.getfield 17, 3) := by decide +kernel
theorem dX9_apply_120 : decode cX9_apply 120 = .ok (.iload_n 3, 1) := by decide +kernel
theorem dX9_apply_121 : decode cX9_apply 121 = .ok (.aload_n 1, 1) := by decide +kernel
theorem dX9_apply_122 : decode cX9_apply 122 = .ok (.iload_n 2, 1) := by decide +kernel
theorem dX9_apply_123 : decode cX9_apply 123 = .ok (.iconst 3, 1) := by decide +kernel
theorem dX9_apply_124 : decode cX9_apply 124 = .ok (.iadd, 1) := by decide +kernel
theorem dX9_apply_125 : decode cX9_apply 125 = .ok (.baload, 1) := by decide +kernel
theorem dX9_apply_126 : decode cX9_apply 126 = .ok (.iastore, 1) := by decide +kernel
theorem dX9_apply_127 : decode cX9_apply 127 = .ok (.goto 94, 3) := by decide +kernel
theorem dX9_apply_130 : decode cX9_apply 130 = .ok (.aload_n 0, 1) := by decide +kernel
theorem dX9_apply_131 : decode cX9_apply 131 = .ok (.dup, 1) := by decide +kernel
theorem dX9_apply_132 : decode cX9_apply 132 = .ok (.getfield 118, 3) := by decide +kernel
theorem dX9_apply_135 : decode cX9_apply 135 = .ok (.aload_n 0, 1) := by decide +kernel
theorem dX9_apply_136 : decode cX9_apply 136 = .ok (.getfield 24, 3) := by decide +kernel
theorem dX9_apply_139 : decode cX9_apply 139 = .ok (.iload_n 3, 1) := by decide +kernel
theorem dX9_apply_140 : decode cX9_apply 140 = .ok (.laload, 1) := by decide +kernel
theorem dX9_apply_141 : decode cX9_apply 141 = .ok (.ladd, 1) := by decide +kernel
theorem dX9_apply_142 : decode cX9_apply 142 = .ok (.putfield 118, 3) := by decide +kernel
theorem dX9_apply_145 : decode cX9_apply 145 = .ok (.aload_n 0, 1) := by decide +kernel
theorem dX9_apply_146 : decode cX9_apply 146 = .ok (.getfield 24, 3) := by decide +kernel
theorem dX9_apply_149 : decode cX9_apply 149 = .ok (.iload_n 3, 1) := by decide +kernel
theorem dX9_apply_150 : decode cX9_apply 150 = .ok (.lconst 0, 1) := by decide +kernel
theorem dX9_apply_151 : decode cX9_apply 151 = .ok (.lastore, 1) := by decide +kernel
theorem dX9_apply_152 : decode cX9_apply 152 = .ok (.aload_n 0, 1) := by decide +kernel
theorem dX9_apply_153 : decode cX9_apply 153 = .ok (.getfield 20, 3) := by decide +kernel
theorem dX9_apply_156 : decode cX9_apply 156 = .ok (.iload_n 3, 1) := by decide +kernel
theorem dX9_apply_157 : decode cX9_apply 157 = .ok (.iconst 0, 1) := by decide +kernel
theorem dX9_apply_158 : decode cX9_apply 158 = .ok (.bastore, 1) := by decide +kernel
theorem dX9_apply_159 : decode cX9_apply 159 = .ok (.goto 62, 3) := by decide +kernel
theorem dX9_apply_162 : decode cX9_apply 162 = .ok (.aload_n 0, 1) := by decide +kernel
theorem dX9_apply_163 : decode cX9_apply 163 = .ok (.iload_n 3, 1) := by decide +kernel
theorem dX9_apply_164 : decode cX9_apply 164 = .ok (.aload_n 1, 1) := by decide +kernel
theorem dX9_apply_165 : decode cX9_apply 165 = .ok (.iload_n 2, 1) := by decide +kernel
theorem dX9_apply_166 : decode cX9_apply 166 = .ok (.iconst 3, 1) := by decide +kernel
theorem dX9_apply_167 : decode cX9_apply 167 = .ok (.iadd, 1) := by decide +kernel
theorem dX9_apply_168 : decode cX9_apply 168 = .ok (.baload, 1) := by decide +kernel
theorem dX9_apply_169 : decode cX9_apply 169 = .ok (.sipush 255, 3) := by decide +kernel
theorem dX9_apply_172 : decode cX9_apply 172 = .ok (.iand, 1) := by decide +kernel
theorem dX9_apply_173 : decode cX9_apply 173 = .ok (.aload_n 1, 1) := by decide +kernel
theorem dX9_apply_174 : decode cX9_apply 174 = .ok (.iload_n 2, 1) := by decide +kernel
theorem dX9_apply_175 : decode cX9_apply 175 = .ok (.iconst 4, 1) := by decide +kernel
theorem dX9_apply_176 : decode cX9_apply 176 = .ok (.iadd, 1) := by decide +kernel
theorem dX9_apply_177 : decode cX9_apply 177 = .ok (.bipush 8, 2) := by decide +kernel
theorem dX9_apply_179 : decode cX9_apply 179 = .ok (.invokestatic 88, 3) := by decide +kernel
theorem dX9_apply_182 : decode cX9_apply 182 = .ok (.aload_n 1, 1) := by decide +kernel
theorem dX9_apply_183 : decode cX9_apply 183 = .ok (.iload_n 2, 1) := by decide +kernel
theorem dX9_apply_184 : decode cX9_apply 184 = .ok (.iconst 3, 1) := by decide +kernel
theorem dX9_apply_185 : decode cX9_apply 185 = .ok (.iadd, 1) := by decide +kernel
theorem dX9_apply_186 : decode cX9_apply 186 = .ok (.baload, 1) := by decide +kernel
theorem dX9_apply_187 : decode cX9_apply 187 = .ok (.sipush 255, 3) := by decide +kernel
theorem dX9_apply_190 : decode cX9_apply 190 = .ok (.iand, 1) := by decide +kernel
theorem dX9_apply_191 : decode cX9_apply 191 = .ok (.sipush 255, 3) := by decide +kernel
theorem dX9_apply_194 : decode cX9_apply 194 = .ok (.if_icmp .eq 7, 3) := by decide +kernel
theorem dX9_apply_197 : decode cX9_apply 197 = .ok (.iconst 1, 1) := by decide +kernel
theorem dX9_apply_198 : decode cX9_apply 198 = .ok (.goto 4, 3) := by decide +kernel
theorem dX9_apply_201 : decode cX9_apply 201 = .ok (.iconst 0, 1) := by decide +kernel
theorem dX9_apply_202 : decode cX9_apply 202 = .ok (.invokevirtual 126, 3) := by decide +kernel
theorem dX9_apply_205 : decode cX9_apply 205 = .ok (.goto 16, 3) := by decide +kernel
theorem dX9_apply_208 : decode cX9_apply 208 = .ok (.aload_n 0, 1) := by decide +kernel
theorem dX9_apply_209 : decode cX9_apply 209 = .ok (.aload_n 1, 1) := by decide +kernel
theorem dX9_apply_210 : decode cX9_apply 210 = .ok (.iload_n 2, 1) := by decide +kernel
theorem dX9_apply_211 : decode cX9_apply 211 = .ok (.iconst 1, 1) := by decide +kernel
theorem dX9_apply_212 : decode cX9_apply 212 = .ok (.iadd, 1) := by decide +kernel
theorem dX9_apply_213 : decode cX9_apply 213 = .ok (.bipush 8, 2) := by decide +kernel
theorem dX9_apply_215 : decode cX9_apply 215 = .ok (.invokestatic 88, 3) := by decide +kernel
theorem dX9_apply_218 : decode cX9_apply 218 = .ok (.putfield 118, 3) := by decide +kernel
theorem dX9_apply_221 : decode cX9_apply 221 = .ok (.return_, 1) := by decide +kernel
theorem dX9_liveIn_0 : decode cX9_liveIn 0 = .ok (.iconst 1, 1) := by decide +kernel
theorem dX9_liveIn_1 : decode cX9_liveIn 1 = .ok (.istore_n 2, 1) := by decide +kernel
theorem dX9_liveIn_2 : decode cX9_liveIn 2 = .ok (.iload_n 2, 1) := by decide +kernel
theorem dX9_liveIn_3 : decode cX9_liveIn 3 = .ok (.aload_n 0, 1) := by decide +kernel
theorem dX9_liveIn_4 : decode cX9_liveIn 4 = .ok (.getfield 115, 3) := by decide +kernel
theorem dX9_liveIn_7 : decode cX9_liveIn 7 = .ok (.if_icmp .gt 30, 3) := by decide +kernel
theorem dX9_liveIn_10 : decode cX9_liveIn 10 = .ok (.aload_n 0, 1) := by decide +kernel
theorem dX9_liveIn_11 : decode cX9_liveIn 11 = .ok (.getfield 20, 3) := by decide +kernel
theorem dX9_liveIn_14 : decode cX9_liveIn 14 = .ok (.iload_n 2, 1) := by decide +kernel
theorem dX9_liveIn_15 : decode cX9_liveIn 15 = .ok (.baload, 1) := by decide +kernel
theorem dX9_liveIn_16 : decode cX9_liveIn 16 = .ok (.ifCond .eq 15, 3) := by decide +kernel
theorem dX9_liveIn_19 : decode cX9_liveIn 19 = .ok (.aload_n 0, 1) := by decide +kernel
theorem dX9_liveIn_20 : decode cX9_liveIn 20 = .ok (.getfield 17, 3) := by decide +kernel
theorem dX9_liveIn_23 : decode cX9_liveIn 23 = .ok (.iload_n 2, 1) := by decide +kernel
theorem dX9_liveIn_24 : decode cX9_liveIn 24 = .ok (.iaload, 1) := by decide +kernel
theorem dX9_liveIn_25 : decode cX9_liveIn 25 = .ok (.iload_n 1, 1) := by decide +kernel
theorem dX9_liveIn_26 : decode cX9_liveIn 26 = .ok (.if_icmp .ne 5, 3) := by decide +kernel
theorem dX9_liveIn_29 : decode cX9_liveIn 29 = .ok (.iload_n 2, 1) := by decide +kernel
theorem dX9_liveIn_30 : decode cX9_liveIn 30 = .ok (.ireturn, 1) := by decide +kernel
theorem dX9_liveIn_31 : decode cX9_liveIn 31 = .ok (.iinc 2 1, 3) := by decide +kernel
theorem dX9_liveIn_34 : decode cX9_liveIn 34 = .ok (.goto (-32), 3) := by decide +kernel
theorem dX9_liveIn_37 : decode cX9_liveIn 37 = .ok (.iconst (-1), 1) := by decide +kernel
theorem dX9_liveIn_38 : decode cX9_liveIn 38 = .ok (.ireturn, 1) := by decide +kernel
theorem dX9_isLive_0 : decode cX9_isLive 0 = .ok (.iload_n 1, 1) := by decide +kernel
theorem dX9_isLive_1 : decode cX9_isLive 1 = .ok (.ifCond .le 24, 3) := by decide +kernel
theorem dX9_isLive_4 : decode cX9_isLive 4 = .ok (.iload_n 1, 1) := by decide +kernel
theorem dX9_isLive_5 : decode cX9_isLive 5 = .ok (.aload_n 0, 1) := by decide +kernel
theorem dX9_isLive_6 : decode cX9_isLive 6 = .ok (.getfield 115, 3) := by decide +kernel
theorem dX9_isLive_9 : decode cX9_isLive 9 = .ok (.if_icmp .gt 16, 3) := by decide +kernel
theorem dX9_isLive_12 : decode cX9_isLive 12 = .ok (.aload_n 0, 1) := by decide +kernel
theorem dX9_isLive_13 : decode cX9_isLive 13 = .ok (.getfield 20, 3) := by decide +kernel
theorem dX9_isLive_16 : decode cX9_isLive 16 = .ok (.iload_n 1, 1) := by decide +kernel
theorem dX9_isLive_17 : decode cX9_isLive 17 = .ok (.baload, 1) := by decide +kernel
theorem dX9_isLive_18 : decode cX9_isLive 18 = .ok (.ifCond .eq 7, 3) := by decide +kernel
theorem dX9_isLive_21 : decode cX9_isLive 21 = .ok (.iconst 1, 1) := by decide +kernel
theorem dX9_isLive_22 : decode cX9_isLive 22 = .ok (.goto 4, 3) := by decide +kernel
theorem dX9_isLive_25 : decode cX9_isLive 25 = .ok (.iconst 0, 1) := by decide +kernel
theorem dX9_isLive_26 : decode cX9_isLive 26 = .ok (.ireturn, 1) := by decide +kernel
theorem dX9_isWell_0 : decode cX9_isWell 0 = .ok (.iload_n 0, 1) := by decide +kernel
theorem dX9_isWell_1 : decode cX9_isWell 1 = .ok (.ifCond .lt 13, 3) := by decide +kernel
theorem dX9_isWell_4 : decode cX9_isWell 4 = .ok (.iload_n 0, 1) := by decide +kernel
theorem dX9_isWell_5 : decode cX9_isWell 5 = .ok (.bipush 48, 2) := by decide +kernel
theorem dX9_isWell_7 : decode cX9_isWell 7 = .ok (.if_icmp .ge 7, 3) := by decide +kernel
theorem dX9_isWell_10 : decode cX9_isWell 10 = .ok (.iconst 1, 1) := by decide +kernel
theorem dX9_isWell_11 : decode cX9_isWell 11 = .ok (.goto 4, 3) := by decide +kernel
theorem dX9_isWell_14 : decode cX9_isWell 14 = .ok (.iconst 0, 1) := by decide +kernel
theorem dX9_isWell_15 : decode cX9_isWell 15 = .ok (.ireturn, 1) := by decide +kernel
theorem dX9_liveVolume_0 : decode cX9_liveVolume 0 = .ok (.lconst 0, 1) := by decide +kernel
theorem dX9_liveVolume_1 : decode cX9_liveVolume 1 = .ok (.lstore_n 1, 1) := by decide +kernel
theorem dX9_liveVolume_2 : decode cX9_liveVolume 2 = .ok (.iconst 1, 1) := by decide +kernel
theorem dX9_liveVolume_3 : decode cX9_liveVolume 3 = .ok (.istore_n 3, 1) := by decide +kernel
theorem dX9_liveVolume_4 : decode cX9_liveVolume 4 = .ok (.iload_n 3, 1) := by decide +kernel
theorem dX9_liveVolume_5 : decode cX9_liveVolume 5 = .ok (.aload_n 0, 1) := by decide +kernel
theorem dX9_liveVolume_6 : decode cX9_liveVolume 6 = .ok (.getfield 115, 3) := by decide +kernel
theorem dX9_liveVolume_9 : decode cX9_liveVolume 9 = .ok (.if_icmp .gt 18, 3) := by decide +kernel
theorem dX9_liveVolume_12 : decode cX9_liveVolume 12 = .ok (.lload_n 1, 1) := by decide +kernel
theorem dX9_liveVolume_13 : decode cX9_liveVolume 13 = .ok (.aload_n 0, 1) := by decide +kernel
theorem dX9_liveVolume_14 : decode cX9_liveVolume 14 = .ok (.getfield 24, 3) := by decide +kernel
theorem dX9_liveVolume_17 : decode cX9_liveVolume 17 = .ok (.iload_n 3, 1) := by decide +kernel
theorem dX9_liveVolume_18 : decode cX9_liveVolume 18 = .ok (.laload, 1) := by decide +kernel
theorem dX9_liveVolume_19 : decode cX9_liveVolume 19 = .ok (.ladd, 1) := by decide +kernel
theorem dX9_liveVolume_20 : decode cX9_liveVolume 20 = .ok (.lstore_n 1, 1) := by decide +kernel
theorem dX9_liveVolume_21 : decode cX9_liveVolume 21 = .ok (.iinc 3 1, 3) := by decide +kernel
theorem dX9_liveVolume_24 : decode cX9_liveVolume 24 = .ok (.goto (-20), 3) := by decide +kernel
theorem dX9_liveVolume_27 : decode cX9_liveVolume 27 = .ok (.lload_n 1, 1) := by decide +kernel
theorem dX9_liveVolume_28 : decode cX9_liveVolume 28 = .ok (.lreturn, 1) := by decide +kernel
set_option maxRecDepth 20000 in
theorem ggX9_hasRoom_X9_lengthOf : GoodIn wsX9_hasRoom wsX9_lengthOf := goodIn_r _ [6] (by decide +kernel) (by decide +kernel)
set_option maxRecDepth 20000 in
theorem gX9_hasRoom_X9_lengthOf : GoodIn wsX9_hasRoom (va_wsS RX9 67 yX9_lengthOf wsX9_lengthOf) := goodIn_app (goodIn_of _ (by decide +kernel)) ggX9_hasRoom_X9_lengthOf
theorem dX9_hasRoom_0 : decode cX9_hasRoom 0 = .ok (.aload_n 0, 1) := by decide +kernel
theorem dX9_hasRoom_1 : decode cX9_hasRoom 1 = .ok (.getfield 103, 3) := by decide +kernel
theorem dX9_hasRoom_4 : decode cX9_hasRoom 4 = .ok (.iload_n 1, 1) := by decide +kernel
theorem dX9_hasRoom_5 : decode cX9_hasRoom 5 = .ok (.invokestatic 67, 3) := by decide +kernel
theorem dX9_hasRoom_8 : decode cX9_hasRoom 8 = .ok (.iadd, 1) := by decide +kernel
theorem dX9_hasRoom_9 : decode cX9_hasRoom 9 = .ok (.aload_n 0, 1) := by decide +kernel
theorem dX9_hasRoom_10 : decode cX9_hasRoom 10 = .ok (.getfield 35, 3) := by decide +kernel
theorem dX9_hasRoom_13 : decode cX9_hasRoom 13 = .ok (.if_icmp .gt 7, 3) := by decide +kernel
theorem dX9_hasRoom_16 : decode cX9_hasRoom 16 = .ok (.iconst 1, 1) := by decide +kernel
theorem dX9_hasRoom_17 : decode cX9_hasRoom 17 = .ok (.goto 4, 3) := by decide +kernel
theorem dX9_hasRoom_20 : decode cX9_hasRoom 20 = .ok (.iconst 0, 1) := by decide +kernel
theorem dX9_hasRoom_21 : decode cX9_hasRoom 21 = .ok (.ireturn, 1) := by decide +kernel
set_option maxRecDepth 20000 in
theorem ggX9_acts_X9_checked : GoodIn wsX9_acts wsX9_checked := goodIn_r _ [7, 8, 9, 10, 11, 6, 12, 13, 14, 15, 16, 17, 18, 19, 20, 21, 22, 23, 24, 25, 72, 73, 74, 75, 76, 77, 78, 79, 80, 81, 82, 83, 84, 85, 86, 87, 88, 89, 90, 91] (by decide +kernel) (by decide +kernel)
set_option maxRecDepth 20000 in
theorem gX9_acts_X9_checked : GoodIn wsX9_acts (wsV RX9 130 RX9 yX9_checked wsX9_checked) := goodIn_app (goodIn_of _ (by decide +kernel)) ggX9_acts_X9_checked
set_option maxRecDepth 20000 in
theorem ggX9_acts_X9_writeRow : GoodIn wsX9_acts wsX9_writeRow := goodIn_r _ [29, 9, 8, 30, 31, 32, 6, 33, 34, 35, 36, 37, 38, 39, 40, 41, 42, 72, 73, 74, 75, 76, 77, 78, 79, 80, 81, 82, 83, 84, 85, 86, 87, 88, 89, 90, 91] (by decide +kernel) (by decide +kernel)
set_option maxRecDepth 20000 in
theorem gX9_acts_X9_writeRow : GoodIn wsX9_acts (wsV RX9 133 RX9 yX9_writeRow wsX9_writeRow) := goodIn_app (goodIn_of _ (by decide +kernel)) ggX9_acts_X9_writeRow
set_option maxRecDepth 20000 in
theorem ggX9_acts_X9_reads : GoodIn wsX9_acts wsX9_reads := goodIn_r _ [46, 35, 1, 47, 48, 49, 2, 50, 51, 52, 53, 54, 6, 55, 56, 57, 58, 59, 10, 11, 12, 13, 60, 61, 62, 63, 64, 65, 66, 67, 68, 69, 70, 71, 72, 73, 74, 75, 76, 77, 78, 79, 80, 81, 82, 83, 84, 85, 86, 87, 88, 89, 90, 91] (by decide +kernel) (by decide +kernel)
set_option maxRecDepth 20000 in
theorem gX9_acts_X9_reads : GoodIn wsX9_acts (wsV RX9 57 RX9 yX9_reads wsX9_reads) := goodIn_app (goodIn_of _ (by decide +kernel)) ggX9_acts_X9_reads
theorem dX9_acts_0 : decode cX9_acts 0 = .ok (.aload_n 0, 1) := by decide +kernel
theorem dX9_acts_1 : decode cX9_acts 1 = .ok (.invokevirtual 130, 3) := by decide +kernel
theorem dX9_acts_4 : decode cX9_acts 4 = .ok (.aload_n 0, 1) := by decide +kernel
theorem dX9_acts_5 : decode cX9_acts 5 = .ok (.aload_n 0, 1) := by decide +kernel
theorem dX9_acts_6 : decode cX9_acts 6 = .ok (.getfield 100, 3) := by decide +kernel
theorem dX9_acts_9 : decode cX9_acts 9 = .ok (.aload_n 0, 1) := by decide +kernel
theorem dX9_acts_10 : decode cX9_acts 10 = .ok (.getfield 103, 3) := by decide +kernel
theorem dX9_acts_13 : decode cX9_acts 13 = .ok (.invokevirtual 133, 3) := by decide +kernel
theorem dX9_acts_16 : decode cX9_acts 16 = .ok (.ifCond .ne 5, 3) := by decide +kernel
theorem dX9_acts_19 : decode cX9_acts 19 = .ok (.iconst 0, 1) := by decide +kernel
theorem dX9_acts_20 : decode cX9_acts 20 = .ok (.ireturn, 1) := by decide +kernel
theorem dX9_acts_21 : decode cX9_acts 21 = .ok (.aload_n 0, 1) := by decide +kernel
theorem dX9_acts_22 : decode cX9_acts 22 = .ok (.invokevirtual 57, 3) := by decide +kernel
theorem dX9_acts_25 : decode cX9_acts 25 = .ok (.iconst 1, 1) := by decide +kernel
theorem dX9_acts_26 : decode cX9_acts 26 = .ok (.ireturn, 1) := by decide +kernel
set_option maxRecDepth 20000 in
theorem ggX9_register_X9_isWell : GoodIn wsX9_register wsX9_isWell := goodIn_r _ [8] (by decide +kernel) (by decide +kernel)
set_option maxRecDepth 20000 in
theorem gX9_register_X9_isWell : GoodIn wsX9_register (va_wsS RX9 137 yX9_isWell wsX9_isWell) := goodIn_app (goodIn_of _ (by decide +kernel)) ggX9_register_X9_isWell
set_option maxRecDepth 20000 in
theorem ggX9_register_X9_liveIn : GoodIn wsX9_register wsX9_liveIn := goodIn_r _ [12, 4, 13, 14, 103, 104, 105, 106, 107, 108, 109, 110, 111, 112, 113, 114, 115, 116, 117, 118, 119, 120, 121, 122] (by decide +kernel) (by decide +kernel)
set_option maxRecDepth 20000 in
theorem gX9_register_X9_liveIn : GoodIn wsX9_register (wsV RX9 140 RX9 yX9_liveIn wsX9_liveIn) := goodIn_app (goodIn_of _ (by decide +kernel)) ggX9_register_X9_liveIn
set_option maxRecDepth 20000 in
theorem ggX9_register_X9_liveVolume : GoodIn wsX9_register wsX9_liveVolume := goodIn_r _ [18, 4, 19, 103, 104, 105, 106, 107, 108, 109, 110, 111, 112, 113, 114, 115, 116, 117, 118, 119, 120, 121, 122] (by decide +kernel) (by decide +kernel)
set_option maxRecDepth 20000 in
theorem gX9_register_X9_liveVolume : GoodIn wsX9_register (wsV RX9 143 RX9 yX9_liveVolume wsX9_liveVolume) := goodIn_app (goodIn_of _ (by decide +kernel)) ggX9_register_X9_liveVolume
set_option maxRecDepth 20000 in
theorem ggX9_register_X9_hasRoom : GoodIn wsX9_register wsX9_hasRoom := goodIn_r _ [23, 24, 25, 26, 27, 7, 28, 103, 104, 105, 106, 107, 108, 109, 110, 111, 112, 113, 114, 115, 116, 117, 118, 119, 120, 121, 122] (by decide +kernel) (by decide +kernel)
set_option maxRecDepth 20000 in
theorem gX9_register_X9_hasRoom : GoodIn wsX9_register (wsV RX9 151 RX9 yX9_hasRoom wsX9_hasRoom) := goodIn_app (goodIn_of _ (by decide +kernel)) ggX9_register_X9_hasRoom
set_option maxRecDepth 20000 in
theorem ggX9_register_X9_begin : GoodIn wsX9_register wsX9_begin := goodIn_r _ [32, 33, 26, 27, 7, 28, 34, 35, 36, 37, 38, 39, 40, 41, 42, 103, 104, 105, 106, 107, 108, 109, 110, 111, 112, 113, 114, 115, 116, 117, 118, 119, 120, 121, 122] (by decide +kernel) (by decide +kernel)
set_option maxRecDepth 20000 in
theorem gX9_register_X9_begin : GoodIn wsX9_register (wsV RX9 154 RX9 yX9_begin wsX9_begin) := goodIn_app (goodIn_of _ (by decide +kernel)) ggX9_register_X9_begin
set_option maxRecDepth 20000 in
theorem ggX9_register_X9_u1 : GoodIn wsX9_register wsX9_u1 := goodIn_r _ [41, 42, 33, 103, 104, 105, 106, 107, 108, 109, 110, 111, 112, 113, 114, 115, 116, 117, 118, 119, 120, 121, 122] (by decide +kernel) (by decide +kernel)
set_option maxRecDepth 20000 in
theorem gX9_register_X9_u1 : GoodIn wsX9_register (wsV RX9 54 RX9 yX9_u1 wsX9_u1) := goodIn_app (goodIn_of _ (by decide +kernel)) ggX9_register_X9_u1
set_option maxRecDepth 20000 in
theorem ggX9_register_X9_u8 : GoodIn wsX9_register wsX9_u8 := goodIn_r _ [46, 47, 48, 49, 7, 50, 34, 35, 36, 37, 38, 39, 40, 41, 42, 33, 103, 104, 105, 106, 107, 108, 109, 110, 111, 112, 113, 114, 115, 116, 117, 118, 119, 120, 121, 122] (by decide +kernel) (by decide +kernel)
set_option maxRecDepth 20000 in
theorem gX9_register_X9_u8 : GoodIn wsX9_register (wsV RX9 157 RX9 yX9_u8 wsX9_u8) := goodIn_app (goodIn_of _ (by decide +kernel)) ggX9_register_X9_u8
set_option maxRecDepth 20000 in
theorem ggX9_register_X9_acts : GoodIn wsX9_register wsX9_acts := goodIn_r _ [54, 55, 24, 56, 57, 58, 7, 59, 42, 33, 60, 61, 62, 63, 47, 48, 49, 50, 34, 35, 36, 37, 38, 39, 40, 41, 64, 65, 66, 67, 68, 69, 70, 71, 72, 73, 74, 75, 76, 77, 78, 1, 79, 80, 81, 82, 83, 84, 85, 86, 4, 2, 87, 88, 89, 90, 25, 91, 92, 93, 94, 95, 96, 97, 19, 14, 13, 98, 99, 100, 101, 102, 103, 104, 105, 106, 107, 108, 109, 110, 111, 112, 113, 114, 115, 116, 117, 118, 119, 120, 121, 122] (by decide +kernel) (by decide +kernel)
set_option maxRecDepth 20000 in
theorem gX9_register_X9_acts : GoodIn wsX9_register (wsV RX9 161 RX9 yX9_acts wsX9_acts) := goodIn_app (goodIn_of _ (by decide +kernel)) ggX9_register_X9_acts
theorem dX9_register_0 : decode cX9_register 0 = .ok (.aload_n 0, 1) := by decide +kernel
theorem dX9_register_1 : decode cX9_register 1 = .ok (.getfield 77, 3) := by decide +kernel
theorem dX9_register_4 : decode cX9_register 4 = .ok (.ifCond .eq 5, 3) := by decide +kernel
theorem dX9_register_7 : decode cX9_register 7 = .ok (.iconst (-1), 1) := by decide +kernel
theorem dX9_register_8 : decode cX9_register 8 = .ok (.ireturn, 1) := by decide +kernel
theorem dX9_register_9 : decode cX9_register 9 = .ok (.iload_n 1, 1) := by decide +kernel
theorem dX9_register_10 : decode cX9_register 10 = .ok (.invokestatic 137, 3) := by decide +kernel
theorem dX9_register_13 : decode cX9_register 13 = .ok (.ifCond .ne 6, 3) := by decide +kernel
theorem dX9_register_16 : decode cX9_register 16 = .ok (.bipush (-2), 2) := by decide +kernel
theorem dX9_register_18 : decode cX9_register 18 = .ok (.ireturn, 1) := by decide +kernel
theorem dX9_register_19 : decode cX9_register 19 = .ok (.aload_n 0, 1) := by decide +kernel
theorem dX9_register_20 : decode cX9_register 20 = .ok (.iload_n 1, 1) := by decide +kernel
theorem dX9_register_21 : decode cX9_register 21 = .ok (.invokevirtual 140, 3) := by decide +kernel
theorem dX9_register_24 : decode cX9_register 24 = .ok (.iconst (-1), 1) := by decide +kernel
theorem dX9_register_25 : decode cX9_register 25 = .ok (.if_icmp .eq 6, 3) := by decide +kernel
theorem dX9_register_28 : decode cX9_register 28 = .ok (.bipush (-3), 2) := by decide +kernel
theorem dX9_register_30 : decode cX9_register 30 = .ok (.ireturn, 1) := by decide +kernel
theorem dX9_register_31 : decode cX9_register 31 = .ok (.lload_n 2, 1) := by decide +kernel
theorem dX9_register_32 : decode cX9_register 32 = .ok (.lconst 1, 1) := by decide +kernel
theorem dX9_register_33 : decode cX9_register 33 = .ok (.lcmp, 1) := by decide +kernel
theorem dX9_register_34 : decode cX9_register 34 = .ok (.ifCond .lt 21, 3) := by decide +kernel
theorem dX9_register_37 : decode cX9_register 37 = .ok (.aload_n 0, 1) := by decide +kernel
theorem dX9_register_38 : decode cX9_register 38 = .ok (.invokevirtual 143, 3) := by decide +kernel
theorem dX9_register_41 : decode cX9_register 41 = .ok (.aload_n 0, 1) := by decide +kernel
theorem dX9_register_42 : decode cX9_register 42 = .ok (.getfield 118, 3) := by decide +kernel
theorem dX9_register_45 : decode cX9_register 45 = .ok (.ladd, 1) := by decide +kernel
theorem dX9_register_46 : decode cX9_register 46 = .ok (.ldc2_w 149, 3) := by decide +kernel
theorem dX9_register_49 : decode cX9_register 49 = .ok (.lload_n 2, 1) := by decide +kernel
theorem dX9_register_50 : decode cX9_register 50 = .ok (.lsub, 1) := by decide +kernel
theorem dX9_register_51 : decode cX9_register 51 = .ok (.lcmp, 1) := by decide +kernel
theorem dX9_register_52 : decode cX9_register 52 = .ok (.ifCond .le 6, 3) := by decide +kernel
theorem dX9_register_55 : decode cX9_register 55 = .ok (.bipush (-4), 2) := by decide +kernel
theorem dX9_register_57 : decode cX9_register 57 = .ok (.ireturn, 1) := by decide +kernel
theorem dX9_register_58 : decode cX9_register 58 = .ok (.aload_n 0, 1) := by decide +kernel
theorem dX9_register_59 : decode cX9_register 59 = .ok (.getfield 115, 3) := by decide +kernel
theorem dX9_register_62 : decode cX9_register 62 = .ok (.bipush 120, 2) := by decide +kernel
theorem dX9_register_64 : decode cX9_register 64 = .ok (.if_icmp .ne 6, 3) := by decide +kernel
theorem dX9_register_67 : decode cX9_register 67 = .ok (.bipush (-5), 2) := by decide +kernel
theorem dX9_register_69 : decode cX9_register 69 = .ok (.ireturn, 1) := by decide +kernel
theorem dX9_register_70 : decode cX9_register 70 = .ok (.aload_n 0, 1) := by decide +kernel
theorem dX9_register_71 : decode cX9_register 71 = .ok (.iconst 1, 1) := by decide +kernel
theorem dX9_register_72 : decode cX9_register 72 = .ok (.invokevirtual 151, 3) := by decide +kernel
theorem dX9_register_75 : decode cX9_register 75 = .ok (.ifCond .ne 6, 3) := by decide +kernel
theorem dX9_register_78 : decode cX9_register 78 = .ok (.bipush (-6), 2) := by decide +kernel
theorem dX9_register_80 : decode cX9_register 80 = .ok (.ireturn, 1) := by decide +kernel
theorem dX9_register_81 : decode cX9_register 81 = .ok (.aload_n 0, 1) := by decide +kernel
theorem dX9_register_82 : decode cX9_register 82 = .ok (.iconst 1, 1) := by decide +kernel
theorem dX9_register_83 : decode cX9_register 83 = .ok (.invokevirtual 154, 3) := by decide +kernel
theorem dX9_register_86 : decode cX9_register 86 = .ok (.aload_n 0, 1) := by decide +kernel
theorem dX9_register_87 : decode cX9_register 87 = .ok (.iload_n 1, 1) := by decide +kernel
theorem dX9_register_88 : decode cX9_register 88 = .ok (.invokevirtual 54, 3) := by decide +kernel
theorem dX9_register_91 : decode cX9_register 91 = .ok (.aload_n 0, 1) := by decide +kernel
theorem dX9_register_92 : decode cX9_register 92 = .ok (.lload_n 2, 1) := by decide +kernel
theorem dX9_register_93 : decode cX9_register 93 = .ok (.invokevirtual 157, 3) := by decide +kernel
theorem dX9_register_96 : decode cX9_register 96 = .ok (.aload_n 0, 1) := by decide +kernel
theorem dX9_register_97 : decode cX9_register 97 = .ok (.invokevirtual 161, 3) := by decide +kernel
theorem dX9_register_100 : decode cX9_register 100 = .ok (.ifCond .eq 10, 3) := by decide +kernel
theorem dX9_register_103 : decode cX9_register 103 = .ok (.aload_n 0, 1) := by decide +kernel
theorem dX9_register_104 : decode cX9_register 104 = .ok (.getfield 115, 3) := by decide +kernel
theorem dX9_register_107 : decode cX9_register 107 = .ok (.goto 4, 3) := by decide +kernel
theorem dX9_register_110 : decode cX9_register 110 = .ok (.iconst (-1), 1) := by decide +kernel
theorem dX9_register_111 : decode cX9_register 111 = .ok (.ireturn, 1) := by decide +kernel
set_option maxRecDepth 20000 in
theorem ggX9_aliquot_X9_isLive : GoodIn wsX9_aliquot wsX9_isLive := goodIn_r _ [8, 3, 9, 102, 103, 104, 105, 106, 107, 108, 109, 110, 111, 112, 113, 114, 115, 116, 117, 118, 119, 120, 121] (by decide +kernel) (by decide +kernel)
set_option maxRecDepth 20000 in
theorem gX9_aliquot_X9_isLive : GoodIn wsX9_aliquot (wsV RX9 165 RX9 yX9_isLive wsX9_isLive) := goodIn_app (goodIn_of _ (by decide +kernel)) ggX9_aliquot_X9_isLive
set_option maxRecDepth 20000 in
theorem ggX9_aliquot_X9_isWell : GoodIn wsX9_aliquot wsX9_isWell := goodIn_r _ [12] (by decide +kernel) (by decide +kernel)
set_option maxRecDepth 20000 in
theorem gX9_aliquot_X9_isWell : GoodIn wsX9_aliquot (va_wsS RX9 137 yX9_isWell wsX9_isWell) := goodIn_app (goodIn_of _ (by decide +kernel)) ggX9_aliquot_X9_isWell
set_option maxRecDepth 20000 in
theorem ggX9_aliquot_X9_liveIn : GoodIn wsX9_aliquot wsX9_liveIn := goodIn_r _ [16, 3, 9, 17, 102, 103, 104, 105, 106, 107, 108, 109, 110, 111, 112, 113, 114, 115, 116, 117, 118, 119, 120, 121] (by decide +kernel) (by decide +kernel)
set_option maxRecDepth 20000 in
theorem gX9_aliquot_X9_liveIn : GoodIn wsX9_aliquot (wsV RX9 140 RX9 yX9_liveIn wsX9_liveIn) := goodIn_app (goodIn_of _ (by decide +kernel)) ggX9_aliquot_X9_liveIn
set_option maxRecDepth 20000 in
theorem ggX9_aliquot_X9_hasRoom : GoodIn wsX9_aliquot wsX9_hasRoom := goodIn_r _ [21, 22, 23, 24, 25, 7, 26, 102, 103, 104, 105, 106, 107, 108, 109, 110, 111, 112, 113, 114, 115, 116, 117, 118, 119, 120, 121] (by decide +kernel) (by decide +kernel)
set_option maxRecDepth 20000 in
theorem gX9_aliquot_X9_hasRoom : GoodIn wsX9_aliquot (wsV RX9 151 RX9 yX9_hasRoom wsX9_hasRoom) := goodIn_app (goodIn_of _ (by decide +kernel)) ggX9_aliquot_X9_hasRoom
set_option maxRecDepth 20000 in
theorem ggX9_aliquot_X9_begin : GoodIn wsX9_aliquot wsX9_begin := goodIn_r _ [30, 31, 24, 25, 7, 26, 32, 33, 34, 35, 36, 37, 38, 39, 40, 102, 103, 104, 105, 106, 107, 108, 109, 110, 111, 112, 113, 114, 115, 116, 117, 118, 119, 120, 121] (by decide +kernel) (by decide +kernel)
set_option maxRecDepth 20000 in
theorem gX9_aliquot_X9_begin : GoodIn wsX9_aliquot (wsV RX9 154 RX9 yX9_begin wsX9_begin) := goodIn_app (goodIn_of _ (by decide +kernel)) ggX9_aliquot_X9_begin
set_option maxRecDepth 20000 in
theorem ggX9_aliquot_X9_u2 : GoodIn wsX9_aliquot wsX9_u2 := goodIn_r _ [35, 36, 37, 38, 7, 39, 40, 31, 102, 103, 104, 105, 106, 107, 108, 109, 110, 111, 112, 113, 114, 115, 116, 117, 118, 119, 120, 121] (by decide +kernel) (by decide +kernel)
set_option maxRecDepth 20000 in
theorem gX9_aliquot_X9_u2 : GoodIn wsX9_aliquot (wsV RX9 63 RX9 yX9_u2 wsX9_u2) := goodIn_app (goodIn_of _ (by decide +kernel)) ggX9_aliquot_X9_u2
set_option maxRecDepth 20000 in
theorem ggX9_aliquot_X9_u1 : GoodIn wsX9_aliquot wsX9_u1 := goodIn_r _ [39, 40, 31, 102, 103, 104, 105, 106, 107, 108, 109, 110, 111, 112, 113, 114, 115, 116, 117, 118, 119, 120, 121] (by decide +kernel) (by decide +kernel)
set_option maxRecDepth 20000 in
theorem gX9_aliquot_X9_u1 : GoodIn wsX9_aliquot (wsV RX9 54 RX9 yX9_u1 wsX9_u1) := goodIn_app (goodIn_of _ (by decide +kernel)) ggX9_aliquot_X9_u1
set_option maxRecDepth 20000 in
theorem ggX9_aliquot_X9_u8 : GoodIn wsX9_aliquot wsX9_u8 := goodIn_r _ [44, 45, 46, 47, 7, 48, 32, 33, 34, 35, 36, 37, 38, 39, 40, 31, 102, 103, 104, 105, 106, 107, 108, 109, 110, 111, 112, 113, 114, 115, 116, 117, 118, 119, 120, 121] (by decide +kernel) (by decide +kernel)
set_option maxRecDepth 20000 in
theorem gX9_aliquot_X9_u8 : GoodIn wsX9_aliquot (wsV RX9 157 RX9 yX9_u8 wsX9_u8) := goodIn_app (goodIn_of _ (by decide +kernel)) ggX9_aliquot_X9_u8
set_option maxRecDepth 20000 in
theorem ggX9_aliquot_X9_acts : GoodIn wsX9_aliquot wsX9_acts := goodIn_r _ [52, 53, 22, 54, 55, 56, 7, 57, 40, 31, 58, 59, 60, 61, 45, 46, 47, 48, 32, 33, 34, 35, 36, 37, 38, 39, 62, 63, 64, 65, 66, 67, 68, 69, 70, 71, 72, 73, 74, 75, 76, 1, 77, 78, 79, 80, 81, 82, 83, 84, 3, 85, 86, 87, 88, 89, 23, 90, 91, 92, 93, 94, 95, 96, 2, 17, 9, 97, 98, 99, 100, 101, 102, 103, 104, 105, 106, 107, 108, 109, 110, 111, 112, 113, 114, 115, 116, 117, 118, 119, 120, 121] (by decide +kernel) (by decide +kernel)
set_option maxRecDepth 20000 in
theorem gX9_aliquot_X9_acts : GoodIn wsX9_aliquot (wsV RX9 161 RX9 yX9_acts wsX9_acts) := goodIn_app (goodIn_of _ (by decide +kernel)) ggX9_aliquot_X9_acts
theorem dX9_aliquot_0 : decode cX9_aliquot 0 = .ok (.aload_n 0, 1) := by decide +kernel
theorem dX9_aliquot_1 : decode cX9_aliquot 1 = .ok (.getfield 77, 3) := by decide +kernel
theorem dX9_aliquot_4 : decode cX9_aliquot 4 = .ok (.ifCond .eq 5, 3) := by decide +kernel
theorem dX9_aliquot_7 : decode cX9_aliquot 7 = .ok (.iconst (-1), 1) := by decide +kernel
theorem dX9_aliquot_8 : decode cX9_aliquot 8 = .ok (.ireturn, 1) := by decide +kernel
theorem dX9_aliquot_9 : decode cX9_aliquot 9 = .ok (.aload_n 0, 1) := by decide +kernel
theorem dX9_aliquot_10 : decode cX9_aliquot 10 = .ok (.iload_n 1, 1) := by decide +kernel
theorem dX9_aliquot_11 : decode cX9_aliquot 11 = .ok (.invokevirtual 165, 3) := by decide +kernel
theorem dX9_aliquot_14 : decode cX9_aliquot 14 = .ok (.ifCond .eq 10, 3) := by decide +kernel
theorem dX9_aliquot_17 : decode cX9_aliquot 17 = .ok (.iload_n 2, 1) := by decide +kernel
theorem dX9_aliquot_18 : decode cX9_aliquot 18 = .ok (.invokestatic 137, 3) := by decide +kernel
theorem dX9_aliquot_21 : decode cX9_aliquot 21 = .ok (.ifCond .ne 6, 3) := by decide +kernel
theorem dX9_aliquot_24 : decode cX9_aliquot 24 = .ok (.bipush (-2), 2) := by decide +kernel
theorem dX9_aliquot_26 : decode cX9_aliquot 26 = .ok (.ireturn, 1) := by decide +kernel
theorem dX9_aliquot_27 : decode cX9_aliquot 27 = .ok (.aload_n 0, 1) := by decide +kernel
theorem dX9_aliquot_28 : decode cX9_aliquot 28 = .ok (.iload_n 2, 1) := by decide +kernel
theorem dX9_aliquot_29 : decode cX9_aliquot 29 = .ok (.invokevirtual 140, 3) := by decide +kernel
theorem dX9_aliquot_32 : decode cX9_aliquot 32 = .ok (.iconst (-1), 1) := by decide +kernel
theorem dX9_aliquot_33 : decode cX9_aliquot 33 = .ok (.if_icmp .eq 6, 3) := by decide +kernel
theorem dX9_aliquot_36 : decode cX9_aliquot 36 = .ok (.bipush (-3), 2) := by decide +kernel
theorem dX9_aliquot_38 : decode cX9_aliquot 38 = .ok (.ireturn, 1) := by decide +kernel
theorem dX9_aliquot_39 : decode cX9_aliquot 39 = .ok (.lload_n 3, 1) := by decide +kernel
theorem dX9_aliquot_40 : decode cX9_aliquot 40 = .ok (.lconst 1, 1) := by decide +kernel
theorem dX9_aliquot_41 : decode cX9_aliquot 41 = .ok (.lcmp, 1) := by decide +kernel
theorem dX9_aliquot_42 : decode cX9_aliquot 42 = .ok (.ifCond .lt 14, 3) := by decide +kernel
theorem dX9_aliquot_45 : decode cX9_aliquot 45 = .ok (.lload_n 3, 1) := by decide +kernel
theorem dX9_aliquot_46 : decode cX9_aliquot 46 = .ok (.aload_n 0, 1) := by decide +kernel
theorem dX9_aliquot_47 : decode cX9_aliquot 47 = .ok (.getfield 24, 3) := by decide +kernel
theorem dX9_aliquot_50 : decode cX9_aliquot 50 = .ok (.iload_n 1, 1) := by decide +kernel
theorem dX9_aliquot_51 : decode cX9_aliquot 51 = .ok (.laload, 1) := by decide +kernel
theorem dX9_aliquot_52 : decode cX9_aliquot 52 = .ok (.lcmp, 1) := by decide +kernel
theorem dX9_aliquot_53 : decode cX9_aliquot 53 = .ok (.ifCond .le 6, 3) := by decide +kernel
theorem dX9_aliquot_56 : decode cX9_aliquot 56 = .ok (.bipush (-4), 2) := by decide +kernel
theorem dX9_aliquot_58 : decode cX9_aliquot 58 = .ok (.ireturn, 1) := by decide +kernel
theorem dX9_aliquot_59 : decode cX9_aliquot 59 = .ok (.aload_n 0, 1) := by decide +kernel
theorem dX9_aliquot_60 : decode cX9_aliquot 60 = .ok (.getfield 115, 3) := by decide +kernel
theorem dX9_aliquot_63 : decode cX9_aliquot 63 = .ok (.bipush 120, 2) := by decide +kernel
theorem dX9_aliquot_65 : decode cX9_aliquot 65 = .ok (.if_icmp .ne 6, 3) := by decide +kernel
theorem dX9_aliquot_68 : decode cX9_aliquot 68 = .ok (.bipush (-5), 2) := by decide +kernel
theorem dX9_aliquot_70 : decode cX9_aliquot 70 = .ok (.ireturn, 1) := by decide +kernel
theorem dX9_aliquot_71 : decode cX9_aliquot 71 = .ok (.aload_n 0, 1) := by decide +kernel
theorem dX9_aliquot_72 : decode cX9_aliquot 72 = .ok (.iconst 2, 1) := by decide +kernel
theorem dX9_aliquot_73 : decode cX9_aliquot 73 = .ok (.invokevirtual 151, 3) := by decide +kernel
theorem dX9_aliquot_76 : decode cX9_aliquot 76 = .ok (.ifCond .ne 6, 3) := by decide +kernel
theorem dX9_aliquot_79 : decode cX9_aliquot 79 = .ok (.bipush (-6), 2) := by decide +kernel
theorem dX9_aliquot_81 : decode cX9_aliquot 81 = .ok (.ireturn, 1) := by decide +kernel
theorem dX9_aliquot_82 : decode cX9_aliquot 82 = .ok (.aload_n 0, 1) := by decide +kernel
theorem dX9_aliquot_83 : decode cX9_aliquot 83 = .ok (.iconst 2, 1) := by decide +kernel
theorem dX9_aliquot_84 : decode cX9_aliquot 84 = .ok (.invokevirtual 154, 3) := by decide +kernel
theorem dX9_aliquot_87 : decode cX9_aliquot 87 = .ok (.aload_n 0, 1) := by decide +kernel
theorem dX9_aliquot_88 : decode cX9_aliquot 88 = .ok (.iload_n 1, 1) := by decide +kernel
theorem dX9_aliquot_89 : decode cX9_aliquot 89 = .ok (.invokevirtual 63, 3) := by decide +kernel
theorem dX9_aliquot_92 : decode cX9_aliquot 92 = .ok (.aload_n 0, 1) := by decide +kernel
theorem dX9_aliquot_93 : decode cX9_aliquot 93 = .ok (.iload_n 2, 1) := by decide +kernel
theorem dX9_aliquot_94 : decode cX9_aliquot 94 = .ok (.invokevirtual 54, 3) := by decide +kernel
theorem dX9_aliquot_97 : decode cX9_aliquot 97 = .ok (.aload_n 0, 1) := by decide +kernel
theorem dX9_aliquot_98 : decode cX9_aliquot 98 = .ok (.lload_n 3, 1) := by decide +kernel
theorem dX9_aliquot_99 : decode cX9_aliquot 99 = .ok (.invokevirtual 157, 3) := by decide +kernel
theorem dX9_aliquot_102 : decode cX9_aliquot 102 = .ok (.aload_n 0, 1) := by decide +kernel
theorem dX9_aliquot_103 : decode cX9_aliquot 103 = .ok (.invokevirtual 161, 3) := by decide +kernel
theorem dX9_aliquot_106 : decode cX9_aliquot 106 = .ok (.ifCond .eq 10, 3) := by decide +kernel
theorem dX9_aliquot_109 : decode cX9_aliquot 109 = .ok (.aload_n 0, 1) := by decide +kernel
theorem dX9_aliquot_110 : decode cX9_aliquot 110 = .ok (.getfield 115, 3) := by decide +kernel
theorem dX9_aliquot_113 : decode cX9_aliquot 113 = .ok (.goto 4, 3) := by decide +kernel
theorem dX9_aliquot_116 : decode cX9_aliquot 116 = .ok (.iconst (-1), 1) := by decide +kernel
theorem dX9_aliquot_117 : decode cX9_aliquot 117 = .ok (.ireturn, 1) := by decide +kernel
set_option maxRecDepth 20000 in
theorem ggX9_move_X9_isLive : GoodIn wsX9_move wsX9_isLive := goodIn_r _ [6, 7, 8, 98, 99, 100, 101, 102, 103, 104, 105, 106, 107, 108, 109, 110, 111, 112, 113, 114, 115, 116, 117] (by decide +kernel) (by decide +kernel)
set_option maxRecDepth 20000 in
theorem gX9_move_X9_isLive : GoodIn wsX9_move (wsV RX9 165 RX9 yX9_isLive wsX9_isLive) := goodIn_app (goodIn_of _ (by decide +kernel)) ggX9_move_X9_isLive
set_option maxRecDepth 20000 in
theorem ggX9_move_X9_isWell : GoodIn wsX9_move wsX9_isWell := goodIn_r _ [11] (by decide +kernel) (by decide +kernel)
set_option maxRecDepth 20000 in
theorem gX9_move_X9_isWell : GoodIn wsX9_move (va_wsS RX9 137 yX9_isWell wsX9_isWell) := goodIn_app (goodIn_of _ (by decide +kernel)) ggX9_move_X9_isWell
set_option maxRecDepth 20000 in
theorem ggX9_move_X9_liveIn : GoodIn wsX9_move wsX9_liveIn := goodIn_r _ [15, 7, 8, 16, 98, 99, 100, 101, 102, 103, 104, 105, 106, 107, 108, 109, 110, 111, 112, 113, 114, 115, 116, 117] (by decide +kernel) (by decide +kernel)
set_option maxRecDepth 20000 in
theorem gX9_move_X9_liveIn : GoodIn wsX9_move (wsV RX9 140 RX9 yX9_liveIn wsX9_liveIn) := goodIn_app (goodIn_of _ (by decide +kernel)) ggX9_move_X9_liveIn
set_option maxRecDepth 20000 in
theorem ggX9_move_X9_hasRoom : GoodIn wsX9_move wsX9_hasRoom := goodIn_r _ [20, 21, 22, 23, 24, 5, 25, 98, 99, 100, 101, 102, 103, 104, 105, 106, 107, 108, 109, 110, 111, 112, 113, 114, 115, 116, 117] (by decide +kernel) (by decide +kernel)
set_option maxRecDepth 20000 in
theorem gX9_move_X9_hasRoom : GoodIn wsX9_move (wsV RX9 151 RX9 yX9_hasRoom wsX9_hasRoom) := goodIn_app (goodIn_of _ (by decide +kernel)) ggX9_move_X9_hasRoom
set_option maxRecDepth 20000 in
theorem ggX9_move_X9_begin : GoodIn wsX9_move wsX9_begin := goodIn_r _ [29, 30, 23, 24, 5, 25, 31, 32, 33, 34, 35, 36, 37, 38, 39, 98, 99, 100, 101, 102, 103, 104, 105, 106, 107, 108, 109, 110, 111, 112, 113, 114, 115, 116, 117] (by decide +kernel) (by decide +kernel)
set_option maxRecDepth 20000 in
theorem gX9_move_X9_begin : GoodIn wsX9_move (wsV RX9 154 RX9 yX9_begin wsX9_begin) := goodIn_app (goodIn_of _ (by decide +kernel)) ggX9_move_X9_begin
set_option maxRecDepth 20000 in
theorem ggX9_move_X9_u2 : GoodIn wsX9_move wsX9_u2 := goodIn_r _ [34, 35, 36, 37, 5, 38, 39, 30, 98, 99, 100, 101, 102, 103, 104, 105, 106, 107, 108, 109, 110, 111, 112, 113, 114, 115, 116, 117] (by decide +kernel) (by decide +kernel)
set_option maxRecDepth 20000 in
theorem gX9_move_X9_u2 : GoodIn wsX9_move (wsV RX9 63 RX9 yX9_u2 wsX9_u2) := goodIn_app (goodIn_of _ (by decide +kernel)) ggX9_move_X9_u2
set_option maxRecDepth 20000 in
theorem ggX9_move_X9_u1 : GoodIn wsX9_move wsX9_u1 := goodIn_r _ [38, 39, 30, 98, 99, 100, 101, 102, 103, 104, 105, 106, 107, 108, 109, 110, 111, 112, 113, 114, 115, 116, 117] (by decide +kernel) (by decide +kernel)
set_option maxRecDepth 20000 in
theorem gX9_move_X9_u1 : GoodIn wsX9_move (wsV RX9 54 RX9 yX9_u1 wsX9_u1) := goodIn_app (goodIn_of _ (by decide +kernel)) ggX9_move_X9_u1
set_option maxRecDepth 20000 in
theorem ggX9_move_X9_acts : GoodIn wsX9_move wsX9_acts := goodIn_r _ [43, 44, 21, 45, 46, 47, 5, 48, 39, 30, 49, 50, 51, 52, 53, 54, 55, 56, 31, 32, 33, 34, 35, 36, 37, 38, 57, 58, 59, 60, 61, 62, 63, 64, 65, 66, 67, 68, 69, 70, 71, 1, 72, 73, 74, 75, 76, 77, 78, 79, 7, 80, 81, 82, 83, 84, 22, 85, 86, 87, 88, 89, 90, 91, 92, 16, 8, 93, 94, 95, 96, 97, 98, 99, 100, 101, 102, 103, 104, 105, 106, 107, 108, 109, 110, 111, 112, 113, 114, 115, 116, 117] (by decide +kernel) (by decide +kernel)
set_option maxRecDepth 20000 in
theorem gX9_move_X9_acts : GoodIn wsX9_move (wsV RX9 161 RX9 yX9_acts wsX9_acts) := goodIn_app (goodIn_of _ (by decide +kernel)) ggX9_move_X9_acts
theorem dX9_move_0 : decode cX9_move 0 = .ok (.aload_n 0, 1) := by decide +kernel
theorem dX9_move_1 : decode cX9_move 1 = .ok (.getfield 77, 3) := by decide +kernel
theorem dX9_move_4 : decode cX9_move 4 = .ok (.ifCond .eq 5, 3) := by decide +kernel
theorem dX9_move_7 : decode cX9_move 7 = .ok (.iconst (-1), 1) := by decide +kernel
theorem dX9_move_8 : decode cX9_move 8 = .ok (.ireturn, 1) := by decide +kernel
theorem dX9_move_9 : decode cX9_move 9 = .ok (.aload_n 0, 1) := by decide +kernel
theorem dX9_move_10 : decode cX9_move 10 = .ok (.iload_n 1, 1) := by decide +kernel
theorem dX9_move_11 : decode cX9_move 11 = .ok (.invokevirtual 165, 3) := by decide +kernel
theorem dX9_move_14 : decode cX9_move 14 = .ok (.ifCond .eq 10, 3) := by decide +kernel
theorem dX9_move_17 : decode cX9_move 17 = .ok (.iload_n 2, 1) := by decide +kernel
theorem dX9_move_18 : decode cX9_move 18 = .ok (.invokestatic 137, 3) := by decide +kernel
theorem dX9_move_21 : decode cX9_move 21 = .ok (.ifCond .ne 6, 3) := by decide +kernel
theorem dX9_move_24 : decode cX9_move 24 = .ok (.bipush (-2), 2) := by decide +kernel
theorem dX9_move_26 : decode cX9_move 26 = .ok (.ireturn, 1) := by decide +kernel
theorem dX9_move_27 : decode cX9_move 27 = .ok (.aload_n 0, 1) := by decide +kernel
theorem dX9_move_28 : decode cX9_move 28 = .ok (.iload_n 2, 1) := by decide +kernel
theorem dX9_move_29 : decode cX9_move 29 = .ok (.invokevirtual 140, 3) := by decide +kernel
theorem dX9_move_32 : decode cX9_move 32 = .ok (.iconst (-1), 1) := by decide +kernel
theorem dX9_move_33 : decode cX9_move 33 = .ok (.if_icmp .eq 6, 3) := by decide +kernel
theorem dX9_move_36 : decode cX9_move 36 = .ok (.bipush (-3), 2) := by decide +kernel
theorem dX9_move_38 : decode cX9_move 38 = .ok (.ireturn, 1) := by decide +kernel
theorem dX9_move_39 : decode cX9_move 39 = .ok (.aload_n 0, 1) := by decide +kernel
theorem dX9_move_40 : decode cX9_move 40 = .ok (.iconst 3, 1) := by decide +kernel
theorem dX9_move_41 : decode cX9_move 41 = .ok (.invokevirtual 151, 3) := by decide +kernel
theorem dX9_move_44 : decode cX9_move 44 = .ok (.ifCond .ne 6, 3) := by decide +kernel
theorem dX9_move_47 : decode cX9_move 47 = .ok (.bipush (-6), 2) := by decide +kernel
theorem dX9_move_49 : decode cX9_move 49 = .ok (.ireturn, 1) := by decide +kernel
theorem dX9_move_50 : decode cX9_move 50 = .ok (.aload_n 0, 1) := by decide +kernel
theorem dX9_move_51 : decode cX9_move 51 = .ok (.iconst 3, 1) := by decide +kernel
theorem dX9_move_52 : decode cX9_move 52 = .ok (.invokevirtual 154, 3) := by decide +kernel
theorem dX9_move_55 : decode cX9_move 55 = .ok (.aload_n 0, 1) := by decide +kernel
theorem dX9_move_56 : decode cX9_move 56 = .ok (.iload_n 1, 1) := by decide +kernel
theorem dX9_move_57 : decode cX9_move 57 = .ok (.invokevirtual 63, 3) := by decide +kernel
theorem dX9_move_60 : decode cX9_move 60 = .ok (.aload_n 0, 1) := by decide +kernel
theorem dX9_move_61 : decode cX9_move 61 = .ok (.iload_n 2, 1) := by decide +kernel
theorem dX9_move_62 : decode cX9_move 62 = .ok (.invokevirtual 54, 3) := by decide +kernel
theorem dX9_move_65 : decode cX9_move 65 = .ok (.aload_n 0, 1) := by decide +kernel
theorem dX9_move_66 : decode cX9_move 66 = .ok (.invokevirtual 161, 3) := by decide +kernel
theorem dX9_move_69 : decode cX9_move 69 = .ok (.ifCond .eq 7, 3) := by decide +kernel
theorem dX9_move_72 : decode cX9_move 72 = .ok (.iconst 0, 1) := by decide +kernel
theorem dX9_move_73 : decode cX9_move 73 = .ok (.goto 4, 3) := by decide +kernel
theorem dX9_move_76 : decode cX9_move 76 = .ok (.iconst (-1), 1) := by decide +kernel
theorem dX9_move_77 : decode cX9_move 77 = .ok (.ireturn, 1) := by decide +kernel
set_option maxRecDepth 20000 in
theorem ggX9_discard_X9_isLive : GoodIn wsX9_discard wsX9_isLive := goodIn_r _ [6, 7, 8, 91, 92, 93, 94, 95, 96, 97, 98, 99, 100, 101, 102, 103, 104, 105, 106, 107, 108, 109, 110] (by decide +kernel) (by decide +kernel)
set_option maxRecDepth 20000 in
theorem gX9_discard_X9_isLive : GoodIn wsX9_discard (wsV RX9 165 RX9 yX9_isLive wsX9_isLive) := goodIn_app (goodIn_of _ (by decide +kernel)) ggX9_discard_X9_isLive
set_option maxRecDepth 20000 in
theorem ggX9_discard_X9_hasRoom : GoodIn wsX9_discard wsX9_hasRoom := goodIn_r _ [12, 13, 14, 15, 16, 5, 17, 91, 92, 93, 94, 95, 96, 97, 98, 99, 100, 101, 102, 103, 104, 105, 106, 107, 108, 109, 110] (by decide +kernel) (by decide +kernel)
set_option maxRecDepth 20000 in
theorem gX9_discard_X9_hasRoom : GoodIn wsX9_discard (wsV RX9 151 RX9 yX9_hasRoom wsX9_hasRoom) := goodIn_app (goodIn_of _ (by decide +kernel)) ggX9_discard_X9_hasRoom
set_option maxRecDepth 20000 in
theorem ggX9_discard_X9_begin : GoodIn wsX9_discard wsX9_begin := goodIn_r _ [21, 22, 15, 16, 5, 17, 23, 24, 25, 26, 27, 28, 29, 30, 31, 91, 92, 93, 94, 95, 96, 97, 98, 99, 100, 101, 102, 103, 104, 105, 106, 107, 108, 109, 110] (by decide +kernel) (by decide +kernel)
set_option maxRecDepth 20000 in
theorem gX9_discard_X9_begin : GoodIn wsX9_discard (wsV RX9 154 RX9 yX9_begin wsX9_begin) := goodIn_app (goodIn_of _ (by decide +kernel)) ggX9_discard_X9_begin
set_option maxRecDepth 20000 in
theorem ggX9_discard_X9_u2 : GoodIn wsX9_discard wsX9_u2 := goodIn_r _ [26, 27, 28, 29, 5, 30, 31, 22, 91, 92, 93, 94, 95, 96, 97, 98, 99, 100, 101, 102, 103, 104, 105, 106, 107, 108, 109, 110] (by decide +kernel) (by decide +kernel)
set_option maxRecDepth 20000 in
theorem gX9_discard_X9_u2 : GoodIn wsX9_discard (wsV RX9 63 RX9 yX9_u2 wsX9_u2) := goodIn_app (goodIn_of _ (by decide +kernel)) ggX9_discard_X9_u2
set_option maxRecDepth 20000 in
theorem ggX9_discard_X9_acts : GoodIn wsX9_discard wsX9_acts := goodIn_r _ [35, 36, 13, 37, 38, 39, 5, 40, 31, 22, 41, 42, 43, 44, 45, 46, 47, 48, 23, 24, 25, 26, 27, 28, 29, 30, 49, 50, 51, 52, 53, 54, 55, 56, 57, 58, 59, 60, 61, 62, 63, 1, 64, 65, 66, 67, 68, 69, 70, 71, 7, 72, 73, 74, 75, 76, 14, 77, 78, 79, 80, 81, 82, 83, 84, 85, 8, 86, 87, 88, 89, 90, 91, 92, 93, 94, 95, 96, 97, 98, 99, 100, 101, 102, 103, 104, 105, 106, 107, 108, 109, 110] (by decide +kernel) (by decide +kernel)
set_option maxRecDepth 20000 in
theorem gX9_discard_X9_acts : GoodIn wsX9_discard (wsV RX9 161 RX9 yX9_acts wsX9_acts) := goodIn_app (goodIn_of _ (by decide +kernel)) ggX9_discard_X9_acts
theorem dX9_discard_0 : decode cX9_discard 0 = .ok (.aload_n 0, 1) := by decide +kernel
theorem dX9_discard_1 : decode cX9_discard 1 = .ok (.getfield 77, 3) := by decide +kernel
theorem dX9_discard_4 : decode cX9_discard 4 = .ok (.ifCond .eq 5, 3) := by decide +kernel
theorem dX9_discard_7 : decode cX9_discard 7 = .ok (.iconst (-1), 1) := by decide +kernel
theorem dX9_discard_8 : decode cX9_discard 8 = .ok (.ireturn, 1) := by decide +kernel
theorem dX9_discard_9 : decode cX9_discard 9 = .ok (.aload_n 0, 1) := by decide +kernel
theorem dX9_discard_10 : decode cX9_discard 10 = .ok (.iload_n 1, 1) := by decide +kernel
theorem dX9_discard_11 : decode cX9_discard 11 = .ok (.invokevirtual 165, 3) := by decide +kernel
theorem dX9_discard_14 : decode cX9_discard 14 = .ok (.ifCond .ne 6, 3) := by decide +kernel
theorem dX9_discard_17 : decode cX9_discard 17 = .ok (.bipush (-2), 2) := by decide +kernel
theorem dX9_discard_19 : decode cX9_discard 19 = .ok (.ireturn, 1) := by decide +kernel
theorem dX9_discard_20 : decode cX9_discard 20 = .ok (.aload_n 0, 1) := by decide +kernel
theorem dX9_discard_21 : decode cX9_discard 21 = .ok (.iconst 4, 1) := by decide +kernel
theorem dX9_discard_22 : decode cX9_discard 22 = .ok (.invokevirtual 151, 3) := by decide +kernel
theorem dX9_discard_25 : decode cX9_discard 25 = .ok (.ifCond .ne 6, 3) := by decide +kernel
theorem dX9_discard_28 : decode cX9_discard 28 = .ok (.bipush (-6), 2) := by decide +kernel
theorem dX9_discard_30 : decode cX9_discard 30 = .ok (.ireturn, 1) := by decide +kernel
theorem dX9_discard_31 : decode cX9_discard 31 = .ok (.aload_n 0, 1) := by decide +kernel
theorem dX9_discard_32 : decode cX9_discard 32 = .ok (.iconst 4, 1) := by decide +kernel
theorem dX9_discard_33 : decode cX9_discard 33 = .ok (.invokevirtual 154, 3) := by decide +kernel
theorem dX9_discard_36 : decode cX9_discard 36 = .ok (.aload_n 0, 1) := by decide +kernel
theorem dX9_discard_37 : decode cX9_discard 37 = .ok (.iload_n 1, 1) := by decide +kernel
theorem dX9_discard_38 : decode cX9_discard 38 = .ok (.invokevirtual 63, 3) := by decide +kernel
theorem dX9_discard_41 : decode cX9_discard 41 = .ok (.aload_n 0, 1) := by decide +kernel
theorem dX9_discard_42 : decode cX9_discard 42 = .ok (.invokevirtual 161, 3) := by decide +kernel
theorem dX9_discard_45 : decode cX9_discard 45 = .ok (.ifCond .eq 7, 3) := by decide +kernel
theorem dX9_discard_48 : decode cX9_discard 48 = .ok (.iconst 0, 1) := by decide +kernel
theorem dX9_discard_49 : decode cX9_discard 49 = .ok (.goto 4, 3) := by decide +kernel
theorem dX9_discard_52 : decode cX9_discard 52 = .ok (.iconst (-1), 1) := by decide +kernel
theorem dX9_discard_53 : decode cX9_discard 53 = .ok (.ireturn, 1) := by decide +kernel
set_option maxRecDepth 20000 in
theorem ggX9_undo_X9_hasRoom : GoodIn wsX9_undo wsX9_hasRoom := goodIn_r _ [7, 8, 9, 10, 11, 6, 12, 87, 88, 89, 90, 91, 92, 93, 94, 95, 96, 97, 98, 99, 100, 101, 102, 103, 104, 105, 106] (by decide +kernel) (by decide +kernel)
set_option maxRecDepth 20000 in
theorem gX9_undo_X9_hasRoom : GoodIn wsX9_undo (wsV RX9 151 RX9 yX9_hasRoom wsX9_hasRoom) := goodIn_app (goodIn_of _ (by decide +kernel)) ggX9_undo_X9_hasRoom
set_option maxRecDepth 20000 in
theorem ggX9_undo_X9_begin : GoodIn wsX9_undo wsX9_begin := goodIn_r _ [16, 17, 10, 11, 6, 12, 18, 19, 20, 21, 22, 23, 24, 25, 26, 87, 88, 89, 90, 91, 92, 93, 94, 95, 96, 97, 98, 99, 100, 101, 102, 103, 104, 105, 106] (by decide +kernel) (by decide +kernel)
set_option maxRecDepth 20000 in
theorem gX9_undo_X9_begin : GoodIn wsX9_undo (wsV RX9 154 RX9 yX9_begin wsX9_begin) := goodIn_app (goodIn_of _ (by decide +kernel)) ggX9_undo_X9_begin
set_option maxRecDepth 20000 in
theorem ggX9_undo_X9_acts : GoodIn wsX9_undo wsX9_acts := goodIn_r _ [30, 31, 8, 32, 33, 34, 6, 35, 26, 17, 36, 37, 38, 39, 40, 41, 42, 43, 18, 19, 20, 21, 22, 23, 24, 25, 44, 45, 46, 47, 48, 49, 50, 51, 52, 53, 54, 55, 56, 57, 58, 1, 59, 60, 61, 62, 63, 64, 2, 65, 66, 67, 68, 69, 70, 71, 9, 72, 73, 74, 75, 76, 77, 78, 79, 80, 81, 82, 83, 84, 85, 86, 87, 88, 89, 90, 91, 92, 93, 94, 95, 96, 97, 98, 99, 100, 101, 102, 103, 104, 105, 106] (by decide +kernel) (by decide +kernel)
set_option maxRecDepth 20000 in
theorem gX9_undo_X9_acts : GoodIn wsX9_undo (wsV RX9 161 RX9 yX9_acts wsX9_acts) := goodIn_app (goodIn_of _ (by decide +kernel)) ggX9_undo_X9_acts
theorem dX9_undo_0 : decode cX9_undo 0 = .ok (.aload_n 0, 1) := by decide +kernel
theorem dX9_undo_1 : decode cX9_undo 1 = .ok (.getfield 77, 3) := by decide +kernel
