theorem dX0_init_0 : decode cX0_init 0 = .ok (.aload_n 0, 1) := by decide +kernel
theorem dX0_init_1 : decode cX0_init 1 = .ok (.invokespecial 3, 3) := by decide +kernel
theorem dX0_init_4 : decode cX0_init 4 = .ok (.aload_n 0, 1) := by decide +kernel
theorem dX0_init_5 : decode cX0_init 5 = .ok (.iconst 0, 1) := by decide +kernel
theorem dX0_init_6 : decode cX0_init 6 = .ok (.iload_n 1, 1) := by decide +kernel
theorem dX0_init_7 : decode cX0_init 7 = .ok (.invokestatic 9, 3) := by decide +kernel
theorem dX0_init_10 : decode cX0_init 10 = .ok (.newarray .byte, 2) := by decide +kernel
theorem dX0_init_12 : decode cX0_init 12 = .ok (.putfield 15, 3) := by decide +kernel
theorem dX0_init_15 : decode cX0_init 15 = .ok (.return_, 1) := by decide +kernel
theorem dX0_size_0 : decode cX0_size 0 = .ok (.aload_n 0, 1) := by decide +kernel
theorem dX0_size_1 : decode cX0_size 1 = .ok (.getfield 15, 3) := by decide +kernel
theorem dX0_size_4 : decode cX0_size 4 = .ok (.arraylength, 1) := by decide +kernel
theorem dX0_size_5 : decode cX0_size 5 = .ok (.ireturn, 1) := by decide +kernel
theorem dX0_at_0 : decode cX0_at 0 = .ok (.iload_n 1, 1) := by decide +kernel
theorem dX0_at_1 : decode cX0_at 1 = .ok (.ifCond .lt 25, 3) := by decide +kernel
theorem dX0_at_4 : decode cX0_at 4 = .ok (.iload_n 1, 1) := by decide +kernel
theorem dX0_at_5 : decode cX0_at 5 = .ok (.aload_n 0, 1) := by decide +kernel
theorem dX0_at_6 : decode cX0_at 6 = .ok (.getfield 15, 3) := by decide +kernel
theorem dX0_at_9 : decode cX0_at 9 = .ok (.arraylength, 1) := by decide +kernel
theorem dX0_at_10 : decode cX0_at 10 = .ok (.if_icmp .ge 16, 3) := by decide +kernel
theorem dX0_at_13 : decode cX0_at 13 = .ok (.aload_n 0, 1) := by decide +kernel
theorem dX0_at_14 : decode cX0_at 14 = .ok (.getfield 15, 3) := by decide +kernel
theorem dX0_at_17 : decode cX0_at 17 = .ok (.iload_n 1, 1) := by decide +kernel
theorem dX0_at_18 : decode cX0_at 18 = .ok (.baload, 1) := by decide +kernel
theorem dX0_at_19 : decode cX0_at 19 = .ok (.sipush 255, 3) := by decide +kernel
theorem dX0_at_22 : decode cX0_at 22 = .ok (.iand, 1) := by decide +kernel
theorem dX0_at_23 : decode cX0_at 23 = .ok (.goto 4, 3) := by decide +kernel
theorem dX0_at_26 : decode cX0_at 26 = .ok (.iconst (-1), 1) := by decide +kernel
theorem dX0_at_27 : decode cX0_at 27 = .ok (.ireturn, 1) := by decide +kernel
theorem dX0_put_0 : decode cX0_put 0 = .ok (.iload_n 1, 1) := by decide +kernel
theorem dX0_put_1 : decode cX0_put 1 = .ok (.ifCond .lt 20, 3) := by decide +kernel
theorem dX0_put_4 : decode cX0_put 4 = .ok (.iload_n 1, 1) := by decide +kernel
theorem dX0_put_5 : decode cX0_put 5 = .ok (.aload_n 0, 1) := by decide +kernel
theorem dX0_put_6 : decode cX0_put 6 = .ok (.getfield 15, 3) := by decide +kernel
theorem dX0_put_9 : decode cX0_put 9 = .ok (.arraylength, 1) := by decide +kernel
theorem dX0_put_10 : decode cX0_put 10 = .ok (.if_icmp .ge 11, 3) := by decide +kernel
theorem dX0_put_13 : decode cX0_put 13 = .ok (.aload_n 0, 1) := by decide +kernel
theorem dX0_put_14 : decode cX0_put 14 = .ok (.getfield 15, 3) := by decide +kernel
theorem dX0_put_17 : decode cX0_put 17 = .ok (.iload_n 1, 1) := by decide +kernel
theorem dX0_put_18 : decode cX0_put 18 = .ok (.iload_n 2, 1) := by decide +kernel
theorem dX0_put_19 : decode cX0_put 19 = .ok (.i2b, 1) := by decide +kernel
theorem dX0_put_20 : decode cX0_put 20 = .ok (.bastore, 1) := by decide +kernel
theorem dX0_put_21 : decode cX0_put 21 = .ok (.return_, 1) := by decide +kernel
set_option maxRecDepth 20000 in
theorem ggX0_number_X0_at : GoodIn wsX0_number wsX0_at := goodIn_r _ [5, 6, 7] (by decide +kernel) (by decide +kernel)
set_option maxRecDepth 20000 in
theorem gX0_number_X0_at : GoodIn wsX0_number (wsV RX0 21 RX0 yX0_at wsX0_at) := goodIn_app (goodIn_of _ (by decide +kernel)) ggX0_number_X0_at
theorem dX0_number_0 : decode cX0_number 0 = .ok (.lconst 0, 1) := by decide +kernel
theorem dX0_number_1 : decode cX0_number 1 = .ok (.lstore_n 3, 1) := by decide +kernel
theorem dX0_number_2 : decode cX0_number 2 = .ok (.iconst 0, 1) := by decide +kernel
theorem dX0_number_3 : decode cX0_number 3 = .ok (.istore 5, 2) := by decide +kernel
theorem dX0_number_5 : decode cX0_number 5 = .ok (.iload 5, 2) := by decide +kernel
theorem dX0_number_7 : decode cX0_number 7 = .ok (.iload_n 2, 1) := by decide +kernel
theorem dX0_number_8 : decode cX0_number 8 = .ok (.if_icmp .ge 28, 3) := by decide +kernel
theorem dX0_number_11 : decode cX0_number 11 = .ok (.lload_n 3, 1) := by decide +kernel
theorem dX0_number_12 : decode cX0_number 12 = .ok (.bipush 8, 2) := by decide +kernel
theorem dX0_number_14 : decode cX0_number 14 = .ok (.lshl, 1) := by decide +kernel
theorem dX0_number_15 : decode cX0_number 15 = .ok (.aload_n 0, 1) := by decide +kernel
theorem dX0_number_16 : decode cX0_number 16 = .ok (.iload_n 1, 1) := by decide +kernel
theorem dX0_number_17 : decode cX0_number 17 = .ok (.iload 5, 2) := by decide +kernel
theorem dX0_number_19 : decode cX0_number 19 = .ok (.iadd, 1) := by decide +kernel
theorem dX0_number_20 : decode cX0_number 20 = .ok (.invokevirtual 21, 3) := by decide +kernel
theorem dX0_number_23 : decode cX0_number 23 = .ok (.sipush 255, 3) := by decide +kernel
theorem dX0_number_26 : decode cX0_number 26 = .ok (.iand, 1) := by decide +kernel
theorem dX0_number_27 : decode cX0_number 27 = .ok (.i2l, 1) := by decide +kernel
theorem dX0_number_28 : decode cX0_number 28 = .ok (.lor, 1) := by decide +kernel
theorem dX0_number_29 : decode cX0_number 29 = .ok (.lstore_n 3, 1) := by decide +kernel
theorem dX0_number_30 : decode cX0_number 30 = .ok (.iinc 5 1, 3) := by decide +kernel
theorem dX0_number_33 : decode cX0_number 33 = .ok (.goto (-28), 3) := by decide +kernel
theorem dX0_number_36 : decode cX0_number 36 = .ok (.lload_n 3, 1) := by decide +kernel
theorem dX0_number_37 : decode cX0_number 37 = .ok (.lreturn, 1) := by decide +kernel
set_option maxRecDepth 20000 in
theorem ggX0_hasRightHead_X0_isClosedRight : GoodIn wsX0_hasRightHead wsX0_isClosedRight := goodIn_r _ [5, 6, 7, 8, 4, 9, 10, 11, 12, 13, 14, 15, 16, 17, 18, 19, 20, 21, 22, 23] (by decide +kernel) (by decide +kernel)
set_option maxRecDepth 20000 in
theorem gX0_hasRightHead_X0_isClosedRight : GoodIn wsX0_hasRightHead (wsV RX0 25 RX0 yX0_isClosedRight wsX0_isClosedRight) := goodIn_app (goodIn_of _ (by decide +kernel)) ggX0_hasRightHead_X0_isClosedRight
theorem dX0_hasRightHead_0 : decode cX0_hasRightHead 0 = .ok (.aload_n 0, 1) := by decide +kernel
theorem dX0_hasRightHead_1 : decode cX0_hasRightHead 1 = .ok (.iconst 0, 1) := by decide +kernel
theorem dX0_hasRightHead_2 : decode cX0_hasRightHead 2 = .ok (.bipush 9, 2) := by decide +kernel
theorem dX0_hasRightHead_4 : decode cX0_hasRightHead 4 = .ok (.invokevirtual 25, 3) := by decide +kernel
theorem dX0_hasRightHead_7 : decode cX0_hasRightHead 7 = .ok (.ireturn, 1) := by decide +kernel
set_option maxRecDepth 20000 in
theorem ggX0_wholeRecordAt_X0_number : GoodIn wsX0_wholeRecordAt wsX0_number := goodIn_r _ [6, 7, 8, 9, 5, 10, 1, 23] (by decide +kernel) (by decide +kernel)
set_option maxRecDepth 20000 in
theorem gX0_wholeRecordAt_X0_number : GoodIn wsX0_wholeRecordAt (wsV RX0 29 RX0 yX0_number wsX0_number) := goodIn_app (goodIn_of _ (by decide +kernel)) ggX0_wholeRecordAt_X0_number
set_option maxRecDepth 20000 in
theorem ggX0_wholeRecordAt_X0_isClosedRight : GoodIn wsX0_wholeRecordAt wsX0_isClosedRight := goodIn_r _ [14, 7, 8, 9, 5, 10, 1, 15, 16, 17, 18, 19, 2, 3, 4, 6, 20, 21, 22, 23] (by decide +kernel) (by decide +kernel)
set_option maxRecDepth 20000 in
theorem gX0_wholeRecordAt_X0_isClosedRight : GoodIn wsX0_wholeRecordAt (wsV RX0 25 RX0 yX0_isClosedRight wsX0_isClosedRight) := goodIn_app (goodIn_of _ (by decide +kernel)) ggX0_wholeRecordAt_X0_isClosedRight
theorem dX0_wholeRecordAt_0 : decode cX0_wholeRecordAt 0 = .ok (.aload_n 0, 1) := by decide +kernel
theorem dX0_wholeRecordAt_1 : decode cX0_wholeRecordAt 1 = .ok (.iload_n 1, 1) := by decide +kernel
theorem dX0_wholeRecordAt_2 : decode cX0_wholeRecordAt 2 = .ok (.iconst 2, 1) := by decide +kernel
theorem dX0_wholeRecordAt_3 : decode cX0_wholeRecordAt 3 = .ok (.invokevirtual 29, 3) := by decide +kernel
theorem dX0_wholeRecordAt_6 : decode cX0_wholeRecordAt 6 = .ok (.l2i, 1) := by decide +kernel
theorem dX0_wholeRecordAt_7 : decode cX0_wholeRecordAt 7 = .ok (.istore_n 2, 1) := by decide +kernel
theorem dX0_wholeRecordAt_8 : decode cX0_wholeRecordAt 8 = .ok (.iload_n 2, 1) := by decide +kernel
theorem dX0_wholeRecordAt_9 : decode cX0_wholeRecordAt 9 = .ok (.bipush 8, 2) := by decide +kernel
theorem dX0_wholeRecordAt_11 : decode cX0_wholeRecordAt 11 = .ok (.if_icmp .lt 18, 3) := by decide +kernel
theorem dX0_wholeRecordAt_14 : decode cX0_wholeRecordAt 14 = .ok (.iload_n 2, 1) := by decide +kernel
theorem dX0_wholeRecordAt_15 : decode cX0_wholeRecordAt 15 = .ok (.aload_n 0, 1) := by decide +kernel
theorem dX0_wholeRecordAt_16 : decode cX0_wholeRecordAt 16 = .ok (.getfield 15, 3) := by decide +kernel
theorem dX0_wholeRecordAt_19 : decode cX0_wholeRecordAt 19 = .ok (.arraylength, 1) := by decide +kernel
theorem dX0_wholeRecordAt_20 : decode cX0_wholeRecordAt 20 = .ok (.iload_n 1, 1) := by decide +kernel
theorem dX0_wholeRecordAt_21 : decode cX0_wholeRecordAt 21 = .ok (.isub, 1) := by decide +kernel
theorem dX0_wholeRecordAt_22 : decode cX0_wholeRecordAt 22 = .ok (.if_icmp .gt 7, 3) := by decide +kernel
theorem dX0_wholeRecordAt_25 : decode cX0_wholeRecordAt 25 = .ok (.iconst 1, 1) := by decide +kernel
theorem dX0_wholeRecordAt_26 : decode cX0_wholeRecordAt 26 = .ok (.goto 4, 3) := by decide +kernel
theorem dX0_wholeRecordAt_29 : decode cX0_wholeRecordAt 29 = .ok (.iconst 0, 1) := by decide +kernel
theorem dX0_wholeRecordAt_30 : decode cX0_wholeRecordAt 30 = .ok (.istore_n 3, 1) := by decide +kernel
theorem dX0_wholeRecordAt_31 : decode cX0_wholeRecordAt 31 = .ok (.iload_n 3, 1) := by decide +kernel
theorem dX0_wholeRecordAt_32 : decode cX0_wholeRecordAt 32 = .ok (.ifCond .eq 16, 3) := by decide +kernel
theorem dX0_wholeRecordAt_35 : decode cX0_wholeRecordAt 35 = .ok (.aload_n 0, 1) := by decide +kernel
theorem dX0_wholeRecordAt_36 : decode cX0_wholeRecordAt 36 = .ok (.iload_n 1, 1) := by decide +kernel
theorem dX0_wholeRecordAt_37 : decode cX0_wholeRecordAt 37 = .ok (.iload_n 2, 1) := by decide +kernel
theorem dX0_wholeRecordAt_38 : decode cX0_wholeRecordAt 38 = .ok (.invokevirtual 25, 3) := by decide +kernel
theorem dX0_wholeRecordAt_41 : decode cX0_wholeRecordAt 41 = .ok (.ifCond .eq 7, 3) := by decide +kernel
theorem dX0_wholeRecordAt_44 : decode cX0_wholeRecordAt 44 = .ok (.iload_n 2, 1) := by decide +kernel
theorem dX0_wholeRecordAt_45 : decode cX0_wholeRecordAt 45 = .ok (.goto 4, 3) := by decide +kernel
theorem dX0_wholeRecordAt_48 : decode cX0_wholeRecordAt 48 = .ok (.iconst 0, 1) := by decide +kernel
theorem dX0_wholeRecordAt_49 : decode cX0_wholeRecordAt 49 = .ok (.ireturn, 1) := by decide +kernel
set_option maxRecDepth 20000 in
theorem ggX0_isClosedRight_X0_at : GoodIn wsX0_isClosedRight wsX0_at := goodIn_r _ [5, 6, 19] (by decide +kernel) (by decide +kernel)
set_option maxRecDepth 20000 in
theorem gX0_isClosedRight_X0_at : GoodIn wsX0_isClosedRight (wsV RX0 21 RX0 yX0_at wsX0_at) := goodIn_app (goodIn_of _ (by decide +kernel)) ggX0_isClosedRight_X0_at
set_option maxRecDepth 20000 in
theorem ggX0_isClosedRight_X1_step : GoodIn wsX0_isClosedRight wsX1_step := goodIn_r _ [10, 11] (by decide +kernel) (by decide +kernel)
set_option maxRecDepth 20000 in
theorem gX0_isClosedRight_X1_step : GoodIn wsX0_isClosedRight (va_wsS RX0 35 yX1_step wsX1_step) := goodIn_app (goodIn_of _ (by decide +kernel)) ggX0_isClosedRight_X1_step
set_option maxRecDepth 20000 in
theorem ggX0_isClosedRight_X0_number : GoodIn wsX0_isClosedRight wsX0_number := goodIn_r _ [15, 1, 2, 3, 4, 5, 6, 19] (by decide +kernel) (by decide +kernel)
set_option maxRecDepth 20000 in
theorem gX0_isClosedRight_X0_number : GoodIn wsX0_isClosedRight (wsV RX0 29 RX0 yX0_number wsX0_number) := goodIn_app (goodIn_of _ (by decide +kernel)) ggX0_isClosedRight_X0_number
set_option maxRecDepth 20000 in
theorem ggX0_isClosedRight_X1_end : GoodIn wsX0_isClosedRight wsX1_end := goodIn_r _ [18] (by decide +kernel) (by decide +kernel)
set_option maxRecDepth 20000 in
theorem gX0_isClosedRight_X1_end : GoodIn wsX0_isClosedRight (va_wsS RX0 38 yX1_end wsX1_end) := goodIn_app (goodIn_of _ (by decide +kernel)) ggX0_isClosedRight_X1_end
theorem dX0_isClosedRight_0 : decode cX0_isClosedRight 0 = .ok (.iload_n 1, 1) := by decide +kernel
theorem dX0_isClosedRight_1 : decode cX0_isClosedRight 1 = .ok (.iload_n 2, 1) := by decide +kernel
theorem dX0_isClosedRight_2 : decode cX0_isClosedRight 2 = .ok (.iadd, 1) := by decide +kernel
theorem dX0_isClosedRight_3 : decode cX0_isClosedRight 3 = .ok (.iconst 5, 1) := by decide +kernel
theorem dX0_isClosedRight_4 : decode cX0_isClosedRight 4 = .ok (.isub, 1) := by decide +kernel
theorem dX0_isClosedRight_5 : decode cX0_isClosedRight 5 = .ok (.istore_n 3, 1) := by decide +kernel
theorem dX0_isClosedRight_6 : decode cX0_isClosedRight 6 = .ok (.iconst (-1), 1) := by decide +kernel
theorem dX0_isClosedRight_7 : decode cX0_isClosedRight 7 = .ok (.istore 4, 2) := by decide +kernel
theorem dX0_isClosedRight_9 : decode cX0_isClosedRight 9 = .ok (.iload_n 1, 1) := by decide +kernel
theorem dX0_isClosedRight_10 : decode cX0_isClosedRight 10 = .ok (.istore 5, 2) := by decide +kernel
theorem dX0_isClosedRight_12 : decode cX0_isClosedRight 12 = .ok (.iload 5, 2) := by decide +kernel
theorem dX0_isClosedRight_14 : decode cX0_isClosedRight 14 = .ok (.iload_n 3, 1) := by decide +kernel
theorem dX0_isClosedRight_15 : decode cX0_isClosedRight 15 = .ok (.if_icmp .ge 22, 3) := by decide +kernel
theorem dX0_isClosedRight_18 : decode cX0_isClosedRight 18 = .ok (.iload 4, 2) := by decide +kernel
theorem dX0_isClosedRight_20 : decode cX0_isClosedRight 20 = .ok (.aload_n 0, 1) := by decide +kernel
theorem dX0_isClosedRight_21 : decode cX0_isClosedRight 21 = .ok (.iload 5, 2) := by decide +kernel
theorem dX0_isClosedRight_23 : decode cX0_isClosedRight 23 = .ok (.invokevirtual 21, 3) := by decide +kernel
theorem dX0_isClosedRight_26 : decode cX0_isClosedRight 26 = .ok (.invokestatic 35, 3) := by decide +kernel
theorem dX0_isClosedRight_29 : decode cX0_isClosedRight 29 = .ok (.istore 4, 2) := by decide +kernel
theorem dX0_isClosedRight_31 : decode cX0_isClosedRight 31 = .ok (.iinc 5 1, 3) := by decide +kernel
theorem dX0_isClosedRight_34 : decode cX0_isClosedRight 34 = .ok (.goto (-22), 3) := by decide +kernel
theorem dX0_isClosedRight_37 : decode cX0_isClosedRight 37 = .ok (.aload_n 0, 1) := by decide +kernel
theorem dX0_isClosedRight_38 : decode cX0_isClosedRight 38 = .ok (.iload_n 3, 1) := by decide +kernel
theorem dX0_isClosedRight_39 : decode cX0_isClosedRight 39 = .ok (.iconst 4, 1) := by decide +kernel
theorem dX0_isClosedRight_40 : decode cX0_isClosedRight 40 = .ok (.invokevirtual 29, 3) := by decide +kernel
theorem dX0_isClosedRight_43 : decode cX0_isClosedRight 43 = .ok (.l2i, 1) := by decide +kernel
theorem dX0_isClosedRight_44 : decode cX0_isClosedRight 44 = .ok (.iload 4, 2) := by decide +kernel
theorem dX0_isClosedRight_46 : decode cX0_isClosedRight 46 = .ok (.invokestatic 38, 3) := by decide +kernel
theorem dX0_isClosedRight_49 : decode cX0_isClosedRight 49 = .ok (.if_icmp .ne 20, 3) := by decide +kernel
theorem dX0_isClosedRight_52 : decode cX0_isClosedRight 52 = .ok (.aload_n 0, 1) := by decide +kernel
theorem dX0_isClosedRight_53 : decode cX0_isClosedRight 53 = .ok (.iload_n 3, 1) := by decide +kernel
theorem dX0_isClosedRight_54 : decode cX0_isClosedRight 54 = .ok (.iconst 4, 1) := by decide +kernel
theorem dX0_isClosedRight_55 : decode cX0_isClosedRight 55 = .ok (.iadd, 1) := by decide +kernel
theorem dX0_isClosedRight_56 : decode cX0_isClosedRight 56 = .ok (.invokevirtual 21, 3) := by decide +kernel
theorem dX0_isClosedRight_59 : decode cX0_isClosedRight 59 = .ok (.sipush 165, 3) := by decide +kernel
theorem dX0_isClosedRight_62 : decode cX0_isClosedRight 62 = .ok (.if_icmp .ne 7, 3) := by decide +kernel
theorem dX0_isClosedRight_65 : decode cX0_isClosedRight 65 = .ok (.iconst 1, 1) := by decide +kernel
theorem dX0_isClosedRight_66 : decode cX0_isClosedRight 66 = .ok (.goto 4, 3) := by decide +kernel
theorem dX0_isClosedRight_69 : decode cX0_isClosedRight 69 = .ok (.iconst 0, 1) := by decide +kernel
theorem dX0_isClosedRight_70 : decode cX0_isClosedRight 70 = .ok (.ireturn, 1) := by decide +kernel
theorem dX0_blankFrom_0 : decode cX0_blankFrom 0 = .ok (.iconst 0, 1) := by decide +kernel
theorem dX0_blankFrom_1 : decode cX0_blankFrom 1 = .ok (.iload_n 1, 1) := by decide +kernel
theorem dX0_blankFrom_2 : decode cX0_blankFrom 2 = .ok (.invokestatic 9, 3) := by decide +kernel
theorem dX0_blankFrom_5 : decode cX0_blankFrom 5 = .ok (.istore_n 2, 1) := by decide +kernel
theorem dX0_blankFrom_6 : decode cX0_blankFrom 6 = .ok (.iload_n 2, 1) := by decide +kernel
theorem dX0_blankFrom_7 : decode cX0_blankFrom 7 = .ok (.aload_n 0, 1) := by decide +kernel
theorem dX0_blankFrom_8 : decode cX0_blankFrom 8 = .ok (.getfield 15, 3) := by decide +kernel
theorem dX0_blankFrom_11 : decode cX0_blankFrom 11 = .ok (.arraylength, 1) := by decide +kernel
theorem dX0_blankFrom_12 : decode cX0_blankFrom 12 = .ok (.if_icmp .ge 16, 3) := by decide +kernel
theorem dX0_blankFrom_15 : decode cX0_blankFrom 15 = .ok (.aload_n 0, 1) := by decide +kernel
theorem dX0_blankFrom_16 : decode cX0_blankFrom 16 = .ok (.getfield 15, 3) := by decide +kernel
theorem dX0_blankFrom_19 : decode cX0_blankFrom 19 = .ok (.iload_n 2, 1) := by decide +kernel
theorem dX0_blankFrom_20 : decode cX0_blankFrom 20 = .ok (.iconst 0, 1) := by decide +kernel
theorem dX0_blankFrom_21 : decode cX0_blankFrom 21 = .ok (.bastore, 1) := by decide +kernel
theorem dX0_blankFrom_22 : decode cX0_blankFrom 22 = .ok (.iinc 2 1, 3) := by decide +kernel
theorem dX0_blankFrom_25 : decode cX0_blankFrom 25 = .ok (.goto (-19), 3) := by decide +kernel
theorem dX0_blankFrom_28 : decode cX0_blankFrom 28 = .ok (.return_, 1) := by decide +kernel
theorem dX1_step_0 : decode cX1_step 0 = .ok (.iload_n 0, 1) := by decide +kernel
theorem dX1_step_1 : decode cX1_step 1 = .ok (.iconst 4, 1) := by decide +kernel
theorem dX1_step_2 : decode cX1_step 2 = .ok (.iushr, 1) := by decide +kernel
theorem dX1_step_3 : decode cX1_step 3 = .ok (.getstatic 7, 3) := by decide +kernel
theorem dX1_step_6 : decode cX1_step 6 = .ok (.iload_n 0, 1) := by decide +kernel
theorem dX1_step_7 : decode cX1_step 7 = .ok (.iload_n 1, 1) := by decide +kernel
theorem dX1_step_8 : decode cX1_step 8 = .ok (.ixor, 1) := by decide +kernel
theorem dX1_step_9 : decode cX1_step 9 = .ok (.bipush 15, 2) := by decide +kernel
theorem dX1_step_11 : decode cX1_step 11 = .ok (.iand, 1) := by decide +kernel
theorem dX1_step_12 : decode cX1_step 12 = .ok (.iaload, 1) := by decide +kernel
theorem dX1_step_13 : decode cX1_step 13 = .ok (.ixor, 1) := by decide +kernel
theorem dX1_step_14 : decode cX1_step 14 = .ok (.istore_n 2, 1) := by decide +kernel
theorem dX1_step_15 : decode cX1_step 15 = .ok (.iload_n 2, 1) := by decide +kernel
theorem dX1_step_16 : decode cX1_step 16 = .ok (.iconst 4, 1) := by decide +kernel
theorem dX1_step_17 : decode cX1_step 17 = .ok (.iushr, 1) := by decide +kernel
theorem dX1_step_18 : decode cX1_step 18 = .ok (.getstatic 7, 3) := by decide +kernel
theorem dX1_step_21 : decode cX1_step 21 = .ok (.iload_n 2, 1) := by decide +kernel
theorem dX1_step_22 : decode cX1_step 22 = .ok (.iload_n 1, 1) := by decide +kernel
theorem dX1_step_23 : decode cX1_step 23 = .ok (.iconst 4, 1) := by decide +kernel
theorem dX1_step_24 : decode cX1_step 24 = .ok (.iushr, 1) := by decide +kernel
theorem dX1_step_25 : decode cX1_step 25 = .ok (.ixor, 1) := by decide +kernel
theorem dX1_step_26 : decode cX1_step 26 = .ok (.bipush 15, 2) := by decide +kernel
theorem dX1_step_28 : decode cX1_step 28 = .ok (.iand, 1) := by decide +kernel
theorem dX1_step_29 : decode cX1_step 29 = .ok (.iaload, 1) := by decide +kernel
theorem dX1_step_30 : decode cX1_step 30 = .ok (.ixor, 1) := by decide +kernel
theorem dX1_step_31 : decode cX1_step 31 = .ok (.ireturn, 1) := by decide +kernel
theorem dX1_end_0 : decode cX1_end 0 = .ok (.iload_n 0, 1) := by decide +kernel
theorem dX1_end_1 : decode cX1_end 1 = .ok (.iconst (-1), 1) := by decide +kernel
theorem dX1_end_2 : decode cX1_end 2 = .ok (.ixor, 1) := by decide +kernel
theorem dX1_end_3 : decode cX1_end 3 = .ok (.ireturn, 1) := by decide +kernel
theorem dX2_init_0 : decode cX2_init 0 = .ok (.aload_n 0, 1) := by decide +kernel
theorem dX2_init_1 : decode cX2_init 1 = .ok (.invokespecial 3, 3) := by decide +kernel
theorem dX2_init_4 : decode cX2_init 4 = .ok (.aload_n 0, 1) := by decide +kernel
theorem dX2_init_5 : decode cX2_init 5 = .ok (.iconst 0, 1) := by decide +kernel
theorem dX2_init_6 : decode cX2_init 6 = .ok (.putfield 9, 3) := by decide +kernel
theorem dX2_init_9 : decode cX2_init 9 = .ok (.aload_n 0, 1) := by decide +kernel
theorem dX2_init_10 : decode cX2_init 10 = .ok (.iconst 0, 1) := by decide +kernel
theorem dX2_init_11 : decode cX2_init 11 = .ok (.putfield 15, 3) := by decide +kernel
theorem dX2_init_14 : decode cX2_init 14 = .ok (.aload_n 0, 1) := by decide +kernel
theorem dX2_init_15 : decode cX2_init 15 = .ok (.iconst 0, 1) := by decide +kernel
theorem dX2_init_16 : decode cX2_init 16 = .ok (.putfield 18, 3) := by decide +kernel
theorem dX2_init_19 : decode cX2_init 19 = .ok (.aload_n 0, 1) := by decide +kernel
theorem dX2_init_20 : decode cX2_init 20 = .ok (.lconst 0, 1) := by decide +kernel
theorem dX2_init_21 : decode cX2_init 21 = .ok (.putfield 21, 3) := by decide +kernel
theorem dX2_init_24 : decode cX2_init 24 = .ok (.return_, 1) := by decide +kernel
theorem dX2_set_0 : decode cX2_set 0 = .ok (.aload_n 0, 1) := by decide +kernel
theorem dX2_set_1 : decode cX2_set 1 = .ok (.iload_n 1, 1) := by decide +kernel
theorem dX2_set_2 : decode cX2_set 2 = .ok (.putfield 9, 3) := by decide +kernel
theorem dX2_set_5 : decode cX2_set 5 = .ok (.aload_n 0, 1) := by decide +kernel
theorem dX2_set_6 : decode cX2_set 6 = .ok (.iload_n 2, 1) := by decide +kernel
theorem dX2_set_7 : decode cX2_set 7 = .ok (.putfield 15, 3) := by decide +kernel
theorem dX2_set_10 : decode cX2_set 10 = .ok (.aload_n 0, 1) := by decide +kernel
theorem dX2_set_11 : decode cX2_set 11 = .ok (.iload_n 3, 1) := by decide +kernel
theorem dX2_set_12 : decode cX2_set 12 = .ok (.putfield 18, 3) := by decide +kernel
theorem dX2_set_15 : decode cX2_set 15 = .ok (.aload_n 0, 1) := by decide +kernel
theorem dX2_set_16 : decode cX2_set 16 = .ok (.lload 4, 2) := by decide +kernel
theorem dX2_set_18 : decode cX2_set 18 = .ok (.putfield 21, 3) := by decide +kernel
theorem dX2_set_21 : decode cX2_set 21 = .ok (.return_, 1) := by decide +kernel
theorem dX2_hasSample_0 : decode cX2_hasSample 0 = .ok (.aload_n 0, 1) := by decide +kernel
theorem dX2_hasSample_1 : decode cX2_hasSample 1 = .ok (.getfield 9, 3) := by decide +kernel
theorem dX2_hasSample_4 : decode cX2_hasSample 4 = .ok (.iconst 2, 1) := by decide +kernel
theorem dX2_hasSample_5 : decode cX2_hasSample 5 = .ok (.if_icmp .eq 28, 3) := by decide +kernel
theorem dX2_hasSample_8 : decode cX2_hasSample 8 = .ok (.aload_n 0, 1) := by decide +kernel
theorem dX2_hasSample_9 : decode cX2_hasSample 9 = .ok (.getfield 9, 3) := by decide +kernel
theorem dX2_hasSample_12 : decode cX2_hasSample 12 = .ok (.iconst 3, 1) := by decide +kernel
theorem dX2_hasSample_13 : decode cX2_hasSample 13 = .ok (.if_icmp .eq 20, 3) := by decide +kernel
theorem dX2_hasSample_16 : decode cX2_hasSample 16 = .ok (.aload_n 0, 1) := by decide +kernel
theorem dX2_hasSample_17 : decode cX2_hasSample 17 = .ok (.getfield 9, 3) := by decide +kernel
theorem dX2_hasSample_20 : decode cX2_hasSample 20 = .ok (.iconst 4, 1) := by decide +kernel
theorem dX2_hasSample_21 : decode cX2_hasSample 21 = .ok (.if_icmp .eq 12, 3) := by decide +kernel
theorem dX2_hasSample_24 : decode cX2_hasSample 24 = .ok (.aload_n 0, 1) := by decide +kernel
theorem dX2_hasSample_25 : decode cX2_hasSample 25 = .ok (.getfield 9, 3) := by decide +kernel
theorem dX2_hasSample_28 : decode cX2_hasSample 28 = .ok (.bipush 6, 2) := by decide +kernel
theorem dX2_hasSample_30 : decode cX2_hasSample 30 = .ok (.if_icmp .ne 7, 3) := by decide +kernel
theorem dX2_hasSample_33 : decode cX2_hasSample 33 = .ok (.iconst 1, 1) := by decide +kernel
theorem dX2_hasSample_34 : decode cX2_hasSample 34 = .ok (.goto 4, 3) := by decide +kernel
theorem dX2_hasSample_37 : decode cX2_hasSample 37 = .ok (.iconst 0, 1) := by decide +kernel
theorem dX2_hasSample_38 : decode cX2_hasSample 38 = .ok (.ireturn, 1) := by decide +kernel
theorem dX2_hasWell_0 : decode cX2_hasWell 0 = .ok (.aload_n 0, 1) := by decide +kernel
theorem dX2_hasWell_1 : decode cX2_hasWell 1 = .ok (.getfield 9, 3) := by decide +kernel
theorem dX2_hasWell_4 : decode cX2_hasWell 4 = .ok (.iconst 1, 1) := by decide +kernel
theorem dX2_hasWell_5 : decode cX2_hasWell 5 = .ok (.if_icmp .eq 28, 3) := by decide +kernel
theorem dX2_hasWell_8 : decode cX2_hasWell 8 = .ok (.aload_n 0, 1) := by decide +kernel
theorem dX2_hasWell_9 : decode cX2_hasWell 9 = .ok (.getfield 9, 3) := by decide +kernel
theorem dX2_hasWell_12 : decode cX2_hasWell 12 = .ok (.iconst 2, 1) := by decide +kernel
theorem dX2_hasWell_13 : decode cX2_hasWell 13 = .ok (.if_icmp .eq 20, 3) := by decide +kernel
theorem dX2_hasWell_16 : decode cX2_hasWell 16 = .ok (.aload_n 0, 1) := by decide +kernel
theorem dX2_hasWell_17 : decode cX2_hasWell 17 = .ok (.getfield 9, 3) := by decide +kernel
theorem dX2_hasWell_20 : decode cX2_hasWell 20 = .ok (.iconst 3, 1) := by decide +kernel
theorem dX2_hasWell_21 : decode cX2_hasWell 21 = .ok (.if_icmp .eq 12, 3) := by decide +kernel
theorem dX2_hasWell_24 : decode cX2_hasWell 24 = .ok (.aload_n 0, 1) := by decide +kernel
theorem dX2_hasWell_25 : decode cX2_hasWell 25 = .ok (.getfield 9, 3) := by decide +kernel
theorem dX2_hasWell_28 : decode cX2_hasWell 28 = .ok (.bipush 6, 2) := by decide +kernel
theorem dX2_hasWell_30 : decode cX2_hasWell 30 = .ok (.if_icmp .ne 7, 3) := by decide +kernel
theorem dX2_hasWell_33 : decode cX2_hasWell 33 = .ok (.iconst 1, 1) := by decide +kernel
theorem dX2_hasWell_34 : decode cX2_hasWell 34 = .ok (.goto 4, 3) := by decide +kernel
theorem dX2_hasWell_37 : decode cX2_hasWell 37 = .ok (.iconst 0, 1) := by decide +kernel
theorem dX2_hasWell_38 : decode cX2_hasWell 38 = .ok (.ireturn, 1) := by decide +kernel
theorem dX2_hasVolume_0 : decode cX2_hasVolume 0 = .ok (.aload_n 0, 1) := by decide +kernel
theorem dX2_hasVolume_1 : decode cX2_hasVolume 1 = .ok (.getfield 9, 3) := by decide +kernel
theorem dX2_hasVolume_4 : decode cX2_hasVolume 4 = .ok (.iconst 1, 1) := by decide +kernel
theorem dX2_hasVolume_5 : decode cX2_hasVolume 5 = .ok (.if_icmp .eq 29, 3) := by decide +kernel
theorem dX2_hasVolume_8 : decode cX2_hasVolume 8 = .ok (.aload_n 0, 1) := by decide +kernel
theorem dX2_hasVolume_9 : decode cX2_hasVolume 9 = .ok (.getfield 9, 3) := by decide +kernel
theorem dX2_hasVolume_12 : decode cX2_hasVolume 12 = .ok (.iconst 2, 1) := by decide +kernel
theorem dX2_hasVolume_13 : decode cX2_hasVolume 13 = .ok (.if_icmp .eq 21, 3) := by decide +kernel
theorem dX2_hasVolume_16 : decode cX2_hasVolume 16 = .ok (.aload_n 0, 1) := by decide +kernel
theorem dX2_hasVolume_17 : decode cX2_hasVolume 17 = .ok (.getfield 9, 3) := by decide +kernel
theorem dX2_hasVolume_20 : decode cX2_hasVolume 20 = .ok (.bipush 6, 2) := by decide +kernel
theorem dX2_hasVolume_22 : decode cX2_hasVolume 22 = .ok (.if_icmp .eq 12, 3) := by decide +kernel
theorem dX2_hasVolume_25 : decode cX2_hasVolume 25 = .ok (.aload_n 0, 1) := by decide +kernel
theorem dX2_hasVolume_26 : decode cX2_hasVolume 26 = .ok (.getfield 9, 3) := by decide +kernel
theorem dX2_hasVolume_29 : decode cX2_hasVolume 29 = .ok (.bipush 7, 2) := by decide +kernel
theorem dX2_hasVolume_31 : decode cX2_hasVolume 31 = .ok (.if_icmp .ne 7, 3) := by decide +kernel
theorem dX2_hasVolume_34 : decode cX2_hasVolume 34 = .ok (.iconst 1, 1) := by decide +kernel
theorem dX2_hasVolume_35 : decode cX2_hasVolume 35 = .ok (.goto 4, 3) := by decide +kernel
theorem dX2_hasVolume_38 : decode cX2_hasVolume 38 = .ok (.iconst 0, 1) := by decide +kernel
theorem dX2_hasVolume_39 : decode cX2_hasVolume 39 = .ok (.ireturn, 1) := by decide +kernel
set_option maxRecDepth 20000 in
theorem ggX2_length_X2_hasSample : GoodIn wsX2_length wsX2_hasSample := goodIn_r _ [5, 6, 15, 16, 17, 18] (by decide +kernel) (by decide +kernel)
set_option maxRecDepth 20000 in
theorem gX2_length_X2_hasSample : GoodIn wsX2_length (wsV RX2 25 RX2 yX2_hasSample wsX2_hasSample) := goodIn_app (goodIn_of _ (by decide +kernel)) ggX2_length_X2_hasSample
set_option maxRecDepth 20000 in
theorem ggX2_length_X2_hasWell : GoodIn wsX2_length wsX2_hasWell := goodIn_r _ [10, 6, 15, 16, 17, 18] (by decide +kernel) (by decide +kernel)
set_option maxRecDepth 20000 in
theorem gX2_length_X2_hasWell : GoodIn wsX2_length (wsV RX2 29 RX2 yX2_hasWell wsX2_hasWell) := goodIn_app (goodIn_of _ (by decide +kernel)) ggX2_length_X2_hasWell
set_option maxRecDepth 20000 in
theorem ggX2_length_X2_hasVolume : GoodIn wsX2_length wsX2_hasVolume := goodIn_r _ [14, 6, 15, 16, 17, 18] (by decide +kernel) (by decide +kernel)
set_option maxRecDepth 20000 in
theorem gX2_length_X2_hasVolume : GoodIn wsX2_length (wsV RX2 32 RX2 yX2_hasVolume wsX2_hasVolume) := goodIn_app (goodIn_of _ (by decide +kernel)) ggX2_length_X2_hasVolume
theorem dX2_length_0 : decode cX2_length 0 = .ok (.bipush 8, 2) := by decide +kernel
theorem dX2_length_2 : decode cX2_length 2 = .ok (.aload_n 0, 1) := by decide +kernel
theorem dX2_length_3 : decode cX2_length 3 = .ok (.invokevirtual 25, 3) := by decide +kernel
theorem dX2_length_6 : decode cX2_length 6 = .ok (.ifCond .eq 7, 3) := by decide +kernel
theorem dX2_length_9 : decode cX2_length 9 = .ok (.iconst 2, 1) := by decide +kernel
theorem dX2_length_10 : decode cX2_length 10 = .ok (.goto 4, 3) := by decide +kernel
theorem dX2_length_13 : decode cX2_length 13 = .ok (.iconst 0, 1) := by decide +kernel
theorem dX2_length_14 : decode cX2_length 14 = .ok (.iadd, 1) := by decide +kernel
theorem dX2_length_15 : decode cX2_length 15 = .ok (.aload_n 0, 1) := by decide +kernel
theorem dX2_length_16 : decode cX2_length 16 = .ok (.invokevirtual 29, 3) := by decide +kernel
theorem dX2_length_19 : decode cX2_length 19 = .ok (.ifCond .eq 7, 3) := by decide +kernel
theorem dX2_length_22 : decode cX2_length 22 = .ok (.iconst 1, 1) := by decide +kernel
theorem dX2_length_23 : decode cX2_length 23 = .ok (.goto 4, 3) := by decide +kernel
theorem dX2_length_26 : decode cX2_length 26 = .ok (.iconst 0, 1) := by decide +kernel
theorem dX2_length_27 : decode cX2_length 27 = .ok (.iadd, 1) := by decide +kernel
theorem dX2_length_28 : decode cX2_length 28 = .ok (.aload_n 0, 1) := by decide +kernel
theorem dX2_length_29 : decode cX2_length 29 = .ok (.invokevirtual 32, 3) := by decide +kernel
theorem dX2_length_32 : decode cX2_length 32 = .ok (.ifCond .eq 8, 3) := by decide +kernel
theorem dX2_length_35 : decode cX2_length 35 = .ok (.bipush 8, 2) := by decide +kernel
theorem dX2_length_37 : decode cX2_length 37 = .ok (.goto 4, 3) := by decide +kernel
theorem dX2_length_40 : decode cX2_length 40 = .ok (.iconst 0, 1) := by decide +kernel
theorem dX2_length_41 : decode cX2_length 41 = .ok (.iadd, 1) := by decide +kernel
theorem dX2_length_42 : decode cX2_length 42 = .ok (.ireturn, 1) := by decide +kernel
set_option maxRecDepth 20000 in
theorem ggX2_readFrom_X0_at : GoodIn wsX2_readFrom wsX0_at := goodIn_r _ [9, 10, 33] (by decide +kernel) (by decide +kernel)
set_option maxRecDepth 20000 in
theorem gX2_readFrom_X0_at : GoodIn wsX2_readFrom (wsV RX2 35 RX0 yX0_at wsX0_at) := goodIn_app (goodIn_of _ (by decide +kernel)) ggX2_readFrom_X0_at
set_option maxRecDepth 20000 in
theorem ggX2_readFrom_X2_hasSample : GoodIn wsX2_readFrom wsX2_hasSample := goodIn_r _ [15, 1, 29, 30, 31, 32] (by decide +kernel) (by decide +kernel)
set_option maxRecDepth 20000 in
theorem gX2_readFrom_X2_hasSample : GoodIn wsX2_readFrom (wsV RX2 25 RX2 yX2_hasSample wsX2_hasSample) := goodIn_app (goodIn_of _ (by decide +kernel)) ggX2_readFrom_X2_hasSample
set_option maxRecDepth 20000 in
theorem ggX2_readFrom_X0_number : GoodIn wsX2_readFrom wsX0_number := goodIn_r _ [19, 20, 6, 7, 8, 9, 10, 33] (by decide +kernel) (by decide +kernel)
set_option maxRecDepth 20000 in
theorem gX2_readFrom_X0_number : GoodIn wsX2_readFrom (wsV RX2 41 RX0 yX0_number wsX0_number) := goodIn_app (goodIn_of _ (by decide +kernel)) ggX2_readFrom_X0_number
set_option maxRecDepth 20000 in
theorem ggX2_readFrom_X2_hasWell : GoodIn wsX2_readFrom wsX2_hasWell := goodIn_r _ [24, 1, 29, 30, 31, 32] (by decide +kernel) (by decide +kernel)
set_option maxRecDepth 20000 in
theorem gX2_readFrom_X2_hasWell : GoodIn wsX2_readFrom (wsV RX2 29 RX2 yX2_hasWell wsX2_hasWell) := goodIn_app (goodIn_of _ (by decide +kernel)) ggX2_readFrom_X2_hasWell
set_option maxRecDepth 20000 in
theorem ggX2_readFrom_X2_hasVolume : GoodIn wsX2_readFrom wsX2_hasVolume := goodIn_r _ [28, 1, 29, 30, 31, 32] (by decide +kernel) (by decide +kernel)
set_option maxRecDepth 20000 in
theorem gX2_readFrom_X2_hasVolume : GoodIn wsX2_readFrom (wsV RX2 32 RX2 yX2_hasVolume wsX2_hasVolume) := goodIn_app (goodIn_of _ (by decide +kernel)) ggX2_readFrom_X2_hasVolume
theorem dX2_readFrom_0 : decode cX2_readFrom 0 = .ok (.aload_n 0, 1) := by decide +kernel
theorem dX2_readFrom_1 : decode cX2_readFrom 1 = .ok (.aload_n 1, 1) := by decide +kernel
theorem dX2_readFrom_2 : decode cX2_readFrom 2 = .ok (.iload_n 2, 1) := by decide +kernel
theorem dX2_readFrom_3 : decode cX2_readFrom 3 = .ok (.iconst 2, 1) := by decide +kernel
theorem dX2_readFrom_4 : decode cX2_readFrom 4 = .ok (.iadd, 1) := by decide +kernel
theorem dX2_readFrom_5 : decode cX2_readFrom 5 = .ok (.invokevirtual 35, 3) := by decide +kernel
theorem dX2_readFrom_8 : decode cX2_readFrom 8 = .ok (.putfield 9, 3) := by decide +kernel
theorem dX2_readFrom_11 : decode cX2_readFrom 11 = .ok (.iload_n 2, 1) := by decide +kernel
theorem dX2_readFrom_12 : decode cX2_readFrom 12 = .ok (.iconst 3, 1) := by decide +kernel
theorem dX2_readFrom_13 : decode cX2_readFrom 13 = .ok (.iadd, 1) := by decide +kernel
theorem dX2_readFrom_14 : decode cX2_readFrom 14 = .ok (.istore_n 3, 1) := by decide +kernel
theorem dX2_readFrom_15 : decode cX2_readFrom 15 = .ok (.aload_n 0, 1) := by decide +kernel
theorem dX2_readFrom_16 : decode cX2_readFrom 16 = .ok (.aload_n 0, 1) := by decide +kernel
theorem dX2_readFrom_17 : decode cX2_readFrom 17 = .ok (.invokevirtual 25, 3) := by decide +kernel
theorem dX2_readFrom_20 : decode cX2_readFrom 20 = .ok (.ifCond .eq 13, 3) := by decide +kernel
theorem dX2_readFrom_23 : decode cX2_readFrom 23 = .ok (.aload_n 1, 1) := by decide +kernel
theorem dX2_readFrom_24 : decode cX2_readFrom 24 = .ok (.iload_n 3, 1) := by decide +kernel
theorem dX2_readFrom_25 : decode cX2_readFrom 25 = .ok (.iconst 2, 1) := by decide +kernel
theorem dX2_readFrom_26 : decode cX2_readFrom 26 = .ok (.invokevirtual 41, 3) := by decide +kernel
theorem dX2_readFrom_29 : decode cX2_readFrom 29 = .ok (.l2i, 1) := by decide +kernel
theorem dX2_readFrom_30 : decode cX2_readFrom 30 = .ok (.goto 4, 3) := by decide +kernel
theorem dX2_readFrom_33 : decode cX2_readFrom 33 = .ok (.iconst 0, 1) := by decide +kernel
theorem dX2_readFrom_34 : decode cX2_readFrom 34 = .ok (.putfield 15, 3) := by decide +kernel
theorem dX2_readFrom_37 : decode cX2_readFrom 37 = .ok (.iload_n 3, 1) := by decide +kernel
theorem dX2_readFrom_38 : decode cX2_readFrom 38 = .ok (.aload_n 0, 1) := by decide +kernel
theorem dX2_readFrom_39 : decode cX2_readFrom 39 = .ok (.invokevirtual 25, 3) := by decide +kernel
theorem dX2_readFrom_42 : decode cX2_readFrom 42 = .ok (.ifCond .eq 7, 3) := by decide +kernel
theorem dX2_readFrom_45 : decode cX2_readFrom 45 = .ok (.iconst 2, 1) := by decide +kernel
theorem dX2_readFrom_46 : decode cX2_readFrom 46 = .ok (.goto 4, 3) := by decide +kernel
theorem dX2_readFrom_49 : decode cX2_readFrom 49 = .ok (.iconst 0, 1) := by decide +kernel
theorem dX2_readFrom_50 : decode cX2_readFrom 50 = .ok (.iadd, 1) := by decide +kernel
theorem dX2_readFrom_51 : decode cX2_readFrom 51 = .ok (.istore_n 3, 1) := by decide +kernel
theorem dX2_readFrom_52 : decode cX2_readFrom 52 = .ok (.aload_n 0, 1) := by decide +kernel
theorem dX2_readFrom_53 : decode cX2_readFrom 53 = .ok (.aload_n 0, 1) := by decide +kernel
theorem dX2_readFrom_54 : decode cX2_readFrom 54 = .ok (.invokevirtual 29, 3) := by decide +kernel
theorem dX2_readFrom_57 : decode cX2_readFrom 57 = .ok (.ifCond .eq 11, 3) := by decide +kernel
theorem dX2_readFrom_60 : decode cX2_readFrom 60 = .ok (.aload_n 1, 1) := by decide +kernel
theorem dX2_readFrom_61 : decode cX2_readFrom 61 = .ok (.iload_n 3, 1) := by decide +kernel
theorem dX2_readFrom_62 : decode cX2_readFrom 62 = .ok (.invokevirtual 35, 3) := by decide +kernel
theorem dX2_readFrom_65 : decode cX2_readFrom 65 = .ok (.goto 4, 3) := by decide +kernel
theorem dX2_readFrom_68 : decode cX2_readFrom 68 = .ok (.iconst 0, 1) := by decide +kernel
theorem dX2_readFrom_69 : decode cX2_readFrom 69 = .ok (.putfield 18, 3) := by decide +kernel
theorem dX2_readFrom_72 : decode cX2_readFrom 72 = .ok (.iload_n 3, 1) := by decide +kernel
theorem dX2_readFrom_73 : decode cX2_readFrom 73 = .ok (.aload_n 0, 1) := by decide +kernel
theorem dX2_readFrom_74 : decode cX2_readFrom 74 = .ok (.invokevirtual 29, 3) := by decide +kernel
theorem dX2_readFrom_77 : decode cX2_readFrom 77 = .ok (.ifCond .eq 7, 3) := by decide +kernel
theorem dX2_readFrom_80 : decode cX2_readFrom 80 = .ok (.iconst 1, 1) := by decide +kernel
theorem dX2_readFrom_81 : decode cX2_readFrom 81 = .ok (.goto 4, 3) := by decide +kernel
theorem dX2_readFrom_84 : decode cX2_readFrom 84 = .ok (.iconst 0, 1) := by decide +kernel
theorem dX2_readFrom_85 : decode cX2_readFrom 85 = .ok (.iadd, 1) := by decide +kernel
theorem dX2_readFrom_86 : decode cX2_readFrom 86 = .ok (.istore_n 3, 1) := by decide +kernel
theorem dX2_readFrom_87 : decode cX2_readFrom 87 = .ok (.aload_n 0, 1) := by decide +kernel
theorem dX2_readFrom_88 : decode cX2_readFrom 88 = .ok (.aload_n 0, 1) := by decide +kernel
theorem dX2_readFrom_89 : decode cX2_readFrom 89 = .ok (.invokevirtual 32, 3) := by decide +kernel
theorem dX2_readFrom_92 : decode cX2_readFrom 92 = .ok (.ifCond .eq 13, 3) := by decide +kernel
theorem dX2_readFrom_95 : decode cX2_readFrom 95 = .ok (.aload_n 1, 1) := by decide +kernel
theorem dX2_readFrom_96 : decode cX2_readFrom 96 = .ok (.iload_n 3, 1) := by decide +kernel
theorem dX2_readFrom_97 : decode cX2_readFrom 97 = .ok (.bipush 8, 2) := by decide +kernel
theorem dX2_readFrom_99 : decode cX2_readFrom 99 = .ok (.invokevirtual 41, 3) := by decide +kernel
theorem dX2_readFrom_102 : decode cX2_readFrom 102 = .ok (.goto 4, 3) := by decide +kernel
theorem dX2_readFrom_105 : decode cX2_readFrom 105 = .ok (.lconst 0, 1) := by decide +kernel
theorem dX2_readFrom_106 : decode cX2_readFrom 106 = .ok (.putfield 21, 3) := by decide +kernel
theorem dX2_readFrom_109 : decode cX2_readFrom 109 = .ok (.return_, 1) := by decide +kernel
set_option maxRecDepth 20000 in
theorem ggX3_init_X0_init : GoodIn wsX3_init wsX0_init := goodIn_r _ [21, 22, 2, 3, 23, 24, 25, 26, 27, 28, 79] (by decide +kernel) (by decide +kernel)
set_option maxRecDepth 20000 in
theorem gX3_init_X0_init : GoodIn wsX3_init (wsX0_init) := ggX3_init_X0_init
set_option maxRecDepth 20000 in
theorem ggX3_init_X5_init : GoodIn wsX3_init wsX5_init := goodIn_r _ [31, 32, 2, 3, 33, 34, 35, 36, 80, 81, 82, 83] (by decide +kernel) (by decide +kernel)
set_option maxRecDepth 20000 in
theorem gX3_init_X5_init : GoodIn wsX3_init (wsX5_init) := ggX3_init_X5_init
set_option maxRecDepth 20000 in
theorem ggX3_init_X6_init : GoodIn wsX3_init wsX6_init := goodIn_r _ [38, 39, 2, 3, 40, 41, 42, 43, 44, 84, 85, 86, 87, 88] (by decide +kernel) (by decide +kernel)
set_option maxRecDepth 20000 in
theorem gX3_init_X6_init_n45 : GoodIn wsX3_init (wsX6_init) := ggX3_init_X6_init
set_option maxRecDepth 20000 in
theorem ggX3_init_X5_writeHead : GoodIn wsX3_init wsX5_writeHead := goodIn_r _ [48, 34, 49, 50, 51, 14, 52, 53, 54, 55, 56, 57, 58, 59, 60, 61, 35, 36, 33, 62, 63, 64, 18, 65, 40, 41, 42, 43, 44, 66, 67, 68, 9, 69, 28, 70, 71, 72, 80, 81, 82, 83, 84, 85, 86, 87, 88, 79] (by decide +kernel) (by decide +kernel)
set_option maxRecDepth 20000 in
theorem gX3_init_X5_writeHead : GoodIn wsX3_init (wsV RX3 46 RX5 yX5_writeHead wsX5_writeHead) := goodIn_app (goodIn_of _ (by decide +kernel)) ggX3_init_X5_writeHead
theorem dX3_init_0 : decode cX3_init 0 = .ok (.aload_n 0, 1) := by decide +kernel
theorem dX3_init_1 : decode cX3_init 1 = .ok (.invokespecial 3, 3) := by decide +kernel
theorem dX3_init_4 : decode cX3_init 4 = .ok (.aload_n 0, 1) := by decide +kernel
theorem dX3_init_5 : decode cX3_init 5 = .ok (.iconst 0, 1) := by decide +kernel
theorem dX3_init_6 : decode cX3_init 6 = .ok (.putfield 9, 3) := by decide +kernel
theorem dX3_init_9 : decode cX3_init 9 = .ok (.aload_n 0, 1) := by decide +kernel
theorem dX3_init_10 : decode cX3_init 10 = .ok (.bipush 9, 2) := by decide +kernel
theorem dX3_init_12 : decode cX3_init 12 = .ok (.putfield 15, 3) := by decide +kernel
theorem dX3_init_15 : decode cX3_init 15 = .ok (.aload_n 0, 1) := by decide +kernel
theorem dX3_init_16 : decode cX3_init 16 = .ok (.aload_n 2, 1) := by decide +kernel
theorem dX3_init_17 : decode cX3_init 17 = .ok (.putfield 18, 3) := by decide +kernel
theorem dX3_init_20 : decode cX3_init 20 = .ok (.aload_n 0, 1) := by decide +kernel
theorem dX3_init_21 : decode cX3_init 21 = .ok (.new 22, 3) := by decide +kernel
theorem dX3_init_24 : decode cX3_init 24 = .ok (.dup, 1) := by decide +kernel
theorem dX3_init_25 : decode cX3_init 25 = .ok (.iload_n 1, 1) := by decide +kernel
theorem dX3_init_26 : decode cX3_init 26 = .ok (.invokespecial 24, 3) := by decide +kernel
theorem dX3_init_29 : decode cX3_init 29 = .ok (.putfield 27, 3) := by decide +kernel
theorem dX3_init_32 : decode cX3_init 32 = .ok (.aload_n 0, 1) := by decide +kernel
theorem dX3_init_33 : decode cX3_init 33 = .ok (.new 22, 3) := by decide +kernel
theorem dX3_init_36 : decode cX3_init 36 = .ok (.dup, 1) := by decide +kernel
theorem dX3_init_37 : decode cX3_init 37 = .ok (.iload_n 1, 1) := by decide +kernel
theorem dX3_init_38 : decode cX3_init 38 = .ok (.invokespecial 24, 3) := by decide +kernel
theorem dX3_init_41 : decode cX3_init 41 = .ok (.putfield 31, 3) := by decide +kernel
theorem dX3_init_44 : decode cX3_init 44 = .ok (.aload_n 0, 1) := by decide +kernel
theorem dX3_init_45 : decode cX3_init 45 = .ok (.new 34, 3) := by decide +kernel
theorem dX3_init_48 : decode cX3_init 48 = .ok (.dup, 1) := by decide +kernel
theorem dX3_init_49 : decode cX3_init 49 = .ok (.aload_n 2, 1) := by decide +kernel
theorem dX3_init_50 : decode cX3_init 50 = .ok (.aload_n 0, 1) := by decide +kernel
theorem dX3_init_51 : decode cX3_init 51 = .ok (.getfield 27, 3) := by decide +kernel
theorem dX3_init_54 : decode cX3_init 54 = .ok (.invokespecial 36, 3) := by decide +kernel
theorem dX3_init_57 : decode cX3_init 57 = .ok (.putfield 39, 3) := by decide +kernel
theorem dX3_init_60 : decode cX3_init 60 = .ok (.new 34, 3) := by decide +kernel
theorem dX3_init_63 : decode cX3_init 63 = .ok (.dup, 1) := by decide +kernel
theorem dX3_init_64 : decode cX3_init 64 = .ok (.new 43, 3) := by decide +kernel
theorem dX3_init_67 : decode cX3_init 67 = .ok (.dup, 1) := by decide +kernel
theorem dX3_init_68 : decode cX3_init 68 = .ok (.invokespecial 45, 3) := by decide +kernel
theorem dX3_init_71 : decode cX3_init 71 = .ok (.aload_n 0, 1) := by decide +kernel
theorem dX3_init_72 : decode cX3_init 72 = .ok (.getfield 27, 3) := by decide +kernel
theorem dX3_init_75 : decode cX3_init 75 = .ok (.invokespecial 36, 3) := by decide +kernel
theorem dX3_init_78 : decode cX3_init 78 = .ok (.astore_n 3, 1) := by decide +kernel
theorem dX3_init_79 : decode cX3_init 79 = .ok (.aload_n 3, 1) := by decide +kernel
theorem dX3_init_80 : decode cX3_init 80 = .ok (.iconst 1, 1) := by decide +kernel
theorem dX3_init_81 : decode cX3_init 81 = .ok (.invokevirtual 46, 3) := by decide +kernel
theorem dX3_init_84 : decode cX3_init 84 = .ok (.return_, 1) := by decide +kernel
theorem dX3_bank_0 : decode cX3_bank 0 = .ok (.iload_n 1, 1) := by decide +kernel
theorem dX3_bank_1 : decode cX3_bank 1 = .ok (.ifCond .ne 10, 3) := by decide +kernel
theorem dX3_bank_4 : decode cX3_bank 4 = .ok (.aload_n 0, 1) := by decide +kernel
theorem dX3_bank_5 : decode cX3_bank 5 = .ok (.getfield 27, 3) := by decide +kernel
theorem dX3_bank_8 : decode cX3_bank 8 = .ok (.goto 7, 3) := by decide +kernel
theorem dX3_bank_11 : decode cX3_bank 11 = .ok (.aload_n 0, 1) := by decide +kernel
theorem dX3_bank_12 : decode cX3_bank 12 = .ok (.getfield 31, 3) := by decide +kernel
theorem dX3_bank_15 : decode cX3_bank 15 = .ok (.areturn, 1) := by decide +kernel
set_option maxRecDepth 20000 in
theorem ggX3_bankBytes_X0_size : GoodIn wsX3_bankBytes wsX0_size := goodIn_r _ [6, 7, 14] (by decide +kernel) (by decide +kernel)
set_option maxRecDepth 20000 in
theorem gX3_bankBytes_X0_size : GoodIn wsX3_bankBytes (wsV RX3 49 RX0 yX0_size wsX0_size) := goodIn_app (goodIn_of _ (by decide +kernel)) ggX3_bankBytes_X0_size
theorem dX3_bankBytes_0 : decode cX3_bankBytes 0 = .ok (.aload_n 0, 1) := by decide +kernel
theorem dX3_bankBytes_1 : decode cX3_bankBytes 1 = .ok (.getfield 27, 3) := by decide +kernel
theorem dX3_bankBytes_4 : decode cX3_bankBytes 4 = .ok (.invokevirtual 49, 3) := by decide +kernel
theorem dX3_bankBytes_7 : decode cX3_bankBytes 7 = .ok (.ireturn, 1) := by decide +kernel
theorem dX3_bankInUse_0 : decode cX3_bankInUse 0 = .ok (.aload_n 0, 1) := by decide +kernel
theorem dX3_bankInUse_1 : decode cX3_bankInUse 1 = .ok (.getfield 9, 3) := by decide +kernel
theorem dX3_bankInUse_4 : decode cX3_bankInUse 4 = .ok (.ireturn, 1) := by decide +kernel
set_option maxRecDepth 20000 in
theorem ggX3_generation_X3_bank : GoodIn wsX3_generation wsX3_bank := goodIn_r _ [6, 7, 8, 19, 20, 21, 22, 23, 24] (by decide +kernel) (by decide +kernel)
set_option maxRecDepth 20000 in
theorem gX3_generation_X3_bank : GoodIn wsX3_generation (wsV RX3 53 RX3 yX3_bank wsX3_bank) := goodIn_app (goodIn_of _ (by decide +kernel)) ggX3_generation_X3_bank
set_option maxRecDepth 20000 in
theorem ggX3_generation_X0_number : GoodIn wsX3_generation wsX0_number := goodIn_r _ [13, 14, 15, 16, 12, 17, 18, 25] (by decide +kernel) (by decide +kernel)
set_option maxRecDepth 20000 in
theorem gX3_generation_X0_number : GoodIn wsX3_generation (wsV RX3 57 RX0 yX0_number wsX0_number) := goodIn_app (goodIn_of _ (by decide +kernel)) ggX3_generation_X0_number
theorem dX3_generation_0 : decode cX3_generation 0 = .ok (.aload_n 0, 1) := by decide +kernel
theorem dX3_generation_1 : decode cX3_generation 1 = .ok (.aload_n 0, 1) := by decide +kernel
theorem dX3_generation_2 : decode cX3_generation 2 = .ok (.getfield 9, 3) := by decide +kernel
theorem dX3_generation_5 : decode cX3_generation 5 = .ok (.invokevirtual 53, 3) := by decide +kernel
theorem dX3_generation_8 : decode cX3_generation 8 = .ok (.iconst 0, 1) := by decide +kernel
theorem dX3_generation_9 : decode cX3_generation 9 = .ok (.iconst 4, 1) := by decide +kernel
theorem dX3_generation_10 : decode cX3_generation 10 = .ok (.invokevirtual 57, 3) := by decide +kernel
theorem dX3_generation_13 : decode cX3_generation 13 = .ok (.l2i, 1) := by decide +kernel
theorem dX3_generation_14 : decode cX3_generation 14 = .ok (.ireturn, 1) := by decide +kernel
theorem dX3_end_0 : decode cX3_end 0 = .ok (.aload_n 0, 1) := by decide +kernel
theorem dX3_end_1 : decode cX3_end 1 = .ok (.getfield 15, 3) := by decide +kernel
theorem dX3_end_4 : decode cX3_end 4 = .ok (.ireturn, 1) := by decide +kernel
set_option maxRecDepth 20000 in
theorem ggX3_hasRoomFor_X2_length : GoodIn wsX3_hasRoomFor wsX2_length := goodIn_r _ [6, 7, 8, 9, 5, 10, 11, 12, 13, 14, 15, 16, 17, 18, 19, 38, 39, 40, 41] (by decide +kernel) (by decide +kernel)
set_option maxRecDepth 20000 in
theorem gX3_hasRoomFor_X2_length : GoodIn wsX3_hasRoomFor (wsV RX3 61 RX2 yX2_length wsX2_length) := goodIn_app (goodIn_of _ (by decide +kernel)) ggX3_hasRoomFor_X2_length
set_option maxRecDepth 20000 in
theorem ggX3_hasRoomFor_X3_bankBytes : GoodIn wsX3_hasRoomFor wsX3_bankBytes := goodIn_r _ [24, 25, 26, 27, 28, 29, 30, 31, 32, 33, 34, 35, 36, 37, 42] (by decide +kernel) (by decide +kernel)
set_option maxRecDepth 20000 in
theorem gX3_hasRoomFor_X3_bankBytes : GoodIn wsX3_hasRoomFor (wsV RX3 66 RX3 yX3_bankBytes wsX3_bankBytes) := goodIn_app (goodIn_of _ (by decide +kernel)) ggX3_hasRoomFor_X3_bankBytes
theorem dX3_hasRoomFor_0 : decode cX3_hasRoomFor 0 = .ok (.aload_n 1, 1) := by decide +kernel
theorem dX3_hasRoomFor_1 : decode cX3_hasRoomFor 1 = .ok (.invokevirtual 61, 3) := by decide +kernel
theorem dX3_hasRoomFor_4 : decode cX3_hasRoomFor 4 = .ok (.aload_n 0, 1) := by decide +kernel
theorem dX3_hasRoomFor_5 : decode cX3_hasRoomFor 5 = .ok (.invokevirtual 66, 3) := by decide +kernel
theorem dX3_hasRoomFor_8 : decode cX3_hasRoomFor 8 = .ok (.aload_n 0, 1) := by decide +kernel
theorem dX3_hasRoomFor_9 : decode cX3_hasRoomFor 9 = .ok (.getfield 15, 3) := by decide +kernel
theorem dX3_hasRoomFor_12 : decode cX3_hasRoomFor 12 = .ok (.isub, 1) := by decide +kernel
theorem dX3_hasRoomFor_13 : decode cX3_hasRoomFor 13 = .ok (.if_icmp .gt 7, 3) := by decide +kernel
theorem dX3_hasRoomFor_16 : decode cX3_hasRoomFor 16 = .ok (.iconst 1, 1) := by decide +kernel
theorem dX3_hasRoomFor_17 : decode cX3_hasRoomFor 17 = .ok (.goto 4, 3) := by decide +kernel
theorem dX3_hasRoomFor_20 : decode cX3_hasRoomFor 20 = .ok (.iconst 0, 1) := by decide +kernel
theorem dX3_hasRoomFor_21 : decode cX3_hasRoomFor 21 = .ok (.ireturn, 1) := by decide +kernel
set_option maxRecDepth 20000 in
theorem ggX3_append_X3_bank : GoodIn wsX3_append wsX3_bank := goodIn_r _ [9, 10, 11, 86, 87, 88, 89, 90, 91] (by decide +kernel) (by decide +kernel)
set_option maxRecDepth 20000 in
theorem gX3_append_X3_bank : GoodIn wsX3_append (wsV RX3 53 RX3 yX3_bank wsX3_bank) := goodIn_app (goodIn_of _ (by decide +kernel)) ggX3_append_X3_bank
set_option maxRecDepth 20000 in
theorem ggX3_append_X5_goTo : GoodIn wsX3_append wsX5_goTo := goodIn_r _ [16, 17, 18, 92, 93, 94, 95] (by decide +kernel) (by decide +kernel)
set_option maxRecDepth 20000 in
theorem gX3_append_X5_goTo : GoodIn wsX3_append (wsV RX3 69 RX5 yX5_goTo wsX5_goTo) := goodIn_app (goodIn_of _ (by decide +kernel)) ggX3_append_X5_goTo
set_option maxRecDepth 20000 in
theorem ggX3_append_X5_writeRecord : GoodIn wsX3_append wsX5_writeRecord := goodIn_r _ [22, 23, 24, 25, 26, 27, 28, 29, 30, 31, 32, 33, 34, 35, 36, 37, 38, 39, 40, 41, 42, 43, 44, 15, 45, 46, 47, 48, 49, 50, 51, 52, 53, 54, 55, 17, 18, 56, 57, 58, 59, 60, 61, 62, 63, 64, 65, 66, 67, 68, 69, 70, 71, 72, 73, 74, 75, 76, 77, 92, 93, 94, 95, 96, 97, 98, 99, 100, 101, 102, 103, 104, 105] (by decide +kernel) (by decide +kernel)
set_option maxRecDepth 20000 in
theorem gX3_append_X5_writeRecord : GoodIn wsX3_append (wsV RX3 73 RX5 yX5_writeRecord wsX5_writeRecord) := goodIn_app (goodIn_of _ (by decide +kernel)) ggX3_append_X5_writeRecord
set_option maxRecDepth 20000 in
theorem ggX3_append_X6_isUp : GoodIn wsX3_append wsX6_isUp := goodIn_r _ [81, 61, 100, 101, 102, 103, 104] (by decide +kernel) (by decide +kernel)
set_option maxRecDepth 20000 in
theorem gX3_append_X6_isUp : GoodIn wsX3_append (wsV RX3 77 RX6 yX6_isUp wsX6_isUp) := goodIn_app (goodIn_of _ (by decide +kernel)) ggX3_append_X6_isUp
set_option maxRecDepth 20000 in
theorem ggX3_append_X5_position : GoodIn wsX3_append wsX5_position := goodIn_r _ [85, 18, 92, 93, 94, 95] (by decide +kernel) (by decide +kernel)
set_option maxRecDepth 20000 in
theorem gX3_append_X5_position : GoodIn wsX3_append (wsV RX3 81 RX5 yX5_position wsX5_position) := goodIn_app (goodIn_of _ (by decide +kernel)) ggX3_append_X5_position
theorem dX3_append_0 : decode cX3_append 0 = .ok (.aload_n 0, 1) := by decide +kernel
theorem dX3_append_1 : decode cX3_append 1 = .ok (.getfield 39, 3) := by decide +kernel
theorem dX3_append_4 : decode cX3_append 4 = .ok (.aload_n 0, 1) := by decide +kernel
theorem dX3_append_5 : decode cX3_append 5 = .ok (.aload_n 0, 1) := by decide +kernel
theorem dX3_append_6 : decode cX3_append 6 = .ok (.getfield 9, 3) := by decide +kernel
theorem dX3_append_9 : decode cX3_append 9 = .ok (.invokevirtual 53, 3) := by decide +kernel
theorem dX3_append_12 : decode cX3_append 12 = .ok (.aload_n 0, 1) := by decide +kernel
theorem dX3_append_13 : decode cX3_append 13 = .ok (.getfield 15, 3) := by decide +kernel
theorem dX3_append_16 : decode cX3_append 16 = .ok (.invokevirtual 69, 3) := by decide +kernel
theorem dX3_append_19 : decode cX3_append 19 = .ok (.aload_n 0, 1) := by decide +kernel
theorem dX3_append_20 : decode cX3_append 20 = .ok (.getfield 39, 3) := by decide +kernel
theorem dX3_append_23 : decode cX3_append 23 = .ok (.aload_n 1, 1) := by decide +kernel
theorem dX3_append_24 : decode cX3_append 24 = .ok (.invokevirtual 73, 3) := by decide +kernel
theorem dX3_append_27 : decode cX3_append 27 = .ok (.aload_n 0, 1) := by decide +kernel
theorem dX3_append_28 : decode cX3_append 28 = .ok (.getfield 18, 3) := by decide +kernel
theorem dX3_append_31 : decode cX3_append 31 = .ok (.invokevirtual 77, 3) := by decide +kernel
theorem dX3_append_34 : decode cX3_append 34 = .ok (.ifCond .ne 5, 3) := by decide +kernel
theorem dX3_append_37 : decode cX3_append 37 = .ok (.iconst 0, 1) := by decide +kernel
theorem dX3_append_38 : decode cX3_append 38 = .ok (.ireturn, 1) := by decide +kernel
theorem dX3_append_39 : decode cX3_append 39 = .ok (.aload_n 0, 1) := by decide +kernel
theorem dX3_append_40 : decode cX3_append 40 = .ok (.aload_n 0, 1) := by decide +kernel
theorem dX3_append_41 : decode cX3_append 41 = .ok (.getfield 39, 3) := by decide +kernel
theorem dX3_append_44 : decode cX3_append 44 = .ok (.invokevirtual 81, 3) := by decide +kernel
theorem dX3_append_47 : decode cX3_append 47 = .ok (.putfield 15, 3) := by decide +kernel
theorem dX3_append_50 : decode cX3_append 50 = .ok (.iconst 1, 1) := by decide +kernel
theorem dX3_append_51 : decode cX3_append 51 = .ok (.ireturn, 1) := by decide +kernel
set_option maxRecDepth 20000 in
theorem ggX3_otherBankHolds_X3_bankBytes : GoodIn wsX3_otherBankHolds wsX3_bankBytes := goodIn_r _ [5, 6, 7, 8, 9, 10, 11, 12, 13, 14, 15, 16, 17, 18, 19] (by decide +kernel) (by decide +kernel)
set_option maxRecDepth 20000 in
theorem gX3_otherBankHolds_X3_bankBytes : GoodIn wsX3_otherBankHolds (wsV RX3 66 RX3 yX3_bankBytes wsX3_bankBytes) := goodIn_app (goodIn_of _ (by decide +kernel)) ggX3_otherBankHolds_X3_bankBytes
theorem dX3_otherBankHolds_0 : decode cX3_otherBankHolds 0 = .ok (.bipush 25, 2) := by decide +kernel
theorem dX3_otherBankHolds_2 : decode cX3_otherBankHolds 2 = .ok (.iload_n 1, 1) := by decide +kernel
theorem dX3_otherBankHolds_3 : decode cX3_otherBankHolds 3 = .ok (.bipush 19, 2) := by decide +kernel
theorem dX3_otherBankHolds_5 : decode cX3_otherBankHolds 5 = .ok (.imul, 1) := by decide +kernel
theorem dX3_otherBankHolds_6 : decode cX3_otherBankHolds 6 = .ok (.iadd, 1) := by decide +kernel
theorem dX3_otherBankHolds_7 : decode cX3_otherBankHolds 7 = .ok (.aload_n 0, 1) := by decide +kernel
theorem dX3_otherBankHolds_8 : decode cX3_otherBankHolds 8 = .ok (.invokevirtual 66, 3) := by decide +kernel
theorem dX3_otherBankHolds_11 : decode cX3_otherBankHolds 11 = .ok (.if_icmp .gt 7, 3) := by decide +kernel
theorem dX3_otherBankHolds_14 : decode cX3_otherBankHolds 14 = .ok (.iconst 1, 1) := by decide +kernel
theorem dX3_otherBankHolds_15 : decode cX3_otherBankHolds 15 = .ok (.goto 4, 3) := by decide +kernel
theorem dX3_otherBankHolds_18 : decode cX3_otherBankHolds 18 = .ok (.iconst 0, 1) := by decide +kernel
theorem dX3_otherBankHolds_19 : decode cX3_otherBankHolds 19 = .ok (.ireturn, 1) := by decide +kernel
set_option maxRecDepth 20000 in
theorem ggX3_writeAnew_X3_bank : GoodIn wsX3_writeAnew wsX3_bank := goodIn_r _ [9, 10, 11, 153, 154, 155, 156, 157, 158] (by decide +kernel) (by decide +kernel)
set_option maxRecDepth 20000 in
theorem gX3_writeAnew_X3_bank : GoodIn wsX3_writeAnew (wsV RX3 53 RX3 yX3_bank wsX3_bank) := goodIn_app (goodIn_of _ (by decide +kernel)) ggX3_writeAnew_X3_bank
set_option maxRecDepth 20000 in
theorem ggX3_writeAnew_X5_goTo : GoodIn wsX3_writeAnew wsX5_goTo := goodIn_r _ [16, 17, 18, 159, 160, 161, 162] (by decide +kernel) (by decide +kernel)
set_option maxRecDepth 20000 in
theorem gX3_writeAnew_X5_goTo : GoodIn wsX3_writeAnew (wsV RX3 69 RX5 yX5_goTo wsX5_goTo) := goodIn_app (goodIn_of _ (by decide +kernel)) ggX3_writeAnew_X5_goTo
set_option maxRecDepth 20000 in
theorem ggX3_writeAnew_X0_size : GoodIn wsX3_writeAnew wsX0_size := goodIn_r _ [23, 24, 163] (by decide +kernel) (by decide +kernel)
set_option maxRecDepth 20000 in
theorem gX3_writeAnew_X0_size : GoodIn wsX3_writeAnew (wsV RX3 49 RX0 yX0_size wsX0_size) := goodIn_app (goodIn_of _ (by decide +kernel)) ggX3_writeAnew_X0_size
set_option maxRecDepth 20000 in
theorem ggX3_writeAnew_X5_writeZeros : GoodIn wsX3_writeAnew wsX5_writeZeros := goodIn_r _ [28, 29, 30, 31, 15, 32, 33, 17, 18, 34, 35, 36, 37, 38, 39, 40, 41, 42, 43, 44, 45, 46, 22, 47, 24, 159, 160, 161, 162, 164, 165, 166, 167, 168, 163] (by decide +kernel) (by decide +kernel)
set_option maxRecDepth 20000 in
theorem gX3_writeAnew_X5_writeZeros : GoodIn wsX3_writeAnew (wsV RX3 84 RX5 yX5_writeZeros wsX5_writeZeros) := goodIn_app (goodIn_of _ (by decide +kernel)) ggX3_writeAnew_X5_writeZeros
set_option maxRecDepth 20000 in
theorem ggX3_writeAnew_X7_lostVolume : GoodIn wsX3_writeAnew wsX7_lostVolume := goodIn_r _ [52, 53, 169, 170, 171, 172, 173, 174, 175] (by decide +kernel) (by decide +kernel)
set_option maxRecDepth 20000 in
theorem gX3_writeAnew_X7_lostVolume : GoodIn wsX3_writeAnew (wsV RX3 87 RX7 yX7_lostVolume wsX7_lostVolume) := goodIn_app (goodIn_of _ (by decide +kernel)) ggX3_writeAnew_X7_lostVolume
set_option maxRecDepth 20000 in
theorem ggX3_writeAnew_X2_set : GoodIn wsX3_writeAnew wsX2_set := goodIn_r _ [58, 59, 60, 61, 62, 176, 177, 178, 179] (by decide +kernel) (by decide +kernel)
set_option maxRecDepth 20000 in
theorem gX3_writeAnew_X2_set : GoodIn wsX3_writeAnew (wsV RX3 93 RX2 yX2_set wsX2_set) := goodIn_app (goodIn_of _ (by decide +kernel)) ggX3_writeAnew_X2_set
set_option maxRecDepth 20000 in
theorem ggX3_writeAnew_X5_writeRecord : GoodIn wsX3_writeAnew wsX5_writeRecord := goodIn_r _ [66, 67, 68, 69, 70, 57, 71, 72, 73, 74, 75, 59, 76, 77, 78, 79, 80, 81, 82, 83, 84, 85, 86, 15, 87, 88, 89, 90, 91, 92, 29, 30, 31, 32, 33, 17, 18, 34, 35, 36, 37, 38, 39, 40, 41, 42, 43, 44, 45, 46, 22, 47, 24, 93, 94, 95, 96, 97, 98, 159, 160, 161, 162, 176, 177, 178, 179, 164, 165, 166, 167, 168, 163] (by decide +kernel) (by decide +kernel)
set_option maxRecDepth 20000 in
theorem gX3_writeAnew_X5_writeRecord : GoodIn wsX3_writeAnew (wsV RX3 73 RX5 yX5_writeRecord wsX5_writeRecord) := goodIn_app (goodIn_of _ (by decide +kernel)) ggX3_writeAnew_X5_writeRecord
set_option maxRecDepth 20000 in
theorem ggX3_writeAnew_X7_sampleCount : GoodIn wsX3_writeAnew wsX7_sampleCount := goodIn_r _ [102, 103, 169, 170, 171, 172, 173, 174, 175] (by decide +kernel) (by decide +kernel)
set_option maxRecDepth 20000 in
theorem gX3_writeAnew_X7_sampleCount : GoodIn wsX3_writeAnew (wsV RX3 97 RX7 yX7_sampleCount wsX7_sampleCount) := goodIn_app (goodIn_of _ (by decide +kernel)) ggX3_writeAnew_X7_sampleCount
set_option maxRecDepth 20000 in
theorem ggX3_writeAnew_X7_isLive : GoodIn wsX3_writeAnew wsX7_isLive := goodIn_r _ [107, 108, 109, 110, 51, 111, 112, 113, 114, 115, 116, 103, 169, 170, 171, 172, 173, 174, 175] (by decide +kernel) (by decide +kernel)
set_option maxRecDepth 20000 in
theorem gX3_writeAnew_X7_isLive : GoodIn wsX3_writeAnew (wsV RX3 100 RX7 yX7_isLive wsX7_isLive) := goodIn_app (goodIn_of _ (by decide +kernel)) ggX3_writeAnew_X7_isLive
set_option maxRecDepth 20000 in
theorem ggX3_writeAnew_X7_wellOf : GoodIn wsX3_writeAnew wsX7_wellOf := goodIn_r _ [111, 112, 113, 114, 115, 51, 116, 103, 169, 170, 171, 172, 173, 174, 175] (by decide +kernel) (by decide +kernel)
set_option maxRecDepth 20000 in
theorem gX3_writeAnew_X7_wellOf : GoodIn wsX3_writeAnew (wsV RX3 104 RX7 yX7_wellOf wsX7_wellOf) := goodIn_app (goodIn_of _ (by decide +kernel)) ggX3_writeAnew_X7_wellOf
set_option maxRecDepth 20000 in
theorem ggX3_writeAnew_X7_parentOf : GoodIn wsX3_writeAnew wsX7_parentOf := goodIn_r _ [121, 122, 113, 114, 115, 51, 116, 103, 169, 170, 171, 172, 173, 174, 175] (by decide +kernel) (by decide +kernel)
set_option maxRecDepth 20000 in
theorem gX3_writeAnew_X7_parentOf : GoodIn wsX3_writeAnew (wsV RX3 108 RX7 yX7_parentOf wsX7_parentOf) := goodIn_app (goodIn_of _ (by decide +kernel)) ggX3_writeAnew_X7_parentOf
set_option maxRecDepth 20000 in
theorem ggX3_writeAnew_X7_volumeOf : GoodIn wsX3_writeAnew wsX7_volumeOf := goodIn_r _ [126, 127, 128, 113, 114, 115, 51, 116, 103, 169, 170, 171, 172, 173, 174, 175] (by decide +kernel) (by decide +kernel)
set_option maxRecDepth 20000 in
theorem gX3_writeAnew_X7_volumeOf : GoodIn wsX3_writeAnew (wsV RX3 111 RX7 yX7_volumeOf wsX7_volumeOf) := goodIn_app (goodIn_of _ (by decide +kernel)) ggX3_writeAnew_X7_volumeOf
set_option maxRecDepth 20000 in
theorem ggX3_writeAnew_X5_position : GoodIn wsX3_writeAnew wsX5_position := goodIn_r _ [132, 18, 159, 160, 161, 162] (by decide +kernel) (by decide +kernel)
set_option maxRecDepth 20000 in
theorem gX3_writeAnew_X5_position : GoodIn wsX3_writeAnew (wsV RX3 81 RX5 yX5_position wsX5_position) := goodIn_app (goodIn_of _ (by decide +kernel)) ggX3_writeAnew_X5_position
set_option maxRecDepth 20000 in
theorem ggX3_writeAnew_X3_generation : GoodIn wsX3_writeAnew wsX3_generation := goodIn_r _ [136, 1, 5, 6, 7, 8, 9, 10, 11, 137, 138, 139, 22, 140, 141, 142, 143, 144, 24, 153, 154, 155, 156, 157, 158, 163] (by decide +kernel) (by decide +kernel)
set_option maxRecDepth 20000 in
theorem gX3_writeAnew_X3_generation : GoodIn wsX3_writeAnew (wsV RX3 115 RX3 yX3_generation wsX3_generation) := goodIn_app (goodIn_of _ (by decide +kernel)) ggX3_writeAnew_X3_generation
set_option maxRecDepth 20000 in
theorem ggX3_writeAnew_X5_writeHead : GoodIn wsX3_writeAnew wsX5_writeHead := goodIn_r _ [148, 67, 84, 85, 86, 15, 87, 88, 89, 90, 91, 92, 29, 30, 31, 32, 33, 17, 18, 34, 35, 36, 37, 38, 39, 40, 41, 42, 43, 44, 45, 46, 22, 47, 24, 96, 97, 98, 159, 160, 161, 162, 164, 165, 166, 167, 168, 163] (by decide +kernel) (by decide +kernel)
set_option maxRecDepth 20000 in
theorem gX3_writeAnew_X5_writeHead : GoodIn wsX3_writeAnew (wsV RX3 46 RX5 yX5_writeHead wsX5_writeHead) := goodIn_app (goodIn_of _ (by decide +kernel)) ggX3_writeAnew_X5_writeHead
set_option maxRecDepth 20000 in
theorem ggX3_writeAnew_X6_isUp : GoodIn wsX3_writeAnew wsX6_isUp := goodIn_r _ [152, 39, 164, 165, 166, 167, 168] (by decide +kernel) (by decide +kernel)
set_option maxRecDepth 20000 in
theorem gX3_writeAnew_X6_isUp : GoodIn wsX3_writeAnew (wsV RX3 77 RX6 yX6_isUp wsX6_isUp) := goodIn_app (goodIn_of _ (by decide +kernel)) ggX3_writeAnew_X6_isUp
theorem dX3_writeAnew_0 : decode cX3_writeAnew 0 = .ok (.aload_n 0, 1) := by decide +kernel
theorem dX3_writeAnew_1 : decode cX3_writeAnew 1 = .ok (.iconst 1, 1) := by decide +kernel
theorem dX3_writeAnew_2 : decode cX3_writeAnew 2 = .ok (.aload_n 0, 1) := by decide +kernel
theorem dX3_writeAnew_3 : decode cX3_writeAnew 3 = .ok (.getfield 9, 3) := by decide +kernel
theorem dX3_writeAnew_6 : decode cX3_writeAnew 6 = .ok (.isub, 1) := by decide +kernel
theorem dX3_writeAnew_7 : decode cX3_writeAnew 7 = .ok (.invokevirtual 53, 3) := by decide +kernel
theorem dX3_writeAnew_10 : decode cX3_writeAnew 10 = .ok (.astore_n 3, 1) := by decide +kernel
theorem dX3_writeAnew_11 : decode cX3_writeAnew 11 = .ok (.aload_n 0, 1) := by decide +kernel
theorem dX3_writeAnew_12 : decode cX3_writeAnew 12 = .ok (.getfield 39, 3) := by decide +kernel
theorem dX3_writeAnew_15 : decode cX3_writeAnew 15 = .ok (.aload_n 3, 1) := by decide +kernel
theorem dX3_writeAnew_16 : decode cX3_writeAnew 16 = .ok (.iconst 0, 1) := by decide +kernel
theorem dX3_writeAnew_17 : decode cX3_writeAnew 17 = .ok (.invokevirtual 69, 3) := by decide +kernel
theorem dX3_writeAnew_20 : decode cX3_writeAnew 20 = .ok (.aload_n 0, 1) := by decide +kernel
theorem dX3_writeAnew_21 : decode cX3_writeAnew 21 = .ok (.getfield 39, 3) := by decide +kernel
theorem dX3_writeAnew_24 : decode cX3_writeAnew 24 = .ok (.aload_n 3, 1) := by decide +kernel
theorem dX3_writeAnew_25 : decode cX3_writeAnew 25 = .ok (.invokevirtual 49, 3) := by decide +kernel
theorem dX3_writeAnew_28 : decode cX3_writeAnew 28 = .ok (.invokevirtual 84, 3) := by decide +kernel
theorem dX3_writeAnew_31 : decode cX3_writeAnew 31 = .ok (.aload_n 0, 1) := by decide +kernel
theorem dX3_writeAnew_32 : decode cX3_writeAnew 32 = .ok (.getfield 39, 3) := by decide +kernel
theorem dX3_writeAnew_35 : decode cX3_writeAnew 35 = .ok (.aload_n 3, 1) := by decide +kernel
theorem dX3_writeAnew_36 : decode cX3_writeAnew 36 = .ok (.bipush 9, 2) := by decide +kernel
theorem dX3_writeAnew_38 : decode cX3_writeAnew 38 = .ok (.invokevirtual 69, 3) := by decide +kernel
theorem dX3_writeAnew_41 : decode cX3_writeAnew 41 = .ok (.aload_n 2, 1) := by decide +kernel
theorem dX3_writeAnew_42 : decode cX3_writeAnew 42 = .ok (.bipush 7, 2) := by decide +kernel
theorem dX3_writeAnew_44 : decode cX3_writeAnew 44 = .ok (.iconst 0, 1) := by decide +kernel
theorem dX3_writeAnew_45 : decode cX3_writeAnew 45 = .ok (.iconst 0, 1) := by decide +kernel
theorem dX3_writeAnew_46 : decode cX3_writeAnew 46 = .ok (.aload_n 1, 1) := by decide +kernel
theorem dX3_writeAnew_47 : decode cX3_writeAnew 47 = .ok (.invokevirtual 87, 3) := by decide +kernel
theorem dX3_writeAnew_50 : decode cX3_writeAnew 50 = .ok (.invokevirtual 93, 3) := by decide +kernel
theorem dX3_writeAnew_53 : decode cX3_writeAnew 53 = .ok (.aload_n 0, 1) := by decide +kernel
theorem dX3_writeAnew_54 : decode cX3_writeAnew 54 = .ok (.getfield 39, 3) := by decide +kernel
theorem dX3_writeAnew_57 : decode cX3_writeAnew 57 = .ok (.aload_n 2, 1) := by decide +kernel
theorem dX3_writeAnew_58 : decode cX3_writeAnew 58 = .ok (.invokevirtual 73, 3) := by decide +kernel
theorem dX3_writeAnew_61 : decode cX3_writeAnew 61 = .ok (.iconst 1, 1) := by decide +kernel
theorem dX3_writeAnew_62 : decode cX3_writeAnew 62 = .ok (.istore 4, 2) := by decide +kernel
theorem dX3_writeAnew_64 : decode cX3_writeAnew 64 = .ok (.iload 4, 2) := by decide +kernel
theorem dX3_writeAnew_66 : decode cX3_writeAnew 66 = .ok (.aload_n 1, 1) := by decide +kernel
theorem dX3_writeAnew_67 : decode cX3_writeAnew 67 = .ok (.invokevirtual 97, 3) := by decide +kernel
theorem dX3_writeAnew_70 : decode cX3_writeAnew 70 = .ok (.if_icmp .gt 60, 3) := by decide +kernel
theorem dX3_writeAnew_73 : decode cX3_writeAnew 73 = .ok (.aload_n 1, 1) := by decide +kernel
theorem dX3_writeAnew_74 : decode cX3_writeAnew 74 = .ok (.iload 4, 2) := by decide +kernel
theorem dX3_writeAnew_76 : decode cX3_writeAnew 76 = .ok (.invokevirtual 100, 3) := by decide +kernel
theorem dX3_writeAnew_79 : decode cX3_writeAnew 79 = .ok (.ifCond .eq 12, 3) := by decide +kernel
theorem dX3_writeAnew_82 : decode cX3_writeAnew 82 = .ok (.aload_n 1, 1) := by decide +kernel
theorem dX3_writeAnew_83 : decode cX3_writeAnew 83 = .ok (.iload 4, 2) := by decide +kernel
theorem dX3_writeAnew_85 : decode cX3_writeAnew 85 = .ok (.invokevirtual 104, 3) := by decide +kernel
theorem dX3_writeAnew_88 : decode cX3_writeAnew 88 = .ok (.goto 6, 3) := by decide +kernel
theorem dX3_writeAnew_91 : decode cX3_writeAnew 91 = .ok (.sipush 255, 3) := by decide +kernel
theorem dX3_writeAnew_94 : decode cX3_writeAnew 94 = .ok (.istore 5, 2) := by decide +kernel
theorem dX3_writeAnew_96 : decode cX3_writeAnew 96 = .ok (.aload_n 2, 1) := by decide +kernel
theorem dX3_writeAnew_97 : decode cX3_writeAnew 97 = .ok (.bipush 6, 2) := by decide +kernel
theorem dX3_writeAnew_99 : decode cX3_writeAnew 99 = .ok (.aload_n 1, 1) := by decide +kernel
theorem dX3_writeAnew_100 : decode cX3_writeAnew 100 = .ok (.iload 4, 2) := by decide +kernel
theorem dX3_writeAnew_102 : decode cX3_writeAnew 102 = .ok (.invokevirtual 108, 3) := by decide +kernel
theorem dX3_writeAnew_105 : decode cX3_writeAnew 105 = .ok (.iload 5, 2) := by decide +kernel
theorem dX3_writeAnew_107 : decode cX3_writeAnew 107 = .ok (.aload_n 1, 1) := by decide +kernel
theorem dX3_writeAnew_108 : decode cX3_writeAnew 108 = .ok (.iload 4, 2) := by decide +kernel
theorem dX3_writeAnew_110 : decode cX3_writeAnew 110 = .ok (.invokevirtual 111, 3) := by decide +kernel
theorem dX3_writeAnew_113 : decode cX3_writeAnew 113 = .ok (.invokevirtual 93, 3) := by decide +kernel
theorem dX3_writeAnew_116 : decode cX3_writeAnew 116 = .ok (.aload_n 0, 1) := by decide +kernel
theorem dX3_writeAnew_117 : decode cX3_writeAnew 117 = .ok (.getfield 39, 3) := by decide +kernel
theorem dX3_writeAnew_120 : decode cX3_writeAnew 120 = .ok (.aload_n 2, 1) := by decide +kernel
theorem dX3_writeAnew_121 : decode cX3_writeAnew 121 = .ok (.invokevirtual 73, 3) := by decide +kernel
theorem dX3_writeAnew_124 : decode cX3_writeAnew 124 = .ok (.iinc 4 1, 3) := by decide +kernel
theorem dX3_writeAnew_127 : decode cX3_writeAnew 127 = .ok (.goto (-63), 3) := by decide +kernel
theorem dX3_writeAnew_130 : decode cX3_writeAnew 130 = .ok (.aload_n 0, 1) := by decide +kernel
theorem dX3_writeAnew_131 : decode cX3_writeAnew 131 = .ok (.getfield 39, 3) := by decide +kernel
theorem dX3_writeAnew_134 : decode cX3_writeAnew 134 = .ok (.invokevirtual 81, 3) := by decide +kernel
theorem dX3_writeAnew_137 : decode cX3_writeAnew 137 = .ok (.istore 4, 2) := by decide +kernel
theorem dX3_writeAnew_139 : decode cX3_writeAnew 139 = .ok (.aload_n 0, 1) := by decide +kernel
theorem dX3_writeAnew_140 : decode cX3_writeAnew 140 = .ok (.getfield 39, 3) := by decide +kernel
theorem dX3_writeAnew_143 : decode cX3_writeAnew 143 = .ok (.aload_n 3, 1) := by decide +kernel
theorem dX3_writeAnew_144 : decode cX3_writeAnew 144 = .ok (.iconst 0, 1) := by decide +kernel
theorem dX3_writeAnew_145 : decode cX3_writeAnew 145 = .ok (.invokevirtual 69, 3) := by decide +kernel
theorem dX3_writeAnew_148 : decode cX3_writeAnew 148 = .ok (.aload_n 0, 1) := by decide +kernel
theorem dX3_writeAnew_149 : decode cX3_writeAnew 149 = .ok (.getfield 39, 3) := by decide +kernel
theorem dX3_writeAnew_152 : decode cX3_writeAnew 152 = .ok (.aload_n 0, 1) := by decide +kernel
theorem dX3_writeAnew_153 : decode cX3_writeAnew 153 = .ok (.invokevirtual 115, 3) := by decide +kernel
theorem dX3_writeAnew_156 : decode cX3_writeAnew 156 = .ok (.iconst 1, 1) := by decide +kernel
theorem dX3_writeAnew_157 : decode cX3_writeAnew 157 = .ok (.iadd, 1) := by decide +kernel
theorem dX3_writeAnew_158 : decode cX3_writeAnew 158 = .ok (.invokevirtual 46, 3) := by decide +kernel
theorem dX3_writeAnew_161 : decode cX3_writeAnew 161 = .ok (.aload_n 0, 1) := by decide +kernel
theorem dX3_writeAnew_162 : decode cX3_writeAnew 162 = .ok (.getfield 18, 3) := by decide +kernel
theorem dX3_writeAnew_165 : decode cX3_writeAnew 165 = .ok (.invokevirtual 77, 3) := by decide +kernel
theorem dX3_writeAnew_168 : decode cX3_writeAnew 168 = .ok (.ifCond .ne 5, 3) := by decide +kernel
theorem dX3_writeAnew_171 : decode cX3_writeAnew 171 = .ok (.iconst 0, 1) := by decide +kernel
theorem dX3_writeAnew_172 : decode cX3_writeAnew 172 = .ok (.ireturn, 1) := by decide +kernel
theorem dX3_writeAnew_173 : decode cX3_writeAnew 173 = .ok (.aload_n 0, 1) := by decide +kernel
theorem dX3_writeAnew_174 : decode cX3_writeAnew 174 = .ok (.iconst 1, 1) := by decide +kernel
theorem dX3_writeAnew_175 : decode cX3_writeAnew 175 = .ok (.aload_n 0, 1) := by decide +kernel
theorem dX3_writeAnew_176 : decode cX3_writeAnew 176 = .ok (.getfield 9, 3) := by decide +kernel
theorem dX3_writeAnew_179 : decode cX3_writeAnew 179 = .ok (.isub, 1) := by decide +kernel
theorem dX3_writeAnew_180 : decode cX3_writeAnew 180 = .ok (.putfield 9, 3) := by decide +kernel
theorem dX3_writeAnew_183 : decode cX3_writeAnew 183 = .ok (.aload_n 0, 1) := by decide +kernel
theorem dX3_writeAnew_184 : decode cX3_writeAnew 184 = .ok (.iload 4, 2) := by decide +kernel
theorem dX3_writeAnew_186 : decode cX3_writeAnew 186 = .ok (.putfield 15, 3) := by decide +kernel
theorem dX3_writeAnew_189 : decode cX3_writeAnew 189 = .ok (.iconst 1, 1) := by decide +kernel
theorem dX3_writeAnew_190 : decode cX3_writeAnew 190 = .ok (.ireturn, 1) := by decide +kernel
set_option maxRecDepth 20000 in
theorem ggX3_chooseBank_X0_hasRightHead : GoodIn wsX3_chooseBank wsX0_hasRightHead := goodIn_r _ [9, 10, 11, 12, 8, 13, 14, 15, 16, 17, 18, 19, 20, 21, 22, 23, 24, 25, 26, 27, 28, 29, 30, 38] (by decide +kernel) (by decide +kernel)
set_option maxRecDepth 20000 in
theorem gX3_chooseBank_X0_hasRightHead : GoodIn wsX3_chooseBank (wsV RX3 118 RX0 yX0_hasRightHead wsX0_hasRightHead) := goodIn_app (goodIn_of _ (by decide +kernel)) ggX3_chooseBank_X0_hasRightHead
set_option maxRecDepth 20000 in
theorem ggX3_chooseBank_X0_number : GoodIn wsX3_chooseBank wsX0_number := goodIn_r _ [27, 14, 15, 16, 8, 17, 18, 38] (by decide +kernel) (by decide +kernel)
set_option maxRecDepth 20000 in
theorem gX3_chooseBank_X0_number : GoodIn wsX3_chooseBank (wsV RX3 57 RX0 yX0_number wsX0_number) := goodIn_app (goodIn_of _ (by decide +kernel)) ggX3_chooseBank_X0_number
theorem dX3_chooseBank_0 : decode cX3_chooseBank 0 = .ok (.aload_n 0, 1) := by decide +kernel
theorem dX3_chooseBank_1 : decode cX3_chooseBank 1 = .ok (.getfield 27, 3) := by decide +kernel
theorem dX3_chooseBank_4 : decode cX3_chooseBank 4 = .ok (.invokevirtual 118, 3) := by decide +kernel
theorem dX3_chooseBank_7 : decode cX3_chooseBank 7 = .ok (.istore_n 1, 1) := by decide +kernel
theorem dX3_chooseBank_8 : decode cX3_chooseBank 8 = .ok (.aload_n 0, 1) := by decide +kernel
theorem dX3_chooseBank_9 : decode cX3_chooseBank 9 = .ok (.getfield 31, 3) := by decide +kernel
theorem dX3_chooseBank_12 : decode cX3_chooseBank 12 = .ok (.invokevirtual 118, 3) := by decide +kernel
theorem dX3_chooseBank_15 : decode cX3_chooseBank 15 = .ok (.istore_n 2, 1) := by decide +kernel
theorem dX3_chooseBank_16 : decode cX3_chooseBank 16 = .ok (.aload_n 0, 1) := by decide +kernel
theorem dX3_chooseBank_17 : decode cX3_chooseBank 17 = .ok (.getfield 31, 3) := by decide +kernel
theorem dX3_chooseBank_20 : decode cX3_chooseBank 20 = .ok (.iconst 0, 1) := by decide +kernel
theorem dX3_chooseBank_21 : decode cX3_chooseBank 21 = .ok (.iconst 4, 1) := by decide +kernel
theorem dX3_chooseBank_22 : decode cX3_chooseBank 22 = .ok (.invokevirtual 57, 3) := by decide +kernel
theorem dX3_chooseBank_25 : decode cX3_chooseBank 25 = .ok (.aload_n 0, 1) := by decide +kernel
theorem dX3_chooseBank_26 : decode cX3_chooseBank 26 = .ok (.getfield 27, 3) := by decide +kernel
theorem dX3_chooseBank_29 : decode cX3_chooseBank 29 = .ok (.iconst 0, 1) := by decide +kernel
theorem dX3_chooseBank_30 : decode cX3_chooseBank 30 = .ok (.iconst 4, 1) := by decide +kernel
theorem dX3_chooseBank_31 : decode cX3_chooseBank 31 = .ok (.invokevirtual 57, 3) := by decide +kernel
theorem dX3_chooseBank_34 : decode cX3_chooseBank 34 = .ok (.lcmp, 1) := by decide +kernel
theorem dX3_chooseBank_35 : decode cX3_chooseBank 35 = .ok (.ifCond .le 7, 3) := by decide +kernel
theorem dX3_chooseBank_38 : decode cX3_chooseBank 38 = .ok (.iconst 1, 1) := by decide +kernel
theorem dX3_chooseBank_39 : decode cX3_chooseBank 39 = .ok (.goto 4, 3) := by decide +kernel
theorem dX3_chooseBank_42 : decode cX3_chooseBank 42 = .ok (.iconst 0, 1) := by decide +kernel
theorem dX3_chooseBank_43 : decode cX3_chooseBank 43 = .ok (.istore_n 3, 1) := by decide +kernel
theorem dX3_chooseBank_44 : decode cX3_chooseBank 44 = .ok (.aload_n 0, 1) := by decide +kernel
theorem dX3_chooseBank_45 : decode cX3_chooseBank 45 = .ok (.iload_n 2, 1) := by decide +kernel
theorem dX3_chooseBank_46 : decode cX3_chooseBank 46 = .ok (.ifCond .eq 15, 3) := by decide +kernel
theorem dX3_chooseBank_49 : decode cX3_chooseBank 49 = .ok (.iload_n 3, 1) := by decide +kernel
theorem dX3_chooseBank_50 : decode cX3_chooseBank 50 = .ok (.ifCond .ne 7, 3) := by decide +kernel
theorem dX3_chooseBank_53 : decode cX3_chooseBank 53 = .ok (.iload_n 1, 1) := by decide +kernel
theorem dX3_chooseBank_54 : decode cX3_chooseBank 54 = .ok (.ifCond .ne 7, 3) := by decide +kernel
theorem dX3_chooseBank_57 : decode cX3_chooseBank 57 = .ok (.iconst 1, 1) := by decide +kernel
theorem dX3_chooseBank_58 : decode cX3_chooseBank 58 = .ok (.goto 4, 3) := by decide +kernel
theorem dX3_chooseBank_61 : decode cX3_chooseBank 61 = .ok (.iconst 0, 1) := by decide +kernel
theorem dX3_chooseBank_62 : decode cX3_chooseBank 62 = .ok (.putfield 9, 3) := by decide +kernel
theorem dX3_chooseBank_65 : decode cX3_chooseBank 65 = .ok (.aload_n 0, 1) := by decide +kernel
theorem dX3_chooseBank_66 : decode cX3_chooseBank 66 = .ok (.bipush 9, 2) := by decide +kernel
theorem dX3_chooseBank_68 : decode cX3_chooseBank 68 = .ok (.putfield 15, 3) := by decide +kernel
theorem dX3_chooseBank_71 : decode cX3_chooseBank 71 = .ok (.return_, 1) := by decide +kernel
set_option maxRecDepth 20000 in
theorem ggX3_readNext_X3_bank : GoodIn wsX3_readNext wsX3_bank := goodIn_r _ [7, 8, 9, 59, 60, 61, 62, 63, 64] (by decide +kernel) (by decide +kernel)
set_option maxRecDepth 20000 in
theorem gX3_readNext_X3_bank : GoodIn wsX3_readNext (wsV RX3 53 RX3 yX3_bank wsX3_bank) := goodIn_app (goodIn_of _ (by decide +kernel)) ggX3_readNext_X3_bank
set_option maxRecDepth 20000 in
theorem ggX3_readNext_X0_wholeRecordAt : GoodIn wsX3_readNext wsX0_wholeRecordAt := goodIn_r _ [14, 15, 16, 17, 18, 13, 19, 20, 21, 22, 23, 24, 25, 26, 27, 28, 29, 30, 31, 32, 33, 34, 35, 65] (by decide +kernel) (by decide +kernel)
set_option maxRecDepth 20000 in
theorem gX3_readNext_X0_wholeRecordAt : GoodIn wsX3_readNext (wsV RX3 121 RX0 yX0_wholeRecordAt wsX0_wholeRecordAt) := goodIn_app (goodIn_of _ (by decide +kernel)) ggX3_readNext_X0_wholeRecordAt
set_option maxRecDepth 20000 in
theorem ggX3_readNext_X2_readFrom : GoodIn wsX3_readNext wsX2_readFrom := goodIn_r _ [40, 41, 42, 43, 44, 45, 21, 22, 13, 23, 15, 46, 47, 48, 39, 49, 50, 17, 18, 19, 20, 51, 52, 53, 54, 55, 56, 57, 58, 66, 67, 68, 69, 65] (by decide +kernel) (by decide +kernel)
set_option maxRecDepth 20000 in
theorem gX3_readNext_X2_readFrom : GoodIn wsX3_readNext (wsV RX3 124 RX2 yX2_readFrom wsX2_readFrom) := goodIn_app (goodIn_of _ (by decide +kernel)) ggX3_readNext_X2_readFrom
theorem dX3_readNext_0 : decode cX3_readNext 0 = .ok (.aload_n 0, 1) := by decide +kernel
theorem dX3_readNext_1 : decode cX3_readNext 1 = .ok (.aload_n 0, 1) := by decide +kernel
theorem dX3_readNext_2 : decode cX3_readNext 2 = .ok (.getfield 9, 3) := by decide +kernel
theorem dX3_readNext_5 : decode cX3_readNext 5 = .ok (.invokevirtual 53, 3) := by decide +kernel
theorem dX3_readNext_8 : decode cX3_readNext 8 = .ok (.aload_n 0, 1) := by decide +kernel
theorem dX3_readNext_9 : decode cX3_readNext 9 = .ok (.getfield 15, 3) := by decide +kernel
theorem dX3_readNext_12 : decode cX3_readNext 12 = .ok (.invokevirtual 121, 3) := by decide +kernel
theorem dX3_readNext_15 : decode cX3_readNext 15 = .ok (.istore_n 2, 1) := by decide +kernel
theorem dX3_readNext_16 : decode cX3_readNext 16 = .ok (.iload_n 2, 1) := by decide +kernel
theorem dX3_readNext_17 : decode cX3_readNext 17 = .ok (.ifCond .ne 5, 3) := by decide +kernel
theorem dX3_readNext_20 : decode cX3_readNext 20 = .ok (.iconst 0, 1) := by decide +kernel
theorem dX3_readNext_21 : decode cX3_readNext 21 = .ok (.ireturn, 1) := by decide +kernel
theorem dX3_readNext_22 : decode cX3_readNext 22 = .ok (.aload_n 1, 1) := by decide +kernel
theorem dX3_readNext_23 : decode cX3_readNext 23 = .ok (.aload_n 0, 1) := by decide +kernel
theorem dX3_readNext_24 : decode cX3_readNext 24 = .ok (.aload_n 0, 1) := by decide +kernel
theorem dX3_readNext_25 : decode cX3_readNext 25 = .ok (.getfield 9, 3) := by decide +kernel
theorem dX3_readNext_28 : decode cX3_readNext 28 = .ok (.invokevirtual 53, 3) := by decide +kernel
theorem dX3_readNext_31 : decode cX3_readNext 31 = .ok (.aload_n 0, 1) := by decide +kernel
theorem dX3_readNext_32 : decode cX3_readNext 32 = .ok (.getfield 15, 3) := by decide +kernel
theorem dX3_readNext_35 : decode cX3_readNext 35 = .ok (.invokevirtual 124, 3) := by decide +kernel
theorem dX3_readNext_38 : decode cX3_readNext 38 = .ok (.aload_n 0, 1) := by decide +kernel
theorem dX3_readNext_39 : decode cX3_readNext 39 = .ok (.dup, 1) := by decide +kernel
theorem dX3_readNext_40 : decode cX3_readNext 40 = .ok (.getfield 15, 3) := by decide +kernel
theorem dX3_readNext_43 : decode cX3_readNext 43 = .ok (.iload_n 2, 1) := by decide +kernel
theorem dX3_readNext_44 : decode cX3_readNext 44 = .ok (.iadd, 1) := by decide +kernel
theorem dX3_readNext_45 : decode cX3_readNext 45 = .ok (.putfield 15, 3) := by decide +kernel
theorem dX3_readNext_48 : decode cX3_readNext 48 = .ok (.iconst 1, 1) := by decide +kernel
theorem dX3_readNext_49 : decode cX3_readNext 49 = .ok (.ireturn, 1) := by decide +kernel
set_option maxRecDepth 20000 in
theorem ggX3_blankTheRest_X3_bank : GoodIn wsX3_blankTheRest wsX3_bank := goodIn_r _ [7, 8, 9, 20, 21, 22, 23, 24, 25] (by decide +kernel) (by decide +kernel)
set_option maxRecDepth 20000 in
theorem gX3_blankTheRest_X3_bank : GoodIn wsX3_blankTheRest (wsV RX3 53 RX3 yX3_bank wsX3_bank) := goodIn_app (goodIn_of _ (by decide +kernel)) ggX3_blankTheRest_X3_bank
set_option maxRecDepth 20000 in
theorem ggX3_blankTheRest_X0_blankFrom : GoodIn wsX3_blankTheRest wsX0_blankFrom := goodIn_r _ [14, 15, 16, 17, 18, 19, 26] (by decide +kernel) (by decide +kernel)
set_option maxRecDepth 20000 in
theorem gX3_blankTheRest_X0_blankFrom : GoodIn wsX3_blankTheRest (wsV RX3 127 RX0 yX0_blankFrom wsX0_blankFrom) := goodIn_app (goodIn_of _ (by decide +kernel)) ggX3_blankTheRest_X0_blankFrom
theorem dX3_blankTheRest_0 : decode cX3_blankTheRest 0 = .ok (.aload_n 0, 1) := by decide +kernel
theorem dX3_blankTheRest_1 : decode cX3_blankTheRest 1 = .ok (.aload_n 0, 1) := by decide +kernel
theorem dX3_blankTheRest_2 : decode cX3_blankTheRest 2 = .ok (.getfield 9, 3) := by decide +kernel
theorem dX3_blankTheRest_5 : decode cX3_blankTheRest 5 = .ok (.invokevirtual 53, 3) := by decide +kernel
theorem dX3_blankTheRest_8 : decode cX3_blankTheRest 8 = .ok (.aload_n 0, 1) := by decide +kernel
theorem dX3_blankTheRest_9 : decode cX3_blankTheRest 9 = .ok (.getfield 15, 3) := by decide +kernel
theorem dX3_blankTheRest_12 : decode cX3_blankTheRest 12 = .ok (.invokevirtual 127, 3) := by decide +kernel
theorem dX3_blankTheRest_15 : decode cX3_blankTheRest 15 = .ok (.return_, 1) := by decide +kernel
theorem dX4_init_0 : decode cX4_init 0 = .ok (.aload_n 0, 1) := by decide +kernel
theorem dX4_init_1 : decode cX4_init 1 = .ok (.invokespecial 3, 3) := by decide +kernel
theorem dX4_init_4 : decode cX4_init 4 = .ok (.aload_n 0, 1) := by decide +kernel
theorem dX4_init_5 : decode cX4_init 5 = .ok (.sipush 256, 3) := by decide +kernel
theorem dX4_init_8 : decode cX4_init 8 = .ok (.newarray .int, 2) := by decide +kernel
theorem dX4_init_10 : decode cX4_init 10 = .ok (.putfield 9, 3) := by decide +kernel
theorem dX4_init_13 : decode cX4_init 13 = .ok (.aload_n 0, 1) := by decide +kernel
theorem dX4_init_14 : decode cX4_init 14 = .ok (.sipush 256, 3) := by decide +kernel
theorem dX4_init_17 : decode cX4_init 17 = .ok (.newarray .long, 2) := by decide +kernel
theorem dX4_init_19 : decode cX4_init 19 = .ok (.putfield 15, 3) := by decide +kernel
theorem dX4_init_22 : decode cX4_init 22 = .ok (.aload_n 0, 1) := by decide +kernel
theorem dX4_init_23 : decode cX4_init 23 = .ok (.sipush 256, 3) := by decide +kernel
theorem dX4_init_26 : decode cX4_init 26 = .ok (.newarray .int, 2) := by decide +kernel
theorem dX4_init_28 : decode cX4_init 28 = .ok (.putfield 19, 3) := by decide +kernel
theorem dX4_init_31 : decode cX4_init 31 = .ok (.aload_n 0, 1) := by decide +kernel
theorem dX4_init_32 : decode cX4_init 32 = .ok (.sipush 256, 3) := by decide +kernel
theorem dX4_init_35 : decode cX4_init 35 = .ok (.newarray .int, 2) := by decide +kernel
theorem dX4_init_37 : decode cX4_init 37 = .ok (.putfield 22, 3) := by decide +kernel
theorem dX4_init_40 : decode cX4_init 40 = .ok (.aload_n 0, 1) := by decide +kernel
theorem dX4_init_41 : decode cX4_init 41 = .ok (.sipush 256, 3) := by decide +kernel
theorem dX4_init_44 : decode cX4_init 44 = .ok (.newarray .long, 2) := by decide +kernel
theorem dX4_init_46 : decode cX4_init 46 = .ok (.putfield 25, 3) := by decide +kernel
theorem dX4_init_49 : decode cX4_init 49 = .ok (.aload_n 0, 1) := by decide +kernel
theorem dX4_init_50 : decode cX4_init 50 = .ok (.iconst 0, 1) := by decide +kernel
theorem dX4_init_51 : decode cX4_init 51 = .ok (.putfield 28, 3) := by decide +kernel
theorem dX4_init_54 : decode cX4_init 54 = .ok (.return_, 1) := by decide +kernel
theorem dX4_size_0 : decode cX4_size 0 = .ok (.aload_n 0, 1) := by decide +kernel
theorem dX4_size_1 : decode cX4_size 1 = .ok (.getfield 28, 3) := by decide +kernel
theorem dX4_size_4 : decode cX4_size 4 = .ok (.ireturn, 1) := by decide +kernel
theorem dX4_forget_0 : decode cX4_forget 0 = .ok (.aload_n 0, 1) := by decide +kernel
theorem dX4_forget_1 : decode cX4_forget 1 = .ok (.iconst 0, 1) := by decide +kernel
theorem dX4_forget_2 : decode cX4_forget 2 = .ok (.putfield 28, 3) := by decide +kernel
theorem dX4_forget_5 : decode cX4_forget 5 = .ok (.return_, 1) := by decide +kernel
theorem dX4_add_0 : decode cX4_add 0 = .ok (.aload_n 0, 1) := by decide +kernel
theorem dX4_add_1 : decode cX4_add 1 = .ok (.getfield 28, 3) := by decide +kernel
theorem dX4_add_4 : decode cX4_add 4 = .ok (.sipush 256, 3) := by decide +kernel
theorem dX4_add_7 : decode cX4_add 7 = .ok (.if_icmp .ge 66, 3) := by decide +kernel
theorem dX4_add_10 : decode cX4_add 10 = .ok (.aload_n 0, 1) := by decide +kernel
theorem dX4_add_11 : decode cX4_add 11 = .ok (.getfield 9, 3) := by decide +kernel
theorem dX4_add_14 : decode cX4_add 14 = .ok (.aload_n 0, 1) := by decide +kernel
theorem dX4_add_15 : decode cX4_add 15 = .ok (.getfield 28, 3) := by decide +kernel
theorem dX4_add_18 : decode cX4_add 18 = .ok (.iload_n 1, 1) := by decide +kernel
theorem dX4_add_19 : decode cX4_add 19 = .ok (.iastore, 1) := by decide +kernel
theorem dX4_add_20 : decode cX4_add 20 = .ok (.aload_n 0, 1) := by decide +kernel
theorem dX4_add_21 : decode cX4_add 21 = .ok (.getfield 15, 3) := by decide +kernel
theorem dX4_add_24 : decode cX4_add 24 = .ok (.aload_n 0, 1) := by decide +kernel
theorem dX4_add_25 : decode cX4_add 25 = .ok (.getfield 28, 3) := by decide +kernel
theorem dX4_add_28 : decode cX4_add 28 = .ok (.lload_n 2, 1) := by decide +kernel
theorem dX4_add_29 : decode cX4_add 29 = .ok (.lastore, 1) := by decide +kernel
theorem dX4_add_30 : decode cX4_add 30 = .ok (.aload_n 0, 1) := by decide +kernel
theorem dX4_add_31 : decode cX4_add 31 = .ok (.getfield 19, 3) := by decide +kernel
theorem dX4_add_34 : decode cX4_add 34 = .ok (.aload_n 0, 1) := by decide +kernel
theorem dX4_add_35 : decode cX4_add 35 = .ok (.getfield 28, 3) := by decide +kernel
theorem dX4_add_38 : decode cX4_add 38 = .ok (.iload 4, 2) := by decide +kernel
theorem dX4_add_40 : decode cX4_add 40 = .ok (.iastore, 1) := by decide +kernel
theorem dX4_add_41 : decode cX4_add 41 = .ok (.aload_n 0, 1) := by decide +kernel
theorem dX4_add_42 : decode cX4_add 42 = .ok (.getfield 22, 3) := by decide +kernel
theorem dX4_add_45 : decode cX4_add 45 = .ok (.aload_n 0, 1) := by decide +kernel
theorem dX4_add_46 : decode cX4_add 46 = .ok (.getfield 28, 3) := by decide +kernel
theorem dX4_add_49 : decode cX4_add 49 = .ok (.iload 5, 2) := by decide +kernel
theorem dX4_add_51 : decode cX4_add 51 = .ok (.iastore, 1) := by decide +kernel
theorem dX4_add_52 : decode cX4_add 52 = .ok (.aload_n 0, 1) := by decide +kernel
theorem dX4_add_53 : decode cX4_add 53 = .ok (.getfield 25, 3) := by decide +kernel
theorem dX4_add_56 : decode cX4_add 56 = .ok (.aload_n 0, 1) := by decide +kernel
theorem dX4_add_57 : decode cX4_add 57 = .ok (.getfield 28, 3) := by decide +kernel
theorem dX4_add_60 : decode cX4_add 60 = .ok (.lload 6, 2) := by decide +kernel
theorem dX4_add_62 : decode cX4_add 62 = .ok (.lastore, 1) := by decide +kernel
theorem dX4_add_63 : decode cX4_add 63 = .ok (.aload_n 0, 1) := by decide +kernel
theorem dX4_add_64 : decode cX4_add 64 = .ok (.dup, 1) := by decide +kernel
theorem dX4_add_65 : decode cX4_add 65 = .ok (.getfield 28, 3) := by decide +kernel
theorem dX4_add_68 : decode cX4_add 68 = .ok (.iconst 1, 1) := by decide +kernel
theorem dX4_add_69 : decode cX4_add 69 = .ok (.iadd, 1) := by decide +kernel
theorem dX4_add_70 : decode cX4_add 70 = .ok (.putfield 28, 3) := by decide +kernel
theorem dX4_add_73 : decode cX4_add 73 = .ok (.return_, 1) := by decide +kernel
theorem dX4_stepBack_0 : decode cX4_stepBack 0 = .ok (.aload_n 0, 1) := by decide +kernel
theorem dX4_stepBack_1 : decode cX4_stepBack 1 = .ok (.getfield 28, 3) := by decide +kernel
theorem dX4_stepBack_4 : decode cX4_stepBack 4 = .ok (.ifCond .ne 5, 3) := by decide +kernel
theorem dX4_stepBack_7 : decode cX4_stepBack 7 = .ok (.iconst 0, 1) := by decide +kernel
theorem dX4_stepBack_8 : decode cX4_stepBack 8 = .ok (.ireturn, 1) := by decide +kernel
theorem dX4_stepBack_9 : decode cX4_stepBack 9 = .ok (.aload_n 0, 1) := by decide +kernel
theorem dX4_stepBack_10 : decode cX4_stepBack 10 = .ok (.dup, 1) := by decide +kernel
theorem dX4_stepBack_11 : decode cX4_stepBack 11 = .ok (.getfield 28, 3) := by decide +kernel
theorem dX4_stepBack_14 : decode cX4_stepBack 14 = .ok (.iconst 1, 1) := by decide +kernel
theorem dX4_stepBack_15 : decode cX4_stepBack 15 = .ok (.isub, 1) := by decide +kernel
theorem dX4_stepBack_16 : decode cX4_stepBack 16 = .ok (.putfield 28, 3) := by decide +kernel
theorem dX4_stepBack_19 : decode cX4_stepBack 19 = .ok (.iconst 1, 1) := by decide +kernel
theorem dX4_stepBack_20 : decode cX4_stepBack 20 = .ok (.ireturn, 1) := by decide +kernel
theorem dX4_samplesBefore_0 : decode cX4_samplesBefore 0 = .ok (.aload_n 0, 1) := by decide +kernel
theorem dX4_samplesBefore_1 : decode cX4_samplesBefore 1 = .ok (.getfield 28, 3) := by decide +kernel
theorem dX4_samplesBefore_4 : decode cX4_samplesBefore 4 = .ok (.sipush 256, 3) := by decide +kernel
theorem dX4_samplesBefore_7 : decode cX4_samplesBefore 7 = .ok (.if_icmp .ge 15, 3) := by decide +kernel
theorem dX4_samplesBefore_10 : decode cX4_samplesBefore 10 = .ok (.aload_n 0, 1) := by decide +kernel
theorem dX4_samplesBefore_11 : decode cX4_samplesBefore 11 = .ok (.getfield 9, 3) := by decide +kernel
theorem dX4_samplesBefore_14 : decode cX4_samplesBefore 14 = .ok (.aload_n 0, 1) := by decide +kernel
theorem dX4_samplesBefore_15 : decode cX4_samplesBefore 15 = .ok (.getfield 28, 3) := by decide +kernel
theorem dX4_samplesBefore_18 : decode cX4_samplesBefore 18 = .ok (.iaload, 1) := by decide +kernel
theorem dX4_samplesBefore_19 : decode cX4_samplesBefore 19 = .ok (.goto 4, 3) := by decide +kernel
theorem dX4_samplesBefore_22 : decode cX4_samplesBefore 22 = .ok (.iconst 0, 1) := by decide +kernel
theorem dX4_samplesBefore_23 : decode cX4_samplesBefore 23 = .ok (.ireturn, 1) := by decide +kernel
theorem dX4_lostBefore_0 : decode cX4_lostBefore 0 = .ok (.aload_n 0, 1) := by decide +kernel
theorem dX4_lostBefore_1 : decode cX4_lostBefore 1 = .ok (.getfield 28, 3) := by decide +kernel
theorem dX4_lostBefore_4 : decode cX4_lostBefore 4 = .ok (.sipush 256, 3) := by decide +kernel
theorem dX4_lostBefore_7 : decode cX4_lostBefore 7 = .ok (.if_icmp .ge 15, 3) := by decide +kernel
theorem dX4_lostBefore_10 : decode cX4_lostBefore 10 = .ok (.aload_n 0, 1) := by decide +kernel
theorem dX4_lostBefore_11 : decode cX4_lostBefore 11 = .ok (.getfield 15, 3) := by decide +kernel
theorem dX4_lostBefore_14 : decode cX4_lostBefore 14 = .ok (.aload_n 0, 1) := by decide +kernel
theorem dX4_lostBefore_15 : decode cX4_lostBefore 15 = .ok (.getfield 28, 3) := by decide +kernel
theorem dX4_lostBefore_18 : decode cX4_lostBefore 18 = .ok (.laload, 1) := by decide +kernel
theorem dX4_lostBefore_19 : decode cX4_lostBefore 19 = .ok (.goto 4, 3) := by decide +kernel
theorem dX4_lostBefore_22 : decode cX4_lostBefore 22 = .ok (.lconst 0, 1) := by decide +kernel
theorem dX4_lostBefore_23 : decode cX4_lostBefore 23 = .ok (.lreturn, 1) := by decide +kernel
theorem dX4_touched_0 : decode cX4_touched 0 = .ok (.aload_n 0, 1) := by decide +kernel
theorem dX4_touched_1 : decode cX4_touched 1 = .ok (.getfield 28, 3) := by decide +kernel
theorem dX4_touched_4 : decode cX4_touched 4 = .ok (.sipush 256, 3) := by decide +kernel
theorem dX4_touched_7 : decode cX4_touched 7 = .ok (.if_icmp .ge 15, 3) := by decide +kernel
theorem dX4_touched_10 : decode cX4_touched 10 = .ok (.aload_n 0, 1) := by decide +kernel
theorem dX4_touched_11 : decode cX4_touched 11 = .ok (.getfield 19, 3) := by decide +kernel
theorem dX4_touched_14 : decode cX4_touched 14 = .ok (.aload_n 0, 1) := by decide +kernel
theorem dX4_touched_15 : decode cX4_touched 15 = .ok (.getfield 28, 3) := by decide +kernel
theorem dX4_touched_18 : decode cX4_touched 18 = .ok (.iaload, 1) := by decide +kernel
theorem dX4_touched_19 : decode cX4_touched 19 = .ok (.goto 4, 3) := by decide +kernel
theorem dX4_touched_22 : decode cX4_touched 22 = .ok (.iconst 0, 1) := by decide +kernel
theorem dX4_touched_23 : decode cX4_touched 23 = .ok (.ireturn, 1) := by decide +kernel
theorem dX4_wellBefore_0 : decode cX4_wellBefore 0 = .ok (.aload_n 0, 1) := by decide +kernel
theorem dX4_wellBefore_1 : decode cX4_wellBefore 1 = .ok (.getfield 28, 3) := by decide +kernel
theorem dX4_wellBefore_4 : decode cX4_wellBefore 4 = .ok (.sipush 256, 3) := by decide +kernel
theorem dX4_wellBefore_7 : decode cX4_wellBefore 7 = .ok (.if_icmp .ge 15, 3) := by decide +kernel
theorem dX4_wellBefore_10 : decode cX4_wellBefore 10 = .ok (.aload_n 0, 1) := by decide +kernel
theorem dX4_wellBefore_11 : decode cX4_wellBefore 11 = .ok (.getfield 22, 3) := by decide +kernel
theorem dX4_wellBefore_14 : decode cX4_wellBefore 14 = .ok (.aload_n 0, 1) := by decide +kernel
theorem dX4_wellBefore_15 : decode cX4_wellBefore 15 = .ok (.getfield 28, 3) := by decide +kernel
theorem dX4_wellBefore_18 : decode cX4_wellBefore 18 = .ok (.iaload, 1) := by decide +kernel
theorem dX4_wellBefore_19 : decode cX4_wellBefore 19 = .ok (.goto 4, 3) := by decide +kernel
theorem dX4_wellBefore_22 : decode cX4_wellBefore 22 = .ok (.iconst (-1), 1) := by decide +kernel
theorem dX4_wellBefore_23 : decode cX4_wellBefore 23 = .ok (.ireturn, 1) := by decide +kernel
theorem dX4_volumeBefore_0 : decode cX4_volumeBefore 0 = .ok (.aload_n 0, 1) := by decide +kernel
theorem dX4_volumeBefore_1 : decode cX4_volumeBefore 1 = .ok (.getfield 28, 3) := by decide +kernel
theorem dX4_volumeBefore_4 : decode cX4_volumeBefore 4 = .ok (.sipush 256, 3) := by decide +kernel
theorem dX4_volumeBefore_7 : decode cX4_volumeBefore 7 = .ok (.if_icmp .ge 15, 3) := by decide +kernel
theorem dX4_volumeBefore_10 : decode cX4_volumeBefore 10 = .ok (.aload_n 0, 1) := by decide +kernel
theorem dX4_volumeBefore_11 : decode cX4_volumeBefore 11 = .ok (.getfield 25, 3) := by decide +kernel
theorem dX4_volumeBefore_14 : decode cX4_volumeBefore 14 = .ok (.aload_n 0, 1) := by decide +kernel
theorem dX4_volumeBefore_15 : decode cX4_volumeBefore 15 = .ok (.getfield 28, 3) := by decide +kernel
theorem dX4_volumeBefore_18 : decode cX4_volumeBefore 18 = .ok (.laload, 1) := by decide +kernel
theorem dX4_volumeBefore_19 : decode cX4_volumeBefore 19 = .ok (.goto 4, 3) := by decide +kernel
theorem dX4_volumeBefore_22 : decode cX4_volumeBefore 22 = .ok (.lconst 0, 1) := by decide +kernel
theorem dX4_volumeBefore_23 : decode cX4_volumeBefore 23 = .ok (.lreturn, 1) := by decide +kernel
theorem dX5_init_0 : decode cX5_init 0 = .ok (.aload_n 0, 1) := by decide +kernel
theorem dX5_init_1 : decode cX5_init 1 = .ok (.invokespecial 3, 3) := by decide +kernel
theorem dX5_init_4 : decode cX5_init 4 = .ok (.aload_n 0, 1) := by decide +kernel
theorem dX5_init_5 : decode cX5_init 5 = .ok (.iconst 0, 1) := by decide +kernel
theorem dX5_init_6 : decode cX5_init 6 = .ok (.putfield 9, 3) := by decide +kernel
theorem dX5_init_9 : decode cX5_init 9 = .ok (.aload_n 0, 1) := by decide +kernel
theorem dX5_init_10 : decode cX5_init 10 = .ok (.iconst (-1), 1) := by decide +kernel
theorem dX5_init_11 : decode cX5_init 11 = .ok (.putfield 17, 3) := by decide +kernel
theorem dX5_init_14 : decode cX5_init 14 = .ok (.aload_n 0, 1) := by decide +kernel
theorem dX5_init_15 : decode cX5_init 15 = .ok (.aload_n 1, 1) := by decide +kernel
