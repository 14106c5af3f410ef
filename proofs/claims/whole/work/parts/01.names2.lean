theorem dX5_init_16 : decode cX5_init 16 = .ok (.putfield 20, 3) := by decide +kernel
theorem dX5_init_19 : decode cX5_init 19 = .ok (.aload_n 0, 1) := by decide +kernel
theorem dX5_init_20 : decode cX5_init 20 = .ok (.aload_n 2, 1) := by decide +kernel
theorem dX5_init_21 : decode cX5_init 21 = .ok (.putfield 24, 3) := by decide +kernel
theorem dX5_init_24 : decode cX5_init 24 = .ok (.return_, 1) := by decide +kernel
theorem dX5_position_0 : decode cX5_position 0 = .ok (.aload_n 0, 1) := by decide +kernel
theorem dX5_position_1 : decode cX5_position 1 = .ok (.getfield 9, 3) := by decide +kernel
theorem dX5_position_4 : decode cX5_position 4 = .ok (.ireturn, 1) := by decide +kernel
theorem dX5_goTo_0 : decode cX5_goTo 0 = .ok (.aload_n 0, 1) := by decide +kernel
theorem dX5_goTo_1 : decode cX5_goTo 1 = .ok (.aload_n 1, 1) := by decide +kernel
theorem dX5_goTo_2 : decode cX5_goTo 2 = .ok (.putfield 24, 3) := by decide +kernel
theorem dX5_goTo_5 : decode cX5_goTo 5 = .ok (.aload_n 0, 1) := by decide +kernel
theorem dX5_goTo_6 : decode cX5_goTo 6 = .ok (.iload_n 2, 1) := by decide +kernel
theorem dX5_goTo_7 : decode cX5_goTo 7 = .ok (.putfield 9, 3) := by decide +kernel
theorem dX5_goTo_10 : decode cX5_goTo 10 = .ok (.return_, 1) := by decide +kernel
set_option maxRecDepth 20000 in
theorem ggX5_writeZeros_X5_writeByte : GoodIn wsX5_writeZeros wsX5_writeByte := goodIn_r _ [5, 6, 7, 8, 9, 10, 11, 12, 13, 14, 15, 16, 17, 18, 19, 20, 21, 22, 23, 24, 25, 26, 27, 28, 29, 30, 31, 32, 33, 34] (by decide +kernel) (by decide +kernel)
set_option maxRecDepth 20000 in
theorem gX5_writeZeros_X5_writeByte : GoodIn wsX5_writeZeros (wsV RX5 28 RX5 yX5_writeByte wsX5_writeByte) := goodIn_app (goodIn_of _ (by decide +kernel)) ggX5_writeZeros_X5_writeByte
theorem dX5_writeZeros_0 : decode cX5_writeZeros 0 = .ok (.iconst 0, 1) := by decide +kernel
theorem dX5_writeZeros_1 : decode cX5_writeZeros 1 = .ok (.istore_n 2, 1) := by decide +kernel
theorem dX5_writeZeros_2 : decode cX5_writeZeros 2 = .ok (.iload_n 2, 1) := by decide +kernel
theorem dX5_writeZeros_3 : decode cX5_writeZeros 3 = .ok (.iload_n 1, 1) := by decide +kernel
theorem dX5_writeZeros_4 : decode cX5_writeZeros 4 = .ok (.if_icmp .ge 14, 3) := by decide +kernel
theorem dX5_writeZeros_7 : decode cX5_writeZeros 7 = .ok (.aload_n 0, 1) := by decide +kernel
theorem dX5_writeZeros_8 : decode cX5_writeZeros 8 = .ok (.iconst 0, 1) := by decide +kernel
theorem dX5_writeZeros_9 : decode cX5_writeZeros 9 = .ok (.invokevirtual 28, 3) := by decide +kernel
theorem dX5_writeZeros_12 : decode cX5_writeZeros 12 = .ok (.iinc 2 1, 3) := by decide +kernel
theorem dX5_writeZeros_15 : decode cX5_writeZeros 15 = .ok (.goto (-13), 3) := by decide +kernel
theorem dX5_writeZeros_18 : decode cX5_writeZeros 18 = .ok (.return_, 1) := by decide +kernel
set_option maxRecDepth 20000 in
theorem ggX5_writeHead_X5_writeNumber : GoodIn wsX5_writeHead wsX5_writeNumber := goodIn_r _ [6, 1, 7, 8, 9, 10, 11, 12, 13, 14, 5, 15, 16, 17, 18, 19, 20, 21, 22, 23, 24, 25, 26, 27, 28, 29, 30, 31, 32, 33, 34, 38, 39, 40, 41, 42, 43, 44, 45, 46, 47] (by decide +kernel) (by decide +kernel)
set_option maxRecDepth 20000 in
theorem gX5_writeHead_X5_writeNumber : GoodIn wsX5_writeHead (wsV RX5 32 RX5 yX5_writeNumber wsX5_writeNumber) := goodIn_app (goodIn_of _ (by decide +kernel)) ggX5_writeHead_X5_writeNumber
set_option maxRecDepth 20000 in
theorem ggX5_writeHead_X1_end : GoodIn wsX5_writeHead wsX1_end := goodIn_r _ [37] (by decide +kernel) (by decide +kernel)
set_option maxRecDepth 20000 in
theorem gX5_writeHead_X1_end : GoodIn wsX5_writeHead (va_wsS RX5 36 yX1_end wsX1_end) := goodIn_app (goodIn_of _ (by decide +kernel)) ggX5_writeHead_X1_end
set_option maxRecDepth 20000 in
theorem ggX5_writeHead_X5_writeByte : GoodIn wsX5_writeHead wsX5_writeByte := goodIn_r _ [15, 16, 17, 18, 19, 20, 21, 22, 23, 24, 25, 26, 27, 28, 29, 30, 31, 32, 33, 34, 38, 39, 40, 41, 42, 43, 44, 45, 46, 47] (by decide +kernel) (by decide +kernel)
set_option maxRecDepth 20000 in
theorem gX5_writeHead_X5_writeByte : GoodIn wsX5_writeHead (wsV RX5 28 RX5 yX5_writeByte wsX5_writeByte) := goodIn_app (goodIn_of _ (by decide +kernel)) ggX5_writeHead_X5_writeByte
theorem dX5_writeHead_0 : decode cX5_writeHead 0 = .ok (.aload_n 0, 1) := by decide +kernel
theorem dX5_writeHead_1 : decode cX5_writeHead 1 = .ok (.iconst (-1), 1) := by decide +kernel
theorem dX5_writeHead_2 : decode cX5_writeHead 2 = .ok (.putfield 17, 3) := by decide +kernel
theorem dX5_writeHead_5 : decode cX5_writeHead 5 = .ok (.aload_n 0, 1) := by decide +kernel
theorem dX5_writeHead_6 : decode cX5_writeHead 6 = .ok (.iload_n 1, 1) := by decide +kernel
theorem dX5_writeHead_7 : decode cX5_writeHead 7 = .ok (.i2l, 1) := by decide +kernel
theorem dX5_writeHead_8 : decode cX5_writeHead 8 = .ok (.iconst 4, 1) := by decide +kernel
theorem dX5_writeHead_9 : decode cX5_writeHead 9 = .ok (.invokevirtual 32, 3) := by decide +kernel
theorem dX5_writeHead_12 : decode cX5_writeHead 12 = .ok (.aload_n 0, 1) := by decide +kernel
theorem dX5_writeHead_13 : decode cX5_writeHead 13 = .ok (.aload_n 0, 1) := by decide +kernel
theorem dX5_writeHead_14 : decode cX5_writeHead 14 = .ok (.getfield 17, 3) := by decide +kernel
theorem dX5_writeHead_17 : decode cX5_writeHead 17 = .ok (.invokestatic 36, 3) := by decide +kernel
theorem dX5_writeHead_20 : decode cX5_writeHead 20 = .ok (.i2l, 1) := by decide +kernel
theorem dX5_writeHead_21 : decode cX5_writeHead 21 = .ok (.iconst 4, 1) := by decide +kernel
theorem dX5_writeHead_22 : decode cX5_writeHead 22 = .ok (.invokevirtual 32, 3) := by decide +kernel
theorem dX5_writeHead_25 : decode cX5_writeHead 25 = .ok (.aload_n 0, 1) := by decide +kernel
theorem dX5_writeHead_26 : decode cX5_writeHead 26 = .ok (.sipush 165, 3) := by decide +kernel
theorem dX5_writeHead_29 : decode cX5_writeHead 29 = .ok (.invokevirtual 28, 3) := by decide +kernel
theorem dX5_writeHead_32 : decode cX5_writeHead 32 = .ok (.return_, 1) := by decide +kernel
set_option maxRecDepth 20000 in
theorem ggX5_writeRecord_X2_length : GoodIn wsX5_writeRecord wsX2_length := goodIn_r _ [6, 7, 8, 9, 5, 10, 11, 12, 13, 14, 15, 16, 17, 18, 19, 63, 64, 65, 66] (by decide +kernel) (by decide +kernel)
set_option maxRecDepth 20000 in
theorem gX5_writeRecord_X2_length : GoodIn wsX5_writeRecord (wsV RX5 40 RX2 yX2_length wsX2_length) := goodIn_app (goodIn_of _ (by decide +kernel)) ggX5_writeRecord_X2_length
set_option maxRecDepth 20000 in
theorem ggX5_writeRecord_X5_writeNumber : GoodIn wsX5_writeRecord wsX5_writeNumber := goodIn_r _ [24, 1, 25, 26, 27, 28, 29, 30, 31, 32, 23, 33, 34, 35, 36, 37, 38, 39, 40, 41, 42, 43, 44, 45, 46, 47, 48, 49, 50, 51, 52, 59, 60, 61, 62, 67, 68, 69, 70, 71, 72] (by decide +kernel) (by decide +kernel)
set_option maxRecDepth 20000 in
theorem gX5_writeRecord_X5_writeNumber : GoodIn wsX5_writeRecord (wsV RX5 32 RX5 yX5_writeNumber wsX5_writeNumber) := goodIn_app (goodIn_of _ (by decide +kernel)) ggX5_writeRecord_X5_writeNumber
set_option maxRecDepth 20000 in
theorem ggX5_writeRecord_X2_hasSample : GoodIn wsX5_writeRecord wsX2_hasSample := goodIn_r _ [10, 11, 63, 64, 65, 66] (by decide +kernel) (by decide +kernel)
set_option maxRecDepth 20000 in
theorem gX5_writeRecord_X2_hasSample : GoodIn wsX5_writeRecord (wsV RX5 49 RX2 yX2_hasSample wsX2_hasSample) := goodIn_app (goodIn_of _ (by decide +kernel)) ggX5_writeRecord_X2_hasSample
set_option maxRecDepth 20000 in
theorem ggX5_writeRecord_X2_hasWell : GoodIn wsX5_writeRecord wsX2_hasWell := goodIn_r _ [15, 11, 63, 64, 65, 66] (by decide +kernel) (by decide +kernel)
set_option maxRecDepth 20000 in
theorem gX5_writeRecord_X2_hasWell : GoodIn wsX5_writeRecord (wsV RX5 56 RX2 yX2_hasWell wsX2_hasWell) := goodIn_app (goodIn_of _ (by decide +kernel)) ggX5_writeRecord_X2_hasWell
set_option maxRecDepth 20000 in
theorem ggX5_writeRecord_X2_hasVolume : GoodIn wsX5_writeRecord wsX2_hasVolume := goodIn_r _ [19, 11, 63, 64, 65, 66] (by decide +kernel) (by decide +kernel)
set_option maxRecDepth 20000 in
theorem gX5_writeRecord_X2_hasVolume : GoodIn wsX5_writeRecord (wsV RX5 62 RX2 yX2_hasVolume wsX2_hasVolume) := goodIn_app (goodIn_of _ (by decide +kernel)) ggX5_writeRecord_X2_hasVolume
set_option maxRecDepth 20000 in
theorem ggX5_writeRecord_X1_end : GoodIn wsX5_writeRecord wsX1_end := goodIn_r _ [58] (by decide +kernel) (by decide +kernel)
set_option maxRecDepth 20000 in
theorem gX5_writeRecord_X1_end : GoodIn wsX5_writeRecord (va_wsS RX5 36 yX1_end wsX1_end) := goodIn_app (goodIn_of _ (by decide +kernel)) ggX5_writeRecord_X1_end
set_option maxRecDepth 20000 in
theorem ggX5_writeRecord_X5_writeByte : GoodIn wsX5_writeRecord wsX5_writeByte := goodIn_r _ [33, 34, 35, 36, 37, 38, 39, 40, 41, 42, 43, 44, 45, 46, 47, 48, 49, 50, 51, 52, 59, 60, 61, 62, 67, 68, 69, 70, 71, 72] (by decide +kernel) (by decide +kernel)
set_option maxRecDepth 20000 in
theorem gX5_writeRecord_X5_writeByte : GoodIn wsX5_writeRecord (wsV RX5 28 RX5 yX5_writeByte wsX5_writeByte) := goodIn_app (goodIn_of _ (by decide +kernel)) ggX5_writeRecord_X5_writeByte
theorem dX5_writeRecord_0 : decode cX5_writeRecord 0 = .ok (.aload_n 0, 1) := by decide +kernel
theorem dX5_writeRecord_1 : decode cX5_writeRecord 1 = .ok (.iconst (-1), 1) := by decide +kernel
theorem dX5_writeRecord_2 : decode cX5_writeRecord 2 = .ok (.putfield 17, 3) := by decide +kernel
theorem dX5_writeRecord_5 : decode cX5_writeRecord 5 = .ok (.aload_n 0, 1) := by decide +kernel
theorem dX5_writeRecord_6 : decode cX5_writeRecord 6 = .ok (.aload_n 1, 1) := by decide +kernel
theorem dX5_writeRecord_7 : decode cX5_writeRecord 7 = .ok (.invokevirtual 40, 3) := by decide +kernel
theorem dX5_writeRecord_10 : decode cX5_writeRecord 10 = .ok (.i2l, 1) := by decide +kernel
theorem dX5_writeRecord_11 : decode cX5_writeRecord 11 = .ok (.iconst 2, 1) := by decide +kernel
theorem dX5_writeRecord_12 : decode cX5_writeRecord 12 = .ok (.invokevirtual 32, 3) := by decide +kernel
theorem dX5_writeRecord_15 : decode cX5_writeRecord 15 = .ok (.aload_n 0, 1) := by decide +kernel
theorem dX5_writeRecord_16 : decode cX5_writeRecord 16 = .ok (.aload_n 1, 1) := by decide +kernel
theorem dX5_writeRecord_17 : decode cX5_writeRecord 17 = .ok (.getfield 46, 3) := by decide +kernel
theorem dX5_writeRecord_20 : decode cX5_writeRecord 20 = .ok (.i2l, 1) := by decide +kernel
theorem dX5_writeRecord_21 : decode cX5_writeRecord 21 = .ok (.iconst 1, 1) := by decide +kernel
theorem dX5_writeRecord_22 : decode cX5_writeRecord 22 = .ok (.invokevirtual 32, 3) := by decide +kernel
theorem dX5_writeRecord_25 : decode cX5_writeRecord 25 = .ok (.aload_n 1, 1) := by decide +kernel
theorem dX5_writeRecord_26 : decode cX5_writeRecord 26 = .ok (.invokevirtual 49, 3) := by decide +kernel
theorem dX5_writeRecord_29 : decode cX5_writeRecord 29 = .ok (.ifCond .eq 13, 3) := by decide +kernel
theorem dX5_writeRecord_32 : decode cX5_writeRecord 32 = .ok (.aload_n 0, 1) := by decide +kernel
theorem dX5_writeRecord_33 : decode cX5_writeRecord 33 = .ok (.aload_n 1, 1) := by decide +kernel
theorem dX5_writeRecord_34 : decode cX5_writeRecord 34 = .ok (.getfield 53, 3) := by decide +kernel
theorem dX5_writeRecord_37 : decode cX5_writeRecord 37 = .ok (.i2l, 1) := by decide +kernel
theorem dX5_writeRecord_38 : decode cX5_writeRecord 38 = .ok (.iconst 2, 1) := by decide +kernel
theorem dX5_writeRecord_39 : decode cX5_writeRecord 39 = .ok (.invokevirtual 32, 3) := by decide +kernel
theorem dX5_writeRecord_42 : decode cX5_writeRecord 42 = .ok (.aload_n 1, 1) := by decide +kernel
theorem dX5_writeRecord_43 : decode cX5_writeRecord 43 = .ok (.invokevirtual 56, 3) := by decide +kernel
theorem dX5_writeRecord_46 : decode cX5_writeRecord 46 = .ok (.ifCond .eq 13, 3) := by decide +kernel
theorem dX5_writeRecord_49 : decode cX5_writeRecord 49 = .ok (.aload_n 0, 1) := by decide +kernel
theorem dX5_writeRecord_50 : decode cX5_writeRecord 50 = .ok (.aload_n 1, 1) := by decide +kernel
theorem dX5_writeRecord_51 : decode cX5_writeRecord 51 = .ok (.getfield 59, 3) := by decide +kernel
theorem dX5_writeRecord_54 : decode cX5_writeRecord 54 = .ok (.i2l, 1) := by decide +kernel
theorem dX5_writeRecord_55 : decode cX5_writeRecord 55 = .ok (.iconst 1, 1) := by decide +kernel
theorem dX5_writeRecord_56 : decode cX5_writeRecord 56 = .ok (.invokevirtual 32, 3) := by decide +kernel
theorem dX5_writeRecord_59 : decode cX5_writeRecord 59 = .ok (.aload_n 1, 1) := by decide +kernel
theorem dX5_writeRecord_60 : decode cX5_writeRecord 60 = .ok (.invokevirtual 62, 3) := by decide +kernel
theorem dX5_writeRecord_63 : decode cX5_writeRecord 63 = .ok (.ifCond .eq 13, 3) := by decide +kernel
theorem dX5_writeRecord_66 : decode cX5_writeRecord 66 = .ok (.aload_n 0, 1) := by decide +kernel
theorem dX5_writeRecord_67 : decode cX5_writeRecord 67 = .ok (.aload_n 1, 1) := by decide +kernel
theorem dX5_writeRecord_68 : decode cX5_writeRecord 68 = .ok (.getfield 65, 3) := by decide +kernel
theorem dX5_writeRecord_71 : decode cX5_writeRecord 71 = .ok (.bipush 8, 2) := by decide +kernel
theorem dX5_writeRecord_73 : decode cX5_writeRecord 73 = .ok (.invokevirtual 32, 3) := by decide +kernel
theorem dX5_writeRecord_76 : decode cX5_writeRecord 76 = .ok (.aload_n 0, 1) := by decide +kernel
theorem dX5_writeRecord_77 : decode cX5_writeRecord 77 = .ok (.aload_n 0, 1) := by decide +kernel
theorem dX5_writeRecord_78 : decode cX5_writeRecord 78 = .ok (.getfield 17, 3) := by decide +kernel
theorem dX5_writeRecord_81 : decode cX5_writeRecord 81 = .ok (.invokestatic 36, 3) := by decide +kernel
theorem dX5_writeRecord_84 : decode cX5_writeRecord 84 = .ok (.i2l, 1) := by decide +kernel
theorem dX5_writeRecord_85 : decode cX5_writeRecord 85 = .ok (.iconst 4, 1) := by decide +kernel
theorem dX5_writeRecord_86 : decode cX5_writeRecord 86 = .ok (.invokevirtual 32, 3) := by decide +kernel
theorem dX5_writeRecord_89 : decode cX5_writeRecord 89 = .ok (.aload_n 0, 1) := by decide +kernel
theorem dX5_writeRecord_90 : decode cX5_writeRecord 90 = .ok (.sipush 165, 3) := by decide +kernel
theorem dX5_writeRecord_93 : decode cX5_writeRecord 93 = .ok (.invokevirtual 28, 3) := by decide +kernel
theorem dX5_writeRecord_96 : decode cX5_writeRecord 96 = .ok (.return_, 1) := by decide +kernel
set_option maxRecDepth 20000 in
theorem ggX5_writeNumber_X1_step : GoodIn wsX5_writeNumber wsX1_step := goodIn_r _ [5, 6] (by decide +kernel) (by decide +kernel)
set_option maxRecDepth 20000 in
theorem gX5_writeNumber_X1_step : GoodIn wsX5_writeNumber (va_wsS RX5 69 yX1_step wsX1_step) := goodIn_app (goodIn_of _ (by decide +kernel)) ggX5_writeNumber_X1_step
set_option maxRecDepth 20000 in
theorem ggX5_writeNumber_X5_writeByte : GoodIn wsX5_writeNumber wsX5_writeByte := goodIn_r _ [11, 12, 13, 14, 15, 16, 17, 18, 19, 20, 21, 22, 23, 24, 25, 26, 27, 28, 29, 30, 31, 32, 33, 34, 35, 36, 37, 38, 39, 40] (by decide +kernel) (by decide +kernel)
set_option maxRecDepth 20000 in
theorem gX5_writeNumber_X5_writeByte : GoodIn wsX5_writeNumber (wsV RX5 28 RX5 yX5_writeByte wsX5_writeByte) := goodIn_app (goodIn_of _ (by decide +kernel)) ggX5_writeNumber_X5_writeByte
theorem dX5_writeNumber_0 : decode cX5_writeNumber 0 = .ok (.iload_n 3, 1) := by decide +kernel
theorem dX5_writeNumber_1 : decode cX5_writeNumber 1 = .ok (.iconst 1, 1) := by decide +kernel
theorem dX5_writeNumber_2 : decode cX5_writeNumber 2 = .ok (.isub, 1) := by decide +kernel
theorem dX5_writeNumber_3 : decode cX5_writeNumber 3 = .ok (.istore 4, 2) := by decide +kernel
theorem dX5_writeNumber_5 : decode cX5_writeNumber 5 = .ok (.iload 4, 2) := by decide +kernel
theorem dX5_writeNumber_7 : decode cX5_writeNumber 7 = .ok (.ifCond .lt 42, 3) := by decide +kernel
theorem dX5_writeNumber_10 : decode cX5_writeNumber 10 = .ok (.lload_n 1, 1) := by decide +kernel
theorem dX5_writeNumber_11 : decode cX5_writeNumber 11 = .ok (.bipush 8, 2) := by decide +kernel
theorem dX5_writeNumber_13 : decode cX5_writeNumber 13 = .ok (.iload 4, 2) := by decide +kernel
theorem dX5_writeNumber_15 : decode cX5_writeNumber 15 = .ok (.imul, 1) := by decide +kernel
theorem dX5_writeNumber_16 : decode cX5_writeNumber 16 = .ok (.lushr, 1) := by decide +kernel
theorem dX5_writeNumber_17 : decode cX5_writeNumber 17 = .ok (.l2i, 1) := by decide +kernel
theorem dX5_writeNumber_18 : decode cX5_writeNumber 18 = .ok (.sipush 255, 3) := by decide +kernel
theorem dX5_writeNumber_21 : decode cX5_writeNumber 21 = .ok (.iand, 1) := by decide +kernel
theorem dX5_writeNumber_22 : decode cX5_writeNumber 22 = .ok (.istore 5, 2) := by decide +kernel
theorem dX5_writeNumber_24 : decode cX5_writeNumber 24 = .ok (.aload_n 0, 1) := by decide +kernel
theorem dX5_writeNumber_25 : decode cX5_writeNumber 25 = .ok (.aload_n 0, 1) := by decide +kernel
theorem dX5_writeNumber_26 : decode cX5_writeNumber 26 = .ok (.getfield 17, 3) := by decide +kernel
theorem dX5_writeNumber_29 : decode cX5_writeNumber 29 = .ok (.iload 5, 2) := by decide +kernel
theorem dX5_writeNumber_31 : decode cX5_writeNumber 31 = .ok (.invokestatic 69, 3) := by decide +kernel
theorem dX5_writeNumber_34 : decode cX5_writeNumber 34 = .ok (.putfield 17, 3) := by decide +kernel
theorem dX5_writeNumber_37 : decode cX5_writeNumber 37 = .ok (.aload_n 0, 1) := by decide +kernel
theorem dX5_writeNumber_38 : decode cX5_writeNumber 38 = .ok (.iload 5, 2) := by decide +kernel
theorem dX5_writeNumber_40 : decode cX5_writeNumber 40 = .ok (.invokevirtual 28, 3) := by decide +kernel
theorem dX5_writeNumber_43 : decode cX5_writeNumber 43 = .ok (.iinc 4 (-1), 3) := by decide +kernel
theorem dX5_writeNumber_46 : decode cX5_writeNumber 46 = .ok (.goto (-41), 3) := by decide +kernel
theorem dX5_writeNumber_49 : decode cX5_writeNumber 49 = .ok (.return_, 1) := by decide +kernel
set_option maxRecDepth 20000 in
theorem ggX5_writeByte_X6_letByteThrough : GoodIn wsX5_writeByte wsX6_letByteThrough := goodIn_r _ [8, 9, 10, 11, 12, 13, 24, 25, 26, 27, 28] (by decide +kernel) (by decide +kernel)
set_option maxRecDepth 20000 in
theorem gX5_writeByte_X6_letByteThrough : GoodIn wsX5_writeByte (wsV RX5 73 RX6 yX6_letByteThrough wsX6_letByteThrough) := goodIn_app (goodIn_of _ (by decide +kernel)) ggX5_writeByte_X6_letByteThrough
set_option maxRecDepth 20000 in
theorem ggX5_writeByte_X0_put : GoodIn wsX5_writeByte wsX0_put := goodIn_r _ [18, 19, 29] (by decide +kernel) (by decide +kernel)
set_option maxRecDepth 20000 in
theorem gX5_writeByte_X0_put : GoodIn wsX5_writeByte (wsV RX5 78 RX0 yX0_put wsX0_put) := goodIn_app (goodIn_of _ (by decide +kernel)) ggX5_writeByte_X0_put
theorem dX5_writeByte_0 : decode cX5_writeByte 0 = .ok (.aload_n 0, 1) := by decide +kernel
theorem dX5_writeByte_1 : decode cX5_writeByte 1 = .ok (.getfield 20, 3) := by decide +kernel
theorem dX5_writeByte_4 : decode cX5_writeByte 4 = .ok (.invokevirtual 73, 3) := by decide +kernel
theorem dX5_writeByte_7 : decode cX5_writeByte 7 = .ok (.ifCond .eq 25, 3) := by decide +kernel
theorem dX5_writeByte_10 : decode cX5_writeByte 10 = .ok (.aload_n 0, 1) := by decide +kernel
theorem dX5_writeByte_11 : decode cX5_writeByte 11 = .ok (.getfield 24, 3) := by decide +kernel
theorem dX5_writeByte_14 : decode cX5_writeByte 14 = .ok (.aload_n 0, 1) := by decide +kernel
theorem dX5_writeByte_15 : decode cX5_writeByte 15 = .ok (.getfield 9, 3) := by decide +kernel
theorem dX5_writeByte_18 : decode cX5_writeByte 18 = .ok (.iload_n 1, 1) := by decide +kernel
theorem dX5_writeByte_19 : decode cX5_writeByte 19 = .ok (.invokevirtual 78, 3) := by decide +kernel
theorem dX5_writeByte_22 : decode cX5_writeByte 22 = .ok (.aload_n 0, 1) := by decide +kernel
theorem dX5_writeByte_23 : decode cX5_writeByte 23 = .ok (.dup, 1) := by decide +kernel
theorem dX5_writeByte_24 : decode cX5_writeByte 24 = .ok (.getfield 9, 3) := by decide +kernel
theorem dX5_writeByte_27 : decode cX5_writeByte 27 = .ok (.iconst 1, 1) := by decide +kernel
theorem dX5_writeByte_28 : decode cX5_writeByte 28 = .ok (.iadd, 1) := by decide +kernel
theorem dX5_writeByte_29 : decode cX5_writeByte 29 = .ok (.putfield 9, 3) := by decide +kernel
theorem dX5_writeByte_32 : decode cX5_writeByte 32 = .ok (.return_, 1) := by decide +kernel
theorem dX6_init_0 : decode cX6_init 0 = .ok (.aload_n 0, 1) := by decide +kernel
theorem dX6_init_1 : decode cX6_init 1 = .ok (.invokespecial 1, 3) := by decide +kernel
theorem dX6_init_4 : decode cX6_init 4 = .ok (.aload_n 0, 1) := by decide +kernel
theorem dX6_init_5 : decode cX6_init 5 = .ok (.iconst 1, 1) := by decide +kernel
theorem dX6_init_6 : decode cX6_init 6 = .ok (.putfield 7, 3) := by decide +kernel
theorem dX6_init_9 : decode cX6_init 9 = .ok (.aload_n 0, 1) := by decide +kernel
theorem dX6_init_10 : decode cX6_init 10 = .ok (.iconst 0, 1) := by decide +kernel
theorem dX6_init_11 : decode cX6_init 11 = .ok (.putfield 13, 3) := by decide +kernel
theorem dX6_init_14 : decode cX6_init 14 = .ok (.aload_n 0, 1) := by decide +kernel
theorem dX6_init_15 : decode cX6_init 15 = .ok (.iconst 0, 1) := by decide +kernel
theorem dX6_init_16 : decode cX6_init 16 = .ok (.putfield 16, 3) := by decide +kernel
theorem dX6_init_19 : decode cX6_init 19 = .ok (.aload_n 0, 1) := by decide +kernel
theorem dX6_init_20 : decode cX6_init 20 = .ok (.iconst 0, 1) := by decide +kernel
theorem dX6_init_21 : decode cX6_init 21 = .ok (.putfield 20, 3) := by decide +kernel
theorem dX6_init_24 : decode cX6_init 24 = .ok (.aload_n 0, 1) := by decide +kernel
theorem dX6_init_25 : decode cX6_init 25 = .ok (.iconst 0, 1) := by decide +kernel
theorem dX6_init_26 : decode cX6_init 26 = .ok (.putfield 23, 3) := by decide +kernel
theorem dX6_init_29 : decode cX6_init 29 = .ok (.return_, 1) := by decide +kernel
theorem dX6_isUp_0 : decode cX6_isUp 0 = .ok (.aload_n 0, 1) := by decide +kernel
theorem dX6_isUp_1 : decode cX6_isUp 1 = .ok (.getfield 7, 3) := by decide +kernel
theorem dX6_isUp_4 : decode cX6_isUp 4 = .ok (.ireturn, 1) := by decide +kernel
theorem dX6_bytesWritten_0 : decode cX6_bytesWritten 0 = .ok (.aload_n 0, 1) := by decide +kernel
theorem dX6_bytesWritten_1 : decode cX6_bytesWritten 1 = .ok (.getfield 20, 3) := by decide +kernel
theorem dX6_bytesWritten_4 : decode cX6_bytesWritten 4 = .ok (.ireturn, 1) := by decide +kernel
theorem dX6_failures_0 : decode cX6_failures 0 = .ok (.aload_n 0, 1) := by decide +kernel
theorem dX6_failures_1 : decode cX6_failures 1 = .ok (.getfield 23, 3) := by decide +kernel
theorem dX6_failures_4 : decode cX6_failures 4 = .ok (.ireturn, 1) := by decide +kernel
theorem dX6_failBehind_0 : decode cX6_failBehind 0 = .ok (.aload_n 0, 1) := by decide +kernel
theorem dX6_failBehind_1 : decode cX6_failBehind 1 = .ok (.iconst 1, 1) := by decide +kernel
theorem dX6_failBehind_2 : decode cX6_failBehind 2 = .ok (.putfield 13, 3) := by decide +kernel
theorem dX6_failBehind_5 : decode cX6_failBehind 5 = .ok (.aload_n 0, 1) := by decide +kernel
theorem dX6_failBehind_6 : decode cX6_failBehind 6 = .ok (.iload_n 1, 1) := by decide +kernel
theorem dX6_failBehind_7 : decode cX6_failBehind 7 = .ok (.putfield 16, 3) := by decide +kernel
theorem dX6_failBehind_10 : decode cX6_failBehind 10 = .ok (.return_, 1) := by decide +kernel
theorem dX6_restore_0 : decode cX6_restore 0 = .ok (.aload_n 0, 1) := by decide +kernel
theorem dX6_restore_1 : decode cX6_restore 1 = .ok (.iconst 1, 1) := by decide +kernel
theorem dX6_restore_2 : decode cX6_restore 2 = .ok (.putfield 7, 3) := by decide +kernel
theorem dX6_restore_5 : decode cX6_restore 5 = .ok (.aload_n 0, 1) := by decide +kernel
theorem dX6_restore_6 : decode cX6_restore 6 = .ok (.iconst 0, 1) := by decide +kernel
theorem dX6_restore_7 : decode cX6_restore 7 = .ok (.putfield 13, 3) := by decide +kernel
theorem dX6_restore_10 : decode cX6_restore 10 = .ok (.return_, 1) := by decide +kernel
theorem dX6_letByteThrough_0 : decode cX6_letByteThrough 0 = .ok (.aload_n 0, 1) := by decide +kernel
theorem dX6_letByteThrough_1 : decode cX6_letByteThrough 1 = .ok (.getfield 7, 3) := by decide +kernel
theorem dX6_letByteThrough_4 : decode cX6_letByteThrough 4 = .ok (.ifCond .eq 21, 3) := by decide +kernel
theorem dX6_letByteThrough_7 : decode cX6_letByteThrough 7 = .ok (.aload_n 0, 1) := by decide +kernel
theorem dX6_letByteThrough_8 : decode cX6_letByteThrough 8 = .ok (.getfield 13, 3) := by decide +kernel
theorem dX6_letByteThrough_11 : decode cX6_letByteThrough 11 = .ok (.ifCond .eq 10, 3) := by decide +kernel
theorem dX6_letByteThrough_14 : decode cX6_letByteThrough 14 = .ok (.aload_n 0, 1) := by decide +kernel
theorem dX6_letByteThrough_15 : decode cX6_letByteThrough 15 = .ok (.getfield 16, 3) := by decide +kernel
theorem dX6_letByteThrough_18 : decode cX6_letByteThrough 18 = .ok (.ifCond .eq 7, 3) := by decide +kernel
theorem dX6_letByteThrough_21 : decode cX6_letByteThrough 21 = .ok (.iconst 1, 1) := by decide +kernel
theorem dX6_letByteThrough_22 : decode cX6_letByteThrough 22 = .ok (.goto 4, 3) := by decide +kernel
theorem dX6_letByteThrough_25 : decode cX6_letByteThrough 25 = .ok (.iconst 0, 1) := by decide +kernel
theorem dX6_letByteThrough_26 : decode cX6_letByteThrough 26 = .ok (.istore_n 1, 1) := by decide +kernel
theorem dX6_letByteThrough_27 : decode cX6_letByteThrough 27 = .ok (.iload_n 1, 1) := by decide +kernel
theorem dX6_letByteThrough_28 : decode cX6_letByteThrough 28 = .ok (.ifCond .eq 34, 3) := by decide +kernel
theorem dX6_letByteThrough_31 : decode cX6_letByteThrough 31 = .ok (.aload_n 0, 1) := by decide +kernel
theorem dX6_letByteThrough_32 : decode cX6_letByteThrough 32 = .ok (.dup, 1) := by decide +kernel
theorem dX6_letByteThrough_33 : decode cX6_letByteThrough 33 = .ok (.getfield 20, 3) := by decide +kernel
theorem dX6_letByteThrough_36 : decode cX6_letByteThrough 36 = .ok (.iconst 1, 1) := by decide +kernel
theorem dX6_letByteThrough_37 : decode cX6_letByteThrough 37 = .ok (.iadd, 1) := by decide +kernel
theorem dX6_letByteThrough_38 : decode cX6_letByteThrough 38 = .ok (.putfield 20, 3) := by decide +kernel
theorem dX6_letByteThrough_41 : decode cX6_letByteThrough 41 = .ok (.aload_n 0, 1) := by decide +kernel
theorem dX6_letByteThrough_42 : decode cX6_letByteThrough 42 = .ok (.dup, 1) := by decide +kernel
theorem dX6_letByteThrough_43 : decode cX6_letByteThrough 43 = .ok (.getfield 16, 3) := by decide +kernel
theorem dX6_letByteThrough_46 : decode cX6_letByteThrough 46 = .ok (.aload_n 0, 1) := by decide +kernel
theorem dX6_letByteThrough_47 : decode cX6_letByteThrough 47 = .ok (.getfield 13, 3) := by decide +kernel
theorem dX6_letByteThrough_50 : decode cX6_letByteThrough 50 = .ok (.ifCond .eq 7, 3) := by decide +kernel
theorem dX6_letByteThrough_53 : decode cX6_letByteThrough 53 = .ok (.iconst 1, 1) := by decide +kernel
theorem dX6_letByteThrough_54 : decode cX6_letByteThrough 54 = .ok (.goto 4, 3) := by decide +kernel
theorem dX6_letByteThrough_57 : decode cX6_letByteThrough 57 = .ok (.iconst 0, 1) := by decide +kernel
theorem dX6_letByteThrough_58 : decode cX6_letByteThrough 58 = .ok (.isub, 1) := by decide +kernel
theorem dX6_letByteThrough_59 : decode cX6_letByteThrough 59 = .ok (.putfield 16, 3) := by decide +kernel
theorem dX6_letByteThrough_62 : decode cX6_letByteThrough 62 = .ok (.aload_n 0, 1) := by decide +kernel
theorem dX6_letByteThrough_63 : decode cX6_letByteThrough 63 = .ok (.getfield 13, 3) := by decide +kernel
theorem dX6_letByteThrough_66 : decode cX6_letByteThrough 66 = .ok (.ifCond .eq 30, 3) := by decide +kernel
theorem dX6_letByteThrough_69 : decode cX6_letByteThrough 69 = .ok (.aload_n 0, 1) := by decide +kernel
theorem dX6_letByteThrough_70 : decode cX6_letByteThrough 70 = .ok (.getfield 16, 3) := by decide +kernel
theorem dX6_letByteThrough_73 : decode cX6_letByteThrough 73 = .ok (.ifCond .ne 23, 3) := by decide +kernel
theorem dX6_letByteThrough_76 : decode cX6_letByteThrough 76 = .ok (.aload_n 0, 1) := by decide +kernel
theorem dX6_letByteThrough_77 : decode cX6_letByteThrough 77 = .ok (.iconst 0, 1) := by decide +kernel
theorem dX6_letByteThrough_78 : decode cX6_letByteThrough 78 = .ok (.putfield 7, 3) := by decide +kernel
theorem dX6_letByteThrough_81 : decode cX6_letByteThrough 81 = .ok (.aload_n 0, 1) := by decide +kernel
theorem dX6_letByteThrough_82 : decode cX6_letByteThrough 82 = .ok (.iconst 0, 1) := by decide +kernel
theorem dX6_letByteThrough_83 : decode cX6_letByteThrough 83 = .ok (.putfield 13, 3) := by decide +kernel
theorem dX6_letByteThrough_86 : decode cX6_letByteThrough 86 = .ok (.aload_n 0, 1) := by decide +kernel
theorem dX6_letByteThrough_87 : decode cX6_letByteThrough 87 = .ok (.dup, 1) := by decide +kernel
theorem dX6_letByteThrough_88 : decode cX6_letByteThrough 88 = .ok (.getfield 23, 3) := by decide +kernel
theorem dX6_letByteThrough_91 : decode cX6_letByteThrough 91 = .ok (.iconst 1, 1) := by decide +kernel
theorem dX6_letByteThrough_92 : decode cX6_letByteThrough 92 = .ok (.iadd, 1) := by decide +kernel
theorem dX6_letByteThrough_93 : decode cX6_letByteThrough 93 = .ok (.putfield 23, 3) := by decide +kernel
theorem dX6_letByteThrough_96 : decode cX6_letByteThrough 96 = .ok (.iload_n 1, 1) := by decide +kernel
theorem dX6_letByteThrough_97 : decode cX6_letByteThrough 97 = .ok (.ireturn, 1) := by decide +kernel
set_option maxRecDepth 20000 in
theorem ggX7_init_X4_init : GoodIn wsX7_init wsX4_init := goodIn_r _ [18, 19, 2, 3, 4, 20, 7, 21, 22, 23, 24, 25, 33, 34, 35, 36, 37, 38] (by decide +kernel) (by decide +kernel)
set_option maxRecDepth 20000 in
theorem gX7_init_X4_init_n28 : GoodIn wsX7_init (wsX4_init) := ggX7_init_X4_init
theorem dX7_init_0 : decode cX7_init 0 = .ok (.aload_n 0, 1) := by decide +kernel
theorem dX7_init_1 : decode cX7_init 1 = .ok (.invokespecial 3, 3) := by decide +kernel
theorem dX7_init_4 : decode cX7_init 4 = .ok (.aload_n 0, 1) := by decide +kernel
theorem dX7_init_5 : decode cX7_init 5 = .ok (.bipush 121, 2) := by decide +kernel
theorem dX7_init_7 : decode cX7_init 7 = .ok (.newarray .int, 2) := by decide +kernel
theorem dX7_init_9 : decode cX7_init 9 = .ok (.putfield 9, 3) := by decide +kernel
theorem dX7_init_12 : decode cX7_init 12 = .ok (.aload_n 0, 1) := by decide +kernel
theorem dX7_init_13 : decode cX7_init 13 = .ok (.bipush 121, 2) := by decide +kernel
theorem dX7_init_15 : decode cX7_init 15 = .ok (.newarray .int, 2) := by decide +kernel
theorem dX7_init_17 : decode cX7_init 17 = .ok (.putfield 15, 3) := by decide +kernel
theorem dX7_init_20 : decode cX7_init 20 = .ok (.aload_n 0, 1) := by decide +kernel
theorem dX7_init_21 : decode cX7_init 21 = .ok (.bipush 121, 2) := by decide +kernel
theorem dX7_init_23 : decode cX7_init 23 = .ok (.newarray .long, 2) := by decide +kernel
theorem dX7_init_25 : decode cX7_init 25 = .ok (.putfield 18, 3) := by decide +kernel
theorem dX7_init_28 : decode cX7_init 28 = .ok (.aload_n 0, 1) := by decide +kernel
theorem dX7_init_29 : decode cX7_init 29 = .ok (.bipush 121, 2) := by decide +kernel
theorem dX7_init_31 : decode cX7_init 31 = .ok (.newarray .boolean, 2) := by decide +kernel
theorem dX7_init_33 : decode cX7_init 33 = .ok (.putfield 22, 3) := by decide +kernel
theorem dX7_init_36 : decode cX7_init 36 = .ok (.aload_n 0, 1) := by decide +kernel
theorem dX7_init_37 : decode cX7_init 37 = .ok (.new 26, 3) := by decide +kernel
theorem dX7_init_40 : decode cX7_init 40 = .ok (.dup, 1) := by decide +kernel
theorem dX7_init_41 : decode cX7_init 41 = .ok (.invokespecial 28, 3) := by decide +kernel
theorem dX7_init_44 : decode cX7_init 44 = .ok (.putfield 29, 3) := by decide +kernel
theorem dX7_init_47 : decode cX7_init 47 = .ok (.aload_n 0, 1) := by decide +kernel
theorem dX7_init_48 : decode cX7_init 48 = .ok (.iconst 0, 1) := by decide +kernel
theorem dX7_init_49 : decode cX7_init 49 = .ok (.putfield 33, 3) := by decide +kernel
theorem dX7_init_52 : decode cX7_init 52 = .ok (.aload_n 0, 1) := by decide +kernel
theorem dX7_init_53 : decode cX7_init 53 = .ok (.lconst 0, 1) := by decide +kernel
theorem dX7_init_54 : decode cX7_init 54 = .ok (.putfield 37, 3) := by decide +kernel
theorem dX7_init_57 : decode cX7_init 57 = .ok (.return_, 1) := by decide +kernel
theorem dX7_sampleCount_0 : decode cX7_sampleCount 0 = .ok (.aload_n 0, 1) := by decide +kernel
theorem dX7_sampleCount_1 : decode cX7_sampleCount 1 = .ok (.getfield 33, 3) := by decide +kernel
theorem dX7_sampleCount_4 : decode cX7_sampleCount 4 = .ok (.ireturn, 1) := by decide +kernel
theorem dX7_isFull_0 : decode cX7_isFull 0 = .ok (.aload_n 0, 1) := by decide +kernel
theorem dX7_isFull_1 : decode cX7_isFull 1 = .ok (.getfield 33, 3) := by decide +kernel
theorem dX7_isFull_4 : decode cX7_isFull 4 = .ok (.bipush 120, 2) := by decide +kernel
theorem dX7_isFull_6 : decode cX7_isFull 6 = .ok (.if_icmp .lt 7, 3) := by decide +kernel
theorem dX7_isFull_9 : decode cX7_isFull 9 = .ok (.iconst 1, 1) := by decide +kernel
theorem dX7_isFull_10 : decode cX7_isFull 10 = .ok (.goto 4, 3) := by decide +kernel
theorem dX7_isFull_13 : decode cX7_isFull 13 = .ok (.iconst 0, 1) := by decide +kernel
theorem dX7_isFull_14 : decode cX7_isFull 14 = .ok (.ireturn, 1) := by decide +kernel
theorem dX7_isSample_0 : decode cX7_isSample 0 = .ok (.iload_n 1, 1) := by decide +kernel
theorem dX7_isSample_1 : decode cX7_isSample 1 = .ok (.iconst 1, 1) := by decide +kernel
theorem dX7_isSample_2 : decode cX7_isSample 2 = .ok (.if_icmp .lt 24, 3) := by decide +kernel
theorem dX7_isSample_5 : decode cX7_isSample 5 = .ok (.iload_n 1, 1) := by decide +kernel
theorem dX7_isSample_6 : decode cX7_isSample 6 = .ok (.aload_n 0, 1) := by decide +kernel
theorem dX7_isSample_7 : decode cX7_isSample 7 = .ok (.getfield 33, 3) := by decide +kernel
theorem dX7_isSample_10 : decode cX7_isSample 10 = .ok (.if_icmp .gt 16, 3) := by decide +kernel
theorem dX7_isSample_13 : decode cX7_isSample 13 = .ok (.aload_n 0, 1) := by decide +kernel
theorem dX7_isSample_14 : decode cX7_isSample 14 = .ok (.getfield 33, 3) := by decide +kernel
theorem dX7_isSample_17 : decode cX7_isSample 17 = .ok (.bipush 120, 2) := by decide +kernel
theorem dX7_isSample_19 : decode cX7_isSample 19 = .ok (.if_icmp .gt 7, 3) := by decide +kernel
theorem dX7_isSample_22 : decode cX7_isSample 22 = .ok (.iconst 1, 1) := by decide +kernel
theorem dX7_isSample_23 : decode cX7_isSample 23 = .ok (.goto 4, 3) := by decide +kernel
theorem dX7_isSample_26 : decode cX7_isSample 26 = .ok (.iconst 0, 1) := by decide +kernel
theorem dX7_isSample_27 : decode cX7_isSample 27 = .ok (.ireturn, 1) := by decide +kernel
set_option maxRecDepth 20000 in
theorem ggX7_isLive_X7_wellOf : GoodIn wsX7_isLive wsX7_wellOf := goodIn_r _ [5, 6, 7, 8, 9, 4, 10, 11, 12, 13, 14, 15, 16, 17, 18] (by decide +kernel) (by decide +kernel)
set_option maxRecDepth 20000 in
theorem gX7_isLive_X7_wellOf : GoodIn wsX7_isLive (wsV RX7 41 RX7 yX7_wellOf wsX7_wellOf) := goodIn_app (goodIn_of _ (by decide +kernel)) ggX7_isLive_X7_wellOf
theorem dX7_isLive_0 : decode cX7_isLive 0 = .ok (.aload_n 0, 1) := by decide +kernel
theorem dX7_isLive_1 : decode cX7_isLive 1 = .ok (.iload_n 1, 1) := by decide +kernel
theorem dX7_isLive_2 : decode cX7_isLive 2 = .ok (.invokevirtual 41, 3) := by decide +kernel
theorem dX7_isLive_5 : decode cX7_isLive 5 = .ok (.iconst (-1), 1) := by decide +kernel
theorem dX7_isLive_6 : decode cX7_isLive 6 = .ok (.if_icmp .eq 7, 3) := by decide +kernel
theorem dX7_isLive_9 : decode cX7_isLive 9 = .ok (.iconst 1, 1) := by decide +kernel
theorem dX7_isLive_10 : decode cX7_isLive 10 = .ok (.goto 4, 3) := by decide +kernel
theorem dX7_isLive_13 : decode cX7_isLive 13 = .ok (.iconst 0, 1) := by decide +kernel
theorem dX7_isLive_14 : decode cX7_isLive 14 = .ok (.ireturn, 1) := by decide +kernel
set_option maxRecDepth 20000 in
theorem ggX7_parentOf_X7_isSample : GoodIn wsX7_parentOf wsX7_isSample := goodIn_r _ [6, 7, 8, 9, 10, 11, 12, 13, 14] (by decide +kernel) (by decide +kernel)
set_option maxRecDepth 20000 in
theorem gX7_parentOf_X7_isSample : GoodIn wsX7_parentOf (wsV RX7 45 RX7 yX7_isSample wsX7_isSample) := goodIn_app (goodIn_of _ (by decide +kernel)) ggX7_parentOf_X7_isSample
theorem dX7_parentOf_0 : decode cX7_parentOf 0 = .ok (.aload_n 0, 1) := by decide +kernel
theorem dX7_parentOf_1 : decode cX7_parentOf 1 = .ok (.iload_n 1, 1) := by decide +kernel
theorem dX7_parentOf_2 : decode cX7_parentOf 2 = .ok (.invokevirtual 45, 3) := by decide +kernel
theorem dX7_parentOf_5 : decode cX7_parentOf 5 = .ok (.ifCond .eq 12, 3) := by decide +kernel
theorem dX7_parentOf_8 : decode cX7_parentOf 8 = .ok (.aload_n 0, 1) := by decide +kernel
theorem dX7_parentOf_9 : decode cX7_parentOf 9 = .ok (.getfield 9, 3) := by decide +kernel
theorem dX7_parentOf_12 : decode cX7_parentOf 12 = .ok (.iload_n 1, 1) := by decide +kernel
theorem dX7_parentOf_13 : decode cX7_parentOf 13 = .ok (.iaload, 1) := by decide +kernel
theorem dX7_parentOf_14 : decode cX7_parentOf 14 = .ok (.goto 4, 3) := by decide +kernel
theorem dX7_parentOf_17 : decode cX7_parentOf 17 = .ok (.iconst 0, 1) := by decide +kernel
theorem dX7_parentOf_18 : decode cX7_parentOf 18 = .ok (.ireturn, 1) := by decide +kernel
set_option maxRecDepth 20000 in
theorem ggX7_wellOf_X7_isSample : GoodIn wsX7_wellOf wsX7_isSample := goodIn_r _ [6, 7, 8, 9, 10, 11, 12, 13, 14] (by decide +kernel) (by decide +kernel)
set_option maxRecDepth 20000 in
theorem gX7_wellOf_X7_isSample : GoodIn wsX7_wellOf (wsV RX7 45 RX7 yX7_isSample wsX7_isSample) := goodIn_app (goodIn_of _ (by decide +kernel)) ggX7_wellOf_X7_isSample
theorem dX7_wellOf_0 : decode cX7_wellOf 0 = .ok (.aload_n 0, 1) := by decide +kernel
theorem dX7_wellOf_1 : decode cX7_wellOf 1 = .ok (.iload_n 1, 1) := by decide +kernel
theorem dX7_wellOf_2 : decode cX7_wellOf 2 = .ok (.invokevirtual 45, 3) := by decide +kernel
theorem dX7_wellOf_5 : decode cX7_wellOf 5 = .ok (.ifCond .eq 12, 3) := by decide +kernel
theorem dX7_wellOf_8 : decode cX7_wellOf 8 = .ok (.aload_n 0, 1) := by decide +kernel
theorem dX7_wellOf_9 : decode cX7_wellOf 9 = .ok (.getfield 15, 3) := by decide +kernel
theorem dX7_wellOf_12 : decode cX7_wellOf 12 = .ok (.iload_n 1, 1) := by decide +kernel
theorem dX7_wellOf_13 : decode cX7_wellOf 13 = .ok (.iaload, 1) := by decide +kernel
theorem dX7_wellOf_14 : decode cX7_wellOf 14 = .ok (.goto 4, 3) := by decide +kernel
theorem dX7_wellOf_17 : decode cX7_wellOf 17 = .ok (.iconst (-1), 1) := by decide +kernel
theorem dX7_wellOf_18 : decode cX7_wellOf 18 = .ok (.ireturn, 1) := by decide +kernel
set_option maxRecDepth 20000 in
theorem ggX7_volumeOf_X7_isSample : GoodIn wsX7_volumeOf wsX7_isSample := goodIn_r _ [7, 8, 9, 10, 11, 12, 13, 14, 15] (by decide +kernel) (by decide +kernel)
set_option maxRecDepth 20000 in
theorem gX7_volumeOf_X7_isSample : GoodIn wsX7_volumeOf (wsV RX7 45 RX7 yX7_isSample wsX7_isSample) := goodIn_app (goodIn_of _ (by decide +kernel)) ggX7_volumeOf_X7_isSample
theorem dX7_volumeOf_0 : decode cX7_volumeOf 0 = .ok (.aload_n 0, 1) := by decide +kernel
theorem dX7_volumeOf_1 : decode cX7_volumeOf 1 = .ok (.iload_n 1, 1) := by decide +kernel
theorem dX7_volumeOf_2 : decode cX7_volumeOf 2 = .ok (.invokevirtual 45, 3) := by decide +kernel
theorem dX7_volumeOf_5 : decode cX7_volumeOf 5 = .ok (.ifCond .eq 12, 3) := by decide +kernel
theorem dX7_volumeOf_8 : decode cX7_volumeOf 8 = .ok (.aload_n 0, 1) := by decide +kernel
theorem dX7_volumeOf_9 : decode cX7_volumeOf 9 = .ok (.getfield 18, 3) := by decide +kernel
theorem dX7_volumeOf_12 : decode cX7_volumeOf 12 = .ok (.iload_n 1, 1) := by decide +kernel
theorem dX7_volumeOf_13 : decode cX7_volumeOf 13 = .ok (.laload, 1) := by decide +kernel
theorem dX7_volumeOf_14 : decode cX7_volumeOf 14 = .ok (.goto 6, 3) := by decide +kernel
theorem dX7_volumeOf_17 : decode cX7_volumeOf 17 = .ok (.ldc2_w 49, 3) := by decide +kernel
theorem dX7_volumeOf_20 : decode cX7_volumeOf 20 = .ok (.lreturn, 1) := by decide +kernel
set_option maxRecDepth 20000 in
theorem ggX7_sampleIn_X8_isWell : GoodIn wsX7_sampleIn wsX8_isWell := goodIn_r _ [4] (by decide +kernel) (by decide +kernel)
set_option maxRecDepth 20000 in
theorem gX7_sampleIn_X8_isWell_n51 : GoodIn wsX7_sampleIn (wsX8_isWell) := ggX7_sampleIn_X8_isWell
set_option maxRecDepth 20000 in
theorem ggX7_sampleIn_X7_wellOf : GoodIn wsX7_sampleIn wsX7_wellOf := goodIn_r _ [9, 10, 11, 12, 13, 8, 14, 1, 15, 16, 17, 18, 19, 20, 21] (by decide +kernel) (by decide +kernel)
set_option maxRecDepth 20000 in
theorem gX7_sampleIn_X7_wellOf : GoodIn wsX7_sampleIn (wsV RX7 41 RX7 yX7_wellOf wsX7_wellOf) := goodIn_app (goodIn_of _ (by decide +kernel)) ggX7_sampleIn_X7_wellOf
theorem dX7_sampleIn_0 : decode cX7_sampleIn 0 = .ok (.iconst 1, 1) := by decide +kernel
theorem dX7_sampleIn_1 : decode cX7_sampleIn 1 = .ok (.istore_n 2, 1) := by decide +kernel
theorem dX7_sampleIn_2 : decode cX7_sampleIn 2 = .ok (.iload_n 1, 1) := by decide +kernel
theorem dX7_sampleIn_3 : decode cX7_sampleIn 3 = .ok (.invokestatic 51, 3) := by decide +kernel
theorem dX7_sampleIn_6 : decode cX7_sampleIn 6 = .ok (.ifCond .eq 28, 3) := by decide +kernel
theorem dX7_sampleIn_9 : decode cX7_sampleIn 9 = .ok (.iload_n 2, 1) := by decide +kernel
theorem dX7_sampleIn_10 : decode cX7_sampleIn 10 = .ok (.aload_n 0, 1) := by decide +kernel
theorem dX7_sampleIn_11 : decode cX7_sampleIn 11 = .ok (.getfield 33, 3) := by decide +kernel
theorem dX7_sampleIn_14 : decode cX7_sampleIn 14 = .ok (.if_icmp .gt 20, 3) := by decide +kernel
theorem dX7_sampleIn_17 : decode cX7_sampleIn 17 = .ok (.aload_n 0, 1) := by decide +kernel
theorem dX7_sampleIn_18 : decode cX7_sampleIn 18 = .ok (.iload_n 2, 1) := by decide +kernel
theorem dX7_sampleIn_19 : decode cX7_sampleIn 19 = .ok (.invokevirtual 41, 3) := by decide +kernel
theorem dX7_sampleIn_22 : decode cX7_sampleIn 22 = .ok (.iload_n 1, 1) := by decide +kernel
theorem dX7_sampleIn_23 : decode cX7_sampleIn 23 = .ok (.if_icmp .ne 5, 3) := by decide +kernel
theorem dX7_sampleIn_26 : decode cX7_sampleIn 26 = .ok (.iload_n 2, 1) := by decide +kernel
theorem dX7_sampleIn_27 : decode cX7_sampleIn 27 = .ok (.ireturn, 1) := by decide +kernel
theorem dX7_sampleIn_28 : decode cX7_sampleIn 28 = .ok (.iinc 2 1, 3) := by decide +kernel
theorem dX7_sampleIn_31 : decode cX7_sampleIn 31 = .ok (.goto (-29), 3) := by decide +kernel
theorem dX7_sampleIn_34 : decode cX7_sampleIn 34 = .ok (.iconst (-1), 1) := by decide +kernel
theorem dX7_sampleIn_35 : decode cX7_sampleIn 35 = .ok (.ireturn, 1) := by decide +kernel
set_option maxRecDepth 20000 in
theorem ggX7_liveCount_X7_isLive : GoodIn wsX7_liveCount wsX7_isLive := goodIn_r _ [6, 7, 8, 9, 5, 10, 11, 12, 13, 14, 15, 1, 16, 17, 18, 19, 20, 21, 22] (by decide +kernel) (by decide +kernel)
set_option maxRecDepth 20000 in
theorem gX7_liveCount_X7_isLive : GoodIn wsX7_liveCount (wsV RX7 54 RX7 yX7_isLive wsX7_isLive) := goodIn_app (goodIn_of _ (by decide +kernel)) ggX7_liveCount_X7_isLive
theorem dX7_liveCount_0 : decode cX7_liveCount 0 = .ok (.iconst 0, 1) := by decide +kernel
theorem dX7_liveCount_1 : decode cX7_liveCount 1 = .ok (.istore_n 1, 1) := by decide +kernel
theorem dX7_liveCount_2 : decode cX7_liveCount 2 = .ok (.iconst 1, 1) := by decide +kernel
theorem dX7_liveCount_3 : decode cX7_liveCount 3 = .ok (.istore_n 2, 1) := by decide +kernel
theorem dX7_liveCount_4 : decode cX7_liveCount 4 = .ok (.iload_n 2, 1) := by decide +kernel
theorem dX7_liveCount_5 : decode cX7_liveCount 5 = .ok (.aload_n 0, 1) := by decide +kernel
theorem dX7_liveCount_6 : decode cX7_liveCount 6 = .ok (.getfield 33, 3) := by decide +kernel
theorem dX7_liveCount_9 : decode cX7_liveCount 9 = .ok (.if_icmp .gt 25, 3) := by decide +kernel
theorem dX7_liveCount_12 : decode cX7_liveCount 12 = .ok (.iload_n 1, 1) := by decide +kernel
theorem dX7_liveCount_13 : decode cX7_liveCount 13 = .ok (.aload_n 0, 1) := by decide +kernel
theorem dX7_liveCount_14 : decode cX7_liveCount 14 = .ok (.iload_n 2, 1) := by decide +kernel
theorem dX7_liveCount_15 : decode cX7_liveCount 15 = .ok (.invokevirtual 54, 3) := by decide +kernel
theorem dX7_liveCount_18 : decode cX7_liveCount 18 = .ok (.ifCond .eq 7, 3) := by decide +kernel
theorem dX7_liveCount_21 : decode cX7_liveCount 21 = .ok (.iconst 1, 1) := by decide +kernel
theorem dX7_liveCount_22 : decode cX7_liveCount 22 = .ok (.goto 4, 3) := by decide +kernel
theorem dX7_liveCount_25 : decode cX7_liveCount 25 = .ok (.iconst 0, 1) := by decide +kernel
theorem dX7_liveCount_26 : decode cX7_liveCount 26 = .ok (.iadd, 1) := by decide +kernel
theorem dX7_liveCount_27 : decode cX7_liveCount 27 = .ok (.istore_n 1, 1) := by decide +kernel
theorem dX7_liveCount_28 : decode cX7_liveCount 28 = .ok (.iinc 2 1, 3) := by decide +kernel
theorem dX7_liveCount_31 : decode cX7_liveCount 31 = .ok (.goto (-27), 3) := by decide +kernel
theorem dX7_liveCount_34 : decode cX7_liveCount 34 = .ok (.iload_n 1, 1) := by decide +kernel
theorem dX7_liveCount_35 : decode cX7_liveCount 35 = .ok (.ireturn, 1) := by decide +kernel
set_option maxRecDepth 20000 in
theorem ggX7_childrenOf_X7_parentOf : GoodIn wsX7_childrenOf wsX7_parentOf := goodIn_r _ [6, 7, 8, 9, 10, 5, 11, 1, 12, 13, 14, 15, 16, 17, 18] (by decide +kernel) (by decide +kernel)
set_option maxRecDepth 20000 in
theorem gX7_childrenOf_X7_parentOf : GoodIn wsX7_childrenOf (wsV RX7 57 RX7 yX7_parentOf wsX7_parentOf) := goodIn_app (goodIn_of _ (by decide +kernel)) ggX7_childrenOf_X7_parentOf
theorem dX7_childrenOf_0 : decode cX7_childrenOf 0 = .ok (.iconst 0, 1) := by decide +kernel
theorem dX7_childrenOf_1 : decode cX7_childrenOf 1 = .ok (.istore_n 2, 1) := by decide +kernel
theorem dX7_childrenOf_2 : decode cX7_childrenOf 2 = .ok (.iconst 1, 1) := by decide +kernel
theorem dX7_childrenOf_3 : decode cX7_childrenOf 3 = .ok (.istore_n 3, 1) := by decide +kernel
theorem dX7_childrenOf_4 : decode cX7_childrenOf 4 = .ok (.iload_n 3, 1) := by decide +kernel
theorem dX7_childrenOf_5 : decode cX7_childrenOf 5 = .ok (.aload_n 0, 1) := by decide +kernel
theorem dX7_childrenOf_6 : decode cX7_childrenOf 6 = .ok (.getfield 33, 3) := by decide +kernel
theorem dX7_childrenOf_9 : decode cX7_childrenOf 9 = .ok (.if_icmp .gt 26, 3) := by decide +kernel
theorem dX7_childrenOf_12 : decode cX7_childrenOf 12 = .ok (.iload_n 2, 1) := by decide +kernel
theorem dX7_childrenOf_13 : decode cX7_childrenOf 13 = .ok (.aload_n 0, 1) := by decide +kernel
theorem dX7_childrenOf_14 : decode cX7_childrenOf 14 = .ok (.iload_n 3, 1) := by decide +kernel
theorem dX7_childrenOf_15 : decode cX7_childrenOf 15 = .ok (.invokevirtual 57, 3) := by decide +kernel
theorem dX7_childrenOf_18 : decode cX7_childrenOf 18 = .ok (.iload_n 1, 1) := by decide +kernel
theorem dX7_childrenOf_19 : decode cX7_childrenOf 19 = .ok (.if_icmp .ne 7, 3) := by decide +kernel
theorem dX7_childrenOf_22 : decode cX7_childrenOf 22 = .ok (.iconst 1, 1) := by decide +kernel
theorem dX7_childrenOf_23 : decode cX7_childrenOf 23 = .ok (.goto 4, 3) := by decide +kernel
theorem dX7_childrenOf_26 : decode cX7_childrenOf 26 = .ok (.iconst 0, 1) := by decide +kernel
theorem dX7_childrenOf_27 : decode cX7_childrenOf 27 = .ok (.iadd, 1) := by decide +kernel
theorem dX7_childrenOf_28 : decode cX7_childrenOf 28 = .ok (.istore_n 2, 1) := by decide +kernel
theorem dX7_childrenOf_29 : decode cX7_childrenOf 29 = .ok (.iinc 3 1, 3) := by decide +kernel
theorem dX7_childrenOf_32 : decode cX7_childrenOf 32 = .ok (.goto (-28), 3) := by decide +kernel
theorem dX7_childrenOf_35 : decode cX7_childrenOf 35 = .ok (.iload_n 2, 1) := by decide +kernel
theorem dX7_childrenOf_36 : decode cX7_childrenOf 36 = .ok (.ireturn, 1) := by decide +kernel
set_option maxRecDepth 20000 in
theorem ggX7_stepsToOrigin_X7_parentOf : GoodIn wsX7_stepsToOrigin wsX7_parentOf := goodIn_r _ [5, 6, 7, 8, 9, 4, 10, 11, 12, 13, 14, 15, 16, 17, 18] (by decide +kernel) (by decide +kernel)
set_option maxRecDepth 20000 in
theorem gX7_stepsToOrigin_X7_parentOf : GoodIn wsX7_stepsToOrigin (wsV RX7 57 RX7 yX7_parentOf wsX7_parentOf) := goodIn_app (goodIn_of _ (by decide +kernel)) ggX7_stepsToOrigin_X7_parentOf
theorem dX7_stepsToOrigin_0 : decode cX7_stepsToOrigin 0 = .ok (.iconst 0, 1) := by decide +kernel
theorem dX7_stepsToOrigin_1 : decode cX7_stepsToOrigin 1 = .ok (.istore_n 2, 1) := by decide +kernel
theorem dX7_stepsToOrigin_2 : decode cX7_stepsToOrigin 2 = .ok (.iload_n 1, 1) := by decide +kernel
theorem dX7_stepsToOrigin_3 : decode cX7_stepsToOrigin 3 = .ok (.istore_n 3, 1) := by decide +kernel
theorem dX7_stepsToOrigin_4 : decode cX7_stepsToOrigin 4 = .ok (.iload_n 2, 1) := by decide +kernel
theorem dX7_stepsToOrigin_5 : decode cX7_stepsToOrigin 5 = .ok (.bipush 120, 2) := by decide +kernel
theorem dX7_stepsToOrigin_7 : decode cX7_stepsToOrigin 7 = .ok (.if_icmp .ge 23, 3) := by decide +kernel
theorem dX7_stepsToOrigin_10 : decode cX7_stepsToOrigin 10 = .ok (.aload_n 0, 1) := by decide +kernel
theorem dX7_stepsToOrigin_11 : decode cX7_stepsToOrigin 11 = .ok (.iload_n 3, 1) := by decide +kernel
theorem dX7_stepsToOrigin_12 : decode cX7_stepsToOrigin 12 = .ok (.invokevirtual 57, 3) := by decide +kernel
theorem dX7_stepsToOrigin_15 : decode cX7_stepsToOrigin 15 = .ok (.ifCond .eq 15, 3) := by decide +kernel
theorem dX7_stepsToOrigin_18 : decode cX7_stepsToOrigin 18 = .ok (.aload_n 0, 1) := by decide +kernel
theorem dX7_stepsToOrigin_19 : decode cX7_stepsToOrigin 19 = .ok (.iload_n 3, 1) := by decide +kernel
theorem dX7_stepsToOrigin_20 : decode cX7_stepsToOrigin 20 = .ok (.invokevirtual 57, 3) := by decide +kernel
theorem dX7_stepsToOrigin_23 : decode cX7_stepsToOrigin 23 = .ok (.istore_n 3, 1) := by decide +kernel
theorem dX7_stepsToOrigin_24 : decode cX7_stepsToOrigin 24 = .ok (.iinc 2 1, 3) := by decide +kernel
theorem dX7_stepsToOrigin_27 : decode cX7_stepsToOrigin 27 = .ok (.goto (-23), 3) := by decide +kernel
theorem dX7_stepsToOrigin_30 : decode cX7_stepsToOrigin 30 = .ok (.iload_n 2, 1) := by decide +kernel
theorem dX7_stepsToOrigin_31 : decode cX7_stepsToOrigin 31 = .ok (.ireturn, 1) := by decide +kernel
set_option maxRecDepth 20000 in
theorem ggX7_originOf_X7_stepsToOrigin : GoodIn wsX7_originOf wsX7_stepsToOrigin := goodIn_r _ [5, 6, 7, 8, 4, 9, 10, 11, 12, 13, 14, 15, 16, 17, 18, 19, 20, 21, 22] (by decide +kernel) (by decide +kernel)
set_option maxRecDepth 20000 in
theorem gX7_originOf_X7_stepsToOrigin : GoodIn wsX7_originOf (wsV RX7 60 RX7 yX7_stepsToOrigin wsX7_stepsToOrigin) := goodIn_app (goodIn_of _ (by decide +kernel)) ggX7_originOf_X7_stepsToOrigin
set_option maxRecDepth 20000 in
theorem ggX7_originOf_X7_parentOf : GoodIn wsX7_originOf wsX7_parentOf := goodIn_r _ [9, 10, 11, 12, 13, 4, 14, 15, 16, 17, 18, 19, 20, 21, 22] (by decide +kernel) (by decide +kernel)
set_option maxRecDepth 20000 in
theorem gX7_originOf_X7_parentOf : GoodIn wsX7_originOf (wsV RX7 57 RX7 yX7_parentOf wsX7_parentOf) := goodIn_app (goodIn_of _ (by decide +kernel)) ggX7_originOf_X7_parentOf
theorem dX7_originOf_0 : decode cX7_originOf 0 = .ok (.iload_n 1, 1) := by decide +kernel
theorem dX7_originOf_1 : decode cX7_originOf 1 = .ok (.istore_n 2, 1) := by decide +kernel
theorem dX7_originOf_2 : decode cX7_originOf 2 = .ok (.aload_n 0, 1) := by decide +kernel
theorem dX7_originOf_3 : decode cX7_originOf 3 = .ok (.iload_n 1, 1) := by decide +kernel
theorem dX7_originOf_4 : decode cX7_originOf 4 = .ok (.invokevirtual 60, 3) := by decide +kernel
theorem dX7_originOf_7 : decode cX7_originOf 7 = .ok (.istore_n 3, 1) := by decide +kernel
theorem dX7_originOf_8 : decode cX7_originOf 8 = .ok (.iload_n 3, 1) := by decide +kernel
theorem dX7_originOf_9 : decode cX7_originOf 9 = .ok (.ifCond .le 15, 3) := by decide +kernel
theorem dX7_originOf_12 : decode cX7_originOf 12 = .ok (.aload_n 0, 1) := by decide +kernel
theorem dX7_originOf_13 : decode cX7_originOf 13 = .ok (.iload_n 2, 1) := by decide +kernel
theorem dX7_originOf_14 : decode cX7_originOf 14 = .ok (.invokevirtual 57, 3) := by decide +kernel
theorem dX7_originOf_17 : decode cX7_originOf 17 = .ok (.istore_n 2, 1) := by decide +kernel
theorem dX7_originOf_18 : decode cX7_originOf 18 = .ok (.iinc 3 (-1), 3) := by decide +kernel
theorem dX7_originOf_21 : decode cX7_originOf 21 = .ok (.goto (-13), 3) := by decide +kernel
theorem dX7_originOf_24 : decode cX7_originOf 24 = .ok (.iload_n 2, 1) := by decide +kernel
theorem dX7_originOf_25 : decode cX7_originOf 25 = .ok (.ireturn, 1) := by decide +kernel
set_option maxRecDepth 20000 in
theorem ggX7_liveVolume_X7_volumeOf : GoodIn wsX7_liveVolume wsX7_volumeOf := goodIn_r _ [6, 7, 8, 9, 10, 11, 5, 12, 1, 13, 14, 15, 16, 17, 18, 19] (by decide +kernel) (by decide +kernel)
set_option maxRecDepth 20000 in
theorem gX7_liveVolume_X7_volumeOf : GoodIn wsX7_liveVolume (wsV RX7 63 RX7 yX7_volumeOf wsX7_volumeOf) := goodIn_app (goodIn_of _ (by decide +kernel)) ggX7_liveVolume_X7_volumeOf
theorem dX7_liveVolume_0 : decode cX7_liveVolume 0 = .ok (.lconst 0, 1) := by decide +kernel
theorem dX7_liveVolume_1 : decode cX7_liveVolume 1 = .ok (.lstore_n 1, 1) := by decide +kernel
theorem dX7_liveVolume_2 : decode cX7_liveVolume 2 = .ok (.iconst 1, 1) := by decide +kernel
theorem dX7_liveVolume_3 : decode cX7_liveVolume 3 = .ok (.istore_n 3, 1) := by decide +kernel
theorem dX7_liveVolume_4 : decode cX7_liveVolume 4 = .ok (.iload_n 3, 1) := by decide +kernel
theorem dX7_liveVolume_5 : decode cX7_liveVolume 5 = .ok (.aload_n 0, 1) := by decide +kernel
theorem dX7_liveVolume_6 : decode cX7_liveVolume 6 = .ok (.getfield 33, 3) := by decide +kernel
theorem dX7_liveVolume_9 : decode cX7_liveVolume 9 = .ok (.if_icmp .gt 17, 3) := by decide +kernel
theorem dX7_liveVolume_12 : decode cX7_liveVolume 12 = .ok (.lload_n 1, 1) := by decide +kernel
theorem dX7_liveVolume_13 : decode cX7_liveVolume 13 = .ok (.aload_n 0, 1) := by decide +kernel
theorem dX7_liveVolume_14 : decode cX7_liveVolume 14 = .ok (.iload_n 3, 1) := by decide +kernel
theorem dX7_liveVolume_15 : decode cX7_liveVolume 15 = .ok (.invokevirtual 63, 3) := by decide +kernel
theorem dX7_liveVolume_18 : decode cX7_liveVolume 18 = .ok (.ladd, 1) := by decide +kernel
theorem dX7_liveVolume_19 : decode cX7_liveVolume 19 = .ok (.lstore_n 1, 1) := by decide +kernel
theorem dX7_liveVolume_20 : decode cX7_liveVolume 20 = .ok (.iinc 3 1, 3) := by decide +kernel
theorem dX7_liveVolume_23 : decode cX7_liveVolume 23 = .ok (.goto (-19), 3) := by decide +kernel
theorem dX7_liveVolume_26 : decode cX7_liveVolume 26 = .ok (.lload_n 1, 1) := by decide +kernel
theorem dX7_liveVolume_27 : decode cX7_liveVolume 27 = .ok (.lreturn, 1) := by decide +kernel
theorem dX7_lostVolume_0 : decode cX7_lostVolume 0 = .ok (.aload_n 0, 1) := by decide +kernel
theorem dX7_lostVolume_1 : decode cX7_lostVolume 1 = .ok (.getfield 37, 3) := by decide +kernel
theorem dX7_lostVolume_4 : decode cX7_lostVolume 4 = .ok (.lreturn, 1) := by decide +kernel
set_option maxRecDepth 20000 in
theorem ggX7_volumeStillAllowed_X7_liveVolume : GoodIn wsX7_volumeStillAllowed wsX7_liveVolume := goodIn_r _ [7, 8, 9, 10, 11, 6, 12, 13, 14, 15, 16, 17, 18, 19, 20, 21, 22, 23, 24, 25] (by decide +kernel) (by decide +kernel)
set_option maxRecDepth 20000 in
theorem gX7_volumeStillAllowed_X7_liveVolume : GoodIn wsX7_volumeStillAllowed (wsV RX7 71 RX7 yX7_liveVolume wsX7_liveVolume) := goodIn_app (goodIn_of _ (by decide +kernel)) ggX7_volumeStillAllowed_X7_liveVolume
theorem dX7_volumeStillAllowed_0 : decode cX7_volumeStillAllowed 0 = .ok (.ldc2_w 69, 3) := by decide +kernel
theorem dX7_volumeStillAllowed_3 : decode cX7_volumeStillAllowed 3 = .ok (.aload_n 0, 1) := by decide +kernel
theorem dX7_volumeStillAllowed_4 : decode cX7_volumeStillAllowed 4 = .ok (.invokevirtual 71, 3) := by decide +kernel
theorem dX7_volumeStillAllowed_7 : decode cX7_volumeStillAllowed 7 = .ok (.lsub, 1) := by decide +kernel
theorem dX7_volumeStillAllowed_8 : decode cX7_volumeStillAllowed 8 = .ok (.aload_n 0, 1) := by decide +kernel
theorem dX7_volumeStillAllowed_9 : decode cX7_volumeStillAllowed 9 = .ok (.getfield 37, 3) := by decide +kernel
theorem dX7_volumeStillAllowed_12 : decode cX7_volumeStillAllowed 12 = .ok (.lsub, 1) := by decide +kernel
theorem dX7_volumeStillAllowed_13 : decode cX7_volumeStillAllowed 13 = .ok (.lreturn, 1) := by decide +kernel
set_option maxRecDepth 20000 in
theorem ggX7_volumeOfFamily_X7_isSample : GoodIn wsX7_volumeOfFamily wsX7_isSample := goodIn_r _ [9, 2, 15, 16, 17, 18, 19, 20, 21] (by decide +kernel) (by decide +kernel)
set_option maxRecDepth 20000 in
theorem gX7_volumeOfFamily_X7_isSample : GoodIn wsX7_volumeOfFamily (wsV RX7 45 RX7 yX7_isSample wsX7_isSample) := goodIn_app (goodIn_of _ (by decide +kernel)) ggX7_volumeOfFamily_X7_isSample
set_option maxRecDepth 20000 in
theorem ggX7_volumeOfFamily_X7_parentOf : GoodIn wsX7_volumeOfFamily wsX7_parentOf := goodIn_r _ [13, 14, 5, 6, 7, 8, 9, 2, 15, 16, 17, 18, 19, 20, 21] (by decide +kernel) (by decide +kernel)
set_option maxRecDepth 20000 in
theorem gX7_volumeOfFamily_X7_parentOf : GoodIn wsX7_volumeOfFamily (wsV RX7 57 RX7 yX7_parentOf wsX7_parentOf) := goodIn_app (goodIn_of _ (by decide +kernel)) ggX7_volumeOfFamily_X7_parentOf
theorem dX7_volumeOfFamily_0 : decode cX7_volumeOfFamily 0 = .ok (.aload_n 0, 1) := by decide +kernel
theorem dX7_volumeOfFamily_1 : decode cX7_volumeOfFamily 1 = .ok (.iload_n 1, 1) := by decide +kernel
theorem dX7_volumeOfFamily_2 : decode cX7_volumeOfFamily 2 = .ok (.invokevirtual 45, 3) := by decide +kernel
theorem dX7_volumeOfFamily_5 : decode cX7_volumeOfFamily 5 = .ok (.ifCond .ne 7, 3) := by decide +kernel
theorem dX7_volumeOfFamily_8 : decode cX7_volumeOfFamily 8 = .ok (.ldc2_w 49, 3) := by decide +kernel
theorem dX7_volumeOfFamily_11 : decode cX7_volumeOfFamily 11 = .ok (.lreturn, 1) := by decide +kernel
theorem dX7_volumeOfFamily_12 : decode cX7_volumeOfFamily 12 = .ok (.lconst 0, 1) := by decide +kernel
theorem dX7_volumeOfFamily_13 : decode cX7_volumeOfFamily 13 = .ok (.lstore_n 2, 1) := by decide +kernel
theorem dX7_volumeOfFamily_14 : decode cX7_volumeOfFamily 14 = .ok (.iconst 1, 1) := by decide +kernel
theorem dX7_volumeOfFamily_15 : decode cX7_volumeOfFamily 15 = .ok (.istore 4, 2) := by decide +kernel
theorem dX7_volumeOfFamily_17 : decode cX7_volumeOfFamily 17 = .ok (.iload 4, 2) := by decide +kernel
theorem dX7_volumeOfFamily_19 : decode cX7_volumeOfFamily 19 = .ok (.aload_n 0, 1) := by decide +kernel
theorem dX7_volumeOfFamily_20 : decode cX7_volumeOfFamily 20 = .ok (.getfield 33, 3) := by decide +kernel
theorem dX7_volumeOfFamily_23 : decode cX7_volumeOfFamily 23 = .ok (.if_icmp .gt 85, 3) := by decide +kernel
theorem dX7_volumeOfFamily_26 : decode cX7_volumeOfFamily 26 = .ok (.iload 4, 2) := by decide +kernel
theorem dX7_volumeOfFamily_28 : decode cX7_volumeOfFamily 28 = .ok (.bipush 120, 2) := by decide +kernel
theorem dX7_volumeOfFamily_30 : decode cX7_volumeOfFamily 30 = .ok (.if_icmp .gt 78, 3) := by decide +kernel
theorem dX7_volumeOfFamily_33 : decode cX7_volumeOfFamily 33 = .ok (.aload_n 0, 1) := by decide +kernel
theorem dX7_volumeOfFamily_34 : decode cX7_volumeOfFamily 34 = .ok (.iload 4, 2) := by decide +kernel
theorem dX7_volumeOfFamily_36 : decode cX7_volumeOfFamily 36 = .ok (.invokevirtual 57, 3) := by decide +kernel
theorem dX7_volumeOfFamily_39 : decode cX7_volumeOfFamily 39 = .ok (.istore 5, 2) := by decide +kernel
theorem dX7_volumeOfFamily_41 : decode cX7_volumeOfFamily 41 = .ok (.aload_n 0, 1) := by decide +kernel
theorem dX7_volumeOfFamily_42 : decode cX7_volumeOfFamily 42 = .ok (.getfield 22, 3) := by decide +kernel
theorem dX7_volumeOfFamily_45 : decode cX7_volumeOfFamily 45 = .ok (.iload 4, 2) := by decide +kernel
theorem dX7_volumeOfFamily_47 : decode cX7_volumeOfFamily 47 = .ok (.iload 4, 2) := by decide +kernel
theorem dX7_volumeOfFamily_49 : decode cX7_volumeOfFamily 49 = .ok (.iload_n 1, 1) := by decide +kernel
theorem dX7_volumeOfFamily_50 : decode cX7_volumeOfFamily 50 = .ok (.if_icmp .eq 22, 3) := by decide +kernel
theorem dX7_volumeOfFamily_53 : decode cX7_volumeOfFamily 53 = .ok (.aload_n 0, 1) := by decide +kernel
theorem dX7_volumeOfFamily_54 : decode cX7_volumeOfFamily 54 = .ok (.iload 5, 2) := by decide +kernel
theorem dX7_volumeOfFamily_56 : decode cX7_volumeOfFamily 56 = .ok (.invokevirtual 45, 3) := by decide +kernel
theorem dX7_volumeOfFamily_59 : decode cX7_volumeOfFamily 59 = .ok (.ifCond .eq 17, 3) := by decide +kernel
theorem dX7_volumeOfFamily_62 : decode cX7_volumeOfFamily 62 = .ok (.aload_n 0, 1) := by decide +kernel
theorem dX7_volumeOfFamily_63 : decode cX7_volumeOfFamily 63 = .ok (.getfield 22, 3) := by decide +kernel
theorem dX7_volumeOfFamily_66 : decode cX7_volumeOfFamily 66 = .ok (.iload 5, 2) := by decide +kernel
theorem dX7_volumeOfFamily_68 : decode cX7_volumeOfFamily 68 = .ok (.baload, 1) := by decide +kernel
theorem dX7_volumeOfFamily_69 : decode cX7_volumeOfFamily 69 = .ok (.ifCond .eq 7, 3) := by decide +kernel
theorem dX7_volumeOfFamily_72 : decode cX7_volumeOfFamily 72 = .ok (.iconst 1, 1) := by decide +kernel
theorem dX7_volumeOfFamily_73 : decode cX7_volumeOfFamily 73 = .ok (.goto 4, 3) := by decide +kernel
theorem dX7_volumeOfFamily_76 : decode cX7_volumeOfFamily 76 = .ok (.iconst 0, 1) := by decide +kernel
theorem dX7_volumeOfFamily_77 : decode cX7_volumeOfFamily 77 = .ok (.bastore, 1) := by decide +kernel
theorem dX7_volumeOfFamily_78 : decode cX7_volumeOfFamily 78 = .ok (.lload_n 2, 1) := by decide +kernel
theorem dX7_volumeOfFamily_79 : decode cX7_volumeOfFamily 79 = .ok (.aload_n 0, 1) := by decide +kernel
theorem dX7_volumeOfFamily_80 : decode cX7_volumeOfFamily 80 = .ok (.getfield 22, 3) := by decide +kernel
theorem dX7_volumeOfFamily_83 : decode cX7_volumeOfFamily 83 = .ok (.iload 4, 2) := by decide +kernel
theorem dX7_volumeOfFamily_85 : decode cX7_volumeOfFamily 85 = .ok (.baload, 1) := by decide +kernel
theorem dX7_volumeOfFamily_86 : decode cX7_volumeOfFamily 86 = .ok (.ifCond .eq 13, 3) := by decide +kernel
theorem dX7_volumeOfFamily_89 : decode cX7_volumeOfFamily 89 = .ok (.aload_n 0, 1) := by decide +kernel
theorem dX7_volumeOfFamily_90 : decode cX7_volumeOfFamily 90 = .ok (.getfield 18, 3) := by decide +kernel
theorem dX7_volumeOfFamily_93 : decode cX7_volumeOfFamily 93 = .ok (.iload 4, 2) := by decide +kernel
theorem dX7_volumeOfFamily_95 : decode cX7_volumeOfFamily 95 = .ok (.laload, 1) := by decide +kernel
theorem dX7_volumeOfFamily_96 : decode cX7_volumeOfFamily 96 = .ok (.goto 4, 3) := by decide +kernel
theorem dX7_volumeOfFamily_99 : decode cX7_volumeOfFamily 99 = .ok (.lconst 0, 1) := by decide +kernel
theorem dX7_volumeOfFamily_100 : decode cX7_volumeOfFamily 100 = .ok (.ladd, 1) := by decide +kernel
theorem dX7_volumeOfFamily_101 : decode cX7_volumeOfFamily 101 = .ok (.lstore_n 2, 1) := by decide +kernel
theorem dX7_volumeOfFamily_102 : decode cX7_volumeOfFamily 102 = .ok (.iinc 4 1, 3) := by decide +kernel
theorem dX7_volumeOfFamily_105 : decode cX7_volumeOfFamily 105 = .ok (.goto (-88), 3) := by decide +kernel
theorem dX7_volumeOfFamily_108 : decode cX7_volumeOfFamily 108 = .ok (.lload_n 2, 1) := by decide +kernel
theorem dX7_volumeOfFamily_109 : decode cX7_volumeOfFamily 109 = .ok (.lreturn, 1) := by decide +kernel
set_option maxRecDepth 20000 in
theorem ggX7_pastActs_X4_size : GoodIn wsX7_pastActs wsX4_size := goodIn_r _ [6, 7, 15, 16, 17, 18, 19, 20] (by decide +kernel) (by decide +kernel)
set_option maxRecDepth 20000 in
theorem gX7_pastActs_X4_size : GoodIn wsX7_pastActs (wsV RX7 75 RX4 yX4_size wsX4_size) := goodIn_app (goodIn_of _ (by decide +kernel)) ggX7_pastActs_X4_size
theorem dX7_pastActs_0 : decode cX7_pastActs 0 = .ok (.aload_n 0, 1) := by decide +kernel
theorem dX7_pastActs_1 : decode cX7_pastActs 1 = .ok (.getfield 29, 3) := by decide +kernel
theorem dX7_pastActs_4 : decode cX7_pastActs 4 = .ok (.invokevirtual 75, 3) := by decide +kernel
theorem dX7_pastActs_7 : decode cX7_pastActs 7 = .ok (.ireturn, 1) := by decide +kernel
set_option maxRecDepth 20000 in
theorem ggX7_forgetPast_X4_forget : GoodIn wsX7_forgetPast wsX4_forget := goodIn_r _ [6, 7, 15, 16, 17, 18, 19, 20] (by decide +kernel) (by decide +kernel)
set_option maxRecDepth 20000 in
theorem gX7_forgetPast_X4_forget : GoodIn wsX7_forgetPast (wsV RX7 79 RX4 yX4_forget wsX4_forget) := goodIn_app (goodIn_of _ (by decide +kernel)) ggX7_forgetPast_X4_forget
theorem dX7_forgetPast_0 : decode cX7_forgetPast 0 = .ok (.aload_n 0, 1) := by decide +kernel
theorem dX7_forgetPast_1 : decode cX7_forgetPast 1 = .ok (.getfield 29, 3) := by decide +kernel
theorem dX7_forgetPast_4 : decode cX7_forgetPast 4 = .ok (.invokevirtual 79, 3) := by decide +kernel
theorem dX7_forgetPast_7 : decode cX7_forgetPast 7 = .ok (.return_, 1) := by decide +kernel
set_option maxRecDepth 20000 in
theorem ggX7_makeEmpty_X4_forget : GoodIn wsX7_makeEmpty wsX4_forget := goodIn_r _ [8, 9, 17, 18, 19, 20, 21, 22] (by decide +kernel) (by decide +kernel)
set_option maxRecDepth 20000 in
theorem gX7_makeEmpty_X4_forget : GoodIn wsX7_makeEmpty (wsV RX7 79 RX4 yX4_forget wsX4_forget) := goodIn_app (goodIn_of _ (by decide +kernel)) ggX7_makeEmpty_X4_forget
theorem dX7_makeEmpty_0 : decode cX7_makeEmpty 0 = .ok (.aload_n 0, 1) := by decide +kernel
theorem dX7_makeEmpty_1 : decode cX7_makeEmpty 1 = .ok (.iconst 0, 1) := by decide +kernel
theorem dX7_makeEmpty_2 : decode cX7_makeEmpty 2 = .ok (.putfield 33, 3) := by decide +kernel
theorem dX7_makeEmpty_5 : decode cX7_makeEmpty 5 = .ok (.aload_n 0, 1) := by decide +kernel
theorem dX7_makeEmpty_6 : decode cX7_makeEmpty 6 = .ok (.lconst 0, 1) := by decide +kernel
theorem dX7_makeEmpty_7 : decode cX7_makeEmpty 7 = .ok (.putfield 37, 3) := by decide +kernel
theorem dX7_makeEmpty_10 : decode cX7_makeEmpty 10 = .ok (.aload_n 0, 1) := by decide +kernel
theorem dX7_makeEmpty_11 : decode cX7_makeEmpty 11 = .ok (.getfield 29, 3) := by decide +kernel
theorem dX7_makeEmpty_14 : decode cX7_makeEmpty 14 = .ok (.invokevirtual 79, 3) := by decide +kernel
theorem dX7_makeEmpty_17 : decode cX7_makeEmpty 17 = .ok (.return_, 1) := by decide +kernel
set_option maxRecDepth 20000 in
theorem ggX7_apply_X7_applyRegister : GoodIn wsX7_apply wsX7_applyRegister := goodIn_r _ [6, 7, 8, 9, 5, 10, 11, 12, 1, 13, 14, 15, 16, 17, 18, 19, 20, 21, 22, 23, 24, 25, 26, 27, 28, 29, 30, 31, 32, 33, 34, 35, 36, 37, 38, 39, 40, 41, 42, 43, 44, 45, 46, 47, 92, 93, 94, 95, 96, 97, 98, 99, 100, 101, 102, 103, 104, 105, 106, 107, 108] (by decide +kernel) (by decide +kernel)
set_option maxRecDepth 20000 in
theorem gX7_apply_X7_applyRegister : GoodIn wsX7_apply (wsV RX7 87 RX7 yX7_applyRegister wsX7_applyRegister) := goodIn_app (goodIn_of _ (by decide +kernel)) ggX7_apply_X7_applyRegister
set_option maxRecDepth 20000 in
theorem ggX7_apply_X7_applyAliquot : GoodIn wsX7_apply wsX7_applyAliquot := goodIn_r _ [51, 26, 18, 19, 20, 5, 21, 12, 7, 8, 9, 10, 11, 1, 13, 14, 15, 16, 17, 22, 23, 24, 25, 27, 28, 29, 30, 31, 32, 33, 34, 35, 36, 37, 38, 39, 40, 41, 42, 43, 44, 45, 46, 47, 92, 93, 94, 95, 96, 97, 98, 99, 100, 101, 102, 103, 104, 105, 106, 107, 108] (by decide +kernel) (by decide +kernel)
set_option maxRecDepth 20000 in
theorem gX7_apply_X7_applyAliquot : GoodIn wsX7_apply (wsV RX7 91 RX7 yX7_applyAliquot wsX7_applyAliquot) := goodIn_app (goodIn_of _ (by decide +kernel)) ggX7_apply_X7_applyAliquot
set_option maxRecDepth 20000 in
theorem ggX7_apply_X7_applyMove : GoodIn wsX7_apply wsX7_applyMove := goodIn_r _ [55, 17, 18, 19, 20, 5, 21, 12, 7, 8, 9, 10, 11, 1, 13, 14, 15, 16, 22, 23, 24, 25, 26, 27, 28, 29, 30, 31, 32, 33, 34, 35, 36, 37, 38, 92, 93, 94, 95, 96, 97, 98, 99, 100, 101, 102, 103, 104, 105, 106, 107, 108] (by decide +kernel) (by decide +kernel)
set_option maxRecDepth 20000 in
theorem gX7_apply_X7_applyMove : GoodIn wsX7_apply (wsV RX7 94 RX7 yX7_applyMove wsX7_applyMove) := goodIn_app (goodIn_of _ (by decide +kernel)) ggX7_apply_X7_applyMove
set_option maxRecDepth 20000 in
theorem ggX7_apply_X7_applyDiscard : GoodIn wsX7_apply wsX7_applyDiscard := goodIn_r _ [59, 1, 26, 17, 18, 19, 20, 5, 21, 12, 7, 8, 9, 10, 11, 13, 14, 15, 16, 22, 23, 24, 25, 27, 28, 29, 30, 31, 32, 33, 34, 35, 36, 37, 38, 92, 93, 94, 95, 96, 97, 98, 99, 100, 101, 102, 103, 104, 105, 106, 107, 108] (by decide +kernel) (by decide +kernel)
set_option maxRecDepth 20000 in
theorem gX7_apply_X7_applyDiscard : GoodIn wsX7_apply (wsV RX7 97 RX7 yX7_applyDiscard wsX7_applyDiscard) := goodIn_app (goodIn_of _ (by decide +kernel)) ggX7_apply_X7_applyDiscard
set_option maxRecDepth 20000 in
theorem ggX7_apply_X7_applyUndo : GoodIn wsX7_apply wsX7_applyUndo := goodIn_r _ [63, 11, 12, 1, 17, 26, 64, 65, 66, 31, 67, 33, 68, 69, 70, 71, 34, 72, 73, 74, 75, 35, 76, 77, 78, 79, 36, 18, 19, 20, 5, 21, 80, 81, 82, 83, 37, 84, 85, 86, 87, 38, 96, 97, 98, 99, 100, 101, 102, 103, 104, 105, 106, 107, 108] (by decide +kernel) (by decide +kernel)
set_option maxRecDepth 20000 in
theorem gX7_apply_X7_applyUndo : GoodIn wsX7_apply (wsV RX7 100 RX7 yX7_applyUndo wsX7_applyUndo) := goodIn_app (goodIn_of _ (by decide +kernel)) ggX7_apply_X7_applyUndo
set_option maxRecDepth 20000 in
theorem ggX7_apply_X7_applyKept : GoodIn wsX7_apply wsX7_applyKept := goodIn_r _ [91, 39, 40, 41, 5, 42, 12, 43, 17, 26, 44, 45, 46, 47, 92, 93, 94, 95, 96, 97, 98, 99, 100, 101, 102] (by decide +kernel) (by decide +kernel)
set_option maxRecDepth 20000 in
theorem gX7_apply_X7_applyKept : GoodIn wsX7_apply (wsV RX7 103 RX7 yX7_applyKept wsX7_applyKept) := goodIn_app (goodIn_of _ (by decide +kernel)) ggX7_apply_X7_applyKept
theorem dX7_apply_0 : decode cX7_apply 0 = .ok (.aload_n 1, 1) := by decide +kernel
theorem dX7_apply_1 : decode cX7_apply 1 = .ok (.getfield 82, 3) := by decide +kernel
theorem dX7_apply_4 : decode cX7_apply 4 = .ok (.tableswitch 102 1 7 #[44, 52, 60, 68, 76, 83, 91], 44) := by decide +kernel
theorem dX7_apply_48 : decode cX7_apply 48 = .ok (.aload_n 0, 1) := by decide +kernel
theorem dX7_apply_49 : decode cX7_apply 49 = .ok (.aload_n 1, 1) := by decide +kernel
theorem dX7_apply_50 : decode cX7_apply 50 = .ok (.invokevirtual 87, 3) := by decide +kernel
theorem dX7_apply_53 : decode cX7_apply 53 = .ok (.goto 53, 3) := by decide +kernel
theorem dX7_apply_56 : decode cX7_apply 56 = .ok (.aload_n 0, 1) := by decide +kernel
theorem dX7_apply_57 : decode cX7_apply 57 = .ok (.aload_n 1, 1) := by decide +kernel
theorem dX7_apply_58 : decode cX7_apply 58 = .ok (.invokevirtual 91, 3) := by decide +kernel
theorem dX7_apply_61 : decode cX7_apply 61 = .ok (.goto 45, 3) := by decide +kernel
theorem dX7_apply_64 : decode cX7_apply 64 = .ok (.aload_n 0, 1) := by decide +kernel
theorem dX7_apply_65 : decode cX7_apply 65 = .ok (.aload_n 1, 1) := by decide +kernel
theorem dX7_apply_66 : decode cX7_apply 66 = .ok (.invokevirtual 94, 3) := by decide +kernel
theorem dX7_apply_69 : decode cX7_apply 69 = .ok (.goto 37, 3) := by decide +kernel
theorem dX7_apply_72 : decode cX7_apply 72 = .ok (.aload_n 0, 1) := by decide +kernel
theorem dX7_apply_73 : decode cX7_apply 73 = .ok (.aload_n 1, 1) := by decide +kernel
theorem dX7_apply_74 : decode cX7_apply 74 = .ok (.invokevirtual 97, 3) := by decide +kernel
theorem dX7_apply_77 : decode cX7_apply 77 = .ok (.goto 29, 3) := by decide +kernel
theorem dX7_apply_80 : decode cX7_apply 80 = .ok (.aload_n 0, 1) := by decide +kernel
theorem dX7_apply_81 : decode cX7_apply 81 = .ok (.invokevirtual 100, 3) := by decide +kernel
theorem dX7_apply_84 : decode cX7_apply 84 = .ok (.goto 22, 3) := by decide +kernel
theorem dX7_apply_87 : decode cX7_apply 87 = .ok (.aload_n 0, 1) := by decide +kernel
theorem dX7_apply_88 : decode cX7_apply 88 = .ok (.aload_n 1, 1) := by decide +kernel
theorem dX7_apply_89 : decode cX7_apply 89 = .ok (.invokevirtual 103, 3) := by decide +kernel
theorem dX7_apply_92 : decode cX7_apply 92 = .ok (.goto 14, 3) := by decide +kernel
theorem dX7_apply_95 : decode cX7_apply 95 = .ok (.aload_n 0, 1) := by decide +kernel
theorem dX7_apply_96 : decode cX7_apply 96 = .ok (.aload_n 1, 1) := by decide +kernel
theorem dX7_apply_97 : decode cX7_apply 97 = .ok (.getfield 106, 3) := by decide +kernel
theorem dX7_apply_100 : decode cX7_apply 100 = .ok (.putfield 37, 3) := by decide +kernel
theorem dX7_apply_103 : decode cX7_apply 103 = .ok (.goto 3, 3) := by decide +kernel
theorem dX7_apply_106 : decode cX7_apply 106 = .ok (.return_, 1) := by decide +kernel
set_option maxRecDepth 20000 in
theorem ggX7_applyRegister_X7_remember : GoodIn wsX7_applyRegister wsX7_remember := goodIn_r _ [5, 6, 7, 8, 9, 10, 11, 4, 12, 13, 14, 15, 16, 17, 18, 19, 20, 21, 22, 23, 24, 25, 26, 27, 28, 29, 30, 31, 32, 33, 34, 48, 49, 50, 51, 52, 53, 54, 55, 56, 57, 58, 59, 60] (by decide +kernel) (by decide +kernel)
set_option maxRecDepth 20000 in
theorem gX7_applyRegister_X7_remember : GoodIn wsX7_applyRegister (wsV RX7 109 RX7 yX7_remember wsX7_remember) := goodIn_app (goodIn_of _ (by decide +kernel)) ggX7_applyRegister_X7_remember
set_option maxRecDepth 20000 in
theorem ggX7_applyRegister_X7_addSample : GoodIn wsX7_applyRegister wsX7_addSample := goodIn_r _ [38, 7, 39, 13, 22, 40, 41, 42, 4, 43, 48, 49, 50, 51, 52, 53, 54] (by decide +kernel) (by decide +kernel)
set_option maxRecDepth 20000 in
theorem gX7_applyRegister_X7_addSample : GoodIn wsX7_applyRegister (wsV RX7 116 RX7 yX7_addSample wsX7_addSample) := goodIn_app (goodIn_of _ (by decide +kernel)) ggX7_applyRegister_X7_addSample
theorem dX7_applyRegister_0 : decode cX7_applyRegister 0 = .ok (.aload_n 0, 1) := by decide +kernel
theorem dX7_applyRegister_1 : decode cX7_applyRegister 1 = .ok (.iconst 0, 1) := by decide +kernel
theorem dX7_applyRegister_2 : decode cX7_applyRegister 2 = .ok (.invokevirtual 109, 3) := by decide +kernel
theorem dX7_applyRegister_5 : decode cX7_applyRegister 5 = .ok (.aload_n 0, 1) := by decide +kernel
theorem dX7_applyRegister_6 : decode cX7_applyRegister 6 = .ok (.iconst 0, 1) := by decide +kernel
theorem dX7_applyRegister_7 : decode cX7_applyRegister 7 = .ok (.aload_n 1, 1) := by decide +kernel
theorem dX7_applyRegister_8 : decode cX7_applyRegister 8 = .ok (.getfield 113, 3) := by decide +kernel
theorem dX7_applyRegister_11 : decode cX7_applyRegister 11 = .ok (.aload_n 1, 1) := by decide +kernel
theorem dX7_applyRegister_12 : decode cX7_applyRegister 12 = .ok (.getfield 106, 3) := by decide +kernel
theorem dX7_applyRegister_15 : decode cX7_applyRegister 15 = .ok (.invokevirtual 116, 3) := by decide +kernel
theorem dX7_applyRegister_18 : decode cX7_applyRegister 18 = .ok (.return_, 1) := by decide +kernel
set_option maxRecDepth 20000 in
theorem ggX7_applyAliquot_X7_isSample : GoodIn wsX7_applyAliquot wsX7_isSample := goodIn_r _ [6, 7, 48, 49, 50, 51, 52, 53, 54] (by decide +kernel) (by decide +kernel)
set_option maxRecDepth 20000 in
theorem gX7_applyAliquot_X7_isSample : GoodIn wsX7_applyAliquot (wsV RX7 45 RX7 yX7_isSample wsX7_isSample) := goodIn_app (goodIn_of _ (by decide +kernel)) ggX7_applyAliquot_X7_isSample
set_option maxRecDepth 20000 in
theorem ggX7_applyAliquot_X7_remember : GoodIn wsX7_applyAliquot wsX7_remember := goodIn_r _ [11, 12, 7, 13, 14, 15, 16, 5, 17, 18, 2, 3, 4, 6, 19, 20, 21, 22, 1, 23, 24, 25, 26, 27, 28, 29, 30, 31, 32, 33, 34, 48, 49, 50, 51, 52, 53, 54, 55, 56, 57, 58, 59, 60] (by decide +kernel) (by decide +kernel)
set_option maxRecDepth 20000 in
theorem gX7_applyAliquot_X7_remember : GoodIn wsX7_applyAliquot (wsV RX7 109 RX7 yX7_remember wsX7_remember) := goodIn_app (goodIn_of _ (by decide +kernel)) ggX7_applyAliquot_X7_remember
set_option maxRecDepth 20000 in
theorem ggX7_applyAliquot_X7_addSample : GoodIn wsX7_applyAliquot wsX7_addSample := goodIn_r _ [38, 7, 39, 18, 1, 40, 41, 42, 5, 43, 48, 49, 50, 51, 52, 53, 54] (by decide +kernel) (by decide +kernel)
set_option maxRecDepth 20000 in
theorem gX7_applyAliquot_X7_addSample : GoodIn wsX7_applyAliquot (wsV RX7 116 RX7 yX7_addSample wsX7_addSample) := goodIn_app (goodIn_of _ (by decide +kernel)) ggX7_applyAliquot_X7_addSample
theorem dX7_applyAliquot_0 : decode cX7_applyAliquot 0 = .ok (.aload_n 0, 1) := by decide +kernel
theorem dX7_applyAliquot_1 : decode cX7_applyAliquot 1 = .ok (.aload_n 1, 1) := by decide +kernel
theorem dX7_applyAliquot_2 : decode cX7_applyAliquot 2 = .ok (.getfield 120, 3) := by decide +kernel
theorem dX7_applyAliquot_5 : decode cX7_applyAliquot 5 = .ok (.invokevirtual 45, 3) := by decide +kernel
theorem dX7_applyAliquot_8 : decode cX7_applyAliquot 8 = .ok (.ifCond .eq 43, 3) := by decide +kernel
theorem dX7_applyAliquot_11 : decode cX7_applyAliquot 11 = .ok (.aload_n 0, 1) := by decide +kernel
theorem dX7_applyAliquot_12 : decode cX7_applyAliquot 12 = .ok (.aload_n 1, 1) := by decide +kernel
theorem dX7_applyAliquot_13 : decode cX7_applyAliquot 13 = .ok (.getfield 120, 3) := by decide +kernel
theorem dX7_applyAliquot_16 : decode cX7_applyAliquot 16 = .ok (.invokevirtual 109, 3) := by decide +kernel
theorem dX7_applyAliquot_19 : decode cX7_applyAliquot 19 = .ok (.aload_n 0, 1) := by decide +kernel
theorem dX7_applyAliquot_20 : decode cX7_applyAliquot 20 = .ok (.getfield 18, 3) := by decide +kernel
theorem dX7_applyAliquot_23 : decode cX7_applyAliquot 23 = .ok (.aload_n 1, 1) := by decide +kernel
theorem dX7_applyAliquot_24 : decode cX7_applyAliquot 24 = .ok (.getfield 120, 3) := by decide +kernel
theorem dX7_applyAliquot_27 : decode cX7_applyAliquot 27 = .ok (.dup2, 1) := by decide +kernel
theorem dX7_applyAliquot_28 : decode cX7_applyAliquot 28 = .ok (.laload, 1) := by decide +kernel
theorem dX7_applyAliquot_29 : decode cX7_applyAliquot 29 = .ok (.aload_n 1, 1) := by decide +kernel
theorem dX7_applyAliquot_30 : decode cX7_applyAliquot 30 = .ok (.getfield 106, 3) := by decide +kernel
theorem dX7_applyAliquot_33 : decode cX7_applyAliquot 33 = .ok (.lsub, 1) := by decide +kernel
theorem dX7_applyAliquot_34 : decode cX7_applyAliquot 34 = .ok (.lastore, 1) := by decide +kernel
theorem dX7_applyAliquot_35 : decode cX7_applyAliquot 35 = .ok (.aload_n 0, 1) := by decide +kernel
theorem dX7_applyAliquot_36 : decode cX7_applyAliquot 36 = .ok (.aload_n 1, 1) := by decide +kernel
theorem dX7_applyAliquot_37 : decode cX7_applyAliquot 37 = .ok (.getfield 120, 3) := by decide +kernel
theorem dX7_applyAliquot_40 : decode cX7_applyAliquot 40 = .ok (.aload_n 1, 1) := by decide +kernel
theorem dX7_applyAliquot_41 : decode cX7_applyAliquot 41 = .ok (.getfield 113, 3) := by decide +kernel
theorem dX7_applyAliquot_44 : decode cX7_applyAliquot 44 = .ok (.aload_n 1, 1) := by decide +kernel
theorem dX7_applyAliquot_45 : decode cX7_applyAliquot 45 = .ok (.getfield 106, 3) := by decide +kernel
theorem dX7_applyAliquot_48 : decode cX7_applyAliquot 48 = .ok (.invokevirtual 116, 3) := by decide +kernel
theorem dX7_applyAliquot_51 : decode cX7_applyAliquot 51 = .ok (.return_, 1) := by decide +kernel
set_option maxRecDepth 20000 in
theorem ggX7_applyMove_X7_isSample : GoodIn wsX7_applyMove wsX7_isSample := goodIn_r _ [6, 7, 39, 40, 41, 42, 43, 44, 45] (by decide +kernel) (by decide +kernel)
set_option maxRecDepth 20000 in
theorem gX7_applyMove_X7_isSample : GoodIn wsX7_applyMove (wsV RX7 45 RX7 yX7_isSample wsX7_isSample) := goodIn_app (goodIn_of _ (by decide +kernel)) ggX7_applyMove_X7_isSample
set_option maxRecDepth 20000 in
theorem ggX7_applyMove_X7_remember : GoodIn wsX7_applyMove wsX7_remember := goodIn_r _ [11, 12, 7, 13, 14, 15, 16, 5, 17, 1, 2, 3, 4, 6, 18, 19, 20, 21, 22, 23, 24, 25, 26, 27, 28, 29, 30, 31, 32, 33, 34, 39, 40, 41, 42, 43, 44, 45, 46, 47, 48, 49, 50, 51] (by decide +kernel) (by decide +kernel)
set_option maxRecDepth 20000 in
theorem gX7_applyMove_X7_remember : GoodIn wsX7_applyMove (wsV RX7 109 RX7 yX7_remember wsX7_remember) := goodIn_app (goodIn_of _ (by decide +kernel)) ggX7_applyMove_X7_remember
theorem dX7_applyMove_0 : decode cX7_applyMove 0 = .ok (.aload_n 0, 1) := by decide +kernel
theorem dX7_applyMove_1 : decode cX7_applyMove 1 = .ok (.aload_n 1, 1) := by decide +kernel
theorem dX7_applyMove_2 : decode cX7_applyMove 2 = .ok (.getfield 120, 3) := by decide +kernel
theorem dX7_applyMove_5 : decode cX7_applyMove 5 = .ok (.invokevirtual 45, 3) := by decide +kernel
theorem dX7_applyMove_8 : decode cX7_applyMove 8 = .ok (.ifCond .eq 24, 3) := by decide +kernel
theorem dX7_applyMove_11 : decode cX7_applyMove 11 = .ok (.aload_n 0, 1) := by decide +kernel
theorem dX7_applyMove_12 : decode cX7_applyMove 12 = .ok (.aload_n 1, 1) := by decide +kernel
theorem dX7_applyMove_13 : decode cX7_applyMove 13 = .ok (.getfield 120, 3) := by decide +kernel
theorem dX7_applyMove_16 : decode cX7_applyMove 16 = .ok (.invokevirtual 109, 3) := by decide +kernel
theorem dX7_applyMove_19 : decode cX7_applyMove 19 = .ok (.aload_n 0, 1) := by decide +kernel
theorem dX7_applyMove_20 : decode cX7_applyMove 20 = .ok (.getfield 15, 3) := by decide +kernel
theorem dX7_applyMove_23 : decode cX7_applyMove 23 = .ok (.aload_n 1, 1) := by decide +kernel
theorem dX7_applyMove_24 : decode cX7_applyMove 24 = .ok (.getfield 120, 3) := by decide +kernel
theorem dX7_applyMove_27 : decode cX7_applyMove 27 = .ok (.aload_n 1, 1) := by decide +kernel
theorem dX7_applyMove_28 : decode cX7_applyMove 28 = .ok (.getfield 113, 3) := by decide +kernel
theorem dX7_applyMove_31 : decode cX7_applyMove 31 = .ok (.iastore, 1) := by decide +kernel
theorem dX7_applyMove_32 : decode cX7_applyMove 32 = .ok (.return_, 1) := by decide +kernel
set_option maxRecDepth 20000 in
theorem ggX7_applyDiscard_X7_isSample : GoodIn wsX7_applyDiscard wsX7_isSample := goodIn_r _ [8, 9, 39, 40, 41, 42, 43, 44, 45] (by decide +kernel) (by decide +kernel)
set_option maxRecDepth 20000 in
theorem gX7_applyDiscard_X7_isSample : GoodIn wsX7_applyDiscard (wsV RX7 45 RX7 yX7_isSample wsX7_isSample) := goodIn_app (goodIn_of _ (by decide +kernel)) ggX7_applyDiscard_X7_isSample
set_option maxRecDepth 20000 in
theorem ggX7_applyDiscard_X7_remember : GoodIn wsX7_applyDiscard wsX7_remember := goodIn_r _ [13, 14, 9, 1, 15, 16, 17, 7, 18, 3, 4, 5, 6, 8, 19, 20, 21, 22, 2, 23, 24, 25, 26, 27, 28, 29, 30, 31, 32, 33, 34, 39, 40, 41, 42, 43, 44, 45, 46, 47, 48, 49, 50, 51] (by decide +kernel) (by decide +kernel)
set_option maxRecDepth 20000 in
theorem gX7_applyDiscard_X7_remember : GoodIn wsX7_applyDiscard (wsV RX7 109 RX7 yX7_remember wsX7_remember) := goodIn_app (goodIn_of _ (by decide +kernel)) ggX7_applyDiscard_X7_remember
theorem dX7_applyDiscard_0 : decode cX7_applyDiscard 0 = .ok (.aload_n 0, 1) := by decide +kernel
theorem dX7_applyDiscard_1 : decode cX7_applyDiscard 1 = .ok (.aload_n 1, 1) := by decide +kernel
theorem dX7_applyDiscard_2 : decode cX7_applyDiscard 2 = .ok (.getfield 120, 3) := by decide +kernel
theorem dX7_applyDiscard_5 : decode cX7_applyDiscard 5 = .ok (.invokevirtual 45, 3) := by decide +kernel
theorem dX7_applyDiscard_8 : decode cX7_applyDiscard 8 = .ok (.ifCond .eq 49, 3) := by decide +kernel
theorem dX7_applyDiscard_11 : decode cX7_applyDiscard 11 = .ok (.aload_n 0, 1) := by decide +kernel
theorem dX7_applyDiscard_12 : decode cX7_applyDiscard 12 = .ok (.aload_n 1, 1) := by decide +kernel
theorem dX7_applyDiscard_13 : decode cX7_applyDiscard 13 = .ok (.getfield 120, 3) := by decide +kernel
theorem dX7_applyDiscard_16 : decode cX7_applyDiscard 16 = .ok (.invokevirtual 109, 3) := by decide +kernel
theorem dX7_applyDiscard_19 : decode cX7_applyDiscard 19 = .ok (.aload_n 0, 1) := by decide +kernel
theorem dX7_applyDiscard_20 : decode cX7_applyDiscard 20 = .ok (.dup, 1) := by decide +kernel
theorem dX7_applyDiscard_21 : decode cX7_applyDiscard 21 = .ok (.getfield 37, 3) := by decide +kernel
theorem dX7_applyDiscard_24 : decode cX7_applyDiscard 24 = .ok (.aload_n 0, 1) := by decide +kernel
theorem dX7_applyDiscard_25 : decode cX7_applyDiscard 25 = .ok (.getfield 18, 3) := by decide +kernel
theorem dX7_applyDiscard_28 : decode cX7_applyDiscard 28 = .ok (.aload_n 1, 1) := by decide +kernel
theorem dX7_applyDiscard_29 : decode cX7_applyDiscard 29 = .ok (.getfield 120, 3) := by decide +kernel
theorem dX7_applyDiscard_32 : decode cX7_applyDiscard 32 = .ok (.laload, 1) := by decide +kernel
theorem dX7_applyDiscard_33 : decode cX7_applyDiscard 33 = .ok (.ladd, 1) := by decide +kernel
theorem dX7_applyDiscard_34 : decode cX7_applyDiscard 34 = .ok (.putfield 37, 3) := by decide +kernel
theorem dX7_applyDiscard_37 : decode cX7_applyDiscard 37 = .ok (.aload_n 0, 1) := by decide +kernel
theorem dX7_applyDiscard_38 : decode cX7_applyDiscard 38 = .ok (.getfield 18, 3) := by decide +kernel
theorem dX7_applyDiscard_41 : decode cX7_applyDiscard 41 = .ok (.aload_n 1, 1) := by decide +kernel
theorem dX7_applyDiscard_42 : decode cX7_applyDiscard 42 = .ok (.getfield 120, 3) := by decide +kernel
theorem dX7_applyDiscard_45 : decode cX7_applyDiscard 45 = .ok (.lconst 0, 1) := by decide +kernel
theorem dX7_applyDiscard_46 : decode cX7_applyDiscard 46 = .ok (.lastore, 1) := by decide +kernel
theorem dX7_applyDiscard_47 : decode cX7_applyDiscard 47 = .ok (.aload_n 0, 1) := by decide +kernel
theorem dX7_applyDiscard_48 : decode cX7_applyDiscard 48 = .ok (.getfield 15, 3) := by decide +kernel
theorem dX7_applyDiscard_51 : decode cX7_applyDiscard 51 = .ok (.aload_n 1, 1) := by decide +kernel
theorem dX7_applyDiscard_52 : decode cX7_applyDiscard 52 = .ok (.getfield 120, 3) := by decide +kernel
theorem dX7_applyDiscard_55 : decode cX7_applyDiscard 55 = .ok (.iconst (-1), 1) := by decide +kernel
theorem dX7_applyDiscard_56 : decode cX7_applyDiscard 56 = .ok (.iastore, 1) := by decide +kernel
theorem dX7_applyDiscard_57 : decode cX7_applyDiscard 57 = .ok (.return_, 1) := by decide +kernel
set_option maxRecDepth 20000 in
theorem ggX7_applyKept_X7_addSample : GoodIn wsX7_applyKept wsX7_addSample := goodIn_r _ [5, 6, 7, 8, 9, 10, 11, 12, 4, 13, 18, 19, 20, 21, 22, 23, 24] (by decide +kernel) (by decide +kernel)
set_option maxRecDepth 20000 in
theorem gX7_applyKept_X7_addSample : GoodIn wsX7_applyKept (wsV RX7 116 RX7 yX7_addSample wsX7_addSample) := goodIn_app (goodIn_of _ (by decide +kernel)) ggX7_applyKept_X7_addSample
theorem dX7_applyKept_0 : decode cX7_applyKept 0 = .ok (.aload_n 0, 1) := by decide +kernel
theorem dX7_applyKept_1 : decode cX7_applyKept 1 = .ok (.aload_n 1, 1) := by decide +kernel
theorem dX7_applyKept_2 : decode cX7_applyKept 2 = .ok (.getfield 120, 3) := by decide +kernel
theorem dX7_applyKept_5 : decode cX7_applyKept 5 = .ok (.aload_n 1, 1) := by decide +kernel
theorem dX7_applyKept_6 : decode cX7_applyKept 6 = .ok (.getfield 113, 3) := by decide +kernel
theorem dX7_applyKept_9 : decode cX7_applyKept 9 = .ok (.sipush 255, 3) := by decide +kernel
theorem dX7_applyKept_12 : decode cX7_applyKept 12 = .ok (.if_icmp .ne 7, 3) := by decide +kernel
theorem dX7_applyKept_15 : decode cX7_applyKept 15 = .ok (.iconst (-1), 1) := by decide +kernel
theorem dX7_applyKept_16 : decode cX7_applyKept 16 = .ok (.goto 7, 3) := by decide +kernel
theorem dX7_applyKept_19 : decode cX7_applyKept 19 = .ok (.aload_n 1, 1) := by decide +kernel
theorem dX7_applyKept_20 : decode cX7_applyKept 20 = .ok (.getfield 113, 3) := by decide +kernel
theorem dX7_applyKept_23 : decode cX7_applyKept 23 = .ok (.aload_n 1, 1) := by decide +kernel
theorem dX7_applyKept_24 : decode cX7_applyKept 24 = .ok (.getfield 106, 3) := by decide +kernel
theorem dX7_applyKept_27 : decode cX7_applyKept 27 = .ok (.invokevirtual 116, 3) := by decide +kernel
theorem dX7_applyKept_30 : decode cX7_applyKept 30 = .ok (.return_, 1) := by decide +kernel
set_option maxRecDepth 20000 in
theorem ggX7_applyUndo_X4_stepBack : GoodIn wsX7_applyUndo wsX4_stepBack := goodIn_r _ [10, 11, 49, 50, 51, 52, 53, 54] (by decide +kernel) (by decide +kernel)
set_option maxRecDepth 20000 in
theorem gX7_applyUndo_X4_stepBack : GoodIn wsX7_applyUndo (wsV RX7 123 RX4 yX4_stepBack wsX4_stepBack) := goodIn_app (goodIn_of _ (by decide +kernel)) ggX7_applyUndo_X4_stepBack
set_option maxRecDepth 20000 in
theorem ggX7_applyUndo_X4_samplesBefore : GoodIn wsX7_applyUndo wsX4_samplesBefore := goodIn_r _ [15, 11, 16, 49, 50, 51, 52, 53, 54] (by decide +kernel) (by decide +kernel)
set_option maxRecDepth 20000 in
theorem gX7_applyUndo_X4_samplesBefore : GoodIn wsX7_applyUndo (wsV RX7 127 RX4 yX4_samplesBefore wsX4_samplesBefore) := goodIn_app (goodIn_of _ (by decide +kernel)) ggX7_applyUndo_X4_samplesBefore
set_option maxRecDepth 20000 in
theorem ggX7_applyUndo_X4_lostBefore : GoodIn wsX7_applyUndo wsX4_lostBefore := goodIn_r _ [20, 11, 21, 49, 50, 51, 52, 53, 54] (by decide +kernel) (by decide +kernel)
set_option maxRecDepth 20000 in
theorem gX7_applyUndo_X4_lostBefore : GoodIn wsX7_applyUndo (wsV RX7 130 RX4 yX4_lostBefore wsX4_lostBefore) := goodIn_app (goodIn_of _ (by decide +kernel)) ggX7_applyUndo_X4_lostBefore
set_option maxRecDepth 20000 in
theorem ggX7_applyUndo_X4_touched : GoodIn wsX7_applyUndo wsX4_touched := goodIn_r _ [25, 11, 26, 49, 50, 51, 52, 53, 54] (by decide +kernel) (by decide +kernel)
set_option maxRecDepth 20000 in
theorem gX7_applyUndo_X4_touched : GoodIn wsX7_applyUndo (wsV RX7 133 RX4 yX4_touched wsX4_touched) := goodIn_app (goodIn_of _ (by decide +kernel)) ggX7_applyUndo_X4_touched
set_option maxRecDepth 20000 in
theorem ggX7_applyUndo_X7_isSample : GoodIn wsX7_applyUndo wsX7_isSample := goodIn_r _ [31, 2, 42, 43, 44, 45, 46, 47, 48] (by decide +kernel) (by decide +kernel)
set_option maxRecDepth 20000 in
theorem gX7_applyUndo_X7_isSample : GoodIn wsX7_applyUndo (wsV RX7 45 RX7 yX7_isSample wsX7_isSample) := goodIn_app (goodIn_of _ (by decide +kernel)) ggX7_applyUndo_X7_isSample
set_option maxRecDepth 20000 in
theorem ggX7_applyUndo_X4_wellBefore : GoodIn wsX7_applyUndo wsX4_wellBefore := goodIn_r _ [35, 11, 36, 49, 50, 51, 52, 53, 54] (by decide +kernel) (by decide +kernel)
set_option maxRecDepth 20000 in
theorem gX7_applyUndo_X4_wellBefore : GoodIn wsX7_applyUndo (wsV RX7 136 RX4 yX4_wellBefore wsX4_wellBefore) := goodIn_app (goodIn_of _ (by decide +kernel)) ggX7_applyUndo_X4_wellBefore
set_option maxRecDepth 20000 in
theorem ggX7_applyUndo_X4_volumeBefore : GoodIn wsX7_applyUndo wsX4_volumeBefore := goodIn_r _ [40, 11, 41, 49, 50, 51, 52, 53, 54] (by decide +kernel) (by decide +kernel)
set_option maxRecDepth 20000 in
theorem gX7_applyUndo_X4_volumeBefore : GoodIn wsX7_applyUndo (wsV RX7 139 RX4 yX4_volumeBefore wsX4_volumeBefore) := goodIn_app (goodIn_of _ (by decide +kernel)) ggX7_applyUndo_X4_volumeBefore
theorem dX7_applyUndo_0 : decode cX7_applyUndo 0 = .ok (.aload_n 0, 1) := by decide +kernel
theorem dX7_applyUndo_1 : decode cX7_applyUndo 1 = .ok (.getfield 29, 3) := by decide +kernel
theorem dX7_applyUndo_4 : decode cX7_applyUndo 4 = .ok (.invokevirtual 123, 3) := by decide +kernel
theorem dX7_applyUndo_7 : decode cX7_applyUndo 7 = .ok (.ifCond .eq 67, 3) := by decide +kernel
theorem dX7_applyUndo_10 : decode cX7_applyUndo 10 = .ok (.aload_n 0, 1) := by decide +kernel
theorem dX7_applyUndo_11 : decode cX7_applyUndo 11 = .ok (.aload_n 0, 1) := by decide +kernel
theorem dX7_applyUndo_12 : decode cX7_applyUndo 12 = .ok (.getfield 29, 3) := by decide +kernel
theorem dX7_applyUndo_15 : decode cX7_applyUndo 15 = .ok (.invokevirtual 127, 3) := by decide +kernel
theorem dX7_applyUndo_18 : decode cX7_applyUndo 18 = .ok (.putfield 33, 3) := by decide +kernel
theorem dX7_applyUndo_21 : decode cX7_applyUndo 21 = .ok (.aload_n 0, 1) := by decide +kernel
theorem dX7_applyUndo_22 : decode cX7_applyUndo 22 = .ok (.aload_n 0, 1) := by decide +kernel
theorem dX7_applyUndo_23 : decode cX7_applyUndo 23 = .ok (.getfield 29, 3) := by decide +kernel
theorem dX7_applyUndo_26 : decode cX7_applyUndo 26 = .ok (.invokevirtual 130, 3) := by decide +kernel
theorem dX7_applyUndo_29 : decode cX7_applyUndo 29 = .ok (.putfield 37, 3) := by decide +kernel
theorem dX7_applyUndo_32 : decode cX7_applyUndo 32 = .ok (.aload_n 0, 1) := by decide +kernel
theorem dX7_applyUndo_33 : decode cX7_applyUndo 33 = .ok (.getfield 29, 3) := by decide +kernel
theorem dX7_applyUndo_36 : decode cX7_applyUndo 36 = .ok (.invokevirtual 133, 3) := by decide +kernel
theorem dX7_applyUndo_39 : decode cX7_applyUndo 39 = .ok (.istore_n 1, 1) := by decide +kernel
theorem dX7_applyUndo_40 : decode cX7_applyUndo 40 = .ok (.aload_n 0, 1) := by decide +kernel
theorem dX7_applyUndo_41 : decode cX7_applyUndo 41 = .ok (.iload_n 1, 1) := by decide +kernel
theorem dX7_applyUndo_42 : decode cX7_applyUndo 42 = .ok (.invokevirtual 45, 3) := by decide +kernel
theorem dX7_applyUndo_45 : decode cX7_applyUndo 45 = .ok (.ifCond .eq 29, 3) := by decide +kernel
theorem dX7_applyUndo_48 : decode cX7_applyUndo 48 = .ok (.aload_n 0, 1) := by decide +kernel
theorem dX7_applyUndo_49 : decode cX7_applyUndo 49 = .ok (.getfield 15, 3) := by decide +kernel
theorem dX7_applyUndo_52 : decode cX7_applyUndo 52 = .ok (.iload_n 1, 1) := by decide +kernel
theorem dX7_applyUndo_53 : decode cX7_applyUndo 53 = .ok (.aload_n 0, 1) := by decide +kernel
theorem dX7_applyUndo_54 : decode cX7_applyUndo 54 = .ok (.getfield 29, 3) := by decide +kernel
theorem dX7_applyUndo_57 : decode cX7_applyUndo 57 = .ok (.invokevirtual 136, 3) := by decide +kernel
theorem dX7_applyUndo_60 : decode cX7_applyUndo 60 = .ok (.iastore, 1) := by decide +kernel
theorem dX7_applyUndo_61 : decode cX7_applyUndo 61 = .ok (.aload_n 0, 1) := by decide +kernel
theorem dX7_applyUndo_62 : decode cX7_applyUndo 62 = .ok (.getfield 18, 3) := by decide +kernel
theorem dX7_applyUndo_65 : decode cX7_applyUndo 65 = .ok (.iload_n 1, 1) := by decide +kernel
theorem dX7_applyUndo_66 : decode cX7_applyUndo 66 = .ok (.aload_n 0, 1) := by decide +kernel
theorem dX7_applyUndo_67 : decode cX7_applyUndo 67 = .ok (.getfield 29, 3) := by decide +kernel
theorem dX7_applyUndo_70 : decode cX7_applyUndo 70 = .ok (.invokevirtual 139, 3) := by decide +kernel
theorem dX7_applyUndo_73 : decode cX7_applyUndo 73 = .ok (.lastore, 1) := by decide +kernel
theorem dX7_applyUndo_74 : decode cX7_applyUndo 74 = .ok (.return_, 1) := by decide +kernel
set_option maxRecDepth 20000 in
theorem ggX7_remember_X7_wellOf : GoodIn wsX7_remember wsX7_wellOf := goodIn_r _ [8, 9, 10, 11, 12, 7, 13, 2, 31, 32, 33, 34, 35, 36, 37] (by decide +kernel) (by decide +kernel)
set_option maxRecDepth 20000 in
theorem gX7_remember_X7_wellOf : GoodIn wsX7_remember (wsV RX7 41 RX7 yX7_wellOf wsX7_wellOf) := goodIn_app (goodIn_of _ (by decide +kernel)) ggX7_remember_X7_wellOf
set_option maxRecDepth 20000 in
theorem ggX7_remember_X7_volumeOf : GoodIn wsX7_remember wsX7_volumeOf := goodIn_r _ [17, 18, 19, 10, 11, 12, 7, 13, 2, 31, 32, 33, 34, 35, 36, 37] (by decide +kernel) (by decide +kernel)
set_option maxRecDepth 20000 in
theorem gX7_remember_X7_volumeOf : GoodIn wsX7_remember (wsV RX7 63 RX7 yX7_volumeOf wsX7_volumeOf) := goodIn_app (goodIn_of _ (by decide +kernel)) ggX7_remember_X7_volumeOf
set_option maxRecDepth 20000 in
theorem ggX7_remember_X4_add : GoodIn wsX7_remember wsX4_add := goodIn_r _ [24, 25, 26, 27, 28, 29, 30, 38, 39, 40, 41, 42, 43] (by decide +kernel) (by decide +kernel)
set_option maxRecDepth 20000 in
theorem gX7_remember_X4_add : GoodIn wsX7_remember (wsV RX7 142 RX4 yX4_add wsX4_add) := goodIn_app (goodIn_of _ (by decide +kernel)) ggX7_remember_X4_add
theorem dX7_remember_0 : decode cX7_remember 0 = .ok (.aload_n 0, 1) := by decide +kernel
theorem dX7_remember_1 : decode cX7_remember 1 = .ok (.getfield 29, 3) := by decide +kernel
theorem dX7_remember_4 : decode cX7_remember 4 = .ok (.aload_n 0, 1) := by decide +kernel
theorem dX7_remember_5 : decode cX7_remember 5 = .ok (.getfield 33, 3) := by decide +kernel
theorem dX7_remember_8 : decode cX7_remember 8 = .ok (.aload_n 0, 1) := by decide +kernel
theorem dX7_remember_9 : decode cX7_remember 9 = .ok (.getfield 37, 3) := by decide +kernel
theorem dX7_remember_12 : decode cX7_remember 12 = .ok (.iload_n 1, 1) := by decide +kernel
theorem dX7_remember_13 : decode cX7_remember 13 = .ok (.aload_n 0, 1) := by decide +kernel
theorem dX7_remember_14 : decode cX7_remember 14 = .ok (.iload_n 1, 1) := by decide +kernel
theorem dX7_remember_15 : decode cX7_remember 15 = .ok (.invokevirtual 41, 3) := by decide +kernel
theorem dX7_remember_18 : decode cX7_remember 18 = .ok (.aload_n 0, 1) := by decide +kernel
theorem dX7_remember_19 : decode cX7_remember 19 = .ok (.iload_n 1, 1) := by decide +kernel
theorem dX7_remember_20 : decode cX7_remember 20 = .ok (.invokevirtual 63, 3) := by decide +kernel
theorem dX7_remember_23 : decode cX7_remember 23 = .ok (.invokevirtual 142, 3) := by decide +kernel
theorem dX7_remember_26 : decode cX7_remember 26 = .ok (.return_, 1) := by decide +kernel
set_option maxRecDepth 20000 in
theorem ggX7_addSample_X7_isFull : GoodIn wsX7_addSample wsX7_isFull := goodIn_r _ [9, 1, 10, 11, 12, 13, 14, 15, 16] (by decide +kernel) (by decide +kernel)
set_option maxRecDepth 20000 in
theorem gX7_addSample_X7_isFull : GoodIn wsX7_addSample (wsV RX7 146 RX7 yX7_isFull wsX7_isFull) := goodIn_app (goodIn_of _ (by decide +kernel)) ggX7_addSample_X7_isFull
theorem dX7_addSample_0 : decode cX7_addSample 0 = .ok (.aload_n 0, 1) := by decide +kernel
theorem dX7_addSample_1 : decode cX7_addSample 1 = .ok (.invokevirtual 146, 3) := by decide +kernel
theorem dX7_addSample_4 : decode cX7_addSample 4 = .ok (.ifCond .ne 43, 3) := by decide +kernel
theorem dX7_addSample_7 : decode cX7_addSample 7 = .ok (.aload_n 0, 1) := by decide +kernel
theorem dX7_addSample_8 : decode cX7_addSample 8 = .ok (.dup, 1) := by decide +kernel
theorem dX7_addSample_9 : decode cX7_addSample 9 = .ok (.getfield 33, 3) := by decide +kernel
theorem dX7_addSample_12 : decode cX7_addSample 12 = .ok (.iconst 1, 1) := by decide +kernel
theorem dX7_addSample_13 : decode cX7_addSample 13 = .ok (.iadd, 1) := by decide +kernel
theorem dX7_addSample_14 : decode cX7_addSample 14 = .ok (.putfield 33, 3) := by decide +kernel
theorem dX7_addSample_17 : decode cX7_addSample 17 = .ok (.aload_n 0, 1) := by decide +kernel
theorem dX7_addSample_18 : decode cX7_addSample 18 = .ok (.getfield 9, 3) := by decide +kernel
theorem dX7_addSample_21 : decode cX7_addSample 21 = .ok (.aload_n 0, 1) := by decide +kernel
theorem dX7_addSample_22 : decode cX7_addSample 22 = .ok (.getfield 33, 3) := by decide +kernel
theorem dX7_addSample_25 : decode cX7_addSample 25 = .ok (.iload_n 1, 1) := by decide +kernel
theorem dX7_addSample_26 : decode cX7_addSample 26 = .ok (.iastore, 1) := by decide +kernel
theorem dX7_addSample_27 : decode cX7_addSample 27 = .ok (.aload_n 0, 1) := by decide +kernel
theorem dX7_addSample_28 : decode cX7_addSample 28 = .ok (.getfield 15, 3) := by decide +kernel
theorem dX7_addSample_31 : decode cX7_addSample 31 = .ok (.aload_n 0, 1) := by decide +kernel
theorem dX7_addSample_32 : decode cX7_addSample 32 = .ok (.getfield 33, 3) := by decide +kernel
theorem dX7_addSample_35 : decode cX7_addSample 35 = .ok (.iload_n 2, 1) := by decide +kernel
theorem dX7_addSample_36 : decode cX7_addSample 36 = .ok (.iastore, 1) := by decide +kernel
theorem dX7_addSample_37 : decode cX7_addSample 37 = .ok (.aload_n 0, 1) := by decide +kernel
theorem dX7_addSample_38 : decode cX7_addSample 38 = .ok (.getfield 18, 3) := by decide +kernel
theorem dX7_addSample_41 : decode cX7_addSample 41 = .ok (.aload_n 0, 1) := by decide +kernel
theorem dX7_addSample_42 : decode cX7_addSample 42 = .ok (.getfield 33, 3) := by decide +kernel
theorem dX7_addSample_45 : decode cX7_addSample 45 = .ok (.lload_n 3, 1) := by decide +kernel
theorem dX7_addSample_46 : decode cX7_addSample 46 = .ok (.lastore, 1) := by decide +kernel
theorem dX7_addSample_47 : decode cX7_addSample 47 = .ok (.return_, 1) := by decide +kernel
set_option maxRecDepth 20000 in
theorem ggX8_init_X6_init : GoodIn wsX8_init wsX6_init := goodIn_r _ [28, 29, 2, 3, 30, 31, 32, 33, 34, 127, 128, 129, 130, 131] (by decide +kernel) (by decide +kernel)
set_option maxRecDepth 20000 in
theorem gX8_init_X6_init_n11 : GoodIn wsX8_init (wsX6_init) := ggX8_init_X6_init
set_option maxRecDepth 20000 in
theorem ggX8_init_X3_init : GoodIn wsX8_init wsX3_init := goodIn_r _ [37, 38, 2, 3, 39, 40, 41, 42, 43, 44, 45, 46, 47, 48, 49, 50, 51, 5, 6, 52, 53, 54, 55, 56, 16, 13, 17, 57, 58, 59, 60, 61, 62, 63, 64, 65, 66, 27, 28, 29, 30, 31, 32, 33, 34, 67, 68, 69, 70, 71, 72, 73, 74, 75, 76, 77, 78, 79, 80, 81, 82, 83, 84, 85, 86, 87, 88, 89, 90, 91, 92, 93, 94, 136, 137, 138, 139, 140, 141, 153, 154, 155, 156, 157, 127, 128, 129, 130, 131] (by decide +kernel) (by decide +kernel)
set_option maxRecDepth 20000 in
theorem gX8_init_X3_init : GoodIn wsX8_init (wsX3_init) := ggX8_init_X3_init
set_option maxRecDepth 20000 in
theorem ggX8_init_X7_init : GoodIn wsX8_init wsX7_init := goodIn_r _ [96, 97, 2, 3, 98, 99, 100, 101, 102, 103, 104, 105, 106, 107, 108, 109, 110, 111, 112, 113, 114, 115, 116, 117, 118, 119, 142, 143, 144, 145, 146, 147, 148, 158, 159, 160, 161, 162, 163] (by decide +kernel) (by decide +kernel)
set_option maxRecDepth 20000 in
theorem gX8_init_X7_init_n36 : GoodIn wsX8_init (wsX7_init) := ggX8_init_X7_init
set_option maxRecDepth 20000 in
theorem ggX8_init_X2_init : GoodIn wsX8_init wsX2_init := goodIn_r _ [121, 122, 2, 3, 123, 124, 125, 126, 149, 150, 151, 152] (by decide +kernel) (by decide +kernel)
set_option maxRecDepth 20000 in
theorem gX8_init_X2_init_n43 : GoodIn wsX8_init (wsX2_init) := ggX8_init_X2_init
theorem dX8_init_0 : decode cX8_init 0 = .ok (.aload_n 0, 1) := by decide +kernel
theorem dX8_init_1 : decode cX8_init 1 = .ok (.invokespecial 3, 3) := by decide +kernel
theorem dX8_init_4 : decode cX8_init 4 = .ok (.aload_n 0, 1) := by decide +kernel
theorem dX8_init_5 : decode cX8_init 5 = .ok (.new 9, 3) := by decide +kernel
theorem dX8_init_8 : decode cX8_init 8 = .ok (.dup, 1) := by decide +kernel
theorem dX8_init_9 : decode cX8_init 9 = .ok (.invokespecial 11, 3) := by decide +kernel
theorem dX8_init_12 : decode cX8_init 12 = .ok (.putfield 12, 3) := by decide +kernel
theorem dX8_init_15 : decode cX8_init 15 = .ok (.aload_n 0, 1) := by decide +kernel
theorem dX8_init_16 : decode cX8_init 16 = .ok (.new 16, 3) := by decide +kernel
theorem dX8_init_19 : decode cX8_init 19 = .ok (.dup, 1) := by decide +kernel
theorem dX8_init_20 : decode cX8_init 20 = .ok (.bipush 64, 2) := by decide +kernel
theorem dX8_init_22 : decode cX8_init 22 = .ok (.sipush 2048, 3) := by decide +kernel
theorem dX8_init_25 : decode cX8_init 25 = .ok (.iload_n 1, 1) := by decide +kernel
theorem dX8_init_26 : decode cX8_init 26 = .ok (.invokestatic 18, 3) := by decide +kernel
theorem dX8_init_29 : decode cX8_init 29 = .ok (.invokestatic 24, 3) := by decide +kernel
theorem dX8_init_32 : decode cX8_init 32 = .ok (.aload_n 0, 1) := by decide +kernel
theorem dX8_init_33 : decode cX8_init 33 = .ok (.getfield 12, 3) := by decide +kernel
theorem dX8_init_36 : decode cX8_init 36 = .ok (.invokespecial 27, 3) := by decide +kernel
theorem dX8_init_39 : decode cX8_init 39 = .ok (.putfield 30, 3) := by decide +kernel
