theorem dX8_init_42 : decode cX8_init 42 = .ok (.aload_n 0, 1) := by decide +kernel
theorem dX8_init_43 : decode cX8_init 43 = .ok (.new 34, 3) := by decide +kernel
theorem dX8_init_46 : decode cX8_init 46 = .ok (.dup, 1) := by decide +kernel
theorem dX8_init_47 : decode cX8_init 47 = .ok (.invokespecial 36, 3) := by decide +kernel
theorem dX8_init_50 : decode cX8_init 50 = .ok (.putfield 37, 3) := by decide +kernel
theorem dX8_init_53 : decode cX8_init 53 = .ok (.aload_n 0, 1) := by decide +kernel
theorem dX8_init_54 : decode cX8_init 54 = .ok (.new 41, 3) := by decide +kernel
theorem dX8_init_57 : decode cX8_init 57 = .ok (.dup, 1) := by decide +kernel
theorem dX8_init_58 : decode cX8_init 58 = .ok (.invokespecial 43, 3) := by decide +kernel
theorem dX8_init_61 : decode cX8_init 61 = .ok (.putfield 44, 3) := by decide +kernel
theorem dX8_init_64 : decode cX8_init 64 = .ok (.return_, 1) := by decide +kernel
set_option maxRecDepth 20000 in
theorem ggX8_register_X2_set : GoodIn wsX8_register wsX2_set := goodIn_r _ [7, 8, 9, 10, 11, 252, 253, 254, 255] (by decide +kernel) (by decide +kernel)
set_option maxRecDepth 20000 in
theorem gX8_register_X2_set : GoodIn wsX8_register (wsV RX8 48 RX2 yX2_set wsX2_set) := goodIn_app (goodIn_of _ (by decide +kernel)) ggX8_register_X2_set
set_option maxRecDepth 20000 in
theorem ggX8_register_X7_volumeStillAllowed : GoodIn wsX8_register wsX7_volumeStillAllowed := goodIn_r _ [16, 17, 18, 19, 20, 21, 15, 22, 23, 24, 25, 26, 27, 28, 29, 30, 31, 32, 33, 256, 257, 258, 259, 260, 261, 262] (by decide +kernel) (by decide +kernel)
set_option maxRecDepth 20000 in
theorem gX8_register_X7_volumeStillAllowed : GoodIn wsX8_register (wsV RX8 52 RX7 yX7_volumeStillAllowed wsX7_volumeStillAllowed) := goodIn_app (goodIn_of _ (by decide +kernel)) ggX8_register_X7_volumeStillAllowed
set_option maxRecDepth 20000 in
theorem ggX8_register_X8_refusalOfNewSample : GoodIn wsX8_register wsX8_refusalOfNewSample := goodIn_r _ [38, 1, 2, 39, 40, 41, 37, 42, 43, 44, 45, 46, 47, 48, 49, 50, 51, 52, 53, 54, 55, 15, 56, 23, 57, 58, 59, 60, 61, 30, 31, 32, 33, 62, 63, 64, 65, 66, 67, 68, 69, 70, 71, 72, 73, 74, 75, 76, 77, 78, 79, 6, 80, 81, 82, 83, 84, 8, 85, 86, 87, 88, 89, 90, 91, 92, 93, 94, 95, 96, 97, 98, 99, 100, 101, 102, 103, 248, 249, 250, 251, 252, 253, 254, 255, 263, 264, 265, 266, 267, 256, 257, 258, 259, 260, 261, 262, 268, 269, 270, 271, 272, 273, 274] (by decide +kernel) (by decide +kernel)
set_option maxRecDepth 20000 in
theorem gX8_register_X8_refusalOfNewSample : GoodIn wsX8_register (wsV RX8 56 RX8 yX8_refusalOfNewSample wsX8_refusalOfNewSample) := goodIn_app (goodIn_of _ (by decide +kernel)) ggX8_register_X8_refusalOfNewSample
set_option maxRecDepth 20000 in
theorem ggX8_register_X8_carryOut : GoodIn wsX8_register wsX8_carryOut := goodIn_r _ [107, 70, 1, 2, 108, 109, 110, 74, 111, 112, 113, 76, 114, 115, 116, 117, 118, 97, 119, 120, 121, 122, 123, 124, 125, 126, 127, 128, 129, 130, 131, 132, 78, 79, 6, 80, 81, 82, 83, 84, 8, 85, 86, 87, 88, 89, 90, 91, 92, 133, 134, 135, 136, 137, 138, 139, 140, 141, 142, 143, 144, 145, 146, 147, 148, 149, 47, 150, 49, 151, 152, 153, 154, 155, 156, 157, 101, 158, 103, 159, 160, 161, 162, 163, 164, 165, 45, 46, 48, 166, 167, 168, 169, 170, 171, 172, 15, 173, 18, 174, 175, 176, 177, 178, 179, 180, 181, 182, 23, 57, 58, 59, 60, 61, 30, 31, 32, 33, 24, 25, 26, 27, 28, 29, 183, 184, 185, 186, 187, 188, 189, 190, 191, 192, 193, 194, 195, 196, 197, 198, 199, 63, 64, 65, 200, 201, 202, 203, 204, 205, 206, 207, 208, 209, 210, 211, 212, 213, 214, 215, 216, 217, 218, 219, 220, 221, 222, 223, 224, 225, 226, 227, 228, 229, 230, 231, 232, 233, 234, 235, 236, 237, 238, 239, 240, 241, 242, 243, 248, 249, 250, 251, 268, 269, 270, 271, 272, 273, 275, 276, 277, 278, 252, 253, 254, 255, 263, 264, 265, 266, 267, 274, 256, 257, 258, 259, 260, 261, 262, 279, 280, 281, 282, 283, 284] (by decide +kernel) (by decide +kernel)
set_option maxRecDepth 20000 in
theorem gX8_register_X8_carryOut : GoodIn wsX8_register (wsV RX8 60 RX8 yX8_carryOut wsX8_carryOut) := goodIn_app (goodIn_of _ (by decide +kernel)) ggX8_register_X8_carryOut
set_option maxRecDepth 20000 in
theorem ggX8_register_X7_sampleCount : GoodIn wsX8_register wsX7_sampleCount := goodIn_r _ [247, 23, 256, 257, 258, 259, 260, 261, 262] (by decide +kernel) (by decide +kernel)
set_option maxRecDepth 20000 in
theorem gX8_register_X7_sampleCount : GoodIn wsX8_register (wsV RX8 64 RX7 yX7_sampleCount wsX7_sampleCount) := goodIn_app (goodIn_of _ (by decide +kernel)) ggX8_register_X7_sampleCount
theorem dX8_register_0 : decode cX8_register 0 = .ok (.aload_n 0, 1) := by decide +kernel
theorem dX8_register_1 : decode cX8_register 1 = .ok (.getfield 44, 3) := by decide +kernel
theorem dX8_register_4 : decode cX8_register 4 = .ok (.iconst 1, 1) := by decide +kernel
theorem dX8_register_5 : decode cX8_register 5 = .ok (.iconst 0, 1) := by decide +kernel
theorem dX8_register_6 : decode cX8_register 6 = .ok (.iload_n 1, 1) := by decide +kernel
theorem dX8_register_7 : decode cX8_register 7 = .ok (.lload_n 2, 1) := by decide +kernel
theorem dX8_register_8 : decode cX8_register 8 = .ok (.invokevirtual 48, 3) := by decide +kernel
theorem dX8_register_11 : decode cX8_register 11 = .ok (.aload_n 0, 1) := by decide +kernel
theorem dX8_register_12 : decode cX8_register 12 = .ok (.aload_n 0, 1) := by decide +kernel
theorem dX8_register_13 : decode cX8_register 13 = .ok (.iconst 1, 1) := by decide +kernel
theorem dX8_register_14 : decode cX8_register 14 = .ok (.aload_n 0, 1) := by decide +kernel
theorem dX8_register_15 : decode cX8_register 15 = .ok (.getfield 37, 3) := by decide +kernel
theorem dX8_register_18 : decode cX8_register 18 = .ok (.invokevirtual 52, 3) := by decide +kernel
theorem dX8_register_21 : decode cX8_register 21 = .ok (.invokevirtual 56, 3) := by decide +kernel
theorem dX8_register_24 : decode cX8_register 24 = .ok (.invokevirtual 60, 3) := by decide +kernel
theorem dX8_register_27 : decode cX8_register 27 = .ok (.istore 4, 2) := by decide +kernel
theorem dX8_register_29 : decode cX8_register 29 = .ok (.iload 4, 2) := by decide +kernel
theorem dX8_register_31 : decode cX8_register 31 = .ok (.ifCond .ne 13, 3) := by decide +kernel
theorem dX8_register_34 : decode cX8_register 34 = .ok (.aload_n 0, 1) := by decide +kernel
theorem dX8_register_35 : decode cX8_register 35 = .ok (.getfield 37, 3) := by decide +kernel
theorem dX8_register_38 : decode cX8_register 38 = .ok (.invokevirtual 64, 3) := by decide +kernel
theorem dX8_register_41 : decode cX8_register 41 = .ok (.goto 5, 3) := by decide +kernel
theorem dX8_register_44 : decode cX8_register 44 = .ok (.iload 4, 2) := by decide +kernel
theorem dX8_register_46 : decode cX8_register 46 = .ok (.ireturn, 1) := by decide +kernel
set_option maxRecDepth 20000 in
theorem ggX8_aliquot_X2_set : GoodIn wsX8_aliquot wsX2_set := goodIn_r _ [7, 8, 9, 10, 11, 248, 249, 250, 251] (by decide +kernel) (by decide +kernel)
set_option maxRecDepth 20000 in
theorem gX8_aliquot_X2_set : GoodIn wsX8_aliquot (wsV RX8 48 RX2 yX2_set wsX2_set) := goodIn_app (goodIn_of _ (by decide +kernel)) ggX8_aliquot_X2_set
set_option maxRecDepth 20000 in
theorem ggX8_aliquot_X7_isLive : GoodIn wsX8_aliquot wsX7_isLive := goodIn_r _ [16, 17, 18, 19, 15, 20, 21, 22, 23, 24, 25, 26, 252, 253, 254, 255, 256, 257, 258] (by decide +kernel) (by decide +kernel)
set_option maxRecDepth 20000 in
theorem gX8_aliquot_X7_isLive : GoodIn wsX8_aliquot (wsV RX8 68 RX7 yX7_isLive wsX7_isLive) := goodIn_app (goodIn_of _ (by decide +kernel)) ggX8_aliquot_X7_isLive
set_option maxRecDepth 20000 in
theorem ggX8_aliquot_X7_volumeOf : GoodIn wsX8_aliquot wsX7_volumeOf := goodIn_r _ [30, 31, 32, 22, 23, 24, 15, 25, 26, 252, 253, 254, 255, 256, 257, 258] (by decide +kernel) (by decide +kernel)
set_option maxRecDepth 20000 in
theorem gX8_aliquot_X7_volumeOf : GoodIn wsX8_aliquot (wsV RX8 72 RX7 yX7_volumeOf wsX7_volumeOf) := goodIn_app (goodIn_of _ (by decide +kernel)) ggX8_aliquot_X7_volumeOf
set_option maxRecDepth 20000 in
theorem ggX8_aliquot_X8_refusalOfNewSample : GoodIn wsX8_aliquot wsX8_refusalOfNewSample := goodIn_r _ [37, 1, 2, 38, 39, 40, 36, 41, 42, 43, 44, 45, 46, 47, 48, 49, 50, 51, 52, 53, 54, 15, 55, 26, 17, 18, 19, 20, 21, 22, 23, 24, 25, 56, 57, 58, 59, 60, 61, 62, 63, 64, 65, 66, 67, 68, 69, 70, 71, 72, 73, 6, 74, 75, 76, 77, 78, 8, 79, 80, 81, 82, 83, 84, 85, 86, 87, 88, 89, 90, 91, 92, 93, 94, 95, 96, 97, 244, 245, 246, 247, 248, 249, 250, 251, 259, 260, 261, 262, 263, 252, 253, 254, 255, 256, 257, 258, 264, 265, 266, 267, 268, 269, 270] (by decide +kernel) (by decide +kernel)
set_option maxRecDepth 20000 in
theorem gX8_aliquot_X8_refusalOfNewSample : GoodIn wsX8_aliquot (wsV RX8 56 RX8 yX8_refusalOfNewSample wsX8_refusalOfNewSample) := goodIn_app (goodIn_of _ (by decide +kernel)) ggX8_aliquot_X8_refusalOfNewSample
set_option maxRecDepth 20000 in
theorem ggX8_aliquot_X8_carryOut : GoodIn wsX8_aliquot wsX8_carryOut := goodIn_r _ [101, 64, 1, 2, 102, 103, 104, 68, 105, 106, 107, 70, 108, 109, 110, 111, 112, 91, 113, 114, 115, 116, 117, 118, 119, 120, 121, 122, 123, 124, 125, 126, 72, 73, 6, 74, 75, 76, 77, 78, 8, 79, 80, 81, 82, 83, 84, 85, 86, 127, 128, 129, 130, 131, 132, 133, 134, 135, 136, 137, 138, 139, 140, 141, 142, 143, 46, 144, 48, 145, 146, 147, 148, 149, 150, 151, 95, 152, 97, 153, 154, 155, 156, 157, 158, 159, 44, 45, 47, 160, 161, 162, 163, 164, 165, 166, 15, 167, 168, 169, 170, 171, 172, 173, 174, 175, 176, 177, 26, 17, 18, 19, 20, 21, 22, 23, 24, 25, 178, 28, 29, 30, 31, 32, 179, 180, 181, 182, 183, 184, 185, 186, 187, 188, 189, 190, 191, 192, 193, 194, 195, 57, 58, 59, 196, 197, 198, 199, 200, 201, 202, 203, 204, 205, 206, 207, 208, 209, 210, 211, 212, 213, 214, 215, 216, 217, 218, 219, 220, 221, 222, 223, 224, 225, 226, 227, 228, 229, 230, 231, 232, 233, 234, 235, 236, 237, 238, 239, 244, 245, 246, 247, 264, 265, 266, 267, 268, 269, 271, 272, 273, 274, 248, 249, 250, 251, 259, 260, 261, 262, 263, 270, 252, 253, 254, 255, 256, 257, 258, 275, 276, 277, 278, 279, 280] (by decide +kernel) (by decide +kernel)
set_option maxRecDepth 20000 in
theorem gX8_aliquot_X8_carryOut : GoodIn wsX8_aliquot (wsV RX8 60 RX8 yX8_carryOut wsX8_carryOut) := goodIn_app (goodIn_of _ (by decide +kernel)) ggX8_aliquot_X8_carryOut
set_option maxRecDepth 20000 in
theorem ggX8_aliquot_X7_sampleCount : GoodIn wsX8_aliquot wsX7_sampleCount := goodIn_r _ [243, 26, 252, 253, 254, 255, 256, 257, 258] (by decide +kernel) (by decide +kernel)
set_option maxRecDepth 20000 in
theorem gX8_aliquot_X7_sampleCount : GoodIn wsX8_aliquot (wsV RX8 64 RX7 yX7_sampleCount wsX7_sampleCount) := goodIn_app (goodIn_of _ (by decide +kernel)) ggX8_aliquot_X7_sampleCount
theorem dX8_aliquot_0 : decode cX8_aliquot 0 = .ok (.aload_n 0, 1) := by decide +kernel
theorem dX8_aliquot_1 : decode cX8_aliquot 1 = .ok (.getfield 44, 3) := by decide +kernel
theorem dX8_aliquot_4 : decode cX8_aliquot 4 = .ok (.iconst 2, 1) := by decide +kernel
theorem dX8_aliquot_5 : decode cX8_aliquot 5 = .ok (.iload_n 1, 1) := by decide +kernel
theorem dX8_aliquot_6 : decode cX8_aliquot 6 = .ok (.iload_n 2, 1) := by decide +kernel
theorem dX8_aliquot_7 : decode cX8_aliquot 7 = .ok (.lload_n 3, 1) := by decide +kernel
theorem dX8_aliquot_8 : decode cX8_aliquot 8 = .ok (.invokevirtual 48, 3) := by decide +kernel
theorem dX8_aliquot_11 : decode cX8_aliquot 11 = .ok (.aload_n 0, 1) := by decide +kernel
theorem dX8_aliquot_12 : decode cX8_aliquot 12 = .ok (.aload_n 0, 1) := by decide +kernel
theorem dX8_aliquot_13 : decode cX8_aliquot 13 = .ok (.aload_n 0, 1) := by decide +kernel
theorem dX8_aliquot_14 : decode cX8_aliquot 14 = .ok (.getfield 37, 3) := by decide +kernel
theorem dX8_aliquot_17 : decode cX8_aliquot 17 = .ok (.iload_n 1, 1) := by decide +kernel
theorem dX8_aliquot_18 : decode cX8_aliquot 18 = .ok (.invokevirtual 68, 3) := by decide +kernel
theorem dX8_aliquot_21 : decode cX8_aliquot 21 = .ok (.aload_n 0, 1) := by decide +kernel
theorem dX8_aliquot_22 : decode cX8_aliquot 22 = .ok (.getfield 37, 3) := by decide +kernel
theorem dX8_aliquot_25 : decode cX8_aliquot 25 = .ok (.iload_n 1, 1) := by decide +kernel
theorem dX8_aliquot_26 : decode cX8_aliquot 26 = .ok (.invokevirtual 72, 3) := by decide +kernel
theorem dX8_aliquot_29 : decode cX8_aliquot 29 = .ok (.invokevirtual 56, 3) := by decide +kernel
theorem dX8_aliquot_32 : decode cX8_aliquot 32 = .ok (.invokevirtual 60, 3) := by decide +kernel
theorem dX8_aliquot_35 : decode cX8_aliquot 35 = .ok (.istore 5, 2) := by decide +kernel
theorem dX8_aliquot_37 : decode cX8_aliquot 37 = .ok (.iload 5, 2) := by decide +kernel
theorem dX8_aliquot_39 : decode cX8_aliquot 39 = .ok (.ifCond .ne 13, 3) := by decide +kernel
theorem dX8_aliquot_42 : decode cX8_aliquot 42 = .ok (.aload_n 0, 1) := by decide +kernel
theorem dX8_aliquot_43 : decode cX8_aliquot 43 = .ok (.getfield 37, 3) := by decide +kernel
theorem dX8_aliquot_46 : decode cX8_aliquot 46 = .ok (.invokevirtual 64, 3) := by decide +kernel
theorem dX8_aliquot_49 : decode cX8_aliquot 49 = .ok (.goto 5, 3) := by decide +kernel
theorem dX8_aliquot_52 : decode cX8_aliquot 52 = .ok (.iload 5, 2) := by decide +kernel
theorem dX8_aliquot_54 : decode cX8_aliquot 54 = .ok (.ireturn, 1) := by decide +kernel
set_option maxRecDepth 20000 in
theorem ggX8_move_X2_set : GoodIn wsX8_move wsX2_set := goodIn_r _ [7, 8, 9, 10, 11, 238, 239, 240, 241] (by decide +kernel) (by decide +kernel)
set_option maxRecDepth 20000 in
theorem gX8_move_X2_set : GoodIn wsX8_move (wsV RX8 48 RX2 yX2_set wsX2_set) := goodIn_app (goodIn_of _ (by decide +kernel)) ggX8_move_X2_set
set_option maxRecDepth 20000 in
theorem ggX8_move_X7_isLive : GoodIn wsX8_move wsX7_isLive := goodIn_r _ [16, 17, 18, 19, 15, 20, 21, 22, 23, 24, 25, 26, 242, 243, 244, 245, 246, 247, 248] (by decide +kernel) (by decide +kernel)
set_option maxRecDepth 20000 in
theorem gX8_move_X7_isLive : GoodIn wsX8_move (wsV RX8 68 RX7 yX7_isLive wsX7_isLive) := goodIn_app (goodIn_of _ (by decide +kernel)) ggX8_move_X7_isLive
set_option maxRecDepth 20000 in
theorem ggX8_move_X8_refusalOfWell : GoodIn wsX8_move wsX8_refusalOfWell := goodIn_r _ [31, 32, 1, 2, 33, 34, 35, 36, 37, 38, 39, 40, 30, 41, 42, 43, 44, 15, 45, 26, 17, 18, 19, 20, 21, 22, 23, 24, 25, 234, 235, 236, 237, 238, 239, 240, 241, 249, 250, 251, 252, 253, 242, 243, 244, 245, 246, 247, 248] (by decide +kernel) (by decide +kernel)
set_option maxRecDepth 20000 in
theorem gX8_move_X8_refusalOfWell : GoodIn wsX8_move (wsV RX8 76 RX8 yX8_refusalOfWell wsX8_refusalOfWell) := goodIn_app (goodIn_of _ (by decide +kernel)) ggX8_move_X8_refusalOfWell
set_option maxRecDepth 20000 in
theorem ggX8_move_X8_refusalOfRoom : GoodIn wsX8_move wsX8_refusalOfRoom := goodIn_r _ [49, 50, 1, 51, 52, 53, 54, 55, 56, 57, 58, 59, 6, 60, 61, 62, 63, 64, 8, 65, 66, 67, 68, 69, 70, 71, 72, 73, 74, 75, 76, 77, 78, 79, 80, 81, 82, 83, 234, 235, 236, 237, 254, 255, 256, 257, 258, 259, 238, 239, 240, 241, 260] (by decide +kernel) (by decide +kernel)
set_option maxRecDepth 20000 in
theorem gX8_move_X8_refusalOfRoom : GoodIn wsX8_move (wsV RX8 80 RX8 yX8_refusalOfRoom wsX8_refusalOfRoom) := goodIn_app (goodIn_of _ (by decide +kernel)) ggX8_move_X8_refusalOfRoom
set_option maxRecDepth 20000 in
theorem ggX8_move_X8_carryOut : GoodIn wsX8_move wsX8_carryOut := goodIn_r _ [87, 50, 1, 2, 88, 89, 90, 54, 91, 92, 93, 56, 94, 95, 96, 97, 98, 77, 99, 100, 101, 102, 103, 104, 105, 106, 107, 108, 109, 110, 111, 112, 58, 59, 6, 60, 61, 62, 63, 64, 8, 65, 66, 67, 68, 69, 70, 71, 72, 113, 114, 115, 116, 117, 118, 119, 120, 121, 122, 123, 124, 125, 126, 127, 128, 129, 36, 130, 38, 131, 132, 133, 134, 135, 136, 137, 81, 138, 83, 139, 140, 141, 142, 143, 144, 145, 34, 35, 37, 146, 147, 148, 149, 150, 151, 152, 15, 153, 154, 155, 156, 157, 158, 159, 160, 161, 162, 163, 26, 17, 18, 19, 20, 21, 22, 23, 24, 25, 164, 165, 166, 167, 168, 169, 170, 171, 172, 173, 174, 175, 176, 177, 178, 179, 180, 181, 182, 183, 184, 185, 186, 187, 188, 189, 190, 191, 192, 193, 194, 195, 196, 197, 198, 199, 200, 201, 202, 203, 204, 205, 206, 207, 208, 209, 210, 211, 212, 213, 214, 215, 216, 217, 218, 219, 220, 221, 222, 223, 224, 225, 226, 227, 228, 229, 230, 231, 232, 233, 234, 235, 236, 237, 254, 255, 256, 257, 258, 259, 261, 262, 263, 264, 238, 239, 240, 241, 249, 250, 251, 252, 253, 260, 242, 243, 244, 245, 246, 247, 248, 265, 266, 267, 268, 269, 270] (by decide +kernel) (by decide +kernel)
set_option maxRecDepth 20000 in
theorem gX8_move_X8_carryOut : GoodIn wsX8_move (wsV RX8 60 RX8 yX8_carryOut wsX8_carryOut) := goodIn_app (goodIn_of _ (by decide +kernel)) ggX8_move_X8_carryOut
theorem dX8_move_0 : decode cX8_move 0 = .ok (.aload_n 0, 1) := by decide +kernel
theorem dX8_move_1 : decode cX8_move 1 = .ok (.getfield 44, 3) := by decide +kernel
theorem dX8_move_4 : decode cX8_move 4 = .ok (.iconst 3, 1) := by decide +kernel
theorem dX8_move_5 : decode cX8_move 5 = .ok (.iload_n 1, 1) := by decide +kernel
theorem dX8_move_6 : decode cX8_move 6 = .ok (.iload_n 2, 1) := by decide +kernel
theorem dX8_move_7 : decode cX8_move 7 = .ok (.lconst 0, 1) := by decide +kernel
theorem dX8_move_8 : decode cX8_move 8 = .ok (.invokevirtual 48, 3) := by decide +kernel
theorem dX8_move_11 : decode cX8_move 11 = .ok (.aload_n 0, 1) := by decide +kernel
theorem dX8_move_12 : decode cX8_move 12 = .ok (.aload_n 0, 1) := by decide +kernel
theorem dX8_move_13 : decode cX8_move 13 = .ok (.getfield 37, 3) := by decide +kernel
theorem dX8_move_16 : decode cX8_move 16 = .ok (.iload_n 1, 1) := by decide +kernel
theorem dX8_move_17 : decode cX8_move 17 = .ok (.invokevirtual 68, 3) := by decide +kernel
theorem dX8_move_20 : decode cX8_move 20 = .ok (.invokevirtual 76, 3) := by decide +kernel
theorem dX8_move_23 : decode cX8_move 23 = .ok (.istore_n 3, 1) := by decide +kernel
theorem dX8_move_24 : decode cX8_move 24 = .ok (.aload_n 0, 1) := by decide +kernel
theorem dX8_move_25 : decode cX8_move 25 = .ok (.iload_n 3, 1) := by decide +kernel
theorem dX8_move_26 : decode cX8_move 26 = .ok (.ifCond .ne 10, 3) := by decide +kernel
theorem dX8_move_29 : decode cX8_move 29 = .ok (.aload_n 0, 1) := by decide +kernel
theorem dX8_move_30 : decode cX8_move 30 = .ok (.invokevirtual 80, 3) := by decide +kernel
theorem dX8_move_33 : decode cX8_move 33 = .ok (.goto 4, 3) := by decide +kernel
theorem dX8_move_36 : decode cX8_move 36 = .ok (.iload_n 3, 1) := by decide +kernel
theorem dX8_move_37 : decode cX8_move 37 = .ok (.invokevirtual 60, 3) := by decide +kernel
theorem dX8_move_40 : decode cX8_move 40 = .ok (.ireturn, 1) := by decide +kernel
set_option maxRecDepth 20000 in
theorem ggX8_discard_X2_set : GoodIn wsX8_discard wsX2_set := goodIn_r _ [8, 9, 10, 11, 12, 227, 228, 229, 230] (by decide +kernel) (by decide +kernel)
set_option maxRecDepth 20000 in
theorem gX8_discard_X2_set : GoodIn wsX8_discard (wsV RX8 48 RX2 yX2_set wsX2_set) := goodIn_app (goodIn_of _ (by decide +kernel)) ggX8_discard_X2_set
set_option maxRecDepth 20000 in
theorem ggX8_discard_X6_isUp : GoodIn wsX8_discard wsX6_isUp := goodIn_r _ [17, 18, 231, 232, 233, 234, 235] (by decide +kernel) (by decide +kernel)
set_option maxRecDepth 20000 in
theorem gX8_discard_X6_isUp : GoodIn wsX8_discard (wsV RX8 83 RX6 yX6_isUp wsX6_isUp) := goodIn_app (goodIn_of _ (by decide +kernel)) ggX8_discard_X6_isUp
set_option maxRecDepth 20000 in
theorem ggX8_discard_X7_isLive : GoodIn wsX8_discard wsX7_isLive := goodIn_r _ [23, 24, 25, 26, 22, 27, 28, 29, 30, 31, 32, 33, 236, 237, 238, 239, 240, 241, 242] (by decide +kernel) (by decide +kernel)
set_option maxRecDepth 20000 in
theorem gX8_discard_X7_isLive : GoodIn wsX8_discard (wsV RX8 68 RX7 yX7_isLive wsX7_isLive) := goodIn_app (goodIn_of _ (by decide +kernel)) ggX8_discard_X7_isLive
set_option maxRecDepth 20000 in
theorem ggX8_discard_X8_refusalOfRoom : GoodIn wsX8_discard wsX8_refusalOfRoom := goodIn_r _ [38, 39, 1, 40, 41, 42, 43, 44, 45, 46, 47, 48, 7, 49, 50, 51, 52, 53, 9, 54, 55, 56, 57, 58, 59, 60, 61, 62, 63, 64, 65, 66, 67, 68, 69, 70, 71, 72, 223, 224, 225, 226, 243, 244, 245, 246, 247, 248, 227, 228, 229, 230, 249] (by decide +kernel) (by decide +kernel)
set_option maxRecDepth 20000 in
theorem gX8_discard_X8_refusalOfRoom : GoodIn wsX8_discard (wsV RX8 80 RX8 yX8_refusalOfRoom wsX8_refusalOfRoom) := goodIn_app (goodIn_of _ (by decide +kernel)) ggX8_discard_X8_refusalOfRoom
set_option maxRecDepth 20000 in
theorem ggX8_discard_X8_carryOut : GoodIn wsX8_discard wsX8_carryOut := goodIn_r _ [76, 39, 1, 3, 77, 78, 79, 43, 80, 81, 82, 45, 83, 84, 85, 86, 87, 66, 88, 89, 90, 91, 92, 93, 94, 95, 96, 97, 98, 99, 100, 101, 47, 48, 7, 49, 50, 51, 52, 53, 9, 54, 55, 56, 57, 58, 59, 60, 61, 102, 103, 104, 105, 106, 107, 108, 109, 110, 111, 112, 113, 114, 115, 116, 117, 118, 16, 119, 18, 120, 121, 122, 123, 124, 125, 126, 70, 127, 72, 128, 129, 130, 131, 132, 133, 134, 14, 15, 17, 135, 136, 137, 138, 139, 140, 141, 22, 142, 143, 144, 145, 146, 147, 148, 149, 150, 151, 152, 33, 24, 25, 26, 27, 28, 29, 30, 31, 32, 153, 154, 155, 156, 157, 158, 159, 160, 161, 162, 163, 164, 165, 166, 167, 168, 169, 170, 171, 172, 173, 174, 175, 176, 177, 178, 179, 180, 181, 182, 183, 184, 185, 186, 187, 188, 189, 190, 191, 192, 193, 194, 195, 196, 197, 198, 199, 200, 201, 202, 203, 204, 205, 206, 207, 208, 209, 210, 211, 212, 213, 214, 215, 216, 217, 218, 219, 220, 221, 222, 223, 224, 225, 226, 243, 244, 245, 246, 247, 248, 250, 251, 252, 253, 227, 228, 229, 230, 231, 232, 233, 234, 235, 249, 236, 237, 238, 239, 240, 241, 242, 254, 255, 256, 257, 258, 259] (by decide +kernel) (by decide +kernel)
set_option maxRecDepth 20000 in
theorem gX8_discard_X8_carryOut : GoodIn wsX8_discard (wsV RX8 60 RX8 yX8_carryOut wsX8_carryOut) := goodIn_app (goodIn_of _ (by decide +kernel)) ggX8_discard_X8_carryOut
theorem dX8_discard_0 : decode cX8_discard 0 = .ok (.aload_n 0, 1) := by decide +kernel
theorem dX8_discard_1 : decode cX8_discard 1 = .ok (.getfield 44, 3) := by decide +kernel
theorem dX8_discard_4 : decode cX8_discard 4 = .ok (.iconst 4, 1) := by decide +kernel
theorem dX8_discard_5 : decode cX8_discard 5 = .ok (.iload_n 1, 1) := by decide +kernel
theorem dX8_discard_6 : decode cX8_discard 6 = .ok (.iconst 0, 1) := by decide +kernel
theorem dX8_discard_7 : decode cX8_discard 7 = .ok (.lconst 0, 1) := by decide +kernel
theorem dX8_discard_8 : decode cX8_discard 8 = .ok (.invokevirtual 48, 3) := by decide +kernel
theorem dX8_discard_11 : decode cX8_discard 11 = .ok (.aload_n 0, 1) := by decide +kernel
theorem dX8_discard_12 : decode cX8_discard 12 = .ok (.getfield 12, 3) := by decide +kernel
theorem dX8_discard_15 : decode cX8_discard 15 = .ok (.invokevirtual 83, 3) := by decide +kernel
theorem dX8_discard_18 : decode cX8_discard 18 = .ok (.ifCond .ne 5, 3) := by decide +kernel
theorem dX8_discard_21 : decode cX8_discard 21 = .ok (.iconst (-1), 1) := by decide +kernel
theorem dX8_discard_22 : decode cX8_discard 22 = .ok (.ireturn, 1) := by decide +kernel
theorem dX8_discard_23 : decode cX8_discard 23 = .ok (.aload_n 0, 1) := by decide +kernel
theorem dX8_discard_24 : decode cX8_discard 24 = .ok (.getfield 37, 3) := by decide +kernel
theorem dX8_discard_27 : decode cX8_discard 27 = .ok (.iload_n 1, 1) := by decide +kernel
theorem dX8_discard_28 : decode cX8_discard 28 = .ok (.invokevirtual 68, 3) := by decide +kernel
theorem dX8_discard_31 : decode cX8_discard 31 = .ok (.ifCond .ne 6, 3) := by decide +kernel
theorem dX8_discard_34 : decode cX8_discard 34 = .ok (.bipush (-2), 2) := by decide +kernel
theorem dX8_discard_36 : decode cX8_discard 36 = .ok (.ireturn, 1) := by decide +kernel
theorem dX8_discard_37 : decode cX8_discard 37 = .ok (.aload_n 0, 1) := by decide +kernel
theorem dX8_discard_38 : decode cX8_discard 38 = .ok (.aload_n 0, 1) := by decide +kernel
theorem dX8_discard_39 : decode cX8_discard 39 = .ok (.invokevirtual 80, 3) := by decide +kernel
theorem dX8_discard_42 : decode cX8_discard 42 = .ok (.invokevirtual 60, 3) := by decide +kernel
theorem dX8_discard_45 : decode cX8_discard 45 = .ok (.ireturn, 1) := by decide +kernel
set_option maxRecDepth 20000 in
theorem ggX8_undo_X2_set : GoodIn wsX8_undo wsX2_set := goodIn_r _ [8, 9, 10, 11, 12, 231, 232, 233, 234] (by decide +kernel) (by decide +kernel)
set_option maxRecDepth 20000 in
theorem gX8_undo_X2_set : GoodIn wsX8_undo (wsV RX8 48 RX2 yX2_set wsX2_set) := goodIn_app (goodIn_of _ (by decide +kernel)) ggX8_undo_X2_set
set_option maxRecDepth 20000 in
theorem ggX8_undo_X6_isUp : GoodIn wsX8_undo wsX6_isUp := goodIn_r _ [17, 18, 235, 236, 237, 238, 239] (by decide +kernel) (by decide +kernel)
set_option maxRecDepth 20000 in
theorem gX8_undo_X6_isUp : GoodIn wsX8_undo (wsV RX8 83 RX6 yX6_isUp wsX6_isUp) := goodIn_app (goodIn_of _ (by decide +kernel)) ggX8_undo_X6_isUp
set_option maxRecDepth 20000 in
theorem ggX8_undo_X8_refusalOfRoom : GoodIn wsX8_undo wsX8_refusalOfRoom := goodIn_r _ [23, 24, 1, 25, 26, 27, 28, 29, 30, 31, 32, 33, 7, 34, 35, 36, 37, 38, 9, 39, 40, 41, 42, 43, 44, 45, 46, 47, 48, 49, 50, 51, 52, 53, 54, 55, 56, 57, 227, 228, 229, 230, 240, 241, 242, 243, 244, 245, 231, 232, 233, 234, 246] (by decide +kernel) (by decide +kernel)
set_option maxRecDepth 20000 in
theorem gX8_undo_X8_refusalOfRoom : GoodIn wsX8_undo (wsV RX8 80 RX8 yX8_refusalOfRoom wsX8_refusalOfRoom) := goodIn_app (goodIn_of _ (by decide +kernel)) ggX8_undo_X8_refusalOfRoom
set_option maxRecDepth 20000 in
theorem ggX8_undo_X7_pastActs : GoodIn wsX8_undo wsX7_pastActs := goodIn_r _ [62, 63, 64, 65, 66, 67, 68, 69, 247, 248, 249, 250, 251, 252, 253, 254, 255, 256, 257, 258, 259] (by decide +kernel) (by decide +kernel)
set_option maxRecDepth 20000 in
theorem gX8_undo_X7_pastActs : GoodIn wsX8_undo (wsV RX8 87 RX7 yX7_pastActs wsX7_pastActs) := goodIn_app (goodIn_of _ (by decide +kernel)) ggX8_undo_X7_pastActs
set_option maxRecDepth 20000 in
theorem ggX8_undo_X8_carryOut : GoodIn wsX8_undo wsX8_carryOut := goodIn_r _ [73, 24, 1, 3, 74, 75, 76, 28, 77, 78, 79, 30, 80, 81, 82, 83, 84, 51, 85, 86, 87, 88, 89, 90, 91, 92, 93, 94, 95, 96, 97, 98, 32, 33, 7, 34, 35, 36, 37, 38, 9, 39, 40, 41, 42, 43, 44, 45, 46, 99, 100, 101, 102, 103, 104, 105, 106, 107, 108, 109, 110, 111, 112, 113, 114, 115, 16, 116, 18, 117, 118, 119, 120, 121, 122, 123, 55, 124, 57, 125, 126, 127, 128, 129, 130, 131, 14, 15, 17, 132, 133, 134, 135, 136, 137, 138, 61, 139, 140, 141, 142, 143, 144, 145, 146, 147, 148, 63, 149, 150, 151, 152, 153, 154, 155, 156, 157, 158, 159, 160, 161, 162, 163, 164, 165, 166, 167, 67, 168, 69, 169, 170, 171, 172, 173, 174, 175, 176, 177, 178, 179, 180, 181, 182, 183, 184, 185, 186, 187, 188, 189, 190, 191, 192, 193, 194, 195, 196, 197, 198, 199, 200, 201, 202, 203, 204, 205, 206, 207, 208, 209, 210, 211, 212, 213, 214, 215, 216, 217, 218, 219, 220, 221, 222, 223, 224, 225, 226, 227, 228, 229, 230, 240, 241, 242, 243, 244, 245, 260, 261, 262, 263, 231, 232, 233, 234, 235, 236, 237, 238, 239, 246, 247, 248, 249, 250, 251, 252, 253, 254, 255, 256, 257, 258, 259] (by decide +kernel) (by decide +kernel)
set_option maxRecDepth 20000 in
theorem gX8_undo_X8_carryOut : GoodIn wsX8_undo (wsV RX8 60 RX8 yX8_carryOut wsX8_carryOut) := goodIn_app (goodIn_of _ (by decide +kernel)) ggX8_undo_X8_carryOut
theorem dX8_undo_0 : decode cX8_undo 0 = .ok (.aload_n 0, 1) := by decide +kernel
theorem dX8_undo_1 : decode cX8_undo 1 = .ok (.getfield 44, 3) := by decide +kernel
theorem dX8_undo_4 : decode cX8_undo 4 = .ok (.iconst 5, 1) := by decide +kernel
theorem dX8_undo_5 : decode cX8_undo 5 = .ok (.iconst 0, 1) := by decide +kernel
theorem dX8_undo_6 : decode cX8_undo 6 = .ok (.iconst 0, 1) := by decide +kernel
theorem dX8_undo_7 : decode cX8_undo 7 = .ok (.lconst 0, 1) := by decide +kernel
theorem dX8_undo_8 : decode cX8_undo 8 = .ok (.invokevirtual 48, 3) := by decide +kernel
theorem dX8_undo_11 : decode cX8_undo 11 = .ok (.aload_n 0, 1) := by decide +kernel
theorem dX8_undo_12 : decode cX8_undo 12 = .ok (.getfield 12, 3) := by decide +kernel
theorem dX8_undo_15 : decode cX8_undo 15 = .ok (.invokevirtual 83, 3) := by decide +kernel
theorem dX8_undo_18 : decode cX8_undo 18 = .ok (.ifCond .ne 5, 3) := by decide +kernel
theorem dX8_undo_21 : decode cX8_undo 21 = .ok (.iconst (-1), 1) := by decide +kernel
theorem dX8_undo_22 : decode cX8_undo 22 = .ok (.ireturn, 1) := by decide +kernel
theorem dX8_undo_23 : decode cX8_undo 23 = .ok (.aload_n 0, 1) := by decide +kernel
theorem dX8_undo_24 : decode cX8_undo 24 = .ok (.invokevirtual 80, 3) := by decide +kernel
theorem dX8_undo_27 : decode cX8_undo 27 = .ok (.istore_n 1, 1) := by decide +kernel
theorem dX8_undo_28 : decode cX8_undo 28 = .ok (.iload_n 1, 1) := by decide +kernel
theorem dX8_undo_29 : decode cX8_undo 29 = .ok (.ifCond .ne 16, 3) := by decide +kernel
theorem dX8_undo_32 : decode cX8_undo 32 = .ok (.aload_n 0, 1) := by decide +kernel
theorem dX8_undo_33 : decode cX8_undo 33 = .ok (.getfield 37, 3) := by decide +kernel
theorem dX8_undo_36 : decode cX8_undo 36 = .ok (.invokevirtual 87, 3) := by decide +kernel
theorem dX8_undo_39 : decode cX8_undo 39 = .ok (.ifCond .ne 6, 3) := by decide +kernel
theorem dX8_undo_42 : decode cX8_undo 42 = .ok (.bipush (-7), 2) := by decide +kernel
theorem dX8_undo_44 : decode cX8_undo 44 = .ok (.istore_n 1, 1) := by decide +kernel
theorem dX8_undo_45 : decode cX8_undo 45 = .ok (.aload_n 0, 1) := by decide +kernel
theorem dX8_undo_46 : decode cX8_undo 46 = .ok (.iload_n 1, 1) := by decide +kernel
theorem dX8_undo_47 : decode cX8_undo 47 = .ok (.invokevirtual 60, 3) := by decide +kernel
theorem dX8_undo_50 : decode cX8_undo 50 = .ok (.istore_n 1, 1) := by decide +kernel
theorem dX8_undo_51 : decode cX8_undo 51 = .ok (.iload_n 1, 1) := by decide +kernel
theorem dX8_undo_52 : decode cX8_undo 52 = .ok (.ifCond .ne 13, 3) := by decide +kernel
theorem dX8_undo_55 : decode cX8_undo 55 = .ok (.aload_n 0, 1) := by decide +kernel
theorem dX8_undo_56 : decode cX8_undo 56 = .ok (.getfield 37, 3) := by decide +kernel
theorem dX8_undo_59 : decode cX8_undo 59 = .ok (.invokevirtual 87, 3) := by decide +kernel
theorem dX8_undo_62 : decode cX8_undo 62 = .ok (.goto 4, 3) := by decide +kernel
theorem dX8_undo_65 : decode cX8_undo 65 = .ok (.iload_n 1, 1) := by decide +kernel
theorem dX8_undo_66 : decode cX8_undo 66 = .ok (.ireturn, 1) := by decide +kernel
set_option maxRecDepth 20000 in
theorem ggX8_compact_X6_isUp : GoodIn wsX8_compact wsX6_isUp := goodIn_r _ [9, 10, 186, 187, 188, 189, 190] (by decide +kernel) (by decide +kernel)
set_option maxRecDepth 20000 in
theorem gX8_compact_X6_isUp : GoodIn wsX8_compact (wsV RX8 83 RX6 yX6_isUp wsX6_isUp) := goodIn_app (goodIn_of _ (by decide +kernel)) ggX8_compact_X6_isUp
set_option maxRecDepth 20000 in
theorem ggX8_compact_X7_sampleCount : GoodIn wsX8_compact wsX7_sampleCount := goodIn_r _ [15, 16, 191, 192, 193, 194, 195, 196, 197] (by decide +kernel) (by decide +kernel)
set_option maxRecDepth 20000 in
theorem gX8_compact_X7_sampleCount : GoodIn wsX8_compact (wsV RX8 64 RX7 yX7_sampleCount wsX7_sampleCount) := goodIn_app (goodIn_of _ (by decide +kernel)) ggX8_compact_X7_sampleCount
set_option maxRecDepth 20000 in
theorem ggX8_compact_X3_otherBankHolds : GoodIn wsX8_compact wsX3_otherBankHolds := goodIn_r _ [21, 22, 23, 24, 20, 25, 26, 27, 28, 29, 30, 31, 32, 198, 199, 200, 201, 202, 203, 204] (by decide +kernel) (by decide +kernel)
set_option maxRecDepth 20000 in
theorem gX8_compact_X3_otherBankHolds : GoodIn wsX8_compact (wsV RX8 90 RX3 yX3_otherBankHolds wsX3_otherBankHolds) := goodIn_app (goodIn_of _ (by decide +kernel)) ggX8_compact_X3_otherBankHolds
set_option maxRecDepth 20000 in
theorem ggX8_compact_X3_writeAnew : GoodIn wsX8_compact wsX3_writeAnew := goodIn_r _ [36, 37, 38, 39, 40, 41, 42, 43, 20, 44, 26, 45, 46, 47, 48, 49, 50, 51, 52, 27, 28, 29, 30, 31, 32, 53, 54, 55, 56, 57, 58, 59, 60, 61, 62, 63, 64, 8, 65, 10, 66, 67, 68, 69, 70, 71, 72, 73, 74, 75, 76, 14, 77, 78, 79, 80, 81, 82, 83, 84, 85, 86, 87, 88, 89, 90, 91, 92, 93, 94, 95, 96, 97, 98, 99, 100, 101, 102, 103, 104, 105, 106, 107, 108, 109, 110, 111, 112, 113, 114, 115, 116, 117, 118, 119, 120, 121, 122, 123, 124, 12, 13, 15, 16, 125, 126, 127, 128, 129, 130, 131, 132, 133, 134, 135, 136, 137, 138, 139, 140, 141, 142, 143, 144, 145, 146, 147, 148, 149, 150, 151, 152, 153, 154, 155, 156, 157, 158, 159, 160, 161, 162, 163, 164, 165, 166, 167, 168, 169, 170, 6, 7, 9, 198, 199, 200, 201, 202, 203, 205, 206, 207, 208, 204, 186, 187, 188, 189, 190, 191, 192, 193, 194, 195, 196, 197, 209, 210, 211, 212] (by decide +kernel) (by decide +kernel)
set_option maxRecDepth 20000 in
theorem gX8_compact_X3_writeAnew : GoodIn wsX8_compact (wsV RX8 93 RX3 yX3_writeAnew wsX3_writeAnew) := goodIn_app (goodIn_of _ (by decide +kernel)) ggX8_compact_X3_writeAnew
set_option maxRecDepth 20000 in
theorem ggX8_compact_X7_forgetPast : GoodIn wsX8_compact wsX7_forgetPast := goodIn_r _ [174, 175, 176, 177, 178, 179, 180, 181, 191, 192, 193, 194, 195, 196, 197, 213, 214, 215, 216, 217, 218] (by decide +kernel) (by decide +kernel)
set_option maxRecDepth 20000 in
theorem gX8_compact_X7_forgetPast : GoodIn wsX8_compact (wsV RX8 97 RX7 yX7_forgetPast wsX7_forgetPast) := goodIn_app (goodIn_of _ (by decide +kernel)) ggX8_compact_X7_forgetPast
theorem dX8_compact_0 : decode cX8_compact 0 = .ok (.aload_n 0, 1) := by decide +kernel
theorem dX8_compact_1 : decode cX8_compact 1 = .ok (.getfield 12, 3) := by decide +kernel
theorem dX8_compact_4 : decode cX8_compact 4 = .ok (.invokevirtual 83, 3) := by decide +kernel
theorem dX8_compact_7 : decode cX8_compact 7 = .ok (.ifCond .ne 5, 3) := by decide +kernel
theorem dX8_compact_10 : decode cX8_compact 10 = .ok (.iconst (-1), 1) := by decide +kernel
theorem dX8_compact_11 : decode cX8_compact 11 = .ok (.ireturn, 1) := by decide +kernel
theorem dX8_compact_12 : decode cX8_compact 12 = .ok (.aload_n 0, 1) := by decide +kernel
theorem dX8_compact_13 : decode cX8_compact 13 = .ok (.getfield 30, 3) := by decide +kernel
theorem dX8_compact_16 : decode cX8_compact 16 = .ok (.aload_n 0, 1) := by decide +kernel
theorem dX8_compact_17 : decode cX8_compact 17 = .ok (.getfield 37, 3) := by decide +kernel
theorem dX8_compact_20 : decode cX8_compact 20 = .ok (.invokevirtual 64, 3) := by decide +kernel
theorem dX8_compact_23 : decode cX8_compact 23 = .ok (.invokevirtual 90, 3) := by decide +kernel
theorem dX8_compact_26 : decode cX8_compact 26 = .ok (.ifCond .ne 6, 3) := by decide +kernel
theorem dX8_compact_29 : decode cX8_compact 29 = .ok (.bipush (-6), 2) := by decide +kernel
theorem dX8_compact_31 : decode cX8_compact 31 = .ok (.ireturn, 1) := by decide +kernel
theorem dX8_compact_32 : decode cX8_compact 32 = .ok (.aload_n 0, 1) := by decide +kernel
theorem dX8_compact_33 : decode cX8_compact 33 = .ok (.getfield 30, 3) := by decide +kernel
theorem dX8_compact_36 : decode cX8_compact 36 = .ok (.aload_n 0, 1) := by decide +kernel
theorem dX8_compact_37 : decode cX8_compact 37 = .ok (.getfield 37, 3) := by decide +kernel
theorem dX8_compact_40 : decode cX8_compact 40 = .ok (.aload_n 0, 1) := by decide +kernel
theorem dX8_compact_41 : decode cX8_compact 41 = .ok (.getfield 44, 3) := by decide +kernel
theorem dX8_compact_44 : decode cX8_compact 44 = .ok (.invokevirtual 93, 3) := by decide +kernel
theorem dX8_compact_47 : decode cX8_compact 47 = .ok (.ifCond .ne 5, 3) := by decide +kernel
theorem dX8_compact_50 : decode cX8_compact 50 = .ok (.iconst (-1), 1) := by decide +kernel
theorem dX8_compact_51 : decode cX8_compact 51 = .ok (.ireturn, 1) := by decide +kernel
theorem dX8_compact_52 : decode cX8_compact 52 = .ok (.aload_n 0, 1) := by decide +kernel
theorem dX8_compact_53 : decode cX8_compact 53 = .ok (.getfield 37, 3) := by decide +kernel
theorem dX8_compact_56 : decode cX8_compact 56 = .ok (.invokevirtual 97, 3) := by decide +kernel
theorem dX8_compact_59 : decode cX8_compact 59 = .ok (.iconst 0, 1) := by decide +kernel
theorem dX8_compact_60 : decode cX8_compact 60 = .ok (.ireturn, 1) := by decide +kernel
set_option maxRecDepth 20000 in
theorem ggX8_cut_X6_isUp : GoodIn wsX8_cut wsX6_isUp := goodIn_r _ [6, 7, 18, 19, 20, 21, 22] (by decide +kernel) (by decide +kernel)
set_option maxRecDepth 20000 in
theorem gX8_cut_X6_isUp : GoodIn wsX8_cut (wsV RX8 83 RX6 yX6_isUp wsX6_isUp) := goodIn_app (goodIn_of _ (by decide +kernel)) ggX8_cut_X6_isUp
set_option maxRecDepth 20000 in
theorem ggX8_cut_X6_failBehind : GoodIn wsX8_cut wsX6_failBehind := goodIn_r _ [11, 12, 13, 18, 19, 20, 21, 22] (by decide +kernel) (by decide +kernel)
set_option maxRecDepth 20000 in
theorem gX8_cut_X6_failBehind : GoodIn wsX8_cut (wsV RX8 100 RX6 yX6_failBehind wsX6_failBehind) := goodIn_app (goodIn_of _ (by decide +kernel)) ggX8_cut_X6_failBehind
theorem dX8_cut_0 : decode cX8_cut 0 = .ok (.iload_n 1, 1) := by decide +kernel
theorem dX8_cut_1 : decode cX8_cut 1 = .ok (.ifCond .lt 13, 3) := by decide +kernel
theorem dX8_cut_4 : decode cX8_cut 4 = .ok (.aload_n 0, 1) := by decide +kernel
theorem dX8_cut_5 : decode cX8_cut 5 = .ok (.getfield 12, 3) := by decide +kernel
theorem dX8_cut_8 : decode cX8_cut 8 = .ok (.invokevirtual 83, 3) := by decide +kernel
theorem dX8_cut_11 : decode cX8_cut 11 = .ok (.ifCond .ne 5, 3) := by decide +kernel
theorem dX8_cut_14 : decode cX8_cut 14 = .ok (.iconst (-1), 1) := by decide +kernel
theorem dX8_cut_15 : decode cX8_cut 15 = .ok (.ireturn, 1) := by decide +kernel
theorem dX8_cut_16 : decode cX8_cut 16 = .ok (.aload_n 0, 1) := by decide +kernel
theorem dX8_cut_17 : decode cX8_cut 17 = .ok (.getfield 12, 3) := by decide +kernel
theorem dX8_cut_20 : decode cX8_cut 20 = .ok (.iload_n 1, 1) := by decide +kernel
theorem dX8_cut_21 : decode cX8_cut 21 = .ok (.invokevirtual 100, 3) := by decide +kernel
theorem dX8_cut_24 : decode cX8_cut 24 = .ok (.iconst 1, 1) := by decide +kernel
theorem dX8_cut_25 : decode cX8_cut 25 = .ok (.ireturn, 1) := by decide +kernel
set_option maxRecDepth 20000 in
theorem ggX8_recover_X6_restore : GoodIn wsX8_recover wsX6_restore := goodIn_r _ [9, 10, 11, 202, 203, 204, 205, 206] (by decide +kernel) (by decide +kernel)
set_option maxRecDepth 20000 in
theorem gX8_recover_X6_restore : GoodIn wsX8_recover (wsV RX8 104 RX6 yX6_restore wsX6_restore) := goodIn_app (goodIn_of _ (by decide +kernel)) ggX8_recover_X6_restore
set_option maxRecDepth 20000 in
theorem ggX8_recover_X3_chooseBank : GoodIn wsX8_recover wsX3_chooseBank := goodIn_r _ [16, 17, 18, 19, 20, 21, 22, 23, 24, 25, 26, 27, 28, 29, 30, 31, 32, 33, 34, 35, 36, 37, 38, 39, 40, 41, 42, 43, 44, 45, 46, 47, 207, 208, 209, 210, 211, 212, 213] (by decide +kernel) (by decide +kernel)
set_option maxRecDepth 20000 in
theorem gX8_recover_X3_chooseBank : GoodIn wsX8_recover (wsV RX8 107 RX3 yX3_chooseBank wsX3_chooseBank) := goodIn_app (goodIn_of _ (by decide +kernel)) ggX8_recover_X3_chooseBank
set_option maxRecDepth 20000 in
theorem ggX8_recover_X7_makeEmpty : GoodIn wsX8_recover wsX7_makeEmpty := goodIn_r _ [52, 53, 54, 55, 56, 57, 58, 59, 60, 61, 214, 215, 216, 217, 218, 219, 220, 221, 222, 223, 224, 225, 226] (by decide +kernel) (by decide +kernel)
set_option maxRecDepth 20000 in
theorem gX8_recover_X7_makeEmpty : GoodIn wsX8_recover (wsV RX8 110 RX7 yX7_makeEmpty wsX7_makeEmpty) := goodIn_app (goodIn_of _ (by decide +kernel)) ggX8_recover_X7_makeEmpty
set_option maxRecDepth 20000 in
theorem ggX8_recover_X3_readNext : GoodIn wsX8_recover wsX3_readNext := goodIn_r _ [65, 19, 20, 66, 67, 68, 15, 69, 17, 18, 70, 71, 72, 24, 73, 34, 40, 41, 42, 43, 30, 31, 32, 33, 26, 27, 28, 29, 35, 36, 37, 38, 39, 44, 45, 46, 74, 75, 76, 77, 78, 79, 80, 81, 82, 83, 84, 85, 86, 87, 88, 89, 90, 91, 92, 93, 94, 95, 96, 207, 208, 209, 210, 211, 212, 213, 227, 228, 229, 230] (by decide +kernel) (by decide +kernel)
set_option maxRecDepth 20000 in
theorem gX8_recover_X3_readNext : GoodIn wsX8_recover (wsV RX8 113 RX3 yX3_readNext wsX3_readNext) := goodIn_app (goodIn_of _ (by decide +kernel)) ggX8_recover_X3_readNext
set_option maxRecDepth 20000 in
theorem ggX8_recover_X7_apply : GoodIn wsX8_recover wsX7_apply := goodIn_r _ [100, 54, 101, 102, 103, 51, 104, 105, 106, 107, 108, 55, 53, 109, 110, 111, 112, 113, 114, 115, 116, 117, 118, 119, 120, 121, 122, 123, 124, 125, 126, 59, 127, 61, 128, 129, 130, 131, 132, 133, 134, 135, 136, 137, 138, 139, 140, 141, 142, 143, 144, 145, 146, 147, 148, 149, 150, 151, 152, 153, 154, 155, 156, 157, 158, 159, 160, 161, 162, 163, 164, 165, 166, 167, 168, 169, 170, 171, 172, 173, 174, 175, 176, 177, 178, 179, 180, 181, 182, 183, 184, 185, 227, 228, 229, 230, 214, 215, 216, 217, 218, 219, 220, 221, 222, 223, 224, 225, 226] (by decide +kernel) (by decide +kernel)
set_option maxRecDepth 20000 in
theorem gX8_recover_X7_apply : GoodIn wsX8_recover (wsV RX8 117 RX7 yX7_apply wsX7_apply) := goodIn_app (goodIn_of _ (by decide +kernel)) ggX8_recover_X7_apply
set_option maxRecDepth 20000 in
theorem ggX8_recover_X3_blankTheRest : GoodIn wsX8_recover wsX3_blankTheRest := goodIn_r _ [189, 19, 20, 66, 67, 68, 15, 69, 17, 18, 190, 191, 192, 24, 193, 194, 195, 196, 197, 34, 207, 208, 209, 210, 211, 212, 213] (by decide +kernel) (by decide +kernel)
set_option maxRecDepth 20000 in
theorem gX8_recover_X3_blankTheRest : GoodIn wsX8_recover (wsV RX8 121 RX3 yX3_blankTheRest wsX3_blankTheRest) := goodIn_app (goodIn_of _ (by decide +kernel)) ggX8_recover_X3_blankTheRest
theorem dX8_recover_0 : decode cX8_recover 0 = .ok (.aload_n 0, 1) := by decide +kernel
theorem dX8_recover_1 : decode cX8_recover 1 = .ok (.getfield 12, 3) := by decide +kernel
theorem dX8_recover_4 : decode cX8_recover 4 = .ok (.invokevirtual 104, 3) := by decide +kernel
theorem dX8_recover_7 : decode cX8_recover 7 = .ok (.aload_n 0, 1) := by decide +kernel
theorem dX8_recover_8 : decode cX8_recover 8 = .ok (.getfield 30, 3) := by decide +kernel
theorem dX8_recover_11 : decode cX8_recover 11 = .ok (.invokevirtual 107, 3) := by decide +kernel
theorem dX8_recover_14 : decode cX8_recover 14 = .ok (.aload_n 0, 1) := by decide +kernel
theorem dX8_recover_15 : decode cX8_recover 15 = .ok (.getfield 37, 3) := by decide +kernel
theorem dX8_recover_18 : decode cX8_recover 18 = .ok (.invokevirtual 110, 3) := by decide +kernel
theorem dX8_recover_21 : decode cX8_recover 21 = .ok (.iconst 0, 1) := by decide +kernel
theorem dX8_recover_22 : decode cX8_recover 22 = .ok (.istore_n 1, 1) := by decide +kernel
theorem dX8_recover_23 : decode cX8_recover 23 = .ok (.iload_n 1, 1) := by decide +kernel
theorem dX8_recover_24 : decode cX8_recover 24 = .ok (.sipush 256, 3) := by decide +kernel
theorem dX8_recover_27 : decode cX8_recover 27 = .ok (.if_icmp .ge 34, 3) := by decide +kernel
theorem dX8_recover_30 : decode cX8_recover 30 = .ok (.aload_n 0, 1) := by decide +kernel
theorem dX8_recover_31 : decode cX8_recover 31 = .ok (.getfield 30, 3) := by decide +kernel
theorem dX8_recover_34 : decode cX8_recover 34 = .ok (.aload_n 0, 1) := by decide +kernel
theorem dX8_recover_35 : decode cX8_recover 35 = .ok (.getfield 44, 3) := by decide +kernel
theorem dX8_recover_38 : decode cX8_recover 38 = .ok (.invokevirtual 113, 3) := by decide +kernel
theorem dX8_recover_41 : decode cX8_recover 41 = .ok (.ifCond .eq 20, 3) := by decide +kernel
theorem dX8_recover_44 : decode cX8_recover 44 = .ok (.aload_n 0, 1) := by decide +kernel
theorem dX8_recover_45 : decode cX8_recover 45 = .ok (.getfield 37, 3) := by decide +kernel
theorem dX8_recover_48 : decode cX8_recover 48 = .ok (.aload_n 0, 1) := by decide +kernel
theorem dX8_recover_49 : decode cX8_recover 49 = .ok (.getfield 44, 3) := by decide +kernel
theorem dX8_recover_52 : decode cX8_recover 52 = .ok (.invokevirtual 117, 3) := by decide +kernel
theorem dX8_recover_55 : decode cX8_recover 55 = .ok (.iinc 1 1, 3) := by decide +kernel
theorem dX8_recover_58 : decode cX8_recover 58 = .ok (.goto (-35), 3) := by decide +kernel
theorem dX8_recover_61 : decode cX8_recover 61 = .ok (.aload_n 0, 1) := by decide +kernel
theorem dX8_recover_62 : decode cX8_recover 62 = .ok (.getfield 30, 3) := by decide +kernel
theorem dX8_recover_65 : decode cX8_recover 65 = .ok (.invokevirtual 121, 3) := by decide +kernel
theorem dX8_recover_68 : decode cX8_recover 68 = .ok (.iload_n 1, 1) := by decide +kernel
theorem dX8_recover_69 : decode cX8_recover 69 = .ok (.ireturn, 1) := by decide +kernel
set_option maxRecDepth 20000 in
theorem ggX8_octet_X3_bank : GoodIn wsX8_octet wsX3_bank := goodIn_r _ [6, 7, 8, 19, 20, 21, 22, 23, 24] (by decide +kernel) (by decide +kernel)
set_option maxRecDepth 20000 in
theorem gX8_octet_X3_bank : GoodIn wsX8_octet (wsV RX8 124 RX3 yX3_bank wsX3_bank) := goodIn_app (goodIn_of _ (by decide +kernel)) ggX8_octet_X3_bank
set_option maxRecDepth 20000 in
theorem ggX8_octet_X0_at : GoodIn wsX8_octet wsX0_at := goodIn_r _ [13, 14, 25] (by decide +kernel) (by decide +kernel)
set_option maxRecDepth 20000 in
theorem gX8_octet_X0_at : GoodIn wsX8_octet (wsV RX8 128 RX0 yX0_at wsX0_at) := goodIn_app (goodIn_of _ (by decide +kernel)) ggX8_octet_X0_at
theorem dX8_octet_0 : decode cX8_octet 0 = .ok (.iload_n 1, 1) := by decide +kernel
theorem dX8_octet_1 : decode cX8_octet 1 = .ok (.ifCond .eq 8, 3) := by decide +kernel
theorem dX8_octet_4 : decode cX8_octet 4 = .ok (.iload_n 1, 1) := by decide +kernel
theorem dX8_octet_5 : decode cX8_octet 5 = .ok (.iconst 1, 1) := by decide +kernel
theorem dX8_octet_6 : decode cX8_octet 6 = .ok (.if_icmp .ne 18, 3) := by decide +kernel
theorem dX8_octet_9 : decode cX8_octet 9 = .ok (.aload_n 0, 1) := by decide +kernel
theorem dX8_octet_10 : decode cX8_octet 10 = .ok (.getfield 30, 3) := by decide +kernel
theorem dX8_octet_13 : decode cX8_octet 13 = .ok (.iload_n 1, 1) := by decide +kernel
theorem dX8_octet_14 : decode cX8_octet 14 = .ok (.invokevirtual 124, 3) := by decide +kernel
theorem dX8_octet_17 : decode cX8_octet 17 = .ok (.iload_n 2, 1) := by decide +kernel
theorem dX8_octet_18 : decode cX8_octet 18 = .ok (.invokevirtual 128, 3) := by decide +kernel
theorem dX8_octet_21 : decode cX8_octet 21 = .ok (.goto 4, 3) := by decide +kernel
theorem dX8_octet_24 : decode cX8_octet 24 = .ok (.iconst (-1), 1) := by decide +kernel
theorem dX8_octet_25 : decode cX8_octet 25 = .ok (.ireturn, 1) := by decide +kernel
set_option maxRecDepth 20000 in
theorem ggX8_sample_X6_isUp : GoodIn wsX8_sample wsX6_isUp := goodIn_r _ [7, 8, 44, 45, 46, 47, 48] (by decide +kernel) (by decide +kernel)
set_option maxRecDepth 20000 in
theorem gX8_sample_X6_isUp : GoodIn wsX8_sample (wsV RX8 83 RX6 yX6_isUp wsX6_isUp) := goodIn_app (goodIn_of _ (by decide +kernel)) ggX8_sample_X6_isUp
set_option maxRecDepth 20000 in
theorem ggX8_sample_X7_isSample : GoodIn wsX8_sample wsX7_isSample := goodIn_r _ [13, 14, 49, 50, 51, 52, 53, 54, 55] (by decide +kernel) (by decide +kernel)
set_option maxRecDepth 20000 in
theorem gX8_sample_X7_isSample : GoodIn wsX8_sample (wsV RX8 133 RX7 yX7_isSample wsX7_isSample) := goodIn_app (goodIn_of _ (by decide +kernel)) ggX8_sample_X7_isSample
set_option maxRecDepth 20000 in
theorem ggX8_sample_X7_parentOf : GoodIn wsX8_sample wsX7_parentOf := goodIn_r _ [18, 19, 20, 10, 11, 12, 13, 14, 49, 50, 51, 52, 53, 54, 55] (by decide +kernel) (by decide +kernel)
set_option maxRecDepth 20000 in
theorem gX8_sample_X7_parentOf : GoodIn wsX8_sample (wsV RX8 136 RX7 yX7_parentOf wsX7_parentOf) := goodIn_app (goodIn_of _ (by decide +kernel)) ggX8_sample_X7_parentOf
set_option maxRecDepth 20000 in
theorem ggX8_sample_X7_wellOf : GoodIn wsX8_sample wsX7_wellOf := goodIn_r _ [24, 25, 20, 10, 11, 12, 13, 14, 49, 50, 51, 52, 53, 54, 55] (by decide +kernel) (by decide +kernel)
set_option maxRecDepth 20000 in
theorem gX8_sample_X7_wellOf : GoodIn wsX8_sample (wsV RX8 139 RX7 yX7_wellOf wsX7_wellOf) := goodIn_app (goodIn_of _ (by decide +kernel)) ggX8_sample_X7_wellOf
set_option maxRecDepth 20000 in
theorem ggX8_sample_X7_childrenOf : GoodIn wsX8_sample wsX7_childrenOf := goodIn_r _ [29, 14, 30, 16, 17, 12, 18, 19, 20, 10, 11, 13, 49, 50, 51, 52, 53, 54, 55] (by decide +kernel) (by decide +kernel)
set_option maxRecDepth 20000 in
theorem gX8_sample_X7_childrenOf : GoodIn wsX8_sample (wsV RX8 142 RX7 yX7_childrenOf wsX7_childrenOf) := goodIn_app (goodIn_of _ (by decide +kernel)) ggX8_sample_X7_childrenOf
set_option maxRecDepth 20000 in
theorem ggX8_sample_X7_stepsToOrigin : GoodIn wsX8_sample wsX7_stepsToOrigin := goodIn_r _ [34, 30, 16, 17, 12, 18, 19, 20, 10, 11, 13, 14, 49, 50, 51, 52, 53, 54, 55] (by decide +kernel) (by decide +kernel)
set_option maxRecDepth 20000 in
theorem gX8_sample_X7_stepsToOrigin : GoodIn wsX8_sample (wsV RX8 145 RX7 yX7_stepsToOrigin wsX7_stepsToOrigin) := goodIn_app (goodIn_of _ (by decide +kernel)) ggX8_sample_X7_stepsToOrigin
set_option maxRecDepth 20000 in
theorem ggX8_sample_X7_originOf : GoodIn wsX8_sample wsX7_originOf := goodIn_r _ [38, 39, 32, 33, 12, 34, 30, 16, 17, 18, 19, 20, 10, 11, 13, 14, 49, 50, 51, 52, 53, 54, 55] (by decide +kernel) (by decide +kernel)
set_option maxRecDepth 20000 in
theorem gX8_sample_X7_originOf : GoodIn wsX8_sample (wsV RX8 148 RX7 yX7_originOf wsX7_originOf) := goodIn_app (goodIn_of _ (by decide +kernel)) ggX8_sample_X7_originOf
theorem dX8_sample_0 : decode cX8_sample 0 = .ok (.aload_n 0, 1) := by decide +kernel
theorem dX8_sample_1 : decode cX8_sample 1 = .ok (.getfield 12, 3) := by decide +kernel
theorem dX8_sample_4 : decode cX8_sample 4 = .ok (.invokevirtual 83, 3) := by decide +kernel
theorem dX8_sample_7 : decode cX8_sample 7 = .ok (.ifCond .eq 14, 3) := by decide +kernel
theorem dX8_sample_10 : decode cX8_sample 10 = .ok (.aload_n 0, 1) := by decide +kernel
theorem dX8_sample_11 : decode cX8_sample 11 = .ok (.getfield 37, 3) := by decide +kernel
theorem dX8_sample_14 : decode cX8_sample 14 = .ok (.iload_n 1, 1) := by decide +kernel
theorem dX8_sample_15 : decode cX8_sample 15 = .ok (.invokevirtual 133, 3) := by decide +kernel
theorem dX8_sample_18 : decode cX8_sample 18 = .ok (.ifCond .ne 5, 3) := by decide +kernel
theorem dX8_sample_21 : decode cX8_sample 21 = .ok (.iconst (-1), 1) := by decide +kernel
theorem dX8_sample_22 : decode cX8_sample 22 = .ok (.ireturn, 1) := by decide +kernel
theorem dX8_sample_23 : decode cX8_sample 23 = .ok (.iload_n 2, 1) := by decide +kernel
theorem dX8_sample_24 : decode cX8_sample 24 = .ok (.tableswitch 81 0 4 #[36, 45, 54, 63, 72], 36) := by decide +kernel
theorem dX8_sample_60 : decode cX8_sample 60 = .ok (.aload_n 0, 1) := by decide +kernel
theorem dX8_sample_61 : decode cX8_sample 61 = .ok (.getfield 37, 3) := by decide +kernel
theorem dX8_sample_64 : decode cX8_sample 64 = .ok (.iload_n 1, 1) := by decide +kernel
theorem dX8_sample_65 : decode cX8_sample 65 = .ok (.invokevirtual 136, 3) := by decide +kernel
theorem dX8_sample_68 : decode cX8_sample 68 = .ok (.ireturn, 1) := by decide +kernel
theorem dX8_sample_69 : decode cX8_sample 69 = .ok (.aload_n 0, 1) := by decide +kernel
theorem dX8_sample_70 : decode cX8_sample 70 = .ok (.getfield 37, 3) := by decide +kernel
theorem dX8_sample_73 : decode cX8_sample 73 = .ok (.iload_n 1, 1) := by decide +kernel
theorem dX8_sample_74 : decode cX8_sample 74 = .ok (.invokevirtual 139, 3) := by decide +kernel
theorem dX8_sample_77 : decode cX8_sample 77 = .ok (.ireturn, 1) := by decide +kernel
theorem dX8_sample_78 : decode cX8_sample 78 = .ok (.aload_n 0, 1) := by decide +kernel
theorem dX8_sample_79 : decode cX8_sample 79 = .ok (.getfield 37, 3) := by decide +kernel
theorem dX8_sample_82 : decode cX8_sample 82 = .ok (.iload_n 1, 1) := by decide +kernel
theorem dX8_sample_83 : decode cX8_sample 83 = .ok (.invokevirtual 142, 3) := by decide +kernel
theorem dX8_sample_86 : decode cX8_sample 86 = .ok (.ireturn, 1) := by decide +kernel
theorem dX8_sample_87 : decode cX8_sample 87 = .ok (.aload_n 0, 1) := by decide +kernel
theorem dX8_sample_88 : decode cX8_sample 88 = .ok (.getfield 37, 3) := by decide +kernel
theorem dX8_sample_91 : decode cX8_sample 91 = .ok (.iload_n 1, 1) := by decide +kernel
theorem dX8_sample_92 : decode cX8_sample 92 = .ok (.invokevirtual 145, 3) := by decide +kernel
theorem dX8_sample_95 : decode cX8_sample 95 = .ok (.ireturn, 1) := by decide +kernel
theorem dX8_sample_96 : decode cX8_sample 96 = .ok (.aload_n 0, 1) := by decide +kernel
theorem dX8_sample_97 : decode cX8_sample 97 = .ok (.getfield 37, 3) := by decide +kernel
theorem dX8_sample_100 : decode cX8_sample 100 = .ok (.iload_n 1, 1) := by decide +kernel
theorem dX8_sample_101 : decode cX8_sample 101 = .ok (.invokevirtual 148, 3) := by decide +kernel
theorem dX8_sample_104 : decode cX8_sample 104 = .ok (.ireturn, 1) := by decide +kernel
theorem dX8_sample_105 : decode cX8_sample 105 = .ok (.iconst (-1), 1) := by decide +kernel
theorem dX8_sample_106 : decode cX8_sample 106 = .ok (.ireturn, 1) := by decide +kernel
set_option maxRecDepth 20000 in
theorem ggX8_volume_X6_isUp : GoodIn wsX8_volume wsX6_isUp := goodIn_r _ [8, 9, 26, 27, 28, 29, 30] (by decide +kernel) (by decide +kernel)
set_option maxRecDepth 20000 in
theorem gX8_volume_X6_isUp : GoodIn wsX8_volume (wsV RX8 83 RX6 yX6_isUp wsX6_isUp) := goodIn_app (goodIn_of _ (by decide +kernel)) ggX8_volume_X6_isUp
set_option maxRecDepth 20000 in
theorem ggX8_volume_X7_volumeOf : GoodIn wsX8_volume wsX7_volumeOf := goodIn_r _ [14, 15, 16, 17, 18, 19, 13, 20, 21, 31, 32, 33, 34, 35, 36, 37] (by decide +kernel) (by decide +kernel)
set_option maxRecDepth 20000 in
theorem gX8_volume_X7_volumeOf : GoodIn wsX8_volume (wsV RX8 72 RX7 yX7_volumeOf wsX7_volumeOf) := goodIn_app (goodIn_of _ (by decide +kernel)) ggX8_volume_X7_volumeOf
theorem dX8_volume_0 : decode cX8_volume 0 = .ok (.aload_n 0, 1) := by decide +kernel
theorem dX8_volume_1 : decode cX8_volume 1 = .ok (.getfield 12, 3) := by decide +kernel
theorem dX8_volume_4 : decode cX8_volume 4 = .ok (.invokevirtual 83, 3) := by decide +kernel
theorem dX8_volume_7 : decode cX8_volume 7 = .ok (.ifCond .eq 14, 3) := by decide +kernel
theorem dX8_volume_10 : decode cX8_volume 10 = .ok (.aload_n 0, 1) := by decide +kernel
theorem dX8_volume_11 : decode cX8_volume 11 = .ok (.getfield 37, 3) := by decide +kernel
theorem dX8_volume_14 : decode cX8_volume 14 = .ok (.iload_n 1, 1) := by decide +kernel
theorem dX8_volume_15 : decode cX8_volume 15 = .ok (.invokevirtual 72, 3) := by decide +kernel
theorem dX8_volume_18 : decode cX8_volume 18 = .ok (.goto 6, 3) := by decide +kernel
theorem dX8_volume_21 : decode cX8_volume 21 = .ok (.ldc2_w 151, 3) := by decide +kernel
theorem dX8_volume_24 : decode cX8_volume 24 = .ok (.lreturn, 1) := by decide +kernel
set_option maxRecDepth 20000 in
theorem ggX8_well_X6_isUp : GoodIn wsX8_well wsX6_isUp := goodIn_r _ [7, 8, 31, 32, 33, 34, 35] (by decide +kernel) (by decide +kernel)
set_option maxRecDepth 20000 in
theorem gX8_well_X6_isUp : GoodIn wsX8_well (wsV RX8 83 RX6 yX6_isUp wsX6_isUp) := goodIn_app (goodIn_of _ (by decide +kernel)) ggX8_well_X6_isUp
set_option maxRecDepth 20000 in
theorem ggX8_well_X7_sampleIn : GoodIn wsX8_well wsX7_sampleIn := goodIn_r _ [13, 14, 15, 16, 17, 18, 19, 20, 12, 21, 22, 23, 24, 25, 26, 36, 37, 38, 39, 40, 41, 42] (by decide +kernel) (by decide +kernel)
set_option maxRecDepth 20000 in
theorem gX8_well_X7_sampleIn : GoodIn wsX8_well (wsV RX8 153 RX7 yX7_sampleIn wsX7_sampleIn) := goodIn_app (goodIn_of _ (by decide +kernel)) ggX8_well_X7_sampleIn
theorem dX8_well_0 : decode cX8_well 0 = .ok (.aload_n 0, 1) := by decide +kernel
theorem dX8_well_1 : decode cX8_well 1 = .ok (.getfield 12, 3) := by decide +kernel
theorem dX8_well_4 : decode cX8_well 4 = .ok (.invokevirtual 83, 3) := by decide +kernel
theorem dX8_well_7 : decode cX8_well 7 = .ok (.ifCond .eq 14, 3) := by decide +kernel
theorem dX8_well_10 : decode cX8_well 10 = .ok (.aload_n 0, 1) := by decide +kernel
theorem dX8_well_11 : decode cX8_well 11 = .ok (.getfield 37, 3) := by decide +kernel
theorem dX8_well_14 : decode cX8_well 14 = .ok (.iload_n 1, 1) := by decide +kernel
theorem dX8_well_15 : decode cX8_well 15 = .ok (.invokevirtual 153, 3) := by decide +kernel
theorem dX8_well_18 : decode cX8_well 18 = .ok (.goto 4, 3) := by decide +kernel
theorem dX8_well_21 : decode cX8_well 21 = .ok (.iconst (-1), 1) := by decide +kernel
theorem dX8_well_22 : decode cX8_well 22 = .ok (.ireturn, 1) := by decide +kernel
set_option maxRecDepth 20000 in
theorem ggX8_total_X6_isUp : GoodIn wsX8_total wsX6_isUp := goodIn_r _ [8, 9, 45, 46, 47, 48, 49] (by decide +kernel) (by decide +kernel)
set_option maxRecDepth 20000 in
theorem gX8_total_X6_isUp : GoodIn wsX8_total (wsV RX8 83 RX6 yX6_isUp wsX6_isUp) := goodIn_app (goodIn_of _ (by decide +kernel)) ggX8_total_X6_isUp
set_option maxRecDepth 20000 in
theorem ggX8_total_X7_liveVolume : GoodIn wsX8_total wsX7_liveVolume := goodIn_r _ [14, 15, 16, 17, 18, 13, 19, 20, 21, 22, 23, 24, 25, 50, 51, 52, 53, 54, 55, 56] (by decide +kernel) (by decide +kernel)
set_option maxRecDepth 20000 in
theorem gX8_total_X7_liveVolume : GoodIn wsX8_total (wsV RX8 156 RX7 yX7_liveVolume wsX7_liveVolume) := goodIn_app (goodIn_of _ (by decide +kernel)) ggX8_total_X7_liveVolume
set_option maxRecDepth 20000 in
theorem ggX8_total_X7_lostVolume : GoodIn wsX8_total wsX7_lostVolume := goodIn_r _ [29, 30, 50, 51, 52, 53, 54, 55, 56] (by decide +kernel) (by decide +kernel)
set_option maxRecDepth 20000 in
theorem gX8_total_X7_lostVolume : GoodIn wsX8_total (wsV RX8 159 RX7 yX7_lostVolume wsX7_lostVolume) := goodIn_app (goodIn_of _ (by decide +kernel)) ggX8_total_X7_lostVolume
set_option maxRecDepth 20000 in
theorem ggX8_total_X7_volumeOfFamily : GoodIn wsX8_total wsX7_volumeOfFamily := goodIn_r _ [34, 21, 15, 35, 20, 22, 23, 24, 13, 25, 36, 37, 38, 39, 40, 50, 51, 52, 53, 54, 55, 56] (by decide +kernel) (by decide +kernel)
set_option maxRecDepth 20000 in
theorem gX8_total_X7_volumeOfFamily : GoodIn wsX8_total (wsV RX8 162 RX7 yX7_volumeOfFamily wsX7_volumeOfFamily) := goodIn_app (goodIn_of _ (by decide +kernel)) ggX8_total_X7_volumeOfFamily
theorem dX8_total_0 : decode cX8_total 0 = .ok (.aload_n 0, 1) := by decide +kernel
theorem dX8_total_1 : decode cX8_total 1 = .ok (.getfield 12, 3) := by decide +kernel
theorem dX8_total_4 : decode cX8_total 4 = .ok (.invokevirtual 83, 3) := by decide +kernel
theorem dX8_total_7 : decode cX8_total 7 = .ok (.ifCond .ne 7, 3) := by decide +kernel
theorem dX8_total_10 : decode cX8_total 10 = .ok (.ldc2_w 151, 3) := by decide +kernel
theorem dX8_total_13 : decode cX8_total 13 = .ok (.lreturn, 1) := by decide +kernel
theorem dX8_total_14 : decode cX8_total 14 = .ok (.iload_n 1, 1) := by decide +kernel
theorem dX8_total_15 : decode cX8_total 15 = .ok (.tableswitch 70 0 3 #[29, 37, 45, 61], 29) := by decide +kernel
theorem dX8_total_44 : decode cX8_total 44 = .ok (.aload_n 0, 1) := by decide +kernel
theorem dX8_total_45 : decode cX8_total 45 = .ok (.getfield 37, 3) := by decide +kernel
theorem dX8_total_48 : decode cX8_total 48 = .ok (.invokevirtual 156, 3) := by decide +kernel
theorem dX8_total_51 : decode cX8_total 51 = .ok (.lreturn, 1) := by decide +kernel
theorem dX8_total_52 : decode cX8_total 52 = .ok (.aload_n 0, 1) := by decide +kernel
theorem dX8_total_53 : decode cX8_total 53 = .ok (.getfield 37, 3) := by decide +kernel
theorem dX8_total_56 : decode cX8_total 56 = .ok (.invokevirtual 159, 3) := by decide +kernel
theorem dX8_total_59 : decode cX8_total 59 = .ok (.lreturn, 1) := by decide +kernel
theorem dX8_total_60 : decode cX8_total 60 = .ok (.aload_n 0, 1) := by decide +kernel
theorem dX8_total_61 : decode cX8_total 61 = .ok (.getfield 37, 3) := by decide +kernel
theorem dX8_total_64 : decode cX8_total 64 = .ok (.invokevirtual 156, 3) := by decide +kernel
theorem dX8_total_67 : decode cX8_total 67 = .ok (.aload_n 0, 1) := by decide +kernel
theorem dX8_total_68 : decode cX8_total 68 = .ok (.getfield 37, 3) := by decide +kernel
theorem dX8_total_71 : decode cX8_total 71 = .ok (.invokevirtual 159, 3) := by decide +kernel
theorem dX8_total_74 : decode cX8_total 74 = .ok (.ladd, 1) := by decide +kernel
theorem dX8_total_75 : decode cX8_total 75 = .ok (.lreturn, 1) := by decide +kernel
theorem dX8_total_76 : decode cX8_total 76 = .ok (.aload_n 0, 1) := by decide +kernel
theorem dX8_total_77 : decode cX8_total 77 = .ok (.getfield 37, 3) := by decide +kernel
theorem dX8_total_80 : decode cX8_total 80 = .ok (.iload_n 2, 1) := by decide +kernel
theorem dX8_total_81 : decode cX8_total 81 = .ok (.invokevirtual 162, 3) := by decide +kernel
theorem dX8_total_84 : decode cX8_total 84 = .ok (.lreturn, 1) := by decide +kernel
theorem dX8_total_85 : decode cX8_total 85 = .ok (.ldc2_w 151, 3) := by decide +kernel
theorem dX8_total_88 : decode cX8_total 88 = .ok (.lreturn, 1) := by decide +kernel
set_option maxRecDepth 20000 in
theorem ggX8_count_X6_isUp : GoodIn wsX8_count wsX6_isUp := goodIn_r _ [7, 8, 102, 103, 104, 105, 106] (by decide +kernel) (by decide +kernel)
set_option maxRecDepth 20000 in
theorem gX8_count_X6_isUp : GoodIn wsX8_count (wsV RX8 83 RX6 yX6_isUp wsX6_isUp) := goodIn_app (goodIn_of _ (by decide +kernel)) ggX8_count_X6_isUp
set_option maxRecDepth 20000 in
theorem ggX8_count_X3_bankBytes : GoodIn wsX8_count wsX3_bankBytes := goodIn_r _ [13, 14, 15, 16, 17, 18, 19, 20, 107, 108, 109, 110, 111, 112, 113] (by decide +kernel) (by decide +kernel)
set_option maxRecDepth 20000 in
theorem gX8_count_X3_bankBytes : GoodIn wsX8_count (wsV RX8 165 RX3 yX3_bankBytes wsX3_bankBytes) := goodIn_app (goodIn_of _ (by decide +kernel)) ggX8_count_X3_bankBytes
set_option maxRecDepth 20000 in
theorem ggX8_count_X6_bytesWritten : GoodIn wsX8_count wsX6_bytesWritten := goodIn_r _ [24, 25, 102, 103, 104, 105, 106] (by decide +kernel) (by decide +kernel)
set_option maxRecDepth 20000 in
theorem gX8_count_X6_bytesWritten : GoodIn wsX8_count (wsV RX8 168 RX6 yX6_bytesWritten wsX6_bytesWritten) := goodIn_app (goodIn_of _ (by decide +kernel)) ggX8_count_X6_bytesWritten
set_option maxRecDepth 20000 in
theorem ggX8_count_X6_failures : GoodIn wsX8_count wsX6_failures := goodIn_r _ [29, 30, 102, 103, 104, 105, 106] (by decide +kernel) (by decide +kernel)
set_option maxRecDepth 20000 in
theorem gX8_count_X6_failures : GoodIn wsX8_count (wsV RX8 171 RX6 yX6_failures wsX6_failures) := goodIn_app (goodIn_of _ (by decide +kernel)) ggX8_count_X6_failures
set_option maxRecDepth 20000 in
theorem ggX8_count_X8_countWithPower : GoodIn wsX8_count wsX8_countWithPower := goodIn_r _ [35, 2, 36, 37, 38, 39, 12, 40, 41, 42, 43, 44, 45, 46, 47, 48, 49, 14, 50, 51, 52, 53, 18, 54, 55, 56, 57, 58, 20, 59, 60, 61, 62, 63, 64, 65, 66, 67, 68, 69, 70, 71, 72, 73, 74, 75, 76, 77, 78, 79, 80, 81, 82, 83, 84, 85, 86, 87, 88, 89, 90, 91, 92, 93, 94, 95, 96, 97, 98, 99, 100, 101, 107, 108, 109, 110, 111, 112, 113, 114, 115, 116, 117, 118, 119, 120, 121, 122, 123, 124, 125, 126] (by decide +kernel) (by decide +kernel)
set_option maxRecDepth 20000 in
theorem gX8_count_X8_countWithPower : GoodIn wsX8_count (wsV RX8 174 RX8 yX8_countWithPower wsX8_countWithPower) := goodIn_app (goodIn_of _ (by decide +kernel)) ggX8_count_X8_countWithPower
theorem dX8_count_0 : decode cX8_count 0 = .ok (.iload_n 1, 1) := by decide +kernel
theorem dX8_count_1 : decode cX8_count 1 = .ok (.tableswitch 71 0 3 #[31, 47, 55, 63], 31) := by decide +kernel
theorem dX8_count_32 : decode cX8_count 32 = .ok (.aload_n 0, 1) := by decide +kernel
theorem dX8_count_33 : decode cX8_count 33 = .ok (.getfield 12, 3) := by decide +kernel
theorem dX8_count_36 : decode cX8_count 36 = .ok (.invokevirtual 83, 3) := by decide +kernel
theorem dX8_count_39 : decode cX8_count 39 = .ok (.ifCond .eq 7, 3) := by decide +kernel
theorem dX8_count_42 : decode cX8_count 42 = .ok (.iconst 1, 1) := by decide +kernel
theorem dX8_count_43 : decode cX8_count 43 = .ok (.goto 4, 3) := by decide +kernel
theorem dX8_count_46 : decode cX8_count 46 = .ok (.iconst 0, 1) := by decide +kernel
theorem dX8_count_47 : decode cX8_count 47 = .ok (.ireturn, 1) := by decide +kernel
theorem dX8_count_48 : decode cX8_count 48 = .ok (.aload_n 0, 1) := by decide +kernel
theorem dX8_count_49 : decode cX8_count 49 = .ok (.getfield 30, 3) := by decide +kernel
theorem dX8_count_52 : decode cX8_count 52 = .ok (.invokevirtual 165, 3) := by decide +kernel
theorem dX8_count_55 : decode cX8_count 55 = .ok (.ireturn, 1) := by decide +kernel
theorem dX8_count_56 : decode cX8_count 56 = .ok (.aload_n 0, 1) := by decide +kernel
theorem dX8_count_57 : decode cX8_count 57 = .ok (.getfield 12, 3) := by decide +kernel
theorem dX8_count_60 : decode cX8_count 60 = .ok (.invokevirtual 168, 3) := by decide +kernel
theorem dX8_count_63 : decode cX8_count 63 = .ok (.ireturn, 1) := by decide +kernel
theorem dX8_count_64 : decode cX8_count 64 = .ok (.aload_n 0, 1) := by decide +kernel
theorem dX8_count_65 : decode cX8_count 65 = .ok (.getfield 12, 3) := by decide +kernel
theorem dX8_count_68 : decode cX8_count 68 = .ok (.invokevirtual 171, 3) := by decide +kernel
theorem dX8_count_71 : decode cX8_count 71 = .ok (.ireturn, 1) := by decide +kernel
theorem dX8_count_72 : decode cX8_count 72 = .ok (.aload_n 0, 1) := by decide +kernel
theorem dX8_count_73 : decode cX8_count 73 = .ok (.getfield 12, 3) := by decide +kernel
theorem dX8_count_76 : decode cX8_count 76 = .ok (.invokevirtual 83, 3) := by decide +kernel
theorem dX8_count_79 : decode cX8_count 79 = .ok (.ifCond .eq 11, 3) := by decide +kernel
theorem dX8_count_82 : decode cX8_count 82 = .ok (.aload_n 0, 1) := by decide +kernel
theorem dX8_count_83 : decode cX8_count 83 = .ok (.iload_n 1, 1) := by decide +kernel
theorem dX8_count_84 : decode cX8_count 84 = .ok (.invokevirtual 174, 3) := by decide +kernel
theorem dX8_count_87 : decode cX8_count 87 = .ok (.goto 4, 3) := by decide +kernel
theorem dX8_count_90 : decode cX8_count 90 = .ok (.iconst (-1), 1) := by decide +kernel
theorem dX8_count_91 : decode cX8_count 91 = .ok (.ireturn, 1) := by decide +kernel
set_option maxRecDepth 20000 in
theorem ggX8_countWithPower_X3_bankInUse : GoodIn wsX8_countWithPower wsX3_bankInUse := goodIn_r _ [7, 8, 72, 73, 74, 75, 76, 77] (by decide +kernel) (by decide +kernel)
set_option maxRecDepth 20000 in
theorem gX8_countWithPower_X3_bankInUse : GoodIn wsX8_countWithPower (wsV RX8 177 RX3 yX3_bankInUse wsX3_bankInUse) := goodIn_app (goodIn_of _ (by decide +kernel)) ggX8_countWithPower_X3_bankInUse
set_option maxRecDepth 20000 in
theorem ggX8_countWithPower_X3_generation : GoodIn wsX8_countWithPower wsX3_generation := goodIn_r _ [12, 8, 13, 14, 15, 6, 16, 17, 18, 19, 20, 21, 22, 23, 24, 25, 26, 27, 28, 72, 73, 74, 75, 76, 77, 78] (by decide +kernel) (by decide +kernel)
set_option maxRecDepth 20000 in
theorem gX8_countWithPower_X3_generation : GoodIn wsX8_countWithPower (wsV RX8 180 RX3 yX3_generation wsX3_generation) := goodIn_app (goodIn_of _ (by decide +kernel)) ggX8_countWithPower_X3_generation
set_option maxRecDepth 20000 in
theorem ggX8_countWithPower_X3_end : GoodIn wsX8_countWithPower wsX3_end := goodIn_r _ [32, 33, 72, 73, 74, 75, 76, 77] (by decide +kernel) (by decide +kernel)
set_option maxRecDepth 20000 in
theorem gX8_countWithPower_X3_end : GoodIn wsX8_countWithPower (wsV RX8 183 RX3 yX3_end wsX3_end) := goodIn_app (goodIn_of _ (by decide +kernel)) ggX8_countWithPower_X3_end
set_option maxRecDepth 20000 in
theorem ggX8_countWithPower_X7_sampleCount : GoodIn wsX8_countWithPower wsX7_sampleCount := goodIn_r _ [38, 39, 79, 80, 81, 82, 83, 84, 85] (by decide +kernel) (by decide +kernel)
set_option maxRecDepth 20000 in
theorem gX8_countWithPower_X7_sampleCount : GoodIn wsX8_countWithPower (wsV RX8 64 RX7 yX7_sampleCount wsX7_sampleCount) := goodIn_app (goodIn_of _ (by decide +kernel)) ggX8_countWithPower_X7_sampleCount
set_option maxRecDepth 20000 in
theorem ggX8_countWithPower_X7_liveCount : GoodIn wsX8_countWithPower wsX7_liveCount := goodIn_r _ [43, 39, 44, 45, 46, 37, 47, 48, 49, 50, 51, 52, 53, 54, 55, 56, 79, 80, 81, 82, 83, 84, 85] (by decide +kernel) (by decide +kernel)
set_option maxRecDepth 20000 in
theorem gX8_countWithPower_X7_liveCount : GoodIn wsX8_countWithPower (wsV RX8 186 RX7 yX7_liveCount wsX7_liveCount) := goodIn_app (goodIn_of _ (by decide +kernel)) ggX8_countWithPower_X7_liveCount
set_option maxRecDepth 20000 in
theorem ggX8_countWithPower_X7_pastActs : GoodIn wsX8_countWithPower wsX7_pastActs := goodIn_r _ [60, 61, 62, 63, 64, 65, 66, 67, 79, 80, 81, 82, 83, 84, 85, 86, 87, 88, 89, 90, 91] (by decide +kernel) (by decide +kernel)
set_option maxRecDepth 20000 in
theorem gX8_countWithPower_X7_pastActs : GoodIn wsX8_countWithPower (wsV RX8 87 RX7 yX7_pastActs wsX7_pastActs) := goodIn_app (goodIn_of _ (by decide +kernel)) ggX8_countWithPower_X7_pastActs
theorem dX8_countWithPower_0 : decode cX8_countWithPower 0 = .ok (.iload_n 1, 1) := by decide +kernel
theorem dX8_countWithPower_1 : decode cX8_countWithPower 1 = .ok (.tableswitch 87 4 9 #[39, 47, 55, 63, 71, 79], 39) := by decide +kernel
theorem dX8_countWithPower_40 : decode cX8_countWithPower 40 = .ok (.aload_n 0, 1) := by decide +kernel
theorem dX8_countWithPower_41 : decode cX8_countWithPower 41 = .ok (.getfield 30, 3) := by decide +kernel
theorem dX8_countWithPower_44 : decode cX8_countWithPower 44 = .ok (.invokevirtual 177, 3) := by decide +kernel
theorem dX8_countWithPower_47 : decode cX8_countWithPower 47 = .ok (.ireturn, 1) := by decide +kernel
theorem dX8_countWithPower_48 : decode cX8_countWithPower 48 = .ok (.aload_n 0, 1) := by decide +kernel
theorem dX8_countWithPower_49 : decode cX8_countWithPower 49 = .ok (.getfield 30, 3) := by decide +kernel
theorem dX8_countWithPower_52 : decode cX8_countWithPower 52 = .ok (.invokevirtual 180, 3) := by decide +kernel
theorem dX8_countWithPower_55 : decode cX8_countWithPower 55 = .ok (.ireturn, 1) := by decide +kernel
theorem dX8_countWithPower_56 : decode cX8_countWithPower 56 = .ok (.aload_n 0, 1) := by decide +kernel
theorem dX8_countWithPower_57 : decode cX8_countWithPower 57 = .ok (.getfield 30, 3) := by decide +kernel
theorem dX8_countWithPower_60 : decode cX8_countWithPower 60 = .ok (.invokevirtual 183, 3) := by decide +kernel
theorem dX8_countWithPower_63 : decode cX8_countWithPower 63 = .ok (.ireturn, 1) := by decide +kernel
theorem dX8_countWithPower_64 : decode cX8_countWithPower 64 = .ok (.aload_n 0, 1) := by decide +kernel
theorem dX8_countWithPower_65 : decode cX8_countWithPower 65 = .ok (.getfield 37, 3) := by decide +kernel
theorem dX8_countWithPower_68 : decode cX8_countWithPower 68 = .ok (.invokevirtual 64, 3) := by decide +kernel
theorem dX8_countWithPower_71 : decode cX8_countWithPower 71 = .ok (.ireturn, 1) := by decide +kernel
theorem dX8_countWithPower_72 : decode cX8_countWithPower 72 = .ok (.aload_n 0, 1) := by decide +kernel
theorem dX8_countWithPower_73 : decode cX8_countWithPower 73 = .ok (.getfield 37, 3) := by decide +kernel
theorem dX8_countWithPower_76 : decode cX8_countWithPower 76 = .ok (.invokevirtual 186, 3) := by decide +kernel
theorem dX8_countWithPower_79 : decode cX8_countWithPower 79 = .ok (.ireturn, 1) := by decide +kernel
theorem dX8_countWithPower_80 : decode cX8_countWithPower 80 = .ok (.aload_n 0, 1) := by decide +kernel
theorem dX8_countWithPower_81 : decode cX8_countWithPower 81 = .ok (.getfield 37, 3) := by decide +kernel
theorem dX8_countWithPower_84 : decode cX8_countWithPower 84 = .ok (.invokevirtual 87, 3) := by decide +kernel
theorem dX8_countWithPower_87 : decode cX8_countWithPower 87 = .ok (.ireturn, 1) := by decide +kernel
theorem dX8_countWithPower_88 : decode cX8_countWithPower 88 = .ok (.iconst (-1), 1) := by decide +kernel
theorem dX8_countWithPower_89 : decode cX8_countWithPower 89 = .ok (.ireturn, 1) := by decide +kernel
set_option maxRecDepth 20000 in
theorem ggX8_refusalOfNewSample_X8_refusalOfWell : GoodIn wsX8_refusalOfNewSample wsX8_refusalOfWell := goodIn_r _ [7, 8, 1, 2, 9, 10, 11, 12, 13, 14, 15, 16, 6, 17, 18, 19, 20, 21, 22, 23, 24, 25, 26, 27, 28, 29, 30, 31, 32, 77, 78, 79, 80, 81, 82, 83, 84, 85, 86, 87, 88, 89, 90, 91, 92, 93, 94, 95, 96] (by decide +kernel) (by decide +kernel)
set_option maxRecDepth 20000 in
theorem gX8_refusalOfNewSample_X8_refusalOfWell : GoodIn wsX8_refusalOfNewSample (wsV RX8 76 RX8 yX8_refusalOfWell wsX8_refusalOfWell) := goodIn_app (goodIn_of _ (by decide +kernel)) ggX8_refusalOfNewSample_X8_refusalOfWell
set_option maxRecDepth 20000 in
theorem ggX8_refusalOfNewSample_X7_isFull : GoodIn wsX8_refusalOfNewSample wsX7_isFull := goodIn_r _ [36, 23, 90, 91, 92, 93, 94, 95, 96] (by decide +kernel) (by decide +kernel)
set_option maxRecDepth 20000 in
theorem gX8_refusalOfNewSample_X7_isFull : GoodIn wsX8_refusalOfNewSample (wsV RX8 193 RX7 yX7_isFull wsX7_isFull) := goodIn_app (goodIn_of _ (by decide +kernel)) ggX8_refusalOfNewSample_X7_isFull
set_option maxRecDepth 20000 in
theorem ggX8_refusalOfNewSample_X8_refusalOfRoom : GoodIn wsX8_refusalOfNewSample wsX8_refusalOfRoom := goodIn_r _ [40, 41, 1, 42, 43, 44, 45, 46, 47, 48, 49, 50, 51, 52, 53, 54, 55, 56, 57, 58, 59, 60, 61, 62, 63, 64, 65, 66, 67, 68, 69, 70, 71, 72, 73, 74, 75, 76, 77, 78, 79, 80, 97, 98, 99, 100, 101, 102, 81, 82, 83, 84, 103] (by decide +kernel) (by decide +kernel)
set_option maxRecDepth 20000 in
theorem gX8_refusalOfNewSample_X8_refusalOfRoom : GoodIn wsX8_refusalOfNewSample (wsV RX8 80 RX8 yX8_refusalOfRoom wsX8_refusalOfRoom) := goodIn_app (goodIn_of _ (by decide +kernel)) ggX8_refusalOfNewSample_X8_refusalOfRoom
theorem dX8_refusalOfNewSample_0 : decode cX8_refusalOfNewSample 0 = .ok (.aload_n 0, 1) := by decide +kernel
theorem dX8_refusalOfNewSample_1 : decode cX8_refusalOfNewSample 1 = .ok (.iload_n 1, 1) := by decide +kernel
theorem dX8_refusalOfNewSample_2 : decode cX8_refusalOfNewSample 2 = .ok (.invokevirtual 76, 3) := by decide +kernel
theorem dX8_refusalOfNewSample_5 : decode cX8_refusalOfNewSample 5 = .ok (.istore 4, 2) := by decide +kernel
theorem dX8_refusalOfNewSample_7 : decode cX8_refusalOfNewSample 7 = .ok (.iload 4, 2) := by decide +kernel
theorem dX8_refusalOfNewSample_9 : decode cX8_refusalOfNewSample 9 = .ok (.ifCond .eq 6, 3) := by decide +kernel
theorem dX8_refusalOfNewSample_12 : decode cX8_refusalOfNewSample 12 = .ok (.iload 4, 2) := by decide +kernel
theorem dX8_refusalOfNewSample_14 : decode cX8_refusalOfNewSample 14 = .ok (.ireturn, 1) := by decide +kernel
theorem dX8_refusalOfNewSample_15 : decode cX8_refusalOfNewSample 15 = .ok (.aload_n 0, 1) := by decide +kernel
theorem dX8_refusalOfNewSample_16 : decode cX8_refusalOfNewSample 16 = .ok (.getfield 44, 3) := by decide +kernel
theorem dX8_refusalOfNewSample_19 : decode cX8_refusalOfNewSample 19 = .ok (.getfield 189, 3) := by decide +kernel
theorem dX8_refusalOfNewSample_22 : decode cX8_refusalOfNewSample 22 = .ok (.lconst 1, 1) := by decide +kernel
theorem dX8_refusalOfNewSample_23 : decode cX8_refusalOfNewSample 23 = .ok (.lcmp, 1) := by decide +kernel
theorem dX8_refusalOfNewSample_24 : decode cX8_refusalOfNewSample 24 = .ok (.ifCond .lt 15, 3) := by decide +kernel
theorem dX8_refusalOfNewSample_27 : decode cX8_refusalOfNewSample 27 = .ok (.aload_n 0, 1) := by decide +kernel
theorem dX8_refusalOfNewSample_28 : decode cX8_refusalOfNewSample 28 = .ok (.getfield 44, 3) := by decide +kernel
theorem dX8_refusalOfNewSample_31 : decode cX8_refusalOfNewSample 31 = .ok (.getfield 189, 3) := by decide +kernel
theorem dX8_refusalOfNewSample_34 : decode cX8_refusalOfNewSample 34 = .ok (.lload_n 2, 1) := by decide +kernel
theorem dX8_refusalOfNewSample_35 : decode cX8_refusalOfNewSample 35 = .ok (.lcmp, 1) := by decide +kernel
theorem dX8_refusalOfNewSample_36 : decode cX8_refusalOfNewSample 36 = .ok (.ifCond .le 6, 3) := by decide +kernel
theorem dX8_refusalOfNewSample_39 : decode cX8_refusalOfNewSample 39 = .ok (.bipush (-4), 2) := by decide +kernel
theorem dX8_refusalOfNewSample_41 : decode cX8_refusalOfNewSample 41 = .ok (.ireturn, 1) := by decide +kernel
theorem dX8_refusalOfNewSample_42 : decode cX8_refusalOfNewSample 42 = .ok (.aload_n 0, 1) := by decide +kernel
theorem dX8_refusalOfNewSample_43 : decode cX8_refusalOfNewSample 43 = .ok (.getfield 37, 3) := by decide +kernel
theorem dX8_refusalOfNewSample_46 : decode cX8_refusalOfNewSample 46 = .ok (.invokevirtual 193, 3) := by decide +kernel
theorem dX8_refusalOfNewSample_49 : decode cX8_refusalOfNewSample 49 = .ok (.ifCond .eq 6, 3) := by decide +kernel
theorem dX8_refusalOfNewSample_52 : decode cX8_refusalOfNewSample 52 = .ok (.bipush (-5), 2) := by decide +kernel
theorem dX8_refusalOfNewSample_54 : decode cX8_refusalOfNewSample 54 = .ok (.ireturn, 1) := by decide +kernel
theorem dX8_refusalOfNewSample_55 : decode cX8_refusalOfNewSample 55 = .ok (.aload_n 0, 1) := by decide +kernel
theorem dX8_refusalOfNewSample_56 : decode cX8_refusalOfNewSample 56 = .ok (.invokevirtual 80, 3) := by decide +kernel
theorem dX8_refusalOfNewSample_59 : decode cX8_refusalOfNewSample 59 = .ok (.ireturn, 1) := by decide +kernel
set_option maxRecDepth 20000 in
theorem ggX8_refusalOfWell_X6_isUp : GoodIn wsX8_refusalOfWell wsX6_isUp := goodIn_r _ [8, 9, 37, 38, 39, 40, 41] (by decide +kernel) (by decide +kernel)
set_option maxRecDepth 20000 in
theorem gX8_refusalOfWell_X6_isUp : GoodIn wsX8_refusalOfWell (wsV RX8 83 RX6 yX6_isUp wsX6_isUp) := goodIn_app (goodIn_of _ (by decide +kernel)) ggX8_refusalOfWell_X6_isUp
set_option maxRecDepth 20000 in
theorem ggX8_refusalOfWell_X8_isWell : GoodIn wsX8_refusalOfWell wsX8_isWell := goodIn_r _ [13] (by decide +kernel) (by decide +kernel)
set_option maxRecDepth 20000 in
theorem gX8_refusalOfWell_X8_isWell : GoodIn wsX8_refusalOfWell (va_wsS RX8 200 yX8_isWell wsX8_isWell) := goodIn_app (goodIn_of _ (by decide +kernel)) ggX8_refusalOfWell_X8_isWell
set_option maxRecDepth 20000 in
theorem ggX8_refusalOfWell_X7_sampleIn : GoodIn wsX8_refusalOfWell wsX7_sampleIn := goodIn_r _ [18, 19, 11, 12, 13, 20, 21, 22, 17, 23, 24, 25, 26, 27, 28, 42, 43, 44, 45, 46, 47, 48] (by decide +kernel) (by decide +kernel)
set_option maxRecDepth 20000 in
theorem gX8_refusalOfWell_X7_sampleIn : GoodIn wsX8_refusalOfWell (wsV RX8 153 RX7 yX7_sampleIn wsX7_sampleIn) := goodIn_app (goodIn_of _ (by decide +kernel)) ggX8_refusalOfWell_X7_sampleIn
theorem dX8_refusalOfWell_0 : decode cX8_refusalOfWell 0 = .ok (.aload_n 0, 1) := by decide +kernel
theorem dX8_refusalOfWell_1 : decode cX8_refusalOfWell 1 = .ok (.getfield 12, 3) := by decide +kernel
theorem dX8_refusalOfWell_4 : decode cX8_refusalOfWell 4 = .ok (.invokevirtual 83, 3) := by decide +kernel
theorem dX8_refusalOfWell_7 : decode cX8_refusalOfWell 7 = .ok (.ifCond .ne 5, 3) := by decide +kernel
theorem dX8_refusalOfWell_10 : decode cX8_refusalOfWell 10 = .ok (.iconst (-1), 1) := by decide +kernel
theorem dX8_refusalOfWell_11 : decode cX8_refusalOfWell 11 = .ok (.ireturn, 1) := by decide +kernel
theorem dX8_refusalOfWell_12 : decode cX8_refusalOfWell 12 = .ok (.iload_n 1, 1) := by decide +kernel
theorem dX8_refusalOfWell_13 : decode cX8_refusalOfWell 13 = .ok (.ifCond .eq 16, 3) := by decide +kernel
theorem dX8_refusalOfWell_16 : decode cX8_refusalOfWell 16 = .ok (.aload_n 0, 1) := by decide +kernel
theorem dX8_refusalOfWell_17 : decode cX8_refusalOfWell 17 = .ok (.getfield 44, 3) := by decide +kernel
theorem dX8_refusalOfWell_20 : decode cX8_refusalOfWell 20 = .ok (.getfield 196, 3) := by decide +kernel
theorem dX8_refusalOfWell_23 : decode cX8_refusalOfWell 23 = .ok (.invokestatic 200, 3) := by decide +kernel
theorem dX8_refusalOfWell_26 : decode cX8_refusalOfWell 26 = .ok (.ifCond .ne 6, 3) := by decide +kernel
theorem dX8_refusalOfWell_29 : decode cX8_refusalOfWell 29 = .ok (.bipush (-2), 2) := by decide +kernel
theorem dX8_refusalOfWell_31 : decode cX8_refusalOfWell 31 = .ok (.ireturn, 1) := by decide +kernel
theorem dX8_refusalOfWell_32 : decode cX8_refusalOfWell 32 = .ok (.aload_n 0, 1) := by decide +kernel
theorem dX8_refusalOfWell_33 : decode cX8_refusalOfWell 33 = .ok (.getfield 37, 3) := by decide +kernel
theorem dX8_refusalOfWell_36 : decode cX8_refusalOfWell 36 = .ok (.aload_n 0, 1) := by decide +kernel
theorem dX8_refusalOfWell_37 : decode cX8_refusalOfWell 37 = .ok (.getfield 44, 3) := by decide +kernel
theorem dX8_refusalOfWell_40 : decode cX8_refusalOfWell 40 = .ok (.getfield 196, 3) := by decide +kernel
theorem dX8_refusalOfWell_43 : decode cX8_refusalOfWell 43 = .ok (.invokevirtual 153, 3) := by decide +kernel
theorem dX8_refusalOfWell_46 : decode cX8_refusalOfWell 46 = .ok (.iconst (-1), 1) := by decide +kernel
theorem dX8_refusalOfWell_47 : decode cX8_refusalOfWell 47 = .ok (.if_icmp .eq 8, 3) := by decide +kernel
theorem dX8_refusalOfWell_50 : decode cX8_refusalOfWell 50 = .ok (.bipush (-3), 2) := by decide +kernel
theorem dX8_refusalOfWell_52 : decode cX8_refusalOfWell 52 = .ok (.goto 4, 3) := by decide +kernel
theorem dX8_refusalOfWell_55 : decode cX8_refusalOfWell 55 = .ok (.iconst 0, 1) := by decide +kernel
theorem dX8_refusalOfWell_56 : decode cX8_refusalOfWell 56 = .ok (.ireturn, 1) := by decide +kernel
set_option maxRecDepth 20000 in
theorem ggX8_refusalOfRoom_X3_hasRoomFor : GoodIn wsX8_refusalOfRoom wsX3_hasRoomFor := goodIn_r _ [7, 8, 9, 10, 11, 12, 13, 14, 15, 16, 17, 18, 19, 20, 21, 22, 23, 24, 25, 26, 27, 28, 29, 6, 30, 31, 32, 33, 34, 35, 36, 37, 42, 43, 44, 45, 46, 47, 48, 49, 50, 51, 52] (by decide +kernel) (by decide +kernel)
set_option maxRecDepth 20000 in
theorem gX8_refusalOfRoom_X3_hasRoomFor : GoodIn wsX8_refusalOfRoom (wsV RX8 203 RX3 yX3_hasRoomFor wsX3_hasRoomFor) := goodIn_app (goodIn_of _ (by decide +kernel)) ggX8_refusalOfRoom_X3_hasRoomFor
theorem dX8_refusalOfRoom_0 : decode cX8_refusalOfRoom 0 = .ok (.aload_n 0, 1) := by decide +kernel
theorem dX8_refusalOfRoom_1 : decode cX8_refusalOfRoom 1 = .ok (.getfield 30, 3) := by decide +kernel
theorem dX8_refusalOfRoom_4 : decode cX8_refusalOfRoom 4 = .ok (.aload_n 0, 1) := by decide +kernel
theorem dX8_refusalOfRoom_5 : decode cX8_refusalOfRoom 5 = .ok (.getfield 44, 3) := by decide +kernel
theorem dX8_refusalOfRoom_8 : decode cX8_refusalOfRoom 8 = .ok (.invokevirtual 203, 3) := by decide +kernel
theorem dX8_refusalOfRoom_11 : decode cX8_refusalOfRoom 11 = .ok (.ifCond .eq 7, 3) := by decide +kernel
theorem dX8_refusalOfRoom_14 : decode cX8_refusalOfRoom 14 = .ok (.iconst 0, 1) := by decide +kernel
theorem dX8_refusalOfRoom_15 : decode cX8_refusalOfRoom 15 = .ok (.goto 5, 3) := by decide +kernel
theorem dX8_refusalOfRoom_18 : decode cX8_refusalOfRoom 18 = .ok (.bipush (-6), 2) := by decide +kernel
theorem dX8_refusalOfRoom_20 : decode cX8_refusalOfRoom 20 = .ok (.ireturn, 1) := by decide +kernel
set_option maxRecDepth 20000 in
theorem ggX8_carryOut_X3_append : GoodIn wsX8_carryOut wsX3_append := goodIn_r _ [8, 9, 10, 11, 12, 13, 14, 15, 7, 16, 17, 18, 19, 20, 21, 22, 23, 24, 25, 26, 27, 28, 29, 30, 31, 32, 33, 34, 35, 36, 37, 38, 39, 40, 41, 42, 43, 44, 45, 46, 47, 48, 49, 50, 51, 52, 53, 54, 55, 56, 57, 58, 59, 60, 61, 62, 63, 64, 65, 66, 67, 68, 69, 70, 71, 72, 73, 74, 75, 76, 77, 78, 79, 80, 81, 82, 83, 84, 85, 86, 87, 88, 89, 90, 91, 92, 192, 193, 194, 195, 196, 197, 198, 199, 200, 201, 202, 203, 204, 205, 206, 207, 208, 209, 210, 211] (by decide +kernel) (by decide +kernel)
set_option maxRecDepth 20000 in
theorem gX8_carryOut_X3_append : GoodIn wsX8_carryOut (wsV RX8 206 RX3 yX3_append wsX3_append) := goodIn_app (goodIn_of _ (by decide +kernel)) ggX8_carryOut_X3_append
set_option maxRecDepth 20000 in
theorem ggX8_carryOut_X7_apply : GoodIn wsX8_carryOut wsX7_apply := goodIn_r _ [97, 98, 99, 100, 101, 96, 102, 103, 104, 105, 106, 107, 108, 109, 110, 111, 112, 113, 114, 115, 116, 117, 118, 119, 120, 121, 122, 123, 124, 125, 126, 127, 128, 129, 130, 131, 132, 133, 134, 135, 136, 137, 138, 139, 140, 141, 142, 143, 144, 145, 146, 147, 148, 149, 150, 151, 152, 153, 154, 155, 156, 157, 158, 159, 160, 161, 162, 163, 164, 165, 166, 167, 168, 169, 170, 171, 172, 173, 174, 175, 176, 177, 178, 179, 180, 181, 182, 183, 184, 185, 186, 187, 202, 203, 204, 205, 212, 213, 214, 215, 216, 217, 218, 219, 220, 221, 222, 223, 224] (by decide +kernel) (by decide +kernel)
set_option maxRecDepth 20000 in
theorem gX8_carryOut_X7_apply : GoodIn wsX8_carryOut (wsV RX8 117 RX7 yX7_apply wsX7_apply) := goodIn_app (goodIn_of _ (by decide +kernel)) ggX8_carryOut_X7_apply
theorem dX8_carryOut_0 : decode cX8_carryOut 0 = .ok (.iload_n 1, 1) := by decide +kernel
theorem dX8_carryOut_1 : decode cX8_carryOut 1 = .ok (.ifCond .eq 5, 3) := by decide +kernel
theorem dX8_carryOut_4 : decode cX8_carryOut 4 = .ok (.iload_n 1, 1) := by decide +kernel
theorem dX8_carryOut_5 : decode cX8_carryOut 5 = .ok (.ireturn, 1) := by decide +kernel
theorem dX8_carryOut_6 : decode cX8_carryOut 6 = .ok (.aload_n 0, 1) := by decide +kernel
theorem dX8_carryOut_7 : decode cX8_carryOut 7 = .ok (.getfield 30, 3) := by decide +kernel
theorem dX8_carryOut_10 : decode cX8_carryOut 10 = .ok (.aload_n 0, 1) := by decide +kernel
theorem dX8_carryOut_11 : decode cX8_carryOut 11 = .ok (.getfield 44, 3) := by decide +kernel
theorem dX8_carryOut_14 : decode cX8_carryOut 14 = .ok (.invokevirtual 206, 3) := by decide +kernel
theorem dX8_carryOut_17 : decode cX8_carryOut 17 = .ok (.ifCond .ne 5, 3) := by decide +kernel
theorem dX8_carryOut_20 : decode cX8_carryOut 20 = .ok (.iconst (-1), 1) := by decide +kernel
theorem dX8_carryOut_21 : decode cX8_carryOut 21 = .ok (.ireturn, 1) := by decide +kernel
theorem dX8_carryOut_22 : decode cX8_carryOut 22 = .ok (.aload_n 0, 1) := by decide +kernel
theorem dX8_carryOut_23 : decode cX8_carryOut 23 = .ok (.getfield 37, 3) := by decide +kernel
theorem dX8_carryOut_26 : decode cX8_carryOut 26 = .ok (.aload_n 0, 1) := by decide +kernel
theorem dX8_carryOut_27 : decode cX8_carryOut 27 = .ok (.getfield 44, 3) := by decide +kernel
theorem dX8_carryOut_30 : decode cX8_carryOut 30 = .ok (.invokevirtual 117, 3) := by decide +kernel
theorem dX8_carryOut_33 : decode cX8_carryOut 33 = .ok (.iconst 0, 1) := by decide +kernel
theorem dX8_carryOut_34 : decode cX8_carryOut 34 = .ok (.ireturn, 1) := by decide +kernel
theorem dX8_isWell_0 : decode cX8_isWell 0 = .ok (.iload_n 0, 1) := by decide +kernel
theorem dX8_isWell_1 : decode cX8_isWell 1 = .ok (.ifCond .lt 13, 3) := by decide +kernel
theorem dX8_isWell_4 : decode cX8_isWell 4 = .ok (.iload_n 0, 1) := by decide +kernel
theorem dX8_isWell_5 : decode cX8_isWell 5 = .ok (.bipush 48, 2) := by decide +kernel
theorem dX8_isWell_7 : decode cX8_isWell 7 = .ok (.if_icmp .ge 7, 3) := by decide +kernel
theorem dX8_isWell_10 : decode cX8_isWell 10 = .ok (.iconst 1, 1) := by decide +kernel
theorem dX8_isWell_11 : decode cX8_isWell 11 = .ok (.goto 4, 3) := by decide +kernel
theorem dX8_isWell_14 : decode cX8_isWell 14 = .ok (.iconst 0, 1) := by decide +kernel
theorem dX8_isWell_15 : decode cX8_isWell 15 = .ok (.ireturn, 1) := by decide +kernel
set_option maxRecDepth 20000 in
theorem ggX9_init_X9_u4 : GoodIn wsX9_init wsX9_u4 := goodIn_r _ [23, 24, 25, 26, 22, 27, 28, 29, 30, 31, 13, 18, 61, 62, 63, 64, 65, 66, 67, 68, 69, 70, 71, 72, 73, 74, 75, 76, 77, 78, 79, 80] (by decide +kernel) (by decide +kernel)
set_option maxRecDepth 20000 in
theorem gX9_init_X9_u4 : GoodIn wsX9_init (wsV RX9 46 RX9 yX9_u4 wsX9_u4) := goodIn_app (goodIn_of _ (by decide +kernel)) ggX9_init_X9_u4
set_option maxRecDepth 20000 in
theorem ggX9_init_X9_crc : GoodIn wsX9_init wsX9_crc := goodIn_r _ [34, 35] (by decide +kernel) (by decide +kernel)
set_option maxRecDepth 20000 in
theorem gX9_init_X9_crc : GoodIn wsX9_init (va_wsS RX9 50 yX9_crc wsX9_crc) := goodIn_app (goodIn_of _ (by decide +kernel)) ggX9_init_X9_crc
set_option maxRecDepth 20000 in
theorem ggX9_init_X9_u1 : GoodIn wsX9_init wsX9_u1 := goodIn_r _ [31, 13, 18, 61, 62, 63, 64, 65, 66, 67, 68, 69, 70, 71, 72, 73, 74, 75, 76, 77, 78, 79, 80] (by decide +kernel) (by decide +kernel)
set_option maxRecDepth 20000 in
theorem gX9_init_X9_u1 : GoodIn wsX9_init (wsV RX9 54 RX9 yX9_u1 wsX9_u1) := goodIn_app (goodIn_of _ (by decide +kernel)) ggX9_init_X9_u1
set_option maxRecDepth 20000 in
theorem ggX9_init_X9_reads : GoodIn wsX9_init wsX9_reads := goodIn_r _ [39, 17, 40, 41, 42, 14, 43, 44, 45, 46, 47, 48, 22, 49, 15, 50, 51, 52, 32, 33, 34, 35, 53, 54, 55, 56, 11, 7, 9, 57, 58, 59, 60, 6, 61, 62, 63, 64, 65, 66, 67, 68, 69, 70, 71, 72, 73, 74, 75, 76, 77, 78, 79, 80] (by decide +kernel) (by decide +kernel)
set_option maxRecDepth 20000 in
theorem gX9_init_X9_reads : GoodIn wsX9_init (wsV RX9 57 RX9 yX9_reads wsX9_reads) := goodIn_app (goodIn_of _ (by decide +kernel)) ggX9_init_X9_reads
theorem dX9_init_0 : decode cX9_init 0 = .ok (.aload_n 0, 1) := by decide +kernel
theorem dX9_init_1 : decode cX9_init 1 = .ok (.invokespecial 1, 3) := by decide +kernel
theorem dX9_init_4 : decode cX9_init 4 = .ok (.aload_n 0, 1) := by decide +kernel
theorem dX9_init_5 : decode cX9_init 5 = .ok (.iconst (-1), 1) := by decide +kernel
theorem dX9_init_6 : decode cX9_init 6 = .ok (.putfield 9, 3) := by decide +kernel
theorem dX9_init_9 : decode cX9_init 9 = .ok (.aload_n 0, 1) := by decide +kernel
theorem dX9_init_10 : decode cX9_init 10 = .ok (.bipush 121, 2) := by decide +kernel
theorem dX9_init_12 : decode cX9_init 12 = .ok (.newarray .int, 2) := by decide +kernel
theorem dX9_init_14 : decode cX9_init 14 = .ok (.putfield 13, 3) := by decide +kernel
theorem dX9_init_17 : decode cX9_init 17 = .ok (.aload_n 0, 1) := by decide +kernel
theorem dX9_init_18 : decode cX9_init 18 = .ok (.bipush 121, 2) := by decide +kernel
theorem dX9_init_20 : decode cX9_init 20 = .ok (.newarray .int, 2) := by decide +kernel
theorem dX9_init_22 : decode cX9_init 22 = .ok (.putfield 17, 3) := by decide +kernel
theorem dX9_init_25 : decode cX9_init 25 = .ok (.aload_n 0, 1) := by decide +kernel
theorem dX9_init_26 : decode cX9_init 26 = .ok (.bipush 121, 2) := by decide +kernel
theorem dX9_init_28 : decode cX9_init 28 = .ok (.newarray .boolean, 2) := by decide +kernel
theorem dX9_init_30 : decode cX9_init 30 = .ok (.putfield 20, 3) := by decide +kernel
theorem dX9_init_33 : decode cX9_init 33 = .ok (.aload_n 0, 1) := by decide +kernel
theorem dX9_init_34 : decode cX9_init 34 = .ok (.bipush 121, 2) := by decide +kernel
theorem dX9_init_36 : decode cX9_init 36 = .ok (.newarray .long, 2) := by decide +kernel
theorem dX9_init_38 : decode cX9_init 38 = .ok (.putfield 24, 3) := by decide +kernel
theorem dX9_init_41 : decode cX9_init 41 = .ok (.aload_n 0, 1) := by decide +kernel
theorem dX9_init_42 : decode cX9_init 42 = .ok (.bipush 32, 2) := by decide +kernel
theorem dX9_init_44 : decode cX9_init 44 = .ok (.newarray .byte, 2) := by decide +kernel
theorem dX9_init_46 : decode cX9_init 46 = .ok (.putfield 28, 3) := by decide +kernel
theorem dX9_init_49 : decode cX9_init 49 = .ok (.aload_n 0, 1) := by decide +kernel
theorem dX9_init_50 : decode cX9_init 50 = .ok (.sipush 260, 3) := by decide +kernel
theorem dX9_init_53 : decode cX9_init 53 = .ok (.newarray .int, 2) := by decide +kernel
theorem dX9_init_55 : decode cX9_init 55 = .ok (.putfield 32, 3) := by decide +kernel
theorem dX9_init_58 : decode cX9_init 58 = .ok (.aload_n 0, 1) := by decide +kernel
theorem dX9_init_59 : decode cX9_init 59 = .ok (.iload_n 1, 1) := by decide +kernel
theorem dX9_init_60 : decode cX9_init 60 = .ok (.bipush 64, 2) := by decide +kernel
theorem dX9_init_62 : decode cX9_init 62 = .ok (.if_icmp .ge 8, 3) := by decide +kernel
theorem dX9_init_65 : decode cX9_init 65 = .ok (.bipush 64, 2) := by decide +kernel
theorem dX9_init_67 : decode cX9_init 67 = .ok (.goto 17, 3) := by decide +kernel
theorem dX9_init_70 : decode cX9_init 70 = .ok (.iload_n 1, 1) := by decide +kernel
theorem dX9_init_71 : decode cX9_init 71 = .ok (.sipush 2048, 3) := by decide +kernel
theorem dX9_init_74 : decode cX9_init 74 = .ok (.if_icmp .le 9, 3) := by decide +kernel
theorem dX9_init_77 : decode cX9_init 77 = .ok (.sipush 2048, 3) := by decide +kernel
theorem dX9_init_80 : decode cX9_init 80 = .ok (.goto 4, 3) := by decide +kernel
theorem dX9_init_83 : decode cX9_init 83 = .ok (.iload_n 1, 1) := by decide +kernel
theorem dX9_init_84 : decode cX9_init 84 = .ok (.putfield 35, 3) := by decide +kernel
theorem dX9_init_87 : decode cX9_init 87 = .ok (.aload_n 0, 1) := by decide +kernel
theorem dX9_init_88 : decode cX9_init 88 = .ok (.iconst 2, 1) := by decide +kernel
theorem dX9_init_89 : decode cX9_init 89 = .ok (.aload_n 0, 1) := by decide +kernel
theorem dX9_init_90 : decode cX9_init 90 = .ok (.getfield 35, 3) := by decide +kernel
theorem dX9_init_93 : decode cX9_init 93 = .ok (.multianewarray 38 2, 4) := by decide +kernel
theorem dX9_init_97 : decode cX9_init 97 = .ok (.putfield 40, 3) := by decide +kernel
theorem dX9_init_100 : decode cX9_init 100 = .ok (.aload_n 0, 1) := by decide +kernel
theorem dX9_init_101 : decode cX9_init 101 = .ok (.iconst 0, 1) := by decide +kernel
theorem dX9_init_102 : decode cX9_init 102 = .ok (.putfield 43, 3) := by decide +kernel
theorem dX9_init_105 : decode cX9_init 105 = .ok (.aload_n 0, 1) := by decide +kernel
theorem dX9_init_106 : decode cX9_init 106 = .ok (.iconst 1, 1) := by decide +kernel
theorem dX9_init_107 : decode cX9_init 107 = .ok (.invokevirtual 46, 3) := by decide +kernel
theorem dX9_init_110 : decode cX9_init 110 = .ok (.aload_n 0, 1) := by decide +kernel
theorem dX9_init_111 : decode cX9_init 111 = .ok (.aload_n 0, 1) := by decide +kernel
theorem dX9_init_112 : decode cX9_init 112 = .ok (.getfield 28, 3) := by decide +kernel
theorem dX9_init_115 : decode cX9_init 115 = .ok (.iconst 0, 1) := by decide +kernel
theorem dX9_init_116 : decode cX9_init 116 = .ok (.iconst 4, 1) := by decide +kernel
theorem dX9_init_117 : decode cX9_init 117 = .ok (.invokestatic 50, 3) := by decide +kernel
theorem dX9_init_120 : decode cX9_init 120 = .ok (.invokevirtual 46, 3) := by decide +kernel
theorem dX9_init_123 : decode cX9_init 123 = .ok (.aload_n 0, 1) := by decide +kernel
theorem dX9_init_124 : decode cX9_init 124 = .ok (.sipush 165, 3) := by decide +kernel
theorem dX9_init_127 : decode cX9_init 127 = .ok (.invokevirtual 54, 3) := by decide +kernel
theorem dX9_init_130 : decode cX9_init 130 = .ok (.iconst 0, 1) := by decide +kernel
theorem dX9_init_131 : decode cX9_init 131 = .ok (.istore_n 2, 1) := by decide +kernel
theorem dX9_init_132 : decode cX9_init 132 = .ok (.iload_n 2, 1) := by decide +kernel
theorem dX9_init_133 : decode cX9_init 133 = .ok (.aload_n 0, 1) := by decide +kernel
theorem dX9_init_134 : decode cX9_init 134 = .ok (.getfield 43, 3) := by decide +kernel
theorem dX9_init_137 : decode cX9_init 137 = .ok (.if_icmp .ge 23, 3) := by decide +kernel
theorem dX9_init_140 : decode cX9_init 140 = .ok (.aload_n 0, 1) := by decide +kernel
theorem dX9_init_141 : decode cX9_init 141 = .ok (.getfield 40, 3) := by decide +kernel
theorem dX9_init_144 : decode cX9_init 144 = .ok (.iconst 0, 1) := by decide +kernel
theorem dX9_init_145 : decode cX9_init 145 = .ok (.aaload, 1) := by decide +kernel
theorem dX9_init_146 : decode cX9_init 146 = .ok (.iload_n 2, 1) := by decide +kernel
theorem dX9_init_147 : decode cX9_init 147 = .ok (.aload_n 0, 1) := by decide +kernel
theorem dX9_init_148 : decode cX9_init 148 = .ok (.getfield 28, 3) := by decide +kernel
theorem dX9_init_151 : decode cX9_init 151 = .ok (.iload_n 2, 1) := by decide +kernel
theorem dX9_init_152 : decode cX9_init 152 = .ok (.baload, 1) := by decide +kernel
theorem dX9_init_153 : decode cX9_init 153 = .ok (.bastore, 1) := by decide +kernel
theorem dX9_init_154 : decode cX9_init 154 = .ok (.iinc 2 1, 3) := by decide +kernel
theorem dX9_init_157 : decode cX9_init 157 = .ok (.goto (-25), 3) := by decide +kernel
theorem dX9_init_160 : decode cX9_init 160 = .ok (.aload_n 0, 1) := by decide +kernel
theorem dX9_init_161 : decode cX9_init 161 = .ok (.invokevirtual 57, 3) := by decide +kernel
theorem dX9_init_164 : decode cX9_init 164 = .ok (.return_, 1) := by decide +kernel
theorem dX9_u1_0 : decode cX9_u1 0 = .ok (.aload_n 0, 1) := by decide +kernel
theorem dX9_u1_1 : decode cX9_u1 1 = .ok (.getfield 28, 3) := by decide +kernel
theorem dX9_u1_4 : decode cX9_u1 4 = .ok (.aload_n 0, 1) := by decide +kernel
theorem dX9_u1_5 : decode cX9_u1 5 = .ok (.getfield 43, 3) := by decide +kernel
theorem dX9_u1_8 : decode cX9_u1 8 = .ok (.iload_n 1, 1) := by decide +kernel
theorem dX9_u1_9 : decode cX9_u1 9 = .ok (.i2b, 1) := by decide +kernel
theorem dX9_u1_10 : decode cX9_u1 10 = .ok (.bastore, 1) := by decide +kernel
theorem dX9_u1_11 : decode cX9_u1 11 = .ok (.aload_n 0, 1) := by decide +kernel
theorem dX9_u1_12 : decode cX9_u1 12 = .ok (.dup, 1) := by decide +kernel
theorem dX9_u1_13 : decode cX9_u1 13 = .ok (.getfield 43, 3) := by decide +kernel
theorem dX9_u1_16 : decode cX9_u1 16 = .ok (.iconst 1, 1) := by decide +kernel
theorem dX9_u1_17 : decode cX9_u1 17 = .ok (.iadd, 1) := by decide +kernel
theorem dX9_u1_18 : decode cX9_u1 18 = .ok (.putfield 43, 3) := by decide +kernel
theorem dX9_u1_21 : decode cX9_u1 21 = .ok (.return_, 1) := by decide +kernel
set_option maxRecDepth 20000 in
theorem ggX9_u2_X9_u1 : GoodIn wsX9_u2 wsX9_u1 := goodIn_r _ [5, 6, 7, 8, 9, 10, 11, 12, 13, 14, 15, 16, 17, 18, 19, 20, 21, 22, 23, 24, 25, 26, 27] (by decide +kernel) (by decide +kernel)
set_option maxRecDepth 20000 in
theorem gX9_u2_X9_u1 : GoodIn wsX9_u2 (wsV RX9 54 RX9 yX9_u1 wsX9_u1) := goodIn_app (goodIn_of _ (by decide +kernel)) ggX9_u2_X9_u1
theorem dX9_u2_0 : decode cX9_u2 0 = .ok (.aload_n 0, 1) := by decide +kernel
theorem dX9_u2_1 : decode cX9_u2 1 = .ok (.iload_n 1, 1) := by decide +kernel
theorem dX9_u2_2 : decode cX9_u2 2 = .ok (.bipush 8, 2) := by decide +kernel
theorem dX9_u2_4 : decode cX9_u2 4 = .ok (.ishr, 1) := by decide +kernel
theorem dX9_u2_5 : decode cX9_u2 5 = .ok (.invokevirtual 54, 3) := by decide +kernel
theorem dX9_u2_8 : decode cX9_u2 8 = .ok (.aload_n 0, 1) := by decide +kernel
theorem dX9_u2_9 : decode cX9_u2 9 = .ok (.iload_n 1, 1) := by decide +kernel
theorem dX9_u2_10 : decode cX9_u2 10 = .ok (.invokevirtual 54, 3) := by decide +kernel
theorem dX9_u2_13 : decode cX9_u2 13 = .ok (.return_, 1) := by decide +kernel
set_option maxRecDepth 20000 in
theorem ggX9_u4_X9_u2 : GoodIn wsX9_u4 wsX9_u2 := goodIn_r _ [5, 6, 7, 8, 4, 9, 10, 11, 12, 13, 14, 15, 16, 17, 18, 19, 20, 21, 22, 23, 24, 25, 26, 27, 28, 29, 30, 31] (by decide +kernel) (by decide +kernel)
set_option maxRecDepth 20000 in
theorem gX9_u4_X9_u2 : GoodIn wsX9_u4 (wsV RX9 63 RX9 yX9_u2 wsX9_u2) := goodIn_app (goodIn_of _ (by decide +kernel)) ggX9_u4_X9_u2
theorem dX9_u4_0 : decode cX9_u4 0 = .ok (.aload_n 0, 1) := by decide +kernel
theorem dX9_u4_1 : decode cX9_u4 1 = .ok (.iload_n 1, 1) := by decide +kernel
theorem dX9_u4_2 : decode cX9_u4 2 = .ok (.bipush 16, 2) := by decide +kernel
theorem dX9_u4_4 : decode cX9_u4 4 = .ok (.ishr, 1) := by decide +kernel
theorem dX9_u4_5 : decode cX9_u4 5 = .ok (.invokevirtual 63, 3) := by decide +kernel
theorem dX9_u4_8 : decode cX9_u4 8 = .ok (.aload_n 0, 1) := by decide +kernel
theorem dX9_u4_9 : decode cX9_u4 9 = .ok (.iload_n 1, 1) := by decide +kernel
theorem dX9_u4_10 : decode cX9_u4 10 = .ok (.invokevirtual 63, 3) := by decide +kernel
theorem dX9_u4_13 : decode cX9_u4 13 = .ok (.return_, 1) := by decide +kernel
set_option maxRecDepth 20000 in
theorem ggX9_u8_X9_u4 : GoodIn wsX9_u8 wsX9_u4 := goodIn_r _ [5, 6, 7, 8, 4, 9, 10, 11, 12, 13, 14, 15, 16, 17, 18, 19, 20, 21, 22, 23, 24, 25, 26, 27, 28, 29, 30, 31, 32, 33, 34, 35] (by decide +kernel) (by decide +kernel)
set_option maxRecDepth 20000 in
theorem gX9_u8_X9_u4 : GoodIn wsX9_u8 (wsV RX9 46 RX9 yX9_u4 wsX9_u4) := goodIn_app (goodIn_of _ (by decide +kernel)) ggX9_u8_X9_u4
theorem dX9_u8_0 : decode cX9_u8 0 = .ok (.aload_n 0, 1) := by decide +kernel
theorem dX9_u8_1 : decode cX9_u8 1 = .ok (.lload_n 1, 1) := by decide +kernel
theorem dX9_u8_2 : decode cX9_u8 2 = .ok (.bipush 32, 2) := by decide +kernel
theorem dX9_u8_4 : decode cX9_u8 4 = .ok (.lshr, 1) := by decide +kernel
theorem dX9_u8_5 : decode cX9_u8 5 = .ok (.l2i, 1) := by decide +kernel
theorem dX9_u8_6 : decode cX9_u8 6 = .ok (.invokevirtual 46, 3) := by decide +kernel
theorem dX9_u8_9 : decode cX9_u8 9 = .ok (.aload_n 0, 1) := by decide +kernel
theorem dX9_u8_10 : decode cX9_u8 10 = .ok (.lload_n 1, 1) := by decide +kernel
theorem dX9_u8_11 : decode cX9_u8 11 = .ok (.l2i, 1) := by decide +kernel
theorem dX9_u8_12 : decode cX9_u8 12 = .ok (.invokevirtual 46, 3) := by decide +kernel
theorem dX9_u8_15 : decode cX9_u8 15 = .ok (.return_, 1) := by decide +kernel
theorem dX9_crc_0 : decode cX9_crc 0 = .ok (.iconst (-1), 1) := by decide +kernel
theorem dX9_crc_1 : decode cX9_crc 1 = .ok (.istore_n 3, 1) := by decide +kernel
theorem dX9_crc_2 : decode cX9_crc 2 = .ok (.iload_n 1, 1) := by decide +kernel
theorem dX9_crc_3 : decode cX9_crc 3 = .ok (.istore 4, 2) := by decide +kernel
theorem dX9_crc_5 : decode cX9_crc 5 = .ok (.iload 4, 2) := by decide +kernel
theorem dX9_crc_7 : decode cX9_crc 7 = .ok (.iload_n 2, 1) := by decide +kernel
theorem dX9_crc_8 : decode cX9_crc 8 = .ok (.if_icmp .ge 55, 3) := by decide +kernel
theorem dX9_crc_11 : decode cX9_crc 11 = .ok (.iload_n 3, 1) := by decide +kernel
theorem dX9_crc_12 : decode cX9_crc 12 = .ok (.aload_n 0, 1) := by decide +kernel
theorem dX9_crc_13 : decode cX9_crc 13 = .ok (.iload 4, 2) := by decide +kernel
theorem dX9_crc_15 : decode cX9_crc 15 = .ok (.baload, 1) := by decide +kernel
theorem dX9_crc_16 : decode cX9_crc 16 = .ok (.sipush 255, 3) := by decide +kernel
theorem dX9_crc_19 : decode cX9_crc 19 = .ok (.iand, 1) := by decide +kernel
theorem dX9_crc_20 : decode cX9_crc 20 = .ok (.ixor, 1) := by decide +kernel
theorem dX9_crc_21 : decode cX9_crc 21 = .ok (.istore_n 3, 1) := by decide +kernel
theorem dX9_crc_22 : decode cX9_crc 22 = .ok (.iconst 0, 1) := by decide +kernel
theorem dX9_crc_23 : decode cX9_crc 23 = .ok (.istore 5, 2) := by decide +kernel
theorem dX9_crc_25 : decode cX9_crc 25 = .ok (.iload 5, 2) := by decide +kernel
theorem dX9_crc_27 : decode cX9_crc 27 = .ok (.bipush 8, 2) := by decide +kernel
theorem dX9_crc_29 : decode cX9_crc 29 = .ok (.if_icmp .ge 28, 3) := by decide +kernel
theorem dX9_crc_32 : decode cX9_crc 32 = .ok (.iload_n 3, 1) := by decide +kernel
theorem dX9_crc_33 : decode cX9_crc 33 = .ok (.iconst 1, 1) := by decide +kernel
theorem dX9_crc_34 : decode cX9_crc 34 = .ok (.iand, 1) := by decide +kernel
theorem dX9_crc_35 : decode cX9_crc 35 = .ok (.ifCond .eq 12, 3) := by decide +kernel
theorem dX9_crc_38 : decode cX9_crc 38 = .ok (.iload_n 3, 1) := by decide +kernel
theorem dX9_crc_39 : decode cX9_crc 39 = .ok (.iconst 1, 1) := by decide +kernel
theorem dX9_crc_40 : decode cX9_crc 40 = .ok (.iushr, 1) := by decide +kernel
theorem dX9_crc_41 : decode cX9_crc 41 = .ok (.ldc 66, 2) := by decide +kernel
theorem dX9_crc_43 : decode cX9_crc 43 = .ok (.ixor, 1) := by decide +kernel
theorem dX9_crc_44 : decode cX9_crc 44 = .ok (.goto 6, 3) := by decide +kernel
theorem dX9_crc_47 : decode cX9_crc 47 = .ok (.iload_n 3, 1) := by decide +kernel
theorem dX9_crc_48 : decode cX9_crc 48 = .ok (.iconst 1, 1) := by decide +kernel
theorem dX9_crc_49 : decode cX9_crc 49 = .ok (.iushr, 1) := by decide +kernel
theorem dX9_crc_50 : decode cX9_crc 50 = .ok (.istore_n 3, 1) := by decide +kernel
theorem dX9_crc_51 : decode cX9_crc 51 = .ok (.iinc 5 1, 3) := by decide +kernel
theorem dX9_crc_54 : decode cX9_crc 54 = .ok (.goto (-29), 3) := by decide +kernel
theorem dX9_crc_57 : decode cX9_crc 57 = .ok (.iinc 4 1, 3) := by decide +kernel
theorem dX9_crc_60 : decode cX9_crc 60 = .ok (.goto (-55), 3) := by decide +kernel
theorem dX9_crc_63 : decode cX9_crc 63 = .ok (.iload_n 3, 1) := by decide +kernel
theorem dX9_crc_64 : decode cX9_crc 64 = .ok (.iconst (-1), 1) := by decide +kernel
theorem dX9_crc_65 : decode cX9_crc 65 = .ok (.ixor, 1) := by decide +kernel
theorem dX9_crc_66 : decode cX9_crc 66 = .ok (.ireturn, 1) := by decide +kernel
theorem dX9_take_0 : decode cX9_take 0 = .ok (.lconst 0, 1) := by decide +kernel
theorem dX9_take_1 : decode cX9_take 1 = .ok (.lstore_n 3, 1) := by decide +kernel
theorem dX9_take_2 : decode cX9_take 2 = .ok (.iconst 0, 1) := by decide +kernel
theorem dX9_take_3 : decode cX9_take 3 = .ok (.istore 5, 2) := by decide +kernel
theorem dX9_take_5 : decode cX9_take 5 = .ok (.iload 5, 2) := by decide +kernel
theorem dX9_take_7 : decode cX9_take 7 = .ok (.iload_n 2, 1) := by decide +kernel
theorem dX9_take_8 : decode cX9_take 8 = .ok (.if_icmp .ge 26, 3) := by decide +kernel
theorem dX9_take_11 : decode cX9_take 11 = .ok (.lload_n 3, 1) := by decide +kernel
theorem dX9_take_12 : decode cX9_take 12 = .ok (.bipush 8, 2) := by decide +kernel
theorem dX9_take_14 : decode cX9_take 14 = .ok (.lshl, 1) := by decide +kernel
theorem dX9_take_15 : decode cX9_take 15 = .ok (.aload_n 0, 1) := by decide +kernel
theorem dX9_take_16 : decode cX9_take 16 = .ok (.iload_n 1, 1) := by decide +kernel
theorem dX9_take_17 : decode cX9_take 17 = .ok (.iload 5, 2) := by decide +kernel
theorem dX9_take_19 : decode cX9_take 19 = .ok (.iadd, 1) := by decide +kernel
theorem dX9_take_20 : decode cX9_take 20 = .ok (.baload, 1) := by decide +kernel
theorem dX9_take_21 : decode cX9_take 21 = .ok (.sipush 255, 3) := by decide +kernel
theorem dX9_take_24 : decode cX9_take 24 = .ok (.iand, 1) := by decide +kernel
theorem dX9_take_25 : decode cX9_take 25 = .ok (.i2l, 1) := by decide +kernel
theorem dX9_take_26 : decode cX9_take 26 = .ok (.lor, 1) := by decide +kernel
theorem dX9_take_27 : decode cX9_take 27 = .ok (.lstore_n 3, 1) := by decide +kernel
theorem dX9_take_28 : decode cX9_take 28 = .ok (.iinc 5 1, 3) := by decide +kernel
theorem dX9_take_31 : decode cX9_take 31 = .ok (.goto (-26), 3) := by decide +kernel
theorem dX9_take_34 : decode cX9_take 34 = .ok (.lload_n 3, 1) := by decide +kernel
theorem dX9_take_35 : decode cX9_take 35 = .ok (.lreturn, 1) := by decide +kernel
theorem dX9_lengthOf_0 : decode cX9_lengthOf 0 = .ok (.iload_n 0, 1) := by decide +kernel
theorem dX9_lengthOf_1 : decode cX9_lengthOf 1 = .ok (.tableswitch 54 1 6 #[39, 42, 45, 48, 51, 42], 39) := by decide +kernel
theorem dX9_lengthOf_40 : decode cX9_lengthOf 40 = .ok (.bipush 17, 2) := by decide +kernel
theorem dX9_lengthOf_42 : decode cX9_lengthOf 42 = .ok (.ireturn, 1) := by decide +kernel
theorem dX9_lengthOf_43 : decode cX9_lengthOf 43 = .ok (.bipush 19, 2) := by decide +kernel
theorem dX9_lengthOf_45 : decode cX9_lengthOf 45 = .ok (.ireturn, 1) := by decide +kernel
theorem dX9_lengthOf_46 : decode cX9_lengthOf 46 = .ok (.bipush 11, 2) := by decide +kernel
theorem dX9_lengthOf_48 : decode cX9_lengthOf 48 = .ok (.ireturn, 1) := by decide +kernel
theorem dX9_lengthOf_49 : decode cX9_lengthOf 49 = .ok (.bipush 10, 2) := by decide +kernel
theorem dX9_lengthOf_51 : decode cX9_lengthOf 51 = .ok (.ireturn, 1) := by decide +kernel
theorem dX9_lengthOf_52 : decode cX9_lengthOf 52 = .ok (.bipush 8, 2) := by decide +kernel
theorem dX9_lengthOf_54 : decode cX9_lengthOf 54 = .ok (.ireturn, 1) := by decide +kernel
theorem dX9_lengthOf_55 : decode cX9_lengthOf 55 = .ok (.bipush 16, 2) := by decide +kernel
theorem dX9_lengthOf_57 : decode cX9_lengthOf 57 = .ok (.ireturn, 1) := by decide +kernel
set_option maxRecDepth 20000 in
theorem ggX9_begin_X9_lengthOf : GoodIn wsX9_begin wsX9_lengthOf := goodIn_r _ [5] (by decide +kernel) (by decide +kernel)
set_option maxRecDepth 20000 in
theorem gX9_begin_X9_lengthOf : GoodIn wsX9_begin (va_wsS RX9 67 yX9_lengthOf wsX9_lengthOf) := goodIn_app (goodIn_of _ (by decide +kernel)) ggX9_begin_X9_lengthOf
set_option maxRecDepth 20000 in
theorem ggX9_begin_X9_u2 : GoodIn wsX9_begin wsX9_u2 := goodIn_r _ [9, 10, 11, 12, 4, 13, 14, 1, 15, 16, 17, 18, 19, 20, 21, 22, 23, 24, 25, 26, 27, 28, 29, 30, 31, 32, 33, 34] (by decide +kernel) (by decide +kernel)
set_option maxRecDepth 20000 in
theorem gX9_begin_X9_u2 : GoodIn wsX9_begin (wsV RX9 63 RX9 yX9_u2 wsX9_u2) := goodIn_app (goodIn_of _ (by decide +kernel)) ggX9_begin_X9_u2
set_option maxRecDepth 20000 in
theorem ggX9_begin_X9_u1 : GoodIn wsX9_begin wsX9_u1 := goodIn_r _ [13, 14, 1, 15, 16, 17, 18, 19, 20, 21, 22, 23, 24, 25, 26, 27, 28, 29, 30, 31, 32, 33, 34] (by decide +kernel) (by decide +kernel)
set_option maxRecDepth 20000 in
theorem gX9_begin_X9_u1 : GoodIn wsX9_begin (wsV RX9 54 RX9 yX9_u1 wsX9_u1) := goodIn_app (goodIn_of _ (by decide +kernel)) ggX9_begin_X9_u1
