theorem dX9_undo_4 : decode cX9_undo 4 = .ok (.ifCond .eq 5, 3) := by decide +kernel
theorem dX9_undo_7 : decode cX9_undo 7 = .ok (.iconst (-1), 1) := by decide +kernel
theorem dX9_undo_8 : decode cX9_undo 8 = .ok (.ireturn, 1) := by decide +kernel
theorem dX9_undo_9 : decode cX9_undo 9 = .ok (.aload_n 0, 1) := by decide +kernel
theorem dX9_undo_10 : decode cX9_undo 10 = .ok (.iconst 5, 1) := by decide +kernel
theorem dX9_undo_11 : decode cX9_undo 11 = .ok (.invokevirtual 151, 3) := by decide +kernel
theorem dX9_undo_14 : decode cX9_undo 14 = .ok (.ifCond .ne 6, 3) := by decide +kernel
theorem dX9_undo_17 : decode cX9_undo 17 = .ok (.bipush (-6), 2) := by decide +kernel
theorem dX9_undo_19 : decode cX9_undo 19 = .ok (.ireturn, 1) := by decide +kernel
theorem dX9_undo_20 : decode cX9_undo 20 = .ok (.aload_n 0, 1) := by decide +kernel
theorem dX9_undo_21 : decode cX9_undo 21 = .ok (.getfield 109, 3) := by decide +kernel
theorem dX9_undo_24 : decode cX9_undo 24 = .ok (.ifCond .ne 6, 3) := by decide +kernel
theorem dX9_undo_27 : decode cX9_undo 27 = .ok (.bipush (-7), 2) := by decide +kernel
theorem dX9_undo_29 : decode cX9_undo 29 = .ok (.ireturn, 1) := by decide +kernel
theorem dX9_undo_30 : decode cX9_undo 30 = .ok (.aload_n 0, 1) := by decide +kernel
theorem dX9_undo_31 : decode cX9_undo 31 = .ok (.iconst 5, 1) := by decide +kernel
theorem dX9_undo_32 : decode cX9_undo 32 = .ok (.invokevirtual 154, 3) := by decide +kernel
theorem dX9_undo_35 : decode cX9_undo 35 = .ok (.aload_n 0, 1) := by decide +kernel
theorem dX9_undo_36 : decode cX9_undo 36 = .ok (.invokevirtual 161, 3) := by decide +kernel
theorem dX9_undo_39 : decode cX9_undo 39 = .ok (.ifCond .eq 10, 3) := by decide +kernel
theorem dX9_undo_42 : decode cX9_undo 42 = .ok (.aload_n 0, 1) := by decide +kernel
theorem dX9_undo_43 : decode cX9_undo 43 = .ok (.getfield 109, 3) := by decide +kernel
theorem dX9_undo_46 : decode cX9_undo 46 = .ok (.goto 4, 3) := by decide +kernel
theorem dX9_undo_49 : decode cX9_undo 49 = .ok (.iconst (-1), 1) := by decide +kernel
theorem dX9_undo_50 : decode cX9_undo 50 = .ok (.ireturn, 1) := by decide +kernel
set_option maxRecDepth 20000 in
theorem ggX9_compact_X9_lengthOf : GoodIn wsX9_compact wsX9_lengthOf := goodIn_r _ [15] (by decide +kernel) (by decide +kernel)
set_option maxRecDepth 20000 in
theorem gX9_compact_X9_lengthOf : GoodIn wsX9_compact (va_wsS RX9 67 yX9_lengthOf wsX9_lengthOf) := goodIn_app (goodIn_of _ (by decide +kernel)) ggX9_compact_X9_lengthOf
set_option maxRecDepth 20000 in
theorem ggX9_compact_X9_write : GoodIn wsX9_compact wsX9_write := goodIn_r _ [19, 20, 21, 22, 23, 24, 25, 14, 26, 1, 27, 87, 88, 89, 90, 91, 92, 93, 94, 95, 96, 97, 98, 99, 100, 101, 102, 103, 104, 105, 106] (by decide +kernel) (by decide +kernel)
set_option maxRecDepth 20000 in
theorem gX9_compact_X9_write : GoodIn wsX9_compact (wsV RX9 84 RX9 yX9_write wsX9_write) := goodIn_app (goodIn_of _ (by decide +kernel)) ggX9_compact_X9_write
set_option maxRecDepth 20000 in
theorem ggX9_compact_X9_begin : GoodIn wsX9_compact wsX9_begin := goodIn_r _ [31, 6, 12, 13, 14, 15, 32, 33, 34, 35, 36, 37, 38, 39, 11, 87, 88, 89, 90, 91, 92, 93, 94, 95, 96, 97, 98, 99, 100, 101, 102, 103, 104, 105, 106] (by decide +kernel) (by decide +kernel)
set_option maxRecDepth 20000 in
theorem gX9_compact_X9_begin : GoodIn wsX9_compact (wsV RX9 154 RX9 yX9_begin wsX9_begin) := goodIn_app (goodIn_of _ (by decide +kernel)) ggX9_compact_X9_begin
set_option maxRecDepth 20000 in
theorem ggX9_compact_X9_u8 : GoodIn wsX9_compact wsX9_u8 := goodIn_r _ [43, 44, 45, 46, 14, 47, 32, 33, 34, 35, 36, 37, 38, 39, 11, 6, 87, 88, 89, 90, 91, 92, 93, 94, 95, 96, 97, 98, 99, 100, 101, 102, 103, 104, 105, 106] (by decide +kernel) (by decide +kernel)
set_option maxRecDepth 20000 in
theorem gX9_compact_X9_u8 : GoodIn wsX9_compact (wsV RX9 157 RX9 yX9_u8 wsX9_u8) := goodIn_app (goodIn_of _ (by decide +kernel)) ggX9_compact_X9_u8
set_option maxRecDepth 20000 in
theorem ggX9_compact_X9_checked : GoodIn wsX9_compact wsX9_checked := goodIn_r _ [51, 11, 6, 52, 53, 14, 54, 55, 44, 45, 46, 47, 32, 33, 34, 35, 36, 37, 38, 39, 87, 88, 89, 90, 91, 92, 93, 94, 95, 96, 97, 98, 99, 100, 101, 102, 103, 104, 105, 106] (by decide +kernel) (by decide +kernel)
set_option maxRecDepth 20000 in
theorem gX9_compact_X9_checked : GoodIn wsX9_compact (wsV RX9 130 RX9 yX9_checked wsX9_checked) := goodIn_app (goodIn_of _ (by decide +kernel)) ggX9_compact_X9_checked
set_option maxRecDepth 20000 in
theorem ggX9_compact_X9_writeRow : GoodIn wsX9_compact wsX9_writeRow := goodIn_r _ [59, 6, 11, 16, 17, 18, 14, 19, 20, 21, 22, 23, 24, 25, 26, 1, 27, 87, 88, 89, 90, 91, 92, 93, 94, 95, 96, 97, 98, 99, 100, 101, 102, 103, 104, 105, 106] (by decide +kernel) (by decide +kernel)
set_option maxRecDepth 20000 in
theorem gX9_compact_X9_writeRow : GoodIn wsX9_compact (wsV RX9 133 RX9 yX9_writeRow wsX9_writeRow) := goodIn_app (goodIn_of _ (by decide +kernel)) ggX9_compact_X9_writeRow
set_option maxRecDepth 20000 in
theorem ggX9_compact_X9_u2 : GoodIn wsX9_compact wsX9_u2 := goodIn_r _ [35, 36, 37, 38, 14, 39, 11, 6, 87, 88, 89, 90, 91, 92, 93, 94, 95, 96, 97, 98, 99, 100, 101, 102, 103, 104, 105, 106] (by decide +kernel) (by decide +kernel)
set_option maxRecDepth 20000 in
theorem gX9_compact_X9_u2 : GoodIn wsX9_compact (wsV RX9 63 RX9 yX9_u2 wsX9_u2) := goodIn_app (goodIn_of _ (by decide +kernel)) ggX9_compact_X9_u2
set_option maxRecDepth 20000 in
theorem ggX9_compact_X9_u1 : GoodIn wsX9_compact wsX9_u1 := goodIn_r _ [39, 11, 6, 87, 88, 89, 90, 91, 92, 93, 94, 95, 96, 97, 98, 99, 100, 101, 102, 103, 104, 105, 106] (by decide +kernel) (by decide +kernel)
set_option maxRecDepth 20000 in
theorem gX9_compact_X9_u1 : GoodIn wsX9_compact (wsV RX9 54 RX9 yX9_u1 wsX9_u1) := goodIn_app (goodIn_of _ (by decide +kernel)) ggX9_compact_X9_u1
set_option maxRecDepth 20000 in
theorem ggX9_compact_X9_generation : GoodIn wsX9_compact wsX9_generation := goodIn_r _ [63, 21, 64, 65, 14, 66, 87, 88, 89, 90, 91, 92, 93, 94, 95, 96, 97, 98, 99, 100, 101, 102, 103, 104, 105, 106] (by decide +kernel) (by decide +kernel)
set_option maxRecDepth 20000 in
theorem gX9_compact_X9_generation : GoodIn wsX9_compact (wsV RX9 96 RX9 yX9_generation wsX9_generation) := goodIn_app (goodIn_of _ (by decide +kernel)) ggX9_compact_X9_generation
set_option maxRecDepth 20000 in
theorem ggX9_compact_X9_u4 : GoodIn wsX9_compact wsX9_u4 := goodIn_r _ [47, 32, 33, 34, 14, 35, 36, 37, 38, 39, 11, 6, 87, 88, 89, 90, 91, 92, 93, 94, 95, 96, 97, 98, 99, 100, 101, 102, 103, 104, 105, 106] (by decide +kernel) (by decide +kernel)
set_option maxRecDepth 20000 in
theorem gX9_compact_X9_u4 : GoodIn wsX9_compact (wsV RX9 46 RX9 yX9_u4 wsX9_u4) := goodIn_app (goodIn_of _ (by decide +kernel)) ggX9_compact_X9_u4
set_option maxRecDepth 20000 in
theorem ggX9_compact_X9_crc : GoodIn wsX9_compact wsX9_crc := goodIn_r _ [54, 55] (by decide +kernel) (by decide +kernel)
set_option maxRecDepth 20000 in
theorem gX9_compact_X9_crc : GoodIn wsX9_compact (va_wsS RX9 50 yX9_crc wsX9_crc) := goodIn_app (goodIn_of _ (by decide +kernel)) ggX9_compact_X9_crc
set_option maxRecDepth 20000 in
theorem ggX9_compact_X9_reads : GoodIn wsX9_compact wsX9_reads := goodIn_r _ [70, 21, 2, 71, 72, 73, 74, 3, 5, 75, 76, 77, 14, 78, 4, 64, 65, 66, 52, 53, 54, 55, 79, 80, 81, 82, 10, 9, 8, 83, 84, 85, 86, 7, 87, 88, 89, 90, 91, 92, 93, 94, 95, 96, 97, 98, 99, 100, 101, 102, 103, 104, 105, 106] (by decide +kernel) (by decide +kernel)
set_option maxRecDepth 20000 in
theorem gX9_compact_X9_reads : GoodIn wsX9_compact (wsV RX9 57 RX9 yX9_reads wsX9_reads) := goodIn_app (goodIn_of _ (by decide +kernel)) ggX9_compact_X9_reads
theorem dX9_compact_0 : decode cX9_compact 0 = .ok (.aload_n 0, 1) := by decide +kernel
theorem dX9_compact_1 : decode cX9_compact 1 = .ok (.getfield 77, 3) := by decide +kernel
theorem dX9_compact_4 : decode cX9_compact 4 = .ok (.ifCond .eq 5, 3) := by decide +kernel
theorem dX9_compact_7 : decode cX9_compact 7 = .ok (.iconst (-1), 1) := by decide +kernel
theorem dX9_compact_8 : decode cX9_compact 8 = .ok (.ireturn, 1) := by decide +kernel
theorem dX9_compact_9 : decode cX9_compact 9 = .ok (.iconst 1, 1) := by decide +kernel
theorem dX9_compact_10 : decode cX9_compact 10 = .ok (.aload_n 0, 1) := by decide +kernel
theorem dX9_compact_11 : decode cX9_compact 11 = .ok (.getfield 100, 3) := by decide +kernel
theorem dX9_compact_14 : decode cX9_compact 14 = .ok (.isub, 1) := by decide +kernel
theorem dX9_compact_15 : decode cX9_compact 15 = .ok (.istore_n 1, 1) := by decide +kernel
theorem dX9_compact_16 : decode cX9_compact 16 = .ok (.bipush 9, 2) := by decide +kernel
theorem dX9_compact_18 : decode cX9_compact 18 = .ok (.bipush 7, 2) := by decide +kernel
theorem dX9_compact_20 : decode cX9_compact 20 = .ok (.invokestatic 67, 3) := by decide +kernel
theorem dX9_compact_23 : decode cX9_compact 23 = .ok (.iadd, 1) := by decide +kernel
theorem dX9_compact_24 : decode cX9_compact 24 = .ok (.aload_n 0, 1) := by decide +kernel
theorem dX9_compact_25 : decode cX9_compact 25 = .ok (.getfield 115, 3) := by decide +kernel
theorem dX9_compact_28 : decode cX9_compact 28 = .ok (.bipush 6, 2) := by decide +kernel
theorem dX9_compact_30 : decode cX9_compact 30 = .ok (.invokestatic 67, 3) := by decide +kernel
theorem dX9_compact_33 : decode cX9_compact 33 = .ok (.imul, 1) := by decide +kernel
theorem dX9_compact_34 : decode cX9_compact 34 = .ok (.iadd, 1) := by decide +kernel
theorem dX9_compact_35 : decode cX9_compact 35 = .ok (.aload_n 0, 1) := by decide +kernel
theorem dX9_compact_36 : decode cX9_compact 36 = .ok (.getfield 35, 3) := by decide +kernel
theorem dX9_compact_39 : decode cX9_compact 39 = .ok (.if_icmp .le 6, 3) := by decide +kernel
theorem dX9_compact_42 : decode cX9_compact 42 = .ok (.bipush (-6), 2) := by decide +kernel
theorem dX9_compact_44 : decode cX9_compact 44 = .ok (.ireturn, 1) := by decide +kernel
theorem dX9_compact_45 : decode cX9_compact 45 = .ok (.iconst 0, 1) := by decide +kernel
theorem dX9_compact_46 : decode cX9_compact 46 = .ok (.istore_n 2, 1) := by decide +kernel
theorem dX9_compact_47 : decode cX9_compact 47 = .ok (.iload_n 2, 1) := by decide +kernel
theorem dX9_compact_48 : decode cX9_compact 48 = .ok (.aload_n 0, 1) := by decide +kernel
theorem dX9_compact_49 : decode cX9_compact 49 = .ok (.getfield 35, 3) := by decide +kernel
theorem dX9_compact_52 : decode cX9_compact 52 = .ok (.if_icmp .ge 21, 3) := by decide +kernel
theorem dX9_compact_55 : decode cX9_compact 55 = .ok (.aload_n 0, 1) := by decide +kernel
theorem dX9_compact_56 : decode cX9_compact 56 = .ok (.iload_n 1, 1) := by decide +kernel
theorem dX9_compact_57 : decode cX9_compact 57 = .ok (.iload_n 2, 1) := by decide +kernel
theorem dX9_compact_58 : decode cX9_compact 58 = .ok (.iconst 0, 1) := by decide +kernel
theorem dX9_compact_59 : decode cX9_compact 59 = .ok (.invokevirtual 84, 3) := by decide +kernel
theorem dX9_compact_62 : decode cX9_compact 62 = .ok (.ifCond .ne 5, 3) := by decide +kernel
theorem dX9_compact_65 : decode cX9_compact 65 = .ok (.iconst (-1), 1) := by decide +kernel
theorem dX9_compact_66 : decode cX9_compact 66 = .ok (.ireturn, 1) := by decide +kernel
theorem dX9_compact_67 : decode cX9_compact 67 = .ok (.iinc 2 1, 3) := by decide +kernel
theorem dX9_compact_70 : decode cX9_compact 70 = .ok (.goto (-23), 3) := by decide +kernel
theorem dX9_compact_73 : decode cX9_compact 73 = .ok (.bipush 9, 2) := by decide +kernel
theorem dX9_compact_75 : decode cX9_compact 75 = .ok (.istore_n 2, 1) := by decide +kernel
theorem dX9_compact_76 : decode cX9_compact 76 = .ok (.aload_n 0, 1) := by decide +kernel
theorem dX9_compact_77 : decode cX9_compact 77 = .ok (.bipush 7, 2) := by decide +kernel
theorem dX9_compact_79 : decode cX9_compact 79 = .ok (.invokevirtual 154, 3) := by decide +kernel
theorem dX9_compact_82 : decode cX9_compact 82 = .ok (.aload_n 0, 1) := by decide +kernel
theorem dX9_compact_83 : decode cX9_compact 83 = .ok (.aload_n 0, 1) := by decide +kernel
theorem dX9_compact_84 : decode cX9_compact 84 = .ok (.getfield 118, 3) := by decide +kernel
theorem dX9_compact_87 : decode cX9_compact 87 = .ok (.invokevirtual 157, 3) := by decide +kernel
theorem dX9_compact_90 : decode cX9_compact 90 = .ok (.aload_n 0, 1) := by decide +kernel
theorem dX9_compact_91 : decode cX9_compact 91 = .ok (.invokevirtual 130, 3) := by decide +kernel
theorem dX9_compact_94 : decode cX9_compact 94 = .ok (.aload_n 0, 1) := by decide +kernel
theorem dX9_compact_95 : decode cX9_compact 95 = .ok (.iload_n 1, 1) := by decide +kernel
theorem dX9_compact_96 : decode cX9_compact 96 = .ok (.iload_n 2, 1) := by decide +kernel
theorem dX9_compact_97 : decode cX9_compact 97 = .ok (.invokevirtual 133, 3) := by decide +kernel
theorem dX9_compact_100 : decode cX9_compact 100 = .ok (.ifCond .ne 5, 3) := by decide +kernel
theorem dX9_compact_103 : decode cX9_compact 103 = .ok (.iconst (-1), 1) := by decide +kernel
theorem dX9_compact_104 : decode cX9_compact 104 = .ok (.ireturn, 1) := by decide +kernel
theorem dX9_compact_105 : decode cX9_compact 105 = .ok (.iload_n 2, 1) := by decide +kernel
theorem dX9_compact_106 : decode cX9_compact 106 = .ok (.aload_n 0, 1) := by decide +kernel
theorem dX9_compact_107 : decode cX9_compact 107 = .ok (.getfield 43, 3) := by decide +kernel
theorem dX9_compact_110 : decode cX9_compact 110 = .ok (.iadd, 1) := by decide +kernel
theorem dX9_compact_111 : decode cX9_compact 111 = .ok (.istore_n 2, 1) := by decide +kernel
theorem dX9_compact_112 : decode cX9_compact 112 = .ok (.iconst 1, 1) := by decide +kernel
theorem dX9_compact_113 : decode cX9_compact 113 = .ok (.istore_n 3, 1) := by decide +kernel
theorem dX9_compact_114 : decode cX9_compact 114 = .ok (.iload_n 3, 1) := by decide +kernel
theorem dX9_compact_115 : decode cX9_compact 115 = .ok (.aload_n 0, 1) := by decide +kernel
theorem dX9_compact_116 : decode cX9_compact 116 = .ok (.getfield 115, 3) := by decide +kernel
theorem dX9_compact_119 : decode cX9_compact 119 = .ok (.if_icmp .gt 82, 3) := by decide +kernel
theorem dX9_compact_122 : decode cX9_compact 122 = .ok (.aload_n 0, 1) := by decide +kernel
theorem dX9_compact_123 : decode cX9_compact 123 = .ok (.bipush 6, 2) := by decide +kernel
theorem dX9_compact_125 : decode cX9_compact 125 = .ok (.invokevirtual 154, 3) := by decide +kernel
theorem dX9_compact_128 : decode cX9_compact 128 = .ok (.aload_n 0, 1) := by decide +kernel
theorem dX9_compact_129 : decode cX9_compact 129 = .ok (.aload_n 0, 1) := by decide +kernel
theorem dX9_compact_130 : decode cX9_compact 130 = .ok (.getfield 13, 3) := by decide +kernel
theorem dX9_compact_133 : decode cX9_compact 133 = .ok (.iload_n 3, 1) := by decide +kernel
theorem dX9_compact_134 : decode cX9_compact 134 = .ok (.iaload, 1) := by decide +kernel
theorem dX9_compact_135 : decode cX9_compact 135 = .ok (.invokevirtual 63, 3) := by decide +kernel
theorem dX9_compact_138 : decode cX9_compact 138 = .ok (.aload_n 0, 1) := by decide +kernel
theorem dX9_compact_139 : decode cX9_compact 139 = .ok (.aload_n 0, 1) := by decide +kernel
theorem dX9_compact_140 : decode cX9_compact 140 = .ok (.getfield 20, 3) := by decide +kernel
theorem dX9_compact_143 : decode cX9_compact 143 = .ok (.iload_n 3, 1) := by decide +kernel
theorem dX9_compact_144 : decode cX9_compact 144 = .ok (.baload, 1) := by decide +kernel
theorem dX9_compact_145 : decode cX9_compact 145 = .ok (.ifCond .eq 12, 3) := by decide +kernel
theorem dX9_compact_148 : decode cX9_compact 148 = .ok (.aload_n 0, 1) := by decide +kernel
theorem dX9_compact_149 : decode cX9_compact 149 = .ok (.getfield 17, 3) := by decide +kernel
theorem dX9_compact_152 : decode cX9_compact 152 = .ok (.iload_n 3, 1) := by decide +kernel
theorem dX9_compact_153 : decode cX9_compact 153 = .ok (.iaload, 1) := by decide +kernel
theorem dX9_compact_154 : decode cX9_compact 154 = .ok (.goto 6, 3) := by decide +kernel
theorem dX9_compact_157 : decode cX9_compact 157 = .ok (.sipush 255, 3) := by decide +kernel
theorem dX9_compact_160 : decode cX9_compact 160 = .ok (.invokevirtual 54, 3) := by decide +kernel
theorem dX9_compact_163 : decode cX9_compact 163 = .ok (.aload_n 0, 1) := by decide +kernel
theorem dX9_compact_164 : decode cX9_compact 164 = .ok (.aload_n 0, 1) := by decide +kernel
theorem dX9_compact_165 : decode cX9_compact 165 = .ok (.getfield 24, 3) := by decide +kernel
theorem dX9_compact_168 : decode cX9_compact 168 = .ok (.iload_n 3, 1) := by decide +kernel
theorem dX9_compact_169 : decode cX9_compact 169 = .ok (.laload, 1) := by decide +kernel
theorem dX9_compact_170 : decode cX9_compact 170 = .ok (.invokevirtual 157, 3) := by decide +kernel
theorem dX9_compact_173 : decode cX9_compact 173 = .ok (.aload_n 0, 1) := by decide +kernel
theorem dX9_compact_174 : decode cX9_compact 174 = .ok (.invokevirtual 130, 3) := by decide +kernel
theorem dX9_compact_177 : decode cX9_compact 177 = .ok (.aload_n 0, 1) := by decide +kernel
theorem dX9_compact_178 : decode cX9_compact 178 = .ok (.iload_n 1, 1) := by decide +kernel
theorem dX9_compact_179 : decode cX9_compact 179 = .ok (.iload_n 2, 1) := by decide +kernel
theorem dX9_compact_180 : decode cX9_compact 180 = .ok (.invokevirtual 133, 3) := by decide +kernel
theorem dX9_compact_183 : decode cX9_compact 183 = .ok (.ifCond .ne 5, 3) := by decide +kernel
theorem dX9_compact_186 : decode cX9_compact 186 = .ok (.iconst (-1), 1) := by decide +kernel
theorem dX9_compact_187 : decode cX9_compact 187 = .ok (.ireturn, 1) := by decide +kernel
theorem dX9_compact_188 : decode cX9_compact 188 = .ok (.iload_n 2, 1) := by decide +kernel
theorem dX9_compact_189 : decode cX9_compact 189 = .ok (.aload_n 0, 1) := by decide +kernel
theorem dX9_compact_190 : decode cX9_compact 190 = .ok (.getfield 43, 3) := by decide +kernel
theorem dX9_compact_193 : decode cX9_compact 193 = .ok (.iadd, 1) := by decide +kernel
theorem dX9_compact_194 : decode cX9_compact 194 = .ok (.istore_n 2, 1) := by decide +kernel
theorem dX9_compact_195 : decode cX9_compact 195 = .ok (.iinc 3 1, 3) := by decide +kernel
theorem dX9_compact_198 : decode cX9_compact 198 = .ok (.goto (-84), 3) := by decide +kernel
theorem dX9_compact_201 : decode cX9_compact 201 = .ok (.aload_n 0, 1) := by decide +kernel
theorem dX9_compact_202 : decode cX9_compact 202 = .ok (.iconst 0, 1) := by decide +kernel
theorem dX9_compact_203 : decode cX9_compact 203 = .ok (.putfield 43, 3) := by decide +kernel
theorem dX9_compact_206 : decode cX9_compact 206 = .ok (.aload_n 0, 1) := by decide +kernel
theorem dX9_compact_207 : decode cX9_compact 207 = .ok (.aload_n 0, 1) := by decide +kernel
theorem dX9_compact_208 : decode cX9_compact 208 = .ok (.aload_n 0, 1) := by decide +kernel
theorem dX9_compact_209 : decode cX9_compact 209 = .ok (.getfield 100, 3) := by decide +kernel
theorem dX9_compact_212 : decode cX9_compact 212 = .ok (.invokevirtual 96, 3) := by decide +kernel
theorem dX9_compact_215 : decode cX9_compact 215 = .ok (.l2i, 1) := by decide +kernel
theorem dX9_compact_216 : decode cX9_compact 216 = .ok (.iconst 1, 1) := by decide +kernel
theorem dX9_compact_217 : decode cX9_compact 217 = .ok (.iadd, 1) := by decide +kernel
theorem dX9_compact_218 : decode cX9_compact 218 = .ok (.invokevirtual 46, 3) := by decide +kernel
theorem dX9_compact_221 : decode cX9_compact 221 = .ok (.aload_n 0, 1) := by decide +kernel
theorem dX9_compact_222 : decode cX9_compact 222 = .ok (.aload_n 0, 1) := by decide +kernel
theorem dX9_compact_223 : decode cX9_compact 223 = .ok (.getfield 28, 3) := by decide +kernel
theorem dX9_compact_226 : decode cX9_compact 226 = .ok (.iconst 0, 1) := by decide +kernel
theorem dX9_compact_227 : decode cX9_compact 227 = .ok (.iconst 4, 1) := by decide +kernel
theorem dX9_compact_228 : decode cX9_compact 228 = .ok (.invokestatic 50, 3) := by decide +kernel
theorem dX9_compact_231 : decode cX9_compact 231 = .ok (.invokevirtual 46, 3) := by decide +kernel
theorem dX9_compact_234 : decode cX9_compact 234 = .ok (.aload_n 0, 1) := by decide +kernel
theorem dX9_compact_235 : decode cX9_compact 235 = .ok (.sipush 165, 3) := by decide +kernel
theorem dX9_compact_238 : decode cX9_compact 238 = .ok (.invokevirtual 54, 3) := by decide +kernel
theorem dX9_compact_241 : decode cX9_compact 241 = .ok (.aload_n 0, 1) := by decide +kernel
theorem dX9_compact_242 : decode cX9_compact 242 = .ok (.iload_n 1, 1) := by decide +kernel
theorem dX9_compact_243 : decode cX9_compact 243 = .ok (.iconst 0, 1) := by decide +kernel
theorem dX9_compact_244 : decode cX9_compact 244 = .ok (.invokevirtual 133, 3) := by decide +kernel
theorem dX9_compact_247 : decode cX9_compact 247 = .ok (.ifCond .ne 5, 3) := by decide +kernel
theorem dX9_compact_250 : decode cX9_compact 250 = .ok (.iconst (-1), 1) := by decide +kernel
theorem dX9_compact_251 : decode cX9_compact 251 = .ok (.ireturn, 1) := by decide +kernel
theorem dX9_compact_252 : decode cX9_compact 252 = .ok (.aload_n 0, 1) := by decide +kernel
theorem dX9_compact_253 : decode cX9_compact 253 = .ok (.iload_n 1, 1) := by decide +kernel
theorem dX9_compact_254 : decode cX9_compact 254 = .ok (.putfield 100, 3) := by decide +kernel
theorem dX9_compact_257 : decode cX9_compact 257 = .ok (.aload_n 0, 1) := by decide +kernel
theorem dX9_compact_258 : decode cX9_compact 258 = .ok (.invokevirtual 57, 3) := by decide +kernel
theorem dX9_compact_261 : decode cX9_compact 261 = .ok (.iconst 0, 1) := by decide +kernel
theorem dX9_compact_262 : decode cX9_compact 262 = .ok (.ireturn, 1) := by decide +kernel
theorem dX9_octet_0 : decode cX9_octet 0 = .ok (.iload_n 1, 1) := by decide +kernel
theorem dX9_octet_1 : decode cX9_octet 1 = .ok (.ifCond .lt 20, 3) := by decide +kernel
theorem dX9_octet_4 : decode cX9_octet 4 = .ok (.iload_n 1, 1) := by decide +kernel
theorem dX9_octet_5 : decode cX9_octet 5 = .ok (.iconst 1, 1) := by decide +kernel
theorem dX9_octet_6 : decode cX9_octet 6 = .ok (.if_icmp .gt 15, 3) := by decide +kernel
theorem dX9_octet_9 : decode cX9_octet 9 = .ok (.iload_n 2, 1) := by decide +kernel
theorem dX9_octet_10 : decode cX9_octet 10 = .ok (.ifCond .lt 11, 3) := by decide +kernel
theorem dX9_octet_13 : decode cX9_octet 13 = .ok (.iload_n 2, 1) := by decide +kernel
theorem dX9_octet_14 : decode cX9_octet 14 = .ok (.aload_n 0, 1) := by decide +kernel
theorem dX9_octet_15 : decode cX9_octet 15 = .ok (.getfield 35, 3) := by decide +kernel
theorem dX9_octet_18 : decode cX9_octet 18 = .ok (.if_icmp .lt 7, 3) := by decide +kernel
theorem dX9_octet_21 : decode cX9_octet 21 = .ok (.iconst (-1), 1) := by decide +kernel
theorem dX9_octet_22 : decode cX9_octet 22 = .ok (.goto 15, 3) := by decide +kernel
theorem dX9_octet_25 : decode cX9_octet 25 = .ok (.aload_n 0, 1) := by decide +kernel
theorem dX9_octet_26 : decode cX9_octet 26 = .ok (.getfield 40, 3) := by decide +kernel
theorem dX9_octet_29 : decode cX9_octet 29 = .ok (.iload_n 1, 1) := by decide +kernel
theorem dX9_octet_30 : decode cX9_octet 30 = .ok (.aaload, 1) := by decide +kernel
theorem dX9_octet_31 : decode cX9_octet 31 = .ok (.iload_n 2, 1) := by decide +kernel
theorem dX9_octet_32 : decode cX9_octet 32 = .ok (.baload, 1) := by decide +kernel
theorem dX9_octet_33 : decode cX9_octet 33 = .ok (.sipush 255, 3) := by decide +kernel
theorem dX9_octet_36 : decode cX9_octet 36 = .ok (.iand, 1) := by decide +kernel
theorem dX9_octet_37 : decode cX9_octet 37 = .ok (.ireturn, 1) := by decide +kernel
theorem dX9_isHere_0 : decode cX9_isHere 0 = .ok (.aload_n 0, 1) := by decide +kernel
theorem dX9_isHere_1 : decode cX9_isHere 1 = .ok (.getfield 77, 3) := by decide +kernel
theorem dX9_isHere_4 : decode cX9_isHere 4 = .ok (.ifCond .ne 19, 3) := by decide +kernel
theorem dX9_isHere_7 : decode cX9_isHere 7 = .ok (.iload_n 1, 1) := by decide +kernel
theorem dX9_isHere_8 : decode cX9_isHere 8 = .ok (.ifCond .le 15, 3) := by decide +kernel
theorem dX9_isHere_11 : decode cX9_isHere 11 = .ok (.iload_n 1, 1) := by decide +kernel
theorem dX9_isHere_12 : decode cX9_isHere 12 = .ok (.aload_n 0, 1) := by decide +kernel
theorem dX9_isHere_13 : decode cX9_isHere 13 = .ok (.getfield 115, 3) := by decide +kernel
theorem dX9_isHere_16 : decode cX9_isHere 16 = .ok (.if_icmp .gt 7, 3) := by decide +kernel
theorem dX9_isHere_19 : decode cX9_isHere 19 = .ok (.iconst 1, 1) := by decide +kernel
theorem dX9_isHere_20 : decode cX9_isHere 20 = .ok (.goto 4, 3) := by decide +kernel
theorem dX9_isHere_23 : decode cX9_isHere 23 = .ok (.iconst 0, 1) := by decide +kernel
theorem dX9_isHere_24 : decode cX9_isHere 24 = .ok (.ireturn, 1) := by decide +kernel
set_option maxRecDepth 20000 in
theorem ggX9_sample_X9_isHere : GoodIn wsX9_sample wsX9_isHere := goodIn_r _ [9, 10, 4, 11, 12, 13, 14, 15, 16, 17, 18, 19, 20, 21, 22, 23, 24, 25, 26, 27, 28, 29, 30] (by decide +kernel) (by decide +kernel)
set_option maxRecDepth 20000 in
theorem gX9_sample_X9_isHere : GoodIn wsX9_sample (wsV RX9 168 RX9 yX9_isHere wsX9_isHere) := goodIn_app (goodIn_of _ (by decide +kernel)) ggX9_sample_X9_isHere
theorem dX9_sample_0 : decode cX9_sample 0 = .ok (.aload_n 0, 1) := by decide +kernel
theorem dX9_sample_1 : decode cX9_sample 1 = .ok (.iload_n 1, 1) := by decide +kernel
theorem dX9_sample_2 : decode cX9_sample 2 = .ok (.invokevirtual 168, 3) := by decide +kernel
theorem dX9_sample_5 : decode cX9_sample 5 = .ok (.ifCond .ne 5, 3) := by decide +kernel
theorem dX9_sample_8 : decode cX9_sample 8 = .ok (.iconst (-1), 1) := by decide +kernel
theorem dX9_sample_9 : decode cX9_sample 9 = .ok (.ireturn, 1) := by decide +kernel
theorem dX9_sample_10 : decode cX9_sample 10 = .ok (.iconst 0, 1) := by decide +kernel
theorem dX9_sample_11 : decode cX9_sample 11 = .ok (.istore_n 3, 1) := by decide +kernel
theorem dX9_sample_12 : decode cX9_sample 12 = .ok (.iload_n 1, 1) := by decide +kernel
theorem dX9_sample_13 : decode cX9_sample 13 = .ok (.istore 4, 2) := by decide +kernel
theorem dX9_sample_15 : decode cX9_sample 15 = .ok (.iload_n 2, 1) := by decide +kernel
theorem dX9_sample_16 : decode cX9_sample 16 = .ok (.tableswitch 139 0 4 #[36, 43, 63, 102, 102], 36) := by decide +kernel
theorem dX9_sample_52 : decode cX9_sample 52 = .ok (.aload_n 0, 1) := by decide +kernel
theorem dX9_sample_53 : decode cX9_sample 53 = .ok (.getfield 13, 3) := by decide +kernel
theorem dX9_sample_56 : decode cX9_sample 56 = .ok (.iload_n 1, 1) := by decide +kernel
theorem dX9_sample_57 : decode cX9_sample 57 = .ok (.iaload, 1) := by decide +kernel
theorem dX9_sample_58 : decode cX9_sample 58 = .ok (.ireturn, 1) := by decide +kernel
theorem dX9_sample_59 : decode cX9_sample 59 = .ok (.aload_n 0, 1) := by decide +kernel
theorem dX9_sample_60 : decode cX9_sample 60 = .ok (.getfield 20, 3) := by decide +kernel
theorem dX9_sample_63 : decode cX9_sample 63 = .ok (.iload_n 1, 1) := by decide +kernel
theorem dX9_sample_64 : decode cX9_sample 64 = .ok (.baload, 1) := by decide +kernel
theorem dX9_sample_65 : decode cX9_sample 65 = .ok (.ifCond .eq 12, 3) := by decide +kernel
theorem dX9_sample_68 : decode cX9_sample 68 = .ok (.aload_n 0, 1) := by decide +kernel
theorem dX9_sample_69 : decode cX9_sample 69 = .ok (.getfield 17, 3) := by decide +kernel
theorem dX9_sample_72 : decode cX9_sample 72 = .ok (.iload_n 1, 1) := by decide +kernel
theorem dX9_sample_73 : decode cX9_sample 73 = .ok (.iaload, 1) := by decide +kernel
theorem dX9_sample_74 : decode cX9_sample 74 = .ok (.goto 4, 3) := by decide +kernel
theorem dX9_sample_77 : decode cX9_sample 77 = .ok (.iconst (-1), 1) := by decide +kernel
theorem dX9_sample_78 : decode cX9_sample 78 = .ok (.ireturn, 1) := by decide +kernel
theorem dX9_sample_79 : decode cX9_sample 79 = .ok (.iconst 1, 1) := by decide +kernel
theorem dX9_sample_80 : decode cX9_sample 80 = .ok (.istore 5, 2) := by decide +kernel
theorem dX9_sample_82 : decode cX9_sample 82 = .ok (.iload 5, 2) := by decide +kernel
theorem dX9_sample_84 : decode cX9_sample 84 = .ok (.aload_n 0, 1) := by decide +kernel
theorem dX9_sample_85 : decode cX9_sample 85 = .ok (.getfield 115, 3) := by decide +kernel
theorem dX9_sample_88 : decode cX9_sample 88 = .ok (.if_icmp .gt 28, 3) := by decide +kernel
theorem dX9_sample_91 : decode cX9_sample 91 = .ok (.iload_n 3, 1) := by decide +kernel
theorem dX9_sample_92 : decode cX9_sample 92 = .ok (.aload_n 0, 1) := by decide +kernel
theorem dX9_sample_93 : decode cX9_sample 93 = .ok (.getfield 13, 3) := by decide +kernel
theorem dX9_sample_96 : decode cX9_sample 96 = .ok (.iload 5, 2) := by decide +kernel
theorem dX9_sample_98 : decode cX9_sample 98 = .ok (.iaload, 1) := by decide +kernel
theorem dX9_sample_99 : decode cX9_sample 99 = .ok (.iload_n 1, 1) := by decide +kernel
theorem dX9_sample_100 : decode cX9_sample 100 = .ok (.if_icmp .ne 7, 3) := by decide +kernel
theorem dX9_sample_103 : decode cX9_sample 103 = .ok (.iconst 1, 1) := by decide +kernel
theorem dX9_sample_104 : decode cX9_sample 104 = .ok (.goto 4, 3) := by decide +kernel
theorem dX9_sample_107 : decode cX9_sample 107 = .ok (.iconst 0, 1) := by decide +kernel
theorem dX9_sample_108 : decode cX9_sample 108 = .ok (.iadd, 1) := by decide +kernel
theorem dX9_sample_109 : decode cX9_sample 109 = .ok (.istore_n 3, 1) := by decide +kernel
theorem dX9_sample_110 : decode cX9_sample 110 = .ok (.iinc 5 1, 3) := by decide +kernel
theorem dX9_sample_113 : decode cX9_sample 113 = .ok (.goto (-31), 3) := by decide +kernel
theorem dX9_sample_116 : decode cX9_sample 116 = .ok (.iload_n 3, 1) := by decide +kernel
theorem dX9_sample_117 : decode cX9_sample 117 = .ok (.ireturn, 1) := by decide +kernel
theorem dX9_sample_118 : decode cX9_sample 118 = .ok (.aload_n 0, 1) := by decide +kernel
theorem dX9_sample_119 : decode cX9_sample 119 = .ok (.getfield 13, 3) := by decide +kernel
theorem dX9_sample_122 : decode cX9_sample 122 = .ok (.iload 4, 2) := by decide +kernel
theorem dX9_sample_124 : decode cX9_sample 124 = .ok (.iaload, 1) := by decide +kernel
theorem dX9_sample_125 : decode cX9_sample 125 = .ok (.ifCond .eq 18, 3) := by decide +kernel
theorem dX9_sample_128 : decode cX9_sample 128 = .ok (.aload_n 0, 1) := by decide +kernel
theorem dX9_sample_129 : decode cX9_sample 129 = .ok (.getfield 13, 3) := by decide +kernel
theorem dX9_sample_132 : decode cX9_sample 132 = .ok (.iload 4, 2) := by decide +kernel
theorem dX9_sample_134 : decode cX9_sample 134 = .ok (.iaload, 1) := by decide +kernel
theorem dX9_sample_135 : decode cX9_sample 135 = .ok (.istore 4, 2) := by decide +kernel
theorem dX9_sample_137 : decode cX9_sample 137 = .ok (.iinc 3 1, 3) := by decide +kernel
theorem dX9_sample_140 : decode cX9_sample 140 = .ok (.goto (-22), 3) := by decide +kernel
theorem dX9_sample_143 : decode cX9_sample 143 = .ok (.iload_n 2, 1) := by decide +kernel
theorem dX9_sample_144 : decode cX9_sample 144 = .ok (.iconst 3, 1) := by decide +kernel
theorem dX9_sample_145 : decode cX9_sample 145 = .ok (.if_icmp .ne 7, 3) := by decide +kernel
theorem dX9_sample_148 : decode cX9_sample 148 = .ok (.iload_n 3, 1) := by decide +kernel
theorem dX9_sample_149 : decode cX9_sample 149 = .ok (.goto 5, 3) := by decide +kernel
theorem dX9_sample_152 : decode cX9_sample 152 = .ok (.iload 4, 2) := by decide +kernel
theorem dX9_sample_154 : decode cX9_sample 154 = .ok (.ireturn, 1) := by decide +kernel
theorem dX9_sample_155 : decode cX9_sample 155 = .ok (.iconst (-1), 1) := by decide +kernel
theorem dX9_sample_156 : decode cX9_sample 156 = .ok (.ireturn, 1) := by decide +kernel
set_option maxRecDepth 20000 in
theorem ggX9_volume_X9_isHere : GoodIn wsX9_volume wsX9_isHere := goodIn_r _ [7, 8, 9, 10, 11, 12, 13, 14, 15, 16, 17, 18, 19, 20, 21, 22, 23, 24, 25, 26, 27, 28, 29] (by decide +kernel) (by decide +kernel)
set_option maxRecDepth 20000 in
theorem gX9_volume_X9_isHere : GoodIn wsX9_volume (wsV RX9 168 RX9 yX9_isHere wsX9_isHere) := goodIn_app (goodIn_of _ (by decide +kernel)) ggX9_volume_X9_isHere
theorem dX9_volume_0 : decode cX9_volume 0 = .ok (.aload_n 0, 1) := by decide +kernel
theorem dX9_volume_1 : decode cX9_volume 1 = .ok (.iload_n 1, 1) := by decide +kernel
theorem dX9_volume_2 : decode cX9_volume 2 = .ok (.invokevirtual 168, 3) := by decide +kernel
theorem dX9_volume_5 : decode cX9_volume 5 = .ok (.ifCond .eq 12, 3) := by decide +kernel
theorem dX9_volume_8 : decode cX9_volume 8 = .ok (.aload_n 0, 1) := by decide +kernel
theorem dX9_volume_9 : decode cX9_volume 9 = .ok (.getfield 24, 3) := by decide +kernel
theorem dX9_volume_12 : decode cX9_volume 12 = .ok (.iload_n 1, 1) := by decide +kernel
theorem dX9_volume_13 : decode cX9_volume 13 = .ok (.laload, 1) := by decide +kernel
theorem dX9_volume_14 : decode cX9_volume 14 = .ok (.goto 6, 3) := by decide +kernel
theorem dX9_volume_17 : decode cX9_volume 17 = .ok (.ldc2_w 171, 3) := by decide +kernel
theorem dX9_volume_20 : decode cX9_volume 20 = .ok (.lreturn, 1) := by decide +kernel
set_option maxRecDepth 20000 in
theorem ggX9_well_X9_isWell : GoodIn wsX9_well wsX9_isWell := goodIn_r _ [5] (by decide +kernel) (by decide +kernel)
set_option maxRecDepth 20000 in
theorem gX9_well_X9_isWell : GoodIn wsX9_well (va_wsS RX9 137 yX9_isWell wsX9_isWell) := goodIn_app (goodIn_of _ (by decide +kernel)) ggX9_well_X9_isWell
set_option maxRecDepth 20000 in
theorem ggX9_well_X9_liveIn : GoodIn wsX9_well wsX9_liveIn := goodIn_r _ [9, 10, 11, 12, 13, 14, 15, 16, 17, 18, 19, 20, 21, 22, 23, 24, 25, 26, 27, 28, 29, 30, 31, 32] (by decide +kernel) (by decide +kernel)
set_option maxRecDepth 20000 in
theorem gX9_well_X9_liveIn : GoodIn wsX9_well (wsV RX9 140 RX9 yX9_liveIn wsX9_liveIn) := goodIn_app (goodIn_of _ (by decide +kernel)) ggX9_well_X9_liveIn
theorem dX9_well_0 : decode cX9_well 0 = .ok (.aload_n 0, 1) := by decide +kernel
theorem dX9_well_1 : decode cX9_well 1 = .ok (.getfield 77, 3) := by decide +kernel
theorem dX9_well_4 : decode cX9_well 4 = .ok (.ifCond .ne 10, 3) := by decide +kernel
theorem dX9_well_7 : decode cX9_well 7 = .ok (.iload_n 1, 1) := by decide +kernel
theorem dX9_well_8 : decode cX9_well 8 = .ok (.invokestatic 137, 3) := by decide +kernel
theorem dX9_well_11 : decode cX9_well 11 = .ok (.ifCond .ne 7, 3) := by decide +kernel
theorem dX9_well_14 : decode cX9_well 14 = .ok (.iconst (-1), 1) := by decide +kernel
theorem dX9_well_15 : decode cX9_well 15 = .ok (.goto 8, 3) := by decide +kernel
theorem dX9_well_18 : decode cX9_well 18 = .ok (.aload_n 0, 1) := by decide +kernel
theorem dX9_well_19 : decode cX9_well 19 = .ok (.iload_n 1, 1) := by decide +kernel
theorem dX9_well_20 : decode cX9_well 20 = .ok (.invokevirtual 140, 3) := by decide +kernel
theorem dX9_well_23 : decode cX9_well 23 = .ok (.ireturn, 1) := by decide +kernel
set_option maxRecDepth 20000 in
theorem ggX9_total_X9_liveVolume : GoodIn wsX9_total wsX9_liveVolume := goodIn_r _ [11, 4, 6, 16, 17, 18, 19, 20, 21, 22, 23, 24, 25, 26, 27, 28, 29, 30, 31, 32, 33, 34, 35] (by decide +kernel) (by decide +kernel)
set_option maxRecDepth 20000 in
theorem gX9_total_X9_liveVolume : GoodIn wsX9_total (wsV RX9 143 RX9 yX9_liveVolume wsX9_liveVolume) := goodIn_app (goodIn_of _ (by decide +kernel)) ggX9_total_X9_liveVolume
set_option maxRecDepth 20000 in
theorem ggX9_total_X9_isHere : GoodIn wsX9_total wsX9_isHere := goodIn_r _ [15, 1, 4, 16, 17, 18, 19, 20, 21, 22, 23, 24, 25, 26, 27, 28, 29, 30, 31, 32, 33, 34, 35] (by decide +kernel) (by decide +kernel)
set_option maxRecDepth 20000 in
theorem gX9_total_X9_isHere : GoodIn wsX9_total (wsV RX9 168 RX9 yX9_isHere wsX9_isHere) := goodIn_app (goodIn_of _ (by decide +kernel)) ggX9_total_X9_isHere
theorem dX9_total_0 : decode cX9_total 0 = .ok (.aload_n 0, 1) := by decide +kernel
theorem dX9_total_1 : decode cX9_total 1 = .ok (.getfield 77, 3) := by decide +kernel
theorem dX9_total_4 : decode cX9_total 4 = .ok (.ifCond .eq 7, 3) := by decide +kernel
theorem dX9_total_7 : decode cX9_total 7 = .ok (.ldc2_w 171, 3) := by decide +kernel
theorem dX9_total_10 : decode cX9_total 10 = .ok (.lreturn, 1) := by decide +kernel
theorem dX9_total_11 : decode cX9_total 11 = .ok (.iload_n 1, 1) := by decide +kernel
theorem dX9_total_12 : decode cX9_total 12 = .ok (.tableswitch 133 0 3 #[32, 37, 42, 52], 32) := by decide +kernel
theorem dX9_total_44 : decode cX9_total 44 = .ok (.aload_n 0, 1) := by decide +kernel
theorem dX9_total_45 : decode cX9_total 45 = .ok (.invokevirtual 143, 3) := by decide +kernel
theorem dX9_total_48 : decode cX9_total 48 = .ok (.lreturn, 1) := by decide +kernel
theorem dX9_total_49 : decode cX9_total 49 = .ok (.aload_n 0, 1) := by decide +kernel
theorem dX9_total_50 : decode cX9_total 50 = .ok (.getfield 118, 3) := by decide +kernel
theorem dX9_total_53 : decode cX9_total 53 = .ok (.lreturn, 1) := by decide +kernel
theorem dX9_total_54 : decode cX9_total 54 = .ok (.aload_n 0, 1) := by decide +kernel
theorem dX9_total_55 : decode cX9_total 55 = .ok (.invokevirtual 143, 3) := by decide +kernel
theorem dX9_total_58 : decode cX9_total 58 = .ok (.aload_n 0, 1) := by decide +kernel
theorem dX9_total_59 : decode cX9_total 59 = .ok (.getfield 118, 3) := by decide +kernel
theorem dX9_total_62 : decode cX9_total 62 = .ok (.ladd, 1) := by decide +kernel
theorem dX9_total_63 : decode cX9_total 63 = .ok (.lreturn, 1) := by decide +kernel
theorem dX9_total_64 : decode cX9_total 64 = .ok (.aload_n 0, 1) := by decide +kernel
theorem dX9_total_65 : decode cX9_total 65 = .ok (.iload_n 2, 1) := by decide +kernel
theorem dX9_total_66 : decode cX9_total 66 = .ok (.invokevirtual 168, 3) := by decide +kernel
theorem dX9_total_69 : decode cX9_total 69 = .ok (.ifCond .ne 7, 3) := by decide +kernel
theorem dX9_total_72 : decode cX9_total 72 = .ok (.ldc2_w 171, 3) := by decide +kernel
theorem dX9_total_75 : decode cX9_total 75 = .ok (.lreturn, 1) := by decide +kernel
theorem dX9_total_76 : decode cX9_total 76 = .ok (.lconst 0, 1) := by decide +kernel
theorem dX9_total_77 : decode cX9_total 77 = .ok (.lstore_n 3, 1) := by decide +kernel
theorem dX9_total_78 : decode cX9_total 78 = .ok (.iconst 1, 1) := by decide +kernel
theorem dX9_total_79 : decode cX9_total 79 = .ok (.istore 5, 2) := by decide +kernel
theorem dX9_total_81 : decode cX9_total 81 = .ok (.iload 5, 2) := by decide +kernel
theorem dX9_total_83 : decode cX9_total 83 = .ok (.aload_n 0, 1) := by decide +kernel
theorem dX9_total_84 : decode cX9_total 84 = .ok (.getfield 115, 3) := by decide +kernel
theorem dX9_total_87 : decode cX9_total 87 = .ok (.if_icmp .gt 56, 3) := by decide +kernel
theorem dX9_total_90 : decode cX9_total 90 = .ok (.iload 5, 2) := by decide +kernel
theorem dX9_total_92 : decode cX9_total 92 = .ok (.istore 6, 2) := by decide +kernel
theorem dX9_total_94 : decode cX9_total 94 = .ok (.iload 6, 2) := by decide +kernel
theorem dX9_total_96 : decode cX9_total 96 = .ok (.iload_n 2, 1) := by decide +kernel
theorem dX9_total_97 : decode cX9_total 97 = .ok (.if_icmp .eq 20, 3) := by decide +kernel
theorem dX9_total_100 : decode cX9_total 100 = .ok (.iload 6, 2) := by decide +kernel
theorem dX9_total_102 : decode cX9_total 102 = .ok (.ifCond .eq 15, 3) := by decide +kernel
theorem dX9_total_105 : decode cX9_total 105 = .ok (.aload_n 0, 1) := by decide +kernel
theorem dX9_total_106 : decode cX9_total 106 = .ok (.getfield 13, 3) := by decide +kernel
theorem dX9_total_109 : decode cX9_total 109 = .ok (.iload 6, 2) := by decide +kernel
theorem dX9_total_111 : decode cX9_total 111 = .ok (.iaload, 1) := by decide +kernel
theorem dX9_total_112 : decode cX9_total 112 = .ok (.istore 6, 2) := by decide +kernel
theorem dX9_total_114 : decode cX9_total 114 = .ok (.goto (-20), 3) := by decide +kernel
theorem dX9_total_117 : decode cX9_total 117 = .ok (.lload_n 3, 1) := by decide +kernel
theorem dX9_total_118 : decode cX9_total 118 = .ok (.iload 6, 2) := by decide +kernel
theorem dX9_total_120 : decode cX9_total 120 = .ok (.iload_n 2, 1) := by decide +kernel
theorem dX9_total_121 : decode cX9_total 121 = .ok (.if_icmp .ne 13, 3) := by decide +kernel
theorem dX9_total_124 : decode cX9_total 124 = .ok (.aload_n 0, 1) := by decide +kernel
theorem dX9_total_125 : decode cX9_total 125 = .ok (.getfield 24, 3) := by decide +kernel
theorem dX9_total_128 : decode cX9_total 128 = .ok (.iload 5, 2) := by decide +kernel
theorem dX9_total_130 : decode cX9_total 130 = .ok (.laload, 1) := by decide +kernel
theorem dX9_total_131 : decode cX9_total 131 = .ok (.goto 4, 3) := by decide +kernel
theorem dX9_total_134 : decode cX9_total 134 = .ok (.lconst 0, 1) := by decide +kernel
theorem dX9_total_135 : decode cX9_total 135 = .ok (.ladd, 1) := by decide +kernel
theorem dX9_total_136 : decode cX9_total 136 = .ok (.lstore_n 3, 1) := by decide +kernel
theorem dX9_total_137 : decode cX9_total 137 = .ok (.iinc 5 1, 3) := by decide +kernel
theorem dX9_total_140 : decode cX9_total 140 = .ok (.goto (-59), 3) := by decide +kernel
theorem dX9_total_143 : decode cX9_total 143 = .ok (.lload_n 3, 1) := by decide +kernel
theorem dX9_total_144 : decode cX9_total 144 = .ok (.lreturn, 1) := by decide +kernel
theorem dX9_total_145 : decode cX9_total 145 = .ok (.ldc2_w 171, 3) := by decide +kernel
theorem dX9_total_148 : decode cX9_total 148 = .ok (.lreturn, 1) := by decide +kernel
set_option maxRecDepth 20000 in
theorem ggX9_count_X9_generation : GoodIn wsX9_count wsX9_generation := goodIn_r _ [14, 15, 16, 17, 13, 18, 19, 20, 21, 22, 23, 24, 25, 26, 27, 28, 29, 30, 31, 32, 33, 34, 35, 36, 37, 38] (by decide +kernel) (by decide +kernel)
set_option maxRecDepth 20000 in
theorem gX9_count_X9_generation : GoodIn wsX9_count (wsV RX9 96 RX9 yX9_generation wsX9_generation) := goodIn_app (goodIn_of _ (by decide +kernel)) ggX9_count_X9_generation
theorem dX9_count_0 : decode cX9_count 0 = .ok (.iconst 0, 1) := by decide +kernel
theorem dX9_count_1 : decode cX9_count 1 = .ok (.istore_n 2, 1) := by decide +kernel
theorem dX9_count_2 : decode cX9_count 2 = .ok (.aload_n 0, 1) := by decide +kernel
theorem dX9_count_3 : decode cX9_count 3 = .ok (.getfield 77, 3) := by decide +kernel
theorem dX9_count_6 : decode cX9_count 6 = .ok (.ifCond .eq 10, 3) := by decide +kernel
theorem dX9_count_9 : decode cX9_count 9 = .ok (.iload_n 1, 1) := by decide +kernel
theorem dX9_count_10 : decode cX9_count 10 = .ok (.iconst 3, 1) := by decide +kernel
theorem dX9_count_11 : decode cX9_count 11 = .ok (.if_icmp .le 5, 3) := by decide +kernel
theorem dX9_count_14 : decode cX9_count 14 = .ok (.iconst (-1), 1) := by decide +kernel
theorem dX9_count_15 : decode cX9_count 15 = .ok (.ireturn, 1) := by decide +kernel
theorem dX9_count_16 : decode cX9_count 16 = .ok (.iload_n 1, 1) := by decide +kernel
theorem dX9_count_17 : decode cX9_count 17 = .ok (.tableswitch 148 0 9 #[55, 68, 73, 78, 83, 88, 98, 103, 108, 143], 55) := by decide +kernel
theorem dX9_count_72 : decode cX9_count 72 = .ok (.aload_n 0, 1) := by decide +kernel
theorem dX9_count_73 : decode cX9_count 73 = .ok (.getfield 77, 3) := by decide +kernel
theorem dX9_count_76 : decode cX9_count 76 = .ok (.ifCond .eq 7, 3) := by decide +kernel
theorem dX9_count_79 : decode cX9_count 79 = .ok (.iconst 0, 1) := by decide +kernel
theorem dX9_count_80 : decode cX9_count 80 = .ok (.goto 4, 3) := by decide +kernel
theorem dX9_count_83 : decode cX9_count 83 = .ok (.iconst 1, 1) := by decide +kernel
theorem dX9_count_84 : decode cX9_count 84 = .ok (.ireturn, 1) := by decide +kernel
theorem dX9_count_85 : decode cX9_count 85 = .ok (.aload_n 0, 1) := by decide +kernel
theorem dX9_count_86 : decode cX9_count 86 = .ok (.getfield 35, 3) := by decide +kernel
theorem dX9_count_89 : decode cX9_count 89 = .ok (.ireturn, 1) := by decide +kernel
theorem dX9_count_90 : decode cX9_count 90 = .ok (.aload_n 0, 1) := by decide +kernel
theorem dX9_count_91 : decode cX9_count 91 = .ok (.getfield 74, 3) := by decide +kernel
theorem dX9_count_94 : decode cX9_count 94 = .ok (.ireturn, 1) := by decide +kernel
theorem dX9_count_95 : decode cX9_count 95 = .ok (.aload_n 0, 1) := by decide +kernel
theorem dX9_count_96 : decode cX9_count 96 = .ok (.getfield 81, 3) := by decide +kernel
theorem dX9_count_99 : decode cX9_count 99 = .ok (.ireturn, 1) := by decide +kernel
theorem dX9_count_100 : decode cX9_count 100 = .ok (.aload_n 0, 1) := by decide +kernel
theorem dX9_count_101 : decode cX9_count 101 = .ok (.getfield 100, 3) := by decide +kernel
theorem dX9_count_104 : decode cX9_count 104 = .ok (.ireturn, 1) := by decide +kernel
theorem dX9_count_105 : decode cX9_count 105 = .ok (.aload_n 0, 1) := by decide +kernel
theorem dX9_count_106 : decode cX9_count 106 = .ok (.aload_n 0, 1) := by decide +kernel
theorem dX9_count_107 : decode cX9_count 107 = .ok (.getfield 100, 3) := by decide +kernel
theorem dX9_count_110 : decode cX9_count 110 = .ok (.invokevirtual 96, 3) := by decide +kernel
theorem dX9_count_113 : decode cX9_count 113 = .ok (.l2i, 1) := by decide +kernel
theorem dX9_count_114 : decode cX9_count 114 = .ok (.ireturn, 1) := by decide +kernel
theorem dX9_count_115 : decode cX9_count 115 = .ok (.aload_n 0, 1) := by decide +kernel
theorem dX9_count_116 : decode cX9_count 116 = .ok (.getfield 103, 3) := by decide +kernel
theorem dX9_count_119 : decode cX9_count 119 = .ok (.ireturn, 1) := by decide +kernel
theorem dX9_count_120 : decode cX9_count 120 = .ok (.aload_n 0, 1) := by decide +kernel
theorem dX9_count_121 : decode cX9_count 121 = .ok (.getfield 115, 3) := by decide +kernel
theorem dX9_count_124 : decode cX9_count 124 = .ok (.ireturn, 1) := by decide +kernel
theorem dX9_count_125 : decode cX9_count 125 = .ok (.iconst 1, 1) := by decide +kernel
theorem dX9_count_126 : decode cX9_count 126 = .ok (.istore_n 3, 1) := by decide +kernel
theorem dX9_count_127 : decode cX9_count 127 = .ok (.iload_n 3, 1) := by decide +kernel
theorem dX9_count_128 : decode cX9_count 128 = .ok (.aload_n 0, 1) := by decide +kernel
theorem dX9_count_129 : decode cX9_count 129 = .ok (.getfield 115, 3) := by decide +kernel
theorem dX9_count_132 : decode cX9_count 132 = .ok (.if_icmp .gt 26, 3) := by decide +kernel
theorem dX9_count_135 : decode cX9_count 135 = .ok (.iload_n 2, 1) := by decide +kernel
theorem dX9_count_136 : decode cX9_count 136 = .ok (.aload_n 0, 1) := by decide +kernel
theorem dX9_count_137 : decode cX9_count 137 = .ok (.getfield 20, 3) := by decide +kernel
theorem dX9_count_140 : decode cX9_count 140 = .ok (.iload_n 3, 1) := by decide +kernel
theorem dX9_count_141 : decode cX9_count 141 = .ok (.baload, 1) := by decide +kernel
theorem dX9_count_142 : decode cX9_count 142 = .ok (.ifCond .eq 7, 3) := by decide +kernel
theorem dX9_count_145 : decode cX9_count 145 = .ok (.iconst 1, 1) := by decide +kernel
theorem dX9_count_146 : decode cX9_count 146 = .ok (.goto 4, 3) := by decide +kernel
theorem dX9_count_149 : decode cX9_count 149 = .ok (.iconst 0, 1) := by decide +kernel
theorem dX9_count_150 : decode cX9_count 150 = .ok (.iadd, 1) := by decide +kernel
theorem dX9_count_151 : decode cX9_count 151 = .ok (.istore_n 2, 1) := by decide +kernel
theorem dX9_count_152 : decode cX9_count 152 = .ok (.iinc 3 1, 3) := by decide +kernel
theorem dX9_count_155 : decode cX9_count 155 = .ok (.goto (-28), 3) := by decide +kernel
theorem dX9_count_158 : decode cX9_count 158 = .ok (.iload_n 2, 1) := by decide +kernel
theorem dX9_count_159 : decode cX9_count 159 = .ok (.ireturn, 1) := by decide +kernel
theorem dX9_count_160 : decode cX9_count 160 = .ok (.aload_n 0, 1) := by decide +kernel
theorem dX9_count_161 : decode cX9_count 161 = .ok (.getfield 109, 3) := by decide +kernel
theorem dX9_count_164 : decode cX9_count 164 = .ok (.ireturn, 1) := by decide +kernel
theorem dX9_count_165 : decode cX9_count 165 = .ok (.iconst (-1), 1) := by decide +kernel
theorem dX9_count_166 : decode cX9_count 166 = .ok (.ireturn, 1) := by decide +kernel
theorem dJ9_max_7cf53_0 : decode cJ9_max_7cf53 0 = .ok (.iload_n 0, 1) := by decide +kernel
theorem dJ9_max_7cf53_1 : decode cJ9_max_7cf53 1 = .ok (.iload_n 1, 1) := by decide +kernel
theorem dJ9_max_7cf53_2 : decode cJ9_max_7cf53 2 = .ok (.if_icmp .lt 7, 3) := by decide +kernel
theorem dJ9_max_7cf53_5 : decode cJ9_max_7cf53 5 = .ok (.iload_n 0, 1) := by decide +kernel
theorem dJ9_max_7cf53_6 : decode cJ9_max_7cf53 6 = .ok (.goto 4, 3) := by decide +kernel
theorem dJ9_max_7cf53_9 : decode cJ9_max_7cf53 9 = .ok (.iload_n 1, 1) := by decide +kernel
theorem dJ9_max_7cf53_10 : decode cJ9_max_7cf53 10 = .ok (.ireturn, 1) := by decide +kernel
theorem dJ9_min_7cf53_0 : decode cJ9_min_7cf53 0 = .ok (.iload_n 0, 1) := by decide +kernel
theorem dJ9_min_7cf53_1 : decode cJ9_min_7cf53 1 = .ok (.iload_n 1, 1) := by decide +kernel
theorem dJ9_min_7cf53_2 : decode cJ9_min_7cf53 2 = .ok (.if_icmp .gt 7, 3) := by decide +kernel
theorem dJ9_min_7cf53_5 : decode cJ9_min_7cf53 5 = .ok (.iload_n 0, 1) := by decide +kernel
theorem dJ9_min_7cf53_6 : decode cJ9_min_7cf53 6 = .ok (.goto 4, 3) := by decide +kernel
theorem dJ9_min_7cf53_9 : decode cJ9_min_7cf53 9 = .ok (.iload_n 1, 1) := by decide +kernel
theorem dJ9_min_7cf53_10 : decode cJ9_min_7cf53 10 = .ok (.ireturn, 1) := by decide +kernel
theorem dL_cell_0 : decode cL_cell 0 = .ok (.iload_n 1, 1) := by decide +kernel
theorem dL_cell_1 : decode cL_cell 1 = .ok (.aload_n 0, 1) := by decide +kernel
theorem dL_cell_2 : decode cL_cell 2 = .ok (.arraylength, 1) := by decide +kernel
theorem dL_cell_3 : decode cL_cell 3 = .ok (.if_icmp .ge 9, 3) := by decide +kernel
theorem dL_cell_6 : decode cL_cell 6 = .ok (.aload_n 0, 1) := by decide +kernel
theorem dL_cell_7 : decode cL_cell 7 = .ok (.iload_n 1, 1) := by decide +kernel
theorem dL_cell_8 : decode cL_cell 8 = .ok (.iaload, 1) := by decide +kernel
theorem dL_cell_9 : decode cL_cell 9 = .ok (.goto 4, 3) := by decide +kernel
theorem dL_cell_12 : decode cL_cell 12 = .ok (.iconst 0, 1) := by decide +kernel
theorem dL_cell_13 : decode cL_cell 13 = .ok (.ireturn, 1) := by decide +kernel
set_option maxRecDepth 20000 in
theorem ggL_law_L_cell : GoodIn wsL_law wsL_cell := goodIn_r _ [10] (by decide +kernel) (by decide +kernel)
set_option maxRecDepth 20000 in
theorem gL_law_L_cell : GoodIn wsL_law (va_wsS RL 9 yL_cell wsL_cell) := goodIn_app (goodIn_of _ (by decide +kernel)) ggL_law_L_cell
set_option maxRecDepth 20000 in
theorem ggL_law_X8_init : GoodIn wsL_law wsX8_init := goodIn_r _ [13, 14, 15, 16, 17, 18, 19, 20, 21, 22, 23, 24, 25, 26, 27, 28, 29, 30, 31, 32, 33, 34, 35, 36, 37, 38, 39, 40, 41, 42, 43, 44, 45, 46, 47, 48, 49, 50, 51, 52, 53, 54, 55, 56, 57, 58, 59, 60, 61, 62, 63, 64, 65, 66, 67, 68, 69, 70, 71, 72, 73, 74, 75, 76, 77, 78, 79, 80, 81, 82, 83, 84, 85, 86, 87, 88, 89, 90, 91, 92, 93, 94, 95, 96, 97, 98, 99, 100, 101, 102, 103, 104, 105, 106, 107, 108, 109, 110, 111, 112, 113, 114, 115, 116, 117, 118, 119, 120, 121, 122, 123, 124, 125, 126, 127, 128, 129, 130, 131, 132, 133, 134, 135, 136, 137, 138, 139, 738, 739, 740, 741, 742, 714, 715, 716, 717, 743, 744, 745, 746, 747, 748, 749, 750, 751, 752, 753, 754, 755, 756, 757, 758, 759, 760, 761, 762, 763, 764, 765, 766, 767, 768, 769, 770] (by decide +kernel) (by decide +kernel)
set_option maxRecDepth 20000 in
theorem gL_law_X8_init : GoodIn wsL_law (wsX8_init) := ggL_law_X8_init
set_option maxRecDepth 20000 in
theorem ggL_law_X9_init : GoodIn wsL_law wsX9_init := goodIn_r _ [142, 143, 15, 16, 144, 111, 145, 146, 116, 147, 114, 148, 70, 149, 150, 151, 152, 153, 154, 155, 156, 157, 5, 158, 159, 160, 161, 162, 163, 164, 165, 166, 167, 168, 169, 170, 171, 172, 173, 174, 175, 176, 177, 178, 179, 180, 181, 182, 183, 184, 185, 186, 187, 188, 189, 190, 191, 192, 193, 194, 195, 718, 719, 720, 721, 722, 723, 724, 725, 726, 727, 728, 729, 730, 731, 732, 733, 734, 735, 736, 737] (by decide +kernel) (by decide +kernel)
set_option maxRecDepth 20000 in
theorem gL_law_X9_init : GoodIn wsL_law (wsX9_init) := ggL_law_X9_init
set_option maxRecDepth 20000 in
theorem ggL_law_X8_register : GoodIn wsL_law wsX8_register := goodIn_r _ [199, 39, 35, 200, 201, 202, 38, 203, 136, 137, 138, 139, 204, 205, 206, 34, 207, 208, 123, 209, 210, 211, 212, 122, 213, 214, 215, 216, 115, 217, 218, 219, 220, 221, 222, 223, 224, 2, 225, 226, 227, 228, 229, 20, 230, 231, 232, 19, 233, 43, 234, 235, 236, 237, 238, 239, 240, 241, 242, 243, 244, 113, 245, 246, 247, 248, 249, 250, 251, 252, 31, 253, 254, 255, 23, 256, 53, 257, 258, 259, 260, 261, 262, 263, 264, 265, 266, 267, 268, 269, 270, 271, 272, 273, 274, 275, 276, 58, 277, 278, 279, 57, 280, 71, 281, 282, 283, 284, 285, 286, 287, 288, 63, 52, 54, 289, 290, 291, 292, 59, 293, 294, 295, 62, 296, 79, 76, 297, 298, 299, 300, 77, 301, 84, 85, 86, 87, 88, 89, 90, 91, 92, 93, 94, 95, 96, 78, 97, 98, 99, 100, 44, 45, 46, 47, 101, 102, 103, 104, 302, 303, 304, 105, 106, 107, 305, 306, 307, 308, 309, 310, 311, 312, 313, 314, 315, 316, 317, 318, 319, 320, 321, 121, 322, 323, 324, 120, 325, 132, 127, 128, 129, 130, 131, 326, 327, 328, 329, 112, 330, 331, 332, 333, 334, 335, 336, 337, 338, 339, 340, 341, 342, 343, 344, 345, 346, 347, 348, 349, 350, 351, 352, 353, 354, 355, 356, 357, 358, 359, 360, 361, 362, 363, 364, 365, 366, 367, 368, 369, 370, 371, 372, 373, 374, 375, 376, 377, 378, 714, 715, 716, 717, 756, 757, 758, 759, 749, 750, 751, 752, 753, 754, 755, 738, 739, 740, 741, 742, 743, 744, 745, 746, 747, 748, 760, 761, 762, 763, 764, 765, 766, 767, 768, 769, 770] (by decide +kernel) (by decide +kernel)
set_option maxRecDepth 20000 in
theorem gL_law_X8_register : GoodIn wsL_law (wsV RL 23 RX8 yX8_register wsX8_register) := goodIn_app (goodIn_of _ (by decide +kernel)) ggL_law_X8_register
set_option maxRecDepth 20000 in
theorem ggL_law_X9_register : GoodIn wsL_law wsX9_register := goodIn_r _ [382, 383, 180, 384, 179, 385, 386, 5, 387, 388, 389, 390, 391, 147, 146, 392, 393, 394, 395, 148, 396, 397, 398, 399, 178, 151, 400, 401, 402, 403, 404, 405, 406, 154, 159, 160, 161, 162, 163, 164, 165, 166, 149, 407, 408, 409, 410, 155, 156, 157, 158, 411, 412, 413, 414, 175, 415, 416, 417, 418, 167, 168, 169, 170, 419, 420, 421, 422, 423, 424, 425, 426, 144, 153, 427, 428, 429, 430, 431, 432, 171, 172, 173, 174, 176, 177, 150, 181, 182, 183, 184, 185, 186, 187, 188, 189, 190, 191, 192, 193, 194, 195, 145, 718, 719, 720, 721, 722, 723, 724, 725, 726, 727, 728, 729, 730, 731, 732, 733, 734, 735, 736, 737] (by decide +kernel) (by decide +kernel)
set_option maxRecDepth 20000 in
theorem gL_law_X9_register : GoodIn wsL_law (wsV RL 27 RX9 yX9_register wsX9_register) := goodIn_app (goodIn_of _ (by decide +kernel)) ggL_law_X9_register
set_option maxRecDepth 20000 in
theorem ggL_law_X8_aliquot : GoodIn wsL_law wsX8_aliquot := goodIn_r _ [436, 39, 35, 200, 201, 202, 38, 203, 136, 137, 138, 139, 437, 438, 439, 34, 440, 241, 242, 243, 244, 113, 218, 219, 220, 221, 122, 441, 214, 215, 216, 115, 217, 222, 223, 224, 2, 225, 226, 227, 228, 229, 20, 230, 231, 232, 19, 233, 43, 234, 235, 236, 237, 238, 239, 240, 245, 246, 247, 248, 249, 250, 251, 252, 31, 253, 254, 255, 23, 256, 53, 257, 258, 259, 260, 261, 262, 263, 264, 265, 266, 267, 268, 269, 270, 271, 272, 273, 274, 275, 276, 58, 277, 278, 279, 57, 280, 71, 281, 282, 283, 284, 285, 286, 287, 288, 63, 52, 54, 289, 290, 291, 292, 59, 293, 294, 295, 62, 296, 79, 76, 297, 298, 299, 300, 77, 301, 84, 85, 86, 87, 88, 89, 90, 91, 92, 93, 94, 95, 96, 78, 97, 98, 99, 100, 44, 45, 46, 47, 101, 102, 103, 104, 302, 303, 304, 105, 106, 107, 305, 306, 307, 308, 309, 310, 311, 312, 313, 123, 314, 315, 316, 317, 318, 319, 320, 321, 121, 213, 322, 323, 324, 120, 325, 132, 127, 128, 129, 130, 131, 326, 327, 328, 329, 112, 330, 331, 332, 333, 334, 335, 336, 337, 338, 339, 340, 341, 342, 343, 344, 345, 346, 347, 348, 349, 350, 351, 352, 353, 354, 355, 356, 357, 358, 359, 360, 361, 362, 363, 364, 365, 366, 367, 368, 369, 370, 371, 372, 373, 374, 375, 376, 377, 378, 714, 715, 716, 717, 756, 757, 758, 759, 749, 750, 751, 752, 753, 754, 755, 738, 739, 740, 741, 742, 743, 744, 745, 746, 747, 748, 760, 761, 762, 763, 764, 765, 766, 767, 768, 769, 770] (by decide +kernel) (by decide +kernel)
set_option maxRecDepth 20000 in
theorem gL_law_X8_aliquot : GoodIn wsL_law (wsV RL 28 RX8 yX8_aliquot wsX8_aliquot) := goodIn_app (goodIn_of _ (by decide +kernel)) ggL_law_X8_aliquot
set_option maxRecDepth 20000 in
theorem ggL_law_X9_aliquot : GoodIn wsL_law wsX9_aliquot := goodIn_r _ [445, 383, 148, 179, 446, 447, 448, 5, 449, 147, 385, 386, 387, 388, 389, 390, 391, 146, 396, 397, 398, 399, 178, 151, 400, 401, 402, 403, 404, 405, 406, 154, 159, 160, 161, 162, 163, 164, 165, 166, 149, 407, 408, 409, 410, 155, 156, 157, 158, 411, 412, 413, 414, 175, 415, 416, 417, 418, 167, 168, 169, 170, 419, 420, 421, 422, 423, 424, 425, 426, 144, 153, 427, 428, 429, 430, 431, 432, 171, 172, 173, 174, 176, 177, 150, 180, 181, 182, 183, 184, 185, 186, 187, 188, 189, 190, 191, 192, 193, 194, 195, 145, 718, 719, 720, 721, 722, 723, 724, 725, 726, 727, 728, 729, 730, 731, 732, 733, 734, 735, 736, 737] (by decide +kernel) (by decide +kernel)
set_option maxRecDepth 20000 in
theorem gL_law_X9_aliquot : GoodIn wsL_law (wsV RL 32 RX9 yX9_aliquot wsX9_aliquot) := goodIn_app (goodIn_of _ (by decide +kernel)) ggL_law_X9_aliquot
set_option maxRecDepth 20000 in
theorem ggL_law_X8_move : GoodIn wsL_law wsX8_move := goodIn_r _ [453, 39, 35, 200, 201, 202, 38, 203, 136, 137, 138, 139, 437, 438, 439, 34, 440, 241, 242, 243, 244, 113, 218, 219, 220, 221, 122, 226, 227, 228, 2, 229, 20, 230, 231, 232, 19, 233, 43, 234, 235, 236, 237, 238, 239, 240, 249, 250, 251, 252, 31, 253, 254, 255, 23, 256, 53, 257, 258, 259, 260, 261, 262, 263, 264, 265, 266, 267, 268, 269, 270, 271, 272, 273, 274, 275, 276, 58, 277, 278, 279, 57, 280, 71, 281, 282, 283, 284, 285, 286, 287, 288, 63, 52, 54, 289, 290, 291, 292, 59, 293, 294, 295, 62, 296, 79, 76, 297, 298, 299, 300, 77, 301, 84, 85, 86, 87, 88, 89, 90, 91, 92, 93, 94, 95, 96, 78, 97, 98, 99, 100, 44, 45, 46, 47, 101, 102, 103, 104, 302, 303, 304, 105, 106, 107, 305, 306, 307, 308, 309, 310, 311, 312, 313, 123, 314, 315, 316, 317, 318, 319, 320, 321, 121, 213, 214, 215, 216, 115, 217, 322, 323, 324, 120, 325, 132, 127, 128, 129, 130, 131, 326, 327, 328, 329, 112, 330, 246, 247, 248, 331, 332, 333, 334, 335, 336, 337, 338, 339, 340, 341, 342, 343, 344, 345, 346, 347, 348, 349, 350, 351, 352, 353, 354, 355, 356, 357, 358, 359, 360, 361, 362, 363, 364, 365, 366, 367, 368, 369, 370, 371, 372, 373, 374, 714, 715, 716, 717, 756, 757, 758, 759, 749, 750, 751, 752, 753, 754, 755, 738, 739, 740, 741, 742, 743, 744, 745, 746, 747, 748, 760, 761, 762, 763, 764, 765, 766, 767, 768, 769, 770] (by decide +kernel) (by decide +kernel)
set_option maxRecDepth 20000 in
theorem gL_law_X8_move : GoodIn wsL_law (wsV RL 33 RX8 yX8_move wsX8_move) := goodIn_app (goodIn_of _ (by decide +kernel)) ggL_law_X8_move
set_option maxRecDepth 20000 in
theorem ggL_law_X9_move : GoodIn wsL_law wsX9_move := goodIn_r _ [457, 383, 446, 447, 448, 5, 449, 179, 147, 385, 386, 387, 388, 389, 390, 391, 146, 396, 397, 398, 399, 178, 151, 400, 401, 402, 403, 404, 405, 406, 154, 159, 160, 161, 162, 163, 164, 165, 166, 149, 411, 412, 413, 414, 175, 415, 416, 417, 418, 167, 168, 169, 170, 155, 156, 157, 158, 419, 420, 421, 422, 423, 424, 425, 426, 144, 153, 427, 428, 429, 430, 431, 432, 171, 172, 173, 174, 176, 177, 150, 180, 181, 182, 183, 184, 185, 186, 187, 188, 189, 190, 191, 148, 192, 193, 194, 195, 145, 718, 719, 720, 721, 722, 723, 724, 725, 726, 727, 728, 729, 730, 731, 732, 733, 734, 735, 736, 737] (by decide +kernel) (by decide +kernel)
set_option maxRecDepth 20000 in
theorem gL_law_X9_move : GoodIn wsL_law (wsV RL 37 RX9 yX9_move wsX9_move) := goodIn_app (goodIn_of _ (by decide +kernel)) ggL_law_X9_move
set_option maxRecDepth 20000 in
theorem ggL_law_X8_discard : GoodIn wsL_law wsX8_discard := goodIn_r _ [461, 39, 20, 35, 200, 201, 202, 38, 203, 136, 137, 138, 139, 230, 231, 232, 19, 233, 43, 437, 438, 439, 34, 440, 241, 242, 243, 244, 113, 218, 219, 220, 221, 122, 249, 250, 251, 2, 252, 31, 253, 254, 255, 23, 256, 53, 257, 258, 259, 260, 261, 262, 263, 264, 265, 266, 267, 268, 269, 270, 271, 272, 273, 274, 275, 276, 58, 277, 278, 279, 57, 280, 71, 281, 282, 283, 284, 285, 286, 287, 288, 63, 52, 54, 289, 290, 291, 292, 59, 293, 294, 295, 62, 296, 79, 76, 297, 298, 299, 300, 77, 301, 84, 85, 86, 87, 88, 89, 90, 91, 92, 93, 94, 95, 96, 78, 97, 98, 99, 100, 44, 45, 46, 47, 101, 102, 103, 104, 302, 303, 304, 105, 106, 107, 305, 306, 307, 308, 309, 310, 311, 312, 313, 123, 314, 315, 316, 317, 318, 319, 320, 321, 121, 213, 214, 215, 216, 115, 217, 322, 323, 324, 120, 325, 132, 127, 128, 129, 130, 131, 326, 327, 328, 329, 112, 330, 246, 247, 248, 331, 332, 333, 334, 335, 336, 337, 338, 339, 340, 341, 342, 343, 344, 345, 346, 347, 348, 349, 350, 351, 352, 353, 354, 355, 356, 357, 358, 359, 360, 361, 362, 363, 364, 365, 366, 367, 368, 369, 370, 371, 372, 373, 374, 714, 715, 716, 717, 756, 757, 758, 759, 738, 739, 740, 741, 742, 749, 750, 751, 752, 753, 754, 755, 743, 744, 745, 746, 747, 748, 760, 761, 762, 763, 764, 765, 766, 767, 768, 769, 770] (by decide +kernel) (by decide +kernel)
set_option maxRecDepth 20000 in
theorem gL_law_X8_discard : GoodIn wsL_law (wsV RL 38 RX8 yX8_discard wsX8_discard) := goodIn_app (goodIn_of _ (by decide +kernel)) ggL_law_X8_discard
set_option maxRecDepth 20000 in
theorem ggL_law_X9_discard : GoodIn wsL_law wsX9_discard := goodIn_r _ [465, 383, 446, 447, 448, 5, 449, 179, 147, 396, 397, 398, 399, 178, 151, 400, 401, 402, 403, 404, 405, 406, 154, 159, 160, 161, 162, 163, 164, 165, 166, 149, 411, 412, 413, 414, 175, 415, 416, 417, 418, 167, 168, 169, 170, 155, 156, 157, 158, 419, 420, 421, 422, 423, 424, 425, 426, 144, 153, 427, 428, 429, 430, 431, 432, 171, 172, 173, 174, 176, 177, 150, 180, 181, 182, 183, 184, 185, 186, 187, 188, 189, 190, 191, 148, 146, 192, 193, 194, 195, 145, 718, 719, 720, 721, 722, 723, 724, 725, 726, 727, 728, 729, 730, 731, 732, 733, 734, 735, 736, 737] (by decide +kernel) (by decide +kernel)
set_option maxRecDepth 20000 in
theorem gL_law_X9_discard : GoodIn wsL_law (wsV RL 42 RX9 yX9_discard wsX9_discard) := goodIn_app (goodIn_of _ (by decide +kernel)) ggL_law_X9_discard
set_option maxRecDepth 20000 in
theorem ggL_law_X8_undo : GoodIn wsL_law wsX8_undo := goodIn_r _ [469, 39, 20, 35, 200, 201, 202, 38, 203, 136, 137, 138, 139, 230, 231, 232, 19, 233, 43, 249, 250, 251, 2, 252, 31, 253, 254, 255, 23, 256, 53, 257, 258, 259, 260, 261, 262, 263, 264, 265, 266, 267, 268, 269, 270, 271, 272, 273, 274, 275, 276, 58, 277, 278, 279, 57, 280, 71, 470, 471, 472, 34, 473, 121, 474, 475, 476, 120, 477, 132, 281, 282, 283, 284, 285, 286, 287, 288, 63, 52, 54, 289, 290, 291, 292, 59, 293, 294, 295, 62, 296, 79, 76, 297, 298, 299, 300, 77, 301, 84, 85, 86, 87, 88, 89, 90, 91, 92, 93, 94, 95, 96, 78, 97, 98, 99, 100, 44, 45, 46, 47, 101, 102, 103, 104, 302, 303, 304, 105, 106, 107, 305, 306, 307, 308, 309, 310, 311, 312, 313, 123, 314, 315, 316, 317, 318, 319, 320, 321, 122, 241, 242, 243, 244, 113, 218, 219, 220, 221, 213, 214, 215, 216, 115, 217, 322, 323, 324, 325, 127, 128, 129, 130, 131, 326, 327, 328, 329, 112, 330, 246, 247, 248, 331, 332, 333, 334, 335, 336, 337, 338, 339, 340, 341, 342, 343, 344, 345, 346, 347, 348, 349, 350, 351, 352, 353, 354, 355, 356, 357, 358, 359, 360, 361, 362, 363, 364, 365, 366, 367, 368, 369, 370, 371, 372, 373, 374, 714, 715, 716, 717, 756, 757, 758, 759, 738, 739, 740, 741, 742, 743, 744, 745, 746, 747, 748, 760, 749, 750, 751, 752, 753, 754, 755, 765, 766, 767, 768, 769, 770, 761, 762, 763, 764] (by decide +kernel) (by decide +kernel)
set_option maxRecDepth 20000 in
theorem gL_law_X8_undo : GoodIn wsL_law (wsV RL 43 RX8 yX8_undo wsX8_undo) := goodIn_app (goodIn_of _ (by decide +kernel)) ggL_law_X8_undo
set_option maxRecDepth 20000 in
theorem ggL_law_X9_undo : GoodIn wsL_law wsX9_undo := goodIn_r _ [481, 383, 177, 396, 397, 398, 5, 399, 178, 151, 400, 401, 402, 403, 404, 405, 406, 154, 159, 160, 161, 162, 163, 164, 165, 166, 149, 411, 412, 413, 414, 175, 415, 416, 417, 418, 167, 168, 169, 170, 155, 156, 157, 158, 419, 420, 421, 422, 423, 424, 425, 426, 144, 153, 427, 428, 429, 430, 431, 432, 171, 172, 173, 174, 176, 150, 179, 180, 181, 182, 183, 184, 185, 186, 187, 188, 189, 190, 191, 148, 146, 147, 192, 193, 194, 195, 145, 718, 719, 720, 721, 722, 723, 724, 725, 726, 727, 728, 729, 730, 731, 732, 733, 734, 735, 736, 737] (by decide +kernel) (by decide +kernel)
set_option maxRecDepth 20000 in
theorem gL_law_X9_undo : GoodIn wsL_law (wsV RL 47 RX9 yX9_undo wsX9_undo) := goodIn_app (goodIn_of _ (by decide +kernel)) ggL_law_X9_undo
set_option maxRecDepth 20000 in
theorem ggL_law_X8_compact : GoodIn wsL_law wsX8_compact := goodIn_r _ [485, 20, 31, 35, 39, 230, 231, 232, 19, 233, 43, 375, 376, 377, 34, 378, 122, 486, 487, 488, 23, 489, 273, 274, 275, 276, 58, 277, 278, 279, 57, 280, 71, 490, 491, 492, 493, 52, 63, 54, 53, 289, 290, 291, 292, 59, 293, 294, 295, 62, 296, 79, 76, 494, 495, 496, 497, 93, 94, 95, 96, 78, 97, 98, 99, 100, 44, 45, 46, 47, 101, 102, 103, 104, 498, 499, 500, 501, 123, 502, 201, 202, 38, 203, 136, 137, 138, 139, 297, 298, 299, 300, 77, 301, 258, 259, 260, 261, 262, 263, 264, 265, 266, 267, 268, 269, 270, 271, 272, 84, 85, 86, 87, 88, 89, 90, 91, 92, 302, 303, 304, 105, 106, 107, 503, 504, 438, 439, 440, 241, 242, 243, 244, 113, 218, 219, 220, 221, 505, 506, 507, 508, 509, 112, 510, 214, 215, 216, 115, 217, 306, 307, 308, 309, 511, 512, 513, 514, 515, 516, 517, 518, 519, 520, 521, 522, 80, 81, 82, 83, 305, 523, 524, 525, 526, 121, 527, 528, 529, 120, 530, 132, 714, 715, 716, 717, 738, 739, 740, 741, 742, 749, 750, 751, 752, 753, 754, 755, 743, 744, 745, 746, 747, 748, 760, 761, 762, 763, 764, 756, 757, 758, 759, 765, 766, 767, 768, 769, 770] (by decide +kernel) (by decide +kernel)
set_option maxRecDepth 20000 in
theorem gL_law_X8_compact : GoodIn wsL_law (wsV RL 48 RX8 yX8_compact wsX8_compact) := goodIn_app (goodIn_of _ (by decide +kernel)) ggL_law_X8_compact
set_option maxRecDepth 20000 in
theorem ggL_law_X9_compact : GoodIn wsL_law wsX9_compact := goodIn_r _ [534, 383, 175, 179, 151, 180, 154, 145, 147, 146, 148, 149, 400, 401, 5, 402, 423, 424, 425, 426, 144, 153, 427, 428, 429, 430, 431, 432, 403, 404, 405, 406, 159, 160, 161, 162, 163, 164, 165, 166, 407, 408, 409, 410, 155, 156, 157, 158, 415, 416, 417, 418, 167, 168, 169, 170, 419, 420, 421, 422, 535, 536, 537, 538, 185, 186, 187, 171, 172, 173, 174, 176, 177, 150, 178, 181, 182, 183, 184, 188, 189, 190, 191, 192, 193, 194, 195, 718, 719, 720, 721, 722, 723, 724, 725, 726, 727, 728, 729, 730, 731, 732, 733, 734, 735, 736, 737] (by decide +kernel) (by decide +kernel)
set_option maxRecDepth 20000 in
theorem gL_law_X9_compact : GoodIn wsL_law (wsV RL 51 RX9 yX9_compact wsX9_compact) := goodIn_app (goodIn_of _ (by decide +kernel)) ggL_law_X9_compact
set_option maxRecDepth 20000 in
theorem ggL_law_X8_cut : GoodIn wsL_law wsX8_cut := goodIn_r _ [542, 20, 230, 231, 232, 19, 233, 43, 543, 544, 545, 546, 44, 45, 714, 715, 716, 717, 738, 739, 740, 741, 742] (by decide +kernel) (by decide +kernel)
set_option maxRecDepth 20000 in
theorem gL_law_X8_cut : GoodIn wsL_law (wsV RL 52 RX8 yX8_cut wsX8_cut) := goodIn_app (goodIn_of _ (by decide +kernel)) ggL_law_X8_cut
set_option maxRecDepth 20000 in
theorem ggL_law_X9_cut : GoodIn wsL_law wsX9_cut := goodIn_r _ [550, 383, 144, 718, 719, 720, 721, 722, 723, 724, 725, 726, 727, 728, 729, 730, 731, 732, 733, 734, 735, 736, 737] (by decide +kernel) (by decide +kernel)
set_option maxRecDepth 20000 in
theorem gL_law_X9_cut : GoodIn wsL_law (wsV RL 55 RX9 yX9_cut wsX9_cut) := goodIn_app (goodIn_of _ (by decide +kernel)) ggL_law_X9_cut
set_option maxRecDepth 20000 in
theorem ggL_law_X8_recover : GoodIn wsL_law wsX8_recover := goodIn_r _ [554, 20, 31, 35, 39, 555, 556, 557, 19, 558, 43, 44, 559, 560, 561, 23, 562, 58, 59, 52, 53, 563, 564, 565, 57, 566, 567, 568, 569, 570, 519, 520, 521, 522, 71, 571, 89, 90, 91, 92, 572, 516, 517, 518, 573, 106, 107, 515, 574, 575, 576, 34, 577, 122, 123, 121, 527, 528, 529, 120, 530, 132, 578, 579, 580, 581, 289, 290, 291, 292, 582, 583, 584, 585, 586, 587, 588, 38, 589, 136, 137, 138, 139, 590, 261, 262, 263, 264, 591, 265, 266, 267, 268, 269, 270, 271, 272, 310, 311, 312, 313, 314, 315, 316, 317, 318, 319, 320, 321, 241, 242, 243, 244, 113, 218, 219, 220, 221, 213, 214, 215, 216, 115, 217, 322, 323, 324, 325, 127, 128, 129, 130, 131, 326, 327, 328, 329, 112, 330, 246, 247, 248, 331, 332, 333, 334, 335, 336, 337, 338, 339, 340, 341, 342, 343, 344, 345, 346, 347, 348, 349, 350, 351, 352, 353, 354, 355, 356, 357, 358, 359, 360, 361, 362, 363, 364, 365, 366, 367, 368, 369, 370, 371, 372, 373, 374, 592, 593, 594, 595, 596, 597, 598, 599, 69, 29, 26, 30, 714, 715, 716, 717, 738, 739, 740, 741, 742, 743, 744, 745, 746, 747, 748, 760, 749, 750, 751, 752, 753, 754, 755, 765, 766, 767, 768, 769, 770, 756, 757, 758, 759] (by decide +kernel) (by decide +kernel)
set_option maxRecDepth 20000 in
theorem gL_law_X8_recover : GoodIn wsL_law (wsV RL 56 RX8 yX8_recover wsX8_recover) := goodIn_app (goodIn_of _ (by decide +kernel)) ggL_law_X8_recover
set_option maxRecDepth 20000 in
theorem ggL_law_X9_recover : GoodIn wsL_law wsX9_recover := goodIn_r _ [603, 175, 178, 151, 153, 383, 144, 176, 604, 605, 606, 5, 607, 185, 186, 187, 167, 168, 169, 170, 535, 536, 537, 538, 171, 172, 173, 174, 177, 150, 179, 180, 181, 182, 183, 184, 188, 189, 190, 191, 148, 146, 147, 192, 193, 194, 195, 145, 718, 719, 720, 721, 722, 723, 724, 725, 726, 727, 728, 729, 730, 731, 732, 733, 734, 735, 736, 737] (by decide +kernel) (by decide +kernel)
set_option maxRecDepth 20000 in
theorem gL_law_X9_recover : GoodIn wsL_law (wsV RL 59 RX9 yX9_recover wsX9_recover) := goodIn_app (goodIn_of _ (by decide +kernel)) ggL_law_X9_recover
set_option maxRecDepth 20000 in
theorem ggL_law_X8_octet : GoodIn wsL_law wsX8_octet := goodIn_r _ [611, 31, 612, 290, 291, 23, 292, 58, 59, 613, 520, 521, 57, 522, 71, 714, 715, 716, 717, 743, 744, 745, 746, 747, 748, 760] (by decide +kernel) (by decide +kernel)
set_option maxRecDepth 20000 in
theorem gL_law_X8_octet : GoodIn wsL_law (wsV RL 60 RX8 yX8_octet wsX8_octet) := goodIn_app (goodIn_of _ (by decide +kernel)) ggL_law_X8_octet
set_option maxRecDepth 20000 in
theorem ggL_law_X9_octet : GoodIn wsL_law wsX9_octet := goodIn_r _ [617, 151, 153, 718, 719, 720, 721, 722, 723, 724, 725, 726, 727, 728, 729, 730, 731, 732, 733, 734, 735, 736, 737] (by decide +kernel) (by decide +kernel)
set_option maxRecDepth 20000 in
theorem gL_law_X9_octet : GoodIn wsL_law (wsV RL 63 RX9 yX9_octet wsX9_octet) := goodIn_app (goodIn_of _ (by decide +kernel)) ggL_law_X9_octet
set_option maxRecDepth 20000 in
theorem ggL_law_X8_sample : GoodIn wsL_law wsX8_sample := goodIn_r _ [621, 20, 35, 230, 231, 232, 19, 233, 43, 622, 219, 220, 34, 221, 122, 623, 507, 508, 509, 112, 218, 624, 242, 243, 244, 113, 625, 626, 627, 628, 629, 630, 631, 632, 633, 634, 635, 636, 637, 638, 714, 715, 716, 717, 738, 739, 740, 741, 742, 749, 750, 751, 752, 753, 754, 755] (by decide +kernel) (by decide +kernel)
set_option maxRecDepth 20000 in
theorem gL_law_X8_sample : GoodIn wsL_law (wsV RL 64 RX8 yX8_sample wsX8_sample) := goodIn_app (goodIn_of _ (by decide +kernel)) ggL_law_X8_sample
set_option maxRecDepth 20000 in
theorem ggL_law_X9_sample : GoodIn wsL_law wsX9_sample := goodIn_r _ [642, 145, 147, 146, 179, 643, 644, 645, 5, 646, 383, 718, 719, 720, 721, 722, 723, 724, 725, 726, 727, 728, 729, 730, 731, 732, 733, 734, 735, 736, 737] (by decide +kernel) (by decide +kernel)
set_option maxRecDepth 20000 in
theorem gL_law_X9_sample : GoodIn wsL_law (wsV RL 67 RX9 yX9_sample wsX9_sample) := goodIn_app (goodIn_of _ (by decide +kernel)) ggL_law_X9_sample
set_option maxRecDepth 20000 in
theorem ggL_law_X8_volume : GoodIn wsL_law wsX8_volume := goodIn_r _ [650, 20, 35, 651, 230, 231, 232, 19, 233, 43, 441, 214, 215, 34, 216, 115, 217, 218, 219, 220, 221, 122, 714, 715, 716, 717, 738, 739, 740, 741, 742, 749, 750, 751, 752, 753, 754, 755] (by decide +kernel) (by decide +kernel)
set_option maxRecDepth 20000 in
theorem gL_law_X8_volume : GoodIn wsL_law (wsV RL 68 RX8 yX8_volume wsX8_volume) := goodIn_app (goodIn_of _ (by decide +kernel)) ggL_law_X8_volume
set_option maxRecDepth 20000 in
theorem ggL_law_X9_volume : GoodIn wsL_law wsX9_volume := goodIn_r _ [655, 148, 656, 643, 644, 645, 5, 646, 383, 179, 718, 719, 720, 721, 722, 723, 724, 725, 726, 727, 728, 729, 730, 731, 732, 733, 734, 735, 736, 737] (by decide +kernel) (by decide +kernel)
set_option maxRecDepth 20000 in
theorem gL_law_X9_volume : GoodIn wsL_law (wsV RL 72 RX9 yX9_volume wsX9_volume) := goodIn_app (goodIn_of _ (by decide +kernel)) ggL_law_X9_volume
set_option maxRecDepth 20000 in
theorem ggL_law_X8_well : GoodIn wsL_law wsX8_well := goodIn_r _ [660, 20, 35, 230, 231, 232, 19, 233, 43, 237, 238, 239, 34, 240, 122, 235, 2, 236, 241, 242, 243, 244, 113, 218, 219, 220, 221, 714, 715, 716, 717, 738, 739, 740, 741, 742, 749, 750, 751, 752, 753, 754, 755] (by decide +kernel) (by decide +kernel)
set_option maxRecDepth 20000 in
theorem gL_law_X8_well : GoodIn wsL_law (wsV RL 73 RX8 yX8_well wsX8_well) := goodIn_app (goodIn_of _ (by decide +kernel)) ggL_law_X8_well
set_option maxRecDepth 20000 in
theorem ggL_law_X9_well : GoodIn wsL_law wsX9_well := goodIn_r _ [664, 383, 385, 386, 5, 387, 388, 389, 390, 391, 179, 147, 146, 718, 719, 720, 721, 722, 723, 724, 725, 726, 727, 728, 729, 730, 731, 732, 733, 734, 735, 736, 737] (by decide +kernel) (by decide +kernel)
set_option maxRecDepth 20000 in
theorem gL_law_X9_well : GoodIn wsL_law (wsV RL 76 RX9 yX9_well wsX9_well) := goodIn_app (goodIn_of _ (by decide +kernel)) ggL_law_X9_well
set_option maxRecDepth 20000 in
theorem ggL_law_X8_total : GoodIn wsL_law wsX8_total := goodIn_r _ [668, 20, 651, 35, 230, 231, 232, 19, 233, 43, 669, 210, 211, 34, 212, 122, 213, 214, 215, 216, 115, 217, 218, 219, 220, 221, 670, 499, 500, 501, 123, 671, 672, 673, 674, 117, 629, 507, 508, 509, 112, 714, 715, 716, 717, 738, 739, 740, 741, 742, 749, 750, 751, 752, 753, 754, 755] (by decide +kernel) (by decide +kernel)
set_option maxRecDepth 20000 in
theorem gL_law_X8_total : GoodIn wsL_law (wsV RL 77 RX8 yX8_total wsX8_total) := goodIn_app (goodIn_of _ (by decide +kernel)) ggL_law_X8_total
set_option maxRecDepth 20000 in
theorem ggL_law_X9_total : GoodIn wsL_law wsX9_total := goodIn_r _ [678, 383, 656, 180, 179, 145, 148, 392, 393, 394, 5, 395, 643, 644, 645, 646, 718, 719, 720, 721, 722, 723, 724, 725, 726, 727, 728, 729, 730, 731, 732, 733, 734, 735, 736, 737] (by decide +kernel) (by decide +kernel)
set_option maxRecDepth 20000 in
theorem gL_law_X9_total : GoodIn wsL_law (wsV RL 81 RX9 yX9_total wsX9_total) := goodIn_app (goodIn_of _ (by decide +kernel)) ggL_law_X9_total
set_option maxRecDepth 20000 in
theorem ggL_law_X8_count : GoodIn wsL_law wsX8_count := goodIn_r _ [682, 20, 31, 230, 231, 232, 19, 233, 43, 683, 274, 275, 23, 276, 58, 277, 278, 279, 57, 280, 71, 684, 685, 686, 687, 46, 688, 689, 690, 691, 47, 692, 693, 694, 2, 695, 35, 696, 697, 698, 699, 52, 700, 512, 513, 514, 289, 290, 291, 292, 59, 515, 516, 517, 518, 519, 520, 521, 522, 701, 702, 703, 704, 53, 375, 376, 377, 34, 378, 122, 705, 706, 707, 708, 709, 438, 439, 440, 241, 242, 243, 244, 113, 218, 219, 220, 221, 470, 471, 472, 473, 121, 474, 475, 476, 120, 477, 132, 714, 715, 716, 717, 738, 739, 740, 741, 742, 743, 744, 745, 746, 747, 748, 760, 749, 750, 751, 752, 753, 754, 755, 765, 766, 767, 768, 769, 770] (by decide +kernel) (by decide +kernel)
set_option maxRecDepth 20000 in
theorem gL_law_X8_count : GoodIn wsL_law (wsV RL 82 RX8 yX8_count wsX8_count) := goodIn_app (goodIn_of _ (by decide +kernel)) ggL_law_X8_count
set_option maxRecDepth 20000 in
theorem ggL_law_X9_count : GoodIn wsL_law wsX9_count := goodIn_r _ [713, 383, 151, 427, 432, 175, 178, 179, 147, 177, 535, 536, 537, 5, 538, 153, 185, 186, 187, 718, 719, 720, 721, 722, 723, 724, 725, 726, 727, 728, 729, 730, 731, 732, 733, 734, 735, 736, 737] (by decide +kernel) (by decide +kernel)
set_option maxRecDepth 20000 in
theorem gL_law_X9_count : GoodIn wsL_law (wsV RL 85 RX9 yX9_count wsX9_count) := goodIn_app (goodIn_of _ (by decide +kernel)) ggL_law_X9_count
theorem dL_law_0 : decode cL_law 0 = .ok (.new 7, 3) := by decide +kernel
theorem dL_law_3 : decode cL_law 3 = .ok (.dup, 1) := by decide +kernel
theorem dL_law_4 : decode cL_law 4 = .ok (.aload_n 0, 1) := by decide +kernel
theorem dL_law_5 : decode cL_law 5 = .ok (.iconst 0, 1) := by decide +kernel
theorem dL_law_6 : decode cL_law 6 = .ok (.invokestatic 9, 3) := by decide +kernel
theorem dL_law_9 : decode cL_law 9 = .ok (.invokespecial 15, 3) := by decide +kernel
theorem dL_law_12 : decode cL_law 12 = .ok (.astore_n 1, 1) := by decide +kernel
theorem dL_law_13 : decode cL_law 13 = .ok (.new 18, 3) := by decide +kernel
theorem dL_law_16 : decode cL_law 16 = .ok (.dup, 1) := by decide +kernel
theorem dL_law_17 : decode cL_law 17 = .ok (.aload_n 0, 1) := by decide +kernel
theorem dL_law_18 : decode cL_law 18 = .ok (.iconst 0, 1) := by decide +kernel
theorem dL_law_19 : decode cL_law 19 = .ok (.invokestatic 9, 3) := by decide +kernel
theorem dL_law_22 : decode cL_law 22 = .ok (.invokespecial 20, 3) := by decide +kernel
theorem dL_law_25 : decode cL_law 25 = .ok (.astore_n 2, 1) := by decide +kernel
theorem dL_law_26 : decode cL_law 26 = .ok (.iconst 1, 1) := by decide +kernel
theorem dL_law_27 : decode cL_law 27 = .ok (.istore_n 3, 1) := by decide +kernel
theorem dL_law_28 : decode cL_law 28 = .ok (.iload_n 3, 1) := by decide +kernel
theorem dL_law_29 : decode cL_law 29 = .ok (.aload_n 0, 1) := by decide +kernel
theorem dL_law_30 : decode cL_law 30 = .ok (.arraylength, 1) := by decide +kernel
theorem dL_law_31 : decode cL_law 31 = .ok (.iconst 5, 1) := by decide +kernel
theorem dL_law_32 : decode cL_law 32 = .ok (.isub, 1) := by decide +kernel
theorem dL_law_33 : decode cL_law 33 = .ok (.if_icmp .gt 509, 3) := by decide +kernel
theorem dL_law_36 : decode cL_law 36 = .ok (.aload_n 0, 1) := by decide +kernel
theorem dL_law_37 : decode cL_law 37 = .ok (.iload_n 3, 1) := by decide +kernel
theorem dL_law_38 : decode cL_law 38 = .ok (.iaload, 1) := by decide +kernel
theorem dL_law_39 : decode cL_law 39 = .ok (.bipush 15, 2) := by decide +kernel
theorem dL_law_41 : decode cL_law 41 = .ok (.iand, 1) := by decide +kernel
theorem dL_law_42 : decode cL_law 42 = .ok (.tableswitch 494 0 13 #[70, 133, 206, 239, 262, 275, 288, 311, 324, 357, 390, 414, 437, 471], 70) := by decide +kernel
theorem dL_law_112 : decode cL_law 112 = .ok (.aload_n 1, 1) := by decide +kernel
theorem dL_law_113 : decode cL_law 113 = .ok (.aload_n 0, 1) := by decide +kernel
theorem dL_law_114 : decode cL_law 114 = .ok (.iload_n 3, 1) := by decide +kernel
theorem dL_law_115 : decode cL_law 115 = .ok (.iconst 1, 1) := by decide +kernel
theorem dL_law_116 : decode cL_law 116 = .ok (.iadd, 1) := by decide +kernel
theorem dL_law_117 : decode cL_law 117 = .ok (.iaload, 1) := by decide +kernel
theorem dL_law_118 : decode cL_law 118 = .ok (.aload_n 0, 1) := by decide +kernel
theorem dL_law_119 : decode cL_law 119 = .ok (.iload_n 3, 1) := by decide +kernel
theorem dL_law_120 : decode cL_law 120 = .ok (.iconst 2, 1) := by decide +kernel
theorem dL_law_121 : decode cL_law 121 = .ok (.iadd, 1) := by decide +kernel
theorem dL_law_122 : decode cL_law 122 = .ok (.iaload, 1) := by decide +kernel
theorem dL_law_123 : decode cL_law 123 = .ok (.i2l, 1) := by decide +kernel
theorem dL_law_124 : decode cL_law 124 = .ok (.bipush 32, 2) := by decide +kernel
theorem dL_law_126 : decode cL_law 126 = .ok (.lshl, 1) := by decide +kernel
theorem dL_law_127 : decode cL_law 127 = .ok (.aload_n 0, 1) := by decide +kernel
theorem dL_law_128 : decode cL_law 128 = .ok (.iload_n 3, 1) := by decide +kernel
theorem dL_law_129 : decode cL_law 129 = .ok (.iconst 3, 1) := by decide +kernel
theorem dL_law_130 : decode cL_law 130 = .ok (.iadd, 1) := by decide +kernel
theorem dL_law_131 : decode cL_law 131 = .ok (.iaload, 1) := by decide +kernel
theorem dL_law_132 : decode cL_law 132 = .ok (.i2l, 1) := by decide +kernel
theorem dL_law_133 : decode cL_law 133 = .ok (.ldc2_w 21, 3) := by decide +kernel
theorem dL_law_136 : decode cL_law 136 = .ok (.land, 1) := by decide +kernel
theorem dL_law_137 : decode cL_law 137 = .ok (.lor, 1) := by decide +kernel
theorem dL_law_138 : decode cL_law 138 = .ok (.invokevirtual 23, 3) := by decide +kernel
theorem dL_law_141 : decode cL_law 141 = .ok (.aload_n 2, 1) := by decide +kernel
theorem dL_law_142 : decode cL_law 142 = .ok (.aload_n 0, 1) := by decide +kernel
theorem dL_law_143 : decode cL_law 143 = .ok (.iload_n 3, 1) := by decide +kernel
theorem dL_law_144 : decode cL_law 144 = .ok (.iconst 1, 1) := by decide +kernel
theorem dL_law_145 : decode cL_law 145 = .ok (.iadd, 1) := by decide +kernel
theorem dL_law_146 : decode cL_law 146 = .ok (.iaload, 1) := by decide +kernel
theorem dL_law_147 : decode cL_law 147 = .ok (.aload_n 0, 1) := by decide +kernel
theorem dL_law_148 : decode cL_law 148 = .ok (.iload_n 3, 1) := by decide +kernel
theorem dL_law_149 : decode cL_law 149 = .ok (.iconst 2, 1) := by decide +kernel
theorem dL_law_150 : decode cL_law 150 = .ok (.iadd, 1) := by decide +kernel
theorem dL_law_151 : decode cL_law 151 = .ok (.iaload, 1) := by decide +kernel
theorem dL_law_152 : decode cL_law 152 = .ok (.i2l, 1) := by decide +kernel
theorem dL_law_153 : decode cL_law 153 = .ok (.bipush 32, 2) := by decide +kernel
theorem dL_law_155 : decode cL_law 155 = .ok (.lshl, 1) := by decide +kernel
theorem dL_law_156 : decode cL_law 156 = .ok (.aload_n 0, 1) := by decide +kernel
theorem dL_law_157 : decode cL_law 157 = .ok (.iload_n 3, 1) := by decide +kernel
theorem dL_law_158 : decode cL_law 158 = .ok (.iconst 3, 1) := by decide +kernel
theorem dL_law_159 : decode cL_law 159 = .ok (.iadd, 1) := by decide +kernel
theorem dL_law_160 : decode cL_law 160 = .ok (.iaload, 1) := by decide +kernel
theorem dL_law_161 : decode cL_law 161 = .ok (.i2l, 1) := by decide +kernel
theorem dL_law_162 : decode cL_law 162 = .ok (.ldc2_w 21, 3) := by decide +kernel
theorem dL_law_165 : decode cL_law 165 = .ok (.land, 1) := by decide +kernel
theorem dL_law_166 : decode cL_law 166 = .ok (.lor, 1) := by decide +kernel
theorem dL_law_167 : decode cL_law 167 = .ok (.invokevirtual 27, 3) := by decide +kernel
theorem dL_law_170 : decode cL_law 170 = .ok (.if_icmp .eq 366, 3) := by decide +kernel
theorem dL_law_173 : decode cL_law 173 = .ok (.iconst 0, 1) := by decide +kernel
theorem dL_law_174 : decode cL_law 174 = .ok (.ireturn, 1) := by decide +kernel
theorem dL_law_175 : decode cL_law 175 = .ok (.aload_n 1, 1) := by decide +kernel
theorem dL_law_176 : decode cL_law 176 = .ok (.aload_n 0, 1) := by decide +kernel
theorem dL_law_177 : decode cL_law 177 = .ok (.iload_n 3, 1) := by decide +kernel
theorem dL_law_178 : decode cL_law 178 = .ok (.iconst 1, 1) := by decide +kernel
theorem dL_law_179 : decode cL_law 179 = .ok (.iadd, 1) := by decide +kernel
theorem dL_law_180 : decode cL_law 180 = .ok (.iaload, 1) := by decide +kernel
theorem dL_law_181 : decode cL_law 181 = .ok (.aload_n 0, 1) := by decide +kernel
theorem dL_law_182 : decode cL_law 182 = .ok (.iload_n 3, 1) := by decide +kernel
theorem dL_law_183 : decode cL_law 183 = .ok (.iconst 2, 1) := by decide +kernel
theorem dL_law_184 : decode cL_law 184 = .ok (.iadd, 1) := by decide +kernel
theorem dL_law_185 : decode cL_law 185 = .ok (.iaload, 1) := by decide +kernel
theorem dL_law_186 : decode cL_law 186 = .ok (.aload_n 0, 1) := by decide +kernel
theorem dL_law_187 : decode cL_law 187 = .ok (.iload_n 3, 1) := by decide +kernel
theorem dL_law_188 : decode cL_law 188 = .ok (.iconst 3, 1) := by decide +kernel
theorem dL_law_189 : decode cL_law 189 = .ok (.iadd, 1) := by decide +kernel
theorem dL_law_190 : decode cL_law 190 = .ok (.iaload, 1) := by decide +kernel
theorem dL_law_191 : decode cL_law 191 = .ok (.i2l, 1) := by decide +kernel
theorem dL_law_192 : decode cL_law 192 = .ok (.bipush 32, 2) := by decide +kernel
theorem dL_law_194 : decode cL_law 194 = .ok (.lshl, 1) := by decide +kernel
theorem dL_law_195 : decode cL_law 195 = .ok (.aload_n 0, 1) := by decide +kernel
theorem dL_law_196 : decode cL_law 196 = .ok (.iload_n 3, 1) := by decide +kernel
theorem dL_law_197 : decode cL_law 197 = .ok (.iconst 4, 1) := by decide +kernel
theorem dL_law_198 : decode cL_law 198 = .ok (.iadd, 1) := by decide +kernel
theorem dL_law_199 : decode cL_law 199 = .ok (.iaload, 1) := by decide +kernel
theorem dL_law_200 : decode cL_law 200 = .ok (.i2l, 1) := by decide +kernel
theorem dL_law_201 : decode cL_law 201 = .ok (.ldc2_w 21, 3) := by decide +kernel
theorem dL_law_204 : decode cL_law 204 = .ok (.land, 1) := by decide +kernel
theorem dL_law_205 : decode cL_law 205 = .ok (.lor, 1) := by decide +kernel
theorem dL_law_206 : decode cL_law 206 = .ok (.invokevirtual 28, 3) := by decide +kernel
theorem dL_law_209 : decode cL_law 209 = .ok (.aload_n 2, 1) := by decide +kernel
theorem dL_law_210 : decode cL_law 210 = .ok (.aload_n 0, 1) := by decide +kernel
theorem dL_law_211 : decode cL_law 211 = .ok (.iload_n 3, 1) := by decide +kernel
theorem dL_law_212 : decode cL_law 212 = .ok (.iconst 1, 1) := by decide +kernel
theorem dL_law_213 : decode cL_law 213 = .ok (.iadd, 1) := by decide +kernel
theorem dL_law_214 : decode cL_law 214 = .ok (.iaload, 1) := by decide +kernel
theorem dL_law_215 : decode cL_law 215 = .ok (.aload_n 0, 1) := by decide +kernel
theorem dL_law_216 : decode cL_law 216 = .ok (.iload_n 3, 1) := by decide +kernel
theorem dL_law_217 : decode cL_law 217 = .ok (.iconst 2, 1) := by decide +kernel
theorem dL_law_218 : decode cL_law 218 = .ok (.iadd, 1) := by decide +kernel
theorem dL_law_219 : decode cL_law 219 = .ok (.iaload, 1) := by decide +kernel
theorem dL_law_220 : decode cL_law 220 = .ok (.aload_n 0, 1) := by decide +kernel
theorem dL_law_221 : decode cL_law 221 = .ok (.iload_n 3, 1) := by decide +kernel
theorem dL_law_222 : decode cL_law 222 = .ok (.iconst 3, 1) := by decide +kernel
theorem dL_law_223 : decode cL_law 223 = .ok (.iadd, 1) := by decide +kernel
theorem dL_law_224 : decode cL_law 224 = .ok (.iaload, 1) := by decide +kernel
theorem dL_law_225 : decode cL_law 225 = .ok (.i2l, 1) := by decide +kernel
theorem dL_law_226 : decode cL_law 226 = .ok (.bipush 32, 2) := by decide +kernel
theorem dL_law_228 : decode cL_law 228 = .ok (.lshl, 1) := by decide +kernel
theorem dL_law_229 : decode cL_law 229 = .ok (.aload_n 0, 1) := by decide +kernel
theorem dL_law_230 : decode cL_law 230 = .ok (.iload_n 3, 1) := by decide +kernel
theorem dL_law_231 : decode cL_law 231 = .ok (.iconst 4, 1) := by decide +kernel
theorem dL_law_232 : decode cL_law 232 = .ok (.iadd, 1) := by decide +kernel
theorem dL_law_233 : decode cL_law 233 = .ok (.iaload, 1) := by decide +kernel
theorem dL_law_234 : decode cL_law 234 = .ok (.i2l, 1) := by decide +kernel
theorem dL_law_235 : decode cL_law 235 = .ok (.ldc2_w 21, 3) := by decide +kernel
theorem dL_law_238 : decode cL_law 238 = .ok (.land, 1) := by decide +kernel
theorem dL_law_239 : decode cL_law 239 = .ok (.lor, 1) := by decide +kernel
theorem dL_law_240 : decode cL_law 240 = .ok (.invokevirtual 32, 3) := by decide +kernel
theorem dL_law_243 : decode cL_law 243 = .ok (.if_icmp .eq 293, 3) := by decide +kernel
theorem dL_law_246 : decode cL_law 246 = .ok (.iconst 0, 1) := by decide +kernel
theorem dL_law_247 : decode cL_law 247 = .ok (.ireturn, 1) := by decide +kernel
theorem dL_law_248 : decode cL_law 248 = .ok (.aload_n 1, 1) := by decide +kernel
theorem dL_law_249 : decode cL_law 249 = .ok (.aload_n 0, 1) := by decide +kernel
theorem dL_law_250 : decode cL_law 250 = .ok (.iload_n 3, 1) := by decide +kernel
theorem dL_law_251 : decode cL_law 251 = .ok (.iconst 1, 1) := by decide +kernel
theorem dL_law_252 : decode cL_law 252 = .ok (.iadd, 1) := by decide +kernel
theorem dL_law_253 : decode cL_law 253 = .ok (.iaload, 1) := by decide +kernel
theorem dL_law_254 : decode cL_law 254 = .ok (.aload_n 0, 1) := by decide +kernel
theorem dL_law_255 : decode cL_law 255 = .ok (.iload_n 3, 1) := by decide +kernel
theorem dL_law_256 : decode cL_law 256 = .ok (.iconst 2, 1) := by decide +kernel
theorem dL_law_257 : decode cL_law 257 = .ok (.iadd, 1) := by decide +kernel
theorem dL_law_258 : decode cL_law 258 = .ok (.iaload, 1) := by decide +kernel
theorem dL_law_259 : decode cL_law 259 = .ok (.invokevirtual 33, 3) := by decide +kernel
theorem dL_law_262 : decode cL_law 262 = .ok (.aload_n 2, 1) := by decide +kernel
theorem dL_law_263 : decode cL_law 263 = .ok (.aload_n 0, 1) := by decide +kernel
theorem dL_law_264 : decode cL_law 264 = .ok (.iload_n 3, 1) := by decide +kernel
theorem dL_law_265 : decode cL_law 265 = .ok (.iconst 1, 1) := by decide +kernel
theorem dL_law_266 : decode cL_law 266 = .ok (.iadd, 1) := by decide +kernel
theorem dL_law_267 : decode cL_law 267 = .ok (.iaload, 1) := by decide +kernel
theorem dL_law_268 : decode cL_law 268 = .ok (.aload_n 0, 1) := by decide +kernel
theorem dL_law_269 : decode cL_law 269 = .ok (.iload_n 3, 1) := by decide +kernel
theorem dL_law_270 : decode cL_law 270 = .ok (.iconst 2, 1) := by decide +kernel
theorem dL_law_271 : decode cL_law 271 = .ok (.iadd, 1) := by decide +kernel
theorem dL_law_272 : decode cL_law 272 = .ok (.iaload, 1) := by decide +kernel
theorem dL_law_273 : decode cL_law 273 = .ok (.invokevirtual 37, 3) := by decide +kernel
theorem dL_law_276 : decode cL_law 276 = .ok (.if_icmp .eq 260, 3) := by decide +kernel
theorem dL_law_279 : decode cL_law 279 = .ok (.iconst 0, 1) := by decide +kernel
theorem dL_law_280 : decode cL_law 280 = .ok (.ireturn, 1) := by decide +kernel
theorem dL_law_281 : decode cL_law 281 = .ok (.aload_n 1, 1) := by decide +kernel
theorem dL_law_282 : decode cL_law 282 = .ok (.aload_n 0, 1) := by decide +kernel
theorem dL_law_283 : decode cL_law 283 = .ok (.iload_n 3, 1) := by decide +kernel
theorem dL_law_284 : decode cL_law 284 = .ok (.iconst 1, 1) := by decide +kernel
theorem dL_law_285 : decode cL_law 285 = .ok (.iadd, 1) := by decide +kernel
theorem dL_law_286 : decode cL_law 286 = .ok (.iaload, 1) := by decide +kernel
theorem dL_law_287 : decode cL_law 287 = .ok (.invokevirtual 38, 3) := by decide +kernel
theorem dL_law_290 : decode cL_law 290 = .ok (.aload_n 2, 1) := by decide +kernel
theorem dL_law_291 : decode cL_law 291 = .ok (.aload_n 0, 1) := by decide +kernel
theorem dL_law_292 : decode cL_law 292 = .ok (.iload_n 3, 1) := by decide +kernel
theorem dL_law_293 : decode cL_law 293 = .ok (.iconst 1, 1) := by decide +kernel
theorem dL_law_294 : decode cL_law 294 = .ok (.iadd, 1) := by decide +kernel
theorem dL_law_295 : decode cL_law 295 = .ok (.iaload, 1) := by decide +kernel
theorem dL_law_296 : decode cL_law 296 = .ok (.invokevirtual 42, 3) := by decide +kernel
theorem dL_law_299 : decode cL_law 299 = .ok (.if_icmp .eq 237, 3) := by decide +kernel
theorem dL_law_302 : decode cL_law 302 = .ok (.iconst 0, 1) := by decide +kernel
theorem dL_law_303 : decode cL_law 303 = .ok (.ireturn, 1) := by decide +kernel
theorem dL_law_304 : decode cL_law 304 = .ok (.aload_n 1, 1) := by decide +kernel
theorem dL_law_305 : decode cL_law 305 = .ok (.invokevirtual 43, 3) := by decide +kernel
theorem dL_law_308 : decode cL_law 308 = .ok (.aload_n 2, 1) := by decide +kernel
theorem dL_law_309 : decode cL_law 309 = .ok (.invokevirtual 47, 3) := by decide +kernel
theorem dL_law_312 : decode cL_law 312 = .ok (.if_icmp .eq 224, 3) := by decide +kernel
theorem dL_law_315 : decode cL_law 315 = .ok (.iconst 0, 1) := by decide +kernel
theorem dL_law_316 : decode cL_law 316 = .ok (.ireturn, 1) := by decide +kernel
theorem dL_law_317 : decode cL_law 317 = .ok (.aload_n 1, 1) := by decide +kernel
theorem dL_law_318 : decode cL_law 318 = .ok (.invokevirtual 48, 3) := by decide +kernel
theorem dL_law_321 : decode cL_law 321 = .ok (.aload_n 2, 1) := by decide +kernel
theorem dL_law_322 : decode cL_law 322 = .ok (.invokevirtual 51, 3) := by decide +kernel
theorem dL_law_325 : decode cL_law 325 = .ok (.if_icmp .eq 211, 3) := by decide +kernel
theorem dL_law_328 : decode cL_law 328 = .ok (.iconst 0, 1) := by decide +kernel
theorem dL_law_329 : decode cL_law 329 = .ok (.ireturn, 1) := by decide +kernel
theorem dL_law_330 : decode cL_law 330 = .ok (.aload_n 1, 1) := by decide +kernel
theorem dL_law_331 : decode cL_law 331 = .ok (.aload_n 0, 1) := by decide +kernel
theorem dL_law_332 : decode cL_law 332 = .ok (.iload_n 3, 1) := by decide +kernel
theorem dL_law_333 : decode cL_law 333 = .ok (.iconst 1, 1) := by decide +kernel
theorem dL_law_334 : decode cL_law 334 = .ok (.iadd, 1) := by decide +kernel
theorem dL_law_335 : decode cL_law 335 = .ok (.iaload, 1) := by decide +kernel
theorem dL_law_336 : decode cL_law 336 = .ok (.invokevirtual 52, 3) := by decide +kernel
theorem dL_law_339 : decode cL_law 339 = .ok (.aload_n 2, 1) := by decide +kernel
theorem dL_law_340 : decode cL_law 340 = .ok (.aload_n 0, 1) := by decide +kernel
theorem dL_law_341 : decode cL_law 341 = .ok (.iload_n 3, 1) := by decide +kernel
theorem dL_law_342 : decode cL_law 342 = .ok (.iconst 1, 1) := by decide +kernel
theorem dL_law_343 : decode cL_law 343 = .ok (.iadd, 1) := by decide +kernel
theorem dL_law_344 : decode cL_law 344 = .ok (.iaload, 1) := by decide +kernel
theorem dL_law_345 : decode cL_law 345 = .ok (.invokevirtual 55, 3) := by decide +kernel
theorem dL_law_348 : decode cL_law 348 = .ok (.if_icmp .eq 188, 3) := by decide +kernel
theorem dL_law_351 : decode cL_law 351 = .ok (.iconst 0, 1) := by decide +kernel
theorem dL_law_352 : decode cL_law 352 = .ok (.ireturn, 1) := by decide +kernel
theorem dL_law_353 : decode cL_law 353 = .ok (.aload_n 1, 1) := by decide +kernel
theorem dL_law_354 : decode cL_law 354 = .ok (.invokevirtual 56, 3) := by decide +kernel
theorem dL_law_357 : decode cL_law 357 = .ok (.aload_n 2, 1) := by decide +kernel
theorem dL_law_358 : decode cL_law 358 = .ok (.invokevirtual 59, 3) := by decide +kernel
theorem dL_law_361 : decode cL_law 361 = .ok (.if_icmp .eq 175, 3) := by decide +kernel
theorem dL_law_364 : decode cL_law 364 = .ok (.iconst 0, 1) := by decide +kernel
theorem dL_law_365 : decode cL_law 365 = .ok (.ireturn, 1) := by decide +kernel
theorem dL_law_366 : decode cL_law 366 = .ok (.aload_n 1, 1) := by decide +kernel
theorem dL_law_367 : decode cL_law 367 = .ok (.aload_n 0, 1) := by decide +kernel
theorem dL_law_368 : decode cL_law 368 = .ok (.iload_n 3, 1) := by decide +kernel
theorem dL_law_369 : decode cL_law 369 = .ok (.iconst 1, 1) := by decide +kernel
theorem dL_law_370 : decode cL_law 370 = .ok (.iadd, 1) := by decide +kernel
theorem dL_law_371 : decode cL_law 371 = .ok (.iaload, 1) := by decide +kernel
theorem dL_law_372 : decode cL_law 372 = .ok (.aload_n 0, 1) := by decide +kernel
theorem dL_law_373 : decode cL_law 373 = .ok (.iload_n 3, 1) := by decide +kernel
theorem dL_law_374 : decode cL_law 374 = .ok (.iconst 2, 1) := by decide +kernel
theorem dL_law_375 : decode cL_law 375 = .ok (.iadd, 1) := by decide +kernel
theorem dL_law_376 : decode cL_law 376 = .ok (.iaload, 1) := by decide +kernel
theorem dL_law_377 : decode cL_law 377 = .ok (.invokevirtual 60, 3) := by decide +kernel
theorem dL_law_380 : decode cL_law 380 = .ok (.aload_n 2, 1) := by decide +kernel
theorem dL_law_381 : decode cL_law 381 = .ok (.aload_n 0, 1) := by decide +kernel
theorem dL_law_382 : decode cL_law 382 = .ok (.iload_n 3, 1) := by decide +kernel
theorem dL_law_383 : decode cL_law 383 = .ok (.iconst 1, 1) := by decide +kernel
theorem dL_law_384 : decode cL_law 384 = .ok (.iadd, 1) := by decide +kernel
theorem dL_law_385 : decode cL_law 385 = .ok (.iaload, 1) := by decide +kernel
theorem dL_law_386 : decode cL_law 386 = .ok (.aload_n 0, 1) := by decide +kernel
theorem dL_law_387 : decode cL_law 387 = .ok (.iload_n 3, 1) := by decide +kernel
theorem dL_law_388 : decode cL_law 388 = .ok (.iconst 2, 1) := by decide +kernel
theorem dL_law_389 : decode cL_law 389 = .ok (.iadd, 1) := by decide +kernel
theorem dL_law_390 : decode cL_law 390 = .ok (.iaload, 1) := by decide +kernel
theorem dL_law_391 : decode cL_law 391 = .ok (.invokevirtual 63, 3) := by decide +kernel
theorem dL_law_394 : decode cL_law 394 = .ok (.if_icmp .eq 142, 3) := by decide +kernel
theorem dL_law_397 : decode cL_law 397 = .ok (.iconst 0, 1) := by decide +kernel
theorem dL_law_398 : decode cL_law 398 = .ok (.ireturn, 1) := by decide +kernel
theorem dL_law_399 : decode cL_law 399 = .ok (.aload_n 1, 1) := by decide +kernel
theorem dL_law_400 : decode cL_law 400 = .ok (.aload_n 0, 1) := by decide +kernel
theorem dL_law_401 : decode cL_law 401 = .ok (.iload_n 3, 1) := by decide +kernel
theorem dL_law_402 : decode cL_law 402 = .ok (.iconst 1, 1) := by decide +kernel
theorem dL_law_403 : decode cL_law 403 = .ok (.iadd, 1) := by decide +kernel
theorem dL_law_404 : decode cL_law 404 = .ok (.iaload, 1) := by decide +kernel
theorem dL_law_405 : decode cL_law 405 = .ok (.aload_n 0, 1) := by decide +kernel
theorem dL_law_406 : decode cL_law 406 = .ok (.iload_n 3, 1) := by decide +kernel
theorem dL_law_407 : decode cL_law 407 = .ok (.iconst 2, 1) := by decide +kernel
theorem dL_law_408 : decode cL_law 408 = .ok (.iadd, 1) := by decide +kernel
theorem dL_law_409 : decode cL_law 409 = .ok (.iaload, 1) := by decide +kernel
theorem dL_law_410 : decode cL_law 410 = .ok (.invokevirtual 64, 3) := by decide +kernel
theorem dL_law_413 : decode cL_law 413 = .ok (.aload_n 2, 1) := by decide +kernel
theorem dL_law_414 : decode cL_law 414 = .ok (.aload_n 0, 1) := by decide +kernel
theorem dL_law_415 : decode cL_law 415 = .ok (.iload_n 3, 1) := by decide +kernel
theorem dL_law_416 : decode cL_law 416 = .ok (.iconst 1, 1) := by decide +kernel
theorem dL_law_417 : decode cL_law 417 = .ok (.iadd, 1) := by decide +kernel
theorem dL_law_418 : decode cL_law 418 = .ok (.iaload, 1) := by decide +kernel
theorem dL_law_419 : decode cL_law 419 = .ok (.aload_n 0, 1) := by decide +kernel
theorem dL_law_420 : decode cL_law 420 = .ok (.iload_n 3, 1) := by decide +kernel
theorem dL_law_421 : decode cL_law 421 = .ok (.iconst 2, 1) := by decide +kernel
theorem dL_law_422 : decode cL_law 422 = .ok (.iadd, 1) := by decide +kernel
theorem dL_law_423 : decode cL_law 423 = .ok (.iaload, 1) := by decide +kernel
theorem dL_law_424 : decode cL_law 424 = .ok (.invokevirtual 67, 3) := by decide +kernel
theorem dL_law_427 : decode cL_law 427 = .ok (.if_icmp .eq 109, 3) := by decide +kernel
theorem dL_law_430 : decode cL_law 430 = .ok (.iconst 0, 1) := by decide +kernel
theorem dL_law_431 : decode cL_law 431 = .ok (.ireturn, 1) := by decide +kernel
theorem dL_law_432 : decode cL_law 432 = .ok (.aload_n 1, 1) := by decide +kernel
theorem dL_law_433 : decode cL_law 433 = .ok (.aload_n 0, 1) := by decide +kernel
theorem dL_law_434 : decode cL_law 434 = .ok (.iload_n 3, 1) := by decide +kernel
theorem dL_law_435 : decode cL_law 435 = .ok (.iconst 1, 1) := by decide +kernel
theorem dL_law_436 : decode cL_law 436 = .ok (.iadd, 1) := by decide +kernel
theorem dL_law_437 : decode cL_law 437 = .ok (.iaload, 1) := by decide +kernel
theorem dL_law_438 : decode cL_law 438 = .ok (.invokevirtual 68, 3) := by decide +kernel
theorem dL_law_441 : decode cL_law 441 = .ok (.aload_n 2, 1) := by decide +kernel
theorem dL_law_442 : decode cL_law 442 = .ok (.aload_n 0, 1) := by decide +kernel
theorem dL_law_443 : decode cL_law 443 = .ok (.iload_n 3, 1) := by decide +kernel
theorem dL_law_444 : decode cL_law 444 = .ok (.iconst 1, 1) := by decide +kernel
theorem dL_law_445 : decode cL_law 445 = .ok (.iadd, 1) := by decide +kernel
theorem dL_law_446 : decode cL_law 446 = .ok (.iaload, 1) := by decide +kernel
theorem dL_law_447 : decode cL_law 447 = .ok (.invokevirtual 72, 3) := by decide +kernel
theorem dL_law_450 : decode cL_law 450 = .ok (.lcmp, 1) := by decide +kernel
theorem dL_law_451 : decode cL_law 451 = .ok (.ifCond .eq 85, 3) := by decide +kernel
theorem dL_law_454 : decode cL_law 454 = .ok (.iconst 0, 1) := by decide +kernel
theorem dL_law_455 : decode cL_law 455 = .ok (.ireturn, 1) := by decide +kernel
theorem dL_law_456 : decode cL_law 456 = .ok (.aload_n 1, 1) := by decide +kernel
theorem dL_law_457 : decode cL_law 457 = .ok (.aload_n 0, 1) := by decide +kernel
theorem dL_law_458 : decode cL_law 458 = .ok (.iload_n 3, 1) := by decide +kernel
theorem dL_law_459 : decode cL_law 459 = .ok (.iconst 1, 1) := by decide +kernel
theorem dL_law_460 : decode cL_law 460 = .ok (.iadd, 1) := by decide +kernel
theorem dL_law_461 : decode cL_law 461 = .ok (.iaload, 1) := by decide +kernel
theorem dL_law_462 : decode cL_law 462 = .ok (.invokevirtual 73, 3) := by decide +kernel
theorem dL_law_465 : decode cL_law 465 = .ok (.aload_n 2, 1) := by decide +kernel
theorem dL_law_466 : decode cL_law 466 = .ok (.aload_n 0, 1) := by decide +kernel
theorem dL_law_467 : decode cL_law 467 = .ok (.iload_n 3, 1) := by decide +kernel
theorem dL_law_468 : decode cL_law 468 = .ok (.iconst 1, 1) := by decide +kernel
theorem dL_law_469 : decode cL_law 469 = .ok (.iadd, 1) := by decide +kernel
theorem dL_law_470 : decode cL_law 470 = .ok (.iaload, 1) := by decide +kernel
theorem dL_law_471 : decode cL_law 471 = .ok (.invokevirtual 76, 3) := by decide +kernel
theorem dL_law_474 : decode cL_law 474 = .ok (.if_icmp .eq 62, 3) := by decide +kernel
theorem dL_law_477 : decode cL_law 477 = .ok (.iconst 0, 1) := by decide +kernel
theorem dL_law_478 : decode cL_law 478 = .ok (.ireturn, 1) := by decide +kernel
theorem dL_law_479 : decode cL_law 479 = .ok (.aload_n 1, 1) := by decide +kernel
theorem dL_law_480 : decode cL_law 480 = .ok (.aload_n 0, 1) := by decide +kernel
theorem dL_law_481 : decode cL_law 481 = .ok (.iload_n 3, 1) := by decide +kernel
theorem dL_law_482 : decode cL_law 482 = .ok (.iconst 1, 1) := by decide +kernel
theorem dL_law_483 : decode cL_law 483 = .ok (.iadd, 1) := by decide +kernel
theorem dL_law_484 : decode cL_law 484 = .ok (.iaload, 1) := by decide +kernel
theorem dL_law_485 : decode cL_law 485 = .ok (.aload_n 0, 1) := by decide +kernel
theorem dL_law_486 : decode cL_law 486 = .ok (.iload_n 3, 1) := by decide +kernel
theorem dL_law_487 : decode cL_law 487 = .ok (.iconst 2, 1) := by decide +kernel
theorem dL_law_488 : decode cL_law 488 = .ok (.iadd, 1) := by decide +kernel
theorem dL_law_489 : decode cL_law 489 = .ok (.iaload, 1) := by decide +kernel
theorem dL_law_490 : decode cL_law 490 = .ok (.invokevirtual 77, 3) := by decide +kernel
theorem dL_law_493 : decode cL_law 493 = .ok (.aload_n 2, 1) := by decide +kernel
theorem dL_law_494 : decode cL_law 494 = .ok (.aload_n 0, 1) := by decide +kernel
theorem dL_law_495 : decode cL_law 495 = .ok (.iload_n 3, 1) := by decide +kernel
theorem dL_law_496 : decode cL_law 496 = .ok (.iconst 1, 1) := by decide +kernel
theorem dL_law_497 : decode cL_law 497 = .ok (.iadd, 1) := by decide +kernel
theorem dL_law_498 : decode cL_law 498 = .ok (.iaload, 1) := by decide +kernel
theorem dL_law_499 : decode cL_law 499 = .ok (.aload_n 0, 1) := by decide +kernel
theorem dL_law_500 : decode cL_law 500 = .ok (.iload_n 3, 1) := by decide +kernel
theorem dL_law_501 : decode cL_law 501 = .ok (.iconst 2, 1) := by decide +kernel
theorem dL_law_502 : decode cL_law 502 = .ok (.iadd, 1) := by decide +kernel
theorem dL_law_503 : decode cL_law 503 = .ok (.iaload, 1) := by decide +kernel
theorem dL_law_504 : decode cL_law 504 = .ok (.invokevirtual 81, 3) := by decide +kernel
theorem dL_law_507 : decode cL_law 507 = .ok (.lcmp, 1) := by decide +kernel
theorem dL_law_508 : decode cL_law 508 = .ok (.ifCond .eq 28, 3) := by decide +kernel
theorem dL_law_511 : decode cL_law 511 = .ok (.iconst 0, 1) := by decide +kernel
theorem dL_law_512 : decode cL_law 512 = .ok (.ireturn, 1) := by decide +kernel
theorem dL_law_513 : decode cL_law 513 = .ok (.aload_n 1, 1) := by decide +kernel
theorem dL_law_514 : decode cL_law 514 = .ok (.aload_n 0, 1) := by decide +kernel
theorem dL_law_515 : decode cL_law 515 = .ok (.iload_n 3, 1) := by decide +kernel
theorem dL_law_516 : decode cL_law 516 = .ok (.iconst 1, 1) := by decide +kernel
theorem dL_law_517 : decode cL_law 517 = .ok (.iadd, 1) := by decide +kernel
theorem dL_law_518 : decode cL_law 518 = .ok (.iaload, 1) := by decide +kernel
theorem dL_law_519 : decode cL_law 519 = .ok (.invokevirtual 82, 3) := by decide +kernel
theorem dL_law_522 : decode cL_law 522 = .ok (.aload_n 2, 1) := by decide +kernel
theorem dL_law_523 : decode cL_law 523 = .ok (.aload_n 0, 1) := by decide +kernel
theorem dL_law_524 : decode cL_law 524 = .ok (.iload_n 3, 1) := by decide +kernel
theorem dL_law_525 : decode cL_law 525 = .ok (.iconst 1, 1) := by decide +kernel
theorem dL_law_526 : decode cL_law 526 = .ok (.iadd, 1) := by decide +kernel
theorem dL_law_527 : decode cL_law 527 = .ok (.iaload, 1) := by decide +kernel
theorem dL_law_528 : decode cL_law 528 = .ok (.invokevirtual 85, 3) := by decide +kernel
theorem dL_law_531 : decode cL_law 531 = .ok (.if_icmp .eq 5, 3) := by decide +kernel
theorem dL_law_534 : decode cL_law 534 = .ok (.iconst 0, 1) := by decide +kernel
theorem dL_law_535 : decode cL_law 535 = .ok (.ireturn, 1) := by decide +kernel
theorem dL_law_536 : decode cL_law 536 = .ok (.iinc 3 5, 3) := by decide +kernel
theorem dL_law_539 : decode cL_law 539 = .ok (.goto (-511), 3) := by decide +kernel
theorem dL_law_542 : decode cL_law 542 = .ok (.iconst 1, 1) := by decide +kernel
theorem dL_law_543 : decode cL_law 543 = .ok (.ireturn, 1) := by decide +kernel
