theorem dX12_valueOfTest_14 : decode cX12_valueOfTest 14 = .ok (.getfield 35, 3) := by decide +kernel
theorem dX12_valueOfTest_17 : decode cX12_valueOfTest 17 = .ok (.iconst 4, 1) := by decide +kernel
theorem dX12_valueOfTest_18 : decode cX12_valueOfTest 18 = .ok (.iload_n 1, 1) := by decide +kernel
theorem dX12_valueOfTest_19 : decode cX12_valueOfTest 19 = .ok (.imul, 1) := by decide +kernel
theorem dX12_valueOfTest_20 : decode cX12_valueOfTest 20 = .ok (.aload_n 0, 1) := by decide +kernel
theorem dX12_valueOfTest_21 : decode cX12_valueOfTest 21 = .ok (.getfield 32, 3) := by decide +kernel
theorem dX12_valueOfTest_24 : decode cX12_valueOfTest 24 = .ok (.iload_n 1, 1) := by decide +kernel
theorem dX12_valueOfTest_25 : decode cX12_valueOfTest 25 = .ok (.iaload, 1) := by decide +kernel
theorem dX12_valueOfTest_26 : decode cX12_valueOfTest 26 = .ok (.iload_n 2, 1) := by decide +kernel
theorem dX12_valueOfTest_27 : decode cX12_valueOfTest 27 = .ok (.invokevirtual 205, 3) := by decide +kernel
theorem dX12_valueOfTest_30 : decode cX12_valueOfTest 30 = .ok (.ireturn, 1) := by decide +kernel
set_option maxRecDepth 20000 in
theorem ggX12_value_X12_isTest : GoodIn wsX12_value wsX12_isTest := goodIn_r _ [5, 6, 7, 8, 4, 9, 32, 33, 34, 35, 36, 37, 38, 39, 40, 41, 42, 43, 44, 45, 46, 47, 48, 49, 50, 51, 52, 53, 54, 55, 56, 57, 58, 59, 60, 61, 62, 63, 64, 65, 66, 67, 68, 69, 70, 71, 72, 73, 74, 75, 76, 77, 78, 79, 80, 81, 82, 83, 84, 85, 86, 87, 88, 89, 90, 91, 92, 93, 94, 95, 96, 97, 98, 99] (by decide +kernel) (by decide +kernel)
set_option maxRecDepth 20000 in
theorem gX12_value_X12_isTest : GoodIn wsX12_value (wsV RX12 198 RX12 yX12_isTest wsX12_isTest) := goodIn_app (goodIn_of _ (by decide +kernel)) ggX12_value_X12_isTest
set_option maxRecDepth 20000 in
theorem ggX12_value_X12_isWord : GoodIn wsX12_value wsX12_isWord := goodIn_r _ [12, 7, 8, 4, 9] (by decide +kernel) (by decide +kernel)
set_option maxRecDepth 20000 in
theorem gX12_value_X12_isWord : GoodIn wsX12_value (va_wsS RX12 176 yX12_isWord wsX12_isWord) := goodIn_app (goodIn_of _ (by decide +kernel)) ggX12_value_X12_isWord
set_option maxRecDepth 20000 in
theorem ggX12_value_X12_valueOfTest : GoodIn wsX12_value wsX12_valueOfTest := goodIn_r _ [16, 17, 18, 19, 20, 21, 22, 23, 4, 24, 25, 26, 27, 28, 29, 30, 31, 32, 33, 34, 35, 36, 37, 38, 39, 40, 41, 42, 43, 44, 45, 46, 47, 48, 49, 50, 51, 52, 53, 54, 55, 56, 57, 58, 59, 60, 61, 62, 63, 64, 65, 66, 67, 68, 69, 70, 71, 72, 73, 74, 75, 76, 77, 78, 79, 80, 81, 82, 83, 84, 85, 86, 87, 88, 89, 90, 91, 92, 93, 94, 95, 96, 97, 98, 99] (by decide +kernel) (by decide +kernel)
set_option maxRecDepth 20000 in
theorem gX12_value_X12_valueOfTest : GoodIn wsX12_value (wsV RX12 209 RX12 yX12_valueOfTest wsX12_valueOfTest) := goodIn_app (goodIn_of _ (by decide +kernel)) ggX12_value_X12_valueOfTest
theorem dX12_value_0 : decode cX12_value 0 = .ok (.aload_n 0, 1) := by decide +kernel
theorem dX12_value_1 : decode cX12_value 1 = .ok (.iload_n 1, 1) := by decide +kernel
theorem dX12_value_2 : decode cX12_value 2 = .ok (.invokevirtual 198, 3) := by decide +kernel
theorem dX12_value_5 : decode cX12_value 5 = .ok (.ifCond .eq 19, 3) := by decide +kernel
theorem dX12_value_8 : decode cX12_value 8 = .ok (.iload_n 2, 1) := by decide +kernel
theorem dX12_value_9 : decode cX12_value 9 = .ok (.invokestatic 176, 3) := by decide +kernel
theorem dX12_value_12 : decode cX12_value 12 = .ok (.ifCond .eq 12, 3) := by decide +kernel
theorem dX12_value_15 : decode cX12_value 15 = .ok (.aload_n 0, 1) := by decide +kernel
theorem dX12_value_16 : decode cX12_value 16 = .ok (.iload_n 1, 1) := by decide +kernel
theorem dX12_value_17 : decode cX12_value 17 = .ok (.iload_n 2, 1) := by decide +kernel
theorem dX12_value_18 : decode cX12_value 18 = .ok (.invokevirtual 209, 3) := by decide +kernel
theorem dX12_value_21 : decode cX12_value 21 = .ok (.goto 4, 3) := by decide +kernel
theorem dX12_value_24 : decode cX12_value 24 = .ok (.iconst (-1), 1) := by decide +kernel
theorem dX12_value_25 : decode cX12_value 25 = .ok (.ireturn, 1) := by decide +kernel
set_option maxRecDepth 20000 in
theorem ggX12_signatureOf_X12_rangeOf : GoodIn wsX12_signatureOf wsX12_rangeOf := goodIn_r _ [6, 7, 8, 26, 27, 28, 29, 30, 31, 32, 33, 34, 35, 36, 37, 38, 39, 40, 41, 42, 43, 44, 45, 46, 47, 48, 49, 50, 51, 52, 53, 54, 55, 56, 57, 58, 59, 60, 61, 62, 63, 64, 65, 66, 67, 68, 69, 70, 71, 72, 73, 74, 75, 76, 77, 78, 79, 80, 81, 82, 83, 84, 85, 86, 87, 88, 89, 90, 91, 92, 93] (by decide +kernel) (by decide +kernel)
set_option maxRecDepth 20000 in
theorem gX12_signatureOf_X12_rangeOf : GoodIn wsX12_signatureOf (wsV RX12 201 RX12 yX12_rangeOf wsX12_rangeOf) := goodIn_app (goodIn_of _ (by decide +kernel)) ggX12_signatureOf_X12_rangeOf
set_option maxRecDepth 20000 in
theorem ggX12_signatureOf_X12_valueOfTest : GoodIn wsX12_signatureOf wsX12_valueOfTest := goodIn_r _ [12, 7, 8, 13, 14, 15, 16, 17, 5, 18, 19, 20, 21, 22, 23, 24, 25, 26, 27, 28, 29, 30, 31, 32, 33, 34, 35, 36, 37, 38, 39, 40, 41, 42, 43, 44, 45, 46, 47, 48, 49, 50, 51, 52, 53, 54, 55, 56, 57, 58, 59, 60, 61, 62, 63, 64, 65, 66, 67, 68, 69, 70, 71, 72, 73, 74, 75, 76, 77, 78, 79, 80, 81, 82, 83, 84, 85, 86, 87, 88, 89, 90, 91, 92, 93] (by decide +kernel) (by decide +kernel)
set_option maxRecDepth 20000 in
theorem gX12_signatureOf_X12_valueOfTest : GoodIn wsX12_signatureOf (wsV RX12 209 RX12 yX12_valueOfTest wsX12_valueOfTest) := goodIn_app (goodIn_of _ (by decide +kernel)) ggX12_signatureOf_X12_valueOfTest
theorem dX12_signatureOf_0 : decode cX12_signatureOf 0 = .ok (.iconst 0, 1) := by decide +kernel
theorem dX12_signatureOf_1 : decode cX12_signatureOf 1 = .ok (.istore_n 2, 1) := by decide +kernel
theorem dX12_signatureOf_2 : decode cX12_signatureOf 2 = .ok (.aload_n 0, 1) := by decide +kernel
theorem dX12_signatureOf_3 : decode cX12_signatureOf 3 = .ok (.getfield 173, 3) := by decide +kernel
theorem dX12_signatureOf_6 : decode cX12_signatureOf 6 = .ok (.iconst 1, 1) := by decide +kernel
theorem dX12_signatureOf_7 : decode cX12_signatureOf 7 = .ok (.isub, 1) := by decide +kernel
theorem dX12_signatureOf_8 : decode cX12_signatureOf 8 = .ok (.istore_n 3, 1) := by decide +kernel
theorem dX12_signatureOf_9 : decode cX12_signatureOf 9 = .ok (.iload_n 3, 1) := by decide +kernel
theorem dX12_signatureOf_10 : decode cX12_signatureOf 10 = .ok (.ifCond .lt 24, 3) := by decide +kernel
theorem dX12_signatureOf_13 : decode cX12_signatureOf 13 = .ok (.aload_n 0, 1) := by decide +kernel
theorem dX12_signatureOf_14 : decode cX12_signatureOf 14 = .ok (.iload_n 3, 1) := by decide +kernel
theorem dX12_signatureOf_15 : decode cX12_signatureOf 15 = .ok (.invokevirtual 201, 3) := by decide +kernel
theorem dX12_signatureOf_18 : decode cX12_signatureOf 18 = .ok (.iload_n 2, 1) := by decide +kernel
theorem dX12_signatureOf_19 : decode cX12_signatureOf 19 = .ok (.imul, 1) := by decide +kernel
theorem dX12_signatureOf_20 : decode cX12_signatureOf 20 = .ok (.aload_n 0, 1) := by decide +kernel
theorem dX12_signatureOf_21 : decode cX12_signatureOf 21 = .ok (.iload_n 3, 1) := by decide +kernel
theorem dX12_signatureOf_22 : decode cX12_signatureOf 22 = .ok (.iload_n 1, 1) := by decide +kernel
theorem dX12_signatureOf_23 : decode cX12_signatureOf 23 = .ok (.invokevirtual 209, 3) := by decide +kernel
theorem dX12_signatureOf_26 : decode cX12_signatureOf 26 = .ok (.iadd, 1) := by decide +kernel
theorem dX12_signatureOf_27 : decode cX12_signatureOf 27 = .ok (.istore_n 2, 1) := by decide +kernel
theorem dX12_signatureOf_28 : decode cX12_signatureOf 28 = .ok (.iinc 3 (-1), 3) := by decide +kernel
theorem dX12_signatureOf_31 : decode cX12_signatureOf 31 = .ok (.goto (-22), 3) := by decide +kernel
theorem dX12_signatureOf_34 : decode cX12_signatureOf 34 = .ok (.iload_n 2, 1) := by decide +kernel
theorem dX12_signatureOf_35 : decode cX12_signatureOf 35 = .ok (.ireturn, 1) := by decide +kernel
set_option maxRecDepth 20000 in
theorem ggX12_signature_X12_isWord : GoodIn wsX12_signature wsX12_isWord := goodIn_r _ [4, 5, 6, 3, 7] (by decide +kernel) (by decide +kernel)
set_option maxRecDepth 20000 in
theorem gX12_signature_X12_isWord : GoodIn wsX12_signature (va_wsS RX12 176 yX12_isWord wsX12_isWord) := goodIn_app (goodIn_of _ (by decide +kernel)) ggX12_signature_X12_isWord
set_option maxRecDepth 20000 in
theorem ggX12_signature_X12_signatureOf : GoodIn wsX12_signature wsX12_signatureOf := goodIn_r _ [11, 12, 13, 14, 15, 3, 16, 17, 18, 19, 20, 21, 22, 23, 24, 25, 26, 27, 28, 29, 30, 31, 32, 33, 34, 35, 36, 37, 38, 39, 40, 41, 42, 43, 44, 45, 46, 47, 48, 49, 50, 51, 52, 53, 54, 55, 56, 57, 58, 59, 60, 61, 62, 63, 64, 65, 66, 67, 68, 69, 70, 71, 72, 73, 74, 75, 76, 77, 78, 79, 80, 81, 82, 83, 84, 85, 86, 87, 88, 89, 90, 91, 92, 93, 94, 95, 96, 97, 98, 99, 100, 101, 102, 103] (by decide +kernel) (by decide +kernel)
set_option maxRecDepth 20000 in
theorem gX12_signature_X12_signatureOf : GoodIn wsX12_signature (wsV RX12 213 RX12 yX12_signatureOf wsX12_signatureOf) := goodIn_app (goodIn_of _ (by decide +kernel)) ggX12_signature_X12_signatureOf
theorem dX12_signature_0 : decode cX12_signature 0 = .ok (.iload_n 1, 1) := by decide +kernel
theorem dX12_signature_1 : decode cX12_signature 1 = .ok (.invokestatic 176, 3) := by decide +kernel
theorem dX12_signature_4 : decode cX12_signature 4 = .ok (.ifCond .eq 11, 3) := by decide +kernel
theorem dX12_signature_7 : decode cX12_signature 7 = .ok (.aload_n 0, 1) := by decide +kernel
theorem dX12_signature_8 : decode cX12_signature 8 = .ok (.iload_n 1, 1) := by decide +kernel
theorem dX12_signature_9 : decode cX12_signature 9 = .ok (.invokevirtual 213, 3) := by decide +kernel
theorem dX12_signature_12 : decode cX12_signature 12 = .ok (.goto 4, 3) := by decide +kernel
theorem dX12_signature_15 : decode cX12_signature 15 = .ok (.iconst (-1), 1) := by decide +kernel
theorem dX12_signature_16 : decode cX12_signature 16 = .ok (.ireturn, 1) := by decide +kernel
set_option maxRecDepth 20000 in
theorem ggX12_findSignatures_X12_spell : GoodIn wsX12_findSignatures wsX12_spell := goodIn_r _ [11, 1, 3, 5, 38, 39, 40, 41, 42, 43, 44, 45, 46, 47, 48, 49, 50, 51, 52, 53, 54, 55, 56, 57, 58, 59, 60, 61, 62, 63, 64, 65, 66, 67, 68, 69, 70, 71, 72, 73, 74, 75, 76, 77, 78, 79, 80, 81, 82, 83, 84, 85, 86, 87, 88, 89, 90, 91, 92, 93, 94, 95, 96, 97, 98, 99, 100, 101, 102, 103, 104, 105] (by decide +kernel) (by decide +kernel)
set_option maxRecDepth 20000 in
theorem gX12_findSignatures_X12_spell : GoodIn wsX12_findSignatures (wsV RX12 219 RX12 yX12_spell wsX12_spell) := goodIn_app (goodIn_of _ (by decide +kernel)) ggX12_findSignatures_X12_spell
set_option maxRecDepth 20000 in
theorem ggX12_findSignatures_X12_signatureOf : GoodIn wsX12_findSignatures wsX12_signatureOf := goodIn_r _ [15, 16, 17, 18, 19, 10, 20, 21, 22, 23, 24, 25, 26, 27, 28, 29, 30, 31, 32, 1, 33, 34, 35, 36, 37, 3, 38, 39, 40, 41, 42, 43, 44, 45, 46, 47, 48, 49, 50, 51, 52, 53, 54, 55, 56, 57, 58, 59, 60, 61, 62, 63, 64, 65, 66, 67, 68, 69, 70, 71, 72, 73, 74, 75, 76, 77, 78, 79, 80, 81, 82, 83, 84, 85, 86, 87, 88, 89, 90, 91, 92, 93, 94, 95, 96, 97, 98, 99, 100, 101, 102, 103, 104, 105] (by decide +kernel) (by decide +kernel)
set_option maxRecDepth 20000 in
theorem gX12_findSignatures_X12_signatureOf : GoodIn wsX12_findSignatures (wsV RX12 213 RX12 yX12_signatureOf wsX12_signatureOf) := goodIn_app (goodIn_of _ (by decide +kernel)) ggX12_findSignatures_X12_signatureOf
theorem dX12_findSignatures_0 : decode cX12_findSignatures 0 = .ok (.aload_n 0, 1) := by decide +kernel
theorem dX12_findSignatures_1 : decode cX12_findSignatures 1 = .ok (.getfield 13, 3) := by decide +kernel
theorem dX12_findSignatures_4 : decode cX12_findSignatures 4 = .ok (.iconst 0, 1) := by decide +kernel
theorem dX12_findSignatures_5 : decode cX12_findSignatures 5 = .ok (.iaload, 1) := by decide +kernel
theorem dX12_findSignatures_6 : decode cX12_findSignatures 6 = .ok (.istore_n 2, 1) := by decide +kernel
theorem dX12_findSignatures_7 : decode cX12_findSignatures 7 = .ok (.iconst 0, 1) := by decide +kernel
theorem dX12_findSignatures_8 : decode cX12_findSignatures 8 = .ok (.istore_n 3, 1) := by decide +kernel
theorem dX12_findSignatures_9 : decode cX12_findSignatures 9 = .ok (.iload_n 3, 1) := by decide +kernel
theorem dX12_findSignatures_10 : decode cX12_findSignatures 10 = .ok (.bipush 12, 2) := by decide +kernel
theorem dX12_findSignatures_12 : decode cX12_findSignatures 12 = .ok (.if_icmp .ge 21, 3) := by decide +kernel
theorem dX12_findSignatures_15 : decode cX12_findSignatures 15 = .ok (.aload_n 0, 1) := by decide +kernel
theorem dX12_findSignatures_16 : decode cX12_findSignatures 16 = .ok (.getfield 44, 3) := by decide +kernel
theorem dX12_findSignatures_19 : decode cX12_findSignatures 19 = .ok (.iload_n 3, 1) := by decide +kernel
theorem dX12_findSignatures_20 : decode cX12_findSignatures 20 = .ok (.aload_n 0, 1) := by decide +kernel
theorem dX12_findSignatures_21 : decode cX12_findSignatures 21 = .ok (.getfield 17, 3) := by decide +kernel
theorem dX12_findSignatures_24 : decode cX12_findSignatures 24 = .ok (.iload_n 3, 1) := by decide +kernel
theorem dX12_findSignatures_25 : decode cX12_findSignatures 25 = .ok (.iaload, 1) := by decide +kernel
theorem dX12_findSignatures_26 : decode cX12_findSignatures 26 = .ok (.iastore, 1) := by decide +kernel
theorem dX12_findSignatures_27 : decode cX12_findSignatures 27 = .ok (.iinc 3 1, 3) := by decide +kernel
theorem dX12_findSignatures_30 : decode cX12_findSignatures 30 = .ok (.goto (-21), 3) := by decide +kernel
theorem dX12_findSignatures_33 : decode cX12_findSignatures 33 = .ok (.aload_n 0, 1) := by decide +kernel
theorem dX12_findSignatures_34 : decode cX12_findSignatures 34 = .ok (.iconst 1, 1) := by decide +kernel
theorem dX12_findSignatures_35 : decode cX12_findSignatures 35 = .ok (.putfield 216, 3) := by decide +kernel
theorem dX12_findSignatures_38 : decode cX12_findSignatures 38 = .ok (.iconst 0, 1) := by decide +kernel
theorem dX12_findSignatures_39 : decode cX12_findSignatures 39 = .ok (.istore_n 3, 1) := by decide +kernel
theorem dX12_findSignatures_40 : decode cX12_findSignatures 40 = .ok (.iload_n 3, 1) := by decide +kernel
theorem dX12_findSignatures_41 : decode cX12_findSignatures 41 = .ok (.iload_n 1, 1) := by decide +kernel
theorem dX12_findSignatures_42 : decode cX12_findSignatures 42 = .ok (.if_icmp .ge 22, 3) := by decide +kernel
theorem dX12_findSignatures_45 : decode cX12_findSignatures 45 = .ok (.aload_n 0, 1) := by decide +kernel
theorem dX12_findSignatures_46 : decode cX12_findSignatures 46 = .ok (.dup, 1) := by decide +kernel
theorem dX12_findSignatures_47 : decode cX12_findSignatures 47 = .ok (.getfield 216, 3) := by decide +kernel
theorem dX12_findSignatures_50 : decode cX12_findSignatures 50 = .ok (.aload_n 0, 1) := by decide +kernel
theorem dX12_findSignatures_51 : decode cX12_findSignatures 51 = .ok (.getfield 7, 3) := by decide +kernel
theorem dX12_findSignatures_54 : decode cX12_findSignatures 54 = .ok (.imul, 1) := by decide +kernel
theorem dX12_findSignatures_55 : decode cX12_findSignatures 55 = .ok (.putfield 216, 3) := by decide +kernel
theorem dX12_findSignatures_58 : decode cX12_findSignatures 58 = .ok (.iinc 3 1, 3) := by decide +kernel
theorem dX12_findSignatures_61 : decode cX12_findSignatures 61 = .ok (.goto (-21), 3) := by decide +kernel
theorem dX12_findSignatures_64 : decode cX12_findSignatures 64 = .ok (.aload_n 0, 1) := by decide +kernel
theorem dX12_findSignatures_65 : decode cX12_findSignatures 65 = .ok (.getfield 13, 3) := by decide +kernel
theorem dX12_findSignatures_68 : decode cX12_findSignatures 68 = .ok (.iconst 0, 1) := by decide +kernel
theorem dX12_findSignatures_69 : decode cX12_findSignatures 69 = .ok (.iload_n 1, 1) := by decide +kernel
theorem dX12_findSignatures_70 : decode cX12_findSignatures 70 = .ok (.iastore, 1) := by decide +kernel
theorem dX12_findSignatures_71 : decode cX12_findSignatures 71 = .ok (.iconst 0, 1) := by decide +kernel
theorem dX12_findSignatures_72 : decode cX12_findSignatures 72 = .ok (.istore_n 3, 1) := by decide +kernel
theorem dX12_findSignatures_73 : decode cX12_findSignatures 73 = .ok (.iload_n 3, 1) := by decide +kernel
theorem dX12_findSignatures_74 : decode cX12_findSignatures 74 = .ok (.aload_n 0, 1) := by decide +kernel
theorem dX12_findSignatures_75 : decode cX12_findSignatures 75 = .ok (.getfield 216, 3) := by decide +kernel
theorem dX12_findSignatures_78 : decode cX12_findSignatures 78 = .ok (.if_icmp .ge 27, 3) := by decide +kernel
theorem dX12_findSignatures_81 : decode cX12_findSignatures 81 = .ok (.aload_n 0, 1) := by decide +kernel
theorem dX12_findSignatures_82 : decode cX12_findSignatures 82 = .ok (.iconst 0, 1) := by decide +kernel
theorem dX12_findSignatures_83 : decode cX12_findSignatures 83 = .ok (.iload_n 1, 1) := by decide +kernel
theorem dX12_findSignatures_84 : decode cX12_findSignatures 84 = .ok (.iload_n 3, 1) := by decide +kernel
theorem dX12_findSignatures_85 : decode cX12_findSignatures 85 = .ok (.invokevirtual 219, 3) := by decide +kernel
theorem dX12_findSignatures_88 : decode cX12_findSignatures 88 = .ok (.aload_n 0, 1) := by decide +kernel
theorem dX12_findSignatures_89 : decode cX12_findSignatures 89 = .ok (.getfield 41, 3) := by decide +kernel
theorem dX12_findSignatures_92 : decode cX12_findSignatures 92 = .ok (.iload_n 3, 1) := by decide +kernel
theorem dX12_findSignatures_93 : decode cX12_findSignatures 93 = .ok (.aload_n 0, 1) := by decide +kernel
theorem dX12_findSignatures_94 : decode cX12_findSignatures 94 = .ok (.iconst 0, 1) := by decide +kernel
theorem dX12_findSignatures_95 : decode cX12_findSignatures 95 = .ok (.invokevirtual 213, 3) := by decide +kernel
theorem dX12_findSignatures_98 : decode cX12_findSignatures 98 = .ok (.iastore, 1) := by decide +kernel
theorem dX12_findSignatures_99 : decode cX12_findSignatures 99 = .ok (.iinc 3 1, 3) := by decide +kernel
theorem dX12_findSignatures_102 : decode cX12_findSignatures 102 = .ok (.goto (-29), 3) := by decide +kernel
theorem dX12_findSignatures_105 : decode cX12_findSignatures 105 = .ok (.aload_n 0, 1) := by decide +kernel
theorem dX12_findSignatures_106 : decode cX12_findSignatures 106 = .ok (.getfield 13, 3) := by decide +kernel
theorem dX12_findSignatures_109 : decode cX12_findSignatures 109 = .ok (.iconst 0, 1) := by decide +kernel
theorem dX12_findSignatures_110 : decode cX12_findSignatures 110 = .ok (.iload_n 2, 1) := by decide +kernel
theorem dX12_findSignatures_111 : decode cX12_findSignatures 111 = .ok (.iastore, 1) := by decide +kernel
theorem dX12_findSignatures_112 : decode cX12_findSignatures 112 = .ok (.iconst 0, 1) := by decide +kernel
theorem dX12_findSignatures_113 : decode cX12_findSignatures 113 = .ok (.istore_n 3, 1) := by decide +kernel
theorem dX12_findSignatures_114 : decode cX12_findSignatures 114 = .ok (.iload_n 3, 1) := by decide +kernel
theorem dX12_findSignatures_115 : decode cX12_findSignatures 115 = .ok (.bipush 12, 2) := by decide +kernel
theorem dX12_findSignatures_117 : decode cX12_findSignatures 117 = .ok (.if_icmp .ge 21, 3) := by decide +kernel
theorem dX12_findSignatures_120 : decode cX12_findSignatures 120 = .ok (.aload_n 0, 1) := by decide +kernel
theorem dX12_findSignatures_121 : decode cX12_findSignatures 121 = .ok (.getfield 17, 3) := by decide +kernel
theorem dX12_findSignatures_124 : decode cX12_findSignatures 124 = .ok (.iload_n 3, 1) := by decide +kernel
theorem dX12_findSignatures_125 : decode cX12_findSignatures 125 = .ok (.aload_n 0, 1) := by decide +kernel
theorem dX12_findSignatures_126 : decode cX12_findSignatures 126 = .ok (.getfield 44, 3) := by decide +kernel
theorem dX12_findSignatures_129 : decode cX12_findSignatures 129 = .ok (.iload_n 3, 1) := by decide +kernel
theorem dX12_findSignatures_130 : decode cX12_findSignatures 130 = .ok (.iaload, 1) := by decide +kernel
theorem dX12_findSignatures_131 : decode cX12_findSignatures 131 = .ok (.iastore, 1) := by decide +kernel
theorem dX12_findSignatures_132 : decode cX12_findSignatures 132 = .ok (.iinc 3 1, 3) := by decide +kernel
theorem dX12_findSignatures_135 : decode cX12_findSignatures 135 = .ok (.goto (-21), 3) := by decide +kernel
theorem dX12_findSignatures_138 : decode cX12_findSignatures 138 = .ok (.return_, 1) := by decide +kernel
theorem dX12_spell_0 : decode cX12_spell 0 = .ok (.iload_n 3, 1) := by decide +kernel
theorem dX12_spell_1 : decode cX12_spell 1 = .ok (.istore 4, 2) := by decide +kernel
theorem dX12_spell_3 : decode cX12_spell 3 = .ok (.aload_n 0, 1) := by decide +kernel
theorem dX12_spell_4 : decode cX12_spell 4 = .ok (.getfield 13, 3) := by decide +kernel
theorem dX12_spell_7 : decode cX12_spell 7 = .ok (.iload_n 1, 1) := by decide +kernel
theorem dX12_spell_8 : decode cX12_spell 8 = .ok (.iload_n 2, 1) := by decide +kernel
theorem dX12_spell_9 : decode cX12_spell 9 = .ok (.iastore, 1) := by decide +kernel
theorem dX12_spell_10 : decode cX12_spell 10 = .ok (.iload_n 2, 1) := by decide +kernel
theorem dX12_spell_11 : decode cX12_spell 11 = .ok (.iconst 1, 1) := by decide +kernel
theorem dX12_spell_12 : decode cX12_spell 12 = .ok (.isub, 1) := by decide +kernel
theorem dX12_spell_13 : decode cX12_spell 13 = .ok (.istore 5, 2) := by decide +kernel
theorem dX12_spell_15 : decode cX12_spell 15 = .ok (.iload 5, 2) := by decide +kernel
theorem dX12_spell_17 : decode cX12_spell 17 = .ok (.ifCond .lt 37, 3) := by decide +kernel
theorem dX12_spell_20 : decode cX12_spell 20 = .ok (.aload_n 0, 1) := by decide +kernel
theorem dX12_spell_21 : decode cX12_spell 21 = .ok (.getfield 17, 3) := by decide +kernel
theorem dX12_spell_24 : decode cX12_spell 24 = .ok (.bipush 12, 2) := by decide +kernel
theorem dX12_spell_26 : decode cX12_spell 26 = .ok (.iload_n 1, 1) := by decide +kernel
theorem dX12_spell_27 : decode cX12_spell 27 = .ok (.imul, 1) := by decide +kernel
theorem dX12_spell_28 : decode cX12_spell 28 = .ok (.iload 5, 2) := by decide +kernel
theorem dX12_spell_30 : decode cX12_spell 30 = .ok (.iadd, 1) := by decide +kernel
theorem dX12_spell_31 : decode cX12_spell 31 = .ok (.iload 4, 2) := by decide +kernel
theorem dX12_spell_33 : decode cX12_spell 33 = .ok (.aload_n 0, 1) := by decide +kernel
theorem dX12_spell_34 : decode cX12_spell 34 = .ok (.getfield 7, 3) := by decide +kernel
theorem dX12_spell_37 : decode cX12_spell 37 = .ok (.irem, 1) := by decide +kernel
theorem dX12_spell_38 : decode cX12_spell 38 = .ok (.iastore, 1) := by decide +kernel
theorem dX12_spell_39 : decode cX12_spell 39 = .ok (.iload 4, 2) := by decide +kernel
theorem dX12_spell_41 : decode cX12_spell 41 = .ok (.aload_n 0, 1) := by decide +kernel
theorem dX12_spell_42 : decode cX12_spell 42 = .ok (.getfield 7, 3) := by decide +kernel
theorem dX12_spell_45 : decode cX12_spell 45 = .ok (.idiv, 1) := by decide +kernel
theorem dX12_spell_46 : decode cX12_spell 46 = .ok (.istore 4, 2) := by decide +kernel
theorem dX12_spell_48 : decode cX12_spell 48 = .ok (.iinc 5 (-1), 3) := by decide +kernel
theorem dX12_spell_51 : decode cX12_spell 51 = .ok (.goto (-36), 3) := by decide +kernel
theorem dX12_spell_54 : decode cX12_spell 54 = .ok (.return_, 1) := by decide +kernel
set_option maxRecDepth 20000 in
theorem ggX12_classes_X12_isBetween : GoodIn wsX12_classes wsX12_isBetween := goodIn_r _ [6] (by decide +kernel) (by decide +kernel)
set_option maxRecDepth 20000 in
theorem gX12_classes_X12_isBetween : GoodIn wsX12_classes (va_wsS RX12 169 yX12_isBetween wsX12_isBetween) := goodIn_app (goodIn_of _ (by decide +kernel)) ggX12_classes_X12_isBetween
set_option maxRecDepth 20000 in
theorem ggX12_classes_X12_findSignatures : GoodIn wsX12_classes wsX12_findSignatures := goodIn_r _ [10, 11, 12, 13, 1, 14, 2, 15, 16, 17, 5, 18, 19, 20, 21, 22, 23, 24, 25, 26, 27, 28, 29, 30, 31, 32, 33, 34, 35, 36, 37, 38, 39, 40, 41, 42, 43, 44, 45, 46, 47, 48, 49, 50, 51, 52, 53, 54, 55, 56, 57, 58, 59, 60, 61, 62, 63, 64, 65, 66, 67, 68, 69, 70, 71, 72, 73, 74, 75, 76, 77, 78, 79, 80, 81, 82, 83, 84, 85, 86, 87, 88, 89, 90, 91, 92, 93, 94, 95, 96, 97, 98, 99, 100, 101, 102, 103, 104, 105, 106, 107, 108, 109, 110, 111, 112] (by decide +kernel) (by decide +kernel)
set_option maxRecDepth 20000 in
theorem gX12_classes_X12_findSignatures : GoodIn wsX12_classes (wsV RX12 223 RX12 yX12_findSignatures wsX12_findSignatures) := goodIn_app (goodIn_of _ (by decide +kernel)) ggX12_classes_X12_findSignatures
theorem dX12_classes_0 : decode cX12_classes 0 = .ok (.iload_n 1, 1) := by decide +kernel
theorem dX12_classes_1 : decode cX12_classes 1 = .ok (.iconst 0, 1) := by decide +kernel
theorem dX12_classes_2 : decode cX12_classes 2 = .ok (.bipush 7, 2) := by decide +kernel
theorem dX12_classes_4 : decode cX12_classes 4 = .ok (.invokestatic 169, 3) := by decide +kernel
theorem dX12_classes_7 : decode cX12_classes 7 = .ok (.ifCond .ne 5, 3) := by decide +kernel
theorem dX12_classes_10 : decode cX12_classes 10 = .ok (.iconst (-1), 1) := by decide +kernel
theorem dX12_classes_11 : decode cX12_classes 11 = .ok (.ireturn, 1) := by decide +kernel
theorem dX12_classes_12 : decode cX12_classes 12 = .ok (.aload_n 0, 1) := by decide +kernel
theorem dX12_classes_13 : decode cX12_classes 13 = .ok (.iload_n 1, 1) := by decide +kernel
theorem dX12_classes_14 : decode cX12_classes 14 = .ok (.invokevirtual 223, 3) := by decide +kernel
theorem dX12_classes_17 : decode cX12_classes 17 = .ok (.iconst 0, 1) := by decide +kernel
theorem dX12_classes_18 : decode cX12_classes 18 = .ok (.istore_n 2, 1) := by decide +kernel
theorem dX12_classes_19 : decode cX12_classes 19 = .ok (.iconst 0, 1) := by decide +kernel
theorem dX12_classes_20 : decode cX12_classes 20 = .ok (.istore_n 3, 1) := by decide +kernel
theorem dX12_classes_21 : decode cX12_classes 21 = .ok (.iload_n 3, 1) := by decide +kernel
theorem dX12_classes_22 : decode cX12_classes 22 = .ok (.aload_n 0, 1) := by decide +kernel
theorem dX12_classes_23 : decode cX12_classes 23 = .ok (.getfield 216, 3) := by decide +kernel
theorem dX12_classes_26 : decode cX12_classes 26 = .ok (.if_icmp .ge 68, 3) := by decide +kernel
theorem dX12_classes_29 : decode cX12_classes 29 = .ok (.iconst 1, 1) := by decide +kernel
theorem dX12_classes_30 : decode cX12_classes 30 = .ok (.istore 4, 2) := by decide +kernel
theorem dX12_classes_32 : decode cX12_classes 32 = .ok (.iconst 0, 1) := by decide +kernel
theorem dX12_classes_33 : decode cX12_classes 33 = .ok (.istore 5, 2) := by decide +kernel
theorem dX12_classes_35 : decode cX12_classes 35 = .ok (.iload 5, 2) := by decide +kernel
theorem dX12_classes_37 : decode cX12_classes 37 = .ok (.iload_n 3, 1) := by decide +kernel
theorem dX12_classes_38 : decode cX12_classes 38 = .ok (.if_icmp .ge 37, 3) := by decide +kernel
theorem dX12_classes_41 : decode cX12_classes 41 = .ok (.iload 4, 2) := by decide +kernel
theorem dX12_classes_43 : decode cX12_classes 43 = .ok (.ifCond .eq 32, 3) := by decide +kernel
theorem dX12_classes_46 : decode cX12_classes 46 = .ok (.aload_n 0, 1) := by decide +kernel
theorem dX12_classes_47 : decode cX12_classes 47 = .ok (.getfield 41, 3) := by decide +kernel
theorem dX12_classes_50 : decode cX12_classes 50 = .ok (.iload 5, 2) := by decide +kernel
theorem dX12_classes_52 : decode cX12_classes 52 = .ok (.iaload, 1) := by decide +kernel
theorem dX12_classes_53 : decode cX12_classes 53 = .ok (.aload_n 0, 1) := by decide +kernel
theorem dX12_classes_54 : decode cX12_classes 54 = .ok (.getfield 41, 3) := by decide +kernel
theorem dX12_classes_57 : decode cX12_classes 57 = .ok (.iload_n 3, 1) := by decide +kernel
theorem dX12_classes_58 : decode cX12_classes 58 = .ok (.iaload, 1) := by decide +kernel
theorem dX12_classes_59 : decode cX12_classes 59 = .ok (.if_icmp .eq 7, 3) := by decide +kernel
theorem dX12_classes_62 : decode cX12_classes 62 = .ok (.iconst 1, 1) := by decide +kernel
theorem dX12_classes_63 : decode cX12_classes 63 = .ok (.goto 4, 3) := by decide +kernel
theorem dX12_classes_66 : decode cX12_classes 66 = .ok (.iconst 0, 1) := by decide +kernel
theorem dX12_classes_67 : decode cX12_classes 67 = .ok (.istore 4, 2) := by decide +kernel
theorem dX12_classes_69 : decode cX12_classes 69 = .ok (.iinc 5 1, 3) := by decide +kernel
theorem dX12_classes_72 : decode cX12_classes 72 = .ok (.goto (-37), 3) := by decide +kernel
theorem dX12_classes_75 : decode cX12_classes 75 = .ok (.iload_n 2, 1) := by decide +kernel
theorem dX12_classes_76 : decode cX12_classes 76 = .ok (.iload 4, 2) := by decide +kernel
theorem dX12_classes_78 : decode cX12_classes 78 = .ok (.ifCond .eq 7, 3) := by decide +kernel
theorem dX12_classes_81 : decode cX12_classes 81 = .ok (.iconst 1, 1) := by decide +kernel
theorem dX12_classes_82 : decode cX12_classes 82 = .ok (.goto 4, 3) := by decide +kernel
theorem dX12_classes_85 : decode cX12_classes 85 = .ok (.iconst 0, 1) := by decide +kernel
theorem dX12_classes_86 : decode cX12_classes 86 = .ok (.iadd, 1) := by decide +kernel
theorem dX12_classes_87 : decode cX12_classes 87 = .ok (.istore_n 2, 1) := by decide +kernel
theorem dX12_classes_88 : decode cX12_classes 88 = .ok (.iinc 3 1, 3) := by decide +kernel
theorem dX12_classes_91 : decode cX12_classes 91 = .ok (.goto (-70), 3) := by decide +kernel
theorem dX12_classes_94 : decode cX12_classes 94 = .ok (.iload_n 2, 1) := by decide +kernel
theorem dX12_classes_95 : decode cX12_classes 95 = .ok (.ireturn, 1) := by decide +kernel
set_option maxRecDepth 20000 in
theorem ggX12_classSize_X12_isBetween : GoodIn wsX12_classSize wsX12_isBetween := goodIn_r _ [6] (by decide +kernel) (by decide +kernel)
set_option maxRecDepth 20000 in
theorem gX12_classSize_X12_isBetween : GoodIn wsX12_classSize (va_wsS RX12 169 yX12_isBetween wsX12_isBetween) := goodIn_app (goodIn_of _ (by decide +kernel)) ggX12_classSize_X12_isBetween
set_option maxRecDepth 20000 in
theorem ggX12_classSize_X12_findSignatures : GoodIn wsX12_classSize wsX12_findSignatures := goodIn_r _ [10, 11, 12, 13, 1, 14, 2, 15, 16, 17, 5, 18, 19, 20, 21, 22, 23, 24, 25, 26, 27, 28, 29, 30, 31, 32, 33, 34, 35, 36, 37, 38, 39, 40, 41, 42, 43, 44, 45, 46, 47, 48, 49, 50, 51, 52, 53, 54, 55, 56, 57, 58, 59, 60, 61, 62, 63, 64, 65, 66, 67, 68, 69, 70, 71, 72, 73, 74, 75, 76, 77, 78, 79, 80, 81, 82, 83, 84, 85, 86, 87, 88, 89, 90, 91, 92, 93, 94, 95, 96, 97, 98, 99, 100, 101, 102, 103, 104, 105, 106, 107, 108, 109, 110, 111, 112] (by decide +kernel) (by decide +kernel)
set_option maxRecDepth 20000 in
theorem gX12_classSize_X12_findSignatures : GoodIn wsX12_classSize (wsV RX12 223 RX12 yX12_findSignatures wsX12_findSignatures) := goodIn_app (goodIn_of _ (by decide +kernel)) ggX12_classSize_X12_findSignatures
theorem dX12_classSize_0 : decode cX12_classSize 0 = .ok (.iload_n 1, 1) := by decide +kernel
theorem dX12_classSize_1 : decode cX12_classSize 1 = .ok (.iconst 0, 1) := by decide +kernel
theorem dX12_classSize_2 : decode cX12_classSize 2 = .ok (.bipush 7, 2) := by decide +kernel
theorem dX12_classSize_4 : decode cX12_classSize 4 = .ok (.invokestatic 169, 3) := by decide +kernel
theorem dX12_classSize_7 : decode cX12_classSize 7 = .ok (.ifCond .ne 5, 3) := by decide +kernel
theorem dX12_classSize_10 : decode cX12_classSize 10 = .ok (.iconst (-1), 1) := by decide +kernel
theorem dX12_classSize_11 : decode cX12_classSize 11 = .ok (.ireturn, 1) := by decide +kernel
theorem dX12_classSize_12 : decode cX12_classSize 12 = .ok (.aload_n 0, 1) := by decide +kernel
theorem dX12_classSize_13 : decode cX12_classSize 13 = .ok (.iload_n 1, 1) := by decide +kernel
theorem dX12_classSize_14 : decode cX12_classSize 14 = .ok (.invokevirtual 223, 3) := by decide +kernel
theorem dX12_classSize_17 : decode cX12_classSize 17 = .ok (.iconst 0, 1) := by decide +kernel
theorem dX12_classSize_18 : decode cX12_classSize 18 = .ok (.istore_n 3, 1) := by decide +kernel
theorem dX12_classSize_19 : decode cX12_classSize 19 = .ok (.iconst 0, 1) := by decide +kernel
theorem dX12_classSize_20 : decode cX12_classSize 20 = .ok (.istore 4, 2) := by decide +kernel
theorem dX12_classSize_22 : decode cX12_classSize 22 = .ok (.iload 4, 2) := by decide +kernel
theorem dX12_classSize_24 : decode cX12_classSize 24 = .ok (.aload_n 0, 1) := by decide +kernel
theorem dX12_classSize_25 : decode cX12_classSize 25 = .ok (.getfield 216, 3) := by decide +kernel
theorem dX12_classSize_28 : decode cX12_classSize 28 = .ok (.if_icmp .ge 28, 3) := by decide +kernel
theorem dX12_classSize_31 : decode cX12_classSize 31 = .ok (.iload_n 3, 1) := by decide +kernel
theorem dX12_classSize_32 : decode cX12_classSize 32 = .ok (.aload_n 0, 1) := by decide +kernel
theorem dX12_classSize_33 : decode cX12_classSize 33 = .ok (.getfield 41, 3) := by decide +kernel
theorem dX12_classSize_36 : decode cX12_classSize 36 = .ok (.iload 4, 2) := by decide +kernel
theorem dX12_classSize_38 : decode cX12_classSize 38 = .ok (.iaload, 1) := by decide +kernel
theorem dX12_classSize_39 : decode cX12_classSize 39 = .ok (.iload_n 2, 1) := by decide +kernel
theorem dX12_classSize_40 : decode cX12_classSize 40 = .ok (.if_icmp .ne 7, 3) := by decide +kernel
theorem dX12_classSize_43 : decode cX12_classSize 43 = .ok (.iconst 1, 1) := by decide +kernel
theorem dX12_classSize_44 : decode cX12_classSize 44 = .ok (.goto 4, 3) := by decide +kernel
theorem dX12_classSize_47 : decode cX12_classSize 47 = .ok (.iconst 0, 1) := by decide +kernel
theorem dX12_classSize_48 : decode cX12_classSize 48 = .ok (.iadd, 1) := by decide +kernel
theorem dX12_classSize_49 : decode cX12_classSize 49 = .ok (.istore_n 3, 1) := by decide +kernel
theorem dX12_classSize_50 : decode cX12_classSize 50 = .ok (.iinc 4 1, 3) := by decide +kernel
theorem dX12_classSize_53 : decode cX12_classSize 53 = .ok (.goto (-31), 3) := by decide +kernel
theorem dX12_classSize_56 : decode cX12_classSize 56 = .ok (.iload_n 3, 1) := by decide +kernel
theorem dX12_classSize_57 : decode cX12_classSize 57 = .ok (.ireturn, 1) := by decide +kernel
set_option maxRecDepth 20000 in
theorem ggX12_findCollision_X12_findSignatures : GoodIn wsX12_findCollision wsX12_findSignatures := goodIn_r _ [7, 8, 9, 10, 1, 11, 2, 12, 13, 14, 6, 15, 16, 17, 18, 19, 20, 21, 22, 23, 24, 25, 26, 27, 28, 29, 30, 31, 32, 33, 34, 35, 36, 37, 38, 39, 40, 41, 42, 43, 44, 45, 46, 47, 48, 49, 50, 51, 52, 53, 54, 55, 56, 57, 58, 59, 60, 61, 62, 63, 64, 65, 66, 67, 68, 69, 70, 71, 72, 73, 74, 75, 76, 77, 78, 79, 80, 81, 82, 83, 84, 85, 86, 87, 88, 89, 90, 91, 92, 93, 94, 95, 96, 97, 98, 99, 100, 101, 102, 103, 104, 105, 106, 107, 108, 109] (by decide +kernel) (by decide +kernel)
set_option maxRecDepth 20000 in
theorem gX12_findCollision_X12_findSignatures : GoodIn wsX12_findCollision (wsV RX12 223 RX12 yX12_findSignatures wsX12_findSignatures) := goodIn_app (goodIn_of _ (by decide +kernel)) ggX12_findCollision_X12_findSignatures
set_option maxRecDepth 20000 in
theorem ggX12_findCollision_X12_spell : GoodIn wsX12_findCollision wsX12_spell := goodIn_r _ [15, 8, 10, 11, 42, 43, 44, 45, 46, 47, 48, 49, 50, 51, 52, 53, 54, 55, 56, 57, 58, 59, 60, 61, 62, 63, 64, 65, 66, 67, 68, 69, 70, 71, 72, 73, 74, 75, 76, 77, 78, 79, 80, 81, 82, 83, 84, 85, 86, 87, 88, 89, 90, 91, 92, 93, 94, 95, 96, 97, 98, 99, 100, 101, 102, 103, 104, 105, 106, 107, 108, 109] (by decide +kernel) (by decide +kernel)
set_option maxRecDepth 20000 in
theorem gX12_findCollision_X12_spell : GoodIn wsX12_findCollision (wsV RX12 219 RX12 yX12_spell wsX12_spell) := goodIn_app (goodIn_of _ (by decide +kernel)) ggX12_findCollision_X12_spell
theorem dX12_findCollision_0 : decode cX12_findCollision 0 = .ok (.iconst 1, 1) := by decide +kernel
theorem dX12_findCollision_1 : decode cX12_findCollision 1 = .ok (.istore_n 1, 1) := by decide +kernel
theorem dX12_findCollision_2 : decode cX12_findCollision 2 = .ok (.iload_n 1, 1) := by decide +kernel
theorem dX12_findCollision_3 : decode cX12_findCollision 3 = .ok (.bipush 7, 2) := by decide +kernel
theorem dX12_findCollision_5 : decode cX12_findCollision 5 = .ok (.if_icmp .gt 82, 3) := by decide +kernel
theorem dX12_findCollision_8 : decode cX12_findCollision 8 = .ok (.aload_n 0, 1) := by decide +kernel
theorem dX12_findCollision_9 : decode cX12_findCollision 9 = .ok (.iload_n 1, 1) := by decide +kernel
theorem dX12_findCollision_10 : decode cX12_findCollision 10 = .ok (.invokevirtual 223, 3) := by decide +kernel
theorem dX12_findCollision_13 : decode cX12_findCollision 13 = .ok (.iconst 0, 1) := by decide +kernel
theorem dX12_findCollision_14 : decode cX12_findCollision 14 = .ok (.istore_n 2, 1) := by decide +kernel
theorem dX12_findCollision_15 : decode cX12_findCollision 15 = .ok (.iload_n 2, 1) := by decide +kernel
theorem dX12_findCollision_16 : decode cX12_findCollision 16 = .ok (.aload_n 0, 1) := by decide +kernel
theorem dX12_findCollision_17 : decode cX12_findCollision 17 = .ok (.getfield 216, 3) := by decide +kernel
theorem dX12_findCollision_20 : decode cX12_findCollision 20 = .ok (.if_icmp .ge 61, 3) := by decide +kernel
theorem dX12_findCollision_23 : decode cX12_findCollision 23 = .ok (.iload_n 2, 1) := by decide +kernel
theorem dX12_findCollision_24 : decode cX12_findCollision 24 = .ok (.iconst 1, 1) := by decide +kernel
theorem dX12_findCollision_25 : decode cX12_findCollision 25 = .ok (.iadd, 1) := by decide +kernel
theorem dX12_findCollision_26 : decode cX12_findCollision 26 = .ok (.istore_n 3, 1) := by decide +kernel
theorem dX12_findCollision_27 : decode cX12_findCollision 27 = .ok (.iload_n 3, 1) := by decide +kernel
theorem dX12_findCollision_28 : decode cX12_findCollision 28 = .ok (.aload_n 0, 1) := by decide +kernel
theorem dX12_findCollision_29 : decode cX12_findCollision 29 = .ok (.getfield 216, 3) := by decide +kernel
theorem dX12_findCollision_32 : decode cX12_findCollision 32 = .ok (.if_icmp .ge 43, 3) := by decide +kernel
theorem dX12_findCollision_35 : decode cX12_findCollision 35 = .ok (.aload_n 0, 1) := by decide +kernel
theorem dX12_findCollision_36 : decode cX12_findCollision 36 = .ok (.getfield 41, 3) := by decide +kernel
theorem dX12_findCollision_39 : decode cX12_findCollision 39 = .ok (.iload_n 2, 1) := by decide +kernel
theorem dX12_findCollision_40 : decode cX12_findCollision 40 = .ok (.iaload, 1) := by decide +kernel
theorem dX12_findCollision_41 : decode cX12_findCollision 41 = .ok (.aload_n 0, 1) := by decide +kernel
theorem dX12_findCollision_42 : decode cX12_findCollision 42 = .ok (.getfield 41, 3) := by decide +kernel
theorem dX12_findCollision_45 : decode cX12_findCollision 45 = .ok (.iload_n 3, 1) := by decide +kernel
theorem dX12_findCollision_46 : decode cX12_findCollision 46 = .ok (.iaload, 1) := by decide +kernel
theorem dX12_findCollision_47 : decode cX12_findCollision 47 = .ok (.if_icmp .eq 6, 3) := by decide +kernel
theorem dX12_findCollision_50 : decode cX12_findCollision 50 = .ok (.goto 19, 3) := by decide +kernel
theorem dX12_findCollision_53 : decode cX12_findCollision 53 = .ok (.aload_n 0, 1) := by decide +kernel
theorem dX12_findCollision_54 : decode cX12_findCollision 54 = .ok (.iconst 0, 1) := by decide +kernel
theorem dX12_findCollision_55 : decode cX12_findCollision 55 = .ok (.iload_n 1, 1) := by decide +kernel
theorem dX12_findCollision_56 : decode cX12_findCollision 56 = .ok (.iload_n 2, 1) := by decide +kernel
theorem dX12_findCollision_57 : decode cX12_findCollision 57 = .ok (.invokevirtual 219, 3) := by decide +kernel
theorem dX12_findCollision_60 : decode cX12_findCollision 60 = .ok (.aload_n 0, 1) := by decide +kernel
theorem dX12_findCollision_61 : decode cX12_findCollision 61 = .ok (.iconst 1, 1) := by decide +kernel
theorem dX12_findCollision_62 : decode cX12_findCollision 62 = .ok (.iload_n 1, 1) := by decide +kernel
theorem dX12_findCollision_63 : decode cX12_findCollision 63 = .ok (.iload_n 3, 1) := by decide +kernel
theorem dX12_findCollision_64 : decode cX12_findCollision 64 = .ok (.invokevirtual 219, 3) := by decide +kernel
theorem dX12_findCollision_67 : decode cX12_findCollision 67 = .ok (.iload_n 1, 1) := by decide +kernel
theorem dX12_findCollision_68 : decode cX12_findCollision 68 = .ok (.ireturn, 1) := by decide +kernel
theorem dX12_findCollision_69 : decode cX12_findCollision 69 = .ok (.iinc 3 1, 3) := by decide +kernel
theorem dX12_findCollision_72 : decode cX12_findCollision 72 = .ok (.goto (-45), 3) := by decide +kernel
theorem dX12_findCollision_75 : decode cX12_findCollision 75 = .ok (.iinc 2 1, 3) := by decide +kernel
theorem dX12_findCollision_78 : decode cX12_findCollision 78 = .ok (.goto (-63), 3) := by decide +kernel
theorem dX12_findCollision_81 : decode cX12_findCollision 81 = .ok (.iinc 1 1, 3) := by decide +kernel
theorem dX12_findCollision_84 : decode cX12_findCollision 84 = .ok (.goto (-82), 3) := by decide +kernel
theorem dX12_findCollision_87 : decode cX12_findCollision 87 = .ok (.bipush (-2), 2) := by decide +kernel
theorem dX12_findCollision_89 : decode cX12_findCollision 89 = .ok (.ireturn, 1) := by decide +kernel
set_option maxRecDepth 20000 in
theorem ggX12_isLanguage_X12_isBetween : GoodIn wsX12_isLanguage wsX12_isBetween := goodIn_r _ [4] (by decide +kernel) (by decide +kernel)
set_option maxRecDepth 20000 in
theorem gX12_isLanguage_X12_isBetween : GoodIn wsX12_isLanguage (va_wsS RX12 169 yX12_isBetween wsX12_isBetween) := goodIn_app (goodIn_of _ (by decide +kernel)) ggX12_isLanguage_X12_isBetween
theorem dX12_isLanguage_0 : decode cX12_isLanguage 0 = .ok (.iload_n 0, 1) := by decide +kernel
theorem dX12_isLanguage_1 : decode cX12_isLanguage 1 = .ok (.iconst 0, 1) := by decide +kernel
theorem dX12_isLanguage_2 : decode cX12_isLanguage 2 = .ok (.iconst 3, 1) := by decide +kernel
theorem dX12_isLanguage_3 : decode cX12_isLanguage 3 = .ok (.invokestatic 169, 3) := by decide +kernel
theorem dX12_isLanguage_6 : decode cX12_isLanguage 6 = .ok (.ireturn, 1) := by decide +kernel
set_option maxRecDepth 20000 in
theorem ggX12_setBasic_X12_isLanguage : GoodIn wsX12_setBasic wsX12_isLanguage := goodIn_r _ [16, 17, 18, 15, 19] (by decide +kernel) (by decide +kernel)
set_option maxRecDepth 20000 in
theorem gX12_setBasic_X12_isLanguage : GoodIn wsX12_setBasic (va_wsS RX12 227 yX12_isLanguage wsX12_isLanguage) := goodIn_app (goodIn_of _ (by decide +kernel)) ggX12_setBasic_X12_isLanguage
set_option maxRecDepth 20000 in
theorem ggX12_setBasic_X12_isTest : GoodIn wsX12_setBasic wsX12_isTest := goodIn_r _ [23, 24, 17, 18, 15, 19, 29, 30, 31, 32, 33, 34, 35, 36, 37, 38, 39, 40, 41, 42, 43, 44, 45, 46, 47, 48, 49, 50, 51, 52, 53, 54, 55, 56, 57, 58, 59, 60, 61, 62, 63, 64, 65, 66, 67, 68, 69, 70, 71, 72, 73, 74, 75, 76, 77, 78, 79, 80, 81, 82, 83, 84, 85, 86, 87, 88, 89, 90, 91, 92, 93, 94, 95, 96] (by decide +kernel) (by decide +kernel)
set_option maxRecDepth 20000 in
theorem gX12_setBasic_X12_isTest : GoodIn wsX12_setBasic (wsV RX12 198 RX12 yX12_isTest wsX12_isTest) := goodIn_app (goodIn_of _ (by decide +kernel)) ggX12_setBasic_X12_isTest
set_option maxRecDepth 20000 in
theorem ggX12_setBasic_X12_rangeOf : GoodIn wsX12_setBasic wsX12_rangeOf := goodIn_r _ [28, 5, 7, 29, 30, 31, 32, 33, 34, 35, 36, 37, 38, 39, 40, 41, 42, 43, 44, 45, 46, 47, 48, 49, 50, 51, 52, 53, 54, 55, 56, 57, 58, 59, 60, 61, 62, 63, 64, 65, 66, 67, 68, 69, 70, 71, 72, 73, 74, 75, 76, 77, 78, 79, 80, 81, 82, 83, 84, 85, 86, 87, 88, 89, 90, 91, 92, 93, 94, 95, 96] (by decide +kernel) (by decide +kernel)
set_option maxRecDepth 20000 in
theorem gX12_setBasic_X12_rangeOf : GoodIn wsX12_setBasic (wsV RX12 201 RX12 yX12_rangeOf wsX12_rangeOf) := goodIn_app (goodIn_of _ (by decide +kernel)) ggX12_setBasic_X12_rangeOf
set_option maxRecDepth 20000 in
theorem ggX12_setBasic_X12_isBetween : GoodIn wsX12_setBasic wsX12_isBetween := goodIn_r _ [19] (by decide +kernel) (by decide +kernel)
set_option maxRecDepth 20000 in
theorem gX12_setBasic_X12_isBetween : GoodIn wsX12_setBasic (va_wsS RX12 169 yX12_isBetween wsX12_isBetween) := goodIn_app (goodIn_of _ (by decide +kernel)) ggX12_setBasic_X12_isBetween
theorem dX12_setBasic_0 : decode cX12_setBasic 0 = .ok (.iload_n 1, 1) := by decide +kernel
theorem dX12_setBasic_1 : decode cX12_setBasic 1 = .ok (.invokestatic 227, 3) := by decide +kernel
theorem dX12_setBasic_4 : decode cX12_setBasic 4 = .ok (.ifCond .eq 26, 3) := by decide +kernel
theorem dX12_setBasic_7 : decode cX12_setBasic 7 = .ok (.aload_n 0, 1) := by decide +kernel
theorem dX12_setBasic_8 : decode cX12_setBasic 8 = .ok (.iload_n 2, 1) := by decide +kernel
theorem dX12_setBasic_9 : decode cX12_setBasic 9 = .ok (.invokevirtual 198, 3) := by decide +kernel
theorem dX12_setBasic_12 : decode cX12_setBasic 12 = .ok (.ifCond .eq 18, 3) := by decide +kernel
theorem dX12_setBasic_15 : decode cX12_setBasic 15 = .ok (.iload_n 3, 1) := by decide +kernel
theorem dX12_setBasic_16 : decode cX12_setBasic 16 = .ok (.iconst 0, 1) := by decide +kernel
theorem dX12_setBasic_17 : decode cX12_setBasic 17 = .ok (.aload_n 0, 1) := by decide +kernel
theorem dX12_setBasic_18 : decode cX12_setBasic 18 = .ok (.iload_n 2, 1) := by decide +kernel
theorem dX12_setBasic_19 : decode cX12_setBasic 19 = .ok (.invokevirtual 201, 3) := by decide +kernel
theorem dX12_setBasic_22 : decode cX12_setBasic 22 = .ok (.iconst 1, 1) := by decide +kernel
theorem dX12_setBasic_23 : decode cX12_setBasic 23 = .ok (.isub, 1) := by decide +kernel
theorem dX12_setBasic_24 : decode cX12_setBasic 24 = .ok (.invokestatic 169, 3) := by decide +kernel
theorem dX12_setBasic_27 : decode cX12_setBasic 27 = .ok (.ifCond .ne 5, 3) := by decide +kernel
theorem dX12_setBasic_30 : decode cX12_setBasic 30 = .ok (.iconst (-1), 1) := by decide +kernel
theorem dX12_setBasic_31 : decode cX12_setBasic 31 = .ok (.ireturn, 1) := by decide +kernel
theorem dX12_setBasic_32 : decode cX12_setBasic 32 = .ok (.iconst 4, 1) := by decide +kernel
theorem dX12_setBasic_33 : decode cX12_setBasic 33 = .ok (.iload_n 1, 1) := by decide +kernel
theorem dX12_setBasic_34 : decode cX12_setBasic 34 = .ok (.imul, 1) := by decide +kernel
theorem dX12_setBasic_35 : decode cX12_setBasic 35 = .ok (.istore 4, 2) := by decide +kernel
theorem dX12_setBasic_37 : decode cX12_setBasic 37 = .ok (.aload_n 0, 1) := by decide +kernel
theorem dX12_setBasic_38 : decode cX12_setBasic 38 = .ok (.getfield 47, 3) := by decide +kernel
theorem dX12_setBasic_41 : decode cX12_setBasic 41 = .ok (.iload_n 1, 1) := by decide +kernel
theorem dX12_setBasic_42 : decode cX12_setBasic 42 = .ok (.iconst 0, 1) := by decide +kernel
theorem dX12_setBasic_43 : decode cX12_setBasic 43 = .ok (.iastore, 1) := by decide +kernel
theorem dX12_setBasic_44 : decode cX12_setBasic 44 = .ok (.aload_n 0, 1) := by decide +kernel
theorem dX12_setBasic_45 : decode cX12_setBasic 45 = .ok (.getfield 50, 3) := by decide +kernel
theorem dX12_setBasic_48 : decode cX12_setBasic 48 = .ok (.iload_n 1, 1) := by decide +kernel
theorem dX12_setBasic_49 : decode cX12_setBasic 49 = .ok (.iconst 1, 1) := by decide +kernel
theorem dX12_setBasic_50 : decode cX12_setBasic 50 = .ok (.iastore, 1) := by decide +kernel
theorem dX12_setBasic_51 : decode cX12_setBasic 51 = .ok (.aload_n 0, 1) := by decide +kernel
theorem dX12_setBasic_52 : decode cX12_setBasic 52 = .ok (.getfield 53, 3) := by decide +kernel
theorem dX12_setBasic_55 : decode cX12_setBasic 55 = .ok (.iload_n 1, 1) := by decide +kernel
theorem dX12_setBasic_56 : decode cX12_setBasic 56 = .ok (.iconst 2, 1) := by decide +kernel
theorem dX12_setBasic_57 : decode cX12_setBasic 57 = .ok (.iastore, 1) := by decide +kernel
theorem dX12_setBasic_58 : decode cX12_setBasic 58 = .ok (.aload_n 0, 1) := by decide +kernel
theorem dX12_setBasic_59 : decode cX12_setBasic 59 = .ok (.getfield 56, 3) := by decide +kernel
theorem dX12_setBasic_62 : decode cX12_setBasic 62 = .ok (.iload 4, 2) := by decide +kernel
theorem dX12_setBasic_64 : decode cX12_setBasic 64 = .ok (.aload_n 0, 1) := by decide +kernel
theorem dX12_setBasic_65 : decode cX12_setBasic 65 = .ok (.getfield 26, 3) := by decide +kernel
theorem dX12_setBasic_68 : decode cX12_setBasic 68 = .ok (.iload_n 2, 1) := by decide +kernel
theorem dX12_setBasic_69 : decode cX12_setBasic 69 = .ok (.iaload, 1) := by decide +kernel
theorem dX12_setBasic_70 : decode cX12_setBasic 70 = .ok (.iastore, 1) := by decide +kernel
theorem dX12_setBasic_71 : decode cX12_setBasic 71 = .ok (.aload_n 0, 1) := by decide +kernel
theorem dX12_setBasic_72 : decode cX12_setBasic 72 = .ok (.getfield 59, 3) := by decide +kernel
theorem dX12_setBasic_75 : decode cX12_setBasic 75 = .ok (.iload 4, 2) := by decide +kernel
theorem dX12_setBasic_77 : decode cX12_setBasic 77 = .ok (.aload_n 0, 1) := by decide +kernel
theorem dX12_setBasic_78 : decode cX12_setBasic 78 = .ok (.getfield 29, 3) := by decide +kernel
theorem dX12_setBasic_81 : decode cX12_setBasic 81 = .ok (.iload_n 2, 1) := by decide +kernel
theorem dX12_setBasic_82 : decode cX12_setBasic 82 = .ok (.iaload, 1) := by decide +kernel
theorem dX12_setBasic_83 : decode cX12_setBasic 83 = .ok (.iastore, 1) := by decide +kernel
theorem dX12_setBasic_84 : decode cX12_setBasic 84 = .ok (.aload_n 0, 1) := by decide +kernel
theorem dX12_setBasic_85 : decode cX12_setBasic 85 = .ok (.getfield 62, 3) := by decide +kernel
theorem dX12_setBasic_88 : decode cX12_setBasic 88 = .ok (.iload 4, 2) := by decide +kernel
theorem dX12_setBasic_90 : decode cX12_setBasic 90 = .ok (.aload_n 0, 1) := by decide +kernel
theorem dX12_setBasic_91 : decode cX12_setBasic 91 = .ok (.getfield 32, 3) := by decide +kernel
theorem dX12_setBasic_94 : decode cX12_setBasic 94 = .ok (.iload_n 2, 1) := by decide +kernel
theorem dX12_setBasic_95 : decode cX12_setBasic 95 = .ok (.iaload, 1) := by decide +kernel
theorem dX12_setBasic_96 : decode cX12_setBasic 96 = .ok (.iastore, 1) := by decide +kernel
theorem dX12_setBasic_97 : decode cX12_setBasic 97 = .ok (.aload_n 0, 1) := by decide +kernel
theorem dX12_setBasic_98 : decode cX12_setBasic 98 = .ok (.getfield 65, 3) := by decide +kernel
theorem dX12_setBasic_101 : decode cX12_setBasic 101 = .ok (.iload 4, 2) := by decide +kernel
theorem dX12_setBasic_103 : decode cX12_setBasic 103 = .ok (.iload_n 3, 1) := by decide +kernel
theorem dX12_setBasic_104 : decode cX12_setBasic 104 = .ok (.iastore, 1) := by decide +kernel
theorem dX12_setBasic_105 : decode cX12_setBasic 105 = .ok (.iconst 0, 1) := by decide +kernel
theorem dX12_setBasic_106 : decode cX12_setBasic 106 = .ok (.istore 5, 2) := by decide +kernel
theorem dX12_setBasic_108 : decode cX12_setBasic 108 = .ok (.iload 5, 2) := by decide +kernel
theorem dX12_setBasic_110 : decode cX12_setBasic 110 = .ok (.iconst 4, 1) := by decide +kernel
theorem dX12_setBasic_111 : decode cX12_setBasic 111 = .ok (.if_icmp .ge 32, 3) := by decide +kernel
theorem dX12_setBasic_114 : decode cX12_setBasic 114 = .ok (.aload_n 0, 1) := by decide +kernel
theorem dX12_setBasic_115 : decode cX12_setBasic 115 = .ok (.getfield 68, 3) := by decide +kernel
theorem dX12_setBasic_118 : decode cX12_setBasic 118 = .ok (.iconst 4, 1) := by decide +kernel
theorem dX12_setBasic_119 : decode cX12_setBasic 119 = .ok (.iload 4, 2) := by decide +kernel
theorem dX12_setBasic_121 : decode cX12_setBasic 121 = .ok (.imul, 1) := by decide +kernel
theorem dX12_setBasic_122 : decode cX12_setBasic 122 = .ok (.iload 5, 2) := by decide +kernel
theorem dX12_setBasic_124 : decode cX12_setBasic 124 = .ok (.iadd, 1) := by decide +kernel
theorem dX12_setBasic_125 : decode cX12_setBasic 125 = .ok (.aload_n 0, 1) := by decide +kernel
theorem dX12_setBasic_126 : decode cX12_setBasic 126 = .ok (.getfield 35, 3) := by decide +kernel
theorem dX12_setBasic_129 : decode cX12_setBasic 129 = .ok (.iconst 4, 1) := by decide +kernel
theorem dX12_setBasic_130 : decode cX12_setBasic 130 = .ok (.iload_n 2, 1) := by decide +kernel
theorem dX12_setBasic_131 : decode cX12_setBasic 131 = .ok (.imul, 1) := by decide +kernel
theorem dX12_setBasic_132 : decode cX12_setBasic 132 = .ok (.iload 5, 2) := by decide +kernel
theorem dX12_setBasic_134 : decode cX12_setBasic 134 = .ok (.iadd, 1) := by decide +kernel
theorem dX12_setBasic_135 : decode cX12_setBasic 135 = .ok (.iaload, 1) := by decide +kernel
theorem dX12_setBasic_136 : decode cX12_setBasic 136 = .ok (.iastore, 1) := by decide +kernel
theorem dX12_setBasic_137 : decode cX12_setBasic 137 = .ok (.iinc 5 1, 3) := by decide +kernel
theorem dX12_setBasic_140 : decode cX12_setBasic 140 = .ok (.goto (-32), 3) := by decide +kernel
theorem dX12_setBasic_143 : decode cX12_setBasic 143 = .ok (.iconst 1, 1) := by decide +kernel
theorem dX12_setBasic_144 : decode cX12_setBasic 144 = .ok (.ireturn, 1) := by decide +kernel
theorem dX12_addParts_0 : decode cX12_addParts 0 = .ok (.iconst 0, 1) := by decide +kernel
theorem dX12_addParts_1 : decode cX12_addParts 1 = .ok (.istore_n 2, 1) := by decide +kernel
theorem dX12_addParts_2 : decode cX12_addParts 2 = .ok (.iload_n 2, 1) := by decide +kernel
theorem dX12_addParts_3 : decode cX12_addParts 3 = .ok (.aload_n 0, 1) := by decide +kernel
theorem dX12_addParts_4 : decode cX12_addParts 4 = .ok (.getfield 50, 3) := by decide +kernel
theorem dX12_addParts_7 : decode cX12_addParts 7 = .ok (.iload_n 1, 1) := by decide +kernel
theorem dX12_addParts_8 : decode cX12_addParts 8 = .ok (.iaload, 1) := by decide +kernel
theorem dX12_addParts_9 : decode cX12_addParts 9 = .ok (.if_icmp .ge 125, 3) := by decide +kernel
theorem dX12_addParts_12 : decode cX12_addParts 12 = .ok (.iconst 4, 1) := by decide +kernel
theorem dX12_addParts_13 : decode cX12_addParts 13 = .ok (.iload_n 1, 1) := by decide +kernel
theorem dX12_addParts_14 : decode cX12_addParts 14 = .ok (.imul, 1) := by decide +kernel
theorem dX12_addParts_15 : decode cX12_addParts 15 = .ok (.iload_n 2, 1) := by decide +kernel
theorem dX12_addParts_16 : decode cX12_addParts 16 = .ok (.iadd, 1) := by decide +kernel
theorem dX12_addParts_17 : decode cX12_addParts 17 = .ok (.istore_n 3, 1) := by decide +kernel
theorem dX12_addParts_18 : decode cX12_addParts 18 = .ok (.aload_n 0, 1) := by decide +kernel
theorem dX12_addParts_19 : decode cX12_addParts 19 = .ok (.getfield 71, 3) := by decide +kernel
theorem dX12_addParts_22 : decode cX12_addParts 22 = .ok (.aload_n 0, 1) := by decide +kernel
theorem dX12_addParts_23 : decode cX12_addParts 23 = .ok (.getfield 230, 3) := by decide +kernel
theorem dX12_addParts_26 : decode cX12_addParts 26 = .ok (.aload_n 0, 1) := by decide +kernel
theorem dX12_addParts_27 : decode cX12_addParts 27 = .ok (.getfield 56, 3) := by decide +kernel
theorem dX12_addParts_30 : decode cX12_addParts 30 = .ok (.iload_n 3, 1) := by decide +kernel
theorem dX12_addParts_31 : decode cX12_addParts 31 = .ok (.iaload, 1) := by decide +kernel
theorem dX12_addParts_32 : decode cX12_addParts 32 = .ok (.iastore, 1) := by decide +kernel
theorem dX12_addParts_33 : decode cX12_addParts 33 = .ok (.aload_n 0, 1) := by decide +kernel
theorem dX12_addParts_34 : decode cX12_addParts 34 = .ok (.getfield 74, 3) := by decide +kernel
theorem dX12_addParts_37 : decode cX12_addParts 37 = .ok (.aload_n 0, 1) := by decide +kernel
theorem dX12_addParts_38 : decode cX12_addParts 38 = .ok (.getfield 230, 3) := by decide +kernel
theorem dX12_addParts_41 : decode cX12_addParts 41 = .ok (.aload_n 0, 1) := by decide +kernel
theorem dX12_addParts_42 : decode cX12_addParts 42 = .ok (.getfield 59, 3) := by decide +kernel
theorem dX12_addParts_45 : decode cX12_addParts 45 = .ok (.iload_n 3, 1) := by decide +kernel
theorem dX12_addParts_46 : decode cX12_addParts 46 = .ok (.iaload, 1) := by decide +kernel
theorem dX12_addParts_47 : decode cX12_addParts 47 = .ok (.iastore, 1) := by decide +kernel
theorem dX12_addParts_48 : decode cX12_addParts 48 = .ok (.aload_n 0, 1) := by decide +kernel
theorem dX12_addParts_49 : decode cX12_addParts 49 = .ok (.getfield 77, 3) := by decide +kernel
theorem dX12_addParts_52 : decode cX12_addParts 52 = .ok (.aload_n 0, 1) := by decide +kernel
theorem dX12_addParts_53 : decode cX12_addParts 53 = .ok (.getfield 230, 3) := by decide +kernel
theorem dX12_addParts_56 : decode cX12_addParts 56 = .ok (.aload_n 0, 1) := by decide +kernel
theorem dX12_addParts_57 : decode cX12_addParts 57 = .ok (.getfield 62, 3) := by decide +kernel
theorem dX12_addParts_60 : decode cX12_addParts 60 = .ok (.iload_n 3, 1) := by decide +kernel
theorem dX12_addParts_61 : decode cX12_addParts 61 = .ok (.iaload, 1) := by decide +kernel
theorem dX12_addParts_62 : decode cX12_addParts 62 = .ok (.iastore, 1) := by decide +kernel
theorem dX12_addParts_63 : decode cX12_addParts 63 = .ok (.aload_n 0, 1) := by decide +kernel
theorem dX12_addParts_64 : decode cX12_addParts 64 = .ok (.getfield 80, 3) := by decide +kernel
theorem dX12_addParts_67 : decode cX12_addParts 67 = .ok (.aload_n 0, 1) := by decide +kernel
theorem dX12_addParts_68 : decode cX12_addParts 68 = .ok (.getfield 230, 3) := by decide +kernel
theorem dX12_addParts_71 : decode cX12_addParts 71 = .ok (.aload_n 0, 1) := by decide +kernel
theorem dX12_addParts_72 : decode cX12_addParts 72 = .ok (.getfield 65, 3) := by decide +kernel
theorem dX12_addParts_75 : decode cX12_addParts 75 = .ok (.iload_n 3, 1) := by decide +kernel
theorem dX12_addParts_76 : decode cX12_addParts 76 = .ok (.iaload, 1) := by decide +kernel
theorem dX12_addParts_77 : decode cX12_addParts 77 = .ok (.iastore, 1) := by decide +kernel
theorem dX12_addParts_78 : decode cX12_addParts 78 = .ok (.iconst 0, 1) := by decide +kernel
theorem dX12_addParts_79 : decode cX12_addParts 79 = .ok (.istore 4, 2) := by decide +kernel
theorem dX12_addParts_81 : decode cX12_addParts 81 = .ok (.iload 4, 2) := by decide +kernel
theorem dX12_addParts_83 : decode cX12_addParts 83 = .ok (.iconst 4, 1) := by decide +kernel
theorem dX12_addParts_84 : decode cX12_addParts 84 = .ok (.if_icmp .ge 34, 3) := by decide +kernel
theorem dX12_addParts_87 : decode cX12_addParts 87 = .ok (.aload_n 0, 1) := by decide +kernel
theorem dX12_addParts_88 : decode cX12_addParts 88 = .ok (.getfield 83, 3) := by decide +kernel
theorem dX12_addParts_91 : decode cX12_addParts 91 = .ok (.iconst 4, 1) := by decide +kernel
theorem dX12_addParts_92 : decode cX12_addParts 92 = .ok (.aload_n 0, 1) := by decide +kernel
theorem dX12_addParts_93 : decode cX12_addParts 93 = .ok (.getfield 230, 3) := by decide +kernel
theorem dX12_addParts_96 : decode cX12_addParts 96 = .ok (.imul, 1) := by decide +kernel
theorem dX12_addParts_97 : decode cX12_addParts 97 = .ok (.iload 4, 2) := by decide +kernel
theorem dX12_addParts_99 : decode cX12_addParts 99 = .ok (.iadd, 1) := by decide +kernel
theorem dX12_addParts_100 : decode cX12_addParts 100 = .ok (.aload_n 0, 1) := by decide +kernel
theorem dX12_addParts_101 : decode cX12_addParts 101 = .ok (.getfield 68, 3) := by decide +kernel
theorem dX12_addParts_104 : decode cX12_addParts 104 = .ok (.iconst 4, 1) := by decide +kernel
theorem dX12_addParts_105 : decode cX12_addParts 105 = .ok (.iload_n 3, 1) := by decide +kernel
theorem dX12_addParts_106 : decode cX12_addParts 106 = .ok (.imul, 1) := by decide +kernel
theorem dX12_addParts_107 : decode cX12_addParts 107 = .ok (.iload 4, 2) := by decide +kernel
theorem dX12_addParts_109 : decode cX12_addParts 109 = .ok (.iadd, 1) := by decide +kernel
theorem dX12_addParts_110 : decode cX12_addParts 110 = .ok (.iaload, 1) := by decide +kernel
theorem dX12_addParts_111 : decode cX12_addParts 111 = .ok (.iastore, 1) := by decide +kernel
theorem dX12_addParts_112 : decode cX12_addParts 112 = .ok (.iinc 4 1, 3) := by decide +kernel
theorem dX12_addParts_115 : decode cX12_addParts 115 = .ok (.goto (-34), 3) := by decide +kernel
theorem dX12_addParts_118 : decode cX12_addParts 118 = .ok (.aload_n 0, 1) := by decide +kernel
theorem dX12_addParts_119 : decode cX12_addParts 119 = .ok (.dup, 1) := by decide +kernel
theorem dX12_addParts_120 : decode cX12_addParts 120 = .ok (.getfield 230, 3) := by decide +kernel
theorem dX12_addParts_123 : decode cX12_addParts 123 = .ok (.iconst 1, 1) := by decide +kernel
theorem dX12_addParts_124 : decode cX12_addParts 124 = .ok (.iadd, 1) := by decide +kernel
theorem dX12_addParts_125 : decode cX12_addParts 125 = .ok (.putfield 230, 3) := by decide +kernel
theorem dX12_addParts_128 : decode cX12_addParts 128 = .ok (.iinc 2 1, 3) := by decide +kernel
theorem dX12_addParts_131 : decode cX12_addParts 131 = .ok (.goto (-129), 3) := by decide +kernel
theorem dX12_addParts_134 : decode cX12_addParts 134 = .ok (.return_, 1) := by decide +kernel
theorem dX12_put_0 : decode cX12_put 0 = .ok (.aload_n 0, 1) := by decide +kernel
theorem dX12_put_1 : decode cX12_put 1 = .ok (.getfield 47, 3) := by decide +kernel
theorem dX12_put_4 : decode cX12_put 4 = .ok (.iload_n 1, 1) := by decide +kernel
theorem dX12_put_5 : decode cX12_put 5 = .ok (.iload_n 2, 1) := by decide +kernel
theorem dX12_put_6 : decode cX12_put 6 = .ok (.iastore, 1) := by decide +kernel
theorem dX12_put_7 : decode cX12_put 7 = .ok (.aload_n 0, 1) := by decide +kernel
theorem dX12_put_8 : decode cX12_put 8 = .ok (.getfield 53, 3) := by decide +kernel
theorem dX12_put_11 : decode cX12_put 11 = .ok (.iload_n 1, 1) := by decide +kernel
theorem dX12_put_12 : decode cX12_put 12 = .ok (.iload_n 3, 1) := by decide +kernel
theorem dX12_put_13 : decode cX12_put 13 = .ok (.iastore, 1) := by decide +kernel
theorem dX12_put_14 : decode cX12_put 14 = .ok (.aload_n 0, 1) := by decide +kernel
theorem dX12_put_15 : decode cX12_put 15 = .ok (.getfield 50, 3) := by decide +kernel
theorem dX12_put_18 : decode cX12_put 18 = .ok (.iload_n 1, 1) := by decide +kernel
theorem dX12_put_19 : decode cX12_put 19 = .ok (.aload_n 0, 1) := by decide +kernel
theorem dX12_put_20 : decode cX12_put 20 = .ok (.getfield 230, 3) := by decide +kernel
theorem dX12_put_23 : decode cX12_put 23 = .ok (.iastore, 1) := by decide +kernel
theorem dX12_put_24 : decode cX12_put 24 = .ok (.iconst 0, 1) := by decide +kernel
theorem dX12_put_25 : decode cX12_put 25 = .ok (.istore 4, 2) := by decide +kernel
theorem dX12_put_27 : decode cX12_put 27 = .ok (.iload 4, 2) := by decide +kernel
theorem dX12_put_29 : decode cX12_put 29 = .ok (.aload_n 0, 1) := by decide +kernel
theorem dX12_put_30 : decode cX12_put 30 = .ok (.getfield 230, 3) := by decide +kernel
theorem dX12_put_33 : decode cX12_put 33 = .ok (.if_icmp .ge 112, 3) := by decide +kernel
theorem dX12_put_36 : decode cX12_put 36 = .ok (.iconst 4, 1) := by decide +kernel
theorem dX12_put_37 : decode cX12_put 37 = .ok (.iload_n 1, 1) := by decide +kernel
theorem dX12_put_38 : decode cX12_put 38 = .ok (.imul, 1) := by decide +kernel
theorem dX12_put_39 : decode cX12_put 39 = .ok (.iload 4, 2) := by decide +kernel
theorem dX12_put_41 : decode cX12_put 41 = .ok (.iadd, 1) := by decide +kernel
theorem dX12_put_42 : decode cX12_put 42 = .ok (.istore 5, 2) := by decide +kernel
theorem dX12_put_44 : decode cX12_put 44 = .ok (.aload_n 0, 1) := by decide +kernel
theorem dX12_put_45 : decode cX12_put 45 = .ok (.getfield 56, 3) := by decide +kernel
theorem dX12_put_48 : decode cX12_put 48 = .ok (.iload 5, 2) := by decide +kernel
theorem dX12_put_50 : decode cX12_put 50 = .ok (.aload_n 0, 1) := by decide +kernel
theorem dX12_put_51 : decode cX12_put 51 = .ok (.getfield 71, 3) := by decide +kernel
theorem dX12_put_54 : decode cX12_put 54 = .ok (.iload 4, 2) := by decide +kernel
theorem dX12_put_56 : decode cX12_put 56 = .ok (.iaload, 1) := by decide +kernel
theorem dX12_put_57 : decode cX12_put 57 = .ok (.iastore, 1) := by decide +kernel
theorem dX12_put_58 : decode cX12_put 58 = .ok (.aload_n 0, 1) := by decide +kernel
theorem dX12_put_59 : decode cX12_put 59 = .ok (.getfield 59, 3) := by decide +kernel
theorem dX12_put_62 : decode cX12_put 62 = .ok (.iload 5, 2) := by decide +kernel
theorem dX12_put_64 : decode cX12_put 64 = .ok (.aload_n 0, 1) := by decide +kernel
theorem dX12_put_65 : decode cX12_put 65 = .ok (.getfield 74, 3) := by decide +kernel
theorem dX12_put_68 : decode cX12_put 68 = .ok (.iload 4, 2) := by decide +kernel
theorem dX12_put_70 : decode cX12_put 70 = .ok (.iaload, 1) := by decide +kernel
theorem dX12_put_71 : decode cX12_put 71 = .ok (.iastore, 1) := by decide +kernel
theorem dX12_put_72 : decode cX12_put 72 = .ok (.aload_n 0, 1) := by decide +kernel
theorem dX12_put_73 : decode cX12_put 73 = .ok (.getfield 62, 3) := by decide +kernel
theorem dX12_put_76 : decode cX12_put 76 = .ok (.iload 5, 2) := by decide +kernel
theorem dX12_put_78 : decode cX12_put 78 = .ok (.aload_n 0, 1) := by decide +kernel
theorem dX12_put_79 : decode cX12_put 79 = .ok (.getfield 77, 3) := by decide +kernel
theorem dX12_put_82 : decode cX12_put 82 = .ok (.iload 4, 2) := by decide +kernel
theorem dX12_put_84 : decode cX12_put 84 = .ok (.iaload, 1) := by decide +kernel
theorem dX12_put_85 : decode cX12_put 85 = .ok (.iastore, 1) := by decide +kernel
theorem dX12_put_86 : decode cX12_put 86 = .ok (.aload_n 0, 1) := by decide +kernel
theorem dX12_put_87 : decode cX12_put 87 = .ok (.getfield 65, 3) := by decide +kernel
theorem dX12_put_90 : decode cX12_put 90 = .ok (.iload 5, 2) := by decide +kernel
theorem dX12_put_92 : decode cX12_put 92 = .ok (.aload_n 0, 1) := by decide +kernel
theorem dX12_put_93 : decode cX12_put 93 = .ok (.getfield 80, 3) := by decide +kernel
theorem dX12_put_96 : decode cX12_put 96 = .ok (.iload 4, 2) := by decide +kernel
theorem dX12_put_98 : decode cX12_put 98 = .ok (.iaload, 1) := by decide +kernel
theorem dX12_put_99 : decode cX12_put 99 = .ok (.iastore, 1) := by decide +kernel
theorem dX12_put_100 : decode cX12_put 100 = .ok (.iconst 0, 1) := by decide +kernel
theorem dX12_put_101 : decode cX12_put 101 = .ok (.istore 6, 2) := by decide +kernel
theorem dX12_put_103 : decode cX12_put 103 = .ok (.iload 6, 2) := by decide +kernel
theorem dX12_put_105 : decode cX12_put 105 = .ok (.iconst 4, 1) := by decide +kernel
theorem dX12_put_106 : decode cX12_put 106 = .ok (.if_icmp .ge 33, 3) := by decide +kernel
theorem dX12_put_109 : decode cX12_put 109 = .ok (.aload_n 0, 1) := by decide +kernel
theorem dX12_put_110 : decode cX12_put 110 = .ok (.getfield 68, 3) := by decide +kernel
theorem dX12_put_113 : decode cX12_put 113 = .ok (.iconst 4, 1) := by decide +kernel
theorem dX12_put_114 : decode cX12_put 114 = .ok (.iload 5, 2) := by decide +kernel
theorem dX12_put_116 : decode cX12_put 116 = .ok (.imul, 1) := by decide +kernel
theorem dX12_put_117 : decode cX12_put 117 = .ok (.iload 6, 2) := by decide +kernel
theorem dX12_put_119 : decode cX12_put 119 = .ok (.iadd, 1) := by decide +kernel
theorem dX12_put_120 : decode cX12_put 120 = .ok (.aload_n 0, 1) := by decide +kernel
theorem dX12_put_121 : decode cX12_put 121 = .ok (.getfield 83, 3) := by decide +kernel
theorem dX12_put_124 : decode cX12_put 124 = .ok (.iconst 4, 1) := by decide +kernel
theorem dX12_put_125 : decode cX12_put 125 = .ok (.iload 4, 2) := by decide +kernel
theorem dX12_put_127 : decode cX12_put 127 = .ok (.imul, 1) := by decide +kernel
theorem dX12_put_128 : decode cX12_put 128 = .ok (.iload 6, 2) := by decide +kernel
theorem dX12_put_130 : decode cX12_put 130 = .ok (.iadd, 1) := by decide +kernel
theorem dX12_put_131 : decode cX12_put 131 = .ok (.iaload, 1) := by decide +kernel
theorem dX12_put_132 : decode cX12_put 132 = .ok (.iastore, 1) := by decide +kernel
theorem dX12_put_133 : decode cX12_put 133 = .ok (.iinc 6 1, 3) := by decide +kernel
theorem dX12_put_136 : decode cX12_put 136 = .ok (.goto (-33), 3) := by decide +kernel
theorem dX12_put_139 : decode cX12_put 139 = .ok (.iinc 4 1, 3) := by decide +kernel
theorem dX12_put_142 : decode cX12_put 142 = .ok (.goto (-115), 3) := by decide +kernel
theorem dX12_put_145 : decode cX12_put 145 = .ok (.aload_n 0, 1) := by decide +kernel
theorem dX12_put_146 : decode cX12_put 146 = .ok (.getfield 230, 3) := by decide +kernel
theorem dX12_put_149 : decode cX12_put 149 = .ok (.ireturn, 1) := by decide +kernel
set_option maxRecDepth 20000 in
theorem ggX12_complement_X12_isLanguage : GoodIn wsX12_complement wsX12_isLanguage := goodIn_r _ [7, 8, 9, 6, 10] (by decide +kernel) (by decide +kernel)
set_option maxRecDepth 20000 in
theorem gX12_complement_X12_isLanguage : GoodIn wsX12_complement (va_wsS RX12 227 yX12_isLanguage wsX12_isLanguage) := goodIn_app (goodIn_of _ (by decide +kernel)) ggX12_complement_X12_isLanguage
set_option maxRecDepth 20000 in
theorem ggX12_complement_X12_addParts : GoodIn wsX12_complement wsX12_addParts := goodIn_r _ [14, 15, 16, 2, 17, 18, 19, 20, 21, 22, 23, 24, 25, 30, 31, 32, 33, 34, 35, 36, 37, 38, 39, 40, 41, 42, 43, 44, 45, 46, 47, 48, 49, 50, 51, 52, 53, 54, 55, 56, 57, 58, 59, 60, 61, 62, 63, 64, 65, 66, 67, 68, 69, 70, 71, 72, 73, 74, 75, 76, 77, 78, 79, 80, 81, 82, 83, 84, 85, 86, 87, 88, 89, 90, 91, 92, 93, 94, 95, 96, 97] (by decide +kernel) (by decide +kernel)
set_option maxRecDepth 20000 in
theorem gX12_complement_X12_addParts : GoodIn wsX12_complement (wsV RX12 233 RX12 yX12_addParts wsX12_addParts) := goodIn_app (goodIn_of _ (by decide +kernel)) ggX12_complement_X12_addParts
set_option maxRecDepth 20000 in
theorem ggX12_complement_X12_put : GoodIn wsX12_complement wsX12_put := goodIn_r _ [29, 1, 3, 15, 2, 17, 16, 19, 18, 21, 20, 23, 22, 25, 24, 30, 31, 32, 33, 34, 35, 36, 37, 38, 39, 40, 41, 42, 43, 44, 45, 46, 47, 48, 49, 50, 51, 52, 53, 54, 55, 56, 57, 58, 59, 60, 61, 62, 63, 64, 65, 66, 67, 68, 69, 70, 71, 72, 73, 74, 75, 76, 77, 78, 79, 80, 81, 82, 83, 84, 85, 86, 87, 88, 89, 90, 91, 92, 93, 94, 95, 96, 97] (by decide +kernel) (by decide +kernel)
set_option maxRecDepth 20000 in
theorem gX12_complement_X12_put : GoodIn wsX12_complement (wsV RX12 236 RX12 yX12_put wsX12_put) := goodIn_app (goodIn_of _ (by decide +kernel)) ggX12_complement_X12_put
theorem dX12_complement_0 : decode cX12_complement 0 = .ok (.iload_n 1, 1) := by decide +kernel
theorem dX12_complement_1 : decode cX12_complement 1 = .ok (.invokestatic 227, 3) := by decide +kernel
theorem dX12_complement_4 : decode cX12_complement 4 = .ok (.ifCond .eq 10, 3) := by decide +kernel
theorem dX12_complement_7 : decode cX12_complement 7 = .ok (.iload_n 2, 1) := by decide +kernel
theorem dX12_complement_8 : decode cX12_complement 8 = .ok (.invokestatic 227, 3) := by decide +kernel
theorem dX12_complement_11 : decode cX12_complement 11 = .ok (.ifCond .ne 5, 3) := by decide +kernel
theorem dX12_complement_14 : decode cX12_complement 14 = .ok (.iconst (-1), 1) := by decide +kernel
theorem dX12_complement_15 : decode cX12_complement 15 = .ok (.ireturn, 1) := by decide +kernel
theorem dX12_complement_16 : decode cX12_complement 16 = .ok (.aload_n 0, 1) := by decide +kernel
theorem dX12_complement_17 : decode cX12_complement 17 = .ok (.getfield 47, 3) := by decide +kernel
theorem dX12_complement_20 : decode cX12_complement 20 = .ok (.iload_n 2, 1) := by decide +kernel
theorem dX12_complement_21 : decode cX12_complement 21 = .ok (.iaload, 1) := by decide +kernel
theorem dX12_complement_22 : decode cX12_complement 22 = .ok (.ifCond .ge 6, 3) := by decide +kernel
theorem dX12_complement_25 : decode cX12_complement 25 = .ok (.bipush (-5), 2) := by decide +kernel
theorem dX12_complement_27 : decode cX12_complement 27 = .ok (.ireturn, 1) := by decide +kernel
theorem dX12_complement_28 : decode cX12_complement 28 = .ok (.aload_n 0, 1) := by decide +kernel
theorem dX12_complement_29 : decode cX12_complement 29 = .ok (.iconst 0, 1) := by decide +kernel
theorem dX12_complement_30 : decode cX12_complement 30 = .ok (.putfield 230, 3) := by decide +kernel
theorem dX12_complement_33 : decode cX12_complement 33 = .ok (.aload_n 0, 1) := by decide +kernel
theorem dX12_complement_34 : decode cX12_complement 34 = .ok (.iload_n 2, 1) := by decide +kernel
theorem dX12_complement_35 : decode cX12_complement 35 = .ok (.invokevirtual 233, 3) := by decide +kernel
theorem dX12_complement_38 : decode cX12_complement 38 = .ok (.aload_n 0, 1) := by decide +kernel
theorem dX12_complement_39 : decode cX12_complement 39 = .ok (.iload_n 1, 1) := by decide +kernel
theorem dX12_complement_40 : decode cX12_complement 40 = .ok (.iconst 1, 1) := by decide +kernel
theorem dX12_complement_41 : decode cX12_complement 41 = .ok (.aload_n 0, 1) := by decide +kernel
theorem dX12_complement_42 : decode cX12_complement 42 = .ok (.getfield 53, 3) := by decide +kernel
theorem dX12_complement_45 : decode cX12_complement 45 = .ok (.iload_n 2, 1) := by decide +kernel
theorem dX12_complement_46 : decode cX12_complement 46 = .ok (.iaload, 1) := by decide +kernel
theorem dX12_complement_47 : decode cX12_complement 47 = .ok (.iconst (-1), 1) := by decide +kernel
theorem dX12_complement_48 : decode cX12_complement 48 = .ok (.ixor, 1) := by decide +kernel
theorem dX12_complement_49 : decode cX12_complement 49 = .ok (.invokevirtual 236, 3) := by decide +kernel
theorem dX12_complement_52 : decode cX12_complement 52 = .ok (.ireturn, 1) := by decide +kernel
set_option maxRecDepth 20000 in
theorem ggX12_join_X12_isLanguage : GoodIn wsX12_join wsX12_isLanguage := goodIn_r _ [8, 9, 10, 7, 11] (by decide +kernel) (by decide +kernel)
set_option maxRecDepth 20000 in
theorem gX12_join_X12_isLanguage : GoodIn wsX12_join (va_wsS RX12 227 yX12_isLanguage wsX12_isLanguage) := goodIn_app (goodIn_of _ (by decide +kernel)) ggX12_join_X12_isLanguage
set_option maxRecDepth 20000 in
theorem ggX12_join_X12_addParts : GoodIn wsX12_join wsX12_addParts := goodIn_r _ [15, 2, 16, 4, 17, 18, 19, 20, 21, 22, 23, 24, 25, 30, 31, 32, 33, 34, 35, 36, 37, 38, 39, 40, 41, 42, 43, 44, 45, 46, 47, 48, 49, 50, 51, 52, 53, 54, 55, 56, 57, 58, 59, 60, 61, 62, 63, 64, 65, 66, 67, 68, 69, 70, 71, 72, 73, 74, 75, 76, 77, 78, 79, 80, 81, 82, 83, 84, 85, 86, 87, 88, 89, 90, 91, 92, 93, 94, 95, 96, 97] (by decide +kernel) (by decide +kernel)
set_option maxRecDepth 20000 in
theorem gX12_join_X12_addParts : GoodIn wsX12_join (wsV RX12 233 RX12 yX12_addParts wsX12_addParts) := goodIn_app (goodIn_of _ (by decide +kernel)) ggX12_join_X12_addParts
set_option maxRecDepth 20000 in
theorem ggX12_join_X12_put : GoodIn wsX12_join wsX12_put := goodIn_r _ [29, 1, 3, 2, 4, 17, 16, 19, 18, 21, 20, 23, 22, 25, 24, 30, 31, 32, 33, 34, 35, 36, 37, 38, 39, 40, 41, 42, 43, 44, 45, 46, 47, 48, 49, 50, 51, 52, 53, 54, 55, 56, 57, 58, 59, 60, 61, 62, 63, 64, 65, 66, 67, 68, 69, 70, 71, 72, 73, 74, 75, 76, 77, 78, 79, 80, 81, 82, 83, 84, 85, 86, 87, 88, 89, 90, 91, 92, 93, 94, 95, 96, 97] (by decide +kernel) (by decide +kernel)
set_option maxRecDepth 20000 in
theorem gX12_join_X12_put : GoodIn wsX12_join (wsV RX12 236 RX12 yX12_put wsX12_put) := goodIn_app (goodIn_of _ (by decide +kernel)) ggX12_join_X12_put
theorem dX12_join_0 : decode cX12_join 0 = .ok (.iload_n 1, 1) := by decide +kernel
theorem dX12_join_1 : decode cX12_join 1 = .ok (.invokestatic 227, 3) := by decide +kernel
theorem dX12_join_4 : decode cX12_join 4 = .ok (.ifCond .eq 17, 3) := by decide +kernel
theorem dX12_join_7 : decode cX12_join 7 = .ok (.iload_n 2, 1) := by decide +kernel
theorem dX12_join_8 : decode cX12_join 8 = .ok (.invokestatic 227, 3) := by decide +kernel
theorem dX12_join_11 : decode cX12_join 11 = .ok (.ifCond .eq 10, 3) := by decide +kernel
theorem dX12_join_14 : decode cX12_join 14 = .ok (.iload_n 3, 1) := by decide +kernel
theorem dX12_join_15 : decode cX12_join 15 = .ok (.invokestatic 227, 3) := by decide +kernel
theorem dX12_join_18 : decode cX12_join 18 = .ok (.ifCond .ne 5, 3) := by decide +kernel
theorem dX12_join_21 : decode cX12_join 21 = .ok (.iconst (-1), 1) := by decide +kernel
theorem dX12_join_22 : decode cX12_join 22 = .ok (.ireturn, 1) := by decide +kernel
theorem dX12_join_23 : decode cX12_join 23 = .ok (.aload_n 0, 1) := by decide +kernel
theorem dX12_join_24 : decode cX12_join 24 = .ok (.getfield 47, 3) := by decide +kernel
theorem dX12_join_27 : decode cX12_join 27 = .ok (.iload_n 2, 1) := by decide +kernel
theorem dX12_join_28 : decode cX12_join 28 = .ok (.iaload, 1) := by decide +kernel
theorem dX12_join_29 : decode cX12_join 29 = .ok (.ifCond .lt 12, 3) := by decide +kernel
theorem dX12_join_32 : decode cX12_join 32 = .ok (.aload_n 0, 1) := by decide +kernel
theorem dX12_join_33 : decode cX12_join 33 = .ok (.getfield 47, 3) := by decide +kernel
theorem dX12_join_36 : decode cX12_join 36 = .ok (.iload_n 3, 1) := by decide +kernel
theorem dX12_join_37 : decode cX12_join 37 = .ok (.iaload, 1) := by decide +kernel
theorem dX12_join_38 : decode cX12_join 38 = .ok (.ifCond .ge 6, 3) := by decide +kernel
theorem dX12_join_41 : decode cX12_join 41 = .ok (.bipush (-5), 2) := by decide +kernel
theorem dX12_join_43 : decode cX12_join 43 = .ok (.ireturn, 1) := by decide +kernel
theorem dX12_join_44 : decode cX12_join 44 = .ok (.aload_n 0, 1) := by decide +kernel
theorem dX12_join_45 : decode cX12_join 45 = .ok (.getfield 50, 3) := by decide +kernel
theorem dX12_join_48 : decode cX12_join 48 = .ok (.iload_n 2, 1) := by decide +kernel
theorem dX12_join_49 : decode cX12_join 49 = .ok (.iaload, 1) := by decide +kernel
theorem dX12_join_50 : decode cX12_join 50 = .ok (.aload_n 0, 1) := by decide +kernel
theorem dX12_join_51 : decode cX12_join 51 = .ok (.getfield 50, 3) := by decide +kernel
theorem dX12_join_54 : decode cX12_join 54 = .ok (.iload_n 3, 1) := by decide +kernel
theorem dX12_join_55 : decode cX12_join 55 = .ok (.iaload, 1) := by decide +kernel
theorem dX12_join_56 : decode cX12_join 56 = .ok (.iadd, 1) := by decide +kernel
theorem dX12_join_57 : decode cX12_join 57 = .ok (.iconst 4, 1) := by decide +kernel
theorem dX12_join_58 : decode cX12_join 58 = .ok (.if_icmp .le 6, 3) := by decide +kernel
theorem dX12_join_61 : decode cX12_join 61 = .ok (.bipush (-3), 2) := by decide +kernel
theorem dX12_join_63 : decode cX12_join 63 = .ok (.ireturn, 1) := by decide +kernel
theorem dX12_join_64 : decode cX12_join 64 = .ok (.aload_n 0, 1) := by decide +kernel
theorem dX12_join_65 : decode cX12_join 65 = .ok (.getfield 50, 3) := by decide +kernel
theorem dX12_join_68 : decode cX12_join 68 = .ok (.iload_n 2, 1) := by decide +kernel
theorem dX12_join_69 : decode cX12_join 69 = .ok (.iaload, 1) := by decide +kernel
theorem dX12_join_70 : decode cX12_join 70 = .ok (.istore 5, 2) := by decide +kernel
theorem dX12_join_72 : decode cX12_join 72 = .ok (.iconst 0, 1) := by decide +kernel
theorem dX12_join_73 : decode cX12_join 73 = .ok (.istore 6, 2) := by decide +kernel
theorem dX12_join_75 : decode cX12_join 75 = .ok (.iconst 0, 1) := by decide +kernel
theorem dX12_join_76 : decode cX12_join 76 = .ok (.istore 7, 2) := by decide +kernel
theorem dX12_join_78 : decode cX12_join 78 = .ok (.iload 7, 2) := by decide +kernel
theorem dX12_join_80 : decode cX12_join 80 = .ok (.iconst 1, 1) := by decide +kernel
theorem dX12_join_81 : decode cX12_join 81 = .ok (.iload 5, 2) := by decide +kernel
theorem dX12_join_83 : decode cX12_join 83 = .ok (.aload_n 0, 1) := by decide +kernel
theorem dX12_join_84 : decode cX12_join 84 = .ok (.getfield 50, 3) := by decide +kernel
theorem dX12_join_87 : decode cX12_join 87 = .ok (.iload_n 3, 1) := by decide +kernel
theorem dX12_join_88 : decode cX12_join 88 = .ok (.iaload, 1) := by decide +kernel
theorem dX12_join_89 : decode cX12_join 89 = .ok (.iadd, 1) := by decide +kernel
theorem dX12_join_90 : decode cX12_join 90 = .ok (.ishl, 1) := by decide +kernel
theorem dX12_join_91 : decode cX12_join 91 = .ok (.if_icmp .ge 71, 3) := by decide +kernel
theorem dX12_join_94 : decode cX12_join 94 = .ok (.aload_n 0, 1) := by decide +kernel
theorem dX12_join_95 : decode cX12_join 95 = .ok (.getfield 53, 3) := by decide +kernel
theorem dX12_join_98 : decode cX12_join 98 = .ok (.iload_n 2, 1) := by decide +kernel
theorem dX12_join_99 : decode cX12_join 99 = .ok (.iaload, 1) := by decide +kernel
theorem dX12_join_100 : decode cX12_join 100 = .ok (.iload 7, 2) := by decide +kernel
theorem dX12_join_102 : decode cX12_join 102 = .ok (.iconst 1, 1) := by decide +kernel
theorem dX12_join_103 : decode cX12_join 103 = .ok (.iload 5, 2) := by decide +kernel
theorem dX12_join_105 : decode cX12_join 105 = .ok (.ishl, 1) := by decide +kernel
theorem dX12_join_106 : decode cX12_join 106 = .ok (.iconst 1, 1) := by decide +kernel
theorem dX12_join_107 : decode cX12_join 107 = .ok (.isub, 1) := by decide +kernel
theorem dX12_join_108 : decode cX12_join 108 = .ok (.iand, 1) := by decide +kernel
theorem dX12_join_109 : decode cX12_join 109 = .ok (.ishr, 1) := by decide +kernel
theorem dX12_join_110 : decode cX12_join 110 = .ok (.iconst 1, 1) := by decide +kernel
theorem dX12_join_111 : decode cX12_join 111 = .ok (.iand, 1) := by decide +kernel
theorem dX12_join_112 : decode cX12_join 112 = .ok (.istore 8, 2) := by decide +kernel
theorem dX12_join_114 : decode cX12_join 114 = .ok (.aload_n 0, 1) := by decide +kernel
theorem dX12_join_115 : decode cX12_join 115 = .ok (.getfield 53, 3) := by decide +kernel
theorem dX12_join_118 : decode cX12_join 118 = .ok (.iload_n 3, 1) := by decide +kernel
theorem dX12_join_119 : decode cX12_join 119 = .ok (.iaload, 1) := by decide +kernel
theorem dX12_join_120 : decode cX12_join 120 = .ok (.iload 7, 2) := by decide +kernel
theorem dX12_join_122 : decode cX12_join 122 = .ok (.iload 5, 2) := by decide +kernel
theorem dX12_join_124 : decode cX12_join 124 = .ok (.ishr, 1) := by decide +kernel
theorem dX12_join_125 : decode cX12_join 125 = .ok (.ishr, 1) := by decide +kernel
theorem dX12_join_126 : decode cX12_join 126 = .ok (.iconst 1, 1) := by decide +kernel
theorem dX12_join_127 : decode cX12_join 127 = .ok (.iand, 1) := by decide +kernel
theorem dX12_join_128 : decode cX12_join 128 = .ok (.istore 9, 2) := by decide +kernel
theorem dX12_join_130 : decode cX12_join 130 = .ok (.iload 6, 2) := by decide +kernel
theorem dX12_join_132 : decode cX12_join 132 = .ok (.iload 4, 2) := by decide +kernel
theorem dX12_join_134 : decode cX12_join 134 = .ok (.ifCond .eq 11, 3) := by decide +kernel
theorem dX12_join_137 : decode cX12_join 137 = .ok (.iload 8, 2) := by decide +kernel
theorem dX12_join_139 : decode cX12_join 139 = .ok (.iload 9, 2) := by decide +kernel
theorem dX12_join_141 : decode cX12_join 141 = .ok (.ior, 1) := by decide +kernel
theorem dX12_join_142 : decode cX12_join 142 = .ok (.goto 8, 3) := by decide +kernel
theorem dX12_join_145 : decode cX12_join 145 = .ok (.iload 8, 2) := by decide +kernel
theorem dX12_join_147 : decode cX12_join 147 = .ok (.iload 9, 2) := by decide +kernel
theorem dX12_join_149 : decode cX12_join 149 = .ok (.iand, 1) := by decide +kernel
theorem dX12_join_150 : decode cX12_join 150 = .ok (.iload 7, 2) := by decide +kernel
theorem dX12_join_152 : decode cX12_join 152 = .ok (.ishl, 1) := by decide +kernel
theorem dX12_join_153 : decode cX12_join 153 = .ok (.ior, 1) := by decide +kernel
theorem dX12_join_154 : decode cX12_join 154 = .ok (.istore 6, 2) := by decide +kernel
theorem dX12_join_156 : decode cX12_join 156 = .ok (.iinc 7 1, 3) := by decide +kernel
theorem dX12_join_159 : decode cX12_join 159 = .ok (.goto (-81), 3) := by decide +kernel
theorem dX12_join_162 : decode cX12_join 162 = .ok (.aload_n 0, 1) := by decide +kernel
theorem dX12_join_163 : decode cX12_join 163 = .ok (.iconst 0, 1) := by decide +kernel
theorem dX12_join_164 : decode cX12_join 164 = .ok (.putfield 230, 3) := by decide +kernel
theorem dX12_join_167 : decode cX12_join 167 = .ok (.aload_n 0, 1) := by decide +kernel
theorem dX12_join_168 : decode cX12_join 168 = .ok (.iload_n 2, 1) := by decide +kernel
theorem dX12_join_169 : decode cX12_join 169 = .ok (.invokevirtual 233, 3) := by decide +kernel
theorem dX12_join_172 : decode cX12_join 172 = .ok (.aload_n 0, 1) := by decide +kernel
theorem dX12_join_173 : decode cX12_join 173 = .ok (.iload_n 3, 1) := by decide +kernel
theorem dX12_join_174 : decode cX12_join 174 = .ok (.invokevirtual 233, 3) := by decide +kernel
theorem dX12_join_177 : decode cX12_join 177 = .ok (.aload_n 0, 1) := by decide +kernel
theorem dX12_join_178 : decode cX12_join 178 = .ok (.iload_n 1, 1) := by decide +kernel
theorem dX12_join_179 : decode cX12_join 179 = .ok (.iload 4, 2) := by decide +kernel
theorem dX12_join_181 : decode cX12_join 181 = .ok (.ifCond .eq 7, 3) := by decide +kernel
theorem dX12_join_184 : decode cX12_join 184 = .ok (.iconst 3, 1) := by decide +kernel
theorem dX12_join_185 : decode cX12_join 185 = .ok (.goto 4, 3) := by decide +kernel
theorem dX12_join_188 : decode cX12_join 188 = .ok (.iconst 2, 1) := by decide +kernel
theorem dX12_join_189 : decode cX12_join 189 = .ok (.iload 6, 2) := by decide +kernel
theorem dX12_join_191 : decode cX12_join 191 = .ok (.invokevirtual 236, 3) := by decide +kernel
theorem dX12_join_194 : decode cX12_join 194 = .ok (.ireturn, 1) := by decide +kernel
set_option maxRecDepth 20000 in
theorem ggX12_intersect_X12_join : GoodIn wsX12_intersect wsX12_join := goodIn_r _ [5, 6, 7, 8, 9, 10, 11, 4, 12, 13, 14, 15, 16, 17, 18, 19, 20, 21, 22, 23, 24, 25, 26, 27, 28, 29, 30, 31, 32, 33, 34, 35, 36, 37, 38, 39, 40, 41, 42, 43, 44, 45, 46, 47, 48, 49, 50, 51, 52, 53, 54, 55, 56, 57, 58, 59, 60, 61, 62, 63, 64, 65, 66, 67, 68, 69, 70, 71, 72, 73, 74, 75, 76, 77, 78, 79, 80, 81, 82, 83, 84, 85, 86, 87, 88, 89, 90, 91, 92, 93, 94, 95, 96, 97, 98, 99, 100, 101] (by decide +kernel) (by decide +kernel)
set_option maxRecDepth 20000 in
theorem gX12_intersect_X12_join : GoodIn wsX12_intersect (wsV RX12 240 RX12 yX12_join wsX12_join) := goodIn_app (goodIn_of _ (by decide +kernel)) ggX12_intersect_X12_join
theorem dX12_intersect_0 : decode cX12_intersect 0 = .ok (.aload_n 0, 1) := by decide +kernel
theorem dX12_intersect_1 : decode cX12_intersect 1 = .ok (.iload_n 1, 1) := by decide +kernel
theorem dX12_intersect_2 : decode cX12_intersect 2 = .ok (.iload_n 2, 1) := by decide +kernel
theorem dX12_intersect_3 : decode cX12_intersect 3 = .ok (.iload_n 3, 1) := by decide +kernel
theorem dX12_intersect_4 : decode cX12_intersect 4 = .ok (.iconst 0, 1) := by decide +kernel
theorem dX12_intersect_5 : decode cX12_intersect 5 = .ok (.invokevirtual 240, 3) := by decide +kernel
theorem dX12_intersect_8 : decode cX12_intersect 8 = .ok (.ireturn, 1) := by decide +kernel
set_option maxRecDepth 20000 in
theorem ggX12_unite_X12_join : GoodIn wsX12_unite wsX12_join := goodIn_r _ [5, 6, 7, 8, 9, 10, 11, 4, 12, 13, 14, 15, 16, 17, 18, 19, 20, 21, 22, 23, 24, 25, 26, 27, 28, 29, 30, 31, 32, 33, 34, 35, 36, 37, 38, 39, 40, 41, 42, 43, 44, 45, 46, 47, 48, 49, 50, 51, 52, 53, 54, 55, 56, 57, 58, 59, 60, 61, 62, 63, 64, 65, 66, 67, 68, 69, 70, 71, 72, 73, 74, 75, 76, 77, 78, 79, 80, 81, 82, 83, 84, 85, 86, 87, 88, 89, 90, 91, 92, 93, 94, 95, 96, 97, 98, 99, 100, 101] (by decide +kernel) (by decide +kernel)
set_option maxRecDepth 20000 in
theorem gX12_unite_X12_join : GoodIn wsX12_unite (wsV RX12 240 RX12 yX12_join wsX12_join) := goodIn_app (goodIn_of _ (by decide +kernel)) ggX12_unite_X12_join
theorem dX12_unite_0 : decode cX12_unite 0 = .ok (.aload_n 0, 1) := by decide +kernel
theorem dX12_unite_1 : decode cX12_unite 1 = .ok (.iload_n 1, 1) := by decide +kernel
theorem dX12_unite_2 : decode cX12_unite 2 = .ok (.iload_n 2, 1) := by decide +kernel
theorem dX12_unite_3 : decode cX12_unite 3 = .ok (.iload_n 3, 1) := by decide +kernel
theorem dX12_unite_4 : decode cX12_unite 4 = .ok (.iconst 1, 1) := by decide +kernel
theorem dX12_unite_5 : decode cX12_unite 5 = .ok (.invokevirtual 240, 3) := by decide +kernel
theorem dX12_unite_8 : decode cX12_unite 8 = .ok (.ireturn, 1) := by decide +kernel
set_option maxRecDepth 20000 in
theorem ggX12_clearLanguage_X12_isLanguage : GoodIn wsX12_clearLanguage wsX12_isLanguage := goodIn_r _ [5, 6, 7, 4, 8] (by decide +kernel) (by decide +kernel)
set_option maxRecDepth 20000 in
theorem gX12_clearLanguage_X12_isLanguage : GoodIn wsX12_clearLanguage (va_wsS RX12 227 yX12_isLanguage wsX12_isLanguage) := goodIn_app (goodIn_of _ (by decide +kernel)) ggX12_clearLanguage_X12_isLanguage
theorem dX12_clearLanguage_0 : decode cX12_clearLanguage 0 = .ok (.iload_n 1, 1) := by decide +kernel
theorem dX12_clearLanguage_1 : decode cX12_clearLanguage 1 = .ok (.invokestatic 227, 3) := by decide +kernel
theorem dX12_clearLanguage_4 : decode cX12_clearLanguage 4 = .ok (.ifCond .ne 5, 3) := by decide +kernel
theorem dX12_clearLanguage_7 : decode cX12_clearLanguage 7 = .ok (.iconst (-1), 1) := by decide +kernel
theorem dX12_clearLanguage_8 : decode cX12_clearLanguage 8 = .ok (.ireturn, 1) := by decide +kernel
theorem dX12_clearLanguage_9 : decode cX12_clearLanguage 9 = .ok (.aload_n 0, 1) := by decide +kernel
theorem dX12_clearLanguage_10 : decode cX12_clearLanguage 10 = .ok (.getfield 47, 3) := by decide +kernel
theorem dX12_clearLanguage_13 : decode cX12_clearLanguage 13 = .ok (.iload_n 1, 1) := by decide +kernel
theorem dX12_clearLanguage_14 : decode cX12_clearLanguage 14 = .ok (.iaload, 1) := by decide +kernel
theorem dX12_clearLanguage_15 : decode cX12_clearLanguage 15 = .ok (.ifCond .ge 7, 3) := by decide +kernel
theorem dX12_clearLanguage_18 : decode cX12_clearLanguage 18 = .ok (.iconst 0, 1) := by decide +kernel
theorem dX12_clearLanguage_19 : decode cX12_clearLanguage 19 = .ok (.goto 4, 3) := by decide +kernel
theorem dX12_clearLanguage_22 : decode cX12_clearLanguage 22 = .ok (.iconst 1, 1) := by decide +kernel
theorem dX12_clearLanguage_23 : decode cX12_clearLanguage 23 = .ok (.istore_n 2, 1) := by decide +kernel
theorem dX12_clearLanguage_24 : decode cX12_clearLanguage 24 = .ok (.aload_n 0, 1) := by decide +kernel
theorem dX12_clearLanguage_25 : decode cX12_clearLanguage 25 = .ok (.getfield 47, 3) := by decide +kernel
theorem dX12_clearLanguage_28 : decode cX12_clearLanguage 28 = .ok (.iload_n 1, 1) := by decide +kernel
theorem dX12_clearLanguage_29 : decode cX12_clearLanguage 29 = .ok (.iconst (-1), 1) := by decide +kernel
theorem dX12_clearLanguage_30 : decode cX12_clearLanguage 30 = .ok (.iastore, 1) := by decide +kernel
theorem dX12_clearLanguage_31 : decode cX12_clearLanguage 31 = .ok (.iload_n 2, 1) := by decide +kernel
theorem dX12_clearLanguage_32 : decode cX12_clearLanguage 32 = .ok (.ireturn, 1) := by decide +kernel
set_option maxRecDepth 20000 in
theorem ggX12_form_X12_isLanguage : GoodIn wsX12_form wsX12_isLanguage := goodIn_r _ [5, 6, 7, 4, 8] (by decide +kernel) (by decide +kernel)
set_option maxRecDepth 20000 in
theorem gX12_form_X12_isLanguage : GoodIn wsX12_form (va_wsS RX12 227 yX12_isLanguage wsX12_isLanguage) := goodIn_app (goodIn_of _ (by decide +kernel)) ggX12_form_X12_isLanguage
theorem dX12_form_0 : decode cX12_form 0 = .ok (.iload_n 1, 1) := by decide +kernel
theorem dX12_form_1 : decode cX12_form 1 = .ok (.invokestatic 227, 3) := by decide +kernel
theorem dX12_form_4 : decode cX12_form 4 = .ok (.ifCond .ne 7, 3) := by decide +kernel
theorem dX12_form_7 : decode cX12_form 7 = .ok (.iconst (-1), 1) := by decide +kernel
theorem dX12_form_8 : decode cX12_form 8 = .ok (.goto 23, 3) := by decide +kernel
theorem dX12_form_11 : decode cX12_form 11 = .ok (.aload_n 0, 1) := by decide +kernel
theorem dX12_form_12 : decode cX12_form 12 = .ok (.getfield 47, 3) := by decide +kernel
theorem dX12_form_15 : decode cX12_form 15 = .ok (.iload_n 1, 1) := by decide +kernel
theorem dX12_form_16 : decode cX12_form 16 = .ok (.iaload, 1) := by decide +kernel
theorem dX12_form_17 : decode cX12_form 17 = .ok (.ifCond .ge 8, 3) := by decide +kernel
theorem dX12_form_20 : decode cX12_form 20 = .ok (.bipush (-5), 2) := by decide +kernel
theorem dX12_form_22 : decode cX12_form 22 = .ok (.goto 9, 3) := by decide +kernel
theorem dX12_form_25 : decode cX12_form 25 = .ok (.aload_n 0, 1) := by decide +kernel
theorem dX12_form_26 : decode cX12_form 26 = .ok (.getfield 47, 3) := by decide +kernel
theorem dX12_form_29 : decode cX12_form 29 = .ok (.iload_n 1, 1) := by decide +kernel
theorem dX12_form_30 : decode cX12_form 30 = .ok (.iaload, 1) := by decide +kernel
theorem dX12_form_31 : decode cX12_form 31 = .ok (.ireturn, 1) := by decide +kernel
set_option maxRecDepth 20000 in
theorem ggX12_contains_X12_isLanguage : GoodIn wsX12_contains wsX12_isLanguage := goodIn_r _ [12, 13, 14, 11, 15] (by decide +kernel) (by decide +kernel)
set_option maxRecDepth 20000 in
theorem gX12_contains_X12_isLanguage : GoodIn wsX12_contains (va_wsS RX12 227 yX12_isLanguage wsX12_isLanguage) := goodIn_app (goodIn_of _ (by decide +kernel)) ggX12_contains_X12_isLanguage
set_option maxRecDepth 20000 in
theorem ggX12_contains_X12_isWord : GoodIn wsX12_contains wsX12_isWord := goodIn_r _ [18, 13, 14, 11, 15] (by decide +kernel) (by decide +kernel)
set_option maxRecDepth 20000 in
theorem gX12_contains_X12_isWord : GoodIn wsX12_contains (va_wsS RX12 176 yX12_isWord wsX12_isWord) := goodIn_app (goodIn_of _ (by decide +kernel)) ggX12_contains_X12_isWord
set_option maxRecDepth 20000 in
theorem ggX12_contains_X12_valueOf : GoodIn wsX12_contains wsX12_valueOf := goodIn_r _ [22, 23, 24, 25, 26, 11, 27, 28, 29, 30, 31, 32, 33, 34, 35, 36, 37, 38, 39, 40, 41, 42, 43, 44, 45, 46, 47, 48, 49, 50, 51, 52, 53, 54, 55, 56, 57, 58, 59, 60, 61, 62, 63, 64, 65, 66, 67, 68, 69, 70, 71, 72, 73, 74, 75, 76, 77, 78, 79, 80, 81, 82, 83, 84, 85, 86, 87, 88, 89, 90, 91, 92, 93, 94, 95, 96, 97] (by decide +kernel) (by decide +kernel)
set_option maxRecDepth 20000 in
theorem gX12_contains_X12_valueOf : GoodIn wsX12_contains (wsV RX12 205 RX12 yX12_valueOf wsX12_valueOf) := goodIn_app (goodIn_of _ (by decide +kernel)) ggX12_contains_X12_valueOf
theorem dX12_contains_0 : decode cX12_contains 0 = .ok (.iload_n 1, 1) := by decide +kernel
theorem dX12_contains_1 : decode cX12_contains 1 = .ok (.invokestatic 227, 3) := by decide +kernel
theorem dX12_contains_4 : decode cX12_contains 4 = .ok (.ifCond .eq 10, 3) := by decide +kernel
theorem dX12_contains_7 : decode cX12_contains 7 = .ok (.iload_n 2, 1) := by decide +kernel
theorem dX12_contains_8 : decode cX12_contains 8 = .ok (.invokestatic 176, 3) := by decide +kernel
theorem dX12_contains_11 : decode cX12_contains 11 = .ok (.ifCond .ne 5, 3) := by decide +kernel
theorem dX12_contains_14 : decode cX12_contains 14 = .ok (.iconst (-1), 1) := by decide +kernel
theorem dX12_contains_15 : decode cX12_contains 15 = .ok (.ireturn, 1) := by decide +kernel
theorem dX12_contains_16 : decode cX12_contains 16 = .ok (.aload_n 0, 1) := by decide +kernel
theorem dX12_contains_17 : decode cX12_contains 17 = .ok (.getfield 47, 3) := by decide +kernel
theorem dX12_contains_20 : decode cX12_contains 20 = .ok (.iload_n 1, 1) := by decide +kernel
theorem dX12_contains_21 : decode cX12_contains 21 = .ok (.iaload, 1) := by decide +kernel
theorem dX12_contains_22 : decode cX12_contains 22 = .ok (.ifCond .ge 6, 3) := by decide +kernel
theorem dX12_contains_25 : decode cX12_contains 25 = .ok (.bipush (-5), 2) := by decide +kernel
theorem dX12_contains_27 : decode cX12_contains 27 = .ok (.ireturn, 1) := by decide +kernel
theorem dX12_contains_28 : decode cX12_contains 28 = .ok (.iconst 0, 1) := by decide +kernel
theorem dX12_contains_29 : decode cX12_contains 29 = .ok (.istore_n 3, 1) := by decide +kernel
theorem dX12_contains_30 : decode cX12_contains 30 = .ok (.iconst 0, 1) := by decide +kernel
theorem dX12_contains_31 : decode cX12_contains 31 = .ok (.istore 4, 2) := by decide +kernel
theorem dX12_contains_33 : decode cX12_contains 33 = .ok (.iload 4, 2) := by decide +kernel
theorem dX12_contains_35 : decode cX12_contains 35 = .ok (.aload_n 0, 1) := by decide +kernel
theorem dX12_contains_36 : decode cX12_contains 36 = .ok (.getfield 50, 3) := by decide +kernel
theorem dX12_contains_39 : decode cX12_contains 39 = .ok (.iload_n 1, 1) := by decide +kernel
theorem dX12_contains_40 : decode cX12_contains 40 = .ok (.iaload, 1) := by decide +kernel
theorem dX12_contains_41 : decode cX12_contains 41 = .ok (.if_icmp .ge 72, 3) := by decide +kernel
theorem dX12_contains_44 : decode cX12_contains 44 = .ok (.iconst 4, 1) := by decide +kernel
theorem dX12_contains_45 : decode cX12_contains 45 = .ok (.iload_n 1, 1) := by decide +kernel
theorem dX12_contains_46 : decode cX12_contains 46 = .ok (.imul, 1) := by decide +kernel
theorem dX12_contains_47 : decode cX12_contains 47 = .ok (.iload 4, 2) := by decide +kernel
theorem dX12_contains_49 : decode cX12_contains 49 = .ok (.iadd, 1) := by decide +kernel
theorem dX12_contains_50 : decode cX12_contains 50 = .ok (.istore 5, 2) := by decide +kernel
theorem dX12_contains_52 : decode cX12_contains 52 = .ok (.iload_n 3, 1) := by decide +kernel
theorem dX12_contains_53 : decode cX12_contains 53 = .ok (.aload_n 0, 1) := by decide +kernel
theorem dX12_contains_54 : decode cX12_contains 54 = .ok (.aload_n 0, 1) := by decide +kernel
theorem dX12_contains_55 : decode cX12_contains 55 = .ok (.getfield 56, 3) := by decide +kernel
theorem dX12_contains_58 : decode cX12_contains 58 = .ok (.iload 5, 2) := by decide +kernel
theorem dX12_contains_60 : decode cX12_contains 60 = .ok (.iaload, 1) := by decide +kernel
theorem dX12_contains_61 : decode cX12_contains 61 = .ok (.aload_n 0, 1) := by decide +kernel
theorem dX12_contains_62 : decode cX12_contains 62 = .ok (.getfield 59, 3) := by decide +kernel
theorem dX12_contains_65 : decode cX12_contains 65 = .ok (.iload 5, 2) := by decide +kernel
theorem dX12_contains_67 : decode cX12_contains 67 = .ok (.iaload, 1) := by decide +kernel
theorem dX12_contains_68 : decode cX12_contains 68 = .ok (.aload_n 0, 1) := by decide +kernel
theorem dX12_contains_69 : decode cX12_contains 69 = .ok (.getfield 68, 3) := by decide +kernel
theorem dX12_contains_72 : decode cX12_contains 72 = .ok (.iconst 4, 1) := by decide +kernel
theorem dX12_contains_73 : decode cX12_contains 73 = .ok (.iload 5, 2) := by decide +kernel
theorem dX12_contains_75 : decode cX12_contains 75 = .ok (.imul, 1) := by decide +kernel
theorem dX12_contains_76 : decode cX12_contains 76 = .ok (.aload_n 0, 1) := by decide +kernel
theorem dX12_contains_77 : decode cX12_contains 77 = .ok (.getfield 62, 3) := by decide +kernel
theorem dX12_contains_80 : decode cX12_contains 80 = .ok (.iload 5, 2) := by decide +kernel
theorem dX12_contains_82 : decode cX12_contains 82 = .ok (.iaload, 1) := by decide +kernel
theorem dX12_contains_83 : decode cX12_contains 83 = .ok (.iload_n 2, 1) := by decide +kernel
theorem dX12_contains_84 : decode cX12_contains 84 = .ok (.invokevirtual 205, 3) := by decide +kernel
theorem dX12_contains_87 : decode cX12_contains 87 = .ok (.aload_n 0, 1) := by decide +kernel
theorem dX12_contains_88 : decode cX12_contains 88 = .ok (.getfield 65, 3) := by decide +kernel
theorem dX12_contains_91 : decode cX12_contains 91 = .ok (.iload 5, 2) := by decide +kernel
theorem dX12_contains_93 : decode cX12_contains 93 = .ok (.iaload, 1) := by decide +kernel
theorem dX12_contains_94 : decode cX12_contains 94 = .ok (.if_icmp .ne 10, 3) := by decide +kernel
theorem dX12_contains_97 : decode cX12_contains 97 = .ok (.iconst 1, 1) := by decide +kernel
theorem dX12_contains_98 : decode cX12_contains 98 = .ok (.iload 4, 2) := by decide +kernel
theorem dX12_contains_100 : decode cX12_contains 100 = .ok (.ishl, 1) := by decide +kernel
theorem dX12_contains_101 : decode cX12_contains 101 = .ok (.goto 4, 3) := by decide +kernel
theorem dX12_contains_104 : decode cX12_contains 104 = .ok (.iconst 0, 1) := by decide +kernel
theorem dX12_contains_105 : decode cX12_contains 105 = .ok (.ior, 1) := by decide +kernel
theorem dX12_contains_106 : decode cX12_contains 106 = .ok (.istore_n 3, 1) := by decide +kernel
theorem dX12_contains_107 : decode cX12_contains 107 = .ok (.iinc 4 1, 3) := by decide +kernel
theorem dX12_contains_110 : decode cX12_contains 110 = .ok (.goto (-77), 3) := by decide +kernel
theorem dX12_contains_113 : decode cX12_contains 113 = .ok (.aload_n 0, 1) := by decide +kernel
theorem dX12_contains_114 : decode cX12_contains 114 = .ok (.getfield 53, 3) := by decide +kernel
theorem dX12_contains_117 : decode cX12_contains 117 = .ok (.iload_n 1, 1) := by decide +kernel
theorem dX12_contains_118 : decode cX12_contains 118 = .ok (.iaload, 1) := by decide +kernel
theorem dX12_contains_119 : decode cX12_contains 119 = .ok (.iload_n 3, 1) := by decide +kernel
theorem dX12_contains_120 : decode cX12_contains 120 = .ok (.ishr, 1) := by decide +kernel
theorem dX12_contains_121 : decode cX12_contains 121 = .ok (.iconst 1, 1) := by decide +kernel
theorem dX12_contains_122 : decode cX12_contains 122 = .ok (.iand, 1) := by decide +kernel
theorem dX12_contains_123 : decode cX12_contains 123 = .ok (.ireturn, 1) := by decide +kernel
theorem dX12_addPart_0 : decode cX12_addPart 0 = .ok (.aload_n 0, 1) := by decide +kernel
theorem dX12_addPart_1 : decode cX12_addPart 1 = .ok (.getfield 244, 3) := by decide +kernel
theorem dX12_addPart_4 : decode cX12_addPart 4 = .ok (.istore 7, 2) := by decide +kernel
theorem dX12_addPart_6 : decode cX12_addPart 6 = .ok (.aload_n 0, 1) := by decide +kernel
theorem dX12_addPart_7 : decode cX12_addPart 7 = .ok (.getfield 86, 3) := by decide +kernel
theorem dX12_addPart_10 : decode cX12_addPart 10 = .ok (.iload 7, 2) := by decide +kernel
theorem dX12_addPart_12 : decode cX12_addPart 12 = .ok (.iload_n 1, 1) := by decide +kernel
theorem dX12_addPart_13 : decode cX12_addPart 13 = .ok (.iastore, 1) := by decide +kernel
theorem dX12_addPart_14 : decode cX12_addPart 14 = .ok (.aload_n 0, 1) := by decide +kernel
theorem dX12_addPart_15 : decode cX12_addPart 15 = .ok (.getfield 89, 3) := by decide +kernel
theorem dX12_addPart_18 : decode cX12_addPart 18 = .ok (.iload 7, 2) := by decide +kernel
theorem dX12_addPart_20 : decode cX12_addPart 20 = .ok (.iload_n 2, 1) := by decide +kernel
theorem dX12_addPart_21 : decode cX12_addPart 21 = .ok (.iastore, 1) := by decide +kernel
theorem dX12_addPart_22 : decode cX12_addPart 22 = .ok (.aload_n 0, 1) := by decide +kernel
theorem dX12_addPart_23 : decode cX12_addPart 23 = .ok (.getfield 92, 3) := by decide +kernel
theorem dX12_addPart_26 : decode cX12_addPart 26 = .ok (.iload 7, 2) := by decide +kernel
theorem dX12_addPart_28 : decode cX12_addPart 28 = .ok (.iload_n 3, 1) := by decide +kernel
theorem dX12_addPart_29 : decode cX12_addPart 29 = .ok (.iastore, 1) := by decide +kernel
theorem dX12_addPart_30 : decode cX12_addPart 30 = .ok (.aload_n 0, 1) := by decide +kernel
theorem dX12_addPart_31 : decode cX12_addPart 31 = .ok (.getfield 95, 3) := by decide +kernel
theorem dX12_addPart_34 : decode cX12_addPart 34 = .ok (.iload 7, 2) := by decide +kernel
theorem dX12_addPart_36 : decode cX12_addPart 36 = .ok (.iload 4, 2) := by decide +kernel
theorem dX12_addPart_38 : decode cX12_addPart 38 = .ok (.iastore, 1) := by decide +kernel
theorem dX12_addPart_39 : decode cX12_addPart 39 = .ok (.iconst 0, 1) := by decide +kernel
theorem dX12_addPart_40 : decode cX12_addPart 40 = .ok (.istore 8, 2) := by decide +kernel
theorem dX12_addPart_42 : decode cX12_addPart 42 = .ok (.iload 8, 2) := by decide +kernel
theorem dX12_addPart_44 : decode cX12_addPart 44 = .ok (.iconst 4, 1) := by decide +kernel
theorem dX12_addPart_45 : decode cX12_addPart 45 = .ok (.if_icmp .ge 29, 3) := by decide +kernel
theorem dX12_addPart_48 : decode cX12_addPart 48 = .ok (.aload_n 0, 1) := by decide +kernel
theorem dX12_addPart_49 : decode cX12_addPart 49 = .ok (.getfield 98, 3) := by decide +kernel
theorem dX12_addPart_52 : decode cX12_addPart 52 = .ok (.iconst 4, 1) := by decide +kernel
theorem dX12_addPart_53 : decode cX12_addPart 53 = .ok (.iload 7, 2) := by decide +kernel
theorem dX12_addPart_55 : decode cX12_addPart 55 = .ok (.imul, 1) := by decide +kernel
theorem dX12_addPart_56 : decode cX12_addPart 56 = .ok (.iload 8, 2) := by decide +kernel
theorem dX12_addPart_58 : decode cX12_addPart 58 = .ok (.iadd, 1) := by decide +kernel
theorem dX12_addPart_59 : decode cX12_addPart 59 = .ok (.aload 5, 2) := by decide +kernel
theorem dX12_addPart_61 : decode cX12_addPart 61 = .ok (.iload 6, 2) := by decide +kernel
theorem dX12_addPart_63 : decode cX12_addPart 63 = .ok (.iload 8, 2) := by decide +kernel
theorem dX12_addPart_65 : decode cX12_addPart 65 = .ok (.iadd, 1) := by decide +kernel
theorem dX12_addPart_66 : decode cX12_addPart 66 = .ok (.iaload, 1) := by decide +kernel
theorem dX12_addPart_67 : decode cX12_addPart 67 = .ok (.iastore, 1) := by decide +kernel
theorem dX12_addPart_68 : decode cX12_addPart 68 = .ok (.iinc 8 1, 3) := by decide +kernel
theorem dX12_addPart_71 : decode cX12_addPart 71 = .ok (.goto (-29), 3) := by decide +kernel
theorem dX12_addPart_74 : decode cX12_addPart 74 = .ok (.aload_n 0, 1) := by decide +kernel
theorem dX12_addPart_75 : decode cX12_addPart 75 = .ok (.dup, 1) := by decide +kernel
theorem dX12_addPart_76 : decode cX12_addPart 76 = .ok (.getfield 244, 3) := by decide +kernel
theorem dX12_addPart_79 : decode cX12_addPart 79 = .ok (.iconst 1, 1) := by decide +kernel
theorem dX12_addPart_80 : decode cX12_addPart 80 = .ok (.iadd, 1) := by decide +kernel
theorem dX12_addPart_81 : decode cX12_addPart 81 = .ok (.putfield 244, 3) := by decide +kernel
theorem dX12_addPart_84 : decode cX12_addPart 84 = .ok (.return_, 1) := by decide +kernel
set_option maxRecDepth 20000 in
theorem ggX12_addLanguage_X12_addPart : GoodIn wsX12_addLanguage wsX12_addPart := goodIn_r _ [11, 12, 13, 14, 15, 16, 17, 18, 19, 20, 21, 22, 23, 24, 25, 26, 27, 28, 29, 30, 31, 32, 33, 34, 35, 36, 37, 38, 39, 40, 41, 42, 43, 44, 45, 46, 47, 48, 49, 50, 51, 52, 53, 54, 55, 56, 57, 58, 59, 60, 61, 62, 63, 64, 65, 66, 67, 68, 69, 70, 71, 72, 73, 74, 75, 76, 77, 78, 79, 80, 81, 82, 83, 84, 85] (by decide +kernel) (by decide +kernel)
set_option maxRecDepth 20000 in
theorem gX12_addLanguage_X12_addPart : GoodIn wsX12_addLanguage (wsV RX12 247 RX12 yX12_addPart wsX12_addPart) := goodIn_app (goodIn_of _ (by decide +kernel)) ggX12_addLanguage_X12_addPart
theorem dX12_addLanguage_0 : decode cX12_addLanguage 0 = .ok (.iconst 0, 1) := by decide +kernel
theorem dX12_addLanguage_1 : decode cX12_addLanguage 1 = .ok (.istore_n 2, 1) := by decide +kernel
theorem dX12_addLanguage_2 : decode cX12_addLanguage 2 = .ok (.iload_n 2, 1) := by decide +kernel
theorem dX12_addLanguage_3 : decode cX12_addLanguage 3 = .ok (.aload_n 0, 1) := by decide +kernel
theorem dX12_addLanguage_4 : decode cX12_addLanguage 4 = .ok (.getfield 50, 3) := by decide +kernel
theorem dX12_addLanguage_7 : decode cX12_addLanguage 7 = .ok (.iload_n 1, 1) := by decide +kernel
theorem dX12_addLanguage_8 : decode cX12_addLanguage 8 = .ok (.iaload, 1) := by decide +kernel
theorem dX12_addLanguage_9 : decode cX12_addLanguage 9 = .ok (.if_icmp .ge 50, 3) := by decide +kernel
theorem dX12_addLanguage_12 : decode cX12_addLanguage 12 = .ok (.iconst 4, 1) := by decide +kernel
theorem dX12_addLanguage_13 : decode cX12_addLanguage 13 = .ok (.iload_n 1, 1) := by decide +kernel
theorem dX12_addLanguage_14 : decode cX12_addLanguage 14 = .ok (.imul, 1) := by decide +kernel
theorem dX12_addLanguage_15 : decode cX12_addLanguage 15 = .ok (.iload_n 2, 1) := by decide +kernel
theorem dX12_addLanguage_16 : decode cX12_addLanguage 16 = .ok (.iadd, 1) := by decide +kernel
theorem dX12_addLanguage_17 : decode cX12_addLanguage 17 = .ok (.istore_n 3, 1) := by decide +kernel
theorem dX12_addLanguage_18 : decode cX12_addLanguage 18 = .ok (.aload_n 0, 1) := by decide +kernel
theorem dX12_addLanguage_19 : decode cX12_addLanguage 19 = .ok (.aload_n 0, 1) := by decide +kernel
theorem dX12_addLanguage_20 : decode cX12_addLanguage 20 = .ok (.getfield 56, 3) := by decide +kernel
theorem dX12_addLanguage_23 : decode cX12_addLanguage 23 = .ok (.iload_n 3, 1) := by decide +kernel
theorem dX12_addLanguage_24 : decode cX12_addLanguage 24 = .ok (.iaload, 1) := by decide +kernel
theorem dX12_addLanguage_25 : decode cX12_addLanguage 25 = .ok (.aload_n 0, 1) := by decide +kernel
theorem dX12_addLanguage_26 : decode cX12_addLanguage 26 = .ok (.getfield 59, 3) := by decide +kernel
theorem dX12_addLanguage_29 : decode cX12_addLanguage 29 = .ok (.iload_n 3, 1) := by decide +kernel
theorem dX12_addLanguage_30 : decode cX12_addLanguage 30 = .ok (.iaload, 1) := by decide +kernel
theorem dX12_addLanguage_31 : decode cX12_addLanguage 31 = .ok (.aload_n 0, 1) := by decide +kernel
theorem dX12_addLanguage_32 : decode cX12_addLanguage 32 = .ok (.getfield 62, 3) := by decide +kernel
theorem dX12_addLanguage_35 : decode cX12_addLanguage 35 = .ok (.iload_n 3, 1) := by decide +kernel
theorem dX12_addLanguage_36 : decode cX12_addLanguage 36 = .ok (.iaload, 1) := by decide +kernel
theorem dX12_addLanguage_37 : decode cX12_addLanguage 37 = .ok (.aload_n 0, 1) := by decide +kernel
theorem dX12_addLanguage_38 : decode cX12_addLanguage 38 = .ok (.getfield 65, 3) := by decide +kernel
theorem dX12_addLanguage_41 : decode cX12_addLanguage 41 = .ok (.iload_n 3, 1) := by decide +kernel
theorem dX12_addLanguage_42 : decode cX12_addLanguage 42 = .ok (.iaload, 1) := by decide +kernel
theorem dX12_addLanguage_43 : decode cX12_addLanguage 43 = .ok (.aload_n 0, 1) := by decide +kernel
theorem dX12_addLanguage_44 : decode cX12_addLanguage 44 = .ok (.getfield 68, 3) := by decide +kernel
theorem dX12_addLanguage_47 : decode cX12_addLanguage 47 = .ok (.iconst 4, 1) := by decide +kernel
theorem dX12_addLanguage_48 : decode cX12_addLanguage 48 = .ok (.iload_n 3, 1) := by decide +kernel
theorem dX12_addLanguage_49 : decode cX12_addLanguage 49 = .ok (.imul, 1) := by decide +kernel
theorem dX12_addLanguage_50 : decode cX12_addLanguage 50 = .ok (.invokevirtual 247, 3) := by decide +kernel
theorem dX12_addLanguage_53 : decode cX12_addLanguage 53 = .ok (.iinc 2 1, 3) := by decide +kernel
theorem dX12_addLanguage_56 : decode cX12_addLanguage 56 = .ok (.goto (-54), 3) := by decide +kernel
theorem dX12_addLanguage_59 : decode cX12_addLanguage 59 = .ok (.return_, 1) := by decide +kernel
theorem dX12_stepped_0 : decode cX12_stepped 0 = .ok (.iload_n 2, 1) := by decide +kernel
theorem dX12_stepped_1 : decode cX12_stepped 1 = .ok (.istore 4, 2) := by decide +kernel
theorem dX12_stepped_3 : decode cX12_stepped 3 = .ok (.iconst 0, 1) := by decide +kernel
theorem dX12_stepped_4 : decode cX12_stepped 4 = .ok (.istore 5, 2) := by decide +kernel
theorem dX12_stepped_6 : decode cX12_stepped 6 = .ok (.iload 5, 2) := by decide +kernel
theorem dX12_stepped_8 : decode cX12_stepped 8 = .ok (.iconst 4, 1) := by decide +kernel
theorem dX12_stepped_9 : decode cX12_stepped 9 = .ok (.if_icmp .ge 28, 3) := by decide +kernel
theorem dX12_stepped_12 : decode cX12_stepped 12 = .ok (.aload_n 0, 1) := by decide +kernel
theorem dX12_stepped_13 : decode cX12_stepped 13 = .ok (.getfield 101, 3) := by decide +kernel
theorem dX12_stepped_16 : decode cX12_stepped 16 = .ok (.iload 5, 2) := by decide +kernel
theorem dX12_stepped_18 : decode cX12_stepped 18 = .ok (.iload 4, 2) := by decide +kernel
theorem dX12_stepped_20 : decode cX12_stepped 20 = .ok (.bipush 10, 2) := by decide +kernel
theorem dX12_stepped_22 : decode cX12_stepped 22 = .ok (.irem, 1) := by decide +kernel
theorem dX12_stepped_23 : decode cX12_stepped 23 = .ok (.iastore, 1) := by decide +kernel
theorem dX12_stepped_24 : decode cX12_stepped 24 = .ok (.iload 4, 2) := by decide +kernel
theorem dX12_stepped_26 : decode cX12_stepped 26 = .ok (.bipush 10, 2) := by decide +kernel
theorem dX12_stepped_28 : decode cX12_stepped 28 = .ok (.idiv, 1) := by decide +kernel
theorem dX12_stepped_29 : decode cX12_stepped 29 = .ok (.istore 4, 2) := by decide +kernel
theorem dX12_stepped_31 : decode cX12_stepped 31 = .ok (.iinc 5 1, 3) := by decide +kernel
theorem dX12_stepped_34 : decode cX12_stepped 34 = .ok (.goto (-28), 3) := by decide +kernel
theorem dX12_stepped_37 : decode cX12_stepped 37 = .ok (.aload_n 0, 1) := by decide +kernel
theorem dX12_stepped_38 : decode cX12_stepped 38 = .ok (.getfield 86, 3) := by decide +kernel
theorem dX12_stepped_41 : decode cX12_stepped 41 = .ok (.iload_n 1, 1) := by decide +kernel
theorem dX12_stepped_42 : decode cX12_stepped 42 = .ok (.iaload, 1) := by decide +kernel
theorem dX12_stepped_43 : decode cX12_stepped 43 = .ok (.iconst 1, 1) := by decide +kernel
theorem dX12_stepped_44 : decode cX12_stepped 44 = .ok (.if_icmp .ne 27, 3) := by decide +kernel
theorem dX12_stepped_47 : decode cX12_stepped 47 = .ok (.aload_n 0, 1) := by decide +kernel
theorem dX12_stepped_48 : decode cX12_stepped 48 = .ok (.getfield 101, 3) := by decide +kernel
theorem dX12_stepped_51 : decode cX12_stepped 51 = .ok (.iconst 0, 1) := by decide +kernel
theorem dX12_stepped_52 : decode cX12_stepped 52 = .ok (.aload_n 0, 1) := by decide +kernel
theorem dX12_stepped_53 : decode cX12_stepped 53 = .ok (.getfield 101, 3) := by decide +kernel
theorem dX12_stepped_56 : decode cX12_stepped 56 = .ok (.iconst 0, 1) := by decide +kernel
theorem dX12_stepped_57 : decode cX12_stepped 57 = .ok (.iaload, 1) := by decide +kernel
theorem dX12_stepped_58 : decode cX12_stepped 58 = .ok (.iconst 1, 1) := by decide +kernel
theorem dX12_stepped_59 : decode cX12_stepped 59 = .ok (.iadd, 1) := by decide +kernel
theorem dX12_stepped_60 : decode cX12_stepped 60 = .ok (.aload_n 0, 1) := by decide +kernel
theorem dX12_stepped_61 : decode cX12_stepped 61 = .ok (.getfield 89, 3) := by decide +kernel
theorem dX12_stepped_64 : decode cX12_stepped 64 = .ok (.iload_n 1, 1) := by decide +kernel
theorem dX12_stepped_65 : decode cX12_stepped 65 = .ok (.iaload, 1) := by decide +kernel
theorem dX12_stepped_66 : decode cX12_stepped 66 = .ok (.irem, 1) := by decide +kernel
theorem dX12_stepped_67 : decode cX12_stepped 67 = .ok (.iastore, 1) := by decide +kernel
theorem dX12_stepped_68 : decode cX12_stepped 68 = .ok (.goto 120, 3) := by decide +kernel
theorem dX12_stepped_71 : decode cX12_stepped 71 = .ok (.aload_n 0, 1) := by decide +kernel
theorem dX12_stepped_72 : decode cX12_stepped 72 = .ok (.getfield 92, 3) := by decide +kernel
theorem dX12_stepped_75 : decode cX12_stepped 75 = .ok (.iload_n 1, 1) := by decide +kernel
theorem dX12_stepped_76 : decode cX12_stepped 76 = .ok (.iaload, 1) := by decide +kernel
theorem dX12_stepped_77 : decode cX12_stepped 77 = .ok (.iconst 1, 1) := by decide +kernel
theorem dX12_stepped_78 : decode cX12_stepped 78 = .ok (.isub, 1) := by decide +kernel
theorem dX12_stepped_79 : decode cX12_stepped 79 = .ok (.istore 5, 2) := by decide +kernel
theorem dX12_stepped_81 : decode cX12_stepped 81 = .ok (.iload 5, 2) := by decide +kernel
theorem dX12_stepped_83 : decode cX12_stepped 83 = .ok (.ifCond .lt 105, 3) := by decide +kernel
theorem dX12_stepped_86 : decode cX12_stepped 86 = .ok (.aload_n 0, 1) := by decide +kernel
theorem dX12_stepped_87 : decode cX12_stepped 87 = .ok (.getfield 98, 3) := by decide +kernel
theorem dX12_stepped_90 : decode cX12_stepped 90 = .ok (.iconst 4, 1) := by decide +kernel
theorem dX12_stepped_91 : decode cX12_stepped 91 = .ok (.iload_n 1, 1) := by decide +kernel
theorem dX12_stepped_92 : decode cX12_stepped 92 = .ok (.imul, 1) := by decide +kernel
theorem dX12_stepped_93 : decode cX12_stepped 93 = .ok (.iload 5, 2) := by decide +kernel
theorem dX12_stepped_95 : decode cX12_stepped 95 = .ok (.iadd, 1) := by decide +kernel
theorem dX12_stepped_96 : decode cX12_stepped 96 = .ok (.iaload, 1) := by decide +kernel
theorem dX12_stepped_97 : decode cX12_stepped 97 = .ok (.iload_n 3, 1) := by decide +kernel
theorem dX12_stepped_98 : decode cX12_stepped 98 = .ok (.if_icmp .eq 6, 3) := by decide +kernel
theorem dX12_stepped_101 : decode cX12_stepped 101 = .ok (.goto 81, 3) := by decide +kernel
theorem dX12_stepped_104 : decode cX12_stepped 104 = .ok (.aload_n 0, 1) := by decide +kernel
theorem dX12_stepped_105 : decode cX12_stepped 105 = .ok (.getfield 101, 3) := by decide +kernel
theorem dX12_stepped_108 : decode cX12_stepped 108 = .ok (.iload 5, 2) := by decide +kernel
theorem dX12_stepped_110 : decode cX12_stepped 110 = .ok (.iaload, 1) := by decide +kernel
theorem dX12_stepped_111 : decode cX12_stepped 111 = .ok (.iload 5, 2) := by decide +kernel
theorem dX12_stepped_113 : decode cX12_stepped 113 = .ok (.ifCond .ne 7, 3) := by decide +kernel
theorem dX12_stepped_116 : decode cX12_stepped 116 = .ok (.iconst 1, 1) := by decide +kernel
theorem dX12_stepped_117 : decode cX12_stepped 117 = .ok (.goto 12, 3) := by decide +kernel
theorem dX12_stepped_120 : decode cX12_stepped 120 = .ok (.aload_n 0, 1) := by decide +kernel
theorem dX12_stepped_121 : decode cX12_stepped 121 = .ok (.getfield 101, 3) := by decide +kernel
theorem dX12_stepped_124 : decode cX12_stepped 124 = .ok (.iload 5, 2) := by decide +kernel
theorem dX12_stepped_126 : decode cX12_stepped 126 = .ok (.iconst 1, 1) := by decide +kernel
theorem dX12_stepped_127 : decode cX12_stepped 127 = .ok (.isub, 1) := by decide +kernel
theorem dX12_stepped_128 : decode cX12_stepped 128 = .ok (.iaload, 1) := by decide +kernel
theorem dX12_stepped_129 : decode cX12_stepped 129 = .ok (.iadd, 1) := by decide +kernel
theorem dX12_stepped_130 : decode cX12_stepped 130 = .ok (.istore 6, 2) := by decide +kernel
theorem dX12_stepped_132 : decode cX12_stepped 132 = .ok (.aload_n 0, 1) := by decide +kernel
theorem dX12_stepped_133 : decode cX12_stepped 133 = .ok (.getfield 101, 3) := by decide +kernel
theorem dX12_stepped_136 : decode cX12_stepped 136 = .ok (.iload 5, 2) := by decide +kernel
theorem dX12_stepped_138 : decode cX12_stepped 138 = .ok (.aload_n 0, 1) := by decide +kernel
theorem dX12_stepped_139 : decode cX12_stepped 139 = .ok (.getfield 86, 3) := by decide +kernel
theorem dX12_stepped_142 : decode cX12_stepped 142 = .ok (.iload_n 1, 1) := by decide +kernel
theorem dX12_stepped_143 : decode cX12_stepped 143 = .ok (.iaload, 1) := by decide +kernel
theorem dX12_stepped_144 : decode cX12_stepped 144 = .ok (.ifCond .ne 15, 3) := by decide +kernel
theorem dX12_stepped_147 : decode cX12_stepped 147 = .ok (.iload 6, 2) := by decide +kernel
theorem dX12_stepped_149 : decode cX12_stepped 149 = .ok (.aload_n 0, 1) := by decide +kernel
theorem dX12_stepped_150 : decode cX12_stepped 150 = .ok (.getfield 89, 3) := by decide +kernel
theorem dX12_stepped_153 : decode cX12_stepped 153 = .ok (.iload_n 1, 1) := by decide +kernel
theorem dX12_stepped_154 : decode cX12_stepped 154 = .ok (.iaload, 1) := by decide +kernel
theorem dX12_stepped_155 : decode cX12_stepped 155 = .ok (.irem, 1) := by decide +kernel
theorem dX12_stepped_156 : decode cX12_stepped 156 = .ok (.goto 25, 3) := by decide +kernel
theorem dX12_stepped_159 : decode cX12_stepped 159 = .ok (.iload 6, 2) := by decide +kernel
theorem dX12_stepped_161 : decode cX12_stepped 161 = .ok (.aload_n 0, 1) := by decide +kernel
theorem dX12_stepped_162 : decode cX12_stepped 162 = .ok (.getfield 89, 3) := by decide +kernel
theorem dX12_stepped_165 : decode cX12_stepped 165 = .ok (.iload_n 1, 1) := by decide +kernel
theorem dX12_stepped_166 : decode cX12_stepped 166 = .ok (.iaload, 1) := by decide +kernel
theorem dX12_stepped_167 : decode cX12_stepped 167 = .ok (.if_icmp .ge 8, 3) := by decide +kernel
theorem dX12_stepped_170 : decode cX12_stepped 170 = .ok (.iload 6, 2) := by decide +kernel
theorem dX12_stepped_172 : decode cX12_stepped 172 = .ok (.goto 9, 3) := by decide +kernel
theorem dX12_stepped_175 : decode cX12_stepped 175 = .ok (.aload_n 0, 1) := by decide +kernel
theorem dX12_stepped_176 : decode cX12_stepped 176 = .ok (.getfield 89, 3) := by decide +kernel
theorem dX12_stepped_179 : decode cX12_stepped 179 = .ok (.iload_n 1, 1) := by decide +kernel
theorem dX12_stepped_180 : decode cX12_stepped 180 = .ok (.iaload, 1) := by decide +kernel
theorem dX12_stepped_181 : decode cX12_stepped 181 = .ok (.iastore, 1) := by decide +kernel
theorem dX12_stepped_182 : decode cX12_stepped 182 = .ok (.iinc 5 (-1), 3) := by decide +kernel
theorem dX12_stepped_185 : decode cX12_stepped 185 = .ok (.goto (-104), 3) := by decide +kernel
theorem dX12_stepped_188 : decode cX12_stepped 188 = .ok (.aload_n 0, 1) := by decide +kernel
theorem dX12_stepped_189 : decode cX12_stepped 189 = .ok (.getfield 101, 3) := by decide +kernel
theorem dX12_stepped_192 : decode cX12_stepped 192 = .ok (.iconst 0, 1) := by decide +kernel
theorem dX12_stepped_193 : decode cX12_stepped 193 = .ok (.iaload, 1) := by decide +kernel
theorem dX12_stepped_194 : decode cX12_stepped 194 = .ok (.bipush 10, 2) := by decide +kernel
theorem dX12_stepped_196 : decode cX12_stepped 196 = .ok (.aload_n 0, 1) := by decide +kernel
theorem dX12_stepped_197 : decode cX12_stepped 197 = .ok (.getfield 101, 3) := by decide +kernel
theorem dX12_stepped_200 : decode cX12_stepped 200 = .ok (.iconst 1, 1) := by decide +kernel
theorem dX12_stepped_201 : decode cX12_stepped 201 = .ok (.iaload, 1) := by decide +kernel
theorem dX12_stepped_202 : decode cX12_stepped 202 = .ok (.imul, 1) := by decide +kernel
theorem dX12_stepped_203 : decode cX12_stepped 203 = .ok (.iadd, 1) := by decide +kernel
theorem dX12_stepped_204 : decode cX12_stepped 204 = .ok (.bipush 100, 2) := by decide +kernel
theorem dX12_stepped_206 : decode cX12_stepped 206 = .ok (.aload_n 0, 1) := by decide +kernel
theorem dX12_stepped_207 : decode cX12_stepped 207 = .ok (.getfield 101, 3) := by decide +kernel
theorem dX12_stepped_210 : decode cX12_stepped 210 = .ok (.iconst 2, 1) := by decide +kernel
theorem dX12_stepped_211 : decode cX12_stepped 211 = .ok (.iaload, 1) := by decide +kernel
theorem dX12_stepped_212 : decode cX12_stepped 212 = .ok (.imul, 1) := by decide +kernel
theorem dX12_stepped_213 : decode cX12_stepped 213 = .ok (.iadd, 1) := by decide +kernel
theorem dX12_stepped_214 : decode cX12_stepped 214 = .ok (.sipush 1000, 3) := by decide +kernel
theorem dX12_stepped_217 : decode cX12_stepped 217 = .ok (.aload_n 0, 1) := by decide +kernel
theorem dX12_stepped_218 : decode cX12_stepped 218 = .ok (.getfield 101, 3) := by decide +kernel
theorem dX12_stepped_221 : decode cX12_stepped 221 = .ok (.iconst 3, 1) := by decide +kernel
theorem dX12_stepped_222 : decode cX12_stepped 222 = .ok (.iaload, 1) := by decide +kernel
theorem dX12_stepped_223 : decode cX12_stepped 223 = .ok (.imul, 1) := by decide +kernel
theorem dX12_stepped_224 : decode cX12_stepped 224 = .ok (.iadd, 1) := by decide +kernel
theorem dX12_stepped_225 : decode cX12_stepped 225 = .ok (.ireturn, 1) := by decide +kernel
theorem dX12_digitsOf_0 : decode cX12_digitsOf 0 = .ok (.lload_n 0, 1) := by decide +kernel
theorem dX12_digitsOf_1 : decode cX12_digitsOf 1 = .ok (.lstore_n 3, 1) := by decide +kernel
theorem dX12_digitsOf_2 : decode cX12_digitsOf 2 = .ok (.iconst 0, 1) := by decide +kernel
theorem dX12_digitsOf_3 : decode cX12_digitsOf 3 = .ok (.istore 5, 2) := by decide +kernel
theorem dX12_digitsOf_5 : decode cX12_digitsOf 5 = .ok (.iload 5, 2) := by decide +kernel
theorem dX12_digitsOf_7 : decode cX12_digitsOf 7 = .ok (.iload_n 2, 1) := by decide +kernel
theorem dX12_digitsOf_8 : decode cX12_digitsOf 8 = .ok (.if_icmp .ge 15, 3) := by decide +kernel
theorem dX12_digitsOf_11 : decode cX12_digitsOf 11 = .ok (.lload_n 3, 1) := by decide +kernel
theorem dX12_digitsOf_12 : decode cX12_digitsOf 12 = .ok (.ldc2_w 251, 3) := by decide +kernel
theorem dX12_digitsOf_15 : decode cX12_digitsOf 15 = .ok (.ldiv, 1) := by decide +kernel
theorem dX12_digitsOf_16 : decode cX12_digitsOf 16 = .ok (.lstore_n 3, 1) := by decide +kernel
theorem dX12_digitsOf_17 : decode cX12_digitsOf 17 = .ok (.iinc 5 1, 3) := by decide +kernel
theorem dX12_digitsOf_20 : decode cX12_digitsOf 20 = .ok (.goto (-15), 3) := by decide +kernel
theorem dX12_digitsOf_23 : decode cX12_digitsOf 23 = .ok (.lload_n 3, 1) := by decide +kernel
theorem dX12_digitsOf_24 : decode cX12_digitsOf 24 = .ok (.ldc2_w 251, 3) := by decide +kernel
theorem dX12_digitsOf_27 : decode cX12_digitsOf 27 = .ok (.lrem, 1) := by decide +kernel
theorem dX12_digitsOf_28 : decode cX12_digitsOf 28 = .ok (.l2i, 1) := by decide +kernel
theorem dX12_digitsOf_29 : decode cX12_digitsOf 29 = .ok (.ireturn, 1) := by decide +kernel
set_option maxRecDepth 20000 in
theorem ggX12_steppedCode_X12_digitsOf : GoodIn wsX12_steppedCode wsX12_digitsOf := goodIn_r _ [6, 2] (by decide +kernel) (by decide +kernel)
set_option maxRecDepth 20000 in
theorem gX12_steppedCode_X12_digitsOf : GoodIn wsX12_steppedCode (va_wsS RX12 253 yX12_digitsOf wsX12_digitsOf) := goodIn_app (goodIn_of _ (by decide +kernel)) ggX12_steppedCode_X12_digitsOf
set_option maxRecDepth 20000 in
theorem ggX12_steppedCode_X12_stepped : GoodIn wsX12_steppedCode wsX12_stepped := goodIn_r _ [10, 11, 12, 13, 14, 15, 16, 17, 18, 19, 20, 21, 22, 23, 24, 25, 26, 27, 28, 29, 30, 31, 32, 33, 34, 35, 36, 37, 38, 39, 40, 41, 42, 43, 44, 45, 46, 47, 48, 49, 50, 51, 52, 53, 54, 55, 56, 57, 58, 59, 60, 61, 62, 63, 64, 65, 66, 67, 68, 69, 70, 71, 72, 73, 74, 75, 76, 77, 78, 79, 80, 81, 82, 83] (by decide +kernel) (by decide +kernel)
set_option maxRecDepth 20000 in
theorem gX12_steppedCode_X12_stepped : GoodIn wsX12_steppedCode (wsV RX12 257 RX12 yX12_stepped wsX12_stepped) := goodIn_app (goodIn_of _ (by decide +kernel)) ggX12_steppedCode_X12_stepped
theorem dX12_steppedCode_0 : decode cX12_steppedCode 0 = .ok (.lconst 0, 1) := by decide +kernel
theorem dX12_steppedCode_1 : decode cX12_steppedCode 1 = .ok (.lstore 5, 2) := by decide +kernel
theorem dX12_steppedCode_3 : decode cX12_steppedCode 3 = .ok (.lconst 1, 1) := by decide +kernel
theorem dX12_steppedCode_4 : decode cX12_steppedCode 4 = .ok (.lstore 7, 2) := by decide +kernel
theorem dX12_steppedCode_6 : decode cX12_steppedCode 6 = .ok (.iload_n 3, 1) := by decide +kernel
theorem dX12_steppedCode_7 : decode cX12_steppedCode 7 = .ok (.istore 9, 2) := by decide +kernel
theorem dX12_steppedCode_9 : decode cX12_steppedCode 9 = .ok (.iload 9, 2) := by decide +kernel
theorem dX12_steppedCode_11 : decode cX12_steppedCode 11 = .ok (.aload_n 0, 1) := by decide +kernel
theorem dX12_steppedCode_12 : decode cX12_steppedCode 12 = .ok (.getfield 244, 3) := by decide +kernel
theorem dX12_steppedCode_15 : decode cX12_steppedCode 15 = .ok (.if_icmp .ge 50, 3) := by decide +kernel
theorem dX12_steppedCode_18 : decode cX12_steppedCode 18 = .ok (.iload 9, 2) := by decide +kernel
theorem dX12_steppedCode_20 : decode cX12_steppedCode 20 = .ok (.iload_n 3, 1) := by decide +kernel
theorem dX12_steppedCode_21 : decode cX12_steppedCode 21 = .ok (.iconst 4, 1) := by decide +kernel
theorem dX12_steppedCode_22 : decode cX12_steppedCode 22 = .ok (.iadd, 1) := by decide +kernel
theorem dX12_steppedCode_23 : decode cX12_steppedCode 23 = .ok (.if_icmp .ge 42, 3) := by decide +kernel
theorem dX12_steppedCode_26 : decode cX12_steppedCode 26 = .ok (.lload 5, 2) := by decide +kernel
theorem dX12_steppedCode_28 : decode cX12_steppedCode 28 = .ok (.lload 7, 2) := by decide +kernel
theorem dX12_steppedCode_30 : decode cX12_steppedCode 30 = .ok (.aload_n 0, 1) := by decide +kernel
theorem dX12_steppedCode_31 : decode cX12_steppedCode 31 = .ok (.iload 9, 2) := by decide +kernel
theorem dX12_steppedCode_33 : decode cX12_steppedCode 33 = .ok (.lload_n 1, 1) := by decide +kernel
theorem dX12_steppedCode_34 : decode cX12_steppedCode 34 = .ok (.iload 9, 2) := by decide +kernel
theorem dX12_steppedCode_36 : decode cX12_steppedCode 36 = .ok (.iload_n 3, 1) := by decide +kernel
theorem dX12_steppedCode_37 : decode cX12_steppedCode 37 = .ok (.isub, 1) := by decide +kernel
theorem dX12_steppedCode_38 : decode cX12_steppedCode 38 = .ok (.invokestatic 253, 3) := by decide +kernel
theorem dX12_steppedCode_41 : decode cX12_steppedCode 41 = .ok (.iload 4, 2) := by decide +kernel
theorem dX12_steppedCode_43 : decode cX12_steppedCode 43 = .ok (.invokevirtual 257, 3) := by decide +kernel
theorem dX12_steppedCode_46 : decode cX12_steppedCode 46 = .ok (.i2l, 1) := by decide +kernel
theorem dX12_steppedCode_47 : decode cX12_steppedCode 47 = .ok (.lmul, 1) := by decide +kernel
theorem dX12_steppedCode_48 : decode cX12_steppedCode 48 = .ok (.ladd, 1) := by decide +kernel
theorem dX12_steppedCode_49 : decode cX12_steppedCode 49 = .ok (.lstore 5, 2) := by decide +kernel
theorem dX12_steppedCode_51 : decode cX12_steppedCode 51 = .ok (.lload 7, 2) := by decide +kernel
theorem dX12_steppedCode_53 : decode cX12_steppedCode 53 = .ok (.ldc2_w 251, 3) := by decide +kernel
theorem dX12_steppedCode_56 : decode cX12_steppedCode 56 = .ok (.lmul, 1) := by decide +kernel
theorem dX12_steppedCode_57 : decode cX12_steppedCode 57 = .ok (.lstore 7, 2) := by decide +kernel
theorem dX12_steppedCode_59 : decode cX12_steppedCode 59 = .ok (.iinc 9 1, 3) := by decide +kernel
theorem dX12_steppedCode_62 : decode cX12_steppedCode 62 = .ok (.goto (-53), 3) := by decide +kernel
theorem dX12_steppedCode_65 : decode cX12_steppedCode 65 = .ok (.lload 5, 2) := by decide +kernel
theorem dX12_steppedCode_67 : decode cX12_steppedCode 67 = .ok (.lreturn, 1) := by decide +kernel
theorem dX12_clearKeys_0 : decode cX12_clearKeys 0 = .ok (.iconst 0, 1) := by decide +kernel
theorem dX12_clearKeys_1 : decode cX12_clearKeys 1 = .ok (.istore_n 1, 1) := by decide +kernel
theorem dX12_clearKeys_2 : decode cX12_clearKeys 2 = .ok (.iload_n 1, 1) := by decide +kernel
theorem dX12_clearKeys_3 : decode cX12_clearKeys 3 = .ok (.sipush 8192, 3) := by decide +kernel
theorem dX12_clearKeys_6 : decode cX12_clearKeys 6 = .ok (.if_icmp .ge 16, 3) := by decide +kernel
theorem dX12_clearKeys_9 : decode cX12_clearKeys 9 = .ok (.aload_n 0, 1) := by decide +kernel
theorem dX12_clearKeys_10 : decode cX12_clearKeys 10 = .ok (.getfield 117, 3) := by decide +kernel
theorem dX12_clearKeys_13 : decode cX12_clearKeys 13 = .ok (.iload_n 1, 1) := by decide +kernel
theorem dX12_clearKeys_14 : decode cX12_clearKeys 14 = .ok (.iconst (-1), 1) := by decide +kernel
theorem dX12_clearKeys_15 : decode cX12_clearKeys 15 = .ok (.iastore, 1) := by decide +kernel
theorem dX12_clearKeys_16 : decode cX12_clearKeys 16 = .ok (.iinc 1 1, 3) := by decide +kernel
theorem dX12_clearKeys_19 : decode cX12_clearKeys 19 = .ok (.goto (-17), 3) := by decide +kernel
theorem dX12_clearKeys_22 : decode cX12_clearKeys 22 = .ok (.return_, 1) := by decide +kernel
theorem dX12_slotOf_0 : decode cX12_slotOf 0 = .ok (.lload_n 1, 1) := by decide +kernel
theorem dX12_slotOf_1 : decode cX12_slotOf 1 = .ok (.ldc2_w 260, 3) := by decide +kernel
theorem dX12_slotOf_4 : decode cX12_slotOf 4 = .ok (.lmul, 1) := by decide +kernel
theorem dX12_slotOf_5 : decode cX12_slotOf 5 = .ok (.lload_n 3, 1) := by decide +kernel
theorem dX12_slotOf_6 : decode cX12_slotOf 6 = .ok (.ldc2_w 262, 3) := by decide +kernel
theorem dX12_slotOf_9 : decode cX12_slotOf 9 = .ok (.lmul, 1) := by decide +kernel
theorem dX12_slotOf_10 : decode cX12_slotOf 10 = .ok (.ladd, 1) := by decide +kernel
theorem dX12_slotOf_11 : decode cX12_slotOf 11 = .ok (.lload_n 1, 1) := by decide +kernel
theorem dX12_slotOf_12 : decode cX12_slotOf 12 = .ok (.bipush 23, 2) := by decide +kernel
theorem dX12_slotOf_14 : decode cX12_slotOf 14 = .ok (.lushr, 1) := by decide +kernel
theorem dX12_slotOf_15 : decode cX12_slotOf 15 = .ok (.lxor, 1) := by decide +kernel
theorem dX12_slotOf_16 : decode cX12_slotOf 16 = .ok (.ldc2_w 264, 3) := by decide +kernel
theorem dX12_slotOf_19 : decode cX12_slotOf 19 = .ok (.land, 1) := by decide +kernel
theorem dX12_slotOf_20 : decode cX12_slotOf 20 = .ok (.l2i, 1) := by decide +kernel
theorem dX12_slotOf_21 : decode cX12_slotOf 21 = .ok (.istore 5, 2) := by decide +kernel
theorem dX12_slotOf_23 : decode cX12_slotOf 23 = .ok (.aload_n 0, 1) := by decide +kernel
theorem dX12_slotOf_24 : decode cX12_slotOf 24 = .ok (.getfield 117, 3) := by decide +kernel
theorem dX12_slotOf_27 : decode cX12_slotOf 27 = .ok (.iload 5, 2) := by decide +kernel
theorem dX12_slotOf_29 : decode cX12_slotOf 29 = .ok (.iaload, 1) := by decide +kernel
theorem dX12_slotOf_30 : decode cX12_slotOf 30 = .ok (.ifCond .lt 40, 3) := by decide +kernel
theorem dX12_slotOf_33 : decode cX12_slotOf 33 = .ok (.aload_n 0, 1) := by decide +kernel
theorem dX12_slotOf_34 : decode cX12_slotOf 34 = .ok (.getfield 111, 3) := by decide +kernel
theorem dX12_slotOf_37 : decode cX12_slotOf 37 = .ok (.iload 5, 2) := by decide +kernel
theorem dX12_slotOf_39 : decode cX12_slotOf 39 = .ok (.laload, 1) := by decide +kernel
theorem dX12_slotOf_40 : decode cX12_slotOf 40 = .ok (.lload_n 1, 1) := by decide +kernel
theorem dX12_slotOf_41 : decode cX12_slotOf 41 = .ok (.lcmp, 1) := by decide +kernel
theorem dX12_slotOf_42 : decode cX12_slotOf 42 = .ok (.ifCond .ne 15, 3) := by decide +kernel
theorem dX12_slotOf_45 : decode cX12_slotOf 45 = .ok (.aload_n 0, 1) := by decide +kernel
theorem dX12_slotOf_46 : decode cX12_slotOf 46 = .ok (.getfield 114, 3) := by decide +kernel
theorem dX12_slotOf_49 : decode cX12_slotOf 49 = .ok (.iload 5, 2) := by decide +kernel
theorem dX12_slotOf_51 : decode cX12_slotOf 51 = .ok (.laload, 1) := by decide +kernel
theorem dX12_slotOf_52 : decode cX12_slotOf 52 = .ok (.lload_n 3, 1) := by decide +kernel
theorem dX12_slotOf_53 : decode cX12_slotOf 53 = .ok (.lcmp, 1) := by decide +kernel
theorem dX12_slotOf_54 : decode cX12_slotOf 54 = .ok (.ifCond .eq 16, 3) := by decide +kernel
theorem dX12_slotOf_57 : decode cX12_slotOf 57 = .ok (.iload 5, 2) := by decide +kernel
theorem dX12_slotOf_59 : decode cX12_slotOf 59 = .ok (.iconst 1, 1) := by decide +kernel
theorem dX12_slotOf_60 : decode cX12_slotOf 60 = .ok (.iadd, 1) := by decide +kernel
theorem dX12_slotOf_61 : decode cX12_slotOf 61 = .ok (.sipush 8191, 3) := by decide +kernel
theorem dX12_slotOf_64 : decode cX12_slotOf 64 = .ok (.iand, 1) := by decide +kernel
theorem dX12_slotOf_65 : decode cX12_slotOf 65 = .ok (.istore 5, 2) := by decide +kernel
theorem dX12_slotOf_67 : decode cX12_slotOf 67 = .ok (.goto (-44), 3) := by decide +kernel
theorem dX12_slotOf_70 : decode cX12_slotOf 70 = .ok (.iload 5, 2) := by decide +kernel
theorem dX12_slotOf_72 : decode cX12_slotOf 72 = .ok (.ireturn, 1) := by decide +kernel
theorem dX12_putKey_0 : decode cX12_putKey 0 = .ok (.aload_n 0, 1) := by decide +kernel
theorem dX12_putKey_1 : decode cX12_putKey 1 = .ok (.getfield 111, 3) := by decide +kernel
theorem dX12_putKey_4 : decode cX12_putKey 4 = .ok (.iload_n 1, 1) := by decide +kernel
theorem dX12_putKey_5 : decode cX12_putKey 5 = .ok (.lload_n 2, 1) := by decide +kernel
theorem dX12_putKey_6 : decode cX12_putKey 6 = .ok (.lastore, 1) := by decide +kernel
theorem dX12_putKey_7 : decode cX12_putKey 7 = .ok (.aload_n 0, 1) := by decide +kernel
theorem dX12_putKey_8 : decode cX12_putKey 8 = .ok (.getfield 114, 3) := by decide +kernel
theorem dX12_putKey_11 : decode cX12_putKey 11 = .ok (.iload_n 1, 1) := by decide +kernel
theorem dX12_putKey_12 : decode cX12_putKey 12 = .ok (.lload 4, 2) := by decide +kernel
theorem dX12_putKey_14 : decode cX12_putKey 14 = .ok (.lastore, 1) := by decide +kernel
theorem dX12_putKey_15 : decode cX12_putKey 15 = .ok (.aload_n 0, 1) := by decide +kernel
theorem dX12_putKey_16 : decode cX12_putKey 16 = .ok (.getfield 117, 3) := by decide +kernel
theorem dX12_putKey_19 : decode cX12_putKey 19 = .ok (.iload_n 1, 1) := by decide +kernel
theorem dX12_putKey_20 : decode cX12_putKey 20 = .ok (.iload 6, 2) := by decide +kernel
theorem dX12_putKey_22 : decode cX12_putKey 22 = .ok (.iastore, 1) := by decide +kernel
theorem dX12_putKey_23 : decode cX12_putKey 23 = .ok (.return_, 1) := by decide +kernel
set_option maxRecDepth 20000 in
theorem ggX12_addState_X12_putKey : GoodIn wsX12_addState wsX12_putKey := goodIn_r _ [10, 11, 12, 13, 14, 15, 16, 17, 18, 19, 20, 21, 22, 23, 24, 25, 26, 27, 28, 29, 30, 31, 32, 33, 34, 35, 36, 37, 38, 39, 40, 41, 42, 43, 44, 45, 46, 47, 48, 49, 50, 51, 52, 53, 54, 55, 56, 57, 58, 59, 60, 61, 62, 63, 64, 65, 66, 67, 68, 69, 70, 71, 72, 73, 74, 75, 76, 77, 78, 79, 80, 81] (by decide +kernel) (by decide +kernel)
set_option maxRecDepth 20000 in
theorem gX12_addState_X12_putKey : GoodIn wsX12_addState (wsV RX12 269 RX12 yX12_putKey wsX12_putKey) := goodIn_app (goodIn_of _ (by decide +kernel)) ggX12_addState_X12_putKey
theorem dX12_addState_0 : decode cX12_addState 0 = .ok (.aload_n 0, 1) := by decide +kernel
theorem dX12_addState_1 : decode cX12_addState 1 = .ok (.iload_n 1, 1) := by decide +kernel
theorem dX12_addState_2 : decode cX12_addState 2 = .ok (.lload_n 2, 1) := by decide +kernel
theorem dX12_addState_3 : decode cX12_addState 3 = .ok (.lload 4, 2) := by decide +kernel
theorem dX12_addState_5 : decode cX12_addState 5 = .ok (.aload_n 0, 1) := by decide +kernel
theorem dX12_addState_6 : decode cX12_addState 6 = .ok (.getfield 266, 3) := by decide +kernel
theorem dX12_addState_9 : decode cX12_addState 9 = .ok (.invokevirtual 269, 3) := by decide +kernel
theorem dX12_addState_12 : decode cX12_addState 12 = .ok (.aload_n 0, 1) := by decide +kernel
theorem dX12_addState_13 : decode cX12_addState 13 = .ok (.getfield 104, 3) := by decide +kernel
theorem dX12_addState_16 : decode cX12_addState 16 = .ok (.aload_n 0, 1) := by decide +kernel
theorem dX12_addState_17 : decode cX12_addState 17 = .ok (.getfield 266, 3) := by decide +kernel
theorem dX12_addState_20 : decode cX12_addState 20 = .ok (.lload_n 2, 1) := by decide +kernel
theorem dX12_addState_21 : decode cX12_addState 21 = .ok (.lastore, 1) := by decide +kernel
theorem dX12_addState_22 : decode cX12_addState 22 = .ok (.aload_n 0, 1) := by decide +kernel
theorem dX12_addState_23 : decode cX12_addState 23 = .ok (.getfield 108, 3) := by decide +kernel
theorem dX12_addState_26 : decode cX12_addState 26 = .ok (.aload_n 0, 1) := by decide +kernel
theorem dX12_addState_27 : decode cX12_addState 27 = .ok (.getfield 266, 3) := by decide +kernel
theorem dX12_addState_30 : decode cX12_addState 30 = .ok (.lload 4, 2) := by decide +kernel
theorem dX12_addState_32 : decode cX12_addState 32 = .ok (.lastore, 1) := by decide +kernel
theorem dX12_addState_33 : decode cX12_addState 33 = .ok (.aload_n 0, 1) := by decide +kernel
theorem dX12_addState_34 : decode cX12_addState 34 = .ok (.getfield 123, 3) := by decide +kernel
theorem dX12_addState_37 : decode cX12_addState 37 = .ok (.aload_n 0, 1) := by decide +kernel
theorem dX12_addState_38 : decode cX12_addState 38 = .ok (.getfield 266, 3) := by decide +kernel
theorem dX12_addState_41 : decode cX12_addState 41 = .ok (.iload 6, 2) := by decide +kernel
theorem dX12_addState_43 : decode cX12_addState 43 = .ok (.iastore, 1) := by decide +kernel
theorem dX12_addState_44 : decode cX12_addState 44 = .ok (.aload_n 0, 1) := by decide +kernel
theorem dX12_addState_45 : decode cX12_addState 45 = .ok (.getfield 126, 3) := by decide +kernel
theorem dX12_addState_48 : decode cX12_addState 48 = .ok (.aload_n 0, 1) := by decide +kernel
theorem dX12_addState_49 : decode cX12_addState 49 = .ok (.getfield 266, 3) := by decide +kernel
theorem dX12_addState_52 : decode cX12_addState 52 = .ok (.iload 7, 2) := by decide +kernel
theorem dX12_addState_54 : decode cX12_addState 54 = .ok (.iastore, 1) := by decide +kernel
theorem dX12_addState_55 : decode cX12_addState 55 = .ok (.aload_n 0, 1) := by decide +kernel
theorem dX12_addState_56 : decode cX12_addState 56 = .ok (.dup, 1) := by decide +kernel
theorem dX12_addState_57 : decode cX12_addState 57 = .ok (.getfield 266, 3) := by decide +kernel
theorem dX12_addState_60 : decode cX12_addState 60 = .ok (.iconst 1, 1) := by decide +kernel
theorem dX12_addState_61 : decode cX12_addState 61 = .ok (.iadd, 1) := by decide +kernel
theorem dX12_addState_62 : decode cX12_addState 62 = .ok (.putfield 266, 3) := by decide +kernel
theorem dX12_addState_65 : decode cX12_addState 65 = .ok (.return_, 1) := by decide +kernel
set_option maxRecDepth 20000 in
theorem ggX12_builds_X12_clearKeys : GoodIn wsX12_builds wsX12_clearKeys := goodIn_r _ [11, 5, 49, 50, 51, 52, 53, 54, 55, 56, 57, 58, 59, 60, 61, 62, 63, 64, 65, 66, 67, 68, 69, 70, 71, 72, 73, 74, 75, 76, 77, 78, 79, 80, 81, 82, 83, 84, 85, 86, 87, 88, 89, 90, 91, 92, 93, 94, 95, 96, 97, 98, 99, 100, 101, 102, 103, 104, 105, 106, 107, 108, 109, 110, 111, 112, 113, 114, 115, 116] (by decide +kernel) (by decide +kernel)
set_option maxRecDepth 20000 in
theorem gX12_builds_X12_clearKeys : GoodIn wsX12_builds (wsV RX12 273 RX12 yX12_clearKeys wsX12_clearKeys) := goodIn_app (goodIn_of _ (by decide +kernel)) ggX12_builds_X12_clearKeys
set_option maxRecDepth 20000 in
theorem ggX12_builds_X12_slotOf : GoodIn wsX12_builds wsX12_slotOf := goodIn_r _ [15, 16, 17, 18, 5, 19, 20, 49, 50, 51, 52, 53, 54, 55, 56, 57, 58, 59, 60, 61, 62, 63, 64, 65, 66, 67, 68, 69, 70, 71, 72, 73, 74, 75, 76, 77, 78, 79, 80, 81, 82, 83, 84, 85, 86, 87, 88, 89, 90, 91, 92, 93, 94, 95, 96, 97, 98, 99, 100, 101, 102, 103, 104, 105, 106, 107, 108, 109, 110, 111, 112, 113, 114, 115, 116] (by decide +kernel) (by decide +kernel)
set_option maxRecDepth 20000 in
theorem gX12_builds_X12_slotOf : GoodIn wsX12_builds (wsV RX12 276 RX12 yX12_slotOf wsX12_slotOf) := goodIn_app (goodIn_of _ (by decide +kernel)) ggX12_builds_X12_slotOf
set_option maxRecDepth 20000 in
theorem ggX12_builds_X12_addState : GoodIn wsX12_builds wsX12_addState := goodIn_r _ [24, 1, 3, 4, 25, 26, 27, 28, 29, 10, 30, 19, 20, 5, 49, 50, 51, 52, 53, 54, 55, 56, 57, 58, 59, 60, 61, 62, 63, 64, 65, 66, 67, 68, 69, 70, 71, 72, 73, 74, 75, 76, 77, 78, 79, 80, 81, 82, 83, 84, 85, 86, 87, 88, 89, 90, 91, 92, 93, 94, 95, 96, 97, 98, 99, 100, 101, 102, 103, 104, 105, 106, 107, 108, 109, 110, 111, 112, 113, 114, 115, 116] (by decide +kernel) (by decide +kernel)
set_option maxRecDepth 20000 in
theorem gX12_builds_X12_addState : GoodIn wsX12_builds (wsV RX12 280 RX12 yX12_addState wsX12_addState) := goodIn_app (goodIn_of _ (by decide +kernel)) ggX12_builds_X12_addState
set_option maxRecDepth 20000 in
theorem ggX12_builds_X12_steppedCode : GoodIn wsX12_builds wsX12_steppedCode := goodIn_r _ [34, 35, 36, 37, 38, 10, 39, 40, 41, 42, 43, 44, 45, 46, 47, 48, 49, 50, 51, 52, 53, 54, 55, 56, 57, 58, 59, 60, 61, 62, 63, 64, 65, 66, 67, 68, 69, 70, 71, 72, 73, 74, 75, 76, 77, 78, 79, 80, 81, 82, 83, 84, 85, 86, 87, 88, 89, 90, 91, 92, 93, 94, 95, 96, 97, 98, 99, 100, 101, 102, 103, 104, 105, 106, 107, 108, 109, 110, 111, 112, 113, 114, 115, 116] (by decide +kernel) (by decide +kernel)
set_option maxRecDepth 20000 in
theorem gX12_builds_X12_steppedCode : GoodIn wsX12_builds (wsV RX12 284 RX12 yX12_steppedCode wsX12_steppedCode) := goodIn_app (goodIn_of _ (by decide +kernel)) ggX12_builds_X12_steppedCode
theorem dX12_builds_0 : decode cX12_builds 0 = .ok (.aload_n 0, 1) := by decide +kernel
theorem dX12_builds_1 : decode cX12_builds 1 = .ok (.invokevirtual 273, 3) := by decide +kernel
theorem dX12_builds_4 : decode cX12_builds 4 = .ok (.aload_n 0, 1) := by decide +kernel
theorem dX12_builds_5 : decode cX12_builds 5 = .ok (.iconst 0, 1) := by decide +kernel
theorem dX12_builds_6 : decode cX12_builds 6 = .ok (.putfield 266, 3) := by decide +kernel
theorem dX12_builds_9 : decode cX12_builds 9 = .ok (.aload_n 0, 1) := by decide +kernel
theorem dX12_builds_10 : decode cX12_builds 10 = .ok (.aload_n 0, 1) := by decide +kernel
theorem dX12_builds_11 : decode cX12_builds 11 = .ok (.lconst 0, 1) := by decide +kernel
theorem dX12_builds_12 : decode cX12_builds 12 = .ok (.lconst 0, 1) := by decide +kernel
theorem dX12_builds_13 : decode cX12_builds 13 = .ok (.invokevirtual 276, 3) := by decide +kernel
theorem dX12_builds_16 : decode cX12_builds 16 = .ok (.lconst 0, 1) := by decide +kernel
theorem dX12_builds_17 : decode cX12_builds 17 = .ok (.lconst 0, 1) := by decide +kernel
theorem dX12_builds_18 : decode cX12_builds 18 = .ok (.iconst (-1), 1) := by decide +kernel
theorem dX12_builds_19 : decode cX12_builds 19 = .ok (.iconst (-1), 1) := by decide +kernel
theorem dX12_builds_20 : decode cX12_builds 20 = .ok (.invokevirtual 280, 3) := by decide +kernel
theorem dX12_builds_23 : decode cX12_builds 23 = .ok (.iconst 0, 1) := by decide +kernel
theorem dX12_builds_24 : decode cX12_builds 24 = .ok (.istore_n 1, 1) := by decide +kernel
theorem dX12_builds_25 : decode cX12_builds 25 = .ok (.iload_n 1, 1) := by decide +kernel
theorem dX12_builds_26 : decode cX12_builds 26 = .ok (.aload_n 0, 1) := by decide +kernel
theorem dX12_builds_27 : decode cX12_builds 27 = .ok (.getfield 266, 3) := by decide +kernel
theorem dX12_builds_30 : decode cX12_builds 30 = .ok (.if_icmp .ge 111, 3) := by decide +kernel
theorem dX12_builds_33 : decode cX12_builds 33 = .ok (.iconst 0, 1) := by decide +kernel
theorem dX12_builds_34 : decode cX12_builds 34 = .ok (.istore_n 2, 1) := by decide +kernel
theorem dX12_builds_35 : decode cX12_builds 35 = .ok (.iload_n 2, 1) := by decide +kernel
theorem dX12_builds_36 : decode cX12_builds 36 = .ok (.aload_n 0, 1) := by decide +kernel
theorem dX12_builds_37 : decode cX12_builds 37 = .ok (.getfield 7, 3) := by decide +kernel
theorem dX12_builds_40 : decode cX12_builds 40 = .ok (.if_icmp .ge 95, 3) := by decide +kernel
theorem dX12_builds_43 : decode cX12_builds 43 = .ok (.aload_n 0, 1) := by decide +kernel
theorem dX12_builds_44 : decode cX12_builds 44 = .ok (.aload_n 0, 1) := by decide +kernel
theorem dX12_builds_45 : decode cX12_builds 45 = .ok (.getfield 104, 3) := by decide +kernel
theorem dX12_builds_48 : decode cX12_builds 48 = .ok (.iload_n 1, 1) := by decide +kernel
theorem dX12_builds_49 : decode cX12_builds 49 = .ok (.laload, 1) := by decide +kernel
theorem dX12_builds_50 : decode cX12_builds 50 = .ok (.iconst 0, 1) := by decide +kernel
theorem dX12_builds_51 : decode cX12_builds 51 = .ok (.iload_n 2, 1) := by decide +kernel
theorem dX12_builds_52 : decode cX12_builds 52 = .ok (.invokevirtual 284, 3) := by decide +kernel
theorem dX12_builds_55 : decode cX12_builds 55 = .ok (.lstore_n 3, 1) := by decide +kernel
theorem dX12_builds_56 : decode cX12_builds 56 = .ok (.aload_n 0, 1) := by decide +kernel
theorem dX12_builds_57 : decode cX12_builds 57 = .ok (.aload_n 0, 1) := by decide +kernel
theorem dX12_builds_58 : decode cX12_builds 58 = .ok (.getfield 108, 3) := by decide +kernel
theorem dX12_builds_61 : decode cX12_builds 61 = .ok (.iload_n 1, 1) := by decide +kernel
theorem dX12_builds_62 : decode cX12_builds 62 = .ok (.laload, 1) := by decide +kernel
theorem dX12_builds_63 : decode cX12_builds 63 = .ok (.iconst 4, 1) := by decide +kernel
theorem dX12_builds_64 : decode cX12_builds 64 = .ok (.iload_n 2, 1) := by decide +kernel
theorem dX12_builds_65 : decode cX12_builds 65 = .ok (.invokevirtual 284, 3) := by decide +kernel
theorem dX12_builds_68 : decode cX12_builds 68 = .ok (.lstore 5, 2) := by decide +kernel
theorem dX12_builds_70 : decode cX12_builds 70 = .ok (.aload_n 0, 1) := by decide +kernel
theorem dX12_builds_71 : decode cX12_builds 71 = .ok (.lload_n 3, 1) := by decide +kernel
theorem dX12_builds_72 : decode cX12_builds 72 = .ok (.lload 5, 2) := by decide +kernel
theorem dX12_builds_74 : decode cX12_builds 74 = .ok (.invokevirtual 276, 3) := by decide +kernel
theorem dX12_builds_77 : decode cX12_builds 77 = .ok (.istore 7, 2) := by decide +kernel
theorem dX12_builds_79 : decode cX12_builds 79 = .ok (.aload_n 0, 1) := by decide +kernel
theorem dX12_builds_80 : decode cX12_builds 80 = .ok (.getfield 117, 3) := by decide +kernel
theorem dX12_builds_83 : decode cX12_builds 83 = .ok (.iload 7, 2) := by decide +kernel
theorem dX12_builds_85 : decode cX12_builds 85 = .ok (.iaload, 1) := by decide +kernel
theorem dX12_builds_86 : decode cX12_builds 86 = .ok (.ifCond .ge 26, 3) := by decide +kernel
theorem dX12_builds_89 : decode cX12_builds 89 = .ok (.aload_n 0, 1) := by decide +kernel
theorem dX12_builds_90 : decode cX12_builds 90 = .ok (.getfield 266, 3) := by decide +kernel
theorem dX12_builds_93 : decode cX12_builds 93 = .ok (.sipush 2000, 3) := by decide +kernel
theorem dX12_builds_96 : decode cX12_builds 96 = .ok (.if_icmp .ne 5, 3) := by decide +kernel
theorem dX12_builds_99 : decode cX12_builds 99 = .ok (.iconst 0, 1) := by decide +kernel
theorem dX12_builds_100 : decode cX12_builds 100 = .ok (.ireturn, 1) := by decide +kernel
theorem dX12_builds_101 : decode cX12_builds 101 = .ok (.aload_n 0, 1) := by decide +kernel
theorem dX12_builds_102 : decode cX12_builds 102 = .ok (.iload 7, 2) := by decide +kernel
theorem dX12_builds_104 : decode cX12_builds 104 = .ok (.lload_n 3, 1) := by decide +kernel
theorem dX12_builds_105 : decode cX12_builds 105 = .ok (.lload 5, 2) := by decide +kernel
theorem dX12_builds_107 : decode cX12_builds 107 = .ok (.iload_n 1, 1) := by decide +kernel
theorem dX12_builds_108 : decode cX12_builds 108 = .ok (.iload_n 2, 1) := by decide +kernel
theorem dX12_builds_109 : decode cX12_builds 109 = .ok (.invokevirtual 280, 3) := by decide +kernel
theorem dX12_builds_112 : decode cX12_builds 112 = .ok (.aload_n 0, 1) := by decide +kernel
theorem dX12_builds_113 : decode cX12_builds 113 = .ok (.getfield 120, 3) := by decide +kernel
theorem dX12_builds_116 : decode cX12_builds 116 = .ok (.iconst 3, 1) := by decide +kernel
theorem dX12_builds_117 : decode cX12_builds 117 = .ok (.iload_n 1, 1) := by decide +kernel
theorem dX12_builds_118 : decode cX12_builds 118 = .ok (.imul, 1) := by decide +kernel
theorem dX12_builds_119 : decode cX12_builds 119 = .ok (.iload_n 2, 1) := by decide +kernel
theorem dX12_builds_120 : decode cX12_builds 120 = .ok (.iadd, 1) := by decide +kernel
theorem dX12_builds_121 : decode cX12_builds 121 = .ok (.aload_n 0, 1) := by decide +kernel
theorem dX12_builds_122 : decode cX12_builds 122 = .ok (.getfield 117, 3) := by decide +kernel
theorem dX12_builds_125 : decode cX12_builds 125 = .ok (.iload 7, 2) := by decide +kernel
theorem dX12_builds_127 : decode cX12_builds 127 = .ok (.iaload, 1) := by decide +kernel
theorem dX12_builds_128 : decode cX12_builds 128 = .ok (.iastore, 1) := by decide +kernel
theorem dX12_builds_129 : decode cX12_builds 129 = .ok (.iinc 2 1, 3) := by decide +kernel
theorem dX12_builds_132 : decode cX12_builds 132 = .ok (.goto (-97), 3) := by decide +kernel
theorem dX12_builds_135 : decode cX12_builds 135 = .ok (.iinc 1 1, 3) := by decide +kernel
theorem dX12_builds_138 : decode cX12_builds 138 = .ok (.goto (-113), 3) := by decide +kernel
theorem dX12_builds_141 : decode cX12_builds 141 = .ok (.iconst 1, 1) := by decide +kernel
theorem dX12_builds_142 : decode cX12_builds 142 = .ok (.ireturn, 1) := by decide +kernel
set_option maxRecDepth 20000 in
theorem ggX12_valueAt_X12_digitsOf : GoodIn wsX12_valueAt wsX12_digitsOf := goodIn_r _ [7, 8] (by decide +kernel) (by decide +kernel)
set_option maxRecDepth 20000 in
theorem gX12_valueAt_X12_digitsOf : GoodIn wsX12_valueAt (va_wsS RX12 253 yX12_digitsOf wsX12_digitsOf) := goodIn_app (goodIn_of _ (by decide +kernel)) ggX12_valueAt_X12_digitsOf
theorem dX12_valueAt_0 : decode cX12_valueAt 0 = .ok (.iload_n 2, 1) := by decide +kernel
theorem dX12_valueAt_1 : decode cX12_valueAt 1 = .ok (.iconst 4, 1) := by decide +kernel
theorem dX12_valueAt_2 : decode cX12_valueAt 2 = .ok (.if_icmp .ge 12, 3) := by decide +kernel
theorem dX12_valueAt_5 : decode cX12_valueAt 5 = .ok (.aload_n 0, 1) := by decide +kernel
theorem dX12_valueAt_6 : decode cX12_valueAt 6 = .ok (.getfield 104, 3) := by decide +kernel
theorem dX12_valueAt_9 : decode cX12_valueAt 9 = .ok (.iload_n 1, 1) := by decide +kernel
theorem dX12_valueAt_10 : decode cX12_valueAt 10 = .ok (.laload, 1) := by decide +kernel
theorem dX12_valueAt_11 : decode cX12_valueAt 11 = .ok (.goto 9, 3) := by decide +kernel
theorem dX12_valueAt_14 : decode cX12_valueAt 14 = .ok (.aload_n 0, 1) := by decide +kernel
theorem dX12_valueAt_15 : decode cX12_valueAt 15 = .ok (.getfield 108, 3) := by decide +kernel
theorem dX12_valueAt_18 : decode cX12_valueAt 18 = .ok (.iload_n 1, 1) := by decide +kernel
theorem dX12_valueAt_19 : decode cX12_valueAt 19 = .ok (.laload, 1) := by decide +kernel
theorem dX12_valueAt_20 : decode cX12_valueAt 20 = .ok (.iload_n 2, 1) := by decide +kernel
theorem dX12_valueAt_21 : decode cX12_valueAt 21 = .ok (.iconst 4, 1) := by decide +kernel
theorem dX12_valueAt_22 : decode cX12_valueAt 22 = .ok (.irem, 1) := by decide +kernel
theorem dX12_valueAt_23 : decode cX12_valueAt 23 = .ok (.invokestatic 253, 3) := by decide +kernel
theorem dX12_valueAt_26 : decode cX12_valueAt 26 = .ok (.istore_n 3, 1) := by decide +kernel
theorem dX12_valueAt_27 : decode cX12_valueAt 27 = .ok (.iconst 1, 1) := by decide +kernel
theorem dX12_valueAt_28 : decode cX12_valueAt 28 = .ok (.istore 4, 2) := by decide +kernel
theorem dX12_valueAt_30 : decode cX12_valueAt 30 = .ok (.iload 4, 2) := by decide +kernel
theorem dX12_valueAt_32 : decode cX12_valueAt 32 = .ok (.aload_n 0, 1) := by decide +kernel
theorem dX12_valueAt_33 : decode cX12_valueAt 33 = .ok (.getfield 92, 3) := by decide +kernel
theorem dX12_valueAt_36 : decode cX12_valueAt 36 = .ok (.iload_n 2, 1) := by decide +kernel
theorem dX12_valueAt_37 : decode cX12_valueAt 37 = .ok (.iaload, 1) := by decide +kernel
theorem dX12_valueAt_38 : decode cX12_valueAt 38 = .ok (.if_icmp .ge 14, 3) := by decide +kernel
theorem dX12_valueAt_41 : decode cX12_valueAt 41 = .ok (.iload_n 3, 1) := by decide +kernel
theorem dX12_valueAt_42 : decode cX12_valueAt 42 = .ok (.bipush 10, 2) := by decide +kernel
theorem dX12_valueAt_44 : decode cX12_valueAt 44 = .ok (.idiv, 1) := by decide +kernel
theorem dX12_valueAt_45 : decode cX12_valueAt 45 = .ok (.istore_n 3, 1) := by decide +kernel
theorem dX12_valueAt_46 : decode cX12_valueAt 46 = .ok (.iinc 4 1, 3) := by decide +kernel
theorem dX12_valueAt_49 : decode cX12_valueAt 49 = .ok (.goto (-19), 3) := by decide +kernel
theorem dX12_valueAt_52 : decode cX12_valueAt 52 = .ok (.iload_n 3, 1) := by decide +kernel
theorem dX12_valueAt_53 : decode cX12_valueAt 53 = .ok (.bipush 10, 2) := by decide +kernel
theorem dX12_valueAt_55 : decode cX12_valueAt 55 = .ok (.irem, 1) := by decide +kernel
theorem dX12_valueAt_56 : decode cX12_valueAt 56 = .ok (.ireturn, 1) := by decide +kernel
set_option maxRecDepth 20000 in
theorem ggX12_answerAt_X12_valueAt : GoodIn wsX12_answerAt wsX12_valueAt := goodIn_r _ [11, 12, 13, 14, 15, 16, 10, 17, 18, 19, 20, 21, 22, 23, 24, 25, 26, 27, 28, 29, 30, 31, 32, 33, 34, 35, 36, 37, 38, 39, 40, 41, 42, 43, 44, 45, 46, 47, 48, 49, 50, 51, 52, 53, 54, 55, 56, 57, 58, 59, 60, 61, 62, 63, 64, 65, 66, 67, 68, 69, 70, 71, 72, 73, 74, 75, 76, 77, 78, 79, 80, 81, 82, 83, 84, 85, 86] (by decide +kernel) (by decide +kernel)
set_option maxRecDepth 20000 in
theorem gX12_answerAt_X12_valueAt : GoodIn wsX12_answerAt (wsV RX12 288 RX12 yX12_valueAt wsX12_valueAt) := goodIn_app (goodIn_of _ (by decide +kernel)) ggX12_answerAt_X12_valueAt
theorem dX12_answerAt_0 : decode cX12_answerAt 0 = .ok (.iload_n 2, 1) := by decide +kernel
theorem dX12_answerAt_1 : decode cX12_answerAt 1 = .ok (.ifCond .eq 10, 3) := by decide +kernel
theorem dX12_answerAt_4 : decode cX12_answerAt 4 = .ok (.aload_n 0, 1) := by decide +kernel
theorem dX12_answerAt_5 : decode cX12_answerAt 5 = .ok (.iload_n 1, 1) := by decide +kernel
theorem dX12_answerAt_6 : decode cX12_answerAt 6 = .ok (.iconst 0, 1) := by decide +kernel
theorem dX12_answerAt_7 : decode cX12_answerAt 7 = .ok (.invokevirtual 288, 3) := by decide +kernel
theorem dX12_answerAt_10 : decode cX12_answerAt 10 = .ok (.ireturn, 1) := by decide +kernel
theorem dX12_answerAt_11 : decode cX12_answerAt 11 = .ok (.iconst 0, 1) := by decide +kernel
theorem dX12_answerAt_12 : decode cX12_answerAt 12 = .ok (.istore_n 3, 1) := by decide +kernel
theorem dX12_answerAt_13 : decode cX12_answerAt 13 = .ok (.iconst 0, 1) := by decide +kernel
theorem dX12_answerAt_14 : decode cX12_answerAt 14 = .ok (.istore 4, 2) := by decide +kernel
theorem dX12_answerAt_16 : decode cX12_answerAt 16 = .ok (.iload 4, 2) := by decide +kernel
theorem dX12_answerAt_18 : decode cX12_answerAt 18 = .ok (.aload_n 0, 1) := by decide +kernel
theorem dX12_answerAt_19 : decode cX12_answerAt 19 = .ok (.getfield 244, 3) := by decide +kernel
theorem dX12_answerAt_22 : decode cX12_answerAt 22 = .ok (.if_icmp .ge 37, 3) := by decide +kernel
theorem dX12_answerAt_25 : decode cX12_answerAt 25 = .ok (.iload_n 3, 1) := by decide +kernel
theorem dX12_answerAt_26 : decode cX12_answerAt 26 = .ok (.aload_n 0, 1) := by decide +kernel
theorem dX12_answerAt_27 : decode cX12_answerAt 27 = .ok (.iload_n 1, 1) := by decide +kernel
theorem dX12_answerAt_28 : decode cX12_answerAt 28 = .ok (.iload 4, 2) := by decide +kernel
theorem dX12_answerAt_30 : decode cX12_answerAt 30 = .ok (.invokevirtual 288, 3) := by decide +kernel
theorem dX12_answerAt_33 : decode cX12_answerAt 33 = .ok (.aload_n 0, 1) := by decide +kernel
theorem dX12_answerAt_34 : decode cX12_answerAt 34 = .ok (.getfield 95, 3) := by decide +kernel
theorem dX12_answerAt_37 : decode cX12_answerAt 37 = .ok (.iload 4, 2) := by decide +kernel
theorem dX12_answerAt_39 : decode cX12_answerAt 39 = .ok (.iaload, 1) := by decide +kernel
theorem dX12_answerAt_40 : decode cX12_answerAt 40 = .ok (.if_icmp .ne 10, 3) := by decide +kernel
theorem dX12_answerAt_43 : decode cX12_answerAt 43 = .ok (.iconst 1, 1) := by decide +kernel
theorem dX12_answerAt_44 : decode cX12_answerAt 44 = .ok (.iload 4, 2) := by decide +kernel
theorem dX12_answerAt_46 : decode cX12_answerAt 46 = .ok (.ishl, 1) := by decide +kernel
theorem dX12_answerAt_47 : decode cX12_answerAt 47 = .ok (.goto 4, 3) := by decide +kernel
theorem dX12_answerAt_50 : decode cX12_answerAt 50 = .ok (.iconst 0, 1) := by decide +kernel
theorem dX12_answerAt_51 : decode cX12_answerAt 51 = .ok (.ior, 1) := by decide +kernel
theorem dX12_answerAt_52 : decode cX12_answerAt 52 = .ok (.istore_n 3, 1) := by decide +kernel
theorem dX12_answerAt_53 : decode cX12_answerAt 53 = .ok (.iinc 4 1, 3) := by decide +kernel
theorem dX12_answerAt_56 : decode cX12_answerAt 56 = .ok (.goto (-40), 3) := by decide +kernel
theorem dX12_answerAt_59 : decode cX12_answerAt 59 = .ok (.aload_n 0, 1) := by decide +kernel
theorem dX12_answerAt_60 : decode cX12_answerAt 60 = .ok (.getfield 291, 3) := by decide +kernel
theorem dX12_answerAt_63 : decode cX12_answerAt 63 = .ok (.iload_n 3, 1) := by decide +kernel
theorem dX12_answerAt_64 : decode cX12_answerAt 64 = .ok (.iconst 1, 1) := by decide +kernel
theorem dX12_answerAt_65 : decode cX12_answerAt 65 = .ok (.aload_n 0, 1) := by decide +kernel
theorem dX12_answerAt_66 : decode cX12_answerAt 66 = .ok (.getfield 294, 3) := by decide +kernel
theorem dX12_answerAt_69 : decode cX12_answerAt 69 = .ok (.ishl, 1) := by decide +kernel
theorem dX12_answerAt_70 : decode cX12_answerAt 70 = .ok (.iconst 1, 1) := by decide +kernel
theorem dX12_answerAt_71 : decode cX12_answerAt 71 = .ok (.isub, 1) := by decide +kernel
theorem dX12_answerAt_72 : decode cX12_answerAt 72 = .ok (.iand, 1) := by decide +kernel
theorem dX12_answerAt_73 : decode cX12_answerAt 73 = .ok (.ishr, 1) := by decide +kernel
theorem dX12_answerAt_74 : decode cX12_answerAt 74 = .ok (.iconst 1, 1) := by decide +kernel
theorem dX12_answerAt_75 : decode cX12_answerAt 75 = .ok (.iand, 1) := by decide +kernel
theorem dX12_answerAt_76 : decode cX12_answerAt 76 = .ok (.istore 4, 2) := by decide +kernel
theorem dX12_answerAt_78 : decode cX12_answerAt 78 = .ok (.aload_n 0, 1) := by decide +kernel
theorem dX12_answerAt_79 : decode cX12_answerAt 79 = .ok (.getfield 297, 3) := by decide +kernel
theorem dX12_answerAt_82 : decode cX12_answerAt 82 = .ok (.ifCond .eq 19, 3) := by decide +kernel
theorem dX12_answerAt_85 : decode cX12_answerAt 85 = .ok (.iload 4, 2) := by decide +kernel
theorem dX12_answerAt_87 : decode cX12_answerAt 87 = .ok (.aload_n 0, 1) := by decide +kernel
theorem dX12_answerAt_88 : decode cX12_answerAt 88 = .ok (.getfield 301, 3) := by decide +kernel
theorem dX12_answerAt_91 : decode cX12_answerAt 91 = .ok (.iload_n 3, 1) := by decide +kernel
theorem dX12_answerAt_92 : decode cX12_answerAt 92 = .ok (.iconst 4, 1) := by decide +kernel
theorem dX12_answerAt_93 : decode cX12_answerAt 93 = .ok (.ishr, 1) := by decide +kernel
theorem dX12_answerAt_94 : decode cX12_answerAt 94 = .ok (.ishr, 1) := by decide +kernel
theorem dX12_answerAt_95 : decode cX12_answerAt 95 = .ok (.iconst 1, 1) := by decide +kernel
theorem dX12_answerAt_96 : decode cX12_answerAt 96 = .ok (.iand, 1) := by decide +kernel
theorem dX12_answerAt_97 : decode cX12_answerAt 97 = .ok (.ixor, 1) := by decide +kernel
theorem dX12_answerAt_98 : decode cX12_answerAt 98 = .ok (.goto 5, 3) := by decide +kernel
theorem dX12_answerAt_101 : decode cX12_answerAt 101 = .ok (.iload 4, 2) := by decide +kernel
theorem dX12_answerAt_103 : decode cX12_answerAt 103 = .ok (.ireturn, 1) := by decide +kernel
set_option maxRecDepth 20000 in
theorem ggX12_refine_X12_clearKeys : GoodIn wsX12_refine wsX12_clearKeys := goodIn_r _ [13, 6, 27, 28, 29, 30, 31, 32, 33, 34, 35, 36, 37, 38, 39, 40, 41, 42, 43, 44, 45, 46, 47, 48, 49, 50, 51, 52, 53, 54, 55, 56, 57, 58, 59, 60, 61, 62, 63, 64, 65, 66, 67, 68, 69, 70, 71, 72, 73, 74, 75, 76, 77, 78, 79, 80, 81, 82, 83, 84, 85, 86, 87, 88, 89, 90, 91, 92, 93, 94] (by decide +kernel) (by decide +kernel)
set_option maxRecDepth 20000 in
theorem gX12_refine_X12_clearKeys : GoodIn wsX12_refine (wsV RX12 273 RX12 yX12_clearKeys wsX12_clearKeys) := goodIn_app (goodIn_of _ (by decide +kernel)) ggX12_refine_X12_clearKeys
set_option maxRecDepth 20000 in
theorem ggX12_refine_X12_slotOf : GoodIn wsX12_refine wsX12_slotOf := goodIn_r _ [17, 18, 19, 20, 6, 21, 22, 27, 28, 29, 30, 31, 32, 33, 34, 35, 36, 37, 38, 39, 40, 41, 42, 43, 44, 45, 46, 47, 48, 49, 50, 51, 52, 53, 54, 55, 56, 57, 58, 59, 60, 61, 62, 63, 64, 65, 66, 67, 68, 69, 70, 71, 72, 73, 74, 75, 76, 77, 78, 79, 80, 81, 82, 83, 84, 85, 86, 87, 88, 89, 90, 91, 92, 93, 94] (by decide +kernel) (by decide +kernel)
set_option maxRecDepth 20000 in
theorem gX12_refine_X12_slotOf : GoodIn wsX12_refine (wsV RX12 276 RX12 yX12_slotOf wsX12_slotOf) := goodIn_app (goodIn_of _ (by decide +kernel)) ggX12_refine_X12_slotOf
set_option maxRecDepth 20000 in
theorem ggX12_refine_X12_putKey : GoodIn wsX12_refine wsX12_putKey := goodIn_r _ [26, 21, 22, 6, 27, 28, 29, 30, 31, 32, 33, 34, 35, 36, 37, 38, 39, 40, 41, 42, 43, 44, 45, 46, 47, 48, 49, 50, 51, 52, 53, 54, 55, 56, 57, 58, 59, 60, 61, 62, 63, 64, 65, 66, 67, 68, 69, 70, 71, 72, 73, 74, 75, 76, 77, 78, 79, 80, 81, 82, 83, 84, 85, 86, 87, 88, 89, 90, 91, 92, 93, 94] (by decide +kernel) (by decide +kernel)
set_option maxRecDepth 20000 in
theorem gX12_refine_X12_putKey : GoodIn wsX12_refine (wsV RX12 269 RX12 yX12_putKey wsX12_putKey) := goodIn_app (goodIn_of _ (by decide +kernel)) ggX12_refine_X12_putKey
theorem dX12_refine_0 : decode cX12_refine 0 = .ok (.aload_n 0, 1) := by decide +kernel
theorem dX12_refine_1 : decode cX12_refine 1 = .ok (.invokevirtual 273, 3) := by decide +kernel
theorem dX12_refine_4 : decode cX12_refine 4 = .ok (.iconst 0, 1) := by decide +kernel
theorem dX12_refine_5 : decode cX12_refine 5 = .ok (.istore_n 1, 1) := by decide +kernel
theorem dX12_refine_6 : decode cX12_refine 6 = .ok (.iconst 0, 1) := by decide +kernel
theorem dX12_refine_7 : decode cX12_refine 7 = .ok (.istore_n 2, 1) := by decide +kernel
theorem dX12_refine_8 : decode cX12_refine 8 = .ok (.iload_n 2, 1) := by decide +kernel
theorem dX12_refine_9 : decode cX12_refine 9 = .ok (.aload_n 0, 1) := by decide +kernel
theorem dX12_refine_10 : decode cX12_refine 10 = .ok (.getfield 266, 3) := by decide +kernel
theorem dX12_refine_13 : decode cX12_refine 13 = .ok (.if_icmp .ge 115, 3) := by decide +kernel
theorem dX12_refine_16 : decode cX12_refine 16 = .ok (.lconst 0, 1) := by decide +kernel
theorem dX12_refine_17 : decode cX12_refine 17 = .ok (.lstore_n 3, 1) := by decide +kernel
theorem dX12_refine_18 : decode cX12_refine 18 = .ok (.iconst 0, 1) := by decide +kernel
theorem dX12_refine_19 : decode cX12_refine 19 = .ok (.istore 5, 2) := by decide +kernel
theorem dX12_refine_21 : decode cX12_refine 21 = .ok (.iload 5, 2) := by decide +kernel
theorem dX12_refine_23 : decode cX12_refine 23 = .ok (.aload_n 0, 1) := by decide +kernel
theorem dX12_refine_24 : decode cX12_refine 24 = .ok (.getfield 7, 3) := by decide +kernel
theorem dX12_refine_27 : decode cX12_refine 27 = .ok (.if_icmp .ge 33, 3) := by decide +kernel
theorem dX12_refine_30 : decode cX12_refine 30 = .ok (.lload_n 3, 1) := by decide +kernel
theorem dX12_refine_31 : decode cX12_refine 31 = .ok (.ldc2_w 304, 3) := by decide +kernel
theorem dX12_refine_34 : decode cX12_refine 34 = .ok (.lmul, 1) := by decide +kernel
theorem dX12_refine_35 : decode cX12_refine 35 = .ok (.aload_n 0, 1) := by decide +kernel
theorem dX12_refine_36 : decode cX12_refine 36 = .ok (.getfield 129, 3) := by decide +kernel
theorem dX12_refine_39 : decode cX12_refine 39 = .ok (.aload_n 0, 1) := by decide +kernel
theorem dX12_refine_40 : decode cX12_refine 40 = .ok (.getfield 120, 3) := by decide +kernel
theorem dX12_refine_43 : decode cX12_refine 43 = .ok (.iconst 3, 1) := by decide +kernel
theorem dX12_refine_44 : decode cX12_refine 44 = .ok (.iload_n 2, 1) := by decide +kernel
theorem dX12_refine_45 : decode cX12_refine 45 = .ok (.imul, 1) := by decide +kernel
theorem dX12_refine_46 : decode cX12_refine 46 = .ok (.iload 5, 2) := by decide +kernel
theorem dX12_refine_48 : decode cX12_refine 48 = .ok (.iadd, 1) := by decide +kernel
theorem dX12_refine_49 : decode cX12_refine 49 = .ok (.iaload, 1) := by decide +kernel
theorem dX12_refine_50 : decode cX12_refine 50 = .ok (.iaload, 1) := by decide +kernel
theorem dX12_refine_51 : decode cX12_refine 51 = .ok (.i2l, 1) := by decide +kernel
theorem dX12_refine_52 : decode cX12_refine 52 = .ok (.ladd, 1) := by decide +kernel
theorem dX12_refine_53 : decode cX12_refine 53 = .ok (.lstore_n 3, 1) := by decide +kernel
theorem dX12_refine_54 : decode cX12_refine 54 = .ok (.iinc 5 1, 3) := by decide +kernel
theorem dX12_refine_57 : decode cX12_refine 57 = .ok (.goto (-36), 3) := by decide +kernel
theorem dX12_refine_60 : decode cX12_refine 60 = .ok (.aload_n 0, 1) := by decide +kernel
theorem dX12_refine_61 : decode cX12_refine 61 = .ok (.lload_n 3, 1) := by decide +kernel
theorem dX12_refine_62 : decode cX12_refine 62 = .ok (.aload_n 0, 1) := by decide +kernel
theorem dX12_refine_63 : decode cX12_refine 63 = .ok (.getfield 129, 3) := by decide +kernel
theorem dX12_refine_66 : decode cX12_refine 66 = .ok (.iload_n 2, 1) := by decide +kernel
theorem dX12_refine_67 : decode cX12_refine 67 = .ok (.iaload, 1) := by decide +kernel
theorem dX12_refine_68 : decode cX12_refine 68 = .ok (.i2l, 1) := by decide +kernel
theorem dX12_refine_69 : decode cX12_refine 69 = .ok (.invokevirtual 276, 3) := by decide +kernel
theorem dX12_refine_72 : decode cX12_refine 72 = .ok (.istore 5, 2) := by decide +kernel
theorem dX12_refine_74 : decode cX12_refine 74 = .ok (.aload_n 0, 1) := by decide +kernel
theorem dX12_refine_75 : decode cX12_refine 75 = .ok (.getfield 117, 3) := by decide +kernel
theorem dX12_refine_78 : decode cX12_refine 78 = .ok (.iload 5, 2) := by decide +kernel
theorem dX12_refine_80 : decode cX12_refine 80 = .ok (.iaload, 1) := by decide +kernel
theorem dX12_refine_81 : decode cX12_refine 81 = .ok (.ifCond .ge 28, 3) := by decide +kernel
theorem dX12_refine_84 : decode cX12_refine 84 = .ok (.aload_n 0, 1) := by decide +kernel
theorem dX12_refine_85 : decode cX12_refine 85 = .ok (.iload 5, 2) := by decide +kernel
theorem dX12_refine_87 : decode cX12_refine 87 = .ok (.lload_n 3, 1) := by decide +kernel
theorem dX12_refine_88 : decode cX12_refine 88 = .ok (.aload_n 0, 1) := by decide +kernel
theorem dX12_refine_89 : decode cX12_refine 89 = .ok (.getfield 129, 3) := by decide +kernel
theorem dX12_refine_92 : decode cX12_refine 92 = .ok (.iload_n 2, 1) := by decide +kernel
theorem dX12_refine_93 : decode cX12_refine 93 = .ok (.iaload, 1) := by decide +kernel
theorem dX12_refine_94 : decode cX12_refine 94 = .ok (.i2l, 1) := by decide +kernel
theorem dX12_refine_95 : decode cX12_refine 95 = .ok (.iload_n 1, 1) := by decide +kernel
theorem dX12_refine_96 : decode cX12_refine 96 = .ok (.invokevirtual 269, 3) := by decide +kernel
theorem dX12_refine_99 : decode cX12_refine 99 = .ok (.aload_n 0, 1) := by decide +kernel
theorem dX12_refine_100 : decode cX12_refine 100 = .ok (.getfield 135, 3) := by decide +kernel
theorem dX12_refine_103 : decode cX12_refine 103 = .ok (.iload_n 1, 1) := by decide +kernel
theorem dX12_refine_104 : decode cX12_refine 104 = .ok (.iload_n 2, 1) := by decide +kernel
theorem dX12_refine_105 : decode cX12_refine 105 = .ok (.iastore, 1) := by decide +kernel
theorem dX12_refine_106 : decode cX12_refine 106 = .ok (.iinc 1 1, 3) := by decide +kernel
theorem dX12_refine_109 : decode cX12_refine 109 = .ok (.aload_n 0, 1) := by decide +kernel
theorem dX12_refine_110 : decode cX12_refine 110 = .ok (.getfield 132, 3) := by decide +kernel
theorem dX12_refine_113 : decode cX12_refine 113 = .ok (.iload_n 2, 1) := by decide +kernel
theorem dX12_refine_114 : decode cX12_refine 114 = .ok (.aload_n 0, 1) := by decide +kernel
theorem dX12_refine_115 : decode cX12_refine 115 = .ok (.getfield 117, 3) := by decide +kernel
theorem dX12_refine_118 : decode cX12_refine 118 = .ok (.iload 5, 2) := by decide +kernel
theorem dX12_refine_120 : decode cX12_refine 120 = .ok (.iaload, 1) := by decide +kernel
theorem dX12_refine_121 : decode cX12_refine 121 = .ok (.iastore, 1) := by decide +kernel
theorem dX12_refine_122 : decode cX12_refine 122 = .ok (.iinc 2 1, 3) := by decide +kernel
theorem dX12_refine_125 : decode cX12_refine 125 = .ok (.goto (-117), 3) := by decide +kernel
theorem dX12_refine_128 : decode cX12_refine 128 = .ok (.iconst 0, 1) := by decide +kernel
theorem dX12_refine_129 : decode cX12_refine 129 = .ok (.istore_n 2, 1) := by decide +kernel
theorem dX12_refine_130 : decode cX12_refine 130 = .ok (.iload_n 2, 1) := by decide +kernel
theorem dX12_refine_131 : decode cX12_refine 131 = .ok (.aload_n 0, 1) := by decide +kernel
theorem dX12_refine_132 : decode cX12_refine 132 = .ok (.getfield 266, 3) := by decide +kernel
theorem dX12_refine_135 : decode cX12_refine 135 = .ok (.if_icmp .ge 21, 3) := by decide +kernel
theorem dX12_refine_138 : decode cX12_refine 138 = .ok (.aload_n 0, 1) := by decide +kernel
theorem dX12_refine_139 : decode cX12_refine 139 = .ok (.getfield 129, 3) := by decide +kernel
theorem dX12_refine_142 : decode cX12_refine 142 = .ok (.iload_n 2, 1) := by decide +kernel
theorem dX12_refine_143 : decode cX12_refine 143 = .ok (.aload_n 0, 1) := by decide +kernel
theorem dX12_refine_144 : decode cX12_refine 144 = .ok (.getfield 132, 3) := by decide +kernel
theorem dX12_refine_147 : decode cX12_refine 147 = .ok (.iload_n 2, 1) := by decide +kernel
theorem dX12_refine_148 : decode cX12_refine 148 = .ok (.iaload, 1) := by decide +kernel
theorem dX12_refine_149 : decode cX12_refine 149 = .ok (.iastore, 1) := by decide +kernel
theorem dX12_refine_150 : decode cX12_refine 150 = .ok (.iinc 2 1, 3) := by decide +kernel
theorem dX12_refine_153 : decode cX12_refine 153 = .ok (.goto (-23), 3) := by decide +kernel
theorem dX12_refine_156 : decode cX12_refine 156 = .ok (.iload_n 1, 1) := by decide +kernel
theorem dX12_refine_157 : decode cX12_refine 157 = .ok (.ireturn, 1) := by decide +kernel
set_option maxRecDepth 20000 in
theorem ggX12_minimize_X12_answerAt : GoodIn wsX12_minimize wsX12_answerAt := goodIn_r _ [8, 9, 10, 11, 12, 13, 14, 15, 16, 17, 7, 18, 19, 20, 21, 22, 23, 24, 25, 53, 54, 55, 56, 57, 58, 59, 60, 61, 62, 63, 64, 65, 66, 67, 68, 69, 70, 71, 72, 73, 74, 75, 76, 77, 78, 79, 80, 81, 82, 83, 84, 85, 86, 87, 88, 89, 90, 91, 92, 93, 94, 95, 96, 97, 98, 99, 100, 101, 102, 103, 104, 105, 106, 107, 108, 109, 110, 111, 112, 113, 114, 115, 116, 117, 118, 119, 120] (by decide +kernel) (by decide +kernel)
set_option maxRecDepth 20000 in
theorem gX12_minimize_X12_answerAt : GoodIn wsX12_minimize (wsV RX12 306 RX12 yX12_answerAt wsX12_answerAt) := goodIn_app (goodIn_of _ (by decide +kernel)) ggX12_minimize_X12_answerAt
set_option maxRecDepth 20000 in
theorem ggX12_minimize_X12_refine : GoodIn wsX12_minimize wsX12_refine := goodIn_r _ [29, 1, 30, 31, 2, 32, 33, 34, 35, 36, 37, 38, 7, 39, 40, 41, 42, 43, 44, 45, 46, 47, 48, 49, 50, 51, 52, 53, 54, 55, 56, 57, 58, 59, 60, 61, 62, 63, 64, 65, 66, 67, 68, 69, 70, 71, 72, 73, 74, 75, 76, 77, 78, 79, 80, 81, 82, 83, 84, 85, 86, 87, 88, 89, 90, 91, 92, 93, 94, 95, 96, 97, 98, 99, 100, 101, 102, 103, 104, 105, 106, 107, 108, 109, 110, 111, 112, 113, 114, 115, 116, 117, 118, 119, 120] (by decide +kernel) (by decide +kernel)
set_option maxRecDepth 20000 in
theorem gX12_minimize_X12_refine : GoodIn wsX12_minimize (wsV RX12 313 RX12 yX12_refine wsX12_refine) := goodIn_app (goodIn_of _ (by decide +kernel)) ggX12_minimize_X12_refine
theorem dX12_minimize_0 : decode cX12_minimize 0 = .ok (.iconst 0, 1) := by decide +kernel
theorem dX12_minimize_1 : decode cX12_minimize 1 = .ok (.istore_n 2, 1) := by decide +kernel
theorem dX12_minimize_2 : decode cX12_minimize 2 = .ok (.iload_n 2, 1) := by decide +kernel
theorem dX12_minimize_3 : decode cX12_minimize 3 = .ok (.aload_n 0, 1) := by decide +kernel
theorem dX12_minimize_4 : decode cX12_minimize 4 = .ok (.getfield 266, 3) := by decide +kernel
theorem dX12_minimize_7 : decode cX12_minimize 7 = .ok (.if_icmp .ge 21, 3) := by decide +kernel
theorem dX12_minimize_10 : decode cX12_minimize 10 = .ok (.aload_n 0, 1) := by decide +kernel
theorem dX12_minimize_11 : decode cX12_minimize 11 = .ok (.getfield 129, 3) := by decide +kernel
theorem dX12_minimize_14 : decode cX12_minimize 14 = .ok (.iload_n 2, 1) := by decide +kernel
theorem dX12_minimize_15 : decode cX12_minimize 15 = .ok (.aload_n 0, 1) := by decide +kernel
theorem dX12_minimize_16 : decode cX12_minimize 16 = .ok (.iload_n 2, 1) := by decide +kernel
theorem dX12_minimize_17 : decode cX12_minimize 17 = .ok (.iload_n 1, 1) := by decide +kernel
theorem dX12_minimize_18 : decode cX12_minimize 18 = .ok (.invokevirtual 306, 3) := by decide +kernel
theorem dX12_minimize_21 : decode cX12_minimize 21 = .ok (.iastore, 1) := by decide +kernel
theorem dX12_minimize_22 : decode cX12_minimize 22 = .ok (.iinc 2 1, 3) := by decide +kernel
theorem dX12_minimize_25 : decode cX12_minimize 25 = .ok (.goto (-23), 3) := by decide +kernel
theorem dX12_minimize_28 : decode cX12_minimize 28 = .ok (.aload_n 0, 1) := by decide +kernel
theorem dX12_minimize_29 : decode cX12_minimize 29 = .ok (.iconst 0, 1) := by decide +kernel
theorem dX12_minimize_30 : decode cX12_minimize 30 = .ok (.putfield 310, 3) := by decide +kernel
theorem dX12_minimize_33 : decode cX12_minimize 33 = .ok (.aload_n 0, 1) := by decide +kernel
theorem dX12_minimize_34 : decode cX12_minimize 34 = .ok (.invokevirtual 313, 3) := by decide +kernel
theorem dX12_minimize_37 : decode cX12_minimize 37 = .ok (.istore_n 2, 1) := by decide +kernel
theorem dX12_minimize_38 : decode cX12_minimize 38 = .ok (.iload_n 2, 1) := by decide +kernel
theorem dX12_minimize_39 : decode cX12_minimize 39 = .ok (.aload_n 0, 1) := by decide +kernel
theorem dX12_minimize_40 : decode cX12_minimize 40 = .ok (.getfield 310, 3) := by decide +kernel
theorem dX12_minimize_43 : decode cX12_minimize 43 = .ok (.if_icmp .le 16, 3) := by decide +kernel
theorem dX12_minimize_46 : decode cX12_minimize 46 = .ok (.aload_n 0, 1) := by decide +kernel
theorem dX12_minimize_47 : decode cX12_minimize 47 = .ok (.iload_n 2, 1) := by decide +kernel
theorem dX12_minimize_48 : decode cX12_minimize 48 = .ok (.putfield 310, 3) := by decide +kernel
theorem dX12_minimize_51 : decode cX12_minimize 51 = .ok (.aload_n 0, 1) := by decide +kernel
theorem dX12_minimize_52 : decode cX12_minimize 52 = .ok (.invokevirtual 313, 3) := by decide +kernel
theorem dX12_minimize_55 : decode cX12_minimize 55 = .ok (.istore_n 2, 1) := by decide +kernel
theorem dX12_minimize_56 : decode cX12_minimize 56 = .ok (.goto (-18), 3) := by decide +kernel
theorem dX12_minimize_59 : decode cX12_minimize 59 = .ok (.return_, 1) := by decide +kernel
set_option maxRecDepth 20000 in
theorem ggX12_buildsTest_X12_addPart : GoodIn wsX12_buildsTest wsX12_addPart := goodIn_r _ [11, 1, 12, 13, 14, 15, 16, 63, 64, 65, 66, 67, 68, 69, 70, 71, 72, 73, 74, 75, 76, 77, 78, 79, 80, 81, 82, 83, 84, 85, 86, 87, 88, 89, 90, 91, 92, 93, 94, 95, 96, 97, 98, 99, 100, 101, 102, 103, 104, 105, 106, 107, 108, 109, 110, 111, 112, 113, 114, 115, 116, 117, 118, 119, 120, 121, 122, 123, 124, 125, 126, 127, 128, 129, 130] (by decide +kernel) (by decide +kernel)
set_option maxRecDepth 20000 in
theorem gX12_buildsTest_X12_addPart : GoodIn wsX12_buildsTest (wsV RX12 247 RX12 yX12_addPart wsX12_addPart) := goodIn_app (goodIn_of _ (by decide +kernel)) ggX12_buildsTest_X12_addPart
set_option maxRecDepth 20000 in
theorem ggX12_buildsTest_X12_builds : GoodIn wsX12_buildsTest wsX12_builds := goodIn_r _ [20, 21, 22, 23, 24, 25, 26, 27, 28, 29, 10, 30, 31, 32, 33, 34, 35, 36, 37, 38, 39, 40, 41, 42, 43, 44, 45, 46, 47, 48, 49, 50, 51, 52, 53, 1, 54, 55, 56, 57, 58, 59, 60, 61, 62, 12, 13, 14, 16, 63, 64, 65, 66, 67, 68, 69, 70, 71, 72, 73, 74, 75, 76, 77, 78, 79, 80, 81, 82, 83, 84, 85, 86, 87, 88, 89, 90, 91, 92, 93, 94, 95, 96, 97, 98, 99, 100, 101, 102, 103, 104, 105, 106, 107, 108, 109, 110, 111, 112, 113, 114, 115, 116, 117, 118, 119, 120, 121, 122, 123, 124, 125, 126, 127, 128, 129, 130] (by decide +kernel) (by decide +kernel)
set_option maxRecDepth 20000 in
theorem gX12_buildsTest_X12_builds : GoodIn wsX12_buildsTest (wsV RX12 317 RX12 yX12_builds wsX12_builds) := goodIn_app (goodIn_of _ (by decide +kernel)) ggX12_buildsTest_X12_builds
theorem dX12_buildsTest_0 : decode cX12_buildsTest 0 = .ok (.aload_n 0, 1) := by decide +kernel
theorem dX12_buildsTest_1 : decode cX12_buildsTest 1 = .ok (.iconst 0, 1) := by decide +kernel
theorem dX12_buildsTest_2 : decode cX12_buildsTest 2 = .ok (.putfield 244, 3) := by decide +kernel
theorem dX12_buildsTest_5 : decode cX12_buildsTest 5 = .ok (.aload_n 0, 1) := by decide +kernel
theorem dX12_buildsTest_6 : decode cX12_buildsTest 6 = .ok (.iconst 0, 1) := by decide +kernel
theorem dX12_buildsTest_7 : decode cX12_buildsTest 7 = .ok (.putfield 297, 3) := by decide +kernel
theorem dX12_buildsTest_10 : decode cX12_buildsTest 10 = .ok (.aload_n 0, 1) := by decide +kernel
theorem dX12_buildsTest_11 : decode cX12_buildsTest 11 = .ok (.aload_n 0, 1) := by decide +kernel
theorem dX12_buildsTest_12 : decode cX12_buildsTest 12 = .ok (.getfield 26, 3) := by decide +kernel
theorem dX12_buildsTest_15 : decode cX12_buildsTest 15 = .ok (.iload_n 1, 1) := by decide +kernel
theorem dX12_buildsTest_16 : decode cX12_buildsTest 16 = .ok (.iaload, 1) := by decide +kernel
theorem dX12_buildsTest_17 : decode cX12_buildsTest 17 = .ok (.aload_n 0, 1) := by decide +kernel
theorem dX12_buildsTest_18 : decode cX12_buildsTest 18 = .ok (.getfield 29, 3) := by decide +kernel
theorem dX12_buildsTest_21 : decode cX12_buildsTest 21 = .ok (.iload_n 1, 1) := by decide +kernel
theorem dX12_buildsTest_22 : decode cX12_buildsTest 22 = .ok (.iaload, 1) := by decide +kernel
theorem dX12_buildsTest_23 : decode cX12_buildsTest 23 = .ok (.aload_n 0, 1) := by decide +kernel
theorem dX12_buildsTest_24 : decode cX12_buildsTest 24 = .ok (.getfield 32, 3) := by decide +kernel
theorem dX12_buildsTest_27 : decode cX12_buildsTest 27 = .ok (.iload_n 1, 1) := by decide +kernel
theorem dX12_buildsTest_28 : decode cX12_buildsTest 28 = .ok (.iaload, 1) := by decide +kernel
theorem dX12_buildsTest_29 : decode cX12_buildsTest 29 = .ok (.iconst 0, 1) := by decide +kernel
theorem dX12_buildsTest_30 : decode cX12_buildsTest 30 = .ok (.aload_n 0, 1) := by decide +kernel
theorem dX12_buildsTest_31 : decode cX12_buildsTest 31 = .ok (.getfield 35, 3) := by decide +kernel
theorem dX12_buildsTest_34 : decode cX12_buildsTest 34 = .ok (.iconst 4, 1) := by decide +kernel
theorem dX12_buildsTest_35 : decode cX12_buildsTest 35 = .ok (.iload_n 1, 1) := by decide +kernel
theorem dX12_buildsTest_36 : decode cX12_buildsTest 36 = .ok (.imul, 1) := by decide +kernel
theorem dX12_buildsTest_37 : decode cX12_buildsTest 37 = .ok (.invokevirtual 247, 3) := by decide +kernel
theorem dX12_buildsTest_40 : decode cX12_buildsTest 40 = .ok (.aload_n 0, 1) := by decide +kernel
theorem dX12_buildsTest_41 : decode cX12_buildsTest 41 = .ok (.invokevirtual 317, 3) := by decide +kernel
theorem dX12_buildsTest_44 : decode cX12_buildsTest 44 = .ok (.ireturn, 1) := by decide +kernel
set_option maxRecDepth 20000 in
theorem ggX12_buildsLanguage_X12_addLanguage : GoodIn wsX12_buildsLanguage wsX12_addLanguage := goodIn_r _ [10, 11, 12, 13, 14, 15, 16, 17, 18, 19, 9, 20, 1, 21, 22, 23, 24, 25, 72, 73, 74, 75, 76, 77, 78, 79, 80, 81, 82, 83, 84, 85, 86, 87, 88, 89, 90, 91, 92, 93, 94, 95, 96, 97, 98, 99, 100, 101, 102, 103, 104, 105, 106, 107, 108, 109, 110, 111, 112, 113, 114, 115, 116, 117, 118, 119, 120, 121, 122, 123, 124, 125, 126, 127, 128, 129, 130, 131, 132, 133, 134, 135, 136, 137, 138, 139] (by decide +kernel) (by decide +kernel)
set_option maxRecDepth 20000 in
theorem gX12_buildsLanguage_X12_addLanguage : GoodIn wsX12_buildsLanguage (wsV RX12 320 RX12 yX12_addLanguage wsX12_addLanguage) := goodIn_app (goodIn_of _ (by decide +kernel)) ggX12_buildsLanguage_X12_addLanguage
set_option maxRecDepth 20000 in
theorem ggX12_buildsLanguage_X12_builds : GoodIn wsX12_buildsLanguage wsX12_builds := goodIn_r _ [29, 30, 31, 32, 33, 34, 35, 36, 37, 38, 9, 39, 40, 41, 42, 43, 44, 45, 46, 47, 48, 49, 50, 51, 52, 53, 54, 55, 56, 57, 58, 59, 60, 61, 62, 1, 63, 64, 65, 66, 67, 68, 69, 70, 71, 21, 22, 23, 25, 72, 73, 74, 75, 76, 77, 78, 79, 80, 81, 82, 83, 84, 85, 86, 87, 88, 89, 90, 91, 92, 93, 94, 95, 96, 97, 98, 99, 100, 101, 102, 103, 104, 105, 106, 107, 108, 109, 110, 111, 112, 113, 114, 115, 116, 117, 118, 119, 120, 121, 122, 123, 124, 125, 126, 127, 128, 129, 130, 131, 132, 133, 134, 135, 136, 137, 138, 139] (by decide +kernel) (by decide +kernel)
set_option maxRecDepth 20000 in
theorem gX12_buildsLanguage_X12_builds : GoodIn wsX12_buildsLanguage (wsV RX12 317 RX12 yX12_builds wsX12_builds) := goodIn_app (goodIn_of _ (by decide +kernel)) ggX12_buildsLanguage_X12_builds
theorem dX12_buildsLanguage_0 : decode cX12_buildsLanguage 0 = .ok (.aload_n 0, 1) := by decide +kernel
theorem dX12_buildsLanguage_1 : decode cX12_buildsLanguage 1 = .ok (.iconst 0, 1) := by decide +kernel
theorem dX12_buildsLanguage_2 : decode cX12_buildsLanguage 2 = .ok (.putfield 244, 3) := by decide +kernel
theorem dX12_buildsLanguage_5 : decode cX12_buildsLanguage 5 = .ok (.aload_n 0, 1) := by decide +kernel
theorem dX12_buildsLanguage_6 : decode cX12_buildsLanguage 6 = .ok (.iconst 0, 1) := by decide +kernel
theorem dX12_buildsLanguage_7 : decode cX12_buildsLanguage 7 = .ok (.putfield 297, 3) := by decide +kernel
theorem dX12_buildsLanguage_10 : decode cX12_buildsLanguage 10 = .ok (.aload_n 0, 1) := by decide +kernel
theorem dX12_buildsLanguage_11 : decode cX12_buildsLanguage 11 = .ok (.iload_n 1, 1) := by decide +kernel
theorem dX12_buildsLanguage_12 : decode cX12_buildsLanguage 12 = .ok (.invokevirtual 320, 3) := by decide +kernel
theorem dX12_buildsLanguage_15 : decode cX12_buildsLanguage 15 = .ok (.aload_n 0, 1) := by decide +kernel
theorem dX12_buildsLanguage_16 : decode cX12_buildsLanguage 16 = .ok (.aload_n 0, 1) := by decide +kernel
theorem dX12_buildsLanguage_17 : decode cX12_buildsLanguage 17 = .ok (.getfield 244, 3) := by decide +kernel
theorem dX12_buildsLanguage_20 : decode cX12_buildsLanguage 20 = .ok (.putfield 294, 3) := by decide +kernel
theorem dX12_buildsLanguage_23 : decode cX12_buildsLanguage 23 = .ok (.aload_n 0, 1) := by decide +kernel
theorem dX12_buildsLanguage_24 : decode cX12_buildsLanguage 24 = .ok (.aload_n 0, 1) := by decide +kernel
theorem dX12_buildsLanguage_25 : decode cX12_buildsLanguage 25 = .ok (.getfield 53, 3) := by decide +kernel
theorem dX12_buildsLanguage_28 : decode cX12_buildsLanguage 28 = .ok (.iload_n 1, 1) := by decide +kernel
theorem dX12_buildsLanguage_29 : decode cX12_buildsLanguage 29 = .ok (.iaload, 1) := by decide +kernel
theorem dX12_buildsLanguage_30 : decode cX12_buildsLanguage 30 = .ok (.putfield 291, 3) := by decide +kernel
theorem dX12_buildsLanguage_33 : decode cX12_buildsLanguage 33 = .ok (.aload_n 0, 1) := by decide +kernel
theorem dX12_buildsLanguage_34 : decode cX12_buildsLanguage 34 = .ok (.invokevirtual 317, 3) := by decide +kernel
theorem dX12_buildsLanguage_37 : decode cX12_buildsLanguage 37 = .ok (.ireturn, 1) := by decide +kernel
set_option maxRecDepth 20000 in
theorem ggX12_states_X12_isTest : GoodIn wsX12_states wsX12_isTest := goodIn_r _ [6, 7, 8, 9, 5, 10, 75, 76, 77, 78, 79, 80, 81, 82, 83, 84, 85, 86, 87, 88, 89, 90, 91, 92, 93, 94, 95, 96, 97, 98, 99, 100, 101, 102, 103, 104, 105, 106, 107, 108, 109, 110, 111, 112, 113, 114, 115, 116, 117, 118, 119, 120, 121, 122, 123, 124, 125, 126, 127, 128, 129, 130, 131, 132, 133, 134, 135, 136, 137, 138, 139, 140, 141, 142] (by decide +kernel) (by decide +kernel)
set_option maxRecDepth 20000 in
theorem gX12_states_X12_isTest : GoodIn wsX12_states (wsV RX12 198 RX12 yX12_isTest wsX12_isTest) := goodIn_app (goodIn_of _ (by decide +kernel)) ggX12_states_X12_isTest
set_option maxRecDepth 20000 in
theorem ggX12_states_X12_buildsTest : GoodIn wsX12_states wsX12_buildsTest := goodIn_r _ [14, 15, 16, 17, 18, 19, 20, 21, 22, 23, 5, 24, 25, 26, 27, 28, 29, 30, 31, 32, 33, 1, 34, 35, 36, 37, 38, 39, 40, 41, 42, 43, 44, 45, 46, 47, 48, 49, 50, 51, 52, 53, 54, 55, 56, 57, 58, 59, 60, 61, 62, 63, 64, 65, 66, 67, 68, 69, 70, 71, 72, 73, 74, 75, 76, 77, 78, 79, 80, 81, 82, 83, 84, 85, 86, 87, 88, 89, 90, 91, 92, 93, 94, 95, 96, 97, 98, 99, 100, 101, 102, 103, 104, 105, 106, 107, 108, 109, 110, 111, 112, 113, 114, 115, 116, 117, 118, 119, 120, 121, 122, 123, 124, 125, 126, 127, 128, 129, 130, 131, 132, 133, 134, 135, 136, 137, 138, 139, 140, 141, 142] (by decide +kernel) (by decide +kernel)
set_option maxRecDepth 20000 in
theorem gX12_states_X12_buildsTest : GoodIn wsX12_states (wsV RX12 323 RX12 yX12_buildsTest wsX12_buildsTest) := goodIn_app (goodIn_of _ (by decide +kernel)) ggX12_states_X12_buildsTest
theorem dX12_states_0 : decode cX12_states 0 = .ok (.aload_n 0, 1) := by decide +kernel
theorem dX12_states_1 : decode cX12_states 1 = .ok (.iload_n 1, 1) := by decide +kernel
theorem dX12_states_2 : decode cX12_states 2 = .ok (.invokevirtual 198, 3) := by decide +kernel
theorem dX12_states_5 : decode cX12_states 5 = .ok (.ifCond .ne 7, 3) := by decide +kernel
theorem dX12_states_8 : decode cX12_states 8 = .ok (.iconst (-1), 1) := by decide +kernel
theorem dX12_states_9 : decode cX12_states 9 = .ok (.goto 20, 3) := by decide +kernel
theorem dX12_states_12 : decode cX12_states 12 = .ok (.aload_n 0, 1) := by decide +kernel
theorem dX12_states_13 : decode cX12_states 13 = .ok (.iload_n 1, 1) := by decide +kernel
theorem dX12_states_14 : decode cX12_states 14 = .ok (.invokevirtual 323, 3) := by decide +kernel
theorem dX12_states_17 : decode cX12_states 17 = .ok (.ifCond .eq 10, 3) := by decide +kernel
theorem dX12_states_20 : decode cX12_states 20 = .ok (.aload_n 0, 1) := by decide +kernel
theorem dX12_states_21 : decode cX12_states 21 = .ok (.getfield 266, 3) := by decide +kernel
theorem dX12_states_24 : decode cX12_states 24 = .ok (.goto 5, 3) := by decide +kernel
theorem dX12_states_27 : decode cX12_states 27 = .ok (.bipush (-4), 2) := by decide +kernel
theorem dX12_states_29 : decode cX12_states 29 = .ok (.ireturn, 1) := by decide +kernel
set_option maxRecDepth 20000 in
theorem ggX12_minimalStates_X12_isTest : GoodIn wsX12_minimalStates wsX12_isTest := goodIn_r _ [6, 7, 8, 9, 5, 10, 99, 100, 101, 102, 103, 104, 105, 106, 107, 108, 109, 110, 111, 112, 113, 114, 115, 116, 117, 118, 119, 120, 121, 122, 123, 124, 125, 126, 127, 128, 129, 130, 131, 132, 133, 134, 135, 136, 137, 138, 139, 140, 141, 142, 143, 144, 145, 146, 147, 148, 149, 150, 151, 152, 153, 154, 155, 156, 157, 158, 159, 160, 161, 162, 163, 164, 165, 166] (by decide +kernel) (by decide +kernel)
set_option maxRecDepth 20000 in
theorem gX12_minimalStates_X12_isTest : GoodIn wsX12_minimalStates (wsV RX12 198 RX12 yX12_isTest wsX12_isTest) := goodIn_app (goodIn_of _ (by decide +kernel)) ggX12_minimalStates_X12_isTest
set_option maxRecDepth 20000 in
theorem ggX12_minimalStates_X12_buildsTest : GoodIn wsX12_minimalStates wsX12_buildsTest := goodIn_r _ [14, 15, 16, 17, 18, 19, 20, 21, 22, 23, 5, 24, 25, 26, 27, 28, 29, 30, 31, 32, 33, 34, 35, 36, 37, 38, 39, 40, 41, 42, 43, 44, 45, 46, 47, 48, 49, 50, 51, 52, 53, 54, 55, 56, 57, 58, 59, 60, 61, 62, 63, 64, 65, 66, 67, 68, 69, 70, 71, 72, 73, 74, 75, 99, 100, 101, 102, 103, 104, 105, 106, 107, 108, 109, 110, 111, 112, 113, 114, 115, 116, 117, 118, 119, 120, 121, 122, 123, 124, 125, 126, 127, 128, 129, 130, 131, 132, 133, 134, 135, 136, 137, 138, 139, 140, 141, 142, 143, 144, 145, 146, 147, 148, 149, 150, 151, 152, 153, 154, 155, 156, 157, 158, 159, 160, 161, 162, 163, 164, 165, 166] (by decide +kernel) (by decide +kernel)
set_option maxRecDepth 20000 in
theorem gX12_minimalStates_X12_buildsTest : GoodIn wsX12_minimalStates (wsV RX12 323 RX12 yX12_buildsTest wsX12_buildsTest) := goodIn_app (goodIn_of _ (by decide +kernel)) ggX12_minimalStates_X12_buildsTest
set_option maxRecDepth 20000 in
theorem ggX12_minimalStates_X12_minimize : GoodIn wsX12_minimalStates wsX12_minimize := goodIn_r _ [79, 34, 80, 1, 81, 82, 83, 5, 84, 15, 28, 85, 86, 16, 87, 88, 89, 90, 91, 36, 37, 27, 68, 69, 70, 67, 92, 93, 94, 95, 35, 96, 39, 38, 97, 98, 40, 41, 42, 43, 44, 45, 46, 47, 48, 49, 50, 51, 52, 59, 60, 61, 62, 99, 100, 101, 102, 103, 104, 105, 106, 107, 108, 109, 110, 111, 112, 113, 114, 115, 116, 117, 118, 119, 120, 121, 122, 123, 124, 125, 126, 127, 128, 129, 130, 131, 132, 133, 134, 135, 136, 137, 138, 139, 140, 141, 142, 143, 144, 145, 146, 147, 148, 149, 150, 151, 152, 153, 154, 155, 156, 157, 158, 159, 160, 161, 162, 163, 164, 165, 166] (by decide +kernel) (by decide +kernel)
set_option maxRecDepth 20000 in
theorem gX12_minimalStates_X12_minimize : GoodIn wsX12_minimalStates (wsV RX12 326 RX12 yX12_minimize wsX12_minimize) := goodIn_app (goodIn_of _ (by decide +kernel)) ggX12_minimalStates_X12_minimize
theorem dX12_minimalStates_0 : decode cX12_minimalStates 0 = .ok (.aload_n 0, 1) := by decide +kernel
theorem dX12_minimalStates_1 : decode cX12_minimalStates 1 = .ok (.iload_n 1, 1) := by decide +kernel
theorem dX12_minimalStates_2 : decode cX12_minimalStates 2 = .ok (.invokevirtual 198, 3) := by decide +kernel
theorem dX12_minimalStates_5 : decode cX12_minimalStates 5 = .ok (.ifCond .ne 5, 3) := by decide +kernel
theorem dX12_minimalStates_8 : decode cX12_minimalStates 8 = .ok (.iconst (-1), 1) := by decide +kernel
theorem dX12_minimalStates_9 : decode cX12_minimalStates 9 = .ok (.ireturn, 1) := by decide +kernel
theorem dX12_minimalStates_10 : decode cX12_minimalStates 10 = .ok (.aload_n 0, 1) := by decide +kernel
theorem dX12_minimalStates_11 : decode cX12_minimalStates 11 = .ok (.iload_n 1, 1) := by decide +kernel
theorem dX12_minimalStates_12 : decode cX12_minimalStates 12 = .ok (.invokevirtual 323, 3) := by decide +kernel
theorem dX12_minimalStates_15 : decode cX12_minimalStates 15 = .ok (.ifCond .ne 6, 3) := by decide +kernel
theorem dX12_minimalStates_18 : decode cX12_minimalStates 18 = .ok (.bipush (-4), 2) := by decide +kernel
theorem dX12_minimalStates_20 : decode cX12_minimalStates 20 = .ok (.ireturn, 1) := by decide +kernel
theorem dX12_minimalStates_21 : decode cX12_minimalStates 21 = .ok (.aload_n 0, 1) := by decide +kernel
theorem dX12_minimalStates_22 : decode cX12_minimalStates 22 = .ok (.iconst 1, 1) := by decide +kernel
theorem dX12_minimalStates_23 : decode cX12_minimalStates 23 = .ok (.invokevirtual 326, 3) := by decide +kernel
theorem dX12_minimalStates_26 : decode cX12_minimalStates 26 = .ok (.aload_n 0, 1) := by decide +kernel
theorem dX12_minimalStates_27 : decode cX12_minimalStates 27 = .ok (.getfield 310, 3) := by decide +kernel
theorem dX12_minimalStates_30 : decode cX12_minimalStates 30 = .ok (.ireturn, 1) := by decide +kernel
theorem dX12_classBehind_0 : decode cX12_classBehind 0 = .ok (.aload_n 0, 1) := by decide +kernel
theorem dX12_classBehind_1 : decode cX12_classBehind 1 = .ok (.getfield 129, 3) := by decide +kernel
theorem dX12_classBehind_4 : decode cX12_classBehind 4 = .ok (.aload_n 0, 1) := by decide +kernel
theorem dX12_classBehind_5 : decode cX12_classBehind 5 = .ok (.getfield 120, 3) := by decide +kernel
theorem dX12_classBehind_8 : decode cX12_classBehind 8 = .ok (.iconst 3, 1) := by decide +kernel
theorem dX12_classBehind_9 : decode cX12_classBehind 9 = .ok (.aload_n 0, 1) := by decide +kernel
theorem dX12_classBehind_10 : decode cX12_classBehind 10 = .ok (.getfield 135, 3) := by decide +kernel
theorem dX12_classBehind_13 : decode cX12_classBehind 13 = .ok (.iload_n 1, 1) := by decide +kernel
theorem dX12_classBehind_14 : decode cX12_classBehind 14 = .ok (.iaload, 1) := by decide +kernel
theorem dX12_classBehind_15 : decode cX12_classBehind 15 = .ok (.imul, 1) := by decide +kernel
theorem dX12_classBehind_16 : decode cX12_classBehind 16 = .ok (.iload_n 2, 1) := by decide +kernel
theorem dX12_classBehind_17 : decode cX12_classBehind 17 = .ok (.iadd, 1) := by decide +kernel
theorem dX12_classBehind_18 : decode cX12_classBehind 18 = .ok (.iaload, 1) := by decide +kernel
theorem dX12_classBehind_19 : decode cX12_classBehind 19 = .ok (.iaload, 1) := by decide +kernel
theorem dX12_classBehind_20 : decode cX12_classBehind 20 = .ok (.ireturn, 1) := by decide +kernel
theorem dX12_isNewProduct_0 : decode cX12_isNewProduct 0 = .ok (.iconst 0, 1) := by decide +kernel
theorem dX12_isNewProduct_1 : decode cX12_isNewProduct 1 = .ok (.istore_n 1, 1) := by decide +kernel
theorem dX12_isNewProduct_2 : decode cX12_isNewProduct 2 = .ok (.iload_n 1, 1) := by decide +kernel
theorem dX12_isNewProduct_3 : decode cX12_isNewProduct 3 = .ok (.aload_n 0, 1) := by decide +kernel
theorem dX12_isNewProduct_4 : decode cX12_isNewProduct 4 = .ok (.getfield 330, 3) := by decide +kernel
theorem dX12_isNewProduct_7 : decode cX12_isNewProduct 7 = .ok (.if_icmp .ge 56, 3) := by decide +kernel
theorem dX12_isNewProduct_10 : decode cX12_isNewProduct 10 = .ok (.iconst 0, 1) := by decide +kernel
theorem dX12_isNewProduct_11 : decode cX12_isNewProduct 11 = .ok (.istore_n 2, 1) := by decide +kernel
theorem dX12_isNewProduct_12 : decode cX12_isNewProduct 12 = .ok (.iload_n 2, 1) := by decide +kernel
theorem dX12_isNewProduct_13 : decode cX12_isNewProduct 13 = .ok (.aload_n 0, 1) := by decide +kernel
theorem dX12_isNewProduct_14 : decode cX12_isNewProduct 14 = .ok (.getfield 310, 3) := by decide +kernel
theorem dX12_isNewProduct_17 : decode cX12_isNewProduct 17 = .ok (.if_icmp .ge 30, 3) := by decide +kernel
theorem dX12_isNewProduct_20 : decode cX12_isNewProduct 20 = .ok (.aload_n 0, 1) := by decide +kernel
theorem dX12_isNewProduct_21 : decode cX12_isNewProduct 21 = .ok (.getfield 139, 3) := by decide +kernel
theorem dX12_isNewProduct_24 : decode cX12_isNewProduct 24 = .ok (.sipush 400, 3) := by decide +kernel
theorem dX12_isNewProduct_27 : decode cX12_isNewProduct 27 = .ok (.iload_n 1, 1) := by decide +kernel
theorem dX12_isNewProduct_28 : decode cX12_isNewProduct 28 = .ok (.imul, 1) := by decide +kernel
theorem dX12_isNewProduct_29 : decode cX12_isNewProduct 29 = .ok (.iload_n 2, 1) := by decide +kernel
theorem dX12_isNewProduct_30 : decode cX12_isNewProduct 30 = .ok (.iadd, 1) := by decide +kernel
theorem dX12_isNewProduct_31 : decode cX12_isNewProduct 31 = .ok (.iaload, 1) := by decide +kernel
theorem dX12_isNewProduct_32 : decode cX12_isNewProduct 32 = .ok (.aload_n 0, 1) := by decide +kernel
theorem dX12_isNewProduct_33 : decode cX12_isNewProduct 33 = .ok (.getfield 142, 3) := by decide +kernel
theorem dX12_isNewProduct_36 : decode cX12_isNewProduct 36 = .ok (.iload_n 2, 1) := by decide +kernel
theorem dX12_isNewProduct_37 : decode cX12_isNewProduct 37 = .ok (.iaload, 1) := by decide +kernel
theorem dX12_isNewProduct_38 : decode cX12_isNewProduct 38 = .ok (.if_icmp .ne 9, 3) := by decide +kernel
theorem dX12_isNewProduct_41 : decode cX12_isNewProduct 41 = .ok (.iinc 2 1, 3) := by decide +kernel
theorem dX12_isNewProduct_44 : decode cX12_isNewProduct 44 = .ok (.goto (-32), 3) := by decide +kernel
theorem dX12_isNewProduct_47 : decode cX12_isNewProduct 47 = .ok (.iload_n 2, 1) := by decide +kernel
theorem dX12_isNewProduct_48 : decode cX12_isNewProduct 48 = .ok (.aload_n 0, 1) := by decide +kernel
theorem dX12_isNewProduct_49 : decode cX12_isNewProduct 49 = .ok (.getfield 310, 3) := by decide +kernel
theorem dX12_isNewProduct_52 : decode cX12_isNewProduct 52 = .ok (.if_icmp .ne 5, 3) := by decide +kernel
theorem dX12_isNewProduct_55 : decode cX12_isNewProduct 55 = .ok (.iconst 0, 1) := by decide +kernel
theorem dX12_isNewProduct_56 : decode cX12_isNewProduct 56 = .ok (.ireturn, 1) := by decide +kernel
theorem dX12_isNewProduct_57 : decode cX12_isNewProduct 57 = .ok (.iinc 1 1, 3) := by decide +kernel
theorem dX12_isNewProduct_60 : decode cX12_isNewProduct 60 = .ok (.goto (-58), 3) := by decide +kernel
theorem dX12_isNewProduct_63 : decode cX12_isNewProduct 63 = .ok (.iconst 1, 1) := by decide +kernel
theorem dX12_isNewProduct_64 : decode cX12_isNewProduct 64 = .ok (.ireturn, 1) := by decide +kernel
theorem dX12_addProduct_0 : decode cX12_addProduct 0 = .ok (.iconst 0, 1) := by decide +kernel
theorem dX12_addProduct_1 : decode cX12_addProduct 1 = .ok (.istore_n 1, 1) := by decide +kernel
theorem dX12_addProduct_2 : decode cX12_addProduct 2 = .ok (.iload_n 1, 1) := by decide +kernel
theorem dX12_addProduct_3 : decode cX12_addProduct 3 = .ok (.aload_n 0, 1) := by decide +kernel
theorem dX12_addProduct_4 : decode cX12_addProduct 4 = .ok (.getfield 310, 3) := by decide +kernel
theorem dX12_addProduct_7 : decode cX12_addProduct 7 = .ok (.if_icmp .ge 30, 3) := by decide +kernel
theorem dX12_addProduct_10 : decode cX12_addProduct 10 = .ok (.aload_n 0, 1) := by decide +kernel
theorem dX12_addProduct_11 : decode cX12_addProduct 11 = .ok (.getfield 139, 3) := by decide +kernel
theorem dX12_addProduct_14 : decode cX12_addProduct 14 = .ok (.sipush 400, 3) := by decide +kernel
theorem dX12_addProduct_17 : decode cX12_addProduct 17 = .ok (.aload_n 0, 1) := by decide +kernel
theorem dX12_addProduct_18 : decode cX12_addProduct 18 = .ok (.getfield 330, 3) := by decide +kernel
theorem dX12_addProduct_21 : decode cX12_addProduct 21 = .ok (.imul, 1) := by decide +kernel
theorem dX12_addProduct_22 : decode cX12_addProduct 22 = .ok (.iload_n 1, 1) := by decide +kernel
theorem dX12_addProduct_23 : decode cX12_addProduct 23 = .ok (.iadd, 1) := by decide +kernel
theorem dX12_addProduct_24 : decode cX12_addProduct 24 = .ok (.aload_n 0, 1) := by decide +kernel
theorem dX12_addProduct_25 : decode cX12_addProduct 25 = .ok (.getfield 142, 3) := by decide +kernel
theorem dX12_addProduct_28 : decode cX12_addProduct 28 = .ok (.iload_n 1, 1) := by decide +kernel
theorem dX12_addProduct_29 : decode cX12_addProduct 29 = .ok (.iaload, 1) := by decide +kernel
theorem dX12_addProduct_30 : decode cX12_addProduct 30 = .ok (.iastore, 1) := by decide +kernel
theorem dX12_addProduct_31 : decode cX12_addProduct 31 = .ok (.iinc 1 1, 3) := by decide +kernel
theorem dX12_addProduct_34 : decode cX12_addProduct 34 = .ok (.goto (-32), 3) := by decide +kernel
theorem dX12_addProduct_37 : decode cX12_addProduct 37 = .ok (.aload_n 0, 1) := by decide +kernel
theorem dX12_addProduct_38 : decode cX12_addProduct 38 = .ok (.dup, 1) := by decide +kernel
theorem dX12_addProduct_39 : decode cX12_addProduct 39 = .ok (.getfield 330, 3) := by decide +kernel
theorem dX12_addProduct_42 : decode cX12_addProduct 42 = .ok (.iconst 1, 1) := by decide +kernel
theorem dX12_addProduct_43 : decode cX12_addProduct 43 = .ok (.iadd, 1) := by decide +kernel
theorem dX12_addProduct_44 : decode cX12_addProduct 44 = .ok (.putfield 330, 3) := by decide +kernel
theorem dX12_addProduct_47 : decode cX12_addProduct 47 = .ok (.return_, 1) := by decide +kernel
set_option maxRecDepth 20000 in
theorem ggX12_monoidSize_X12_isTest : GoodIn wsX12_monoidSize wsX12_isTest := goodIn_r _ [10, 11, 12, 13, 9, 14, 114, 115, 116, 117, 118, 119, 120, 121, 122, 123, 124, 125, 126, 127, 128, 129, 130, 131, 132, 133, 134, 135, 136, 137, 138, 139, 140, 141, 142, 143, 144, 145, 146, 147, 148, 149, 150, 151, 152, 153, 154, 155, 156, 157, 158, 159, 160, 161, 162, 163, 164, 165, 166, 167, 168, 169, 170, 171, 172, 173, 174, 175, 176, 177, 178, 179, 180, 181] (by decide +kernel) (by decide +kernel)
set_option maxRecDepth 20000 in
theorem gX12_monoidSize_X12_isTest : GoodIn wsX12_monoidSize (wsV RX12 198 RX12 yX12_isTest wsX12_isTest) := goodIn_app (goodIn_of _ (by decide +kernel)) ggX12_monoidSize_X12_isTest
set_option maxRecDepth 20000 in
theorem ggX12_monoidSize_X12_buildsTest : GoodIn wsX12_monoidSize wsX12_buildsTest := goodIn_r _ [18, 19, 20, 21, 22, 23, 24, 25, 26, 27, 9, 28, 29, 30, 31, 32, 33, 34, 35, 36, 37, 38, 4, 39, 40, 41, 42, 43, 44, 45, 46, 47, 48, 49, 50, 51, 52, 53, 54, 55, 56, 57, 58, 59, 60, 61, 62, 63, 64, 65, 66, 67, 68, 69, 70, 71, 72, 73, 74, 75, 76, 77, 78, 114, 115, 116, 117, 118, 119, 120, 121, 122, 123, 124, 125, 126, 127, 128, 129, 130, 131, 132, 133, 134, 135, 136, 137, 138, 139, 140, 141, 142, 143, 144, 145, 146, 147, 148, 149, 150, 151, 152, 153, 154, 155, 156, 157, 158, 159, 160, 161, 162, 163, 164, 165, 166, 167, 168, 169, 170, 171, 172, 173, 174, 175, 176, 177, 178, 179, 180, 181] (by decide +kernel) (by decide +kernel)
set_option maxRecDepth 20000 in
theorem gX12_monoidSize_X12_buildsTest : GoodIn wsX12_monoidSize (wsV RX12 323 RX12 yX12_buildsTest wsX12_buildsTest) := goodIn_app (goodIn_of _ (by decide +kernel)) ggX12_monoidSize_X12_buildsTest
set_option maxRecDepth 20000 in
theorem ggX12_monoidSize_X12_minimize : GoodIn wsX12_monoidSize wsX12_minimize := goodIn_r _ [82, 38, 83, 1, 84, 85, 86, 9, 87, 19, 32, 88, 89, 20, 90, 91, 92, 93, 94, 39, 40, 31, 71, 72, 73, 70, 95, 96, 97, 98, 4, 99, 42, 41, 100, 101, 43, 44, 45, 46, 47, 48, 49, 50, 51, 52, 53, 54, 55, 62, 63, 64, 65, 114, 115, 116, 117, 118, 119, 120, 121, 122, 123, 124, 125, 126, 127, 128, 129, 130, 131, 132, 133, 134, 135, 136, 137, 138, 139, 140, 141, 142, 143, 144, 145, 146, 147, 148, 149, 150, 151, 152, 153, 154, 155, 156, 157, 158, 159, 160, 161, 162, 163, 164, 165, 166, 167, 168, 169, 170, 171, 172, 173, 174, 175, 176, 177, 178, 179, 180, 181] (by decide +kernel) (by decide +kernel)
set_option maxRecDepth 20000 in
theorem gX12_monoidSize_X12_minimize : GoodIn wsX12_monoidSize (wsV RX12 326 RX12 yX12_minimize wsX12_minimize) := goodIn_app (goodIn_of _ (by decide +kernel)) ggX12_monoidSize_X12_minimize
set_option maxRecDepth 20000 in
theorem ggX12_monoidSize_X12_addProduct : GoodIn wsX12_monoidSize wsX12_addProduct := goodIn_r _ [105, 1, 5, 2, 3, 114, 115, 116, 117, 118, 119, 120, 121, 122, 123, 124, 125, 126, 127, 128, 129, 130, 131, 132, 133, 134, 135, 136, 137, 138, 139, 140, 141, 142, 143, 144, 145, 146, 147, 148, 149, 150, 151, 152, 153, 154, 155, 156, 157, 158, 159, 160, 161, 162, 163, 164, 165, 166, 167, 168, 169, 170, 171, 172, 173, 174, 175, 176, 177, 178, 179, 180, 181] (by decide +kernel) (by decide +kernel)
set_option maxRecDepth 20000 in
theorem gX12_monoidSize_X12_addProduct : GoodIn wsX12_monoidSize (wsV RX12 333 RX12 yX12_addProduct wsX12_addProduct) := goodIn_app (goodIn_of _ (by decide +kernel)) ggX12_monoidSize_X12_addProduct
set_option maxRecDepth 20000 in
theorem ggX12_monoidSize_X12_classBehind : GoodIn wsX12_monoidSize wsX12_classBehind := goodIn_r _ [109, 83, 42, 100, 114, 115, 116, 117, 118, 119, 120, 121, 122, 123, 124, 125, 126, 127, 128, 129, 130, 131, 132, 133, 134, 135, 136, 137, 138, 139, 140, 141, 142, 143, 144, 145, 146, 147, 148, 149, 150, 151, 152, 153, 154, 155, 156, 157, 158, 159, 160, 161, 162, 163, 164, 165, 166, 167, 168, 169, 170, 171, 172, 173, 174, 175, 176, 177, 178, 179, 180, 181] (by decide +kernel) (by decide +kernel)
set_option maxRecDepth 20000 in
theorem gX12_monoidSize_X12_classBehind : GoodIn wsX12_monoidSize (wsV RX12 336 RX12 yX12_classBehind wsX12_classBehind) := goodIn_app (goodIn_of _ (by decide +kernel)) ggX12_monoidSize_X12_classBehind
set_option maxRecDepth 20000 in
theorem ggX12_monoidSize_X12_isNewProduct : GoodIn wsX12_monoidSize wsX12_isNewProduct := goodIn_r _ [113, 2, 1, 5, 3, 114, 115, 116, 117, 118, 119, 120, 121, 122, 123, 124, 125, 126, 127, 128, 129, 130, 131, 132, 133, 134, 135, 136, 137, 138, 139, 140, 141, 142, 143, 144, 145, 146, 147, 148, 149, 150, 151, 152, 153, 154, 155, 156, 157, 158, 159, 160, 161, 162, 163, 164, 165, 166, 167, 168, 169, 170, 171, 172, 173, 174, 175, 176, 177, 178, 179, 180, 181] (by decide +kernel) (by decide +kernel)
set_option maxRecDepth 20000 in
theorem gX12_monoidSize_X12_isNewProduct : GoodIn wsX12_monoidSize (wsV RX12 339 RX12 yX12_isNewProduct wsX12_isNewProduct) := goodIn_app (goodIn_of _ (by decide +kernel)) ggX12_monoidSize_X12_isNewProduct
theorem dX12_monoidSize_0 : decode cX12_monoidSize 0 = .ok (.aload_n 0, 1) := by decide +kernel
theorem dX12_monoidSize_1 : decode cX12_monoidSize 1 = .ok (.iload_n 1, 1) := by decide +kernel
theorem dX12_monoidSize_2 : decode cX12_monoidSize 2 = .ok (.invokevirtual 198, 3) := by decide +kernel
theorem dX12_monoidSize_5 : decode cX12_monoidSize 5 = .ok (.ifCond .ne 5, 3) := by decide +kernel
theorem dX12_monoidSize_8 : decode cX12_monoidSize 8 = .ok (.iconst (-1), 1) := by decide +kernel
theorem dX12_monoidSize_9 : decode cX12_monoidSize 9 = .ok (.ireturn, 1) := by decide +kernel
theorem dX12_monoidSize_10 : decode cX12_monoidSize 10 = .ok (.aload_n 0, 1) := by decide +kernel
theorem dX12_monoidSize_11 : decode cX12_monoidSize 11 = .ok (.iload_n 1, 1) := by decide +kernel
theorem dX12_monoidSize_12 : decode cX12_monoidSize 12 = .ok (.invokevirtual 323, 3) := by decide +kernel
theorem dX12_monoidSize_15 : decode cX12_monoidSize 15 = .ok (.ifCond .ne 6, 3) := by decide +kernel
theorem dX12_monoidSize_18 : decode cX12_monoidSize 18 = .ok (.bipush (-4), 2) := by decide +kernel
theorem dX12_monoidSize_20 : decode cX12_monoidSize 20 = .ok (.ireturn, 1) := by decide +kernel
theorem dX12_monoidSize_21 : decode cX12_monoidSize 21 = .ok (.aload_n 0, 1) := by decide +kernel
theorem dX12_monoidSize_22 : decode cX12_monoidSize 22 = .ok (.iconst 1, 1) := by decide +kernel
theorem dX12_monoidSize_23 : decode cX12_monoidSize 23 = .ok (.invokevirtual 326, 3) := by decide +kernel
theorem dX12_monoidSize_26 : decode cX12_monoidSize 26 = .ok (.aload_n 0, 1) := by decide +kernel
theorem dX12_monoidSize_27 : decode cX12_monoidSize 27 = .ok (.getfield 310, 3) := by decide +kernel
theorem dX12_monoidSize_30 : decode cX12_monoidSize 30 = .ok (.sipush 400, 3) := by decide +kernel
theorem dX12_monoidSize_33 : decode cX12_monoidSize 33 = .ok (.if_icmp .le 6, 3) := by decide +kernel
theorem dX12_monoidSize_36 : decode cX12_monoidSize 36 = .ok (.bipush (-4), 2) := by decide +kernel
theorem dX12_monoidSize_38 : decode cX12_monoidSize 38 = .ok (.ireturn, 1) := by decide +kernel
theorem dX12_monoidSize_39 : decode cX12_monoidSize 39 = .ok (.aload_n 0, 1) := by decide +kernel
theorem dX12_monoidSize_40 : decode cX12_monoidSize 40 = .ok (.iconst 0, 1) := by decide +kernel
theorem dX12_monoidSize_41 : decode cX12_monoidSize 41 = .ok (.putfield 330, 3) := by decide +kernel
theorem dX12_monoidSize_44 : decode cX12_monoidSize 44 = .ok (.iconst 0, 1) := by decide +kernel
theorem dX12_monoidSize_45 : decode cX12_monoidSize 45 = .ok (.istore_n 2, 1) := by decide +kernel
theorem dX12_monoidSize_46 : decode cX12_monoidSize 46 = .ok (.iload_n 2, 1) := by decide +kernel
theorem dX12_monoidSize_47 : decode cX12_monoidSize 47 = .ok (.aload_n 0, 1) := by decide +kernel
theorem dX12_monoidSize_48 : decode cX12_monoidSize 48 = .ok (.getfield 310, 3) := by decide +kernel
theorem dX12_monoidSize_51 : decode cX12_monoidSize 51 = .ok (.if_icmp .ge 16, 3) := by decide +kernel
theorem dX12_monoidSize_54 : decode cX12_monoidSize 54 = .ok (.aload_n 0, 1) := by decide +kernel
theorem dX12_monoidSize_55 : decode cX12_monoidSize 55 = .ok (.getfield 142, 3) := by decide +kernel
theorem dX12_monoidSize_58 : decode cX12_monoidSize 58 = .ok (.iload_n 2, 1) := by decide +kernel
theorem dX12_monoidSize_59 : decode cX12_monoidSize 59 = .ok (.iload_n 2, 1) := by decide +kernel
theorem dX12_monoidSize_60 : decode cX12_monoidSize 60 = .ok (.iastore, 1) := by decide +kernel
theorem dX12_monoidSize_61 : decode cX12_monoidSize 61 = .ok (.iinc 2 1, 3) := by decide +kernel
theorem dX12_monoidSize_64 : decode cX12_monoidSize 64 = .ok (.goto (-18), 3) := by decide +kernel
theorem dX12_monoidSize_67 : decode cX12_monoidSize 67 = .ok (.aload_n 0, 1) := by decide +kernel
theorem dX12_monoidSize_68 : decode cX12_monoidSize 68 = .ok (.invokevirtual 333, 3) := by decide +kernel
theorem dX12_monoidSize_71 : decode cX12_monoidSize 71 = .ok (.iconst 0, 1) := by decide +kernel
theorem dX12_monoidSize_72 : decode cX12_monoidSize 72 = .ok (.istore_n 2, 1) := by decide +kernel
theorem dX12_monoidSize_73 : decode cX12_monoidSize 73 = .ok (.iload_n 2, 1) := by decide +kernel
theorem dX12_monoidSize_74 : decode cX12_monoidSize 74 = .ok (.aload_n 0, 1) := by decide +kernel
theorem dX12_monoidSize_75 : decode cX12_monoidSize 75 = .ok (.getfield 330, 3) := by decide +kernel
theorem dX12_monoidSize_78 : decode cX12_monoidSize 78 = .ok (.if_icmp .ge 95, 3) := by decide +kernel
theorem dX12_monoidSize_81 : decode cX12_monoidSize 81 = .ok (.iconst 0, 1) := by decide +kernel
theorem dX12_monoidSize_82 : decode cX12_monoidSize 82 = .ok (.istore_n 3, 1) := by decide +kernel
theorem dX12_monoidSize_83 : decode cX12_monoidSize 83 = .ok (.iload_n 3, 1) := by decide +kernel
theorem dX12_monoidSize_84 : decode cX12_monoidSize 84 = .ok (.aload_n 0, 1) := by decide +kernel
theorem dX12_monoidSize_85 : decode cX12_monoidSize 85 = .ok (.getfield 7, 3) := by decide +kernel
theorem dX12_monoidSize_88 : decode cX12_monoidSize 88 = .ok (.if_icmp .ge 79, 3) := by decide +kernel
theorem dX12_monoidSize_91 : decode cX12_monoidSize 91 = .ok (.iconst 0, 1) := by decide +kernel
theorem dX12_monoidSize_92 : decode cX12_monoidSize 92 = .ok (.istore 4, 2) := by decide +kernel
theorem dX12_monoidSize_94 : decode cX12_monoidSize 94 = .ok (.iload 4, 2) := by decide +kernel
theorem dX12_monoidSize_96 : decode cX12_monoidSize 96 = .ok (.aload_n 0, 1) := by decide +kernel
theorem dX12_monoidSize_97 : decode cX12_monoidSize 97 = .ok (.getfield 310, 3) := by decide +kernel
theorem dX12_monoidSize_100 : decode cX12_monoidSize 100 = .ok (.if_icmp .ge 34, 3) := by decide +kernel
theorem dX12_monoidSize_103 : decode cX12_monoidSize 103 = .ok (.aload_n 0, 1) := by decide +kernel
theorem dX12_monoidSize_104 : decode cX12_monoidSize 104 = .ok (.getfield 142, 3) := by decide +kernel
theorem dX12_monoidSize_107 : decode cX12_monoidSize 107 = .ok (.iload 4, 2) := by decide +kernel
theorem dX12_monoidSize_109 : decode cX12_monoidSize 109 = .ok (.aload_n 0, 1) := by decide +kernel
theorem dX12_monoidSize_110 : decode cX12_monoidSize 110 = .ok (.aload_n 0, 1) := by decide +kernel
theorem dX12_monoidSize_111 : decode cX12_monoidSize 111 = .ok (.getfield 139, 3) := by decide +kernel
theorem dX12_monoidSize_114 : decode cX12_monoidSize 114 = .ok (.sipush 400, 3) := by decide +kernel
theorem dX12_monoidSize_117 : decode cX12_monoidSize 117 = .ok (.iload_n 2, 1) := by decide +kernel
theorem dX12_monoidSize_118 : decode cX12_monoidSize 118 = .ok (.imul, 1) := by decide +kernel
theorem dX12_monoidSize_119 : decode cX12_monoidSize 119 = .ok (.iload 4, 2) := by decide +kernel
theorem dX12_monoidSize_121 : decode cX12_monoidSize 121 = .ok (.iadd, 1) := by decide +kernel
theorem dX12_monoidSize_122 : decode cX12_monoidSize 122 = .ok (.iaload, 1) := by decide +kernel
theorem dX12_monoidSize_123 : decode cX12_monoidSize 123 = .ok (.iload_n 3, 1) := by decide +kernel
theorem dX12_monoidSize_124 : decode cX12_monoidSize 124 = .ok (.invokevirtual 336, 3) := by decide +kernel
theorem dX12_monoidSize_127 : decode cX12_monoidSize 127 = .ok (.iastore, 1) := by decide +kernel
theorem dX12_monoidSize_128 : decode cX12_monoidSize 128 = .ok (.iinc 4 1, 3) := by decide +kernel
theorem dX12_monoidSize_131 : decode cX12_monoidSize 131 = .ok (.goto (-37), 3) := by decide +kernel
theorem dX12_monoidSize_134 : decode cX12_monoidSize 134 = .ok (.aload_n 0, 1) := by decide +kernel
theorem dX12_monoidSize_135 : decode cX12_monoidSize 135 = .ok (.invokevirtual 339, 3) := by decide +kernel
theorem dX12_monoidSize_138 : decode cX12_monoidSize 138 = .ok (.ifCond .ne 6, 3) := by decide +kernel
theorem dX12_monoidSize_141 : decode cX12_monoidSize 141 = .ok (.goto 20, 3) := by decide +kernel
theorem dX12_monoidSize_144 : decode cX12_monoidSize 144 = .ok (.aload_n 0, 1) := by decide +kernel
theorem dX12_monoidSize_145 : decode cX12_monoidSize 145 = .ok (.getfield 330, 3) := by decide +kernel
theorem dX12_monoidSize_148 : decode cX12_monoidSize 148 = .ok (.sipush 400, 3) := by decide +kernel
theorem dX12_monoidSize_151 : decode cX12_monoidSize 151 = .ok (.if_icmp .ne 6, 3) := by decide +kernel
theorem dX12_monoidSize_154 : decode cX12_monoidSize 154 = .ok (.bipush (-4), 2) := by decide +kernel
theorem dX12_monoidSize_156 : decode cX12_monoidSize 156 = .ok (.ireturn, 1) := by decide +kernel
theorem dX12_monoidSize_157 : decode cX12_monoidSize 157 = .ok (.aload_n 0, 1) := by decide +kernel
theorem dX12_monoidSize_158 : decode cX12_monoidSize 158 = .ok (.invokevirtual 333, 3) := by decide +kernel
theorem dX12_monoidSize_161 : decode cX12_monoidSize 161 = .ok (.iinc 3 1, 3) := by decide +kernel
theorem dX12_monoidSize_164 : decode cX12_monoidSize 164 = .ok (.goto (-81), 3) := by decide +kernel
theorem dX12_monoidSize_167 : decode cX12_monoidSize 167 = .ok (.iinc 2 1, 3) := by decide +kernel
theorem dX12_monoidSize_170 : decode cX12_monoidSize 170 = .ok (.goto (-97), 3) := by decide +kernel
theorem dX12_monoidSize_173 : decode cX12_monoidSize 173 = .ok (.aload_n 0, 1) := by decide +kernel
theorem dX12_monoidSize_174 : decode cX12_monoidSize 174 = .ok (.getfield 330, 3) := by decide +kernel
theorem dX12_monoidSize_177 : decode cX12_monoidSize 177 = .ok (.ireturn, 1) := by decide +kernel
set_option maxRecDepth 20000 in
theorem ggX12_isGroup_X12_isTest : GoodIn wsX12_isGroup wsX12_isTest := goodIn_r _ [8, 9, 10, 11, 7, 12, 103, 104, 105, 106, 107, 108, 109, 110, 111, 112, 113, 114, 115, 116, 117, 118, 119, 120, 121, 122, 123, 124, 125, 126, 127, 128, 129, 130, 131, 132, 133, 134, 135, 136, 137, 138, 139, 140, 141, 142, 143, 144, 145, 146, 147, 148, 149, 150, 151, 152, 153, 154, 155, 156, 157, 158, 159, 160, 161, 162, 163, 164, 165, 166, 167, 168, 169, 170] (by decide +kernel) (by decide +kernel)
set_option maxRecDepth 20000 in
theorem gX12_isGroup_X12_isTest : GoodIn wsX12_isGroup (wsV RX12 198 RX12 yX12_isTest wsX12_isTest) := goodIn_app (goodIn_of _ (by decide +kernel)) ggX12_isGroup_X12_isTest
set_option maxRecDepth 20000 in
theorem ggX12_isGroup_X12_buildsTest : GoodIn wsX12_isGroup wsX12_buildsTest := goodIn_r _ [16, 17, 18, 19, 20, 21, 22, 23, 24, 25, 7, 26, 27, 28, 29, 30, 31, 32, 33, 34, 35, 36, 1, 37, 38, 39, 40, 41, 42, 43, 44, 45, 46, 47, 48, 49, 50, 51, 52, 53, 54, 55, 56, 57, 58, 59, 60, 61, 62, 63, 64, 65, 66, 67, 68, 69, 70, 71, 72, 73, 74, 75, 76, 103, 104, 105, 106, 107, 108, 109, 110, 111, 112, 113, 114, 115, 116, 117, 118, 119, 120, 121, 122, 123, 124, 125, 126, 127, 128, 129, 130, 131, 132, 133, 134, 135, 136, 137, 138, 139, 140, 141, 142, 143, 144, 145, 146, 147, 148, 149, 150, 151, 152, 153, 154, 155, 156, 157, 158, 159, 160, 161, 162, 163, 164, 165, 166, 167, 168, 169, 170] (by decide +kernel) (by decide +kernel)
set_option maxRecDepth 20000 in
theorem gX12_isGroup_X12_buildsTest : GoodIn wsX12_isGroup (wsV RX12 323 RX12 yX12_buildsTest wsX12_buildsTest) := goodIn_app (goodIn_of _ (by decide +kernel)) ggX12_isGroup_X12_buildsTest
set_option maxRecDepth 20000 in
theorem ggX12_isGroup_X12_minimize : GoodIn wsX12_isGroup wsX12_minimize := goodIn_r _ [80, 36, 81, 2, 82, 83, 84, 7, 85, 17, 30, 86, 87, 18, 88, 89, 90, 91, 92, 37, 38, 29, 69, 70, 71, 68, 93, 94, 95, 96, 1, 97, 40, 39, 98, 3, 41, 42, 43, 44, 45, 46, 47, 48, 49, 50, 51, 52, 53, 60, 61, 62, 63, 103, 104, 105, 106, 107, 108, 109, 110, 111, 112, 113, 114, 115, 116, 117, 118, 119, 120, 121, 122, 123, 124, 125, 126, 127, 128, 129, 130, 131, 132, 133, 134, 135, 136, 137, 138, 139, 140, 141, 142, 143, 144, 145, 146, 147, 148, 149, 150, 151, 152, 153, 154, 155, 156, 157, 158, 159, 160, 161, 162, 163, 164, 165, 166, 167, 168, 169, 170] (by decide +kernel) (by decide +kernel)
set_option maxRecDepth 20000 in
theorem gX12_isGroup_X12_minimize : GoodIn wsX12_isGroup (wsV RX12 326 RX12 yX12_minimize wsX12_minimize) := goodIn_app (goodIn_of _ (by decide +kernel)) ggX12_isGroup_X12_minimize
set_option maxRecDepth 20000 in
theorem ggX12_isGroup_X12_classBehind : GoodIn wsX12_isGroup wsX12_classBehind := goodIn_r _ [102, 81, 40, 98, 103, 104, 105, 106, 107, 108, 109, 110, 111, 112, 113, 114, 115, 116, 117, 118, 119, 120, 121, 122, 123, 124, 125, 126, 127, 128, 129, 130, 131, 132, 133, 134, 135, 136, 137, 138, 139, 140, 141, 142, 143, 144, 145, 146, 147, 148, 149, 150, 151, 152, 153, 154, 155, 156, 157, 158, 159, 160, 161, 162, 163, 164, 165, 166, 167, 168, 169, 170] (by decide +kernel) (by decide +kernel)
set_option maxRecDepth 20000 in
theorem gX12_isGroup_X12_classBehind : GoodIn wsX12_isGroup (wsV RX12 336 RX12 yX12_classBehind wsX12_classBehind) := goodIn_app (goodIn_of _ (by decide +kernel)) ggX12_isGroup_X12_classBehind
theorem dX12_isGroup_0 : decode cX12_isGroup 0 = .ok (.aload_n 0, 1) := by decide +kernel
theorem dX12_isGroup_1 : decode cX12_isGroup 1 = .ok (.iload_n 1, 1) := by decide +kernel
theorem dX12_isGroup_2 : decode cX12_isGroup 2 = .ok (.invokevirtual 198, 3) := by decide +kernel
theorem dX12_isGroup_5 : decode cX12_isGroup 5 = .ok (.ifCond .ne 5, 3) := by decide +kernel
theorem dX12_isGroup_8 : decode cX12_isGroup 8 = .ok (.iconst (-1), 1) := by decide +kernel
theorem dX12_isGroup_9 : decode cX12_isGroup 9 = .ok (.ireturn, 1) := by decide +kernel
theorem dX12_isGroup_10 : decode cX12_isGroup 10 = .ok (.aload_n 0, 1) := by decide +kernel
theorem dX12_isGroup_11 : decode cX12_isGroup 11 = .ok (.iload_n 1, 1) := by decide +kernel
theorem dX12_isGroup_12 : decode cX12_isGroup 12 = .ok (.invokevirtual 323, 3) := by decide +kernel
theorem dX12_isGroup_15 : decode cX12_isGroup 15 = .ok (.ifCond .ne 6, 3) := by decide +kernel
theorem dX12_isGroup_18 : decode cX12_isGroup 18 = .ok (.bipush (-4), 2) := by decide +kernel
theorem dX12_isGroup_20 : decode cX12_isGroup 20 = .ok (.ireturn, 1) := by decide +kernel
theorem dX12_isGroup_21 : decode cX12_isGroup 21 = .ok (.aload_n 0, 1) := by decide +kernel
theorem dX12_isGroup_22 : decode cX12_isGroup 22 = .ok (.iconst 1, 1) := by decide +kernel
theorem dX12_isGroup_23 : decode cX12_isGroup 23 = .ok (.invokevirtual 326, 3) := by decide +kernel
theorem dX12_isGroup_26 : decode cX12_isGroup 26 = .ok (.iconst 0, 1) := by decide +kernel
theorem dX12_isGroup_27 : decode cX12_isGroup 27 = .ok (.istore_n 2, 1) := by decide +kernel
theorem dX12_isGroup_28 : decode cX12_isGroup 28 = .ok (.iload_n 2, 1) := by decide +kernel
theorem dX12_isGroup_29 : decode cX12_isGroup 29 = .ok (.aload_n 0, 1) := by decide +kernel
theorem dX12_isGroup_30 : decode cX12_isGroup 30 = .ok (.getfield 7, 3) := by decide +kernel
theorem dX12_isGroup_33 : decode cX12_isGroup 33 = .ok (.if_icmp .ge 91, 3) := by decide +kernel
theorem dX12_isGroup_36 : decode cX12_isGroup 36 = .ok (.iconst 0, 1) := by decide +kernel
theorem dX12_isGroup_37 : decode cX12_isGroup 37 = .ok (.istore_n 3, 1) := by decide +kernel
theorem dX12_isGroup_38 : decode cX12_isGroup 38 = .ok (.iload_n 3, 1) := by decide +kernel
theorem dX12_isGroup_39 : decode cX12_isGroup 39 = .ok (.aload_n 0, 1) := by decide +kernel
theorem dX12_isGroup_40 : decode cX12_isGroup 40 = .ok (.getfield 310, 3) := by decide +kernel
theorem dX12_isGroup_43 : decode cX12_isGroup 43 = .ok (.if_icmp .ge 16, 3) := by decide +kernel
theorem dX12_isGroup_46 : decode cX12_isGroup 46 = .ok (.aload_n 0, 1) := by decide +kernel
theorem dX12_isGroup_47 : decode cX12_isGroup 47 = .ok (.getfield 132, 3) := by decide +kernel
theorem dX12_isGroup_50 : decode cX12_isGroup 50 = .ok (.iload_n 3, 1) := by decide +kernel
theorem dX12_isGroup_51 : decode cX12_isGroup 51 = .ok (.iconst 0, 1) := by decide +kernel
theorem dX12_isGroup_52 : decode cX12_isGroup 52 = .ok (.iastore, 1) := by decide +kernel
theorem dX12_isGroup_53 : decode cX12_isGroup 53 = .ok (.iinc 3 1, 3) := by decide +kernel
theorem dX12_isGroup_56 : decode cX12_isGroup 56 = .ok (.goto (-18), 3) := by decide +kernel
theorem dX12_isGroup_59 : decode cX12_isGroup 59 = .ok (.iconst 0, 1) := by decide +kernel
theorem dX12_isGroup_60 : decode cX12_isGroup 60 = .ok (.istore_n 3, 1) := by decide +kernel
theorem dX12_isGroup_61 : decode cX12_isGroup 61 = .ok (.iload_n 3, 1) := by decide +kernel
theorem dX12_isGroup_62 : decode cX12_isGroup 62 = .ok (.aload_n 0, 1) := by decide +kernel
theorem dX12_isGroup_63 : decode cX12_isGroup 63 = .ok (.getfield 310, 3) := by decide +kernel
theorem dX12_isGroup_66 : decode cX12_isGroup 66 = .ok (.if_icmp .ge 24, 3) := by decide +kernel
theorem dX12_isGroup_69 : decode cX12_isGroup 69 = .ok (.aload_n 0, 1) := by decide +kernel
theorem dX12_isGroup_70 : decode cX12_isGroup 70 = .ok (.getfield 132, 3) := by decide +kernel
theorem dX12_isGroup_73 : decode cX12_isGroup 73 = .ok (.aload_n 0, 1) := by decide +kernel
theorem dX12_isGroup_74 : decode cX12_isGroup 74 = .ok (.iload_n 3, 1) := by decide +kernel
theorem dX12_isGroup_75 : decode cX12_isGroup 75 = .ok (.iload_n 2, 1) := by decide +kernel
theorem dX12_isGroup_76 : decode cX12_isGroup 76 = .ok (.invokevirtual 336, 3) := by decide +kernel
theorem dX12_isGroup_79 : decode cX12_isGroup 79 = .ok (.dup2, 1) := by decide +kernel
theorem dX12_isGroup_80 : decode cX12_isGroup 80 = .ok (.iaload, 1) := by decide +kernel
theorem dX12_isGroup_81 : decode cX12_isGroup 81 = .ok (.iconst 1, 1) := by decide +kernel
theorem dX12_isGroup_82 : decode cX12_isGroup 82 = .ok (.iadd, 1) := by decide +kernel
theorem dX12_isGroup_83 : decode cX12_isGroup 83 = .ok (.iastore, 1) := by decide +kernel
theorem dX12_isGroup_84 : decode cX12_isGroup 84 = .ok (.iinc 3 1, 3) := by decide +kernel
theorem dX12_isGroup_87 : decode cX12_isGroup 87 = .ok (.goto (-26), 3) := by decide +kernel
theorem dX12_isGroup_90 : decode cX12_isGroup 90 = .ok (.iconst 0, 1) := by decide +kernel
theorem dX12_isGroup_91 : decode cX12_isGroup 91 = .ok (.istore_n 3, 1) := by decide +kernel
theorem dX12_isGroup_92 : decode cX12_isGroup 92 = .ok (.iload_n 3, 1) := by decide +kernel
theorem dX12_isGroup_93 : decode cX12_isGroup 93 = .ok (.aload_n 0, 1) := by decide +kernel
theorem dX12_isGroup_94 : decode cX12_isGroup 94 = .ok (.getfield 310, 3) := by decide +kernel
theorem dX12_isGroup_97 : decode cX12_isGroup 97 = .ok (.if_icmp .ge 21, 3) := by decide +kernel
theorem dX12_isGroup_100 : decode cX12_isGroup 100 = .ok (.aload_n 0, 1) := by decide +kernel
theorem dX12_isGroup_101 : decode cX12_isGroup 101 = .ok (.getfield 132, 3) := by decide +kernel
theorem dX12_isGroup_104 : decode cX12_isGroup 104 = .ok (.iload_n 3, 1) := by decide +kernel
theorem dX12_isGroup_105 : decode cX12_isGroup 105 = .ok (.iaload, 1) := by decide +kernel
theorem dX12_isGroup_106 : decode cX12_isGroup 106 = .ok (.iconst 1, 1) := by decide +kernel
theorem dX12_isGroup_107 : decode cX12_isGroup 107 = .ok (.if_icmp .eq 5, 3) := by decide +kernel
theorem dX12_isGroup_110 : decode cX12_isGroup 110 = .ok (.iconst 0, 1) := by decide +kernel
theorem dX12_isGroup_111 : decode cX12_isGroup 111 = .ok (.ireturn, 1) := by decide +kernel
theorem dX12_isGroup_112 : decode cX12_isGroup 112 = .ok (.iinc 3 1, 3) := by decide +kernel
theorem dX12_isGroup_115 : decode cX12_isGroup 115 = .ok (.goto (-23), 3) := by decide +kernel
theorem dX12_isGroup_118 : decode cX12_isGroup 118 = .ok (.iinc 2 1, 3) := by decide +kernel
theorem dX12_isGroup_121 : decode cX12_isGroup 121 = .ok (.goto (-93), 3) := by decide +kernel
theorem dX12_isGroup_124 : decode cX12_isGroup 124 = .ok (.iconst 1, 1) := by decide +kernel
theorem dX12_isGroup_125 : decode cX12_isGroup 125 = .ok (.ireturn, 1) := by decide +kernel
set_option maxRecDepth 20000 in
theorem ggX12_notLanguage_X12_isLanguage : GoodIn wsX12_notLanguage wsX12_isLanguage := goodIn_r _ [5, 6, 7, 4, 8] (by decide +kernel) (by decide +kernel)
set_option maxRecDepth 20000 in
theorem gX12_notLanguage_X12_isLanguage : GoodIn wsX12_notLanguage (va_wsS RX12 227 yX12_isLanguage wsX12_isLanguage) := goodIn_app (goodIn_of _ (by decide +kernel)) ggX12_notLanguage_X12_isLanguage
theorem dX12_notLanguage_0 : decode cX12_notLanguage 0 = .ok (.iload_n 1, 1) := by decide +kernel
theorem dX12_notLanguage_1 : decode cX12_notLanguage 1 = .ok (.invokestatic 227, 3) := by decide +kernel
theorem dX12_notLanguage_4 : decode cX12_notLanguage 4 = .ok (.ifCond .ne 7, 3) := by decide +kernel
theorem dX12_notLanguage_7 : decode cX12_notLanguage 7 = .ok (.iconst (-1), 1) := by decide +kernel
theorem dX12_notLanguage_8 : decode cX12_notLanguage 8 = .ok (.goto 18, 3) := by decide +kernel
theorem dX12_notLanguage_11 : decode cX12_notLanguage 11 = .ok (.aload_n 0, 1) := by decide +kernel
theorem dX12_notLanguage_12 : decode cX12_notLanguage 12 = .ok (.getfield 47, 3) := by decide +kernel
theorem dX12_notLanguage_15 : decode cX12_notLanguage 15 = .ok (.iload_n 1, 1) := by decide +kernel
theorem dX12_notLanguage_16 : decode cX12_notLanguage 16 = .ok (.iaload, 1) := by decide +kernel
theorem dX12_notLanguage_17 : decode cX12_notLanguage 17 = .ok (.ifCond .ge 8, 3) := by decide +kernel
theorem dX12_notLanguage_20 : decode cX12_notLanguage 20 = .ok (.bipush (-5), 2) := by decide +kernel
theorem dX12_notLanguage_22 : decode cX12_notLanguage 22 = .ok (.goto 4, 3) := by decide +kernel
theorem dX12_notLanguage_25 : decode cX12_notLanguage 25 = .ok (.iconst 0, 1) := by decide +kernel
theorem dX12_notLanguage_26 : decode cX12_notLanguage 26 = .ok (.ireturn, 1) := by decide +kernel
set_option maxRecDepth 20000 in
theorem ggX12_languageStates_X12_notLanguage : GoodIn wsX12_languageStates wsX12_notLanguage := goodIn_r _ [6, 7, 8, 9, 5, 10, 11, 12, 13, 109, 110, 111, 112, 113, 114, 115, 116, 117, 118, 119, 120, 121, 122, 123, 124, 125, 126, 127, 128, 129, 130, 131, 132, 133, 134, 135, 136, 137, 138, 139, 140, 141, 142, 143, 144, 145, 146, 147, 148, 149, 150, 151, 152, 153, 154, 155, 156, 157, 158, 159, 160, 161, 162, 163, 164, 165, 166, 167, 168, 169, 170, 171, 172, 173, 174, 175, 176] (by decide +kernel) (by decide +kernel)
set_option maxRecDepth 20000 in
theorem gX12_languageStates_X12_notLanguage : GoodIn wsX12_languageStates (wsV RX12 342 RX12 yX12_notLanguage wsX12_notLanguage) := goodIn_app (goodIn_of _ (by decide +kernel)) ggX12_languageStates_X12_notLanguage
set_option maxRecDepth 20000 in
theorem ggX12_languageStates_X12_buildsLanguage : GoodIn wsX12_languageStates wsX12_buildsLanguage := goodIn_r _ [17, 18, 19, 20, 21, 22, 23, 24, 25, 5, 26, 27, 28, 29, 30, 31, 32, 33, 34, 35, 36, 37, 38, 39, 40, 41, 42, 43, 44, 45, 46, 47, 48, 49, 50, 51, 52, 53, 54, 55, 56, 57, 58, 59, 60, 61, 62, 63, 64, 65, 66, 67, 68, 69, 70, 71, 72, 73, 74, 75, 76, 77, 78, 79, 80, 81, 82, 83, 84, 85, 86, 87, 109, 110, 111, 112, 113, 114, 115, 116, 117, 118, 119, 120, 121, 122, 123, 124, 125, 126, 127, 128, 129, 130, 131, 132, 133, 134, 135, 136, 137, 138, 139, 140, 141, 142, 143, 144, 145, 146, 147, 148, 149, 150, 151, 152, 153, 154, 155, 156, 157, 158, 159, 160, 161, 162, 163, 164, 165, 166, 167, 168, 169, 170, 171, 172, 173, 174, 175, 176] (by decide +kernel) (by decide +kernel)
set_option maxRecDepth 20000 in
theorem gX12_languageStates_X12_buildsLanguage : GoodIn wsX12_languageStates (wsV RX12 345 RX12 yX12_buildsLanguage wsX12_buildsLanguage) := goodIn_app (goodIn_of _ (by decide +kernel)) ggX12_languageStates_X12_buildsLanguage
set_option maxRecDepth 20000 in
theorem ggX12_languageStates_X12_minimize : GoodIn wsX12_languageStates wsX12_minimize := goodIn_r _ [91, 46, 92, 1, 93, 94, 95, 5, 96, 18, 40, 22, 20, 19, 97, 98, 99, 100, 101, 48, 49, 39, 80, 81, 82, 79, 102, 103, 104, 105, 47, 106, 51, 50, 107, 108, 52, 53, 54, 55, 56, 57, 58, 59, 60, 61, 62, 63, 64, 71, 72, 73, 74, 109, 110, 111, 112, 113, 114, 115, 116, 117, 118, 119, 120, 121, 122, 123, 124, 125, 126, 127, 128, 129, 130, 131, 132, 133, 134, 135, 136, 137, 138, 139, 140, 141, 142, 143, 144, 145, 146, 147, 148, 149, 150, 151, 152, 153, 154, 155, 156, 157, 158, 159, 160, 161, 162, 163, 164, 165, 166, 167, 168, 169, 170, 171, 172, 173, 174, 175, 176] (by decide +kernel) (by decide +kernel)
set_option maxRecDepth 20000 in
theorem gX12_languageStates_X12_minimize : GoodIn wsX12_languageStates (wsV RX12 326 RX12 yX12_minimize wsX12_minimize) := goodIn_app (goodIn_of _ (by decide +kernel)) ggX12_languageStates_X12_minimize
theorem dX12_languageStates_0 : decode cX12_languageStates 0 = .ok (.aload_n 0, 1) := by decide +kernel
theorem dX12_languageStates_1 : decode cX12_languageStates 1 = .ok (.iload_n 1, 1) := by decide +kernel
theorem dX12_languageStates_2 : decode cX12_languageStates 2 = .ok (.invokevirtual 342, 3) := by decide +kernel
theorem dX12_languageStates_5 : decode cX12_languageStates 5 = .ok (.istore_n 2, 1) := by decide +kernel
theorem dX12_languageStates_6 : decode cX12_languageStates 6 = .ok (.iload_n 2, 1) := by decide +kernel
theorem dX12_languageStates_7 : decode cX12_languageStates 7 = .ok (.ifCond .ge 5, 3) := by decide +kernel
theorem dX12_languageStates_10 : decode cX12_languageStates 10 = .ok (.iload_n 2, 1) := by decide +kernel
theorem dX12_languageStates_11 : decode cX12_languageStates 11 = .ok (.ireturn, 1) := by decide +kernel
theorem dX12_languageStates_12 : decode cX12_languageStates 12 = .ok (.aload_n 0, 1) := by decide +kernel
theorem dX12_languageStates_13 : decode cX12_languageStates 13 = .ok (.iload_n 1, 1) := by decide +kernel
theorem dX12_languageStates_14 : decode cX12_languageStates 14 = .ok (.invokevirtual 345, 3) := by decide +kernel
theorem dX12_languageStates_17 : decode cX12_languageStates 17 = .ok (.ifCond .ne 6, 3) := by decide +kernel
theorem dX12_languageStates_20 : decode cX12_languageStates 20 = .ok (.bipush (-4), 2) := by decide +kernel
theorem dX12_languageStates_22 : decode cX12_languageStates 22 = .ok (.ireturn, 1) := by decide +kernel
theorem dX12_languageStates_23 : decode cX12_languageStates 23 = .ok (.aload_n 0, 1) := by decide +kernel
theorem dX12_languageStates_24 : decode cX12_languageStates 24 = .ok (.iconst 0, 1) := by decide +kernel
theorem dX12_languageStates_25 : decode cX12_languageStates 25 = .ok (.invokevirtual 326, 3) := by decide +kernel
theorem dX12_languageStates_28 : decode cX12_languageStates 28 = .ok (.aload_n 0, 1) := by decide +kernel
theorem dX12_languageStates_29 : decode cX12_languageStates 29 = .ok (.getfield 310, 3) := by decide +kernel
theorem dX12_languageStates_32 : decode cX12_languageStates 32 = .ok (.ireturn, 1) := by decide +kernel
set_option maxRecDepth 20000 in
theorem ggX12_countAll_X12_answerAt : GoodIn wsX12_countAll wsX12_answerAt := goodIn_r _ [11, 12, 13, 14, 15, 16, 17, 18, 19, 20, 10, 21, 22, 23, 24, 25, 26, 27, 28, 29, 30, 31, 32, 33, 34, 35, 36, 37, 38, 39, 40, 41, 42, 43, 44, 45, 46, 47, 48, 49, 50, 51, 52, 53, 54, 55, 56, 57, 58, 59, 60, 61, 62, 63, 64, 65, 66, 67, 68, 69, 70, 71, 72, 73, 74, 75, 76, 77, 78, 79, 80, 81, 82, 83, 84, 85, 86, 87, 88, 89, 90, 91, 92, 93, 94, 95, 96] (by decide +kernel) (by decide +kernel)
set_option maxRecDepth 20000 in
theorem gX12_countAll_X12_answerAt : GoodIn wsX12_countAll (wsV RX12 306 RX12 yX12_answerAt wsX12_answerAt) := goodIn_app (goodIn_of _ (by decide +kernel)) ggX12_countAll_X12_answerAt
theorem dX12_countAll_0 : decode cX12_countAll 0 = .ok (.iconst 0, 1) := by decide +kernel
theorem dX12_countAll_1 : decode cX12_countAll 1 = .ok (.istore_n 2, 1) := by decide +kernel
theorem dX12_countAll_2 : decode cX12_countAll 2 = .ok (.iload_n 2, 1) := by decide +kernel
theorem dX12_countAll_3 : decode cX12_countAll 3 = .ok (.aload_n 0, 1) := by decide +kernel
theorem dX12_countAll_4 : decode cX12_countAll 4 = .ok (.getfield 266, 3) := by decide +kernel
theorem dX12_countAll_7 : decode cX12_countAll 7 = .ok (.if_icmp .ge 24, 3) := by decide +kernel
theorem dX12_countAll_10 : decode cX12_countAll 10 = .ok (.aload_n 0, 1) := by decide +kernel
theorem dX12_countAll_11 : decode cX12_countAll 11 = .ok (.getfield 145, 3) := by decide +kernel
theorem dX12_countAll_14 : decode cX12_countAll 14 = .ok (.iload_n 2, 1) := by decide +kernel
theorem dX12_countAll_15 : decode cX12_countAll 15 = .ok (.iload_n 2, 1) := by decide +kernel
theorem dX12_countAll_16 : decode cX12_countAll 16 = .ok (.ifCond .ne 7, 3) := by decide +kernel
theorem dX12_countAll_19 : decode cX12_countAll 19 = .ok (.lconst 1, 1) := by decide +kernel
theorem dX12_countAll_20 : decode cX12_countAll 20 = .ok (.goto 4, 3) := by decide +kernel
theorem dX12_countAll_23 : decode cX12_countAll 23 = .ok (.lconst 0, 1) := by decide +kernel
theorem dX12_countAll_24 : decode cX12_countAll 24 = .ok (.lastore, 1) := by decide +kernel
theorem dX12_countAll_25 : decode cX12_countAll 25 = .ok (.iinc 2 1, 3) := by decide +kernel
theorem dX12_countAll_28 : decode cX12_countAll 28 = .ok (.goto (-26), 3) := by decide +kernel
theorem dX12_countAll_31 : decode cX12_countAll 31 = .ok (.iconst 0, 1) := by decide +kernel
theorem dX12_countAll_32 : decode cX12_countAll 32 = .ok (.istore_n 2, 1) := by decide +kernel
theorem dX12_countAll_33 : decode cX12_countAll 33 = .ok (.iload_n 2, 1) := by decide +kernel
theorem dX12_countAll_34 : decode cX12_countAll 34 = .ok (.iload_n 1, 1) := by decide +kernel
theorem dX12_countAll_35 : decode cX12_countAll 35 = .ok (.if_icmp .gt 155, 3) := by decide +kernel
theorem dX12_countAll_38 : decode cX12_countAll 38 = .ok (.aload_n 0, 1) := by decide +kernel
theorem dX12_countAll_39 : decode cX12_countAll 39 = .ok (.getfield 151, 3) := by decide +kernel
theorem dX12_countAll_42 : decode cX12_countAll 42 = .ok (.iload_n 2, 1) := by decide +kernel
theorem dX12_countAll_43 : decode cX12_countAll 43 = .ok (.lconst 0, 1) := by decide +kernel
theorem dX12_countAll_44 : decode cX12_countAll 44 = .ok (.lastore, 1) := by decide +kernel
theorem dX12_countAll_45 : decode cX12_countAll 45 = .ok (.iconst 0, 1) := by decide +kernel
theorem dX12_countAll_46 : decode cX12_countAll 46 = .ok (.istore_n 3, 1) := by decide +kernel
theorem dX12_countAll_47 : decode cX12_countAll 47 = .ok (.iload_n 3, 1) := by decide +kernel
theorem dX12_countAll_48 : decode cX12_countAll 48 = .ok (.aload_n 0, 1) := by decide +kernel
theorem dX12_countAll_49 : decode cX12_countAll 49 = .ok (.getfield 266, 3) := by decide +kernel
theorem dX12_countAll_52 : decode cX12_countAll 52 = .ok (.if_icmp .ge 45, 3) := by decide +kernel
theorem dX12_countAll_55 : decode cX12_countAll 55 = .ok (.aload_n 0, 1) := by decide +kernel
theorem dX12_countAll_56 : decode cX12_countAll 56 = .ok (.getfield 151, 3) := by decide +kernel
theorem dX12_countAll_59 : decode cX12_countAll 59 = .ok (.iload_n 2, 1) := by decide +kernel
theorem dX12_countAll_60 : decode cX12_countAll 60 = .ok (.dup2, 1) := by decide +kernel
theorem dX12_countAll_61 : decode cX12_countAll 61 = .ok (.laload, 1) := by decide +kernel
theorem dX12_countAll_62 : decode cX12_countAll 62 = .ok (.aload_n 0, 1) := by decide +kernel
theorem dX12_countAll_63 : decode cX12_countAll 63 = .ok (.iload_n 3, 1) := by decide +kernel
theorem dX12_countAll_64 : decode cX12_countAll 64 = .ok (.iconst 0, 1) := by decide +kernel
theorem dX12_countAll_65 : decode cX12_countAll 65 = .ok (.invokevirtual 306, 3) := by decide +kernel
theorem dX12_countAll_68 : decode cX12_countAll 68 = .ok (.iconst 1, 1) := by decide +kernel
theorem dX12_countAll_69 : decode cX12_countAll 69 = .ok (.if_icmp .ne 12, 3) := by decide +kernel
theorem dX12_countAll_72 : decode cX12_countAll 72 = .ok (.aload_n 0, 1) := by decide +kernel
theorem dX12_countAll_73 : decode cX12_countAll 73 = .ok (.getfield 145, 3) := by decide +kernel
theorem dX12_countAll_76 : decode cX12_countAll 76 = .ok (.iload_n 3, 1) := by decide +kernel
theorem dX12_countAll_77 : decode cX12_countAll 77 = .ok (.laload, 1) := by decide +kernel
theorem dX12_countAll_78 : decode cX12_countAll 78 = .ok (.goto 4, 3) := by decide +kernel
theorem dX12_countAll_81 : decode cX12_countAll 81 = .ok (.lconst 0, 1) := by decide +kernel
theorem dX12_countAll_82 : decode cX12_countAll 82 = .ok (.ladd, 1) := by decide +kernel
theorem dX12_countAll_83 : decode cX12_countAll 83 = .ok (.lastore, 1) := by decide +kernel
theorem dX12_countAll_84 : decode cX12_countAll 84 = .ok (.aload_n 0, 1) := by decide +kernel
theorem dX12_countAll_85 : decode cX12_countAll 85 = .ok (.getfield 148, 3) := by decide +kernel
theorem dX12_countAll_88 : decode cX12_countAll 88 = .ok (.iload_n 3, 1) := by decide +kernel
theorem dX12_countAll_89 : decode cX12_countAll 89 = .ok (.lconst 0, 1) := by decide +kernel
theorem dX12_countAll_90 : decode cX12_countAll 90 = .ok (.lastore, 1) := by decide +kernel
theorem dX12_countAll_91 : decode cX12_countAll 91 = .ok (.iinc 3 1, 3) := by decide +kernel
theorem dX12_countAll_94 : decode cX12_countAll 94 = .ok (.goto (-47), 3) := by decide +kernel
theorem dX12_countAll_97 : decode cX12_countAll 97 = .ok (.iconst 0, 1) := by decide +kernel
theorem dX12_countAll_98 : decode cX12_countAll 98 = .ok (.istore_n 3, 1) := by decide +kernel
theorem dX12_countAll_99 : decode cX12_countAll 99 = .ok (.iload_n 3, 1) := by decide +kernel
theorem dX12_countAll_100 : decode cX12_countAll 100 = .ok (.aload_n 0, 1) := by decide +kernel
theorem dX12_countAll_101 : decode cX12_countAll 101 = .ok (.getfield 266, 3) := by decide +kernel
theorem dX12_countAll_104 : decode cX12_countAll 104 = .ok (.if_icmp .ge 52, 3) := by decide +kernel
theorem dX12_countAll_107 : decode cX12_countAll 107 = .ok (.iconst 0, 1) := by decide +kernel
theorem dX12_countAll_108 : decode cX12_countAll 108 = .ok (.istore 4, 2) := by decide +kernel
theorem dX12_countAll_110 : decode cX12_countAll 110 = .ok (.iload 4, 2) := by decide +kernel
theorem dX12_countAll_112 : decode cX12_countAll 112 = .ok (.aload_n 0, 1) := by decide +kernel
theorem dX12_countAll_113 : decode cX12_countAll 113 = .ok (.getfield 7, 3) := by decide +kernel
theorem dX12_countAll_116 : decode cX12_countAll 116 = .ok (.if_icmp .ge 34, 3) := by decide +kernel
theorem dX12_countAll_119 : decode cX12_countAll 119 = .ok (.aload_n 0, 1) := by decide +kernel
theorem dX12_countAll_120 : decode cX12_countAll 120 = .ok (.getfield 148, 3) := by decide +kernel
theorem dX12_countAll_123 : decode cX12_countAll 123 = .ok (.aload_n 0, 1) := by decide +kernel
theorem dX12_countAll_124 : decode cX12_countAll 124 = .ok (.getfield 120, 3) := by decide +kernel
theorem dX12_countAll_127 : decode cX12_countAll 127 = .ok (.iconst 3, 1) := by decide +kernel
theorem dX12_countAll_128 : decode cX12_countAll 128 = .ok (.iload_n 3, 1) := by decide +kernel
theorem dX12_countAll_129 : decode cX12_countAll 129 = .ok (.imul, 1) := by decide +kernel
theorem dX12_countAll_130 : decode cX12_countAll 130 = .ok (.iload 4, 2) := by decide +kernel
theorem dX12_countAll_132 : decode cX12_countAll 132 = .ok (.iadd, 1) := by decide +kernel
theorem dX12_countAll_133 : decode cX12_countAll 133 = .ok (.iaload, 1) := by decide +kernel
theorem dX12_countAll_134 : decode cX12_countAll 134 = .ok (.dup2, 1) := by decide +kernel
theorem dX12_countAll_135 : decode cX12_countAll 135 = .ok (.laload, 1) := by decide +kernel
theorem dX12_countAll_136 : decode cX12_countAll 136 = .ok (.aload_n 0, 1) := by decide +kernel
theorem dX12_countAll_137 : decode cX12_countAll 137 = .ok (.getfield 145, 3) := by decide +kernel
theorem dX12_countAll_140 : decode cX12_countAll 140 = .ok (.iload_n 3, 1) := by decide +kernel
theorem dX12_countAll_141 : decode cX12_countAll 141 = .ok (.laload, 1) := by decide +kernel
theorem dX12_countAll_142 : decode cX12_countAll 142 = .ok (.ladd, 1) := by decide +kernel
theorem dX12_countAll_143 : decode cX12_countAll 143 = .ok (.lastore, 1) := by decide +kernel
theorem dX12_countAll_144 : decode cX12_countAll 144 = .ok (.iinc 4 1, 3) := by decide +kernel
theorem dX12_countAll_147 : decode cX12_countAll 147 = .ok (.goto (-37), 3) := by decide +kernel
theorem dX12_countAll_150 : decode cX12_countAll 150 = .ok (.iinc 3 1, 3) := by decide +kernel
theorem dX12_countAll_153 : decode cX12_countAll 153 = .ok (.goto (-54), 3) := by decide +kernel
theorem dX12_countAll_156 : decode cX12_countAll 156 = .ok (.iconst 0, 1) := by decide +kernel
theorem dX12_countAll_157 : decode cX12_countAll 157 = .ok (.istore_n 3, 1) := by decide +kernel
theorem dX12_countAll_158 : decode cX12_countAll 158 = .ok (.iload_n 3, 1) := by decide +kernel
theorem dX12_countAll_159 : decode cX12_countAll 159 = .ok (.aload_n 0, 1) := by decide +kernel
theorem dX12_countAll_160 : decode cX12_countAll 160 = .ok (.getfield 266, 3) := by decide +kernel
theorem dX12_countAll_163 : decode cX12_countAll 163 = .ok (.if_icmp .ge 21, 3) := by decide +kernel
theorem dX12_countAll_166 : decode cX12_countAll 166 = .ok (.aload_n 0, 1) := by decide +kernel
theorem dX12_countAll_167 : decode cX12_countAll 167 = .ok (.getfield 145, 3) := by decide +kernel
theorem dX12_countAll_170 : decode cX12_countAll 170 = .ok (.iload_n 3, 1) := by decide +kernel
theorem dX12_countAll_171 : decode cX12_countAll 171 = .ok (.aload_n 0, 1) := by decide +kernel
theorem dX12_countAll_172 : decode cX12_countAll 172 = .ok (.getfield 148, 3) := by decide +kernel
theorem dX12_countAll_175 : decode cX12_countAll 175 = .ok (.iload_n 3, 1) := by decide +kernel
theorem dX12_countAll_176 : decode cX12_countAll 176 = .ok (.laload, 1) := by decide +kernel
theorem dX12_countAll_177 : decode cX12_countAll 177 = .ok (.lastore, 1) := by decide +kernel
theorem dX12_countAll_178 : decode cX12_countAll 178 = .ok (.iinc 3 1, 3) := by decide +kernel
theorem dX12_countAll_181 : decode cX12_countAll 181 = .ok (.goto (-23), 3) := by decide +kernel
theorem dX12_countAll_184 : decode cX12_countAll 184 = .ok (.iinc 2 1, 3) := by decide +kernel
theorem dX12_countAll_187 : decode cX12_countAll 187 = .ok (.goto (-154), 3) := by decide +kernel
theorem dX12_countAll_190 : decode cX12_countAll 190 = .ok (.return_, 1) := by decide +kernel
set_option maxRecDepth 20000 in
theorem ggX12_countWords_X12_isLanguage : GoodIn wsX12_countWords wsX12_isLanguage := goodIn_r _ [9, 10, 11, 8, 12] (by decide +kernel) (by decide +kernel)
set_option maxRecDepth 20000 in
theorem gX12_countWords_X12_isLanguage : GoodIn wsX12_countWords (va_wsS RX12 227 yX12_isLanguage wsX12_isLanguage) := goodIn_app (goodIn_of _ (by decide +kernel)) ggX12_countWords_X12_isLanguage
set_option maxRecDepth 20000 in
theorem ggX12_countWords_X12_isBetween : GoodIn wsX12_countWords wsX12_isBetween := goodIn_r _ [12] (by decide +kernel) (by decide +kernel)
set_option maxRecDepth 20000 in
theorem gX12_countWords_X12_isBetween : GoodIn wsX12_countWords (va_wsS RX12 169 yX12_isBetween wsX12_isBetween) := goodIn_app (goodIn_of _ (by decide +kernel)) ggX12_countWords_X12_isBetween
set_option maxRecDepth 20000 in
theorem ggX12_countWords_X12_buildsLanguage : GoodIn wsX12_countWords wsX12_buildsLanguage := goodIn_r _ [16, 17, 18, 19, 20, 21, 22, 23, 24, 8, 25, 26, 27, 28, 29, 30, 31, 32, 33, 34, 35, 36, 37, 38, 39, 40, 41, 42, 43, 44, 45, 46, 47, 48, 49, 50, 51, 52, 53, 54, 55, 56, 57, 58, 59, 60, 61, 62, 63, 64, 65, 66, 67, 68, 69, 70, 71, 72, 73, 74, 75, 76, 77, 78, 79, 80, 81, 82, 83, 84, 85, 86, 102, 103, 104, 105, 106, 107, 108, 109, 110, 111, 112, 113, 114, 115, 116, 117, 118, 119, 120, 121, 122, 123, 124, 125, 126, 127, 128, 129, 130, 131, 132, 133, 134, 135, 136, 137, 138, 139, 140, 141, 142, 143, 144, 145, 146, 147, 148, 149, 150, 151, 152, 153, 154, 155, 156, 157, 158, 159, 160, 161, 162, 163, 164, 165, 166, 167, 168, 169] (by decide +kernel) (by decide +kernel)
set_option maxRecDepth 20000 in
theorem gX12_countWords_X12_buildsLanguage : GoodIn wsX12_countWords (wsV RX12 345 RX12 yX12_buildsLanguage wsX12_buildsLanguage) := goodIn_app (goodIn_of _ (by decide +kernel)) ggX12_countWords_X12_buildsLanguage
set_option maxRecDepth 20000 in
theorem ggX12_countWords_X12_countAll : GoodIn wsX12_countWords wsX12_countAll := goodIn_r _ [90, 45, 91, 5, 92, 46, 50, 93, 94, 95, 8, 96, 17, 39, 21, 19, 18, 97, 98, 99, 100, 101, 47, 48, 38, 79, 80, 81, 78, 102, 103, 104, 105, 106, 107, 108, 109, 110, 111, 112, 113, 114, 115, 116, 117, 118, 119, 120, 121, 122, 123, 124, 125, 126, 127, 128, 129, 130, 131, 132, 133, 134, 135, 136, 137, 138, 139, 140, 141, 142, 143, 144, 145, 146, 147, 148, 149, 150, 151, 152, 153, 154, 155, 156, 157, 158, 159, 160, 161, 162, 163, 164, 165, 166, 167, 168, 169] (by decide +kernel) (by decide +kernel)
set_option maxRecDepth 20000 in
theorem gX12_countWords_X12_countAll : GoodIn wsX12_countWords (wsV RX12 354 RX12 yX12_countAll wsX12_countAll) := goodIn_app (goodIn_of _ (by decide +kernel)) ggX12_countWords_X12_countAll
theorem dX12_countWords_0 : decode cX12_countWords 0 = .ok (.iload_n 1, 1) := by decide +kernel
theorem dX12_countWords_1 : decode cX12_countWords 1 = .ok (.invokestatic 227, 3) := by decide +kernel
theorem dX12_countWords_4 : decode cX12_countWords 4 = .ok (.ifCond .eq 13, 3) := by decide +kernel
theorem dX12_countWords_7 : decode cX12_countWords 7 = .ok (.iload_n 2, 1) := by decide +kernel
theorem dX12_countWords_8 : decode cX12_countWords 8 = .ok (.iconst 0, 1) := by decide +kernel
theorem dX12_countWords_9 : decode cX12_countWords 9 = .ok (.bipush 20, 2) := by decide +kernel
theorem dX12_countWords_11 : decode cX12_countWords 11 = .ok (.invokestatic 169, 3) := by decide +kernel
theorem dX12_countWords_14 : decode cX12_countWords 14 = .ok (.ifCond .ne 7, 3) := by decide +kernel
theorem dX12_countWords_17 : decode cX12_countWords 17 = .ok (.ldc2_w 348, 3) := by decide +kernel
theorem dX12_countWords_20 : decode cX12_countWords 20 = .ok (.lreturn, 1) := by decide +kernel
theorem dX12_countWords_21 : decode cX12_countWords 21 = .ok (.aload_n 0, 1) := by decide +kernel
theorem dX12_countWords_22 : decode cX12_countWords 22 = .ok (.getfield 47, 3) := by decide +kernel
theorem dX12_countWords_25 : decode cX12_countWords 25 = .ok (.iload_n 1, 1) := by decide +kernel
theorem dX12_countWords_26 : decode cX12_countWords 26 = .ok (.iaload, 1) := by decide +kernel
theorem dX12_countWords_27 : decode cX12_countWords 27 = .ok (.ifCond .ge 7, 3) := by decide +kernel
theorem dX12_countWords_30 : decode cX12_countWords 30 = .ok (.ldc2_w 350, 3) := by decide +kernel
theorem dX12_countWords_33 : decode cX12_countWords 33 = .ok (.lreturn, 1) := by decide +kernel
theorem dX12_countWords_34 : decode cX12_countWords 34 = .ok (.aload_n 0, 1) := by decide +kernel
theorem dX12_countWords_35 : decode cX12_countWords 35 = .ok (.iload_n 1, 1) := by decide +kernel
theorem dX12_countWords_36 : decode cX12_countWords 36 = .ok (.invokevirtual 345, 3) := by decide +kernel
theorem dX12_countWords_39 : decode cX12_countWords 39 = .ok (.ifCond .ne 7, 3) := by decide +kernel
theorem dX12_countWords_42 : decode cX12_countWords 42 = .ok (.ldc2_w 352, 3) := by decide +kernel
theorem dX12_countWords_45 : decode cX12_countWords 45 = .ok (.lreturn, 1) := by decide +kernel
theorem dX12_countWords_46 : decode cX12_countWords 46 = .ok (.aload_n 0, 1) := by decide +kernel
theorem dX12_countWords_47 : decode cX12_countWords 47 = .ok (.iload_n 2, 1) := by decide +kernel
theorem dX12_countWords_48 : decode cX12_countWords 48 = .ok (.invokevirtual 354, 3) := by decide +kernel
theorem dX12_countWords_51 : decode cX12_countWords 51 = .ok (.aload_n 0, 1) := by decide +kernel
theorem dX12_countWords_52 : decode cX12_countWords 52 = .ok (.getfield 151, 3) := by decide +kernel
theorem dX12_countWords_55 : decode cX12_countWords 55 = .ok (.iload_n 2, 1) := by decide +kernel
theorem dX12_countWords_56 : decode cX12_countWords 56 = .ok (.laload, 1) := by decide +kernel
theorem dX12_countWords_57 : decode cX12_countWords 57 = .ok (.lreturn, 1) := by decide +kernel
set_option maxRecDepth 20000 in
theorem ggX12_firstInto_X12_answerAt : GoodIn wsX12_firstInto wsX12_answerAt := goodIn_r _ [10, 11, 12, 13, 14, 15, 16, 17, 18, 19, 9, 20, 21, 22, 23, 24, 25, 26, 27, 28, 29, 30, 31, 32, 33, 34, 35, 36, 37, 38, 39, 40, 41, 42, 43, 44, 45, 46, 47, 48, 49, 50, 51, 52, 53, 54, 55, 56, 57, 58, 59, 60, 61, 62, 63, 64, 65, 66, 67, 68, 69, 70, 71, 72, 73, 74, 75, 76, 77, 78, 79, 80, 81, 82, 83, 84, 85, 86, 87, 88, 89, 90, 91, 92, 93, 94, 95] (by decide +kernel) (by decide +kernel)
set_option maxRecDepth 20000 in
theorem gX12_firstInto_X12_answerAt : GoodIn wsX12_firstInto (wsV RX12 306 RX12 yX12_answerAt wsX12_answerAt) := goodIn_app (goodIn_of _ (by decide +kernel)) ggX12_firstInto_X12_answerAt
theorem dX12_firstInto_0 : decode cX12_firstInto 0 = .ok (.iconst 0, 1) := by decide +kernel
theorem dX12_firstInto_1 : decode cX12_firstInto 1 = .ok (.istore_n 2, 1) := by decide +kernel
theorem dX12_firstInto_2 : decode cX12_firstInto 2 = .ok (.iload_n 2, 1) := by decide +kernel
theorem dX12_firstInto_3 : decode cX12_firstInto 3 = .ok (.aload_n 0, 1) := by decide +kernel
theorem dX12_firstInto_4 : decode cX12_firstInto 4 = .ok (.getfield 266, 3) := by decide +kernel
theorem dX12_firstInto_7 : decode cX12_firstInto 7 = .ok (.if_icmp .ge 118, 3) := by decide +kernel
theorem dX12_firstInto_10 : decode cX12_firstInto 10 = .ok (.aload_n 0, 1) := by decide +kernel
theorem dX12_firstInto_11 : decode cX12_firstInto 11 = .ok (.iload_n 2, 1) := by decide +kernel
theorem dX12_firstInto_12 : decode cX12_firstInto 12 = .ok (.iconst 0, 1) := by decide +kernel
theorem dX12_firstInto_13 : decode cX12_firstInto 13 = .ok (.invokevirtual 306, 3) := by decide +kernel
theorem dX12_firstInto_16 : decode cX12_firstInto 16 = .ok (.ifCond .ne 6, 3) := by decide +kernel
theorem dX12_firstInto_19 : decode cX12_firstInto 19 = .ok (.goto 100, 3) := by decide +kernel
theorem dX12_firstInto_22 : decode cX12_firstInto 22 = .ok (.iconst 0, 1) := by decide +kernel
theorem dX12_firstInto_23 : decode cX12_firstInto 23 = .ok (.istore_n 3, 1) := by decide +kernel
theorem dX12_firstInto_24 : decode cX12_firstInto 24 = .ok (.iload_n 2, 1) := by decide +kernel
theorem dX12_firstInto_25 : decode cX12_firstInto 25 = .ok (.istore 4, 2) := by decide +kernel
theorem dX12_firstInto_27 : decode cX12_firstInto 27 = .ok (.aload_n 0, 1) := by decide +kernel
theorem dX12_firstInto_28 : decode cX12_firstInto 28 = .ok (.getfield 123, 3) := by decide +kernel
theorem dX12_firstInto_31 : decode cX12_firstInto 31 = .ok (.iload 4, 2) := by decide +kernel
theorem dX12_firstInto_33 : decode cX12_firstInto 33 = .ok (.iaload, 1) := by decide +kernel
theorem dX12_firstInto_34 : decode cX12_firstInto 34 = .ok (.ifCond .lt 18, 3) := by decide +kernel
theorem dX12_firstInto_37 : decode cX12_firstInto 37 = .ok (.iinc 3 1, 3) := by decide +kernel
theorem dX12_firstInto_40 : decode cX12_firstInto 40 = .ok (.aload_n 0, 1) := by decide +kernel
theorem dX12_firstInto_41 : decode cX12_firstInto 41 = .ok (.getfield 123, 3) := by decide +kernel
theorem dX12_firstInto_44 : decode cX12_firstInto 44 = .ok (.iload 4, 2) := by decide +kernel
theorem dX12_firstInto_46 : decode cX12_firstInto 46 = .ok (.iaload, 1) := by decide +kernel
theorem dX12_firstInto_47 : decode cX12_firstInto 47 = .ok (.istore 4, 2) := by decide +kernel
theorem dX12_firstInto_49 : decode cX12_firstInto 49 = .ok (.goto (-22), 3) := by decide +kernel
theorem dX12_firstInto_52 : decode cX12_firstInto 52 = .ok (.iload_n 3, 1) := by decide +kernel
theorem dX12_firstInto_53 : decode cX12_firstInto 53 = .ok (.bipush 12, 2) := by decide +kernel
theorem dX12_firstInto_55 : decode cX12_firstInto 55 = .ok (.if_icmp .le 5, 3) := by decide +kernel
theorem dX12_firstInto_58 : decode cX12_firstInto 58 = .ok (.iload_n 3, 1) := by decide +kernel
theorem dX12_firstInto_59 : decode cX12_firstInto 59 = .ok (.ireturn, 1) := by decide +kernel
theorem dX12_firstInto_60 : decode cX12_firstInto 60 = .ok (.aload_n 0, 1) := by decide +kernel
theorem dX12_firstInto_61 : decode cX12_firstInto 61 = .ok (.getfield 13, 3) := by decide +kernel
theorem dX12_firstInto_64 : decode cX12_firstInto 64 = .ok (.iload_n 1, 1) := by decide +kernel
theorem dX12_firstInto_65 : decode cX12_firstInto 65 = .ok (.iload_n 3, 1) := by decide +kernel
theorem dX12_firstInto_66 : decode cX12_firstInto 66 = .ok (.iastore, 1) := by decide +kernel
theorem dX12_firstInto_67 : decode cX12_firstInto 67 = .ok (.iload_n 3, 1) := by decide +kernel
theorem dX12_firstInto_68 : decode cX12_firstInto 68 = .ok (.istore 4, 2) := by decide +kernel
theorem dX12_firstInto_70 : decode cX12_firstInto 70 = .ok (.iload_n 2, 1) := by decide +kernel
theorem dX12_firstInto_71 : decode cX12_firstInto 71 = .ok (.istore 5, 2) := by decide +kernel
theorem dX12_firstInto_73 : decode cX12_firstInto 73 = .ok (.aload_n 0, 1) := by decide +kernel
theorem dX12_firstInto_74 : decode cX12_firstInto 74 = .ok (.getfield 123, 3) := by decide +kernel
theorem dX12_firstInto_77 : decode cX12_firstInto 77 = .ok (.iload 5, 2) := by decide +kernel
theorem dX12_firstInto_79 : decode cX12_firstInto 79 = .ok (.iaload, 1) := by decide +kernel
theorem dX12_firstInto_80 : decode cX12_firstInto 80 = .ok (.ifCond .lt 37, 3) := by decide +kernel
theorem dX12_firstInto_83 : decode cX12_firstInto 83 = .ok (.iinc 4 (-1), 3) := by decide +kernel
theorem dX12_firstInto_86 : decode cX12_firstInto 86 = .ok (.aload_n 0, 1) := by decide +kernel
theorem dX12_firstInto_87 : decode cX12_firstInto 87 = .ok (.getfield 17, 3) := by decide +kernel
theorem dX12_firstInto_90 : decode cX12_firstInto 90 = .ok (.bipush 12, 2) := by decide +kernel
theorem dX12_firstInto_92 : decode cX12_firstInto 92 = .ok (.iload_n 1, 1) := by decide +kernel
theorem dX12_firstInto_93 : decode cX12_firstInto 93 = .ok (.imul, 1) := by decide +kernel
theorem dX12_firstInto_94 : decode cX12_firstInto 94 = .ok (.iload 4, 2) := by decide +kernel
theorem dX12_firstInto_96 : decode cX12_firstInto 96 = .ok (.iadd, 1) := by decide +kernel
theorem dX12_firstInto_97 : decode cX12_firstInto 97 = .ok (.aload_n 0, 1) := by decide +kernel
theorem dX12_firstInto_98 : decode cX12_firstInto 98 = .ok (.getfield 126, 3) := by decide +kernel
theorem dX12_firstInto_101 : decode cX12_firstInto 101 = .ok (.iload 5, 2) := by decide +kernel
theorem dX12_firstInto_103 : decode cX12_firstInto 103 = .ok (.iaload, 1) := by decide +kernel
theorem dX12_firstInto_104 : decode cX12_firstInto 104 = .ok (.iastore, 1) := by decide +kernel
theorem dX12_firstInto_105 : decode cX12_firstInto 105 = .ok (.aload_n 0, 1) := by decide +kernel
theorem dX12_firstInto_106 : decode cX12_firstInto 106 = .ok (.getfield 123, 3) := by decide +kernel
theorem dX12_firstInto_109 : decode cX12_firstInto 109 = .ok (.iload 5, 2) := by decide +kernel
theorem dX12_firstInto_111 : decode cX12_firstInto 111 = .ok (.iaload, 1) := by decide +kernel
theorem dX12_firstInto_112 : decode cX12_firstInto 112 = .ok (.istore 5, 2) := by decide +kernel
theorem dX12_firstInto_114 : decode cX12_firstInto 114 = .ok (.goto (-41), 3) := by decide +kernel
theorem dX12_firstInto_117 : decode cX12_firstInto 117 = .ok (.iload_n 3, 1) := by decide +kernel
theorem dX12_firstInto_118 : decode cX12_firstInto 118 = .ok (.ireturn, 1) := by decide +kernel
theorem dX12_firstInto_119 : decode cX12_firstInto 119 = .ok (.iinc 2 1, 3) := by decide +kernel
theorem dX12_firstInto_122 : decode cX12_firstInto 122 = .ok (.goto (-120), 3) := by decide +kernel
theorem dX12_firstInto_125 : decode cX12_firstInto 125 = .ok (.bipush (-2), 2) := by decide +kernel
theorem dX12_firstInto_127 : decode cX12_firstInto 127 = .ok (.ireturn, 1) := by decide +kernel
set_option maxRecDepth 20000 in
theorem ggX12_firstWord_X12_isLanguage : GoodIn wsX12_firstWord wsX12_isLanguage := goodIn_r _ [5, 6, 7, 4, 8] (by decide +kernel) (by decide +kernel)
set_option maxRecDepth 20000 in
theorem gX12_firstWord_X12_isLanguage : GoodIn wsX12_firstWord (va_wsS RX12 227 yX12_isLanguage wsX12_isLanguage) := goodIn_app (goodIn_of _ (by decide +kernel)) ggX12_firstWord_X12_isLanguage
set_option maxRecDepth 20000 in
theorem ggX12_firstWord_X12_isWord : GoodIn wsX12_firstWord wsX12_isWord := goodIn_r _ [11, 6, 7, 4, 8] (by decide +kernel) (by decide +kernel)
set_option maxRecDepth 20000 in
theorem gX12_firstWord_X12_isWord : GoodIn wsX12_firstWord (va_wsS RX12 176 yX12_isWord wsX12_isWord) := goodIn_app (goodIn_of _ (by decide +kernel)) ggX12_firstWord_X12_isWord
set_option maxRecDepth 20000 in
theorem ggX12_firstWord_X12_buildsLanguage : GoodIn wsX12_firstWord wsX12_buildsLanguage := goodIn_r _ [15, 16, 17, 18, 19, 20, 21, 22, 23, 4, 24, 25, 26, 27, 28, 29, 30, 31, 32, 33, 34, 35, 36, 37, 38, 39, 40, 41, 42, 43, 44, 45, 46, 47, 48, 49, 50, 51, 52, 53, 54, 55, 56, 57, 58, 59, 60, 61, 62, 63, 64, 65, 66, 67, 68, 69, 70, 71, 72, 73, 74, 75, 76, 77, 78, 79, 80, 81, 82, 83, 84, 85, 101, 102, 103, 104, 105, 106, 107, 108, 109, 110, 111, 112, 113, 114, 115, 116, 117, 118, 119, 120, 121, 122, 123, 124, 125, 126, 127, 128, 129, 130, 131, 132, 133, 134, 135, 136, 137, 138, 139, 140, 141, 142, 143, 144, 145, 146, 147, 148, 149, 150, 151, 152, 153, 154, 155, 156, 157, 158, 159, 160, 161, 162, 163, 164, 165, 166, 167, 168] (by decide +kernel) (by decide +kernel)
set_option maxRecDepth 20000 in
theorem gX12_firstWord_X12_buildsLanguage : GoodIn wsX12_firstWord (wsV RX12 345 RX12 yX12_buildsLanguage wsX12_buildsLanguage) := goodIn_app (goodIn_of _ (by decide +kernel)) ggX12_firstWord_X12_buildsLanguage
set_option maxRecDepth 20000 in
theorem ggX12_firstWord_X12_firstInto : GoodIn wsX12_firstWord wsX12_firstInto := goodIn_r _ [89, 44, 67, 90, 91, 68, 92, 93, 94, 4, 95, 16, 38, 20, 18, 17, 96, 97, 98, 99, 100, 46, 47, 37, 78, 79, 80, 77, 101, 102, 103, 104, 105, 106, 107, 108, 109, 110, 111, 112, 113, 114, 115, 116, 117, 118, 119, 120, 121, 122, 123, 124, 125, 126, 127, 128, 129, 130, 131, 132, 133, 134, 135, 136, 137, 138, 139, 140, 141, 142, 143, 144, 145, 146, 147, 148, 149, 150, 151, 152, 153, 154, 155, 156, 157, 158, 159, 160, 161, 162, 163, 164, 165, 166, 167, 168] (by decide +kernel) (by decide +kernel)
set_option maxRecDepth 20000 in
theorem gX12_firstWord_X12_firstInto : GoodIn wsX12_firstWord (wsV RX12 357 RX12 yX12_firstInto wsX12_firstInto) := goodIn_app (goodIn_of _ (by decide +kernel)) ggX12_firstWord_X12_firstInto
theorem dX12_firstWord_0 : decode cX12_firstWord 0 = .ok (.iload_n 1, 1) := by decide +kernel
theorem dX12_firstWord_1 : decode cX12_firstWord 1 = .ok (.invokestatic 227, 3) := by decide +kernel
theorem dX12_firstWord_4 : decode cX12_firstWord 4 = .ok (.ifCond .eq 10, 3) := by decide +kernel
theorem dX12_firstWord_7 : decode cX12_firstWord 7 = .ok (.iload_n 2, 1) := by decide +kernel
theorem dX12_firstWord_8 : decode cX12_firstWord 8 = .ok (.invokestatic 176, 3) := by decide +kernel
theorem dX12_firstWord_11 : decode cX12_firstWord 11 = .ok (.ifCond .ne 5, 3) := by decide +kernel
theorem dX12_firstWord_14 : decode cX12_firstWord 14 = .ok (.iconst (-1), 1) := by decide +kernel
theorem dX12_firstWord_15 : decode cX12_firstWord 15 = .ok (.ireturn, 1) := by decide +kernel
theorem dX12_firstWord_16 : decode cX12_firstWord 16 = .ok (.aload_n 0, 1) := by decide +kernel
theorem dX12_firstWord_17 : decode cX12_firstWord 17 = .ok (.getfield 47, 3) := by decide +kernel
theorem dX12_firstWord_20 : decode cX12_firstWord 20 = .ok (.iload_n 1, 1) := by decide +kernel
theorem dX12_firstWord_21 : decode cX12_firstWord 21 = .ok (.iaload, 1) := by decide +kernel
theorem dX12_firstWord_22 : decode cX12_firstWord 22 = .ok (.ifCond .ge 6, 3) := by decide +kernel
theorem dX12_firstWord_25 : decode cX12_firstWord 25 = .ok (.bipush (-5), 2) := by decide +kernel
theorem dX12_firstWord_27 : decode cX12_firstWord 27 = .ok (.ireturn, 1) := by decide +kernel
theorem dX12_firstWord_28 : decode cX12_firstWord 28 = .ok (.aload_n 0, 1) := by decide +kernel
theorem dX12_firstWord_29 : decode cX12_firstWord 29 = .ok (.iload_n 1, 1) := by decide +kernel
theorem dX12_firstWord_30 : decode cX12_firstWord 30 = .ok (.invokevirtual 345, 3) := by decide +kernel
theorem dX12_firstWord_33 : decode cX12_firstWord 33 = .ok (.ifCond .eq 11, 3) := by decide +kernel
theorem dX12_firstWord_36 : decode cX12_firstWord 36 = .ok (.aload_n 0, 1) := by decide +kernel
theorem dX12_firstWord_37 : decode cX12_firstWord 37 = .ok (.iload_n 2, 1) := by decide +kernel
theorem dX12_firstWord_38 : decode cX12_firstWord 38 = .ok (.invokevirtual 357, 3) := by decide +kernel
theorem dX12_firstWord_41 : decode cX12_firstWord 41 = .ok (.goto 5, 3) := by decide +kernel
theorem dX12_firstWord_44 : decode cX12_firstWord 44 = .ok (.bipush (-4), 2) := by decide +kernel
theorem dX12_firstWord_46 : decode cX12_firstWord 46 = .ok (.ireturn, 1) := by decide +kernel
set_option maxRecDepth 20000 in
theorem ggX12_firstDifference_X12_isLanguage : GoodIn wsX12_firstDifference wsX12_isLanguage := goodIn_r _ [12, 13, 14, 11, 15] (by decide +kernel) (by decide +kernel)
set_option maxRecDepth 20000 in
theorem gX12_firstDifference_X12_isLanguage : GoodIn wsX12_firstDifference (va_wsS RX12 227 yX12_isLanguage wsX12_isLanguage) := goodIn_app (goodIn_of _ (by decide +kernel)) ggX12_firstDifference_X12_isLanguage
set_option maxRecDepth 20000 in
theorem ggX12_firstDifference_X12_isWord : GoodIn wsX12_firstDifference wsX12_isWord := goodIn_r _ [18, 13, 14, 11, 15] (by decide +kernel) (by decide +kernel)
set_option maxRecDepth 20000 in
theorem gX12_firstDifference_X12_isWord : GoodIn wsX12_firstDifference (va_wsS RX12 176 yX12_isWord wsX12_isWord) := goodIn_app (goodIn_of _ (by decide +kernel)) ggX12_firstDifference_X12_isWord
set_option maxRecDepth 20000 in
theorem ggX12_firstDifference_X12_addLanguage : GoodIn wsX12_firstDifference wsX12_addLanguage := goodIn_r _ [22, 23, 24, 25, 26, 27, 7, 28, 29, 30, 11, 31, 2, 32, 33, 34, 35, 36, 97, 98, 99, 100, 101, 102, 103, 104, 105, 106, 107, 108, 109, 110, 111, 112, 113, 114, 115, 116, 117, 118, 119, 120, 121, 122, 123, 124, 125, 126, 127, 128, 129, 130, 131, 132, 133, 134, 135, 136, 137, 138, 139, 140, 141, 142, 143, 144, 145, 146, 147, 148, 149, 150, 151, 152, 153, 154, 155, 156, 157, 158, 159, 160, 161, 162, 163, 164] (by decide +kernel) (by decide +kernel)
set_option maxRecDepth 20000 in
theorem gX12_firstDifference_X12_addLanguage : GoodIn wsX12_firstDifference (wsV RX12 320 RX12 yX12_addLanguage wsX12_addLanguage) := goodIn_app (goodIn_of _ (by decide +kernel)) ggX12_firstDifference_X12_addLanguage
set_option maxRecDepth 20000 in
theorem ggX12_firstDifference_X12_addPart : GoodIn wsX12_firstDifference wsX12_addPart := goodIn_r _ [31, 2, 32, 33, 34, 35, 36, 97, 98, 99, 100, 101, 102, 103, 104, 105, 106, 107, 108, 109, 110, 111, 112, 113, 114, 115, 116, 117, 118, 119, 120, 121, 122, 123, 124, 125, 126, 127, 128, 129, 130, 131, 132, 133, 134, 135, 136, 137, 138, 139, 140, 141, 142, 143, 144, 145, 146, 147, 148, 149, 150, 151, 152, 153, 154, 155, 156, 157, 158, 159, 160, 161, 162, 163, 164] (by decide +kernel) (by decide +kernel)
set_option maxRecDepth 20000 in
theorem gX12_firstDifference_X12_addPart : GoodIn wsX12_firstDifference (wsV RX12 247 RX12 yX12_addPart wsX12_addPart) := goodIn_app (goodIn_of _ (by decide +kernel)) ggX12_firstDifference_X12_addPart
set_option maxRecDepth 20000 in
theorem ggX12_firstDifference_X12_builds : GoodIn wsX12_firstDifference wsX12_builds := goodIn_r _ [40, 41, 42, 43, 44, 45, 46, 47, 48, 49, 11, 50, 51, 52, 53, 54, 55, 56, 57, 58, 59, 60, 61, 62, 63, 64, 65, 66, 67, 68, 69, 70, 71, 72, 73, 2, 74, 75, 76, 77, 78, 79, 80, 81, 82, 32, 33, 34, 36, 97, 98, 99, 100, 101, 102, 103, 104, 105, 106, 107, 108, 109, 110, 111, 112, 113, 114, 115, 116, 117, 118, 119, 120, 121, 122, 123, 124, 125, 126, 127, 128, 129, 130, 131, 132, 133, 134, 135, 136, 137, 138, 139, 140, 141, 142, 143, 144, 145, 146, 147, 148, 149, 150, 151, 152, 153, 154, 155, 156, 157, 158, 159, 160, 161, 162, 163, 164] (by decide +kernel) (by decide +kernel)
set_option maxRecDepth 20000 in
theorem gX12_firstDifference_X12_builds : GoodIn wsX12_firstDifference (wsV RX12 317 RX12 yX12_builds wsX12_builds) := goodIn_app (goodIn_of _ (by decide +kernel)) ggX12_firstDifference_X12_builds
set_option maxRecDepth 20000 in
theorem ggX12_firstDifference_X12_firstInto : GoodIn wsX12_firstDifference wsX12_firstInto := goodIn_r _ [86, 41, 64, 87, 88, 65, 89, 90, 91, 11, 92, 2, 35, 6, 4, 3, 8, 93, 94, 95, 96, 43, 44, 34, 75, 76, 77, 74, 97, 98, 99, 100, 101, 102, 103, 104, 105, 106, 107, 108, 109, 110, 111, 112, 113, 114, 115, 116, 117, 118, 119, 120, 121, 122, 123, 124, 125, 126, 127, 128, 129, 130, 131, 132, 133, 134, 135, 136, 137, 138, 139, 140, 141, 142, 143, 144, 145, 146, 147, 148, 149, 150, 151, 152, 153, 154, 155, 156, 157, 158, 159, 160, 161, 162, 163, 164] (by decide +kernel) (by decide +kernel)
set_option maxRecDepth 20000 in
theorem gX12_firstDifference_X12_firstInto : GoodIn wsX12_firstDifference (wsV RX12 357 RX12 yX12_firstInto wsX12_firstInto) := goodIn_app (goodIn_of _ (by decide +kernel)) ggX12_firstDifference_X12_firstInto
theorem dX12_firstDifference_0 : decode cX12_firstDifference 0 = .ok (.iload_n 1, 1) := by decide +kernel
theorem dX12_firstDifference_1 : decode cX12_firstDifference 1 = .ok (.invokestatic 227, 3) := by decide +kernel
theorem dX12_firstDifference_4 : decode cX12_firstDifference 4 = .ok (.ifCond .eq 17, 3) := by decide +kernel
theorem dX12_firstDifference_7 : decode cX12_firstDifference 7 = .ok (.iload_n 2, 1) := by decide +kernel
theorem dX12_firstDifference_8 : decode cX12_firstDifference 8 = .ok (.invokestatic 227, 3) := by decide +kernel
theorem dX12_firstDifference_11 : decode cX12_firstDifference 11 = .ok (.ifCond .eq 10, 3) := by decide +kernel
theorem dX12_firstDifference_14 : decode cX12_firstDifference 14 = .ok (.iload_n 3, 1) := by decide +kernel
theorem dX12_firstDifference_15 : decode cX12_firstDifference 15 = .ok (.invokestatic 176, 3) := by decide +kernel
theorem dX12_firstDifference_18 : decode cX12_firstDifference 18 = .ok (.ifCond .ne 5, 3) := by decide +kernel
theorem dX12_firstDifference_21 : decode cX12_firstDifference 21 = .ok (.iconst (-1), 1) := by decide +kernel
theorem dX12_firstDifference_22 : decode cX12_firstDifference 22 = .ok (.ireturn, 1) := by decide +kernel
theorem dX12_firstDifference_23 : decode cX12_firstDifference 23 = .ok (.aload_n 0, 1) := by decide +kernel
theorem dX12_firstDifference_24 : decode cX12_firstDifference 24 = .ok (.getfield 47, 3) := by decide +kernel
theorem dX12_firstDifference_27 : decode cX12_firstDifference 27 = .ok (.iload_n 1, 1) := by decide +kernel
theorem dX12_firstDifference_28 : decode cX12_firstDifference 28 = .ok (.iaload, 1) := by decide +kernel
theorem dX12_firstDifference_29 : decode cX12_firstDifference 29 = .ok (.ifCond .lt 12, 3) := by decide +kernel
theorem dX12_firstDifference_32 : decode cX12_firstDifference 32 = .ok (.aload_n 0, 1) := by decide +kernel
theorem dX12_firstDifference_33 : decode cX12_firstDifference 33 = .ok (.getfield 47, 3) := by decide +kernel
theorem dX12_firstDifference_36 : decode cX12_firstDifference 36 = .ok (.iload_n 2, 1) := by decide +kernel
theorem dX12_firstDifference_37 : decode cX12_firstDifference 37 = .ok (.iaload, 1) := by decide +kernel
theorem dX12_firstDifference_38 : decode cX12_firstDifference 38 = .ok (.ifCond .ge 6, 3) := by decide +kernel
theorem dX12_firstDifference_41 : decode cX12_firstDifference 41 = .ok (.bipush (-5), 2) := by decide +kernel
theorem dX12_firstDifference_43 : decode cX12_firstDifference 43 = .ok (.ireturn, 1) := by decide +kernel
theorem dX12_firstDifference_44 : decode cX12_firstDifference 44 = .ok (.aload_n 0, 1) := by decide +kernel
theorem dX12_firstDifference_45 : decode cX12_firstDifference 45 = .ok (.iconst 0, 1) := by decide +kernel
theorem dX12_firstDifference_46 : decode cX12_firstDifference 46 = .ok (.putfield 244, 3) := by decide +kernel
theorem dX12_firstDifference_49 : decode cX12_firstDifference 49 = .ok (.aload_n 0, 1) := by decide +kernel
theorem dX12_firstDifference_50 : decode cX12_firstDifference 50 = .ok (.iconst 1, 1) := by decide +kernel
theorem dX12_firstDifference_51 : decode cX12_firstDifference 51 = .ok (.putfield 297, 3) := by decide +kernel
theorem dX12_firstDifference_54 : decode cX12_firstDifference 54 = .ok (.aload_n 0, 1) := by decide +kernel
theorem dX12_firstDifference_55 : decode cX12_firstDifference 55 = .ok (.iload_n 1, 1) := by decide +kernel
theorem dX12_firstDifference_56 : decode cX12_firstDifference 56 = .ok (.invokevirtual 320, 3) := by decide +kernel
theorem dX12_firstDifference_59 : decode cX12_firstDifference 59 = .ok (.aload_n 0, 1) := by decide +kernel
theorem dX12_firstDifference_60 : decode cX12_firstDifference 60 = .ok (.aload_n 0, 1) := by decide +kernel
theorem dX12_firstDifference_61 : decode cX12_firstDifference 61 = .ok (.getfield 244, 3) := by decide +kernel
theorem dX12_firstDifference_64 : decode cX12_firstDifference 64 = .ok (.putfield 294, 3) := by decide +kernel
theorem dX12_firstDifference_67 : decode cX12_firstDifference 67 = .ok (.aload_n 0, 1) := by decide +kernel
theorem dX12_firstDifference_68 : decode cX12_firstDifference 68 = .ok (.aload_n 0, 1) := by decide +kernel
theorem dX12_firstDifference_69 : decode cX12_firstDifference 69 = .ok (.getfield 53, 3) := by decide +kernel
theorem dX12_firstDifference_72 : decode cX12_firstDifference 72 = .ok (.iload_n 1, 1) := by decide +kernel
theorem dX12_firstDifference_73 : decode cX12_firstDifference 73 = .ok (.iaload, 1) := by decide +kernel
theorem dX12_firstDifference_74 : decode cX12_firstDifference 74 = .ok (.putfield 291, 3) := by decide +kernel
theorem dX12_firstDifference_77 : decode cX12_firstDifference 77 = .ok (.aload_n 0, 1) := by decide +kernel
theorem dX12_firstDifference_78 : decode cX12_firstDifference 78 = .ok (.getfield 244, 3) := by decide +kernel
theorem dX12_firstDifference_81 : decode cX12_firstDifference 81 = .ok (.iconst 4, 1) := by decide +kernel
theorem dX12_firstDifference_82 : decode cX12_firstDifference 82 = .ok (.if_icmp .ge 19, 3) := by decide +kernel
theorem dX12_firstDifference_85 : decode cX12_firstDifference 85 = .ok (.aload_n 0, 1) := by decide +kernel
theorem dX12_firstDifference_86 : decode cX12_firstDifference 86 = .ok (.iconst 1, 1) := by decide +kernel
theorem dX12_firstDifference_87 : decode cX12_firstDifference 87 = .ok (.iconst 1, 1) := by decide +kernel
theorem dX12_firstDifference_88 : decode cX12_firstDifference 88 = .ok (.iconst 0, 1) := by decide +kernel
theorem dX12_firstDifference_89 : decode cX12_firstDifference 89 = .ok (.iconst (-1), 1) := by decide +kernel
theorem dX12_firstDifference_90 : decode cX12_firstDifference 90 = .ok (.aload_n 0, 1) := by decide +kernel
theorem dX12_firstDifference_91 : decode cX12_firstDifference 91 = .ok (.getfield 68, 3) := by decide +kernel
theorem dX12_firstDifference_94 : decode cX12_firstDifference 94 = .ok (.iconst 0, 1) := by decide +kernel
theorem dX12_firstDifference_95 : decode cX12_firstDifference 95 = .ok (.invokevirtual 247, 3) := by decide +kernel
theorem dX12_firstDifference_98 : decode cX12_firstDifference 98 = .ok (.goto (-21), 3) := by decide +kernel
theorem dX12_firstDifference_101 : decode cX12_firstDifference 101 = .ok (.aload_n 0, 1) := by decide +kernel
theorem dX12_firstDifference_102 : decode cX12_firstDifference 102 = .ok (.iload_n 2, 1) := by decide +kernel
theorem dX12_firstDifference_103 : decode cX12_firstDifference 103 = .ok (.invokevirtual 320, 3) := by decide +kernel
theorem dX12_firstDifference_106 : decode cX12_firstDifference 106 = .ok (.aload_n 0, 1) := by decide +kernel
theorem dX12_firstDifference_107 : decode cX12_firstDifference 107 = .ok (.aload_n 0, 1) := by decide +kernel
theorem dX12_firstDifference_108 : decode cX12_firstDifference 108 = .ok (.getfield 53, 3) := by decide +kernel
theorem dX12_firstDifference_111 : decode cX12_firstDifference 111 = .ok (.iload_n 2, 1) := by decide +kernel
theorem dX12_firstDifference_112 : decode cX12_firstDifference 112 = .ok (.iaload, 1) := by decide +kernel
theorem dX12_firstDifference_113 : decode cX12_firstDifference 113 = .ok (.putfield 301, 3) := by decide +kernel
theorem dX12_firstDifference_116 : decode cX12_firstDifference 116 = .ok (.aload_n 0, 1) := by decide +kernel
theorem dX12_firstDifference_117 : decode cX12_firstDifference 117 = .ok (.invokevirtual 317, 3) := by decide +kernel
theorem dX12_firstDifference_120 : decode cX12_firstDifference 120 = .ok (.ifCond .eq 11, 3) := by decide +kernel
theorem dX12_firstDifference_123 : decode cX12_firstDifference 123 = .ok (.aload_n 0, 1) := by decide +kernel
theorem dX12_firstDifference_124 : decode cX12_firstDifference 124 = .ok (.iload_n 3, 1) := by decide +kernel
theorem dX12_firstDifference_125 : decode cX12_firstDifference 125 = .ok (.invokevirtual 357, 3) := by decide +kernel
theorem dX12_firstDifference_128 : decode cX12_firstDifference 128 = .ok (.goto 5, 3) := by decide +kernel
theorem dX12_firstDifference_131 : decode cX12_firstDifference 131 = .ok (.bipush (-4), 2) := by decide +kernel
theorem dX12_firstDifference_133 : decode cX12_firstDifference 133 = .ok (.ireturn, 1) := by decide +kernel
set_option maxRecDepth 20000 in
theorem ggX12_isRow_X12_isBetween : GoodIn wsX12_isRow wsX12_isBetween := goodIn_r _ [4] (by decide +kernel) (by decide +kernel)
set_option maxRecDepth 20000 in
theorem gX12_isRow_X12_isBetween : GoodIn wsX12_isRow (va_wsS RX12 169 yX12_isBetween wsX12_isBetween) := goodIn_app (goodIn_of _ (by decide +kernel)) ggX12_isRow_X12_isBetween
theorem dX12_isRow_0 : decode cX12_isRow 0 = .ok (.iload_n 0, 1) := by decide +kernel
theorem dX12_isRow_1 : decode cX12_isRow 1 = .ok (.iconst 0, 1) := by decide +kernel
theorem dX12_isRow_2 : decode cX12_isRow 2 = .ok (.iconst 2, 1) := by decide +kernel
theorem dX12_isRow_3 : decode cX12_isRow 3 = .ok (.invokestatic 169, 3) := by decide +kernel
theorem dX12_isRow_6 : decode cX12_isRow 6 = .ok (.ireturn, 1) := by decide +kernel
theorem dX12_setItem_0 : decode cX12_setItem 0 = .ok (.aload_n 0, 1) := by decide +kernel
theorem dX12_setItem_1 : decode cX12_setItem 1 = .ok (.getfield 160, 3) := by decide +kernel
theorem dX12_setItem_4 : decode cX12_setItem 4 = .ok (.bipush 21, 2) := by decide +kernel
theorem dX12_setItem_6 : decode cX12_setItem 6 = .ok (.iload_n 1, 1) := by decide +kernel
theorem dX12_setItem_7 : decode cX12_setItem 7 = .ok (.imul, 1) := by decide +kernel
theorem dX12_setItem_8 : decode cX12_setItem 8 = .ok (.iload_n 2, 1) := by decide +kernel
theorem dX12_setItem_9 : decode cX12_setItem 9 = .ok (.iadd, 1) := by decide +kernel
theorem dX12_setItem_10 : decode cX12_setItem 10 = .ok (.aload_n 0, 1) := by decide +kernel
theorem dX12_setItem_11 : decode cX12_setItem 11 = .ok (.getfield 154, 3) := by decide +kernel
theorem dX12_setItem_14 : decode cX12_setItem 14 = .ok (.iload_n 1, 1) := by decide +kernel
theorem dX12_setItem_15 : decode cX12_setItem 15 = .ok (.iaload, 1) := by decide +kernel
theorem dX12_setItem_16 : decode cX12_setItem 16 = .ok (.ifCond .ne 9, 3) := by decide +kernel
theorem dX12_setItem_19 : decode cX12_setItem 19 = .ok (.lload_n 3, 1) := by decide +kernel
theorem dX12_setItem_20 : decode cX12_setItem 20 = .ok (.l2i, 1) := by decide +kernel
theorem dX12_setItem_21 : decode cX12_setItem 21 = .ok (.i2s, 1) := by decide +kernel
theorem dX12_setItem_22 : decode cX12_setItem 22 = .ok (.goto 5, 3) := by decide +kernel
theorem dX12_setItem_25 : decode cX12_setItem 25 = .ok (.lload_n 3, 1) := by decide +kernel
theorem dX12_setItem_26 : decode cX12_setItem 26 = .ok (.l2i, 1) := by decide +kernel
theorem dX12_setItem_27 : decode cX12_setItem 27 = .ok (.iastore, 1) := by decide +kernel
theorem dX12_setItem_28 : decode cX12_setItem 28 = .ok (.return_, 1) := by decide +kernel
set_option maxRecDepth 20000 in
theorem ggX12_newRow_X12_isRow : GoodIn wsX12_newRow wsX12_isRow := goodIn_r _ [7, 8, 9, 6, 10] (by decide +kernel) (by decide +kernel)
set_option maxRecDepth 20000 in
theorem gX12_newRow_X12_isRow : GoodIn wsX12_newRow (va_wsS RX12 360 yX12_isRow wsX12_isRow) := goodIn_app (goodIn_of _ (by decide +kernel)) ggX12_newRow_X12_isRow
set_option maxRecDepth 20000 in
theorem ggX12_newRow_X12_isBetween : GoodIn wsX12_newRow wsX12_isBetween := goodIn_r _ [10] (by decide +kernel) (by decide +kernel)
set_option maxRecDepth 20000 in
theorem gX12_newRow_X12_isBetween : GoodIn wsX12_newRow (va_wsS RX12 169 yX12_isBetween wsX12_isBetween) := goodIn_app (goodIn_of _ (by decide +kernel)) ggX12_newRow_X12_isBetween
theorem dX12_newRow_0 : decode cX12_newRow 0 = .ok (.iload_n 1, 1) := by decide +kernel
theorem dX12_newRow_1 : decode cX12_newRow 1 = .ok (.invokestatic 360, 3) := by decide +kernel
theorem dX12_newRow_4 : decode cX12_newRow 4 = .ok (.ifCond .eq 22, 3) := by decide +kernel
theorem dX12_newRow_7 : decode cX12_newRow 7 = .ok (.iload_n 2, 1) := by decide +kernel
theorem dX12_newRow_8 : decode cX12_newRow 8 = .ok (.iconst (-1), 1) := by decide +kernel
theorem dX12_newRow_9 : decode cX12_newRow 9 = .ok (.iconst 1, 1) := by decide +kernel
theorem dX12_newRow_10 : decode cX12_newRow 10 = .ok (.invokestatic 169, 3) := by decide +kernel
theorem dX12_newRow_13 : decode cX12_newRow 13 = .ok (.ifCond .eq 13, 3) := by decide +kernel
theorem dX12_newRow_16 : decode cX12_newRow 16 = .ok (.iload_n 2, 1) := by decide +kernel
theorem dX12_newRow_17 : decode cX12_newRow 17 = .ok (.ifCond .lt 11, 3) := by decide +kernel
theorem dX12_newRow_20 : decode cX12_newRow 20 = .ok (.iload_n 3, 1) := by decide +kernel
theorem dX12_newRow_21 : decode cX12_newRow 21 = .ok (.bipush 21, 2) := by decide +kernel
theorem dX12_newRow_23 : decode cX12_newRow 23 = .ok (.if_icmp .le 5, 3) := by decide +kernel
theorem dX12_newRow_26 : decode cX12_newRow 26 = .ok (.iconst (-1), 1) := by decide +kernel
theorem dX12_newRow_27 : decode cX12_newRow 27 = .ok (.ireturn, 1) := by decide +kernel
theorem dX12_newRow_28 : decode cX12_newRow 28 = .ok (.iload_n 2, 1) := by decide +kernel
theorem dX12_newRow_29 : decode cX12_newRow 29 = .ok (.ifCond .lt 10, 3) := by decide +kernel
theorem dX12_newRow_32 : decode cX12_newRow 32 = .ok (.iload_n 3, 1) := by decide +kernel
theorem dX12_newRow_33 : decode cX12_newRow 33 = .ok (.ifCond .ge 6, 3) := by decide +kernel
theorem dX12_newRow_36 : decode cX12_newRow 36 = .ok (.bipush (-14), 2) := by decide +kernel
theorem dX12_newRow_38 : decode cX12_newRow 38 = .ok (.ireturn, 1) := by decide +kernel
theorem dX12_newRow_39 : decode cX12_newRow 39 = .ok (.aload_n 0, 1) := by decide +kernel
theorem dX12_newRow_40 : decode cX12_newRow 40 = .ok (.getfield 154, 3) := by decide +kernel
theorem dX12_newRow_43 : decode cX12_newRow 43 = .ok (.iload_n 1, 1) := by decide +kernel
theorem dX12_newRow_44 : decode cX12_newRow 44 = .ok (.iload_n 2, 1) := by decide +kernel
theorem dX12_newRow_45 : decode cX12_newRow 45 = .ok (.iastore, 1) := by decide +kernel
theorem dX12_newRow_46 : decode cX12_newRow 46 = .ok (.aload_n 0, 1) := by decide +kernel
theorem dX12_newRow_47 : decode cX12_newRow 47 = .ok (.getfield 157, 3) := by decide +kernel
theorem dX12_newRow_50 : decode cX12_newRow 50 = .ok (.iload_n 1, 1) := by decide +kernel
theorem dX12_newRow_51 : decode cX12_newRow 51 = .ok (.iload_n 2, 1) := by decide +kernel
theorem dX12_newRow_52 : decode cX12_newRow 52 = .ok (.ifCond .ge 7, 3) := by decide +kernel
theorem dX12_newRow_55 : decode cX12_newRow 55 = .ok (.iconst 0, 1) := by decide +kernel
theorem dX12_newRow_56 : decode cX12_newRow 56 = .ok (.goto 4, 3) := by decide +kernel
theorem dX12_newRow_59 : decode cX12_newRow 59 = .ok (.iload_n 3, 1) := by decide +kernel
theorem dX12_newRow_60 : decode cX12_newRow 60 = .ok (.iastore, 1) := by decide +kernel
theorem dX12_newRow_61 : decode cX12_newRow 61 = .ok (.iconst 0, 1) := by decide +kernel
theorem dX12_newRow_62 : decode cX12_newRow 62 = .ok (.istore 4, 2) := by decide +kernel
theorem dX12_newRow_64 : decode cX12_newRow 64 = .ok (.iload 4, 2) := by decide +kernel
theorem dX12_newRow_66 : decode cX12_newRow 66 = .ok (.bipush 21, 2) := by decide +kernel
theorem dX12_newRow_68 : decode cX12_newRow 68 = .ok (.if_icmp .ge 22, 3) := by decide +kernel
theorem dX12_newRow_71 : decode cX12_newRow 71 = .ok (.aload_n 0, 1) := by decide +kernel
theorem dX12_newRow_72 : decode cX12_newRow 72 = .ok (.getfield 160, 3) := by decide +kernel
theorem dX12_newRow_75 : decode cX12_newRow 75 = .ok (.bipush 21, 2) := by decide +kernel
theorem dX12_newRow_77 : decode cX12_newRow 77 = .ok (.iload_n 1, 1) := by decide +kernel
theorem dX12_newRow_78 : decode cX12_newRow 78 = .ok (.imul, 1) := by decide +kernel
theorem dX12_newRow_79 : decode cX12_newRow 79 = .ok (.iload 4, 2) := by decide +kernel
theorem dX12_newRow_81 : decode cX12_newRow 81 = .ok (.iadd, 1) := by decide +kernel
theorem dX12_newRow_82 : decode cX12_newRow 82 = .ok (.iconst 0, 1) := by decide +kernel
theorem dX12_newRow_83 : decode cX12_newRow 83 = .ok (.iastore, 1) := by decide +kernel
theorem dX12_newRow_84 : decode cX12_newRow 84 = .ok (.iinc 4 1, 3) := by decide +kernel
theorem dX12_newRow_87 : decode cX12_newRow 87 = .ok (.goto (-23), 3) := by decide +kernel
theorem dX12_newRow_90 : decode cX12_newRow 90 = .ok (.iconst 1, 1) := by decide +kernel
theorem dX12_newRow_91 : decode cX12_newRow 91 = .ok (.ireturn, 1) := by decide +kernel
set_option maxRecDepth 20000 in
theorem ggX12_setElement_X12_isRow : GoodIn wsX12_setElement wsX12_isRow := goodIn_r _ [6, 7, 8, 5, 9] (by decide +kernel) (by decide +kernel)
set_option maxRecDepth 20000 in
theorem gX12_setElement_X12_isRow : GoodIn wsX12_setElement (va_wsS RX12 360 yX12_isRow wsX12_isRow) := goodIn_app (goodIn_of _ (by decide +kernel)) ggX12_setElement_X12_isRow
set_option maxRecDepth 20000 in
theorem ggX12_setElement_X12_isBetween : GoodIn wsX12_setElement wsX12_isBetween := goodIn_r _ [9] (by decide +kernel) (by decide +kernel)
set_option maxRecDepth 20000 in
theorem gX12_setElement_X12_isBetween : GoodIn wsX12_setElement (va_wsS RX12 169 yX12_isBetween wsX12_isBetween) := goodIn_app (goodIn_of _ (by decide +kernel)) ggX12_setElement_X12_isBetween
set_option maxRecDepth 20000 in
theorem ggX12_setElement_X12_setItem : GoodIn wsX12_setElement wsX12_setItem := goodIn_r _ [13, 14, 1, 15, 16, 17, 18, 19, 20, 21, 22, 23, 24, 25, 26, 27, 28, 29, 30, 31, 32, 33, 34, 35, 36, 37, 38, 39, 40, 41, 42, 43, 44, 45, 46, 47, 48, 49, 50, 51, 52, 53, 54, 55, 56, 57, 58, 59, 60, 61, 62, 63, 64, 65, 66, 67, 68, 69, 70, 71, 72, 73, 74, 75, 76, 77, 78, 79, 80, 81, 82] (by decide +kernel) (by decide +kernel)
set_option maxRecDepth 20000 in
theorem gX12_setElement_X12_setItem : GoodIn wsX12_setElement (wsV RX12 363 RX12 yX12_setItem wsX12_setItem) := goodIn_app (goodIn_of _ (by decide +kernel)) ggX12_setElement_X12_setItem
theorem dX12_setElement_0 : decode cX12_setElement 0 = .ok (.iload_n 1, 1) := by decide +kernel
theorem dX12_setElement_1 : decode cX12_setElement 1 = .ok (.invokestatic 360, 3) := by decide +kernel
theorem dX12_setElement_4 : decode cX12_setElement 4 = .ok (.ifCond .ne 5, 3) := by decide +kernel
theorem dX12_setElement_7 : decode cX12_setElement 7 = .ok (.iconst (-1), 1) := by decide +kernel
theorem dX12_setElement_8 : decode cX12_setElement 8 = .ok (.ireturn, 1) := by decide +kernel
theorem dX12_setElement_9 : decode cX12_setElement 9 = .ok (.aload_n 0, 1) := by decide +kernel
theorem dX12_setElement_10 : decode cX12_setElement 10 = .ok (.getfield 154, 3) := by decide +kernel
theorem dX12_setElement_13 : decode cX12_setElement 13 = .ok (.iload_n 1, 1) := by decide +kernel
theorem dX12_setElement_14 : decode cX12_setElement 14 = .ok (.iaload, 1) := by decide +kernel
theorem dX12_setElement_15 : decode cX12_setElement 15 = .ok (.ifCond .ge 6, 3) := by decide +kernel
theorem dX12_setElement_18 : decode cX12_setElement 18 = .ok (.bipush (-11), 2) := by decide +kernel
theorem dX12_setElement_20 : decode cX12_setElement 20 = .ok (.ireturn, 1) := by decide +kernel
theorem dX12_setElement_21 : decode cX12_setElement 21 = .ok (.iload_n 2, 1) := by decide +kernel
theorem dX12_setElement_22 : decode cX12_setElement 22 = .ok (.iconst 0, 1) := by decide +kernel
theorem dX12_setElement_23 : decode cX12_setElement 23 = .ok (.aload_n 0, 1) := by decide +kernel
theorem dX12_setElement_24 : decode cX12_setElement 24 = .ok (.getfield 157, 3) := by decide +kernel
theorem dX12_setElement_27 : decode cX12_setElement 27 = .ok (.iload_n 1, 1) := by decide +kernel
theorem dX12_setElement_28 : decode cX12_setElement 28 = .ok (.iaload, 1) := by decide +kernel
theorem dX12_setElement_29 : decode cX12_setElement 29 = .ok (.iconst 1, 1) := by decide +kernel
theorem dX12_setElement_30 : decode cX12_setElement 30 = .ok (.isub, 1) := by decide +kernel
theorem dX12_setElement_31 : decode cX12_setElement 31 = .ok (.invokestatic 169, 3) := by decide +kernel
theorem dX12_setElement_34 : decode cX12_setElement 34 = .ok (.ifCond .ne 6, 3) := by decide +kernel
theorem dX12_setElement_37 : decode cX12_setElement 37 = .ok (.bipush (-13), 2) := by decide +kernel
theorem dX12_setElement_39 : decode cX12_setElement 39 = .ok (.ireturn, 1) := by decide +kernel
theorem dX12_setElement_40 : decode cX12_setElement 40 = .ok (.aload_n 0, 1) := by decide +kernel
theorem dX12_setElement_41 : decode cX12_setElement 41 = .ok (.iload_n 1, 1) := by decide +kernel
theorem dX12_setElement_42 : decode cX12_setElement 42 = .ok (.iload_n 2, 1) := by decide +kernel
theorem dX12_setElement_43 : decode cX12_setElement 43 = .ok (.iload_n 3, 1) := by decide +kernel
theorem dX12_setElement_44 : decode cX12_setElement 44 = .ok (.i2l, 1) := by decide +kernel
theorem dX12_setElement_45 : decode cX12_setElement 45 = .ok (.invokevirtual 363, 3) := by decide +kernel
theorem dX12_setElement_48 : decode cX12_setElement 48 = .ok (.iconst 1, 1) := by decide +kernel
theorem dX12_setElement_49 : decode cX12_setElement 49 = .ok (.ireturn, 1) := by decide +kernel
set_option maxRecDepth 20000 in
theorem ggX12_element_X12_isRow : GoodIn wsX12_element wsX12_isRow := goodIn_r _ [8, 9, 10, 7, 11] (by decide +kernel) (by decide +kernel)
set_option maxRecDepth 20000 in
theorem gX12_element_X12_isRow : GoodIn wsX12_element (va_wsS RX12 360 yX12_isRow wsX12_isRow) := goodIn_app (goodIn_of _ (by decide +kernel)) ggX12_element_X12_isRow
set_option maxRecDepth 20000 in
theorem ggX12_element_X12_isBetween : GoodIn wsX12_element wsX12_isBetween := goodIn_r _ [11] (by decide +kernel) (by decide +kernel)
set_option maxRecDepth 20000 in
theorem gX12_element_X12_isBetween : GoodIn wsX12_element (va_wsS RX12 169 yX12_isBetween wsX12_isBetween) := goodIn_app (goodIn_of _ (by decide +kernel)) ggX12_element_X12_isBetween
theorem dX12_element_0 : decode cX12_element 0 = .ok (.iload_n 1, 1) := by decide +kernel
theorem dX12_element_1 : decode cX12_element 1 = .ok (.invokestatic 360, 3) := by decide +kernel
theorem dX12_element_4 : decode cX12_element 4 = .ok (.ifCond .eq 43, 3) := by decide +kernel
theorem dX12_element_7 : decode cX12_element 7 = .ok (.aload_n 0, 1) := by decide +kernel
theorem dX12_element_8 : decode cX12_element 8 = .ok (.getfield 154, 3) := by decide +kernel
theorem dX12_element_11 : decode cX12_element 11 = .ok (.iload_n 1, 1) := by decide +kernel
theorem dX12_element_12 : decode cX12_element 12 = .ok (.iaload, 1) := by decide +kernel
theorem dX12_element_13 : decode cX12_element 13 = .ok (.ifCond .lt 34, 3) := by decide +kernel
theorem dX12_element_16 : decode cX12_element 16 = .ok (.iload_n 2, 1) := by decide +kernel
theorem dX12_element_17 : decode cX12_element 17 = .ok (.iconst 0, 1) := by decide +kernel
theorem dX12_element_18 : decode cX12_element 18 = .ok (.aload_n 0, 1) := by decide +kernel
theorem dX12_element_19 : decode cX12_element 19 = .ok (.getfield 157, 3) := by decide +kernel
theorem dX12_element_22 : decode cX12_element 22 = .ok (.iload_n 1, 1) := by decide +kernel
theorem dX12_element_23 : decode cX12_element 23 = .ok (.iaload, 1) := by decide +kernel
theorem dX12_element_24 : decode cX12_element 24 = .ok (.iconst 1, 1) := by decide +kernel
theorem dX12_element_25 : decode cX12_element 25 = .ok (.isub, 1) := by decide +kernel
theorem dX12_element_26 : decode cX12_element 26 = .ok (.invokestatic 169, 3) := by decide +kernel
theorem dX12_element_29 : decode cX12_element 29 = .ok (.ifCond .eq 18, 3) := by decide +kernel
theorem dX12_element_32 : decode cX12_element 32 = .ok (.aload_n 0, 1) := by decide +kernel
theorem dX12_element_33 : decode cX12_element 33 = .ok (.getfield 160, 3) := by decide +kernel
theorem dX12_element_36 : decode cX12_element 36 = .ok (.bipush 21, 2) := by decide +kernel
theorem dX12_element_38 : decode cX12_element 38 = .ok (.iload_n 1, 1) := by decide +kernel
theorem dX12_element_39 : decode cX12_element 39 = .ok (.imul, 1) := by decide +kernel
theorem dX12_element_40 : decode cX12_element 40 = .ok (.iload_n 2, 1) := by decide +kernel
theorem dX12_element_41 : decode cX12_element 41 = .ok (.iadd, 1) := by decide +kernel
theorem dX12_element_42 : decode cX12_element 42 = .ok (.iaload, 1) := by decide +kernel
theorem dX12_element_43 : decode cX12_element 43 = .ok (.i2l, 1) := by decide +kernel
theorem dX12_element_44 : decode cX12_element 44 = .ok (.goto 6, 3) := by decide +kernel
theorem dX12_element_47 : decode cX12_element 47 = .ok (.ldc2_w 369, 3) := by decide +kernel
theorem dX12_element_50 : decode cX12_element 50 = .ok (.lreturn, 1) := by decide +kernel
set_option maxRecDepth 20000 in
theorem ggX12_copyElements_X12_isRow : GoodIn wsX12_copyElements wsX12_isRow := goodIn_r _ [8, 9, 10, 7, 11] (by decide +kernel) (by decide +kernel)
set_option maxRecDepth 20000 in
theorem gX12_copyElements_X12_isRow : GoodIn wsX12_copyElements (va_wsS RX12 360 yX12_isRow wsX12_isRow) := goodIn_app (goodIn_of _ (by decide +kernel)) ggX12_copyElements_X12_isRow
theorem dX12_copyElements_0 : decode cX12_copyElements 0 = .ok (.iload_n 1, 1) := by decide +kernel
theorem dX12_copyElements_1 : decode cX12_copyElements 1 = .ok (.invokestatic 360, 3) := by decide +kernel
theorem dX12_copyElements_4 : decode cX12_copyElements 4 = .ok (.ifCond .eq 10, 3) := by decide +kernel
theorem dX12_copyElements_7 : decode cX12_copyElements 7 = .ok (.iload_n 3, 1) := by decide +kernel
theorem dX12_copyElements_8 : decode cX12_copyElements 8 = .ok (.invokestatic 360, 3) := by decide +kernel
theorem dX12_copyElements_11 : decode cX12_copyElements 11 = .ok (.ifCond .ne 5, 3) := by decide +kernel
theorem dX12_copyElements_14 : decode cX12_copyElements 14 = .ok (.iconst (-1), 1) := by decide +kernel
theorem dX12_copyElements_15 : decode cX12_copyElements 15 = .ok (.ireturn, 1) := by decide +kernel
theorem dX12_copyElements_16 : decode cX12_copyElements 16 = .ok (.aload_n 0, 1) := by decide +kernel
theorem dX12_copyElements_17 : decode cX12_copyElements 17 = .ok (.getfield 154, 3) := by decide +kernel
theorem dX12_copyElements_20 : decode cX12_copyElements 20 = .ok (.iload_n 1, 1) := by decide +kernel
theorem dX12_copyElements_21 : decode cX12_copyElements 21 = .ok (.iaload, 1) := by decide +kernel
theorem dX12_copyElements_22 : decode cX12_copyElements 22 = .ok (.ifCond .lt 12, 3) := by decide +kernel
theorem dX12_copyElements_25 : decode cX12_copyElements 25 = .ok (.aload_n 0, 1) := by decide +kernel
theorem dX12_copyElements_26 : decode cX12_copyElements 26 = .ok (.getfield 154, 3) := by decide +kernel
theorem dX12_copyElements_29 : decode cX12_copyElements 29 = .ok (.iload_n 3, 1) := by decide +kernel
theorem dX12_copyElements_30 : decode cX12_copyElements 30 = .ok (.iaload, 1) := by decide +kernel
theorem dX12_copyElements_31 : decode cX12_copyElements 31 = .ok (.ifCond .ge 6, 3) := by decide +kernel
theorem dX12_copyElements_34 : decode cX12_copyElements 34 = .ok (.bipush (-11), 2) := by decide +kernel
theorem dX12_copyElements_36 : decode cX12_copyElements 36 = .ok (.ireturn, 1) := by decide +kernel
theorem dX12_copyElements_37 : decode cX12_copyElements 37 = .ok (.aload_n 0, 1) := by decide +kernel
theorem dX12_copyElements_38 : decode cX12_copyElements 38 = .ok (.getfield 154, 3) := by decide +kernel
theorem dX12_copyElements_41 : decode cX12_copyElements 41 = .ok (.iload_n 1, 1) := by decide +kernel
theorem dX12_copyElements_42 : decode cX12_copyElements 42 = .ok (.iaload, 1) := by decide +kernel
theorem dX12_copyElements_43 : decode cX12_copyElements 43 = .ok (.aload_n 0, 1) := by decide +kernel
theorem dX12_copyElements_44 : decode cX12_copyElements 44 = .ok (.getfield 154, 3) := by decide +kernel
theorem dX12_copyElements_47 : decode cX12_copyElements 47 = .ok (.iload_n 3, 1) := by decide +kernel
theorem dX12_copyElements_48 : decode cX12_copyElements 48 = .ok (.iaload, 1) := by decide +kernel
theorem dX12_copyElements_49 : decode cX12_copyElements 49 = .ok (.if_icmp .eq 6, 3) := by decide +kernel
theorem dX12_copyElements_52 : decode cX12_copyElements 52 = .ok (.bipush (-6), 2) := by decide +kernel
theorem dX12_copyElements_54 : decode cX12_copyElements 54 = .ok (.ireturn, 1) := by decide +kernel
theorem dX12_copyElements_55 : decode cX12_copyElements 55 = .ok (.iload 5, 2) := by decide +kernel
theorem dX12_copyElements_57 : decode cX12_copyElements 57 = .ok (.ifCond .lt 47, 3) := by decide +kernel
theorem dX12_copyElements_60 : decode cX12_copyElements 60 = .ok (.iload_n 2, 1) := by decide +kernel
theorem dX12_copyElements_61 : decode cX12_copyElements 61 = .ok (.ifCond .lt 43, 3) := by decide +kernel
theorem dX12_copyElements_64 : decode cX12_copyElements 64 = .ok (.iload 4, 2) := by decide +kernel
theorem dX12_copyElements_66 : decode cX12_copyElements 66 = .ok (.ifCond .lt 38, 3) := by decide +kernel
theorem dX12_copyElements_69 : decode cX12_copyElements 69 = .ok (.iload_n 2, 1) := by decide +kernel
theorem dX12_copyElements_70 : decode cX12_copyElements 70 = .ok (.i2l, 1) := by decide +kernel
theorem dX12_copyElements_71 : decode cX12_copyElements 71 = .ok (.iload 5, 2) := by decide +kernel
theorem dX12_copyElements_73 : decode cX12_copyElements 73 = .ok (.i2l, 1) := by decide +kernel
theorem dX12_copyElements_74 : decode cX12_copyElements 74 = .ok (.ladd, 1) := by decide +kernel
theorem dX12_copyElements_75 : decode cX12_copyElements 75 = .ok (.aload_n 0, 1) := by decide +kernel
theorem dX12_copyElements_76 : decode cX12_copyElements 76 = .ok (.getfield 157, 3) := by decide +kernel
theorem dX12_copyElements_79 : decode cX12_copyElements 79 = .ok (.iload_n 1, 1) := by decide +kernel
theorem dX12_copyElements_80 : decode cX12_copyElements 80 = .ok (.iaload, 1) := by decide +kernel
theorem dX12_copyElements_81 : decode cX12_copyElements 81 = .ok (.i2l, 1) := by decide +kernel
theorem dX12_copyElements_82 : decode cX12_copyElements 82 = .ok (.lcmp, 1) := by decide +kernel
theorem dX12_copyElements_83 : decode cX12_copyElements 83 = .ok (.ifCond .gt 21, 3) := by decide +kernel
theorem dX12_copyElements_86 : decode cX12_copyElements 86 = .ok (.iload 4, 2) := by decide +kernel
theorem dX12_copyElements_88 : decode cX12_copyElements 88 = .ok (.i2l, 1) := by decide +kernel
theorem dX12_copyElements_89 : decode cX12_copyElements 89 = .ok (.iload 5, 2) := by decide +kernel
theorem dX12_copyElements_91 : decode cX12_copyElements 91 = .ok (.i2l, 1) := by decide +kernel
theorem dX12_copyElements_92 : decode cX12_copyElements 92 = .ok (.ladd, 1) := by decide +kernel
theorem dX12_copyElements_93 : decode cX12_copyElements 93 = .ok (.aload_n 0, 1) := by decide +kernel
theorem dX12_copyElements_94 : decode cX12_copyElements 94 = .ok (.getfield 157, 3) := by decide +kernel
theorem dX12_copyElements_97 : decode cX12_copyElements 97 = .ok (.iload_n 3, 1) := by decide +kernel
theorem dX12_copyElements_98 : decode cX12_copyElements 98 = .ok (.iaload, 1) := by decide +kernel
theorem dX12_copyElements_99 : decode cX12_copyElements 99 = .ok (.i2l, 1) := by decide +kernel
theorem dX12_copyElements_100 : decode cX12_copyElements 100 = .ok (.lcmp, 1) := by decide +kernel
theorem dX12_copyElements_101 : decode cX12_copyElements 101 = .ok (.ifCond .le 6, 3) := by decide +kernel
theorem dX12_copyElements_104 : decode cX12_copyElements 104 = .ok (.bipush (-13), 2) := by decide +kernel
theorem dX12_copyElements_106 : decode cX12_copyElements 106 = .ok (.ireturn, 1) := by decide +kernel
theorem dX12_copyElements_107 : decode cX12_copyElements 107 = .ok (.iconst 0, 1) := by decide +kernel
theorem dX12_copyElements_108 : decode cX12_copyElements 108 = .ok (.istore 6, 2) := by decide +kernel
theorem dX12_copyElements_110 : decode cX12_copyElements 110 = .ok (.iload 6, 2) := by decide +kernel
theorem dX12_copyElements_112 : decode cX12_copyElements 112 = .ok (.iload 5, 2) := by decide +kernel
theorem dX12_copyElements_114 : decode cX12_copyElements 114 = .ok (.if_icmp .ge 30, 3) := by decide +kernel
theorem dX12_copyElements_117 : decode cX12_copyElements 117 = .ok (.aload_n 0, 1) := by decide +kernel
theorem dX12_copyElements_118 : decode cX12_copyElements 118 = .ok (.getfield 163, 3) := by decide +kernel
theorem dX12_copyElements_121 : decode cX12_copyElements 121 = .ok (.iload 6, 2) := by decide +kernel
theorem dX12_copyElements_123 : decode cX12_copyElements 123 = .ok (.aload_n 0, 1) := by decide +kernel
theorem dX12_copyElements_124 : decode cX12_copyElements 124 = .ok (.getfield 160, 3) := by decide +kernel
theorem dX12_copyElements_127 : decode cX12_copyElements 127 = .ok (.bipush 21, 2) := by decide +kernel
theorem dX12_copyElements_129 : decode cX12_copyElements 129 = .ok (.iload_n 1, 1) := by decide +kernel
theorem dX12_copyElements_130 : decode cX12_copyElements 130 = .ok (.imul, 1) := by decide +kernel
theorem dX12_copyElements_131 : decode cX12_copyElements 131 = .ok (.iload_n 2, 1) := by decide +kernel
theorem dX12_copyElements_132 : decode cX12_copyElements 132 = .ok (.iadd, 1) := by decide +kernel
theorem dX12_copyElements_133 : decode cX12_copyElements 133 = .ok (.iload 6, 2) := by decide +kernel
theorem dX12_copyElements_135 : decode cX12_copyElements 135 = .ok (.iadd, 1) := by decide +kernel
theorem dX12_copyElements_136 : decode cX12_copyElements 136 = .ok (.iaload, 1) := by decide +kernel
theorem dX12_copyElements_137 : decode cX12_copyElements 137 = .ok (.iastore, 1) := by decide +kernel
theorem dX12_copyElements_138 : decode cX12_copyElements 138 = .ok (.iinc 6 1, 3) := by decide +kernel
theorem dX12_copyElements_141 : decode cX12_copyElements 141 = .ok (.goto (-31), 3) := by decide +kernel
theorem dX12_copyElements_144 : decode cX12_copyElements 144 = .ok (.iconst 0, 1) := by decide +kernel
theorem dX12_copyElements_145 : decode cX12_copyElements 145 = .ok (.istore 6, 2) := by decide +kernel
theorem dX12_copyElements_147 : decode cX12_copyElements 147 = .ok (.iload 6, 2) := by decide +kernel
theorem dX12_copyElements_149 : decode cX12_copyElements 149 = .ok (.iload 5, 2) := by decide +kernel
theorem dX12_copyElements_151 : decode cX12_copyElements 151 = .ok (.if_icmp .ge 31, 3) := by decide +kernel
theorem dX12_copyElements_154 : decode cX12_copyElements 154 = .ok (.aload_n 0, 1) := by decide +kernel
theorem dX12_copyElements_155 : decode cX12_copyElements 155 = .ok (.getfield 160, 3) := by decide +kernel
theorem dX12_copyElements_158 : decode cX12_copyElements 158 = .ok (.bipush 21, 2) := by decide +kernel
theorem dX12_copyElements_160 : decode cX12_copyElements 160 = .ok (.iload_n 3, 1) := by decide +kernel
theorem dX12_copyElements_161 : decode cX12_copyElements 161 = .ok (.imul, 1) := by decide +kernel
theorem dX12_copyElements_162 : decode cX12_copyElements 162 = .ok (.iload 4, 2) := by decide +kernel
theorem dX12_copyElements_164 : decode cX12_copyElements 164 = .ok (.iadd, 1) := by decide +kernel
theorem dX12_copyElements_165 : decode cX12_copyElements 165 = .ok (.iload 6, 2) := by decide +kernel
theorem dX12_copyElements_167 : decode cX12_copyElements 167 = .ok (.iadd, 1) := by decide +kernel
theorem dX12_copyElements_168 : decode cX12_copyElements 168 = .ok (.aload_n 0, 1) := by decide +kernel
theorem dX12_copyElements_169 : decode cX12_copyElements 169 = .ok (.getfield 163, 3) := by decide +kernel
theorem dX12_copyElements_172 : decode cX12_copyElements 172 = .ok (.iload 6, 2) := by decide +kernel
theorem dX12_copyElements_174 : decode cX12_copyElements 174 = .ok (.iaload, 1) := by decide +kernel
theorem dX12_copyElements_175 : decode cX12_copyElements 175 = .ok (.iastore, 1) := by decide +kernel
theorem dX12_copyElements_176 : decode cX12_copyElements 176 = .ok (.iinc 6 1, 3) := by decide +kernel
theorem dX12_copyElements_179 : decode cX12_copyElements 179 = .ok (.goto (-32), 3) := by decide +kernel
theorem dX12_copyElements_182 : decode cX12_copyElements 182 = .ok (.iload 5, 2) := by decide +kernel
theorem dX12_copyElements_184 : decode cX12_copyElements 184 = .ok (.ireturn, 1) := by decide +kernel
set_option maxRecDepth 20000 in
theorem ggX12_fillCounts_X12_isRow : GoodIn wsX12_fillCounts wsX12_isRow := goodIn_r _ [8, 9, 10, 7, 11] (by decide +kernel) (by decide +kernel)
set_option maxRecDepth 20000 in
theorem gX12_fillCounts_X12_isRow : GoodIn wsX12_fillCounts (va_wsS RX12 360 yX12_isRow wsX12_isRow) := goodIn_app (goodIn_of _ (by decide +kernel)) ggX12_fillCounts_X12_isRow
set_option maxRecDepth 20000 in
theorem ggX12_fillCounts_X12_isLanguage : GoodIn wsX12_fillCounts wsX12_isLanguage := goodIn_r _ [14, 9, 10, 7, 11] (by decide +kernel) (by decide +kernel)
set_option maxRecDepth 20000 in
theorem gX12_fillCounts_X12_isLanguage : GoodIn wsX12_fillCounts (va_wsS RX12 227 yX12_isLanguage wsX12_isLanguage) := goodIn_app (goodIn_of _ (by decide +kernel)) ggX12_fillCounts_X12_isLanguage
set_option maxRecDepth 20000 in
theorem ggX12_fillCounts_X12_buildsLanguage : GoodIn wsX12_fillCounts wsX12_buildsLanguage := goodIn_r _ [18, 19, 20, 21, 22, 23, 24, 25, 26, 7, 27, 28, 29, 30, 31, 32, 33, 34, 35, 36, 37, 38, 39, 40, 41, 42, 43, 44, 45, 46, 47, 48, 49, 50, 51, 52, 53, 54, 55, 56, 57, 58, 59, 60, 61, 62, 63, 64, 65, 66, 67, 68, 69, 70, 71, 72, 73, 74, 75, 76, 77, 78, 79, 80, 81, 82, 83, 84, 85, 86, 87, 88, 109, 110, 111, 112, 113, 114, 115, 116, 117, 118, 119, 120, 121, 122, 123, 124, 125, 126, 127, 128, 129, 130, 131, 132, 133, 134, 135, 136, 137, 138, 139, 140, 141, 142, 143, 144, 145, 146, 147, 148, 149, 150, 151, 152, 153, 154, 155, 156, 157, 158, 159, 160, 161, 162, 163, 164, 165, 166, 167, 168, 169, 170, 171, 172, 173, 174, 175, 176] (by decide +kernel) (by decide +kernel)
set_option maxRecDepth 20000 in
theorem gX12_fillCounts_X12_buildsLanguage : GoodIn wsX12_fillCounts (wsV RX12 345 RX12 yX12_buildsLanguage wsX12_buildsLanguage) := goodIn_app (goodIn_of _ (by decide +kernel)) ggX12_fillCounts_X12_buildsLanguage
set_option maxRecDepth 20000 in
theorem ggX12_fillCounts_X12_countAll : GoodIn wsX12_fillCounts wsX12_countAll := goodIn_r _ [92, 47, 93, 4, 94, 48, 52, 95, 96, 97, 7, 98, 19, 41, 23, 21, 20, 99, 100, 101, 102, 103, 49, 50, 40, 81, 82, 83, 80, 109, 110, 111, 112, 113, 114, 115, 116, 117, 118, 119, 120, 121, 122, 123, 124, 125, 126, 127, 128, 129, 130, 131, 132, 133, 134, 135, 136, 137, 138, 139, 140, 141, 142, 143, 144, 145, 146, 147, 148, 149, 150, 151, 152, 153, 154, 155, 156, 157, 158, 159, 160, 161, 162, 163, 164, 165, 166, 167, 168, 169, 170, 171, 172, 173, 174, 175, 176] (by decide +kernel) (by decide +kernel)
set_option maxRecDepth 20000 in
theorem gX12_fillCounts_X12_countAll : GoodIn wsX12_fillCounts (wsV RX12 354 RX12 yX12_countAll wsX12_countAll) := goodIn_app (goodIn_of _ (by decide +kernel)) ggX12_fillCounts_X12_countAll
set_option maxRecDepth 20000 in
theorem ggX12_fillCounts_X12_setItem : GoodIn wsX12_fillCounts wsX12_setItem := goodIn_r _ [107, 108, 2, 109, 110, 111, 112, 113, 114, 115, 116, 117, 118, 119, 120, 121, 122, 123, 124, 125, 126, 127, 128, 129, 130, 131, 132, 133, 134, 135, 136, 137, 138, 139, 140, 141, 142, 143, 144, 145, 146, 147, 148, 149, 150, 151, 152, 153, 154, 155, 156, 157, 158, 159, 160, 161, 162, 163, 164, 165, 166, 167, 168, 169, 170, 171, 172, 173, 174, 175, 176] (by decide +kernel) (by decide +kernel)
set_option maxRecDepth 20000 in
theorem gX12_fillCounts_X12_setItem : GoodIn wsX12_fillCounts (wsV RX12 363 RX12 yX12_setItem wsX12_setItem) := goodIn_app (goodIn_of _ (by decide +kernel)) ggX12_fillCounts_X12_setItem
theorem dX12_fillCounts_0 : decode cX12_fillCounts 0 = .ok (.iload_n 1, 1) := by decide +kernel
theorem dX12_fillCounts_1 : decode cX12_fillCounts 1 = .ok (.invokestatic 360, 3) := by decide +kernel
theorem dX12_fillCounts_4 : decode cX12_fillCounts 4 = .ok (.ifCond .eq 10, 3) := by decide +kernel
theorem dX12_fillCounts_7 : decode cX12_fillCounts 7 = .ok (.iload_n 2, 1) := by decide +kernel
theorem dX12_fillCounts_8 : decode cX12_fillCounts 8 = .ok (.invokestatic 227, 3) := by decide +kernel
theorem dX12_fillCounts_11 : decode cX12_fillCounts 11 = .ok (.ifCond .ne 5, 3) := by decide +kernel
theorem dX12_fillCounts_14 : decode cX12_fillCounts 14 = .ok (.iconst (-1), 1) := by decide +kernel
theorem dX12_fillCounts_15 : decode cX12_fillCounts 15 = .ok (.ireturn, 1) := by decide +kernel
theorem dX12_fillCounts_16 : decode cX12_fillCounts 16 = .ok (.aload_n 0, 1) := by decide +kernel
theorem dX12_fillCounts_17 : decode cX12_fillCounts 17 = .ok (.getfield 47, 3) := by decide +kernel
theorem dX12_fillCounts_20 : decode cX12_fillCounts 20 = .ok (.iload_n 2, 1) := by decide +kernel
theorem dX12_fillCounts_21 : decode cX12_fillCounts 21 = .ok (.iaload, 1) := by decide +kernel
theorem dX12_fillCounts_22 : decode cX12_fillCounts 22 = .ok (.ifCond .ge 6, 3) := by decide +kernel
theorem dX12_fillCounts_25 : decode cX12_fillCounts 25 = .ok (.bipush (-5), 2) := by decide +kernel
theorem dX12_fillCounts_27 : decode cX12_fillCounts 27 = .ok (.ireturn, 1) := by decide +kernel
theorem dX12_fillCounts_28 : decode cX12_fillCounts 28 = .ok (.aload_n 0, 1) := by decide +kernel
theorem dX12_fillCounts_29 : decode cX12_fillCounts 29 = .ok (.getfield 154, 3) := by decide +kernel
theorem dX12_fillCounts_32 : decode cX12_fillCounts 32 = .ok (.iload_n 1, 1) := by decide +kernel
theorem dX12_fillCounts_33 : decode cX12_fillCounts 33 = .ok (.iaload, 1) := by decide +kernel
theorem dX12_fillCounts_34 : decode cX12_fillCounts 34 = .ok (.ifCond .ge 6, 3) := by decide +kernel
theorem dX12_fillCounts_37 : decode cX12_fillCounts 37 = .ok (.bipush (-11), 2) := by decide +kernel
theorem dX12_fillCounts_39 : decode cX12_fillCounts 39 = .ok (.ireturn, 1) := by decide +kernel
theorem dX12_fillCounts_40 : decode cX12_fillCounts 40 = .ok (.aload_n 0, 1) := by decide +kernel
theorem dX12_fillCounts_41 : decode cX12_fillCounts 41 = .ok (.iload_n 2, 1) := by decide +kernel
theorem dX12_fillCounts_42 : decode cX12_fillCounts 42 = .ok (.invokevirtual 345, 3) := by decide +kernel
theorem dX12_fillCounts_45 : decode cX12_fillCounts 45 = .ok (.ifCond .ne 6, 3) := by decide +kernel
theorem dX12_fillCounts_48 : decode cX12_fillCounts 48 = .ok (.bipush (-4), 2) := by decide +kernel
theorem dX12_fillCounts_50 : decode cX12_fillCounts 50 = .ok (.ireturn, 1) := by decide +kernel
theorem dX12_fillCounts_51 : decode cX12_fillCounts 51 = .ok (.aload_n 0, 1) := by decide +kernel
theorem dX12_fillCounts_52 : decode cX12_fillCounts 52 = .ok (.bipush 20, 2) := by decide +kernel
theorem dX12_fillCounts_54 : decode cX12_fillCounts 54 = .ok (.invokevirtual 354, 3) := by decide +kernel
theorem dX12_fillCounts_57 : decode cX12_fillCounts 57 = .ok (.iconst 0, 1) := by decide +kernel
theorem dX12_fillCounts_58 : decode cX12_fillCounts 58 = .ok (.istore_n 3, 1) := by decide +kernel
theorem dX12_fillCounts_59 : decode cX12_fillCounts 59 = .ok (.iload_n 3, 1) := by decide +kernel
theorem dX12_fillCounts_60 : decode cX12_fillCounts 60 = .ok (.aload_n 0, 1) := by decide +kernel
theorem dX12_fillCounts_61 : decode cX12_fillCounts 61 = .ok (.getfield 157, 3) := by decide +kernel
theorem dX12_fillCounts_64 : decode cX12_fillCounts 64 = .ok (.iload_n 1, 1) := by decide +kernel
theorem dX12_fillCounts_65 : decode cX12_fillCounts 65 = .ok (.iaload, 1) := by decide +kernel
theorem dX12_fillCounts_66 : decode cX12_fillCounts 66 = .ok (.if_icmp .ge 21, 3) := by decide +kernel
theorem dX12_fillCounts_69 : decode cX12_fillCounts 69 = .ok (.aload_n 0, 1) := by decide +kernel
theorem dX12_fillCounts_70 : decode cX12_fillCounts 70 = .ok (.iload_n 1, 1) := by decide +kernel
theorem dX12_fillCounts_71 : decode cX12_fillCounts 71 = .ok (.iload_n 3, 1) := by decide +kernel
theorem dX12_fillCounts_72 : decode cX12_fillCounts 72 = .ok (.aload_n 0, 1) := by decide +kernel
theorem dX12_fillCounts_73 : decode cX12_fillCounts 73 = .ok (.getfield 151, 3) := by decide +kernel
theorem dX12_fillCounts_76 : decode cX12_fillCounts 76 = .ok (.iload_n 3, 1) := by decide +kernel
theorem dX12_fillCounts_77 : decode cX12_fillCounts 77 = .ok (.laload, 1) := by decide +kernel
theorem dX12_fillCounts_78 : decode cX12_fillCounts 78 = .ok (.invokevirtual 363, 3) := by decide +kernel
theorem dX12_fillCounts_81 : decode cX12_fillCounts 81 = .ok (.iinc 3 1, 3) := by decide +kernel
theorem dX12_fillCounts_84 : decode cX12_fillCounts 84 = .ok (.goto (-25), 3) := by decide +kernel
theorem dX12_fillCounts_87 : decode cX12_fillCounts 87 = .ok (.aload_n 0, 1) := by decide +kernel
theorem dX12_fillCounts_88 : decode cX12_fillCounts 88 = .ok (.getfield 157, 3) := by decide +kernel
theorem dX12_fillCounts_91 : decode cX12_fillCounts 91 = .ok (.iload_n 1, 1) := by decide +kernel
theorem dX12_fillCounts_92 : decode cX12_fillCounts 92 = .ok (.iaload, 1) := by decide +kernel
theorem dX12_fillCounts_93 : decode cX12_fillCounts 93 = .ok (.ireturn, 1) := by decide +kernel
theorem dX12_pass_0 : decode cX12_pass 0 = .ok (.aload_n 0, 1) := by decide +kernel
theorem dX12_pass_1 : decode cX12_pass 1 = .ok (.getfield 371, 3) := by decide +kernel
theorem dX12_pass_4 : decode cX12_pass 4 = .ok (.ifCond .eq 7, 3) := by decide +kernel
theorem dX12_pass_7 : decode cX12_pass 7 = .ok (.iload_n 1, 1) := by decide +kernel
theorem dX12_pass_8 : decode cX12_pass 8 = .ok (.goto 12, 3) := by decide +kernel
theorem dX12_pass_11 : decode cX12_pass 11 = .ok (.aload_n 0, 1) := by decide +kernel
theorem dX12_pass_12 : decode cX12_pass 12 = .ok (.getfield 166, 3) := by decide +kernel
theorem dX12_pass_15 : decode cX12_pass 15 = .ok (.aload_n 0, 1) := by decide +kernel
theorem dX12_pass_16 : decode cX12_pass 16 = .ok (.getfield 374, 3) := by decide +kernel
theorem dX12_pass_19 : decode cX12_pass 19 = .ok (.iaload, 1) := by decide +kernel
theorem dX12_pass_20 : decode cX12_pass 20 = .ok (.istore_n 2, 1) := by decide +kernel
theorem dX12_pass_21 : decode cX12_pass 21 = .ok (.aload_n 0, 1) := by decide +kernel
theorem dX12_pass_22 : decode cX12_pass 22 = .ok (.getfield 166, 3) := by decide +kernel
theorem dX12_pass_25 : decode cX12_pass 25 = .ok (.aload_n 0, 1) := by decide +kernel
theorem dX12_pass_26 : decode cX12_pass 26 = .ok (.getfield 374, 3) := by decide +kernel
theorem dX12_pass_29 : decode cX12_pass 29 = .ok (.iload_n 2, 1) := by decide +kernel
theorem dX12_pass_30 : decode cX12_pass 30 = .ok (.iastore, 1) := by decide +kernel
theorem dX12_pass_31 : decode cX12_pass 31 = .ok (.aload_n 0, 1) := by decide +kernel
theorem dX12_pass_32 : decode cX12_pass 32 = .ok (.dup, 1) := by decide +kernel
theorem dX12_pass_33 : decode cX12_pass 33 = .ok (.getfield 374, 3) := by decide +kernel
theorem dX12_pass_36 : decode cX12_pass 36 = .ok (.iconst 1, 1) := by decide +kernel
theorem dX12_pass_37 : decode cX12_pass 37 = .ok (.iadd, 1) := by decide +kernel
theorem dX12_pass_38 : decode cX12_pass 38 = .ok (.putfield 374, 3) := by decide +kernel
theorem dX12_pass_41 : decode cX12_pass 41 = .ok (.iload_n 2, 1) := by decide +kernel
theorem dX12_pass_42 : decode cX12_pass 42 = .ok (.ireturn, 1) := by decide +kernel
set_option maxRecDepth 20000 in
theorem ggX12_passAll_X12_pass : GoodIn wsX12_passAll wsX12_pass := goodIn_r _ [5, 6, 7, 8, 9, 10, 11, 12, 13, 14, 15, 16, 17, 18, 19, 20, 21, 22, 23, 24, 25, 26, 27, 28, 29, 30, 31, 32, 33, 34, 35, 36, 37, 38, 39, 40, 41, 42, 43, 44, 45, 46, 47, 48, 49, 50, 51, 52, 53, 54, 55, 56, 57, 58, 59, 60, 61, 62, 63, 64, 65, 66, 67, 68, 69, 70, 71, 72, 73, 74, 75, 76] (by decide +kernel) (by decide +kernel)
set_option maxRecDepth 20000 in
theorem gX12_passAll_X12_pass : GoodIn wsX12_passAll (wsV RX12 377 RX12 yX12_pass wsX12_pass) := goodIn_app (goodIn_of _ (by decide +kernel)) ggX12_passAll_X12_pass
theorem dX12_passAll_0 : decode cX12_passAll 0 = .ok (.iconst 0, 1) := by decide +kernel
theorem dX12_passAll_1 : decode cX12_passAll 1 = .ok (.istore_n 2, 1) := by decide +kernel
theorem dX12_passAll_2 : decode cX12_passAll 2 = .ok (.iload_n 2, 1) := by decide +kernel
theorem dX12_passAll_3 : decode cX12_passAll 3 = .ok (.aload_n 1, 1) := by decide +kernel
theorem dX12_passAll_4 : decode cX12_passAll 4 = .ok (.arraylength, 1) := by decide +kernel
theorem dX12_passAll_5 : decode cX12_passAll 5 = .ok (.if_icmp .ge 19, 3) := by decide +kernel
theorem dX12_passAll_8 : decode cX12_passAll 8 = .ok (.aload_n 1, 1) := by decide +kernel
theorem dX12_passAll_9 : decode cX12_passAll 9 = .ok (.iload_n 2, 1) := by decide +kernel
theorem dX12_passAll_10 : decode cX12_passAll 10 = .ok (.aload_n 0, 1) := by decide +kernel
theorem dX12_passAll_11 : decode cX12_passAll 11 = .ok (.aload_n 1, 1) := by decide +kernel
theorem dX12_passAll_12 : decode cX12_passAll 12 = .ok (.iload_n 2, 1) := by decide +kernel
theorem dX12_passAll_13 : decode cX12_passAll 13 = .ok (.iaload, 1) := by decide +kernel
theorem dX12_passAll_14 : decode cX12_passAll 14 = .ok (.invokevirtual 377, 3) := by decide +kernel
theorem dX12_passAll_17 : decode cX12_passAll 17 = .ok (.iastore, 1) := by decide +kernel
theorem dX12_passAll_18 : decode cX12_passAll 18 = .ok (.iinc 2 1, 3) := by decide +kernel
theorem dX12_passAll_21 : decode cX12_passAll 21 = .ok (.goto (-19), 3) := by decide +kernel
theorem dX12_passAll_24 : decode cX12_passAll 24 = .ok (.return_, 1) := by decide +kernel
set_option maxRecDepth 20000 in
theorem ggX12_passState_X12_pass : GoodIn wsX12_passState wsX12_pass := goodIn_r _ [23, 1, 24, 2, 29, 30, 31, 32, 33, 34, 35, 36, 37, 38, 39, 40, 41, 42, 43, 44, 45, 46, 47, 48, 49, 50, 51, 52, 53, 54, 55, 56, 57, 58, 59, 60, 61, 62, 63, 64, 65, 66, 67, 68, 69, 70, 71, 72, 73, 74, 75, 76, 77, 78, 79, 80, 81, 82, 83, 84, 85, 86, 87, 88, 89, 90, 91, 92, 93, 94, 95, 96] (by decide +kernel) (by decide +kernel)
set_option maxRecDepth 20000 in
theorem gX12_passState_X12_pass : GoodIn wsX12_passState (wsV RX12 377 RX12 yX12_pass wsX12_pass) := goodIn_app (goodIn_of _ (by decide +kernel)) ggX12_passState_X12_pass
set_option maxRecDepth 20000 in
theorem ggX12_passState_X12_passAll : GoodIn wsX12_passState wsX12_passAll := goodIn_r _ [28, 19, 20, 21, 22, 23, 1, 24, 2, 29, 30, 31, 32, 33, 34, 35, 36, 37, 38, 39, 40, 41, 42, 43, 44, 45, 46, 47, 48, 49, 50, 51, 52, 53, 54, 55, 56, 57, 58, 59, 60, 61, 62, 63, 64, 65, 66, 67, 68, 69, 70, 71, 72, 73, 74, 75, 76, 77, 78, 79, 80, 81, 82, 83, 84, 85, 86, 87, 88, 89, 90, 91, 92, 93, 94, 95, 96] (by decide +kernel) (by decide +kernel)
set_option maxRecDepth 20000 in
theorem gX12_passState_X12_passAll : GoodIn wsX12_passState (wsV RX12 380 RX12 yX12_passAll wsX12_passAll) := goodIn_app (goodIn_of _ (by decide +kernel)) ggX12_passState_X12_passAll
theorem dX12_passState_0 : decode cX12_passState 0 = .ok (.aload_n 0, 1) := by decide +kernel
theorem dX12_passState_1 : decode cX12_passState 1 = .ok (.iload_n 1, 1) := by decide +kernel
theorem dX12_passState_2 : decode cX12_passState 2 = .ok (.putfield 371, 3) := by decide +kernel
theorem dX12_passState_5 : decode cX12_passState 5 = .ok (.aload_n 0, 1) := by decide +kernel
theorem dX12_passState_6 : decode cX12_passState 6 = .ok (.iconst 0, 1) := by decide +kernel
theorem dX12_passState_7 : decode cX12_passState 7 = .ok (.putfield 374, 3) := by decide +kernel
theorem dX12_passState_10 : decode cX12_passState 10 = .ok (.aload_n 0, 1) := by decide +kernel
theorem dX12_passState_11 : decode cX12_passState 11 = .ok (.aload_n 0, 1) := by decide +kernel
theorem dX12_passState_12 : decode cX12_passState 12 = .ok (.aload_n 0, 1) := by decide +kernel
theorem dX12_passState_13 : decode cX12_passState 13 = .ok (.getfield 7, 3) := by decide +kernel
theorem dX12_passState_16 : decode cX12_passState 16 = .ok (.invokevirtual 377, 3) := by decide +kernel
theorem dX12_passState_19 : decode cX12_passState 19 = .ok (.putfield 7, 3) := by decide +kernel
theorem dX12_passState_22 : decode cX12_passState 22 = .ok (.aload_n 0, 1) := by decide +kernel
theorem dX12_passState_23 : decode cX12_passState 23 = .ok (.aload_n 0, 1) := by decide +kernel
theorem dX12_passState_24 : decode cX12_passState 24 = .ok (.aload_n 0, 1) := by decide +kernel
theorem dX12_passState_25 : decode cX12_passState 25 = .ok (.getfield 173, 3) := by decide +kernel
theorem dX12_passState_28 : decode cX12_passState 28 = .ok (.invokevirtual 377, 3) := by decide +kernel
theorem dX12_passState_31 : decode cX12_passState 31 = .ok (.putfield 173, 3) := by decide +kernel
theorem dX12_passState_34 : decode cX12_passState 34 = .ok (.aload_n 0, 1) := by decide +kernel
theorem dX12_passState_35 : decode cX12_passState 35 = .ok (.aload_n 0, 1) := by decide +kernel
theorem dX12_passState_36 : decode cX12_passState 36 = .ok (.getfield 13, 3) := by decide +kernel
theorem dX12_passState_39 : decode cX12_passState 39 = .ok (.invokevirtual 380, 3) := by decide +kernel
theorem dX12_passState_42 : decode cX12_passState 42 = .ok (.aload_n 0, 1) := by decide +kernel
theorem dX12_passState_43 : decode cX12_passState 43 = .ok (.aload_n 0, 1) := by decide +kernel
theorem dX12_passState_44 : decode cX12_passState 44 = .ok (.getfield 17, 3) := by decide +kernel
theorem dX12_passState_47 : decode cX12_passState 47 = .ok (.invokevirtual 380, 3) := by decide +kernel
theorem dX12_passState_50 : decode cX12_passState 50 = .ok (.aload_n 0, 1) := by decide +kernel
theorem dX12_passState_51 : decode cX12_passState 51 = .ok (.aload_n 0, 1) := by decide +kernel
theorem dX12_passState_52 : decode cX12_passState 52 = .ok (.getfield 26, 3) := by decide +kernel
theorem dX12_passState_55 : decode cX12_passState 55 = .ok (.invokevirtual 380, 3) := by decide +kernel
theorem dX12_passState_58 : decode cX12_passState 58 = .ok (.aload_n 0, 1) := by decide +kernel
theorem dX12_passState_59 : decode cX12_passState 59 = .ok (.aload_n 0, 1) := by decide +kernel
theorem dX12_passState_60 : decode cX12_passState 60 = .ok (.getfield 29, 3) := by decide +kernel
theorem dX12_passState_63 : decode cX12_passState 63 = .ok (.invokevirtual 380, 3) := by decide +kernel
theorem dX12_passState_66 : decode cX12_passState 66 = .ok (.aload_n 0, 1) := by decide +kernel
theorem dX12_passState_67 : decode cX12_passState 67 = .ok (.aload_n 0, 1) := by decide +kernel
theorem dX12_passState_68 : decode cX12_passState 68 = .ok (.getfield 32, 3) := by decide +kernel
theorem dX12_passState_71 : decode cX12_passState 71 = .ok (.invokevirtual 380, 3) := by decide +kernel
theorem dX12_passState_74 : decode cX12_passState 74 = .ok (.aload_n 0, 1) := by decide +kernel
theorem dX12_passState_75 : decode cX12_passState 75 = .ok (.aload_n 0, 1) := by decide +kernel
theorem dX12_passState_76 : decode cX12_passState 76 = .ok (.getfield 35, 3) := by decide +kernel
theorem dX12_passState_79 : decode cX12_passState 79 = .ok (.invokevirtual 380, 3) := by decide +kernel
theorem dX12_passState_82 : decode cX12_passState 82 = .ok (.aload_n 0, 1) := by decide +kernel
theorem dX12_passState_83 : decode cX12_passState 83 = .ok (.aload_n 0, 1) := by decide +kernel
theorem dX12_passState_84 : decode cX12_passState 84 = .ok (.getfield 47, 3) := by decide +kernel
theorem dX12_passState_87 : decode cX12_passState 87 = .ok (.invokevirtual 380, 3) := by decide +kernel
theorem dX12_passState_90 : decode cX12_passState 90 = .ok (.aload_n 0, 1) := by decide +kernel
theorem dX12_passState_91 : decode cX12_passState 91 = .ok (.aload_n 0, 1) := by decide +kernel
theorem dX12_passState_92 : decode cX12_passState 92 = .ok (.getfield 50, 3) := by decide +kernel
theorem dX12_passState_95 : decode cX12_passState 95 = .ok (.invokevirtual 380, 3) := by decide +kernel
theorem dX12_passState_98 : decode cX12_passState 98 = .ok (.aload_n 0, 1) := by decide +kernel
theorem dX12_passState_99 : decode cX12_passState 99 = .ok (.aload_n 0, 1) := by decide +kernel
theorem dX12_passState_100 : decode cX12_passState 100 = .ok (.getfield 53, 3) := by decide +kernel
theorem dX12_passState_103 : decode cX12_passState 103 = .ok (.invokevirtual 380, 3) := by decide +kernel
theorem dX12_passState_106 : decode cX12_passState 106 = .ok (.aload_n 0, 1) := by decide +kernel
theorem dX12_passState_107 : decode cX12_passState 107 = .ok (.aload_n 0, 1) := by decide +kernel
theorem dX12_passState_108 : decode cX12_passState 108 = .ok (.getfield 56, 3) := by decide +kernel
theorem dX12_passState_111 : decode cX12_passState 111 = .ok (.invokevirtual 380, 3) := by decide +kernel
theorem dX12_passState_114 : decode cX12_passState 114 = .ok (.aload_n 0, 1) := by decide +kernel
theorem dX12_passState_115 : decode cX12_passState 115 = .ok (.aload_n 0, 1) := by decide +kernel
theorem dX12_passState_116 : decode cX12_passState 116 = .ok (.getfield 59, 3) := by decide +kernel
theorem dX12_passState_119 : decode cX12_passState 119 = .ok (.invokevirtual 380, 3) := by decide +kernel
theorem dX12_passState_122 : decode cX12_passState 122 = .ok (.aload_n 0, 1) := by decide +kernel
theorem dX12_passState_123 : decode cX12_passState 123 = .ok (.aload_n 0, 1) := by decide +kernel
theorem dX12_passState_124 : decode cX12_passState 124 = .ok (.getfield 62, 3) := by decide +kernel
theorem dX12_passState_127 : decode cX12_passState 127 = .ok (.invokevirtual 380, 3) := by decide +kernel
theorem dX12_passState_130 : decode cX12_passState 130 = .ok (.aload_n 0, 1) := by decide +kernel
theorem dX12_passState_131 : decode cX12_passState 131 = .ok (.aload_n 0, 1) := by decide +kernel
theorem dX12_passState_132 : decode cX12_passState 132 = .ok (.getfield 65, 3) := by decide +kernel
theorem dX12_passState_135 : decode cX12_passState 135 = .ok (.invokevirtual 380, 3) := by decide +kernel
theorem dX12_passState_138 : decode cX12_passState 138 = .ok (.aload_n 0, 1) := by decide +kernel
theorem dX12_passState_139 : decode cX12_passState 139 = .ok (.aload_n 0, 1) := by decide +kernel
theorem dX12_passState_140 : decode cX12_passState 140 = .ok (.getfield 68, 3) := by decide +kernel
theorem dX12_passState_143 : decode cX12_passState 143 = .ok (.invokevirtual 380, 3) := by decide +kernel
theorem dX12_passState_146 : decode cX12_passState 146 = .ok (.iconst 0, 1) := by decide +kernel
theorem dX12_passState_147 : decode cX12_passState 147 = .ok (.istore_n 2, 1) := by decide +kernel
theorem dX12_passState_148 : decode cX12_passState 148 = .ok (.iconst 0, 1) := by decide +kernel
theorem dX12_passState_149 : decode cX12_passState 149 = .ok (.istore_n 3, 1) := by decide +kernel
theorem dX12_passState_150 : decode cX12_passState 150 = .ok (.iload_n 3, 1) := by decide +kernel
theorem dX12_passState_151 : decode cX12_passState 151 = .ok (.iconst 4, 1) := by decide +kernel
theorem dX12_passState_152 : decode cX12_passState 152 = .ok (.if_icmp .ge 26, 3) := by decide +kernel
theorem dX12_passState_155 : decode cX12_passState 155 = .ok (.iload_n 2, 1) := by decide +kernel
theorem dX12_passState_156 : decode cX12_passState 156 = .ok (.aload_n 0, 1) := by decide +kernel
theorem dX12_passState_157 : decode cX12_passState 157 = .ok (.getfield 47, 3) := by decide +kernel
theorem dX12_passState_160 : decode cX12_passState 160 = .ok (.iload_n 3, 1) := by decide +kernel
theorem dX12_passState_161 : decode cX12_passState 161 = .ok (.iaload, 1) := by decide +kernel
theorem dX12_passState_162 : decode cX12_passState 162 = .ok (.ifCond .ge 7, 3) := by decide +kernel
theorem dX12_passState_165 : decode cX12_passState 165 = .ok (.iconst 0, 1) := by decide +kernel
theorem dX12_passState_166 : decode cX12_passState 166 = .ok (.goto 4, 3) := by decide +kernel
theorem dX12_passState_169 : decode cX12_passState 169 = .ok (.iconst 1, 1) := by decide +kernel
theorem dX12_passState_170 : decode cX12_passState 170 = .ok (.iadd, 1) := by decide +kernel
theorem dX12_passState_171 : decode cX12_passState 171 = .ok (.istore_n 2, 1) := by decide +kernel
theorem dX12_passState_172 : decode cX12_passState 172 = .ok (.iinc 3 1, 3) := by decide +kernel
theorem dX12_passState_175 : decode cX12_passState 175 = .ok (.goto (-25), 3) := by decide +kernel
theorem dX12_passState_178 : decode cX12_passState 178 = .ok (.iload_n 2, 1) := by decide +kernel
theorem dX12_passState_179 : decode cX12_passState 179 = .ok (.ireturn, 1) := by decide +kernel
set_option maxRecDepth 20000 in
theorem ggX12_saveSnapshot_X12_passState : GoodIn wsX12_saveSnapshot wsX12_passState := goodIn_r _ [6, 7, 8, 9, 10, 11, 12, 13, 14, 15, 16, 17, 18, 19, 20, 21, 22, 23, 24, 25, 26, 27, 5, 28, 29, 30, 31, 32, 33, 34, 35, 36, 37, 38, 39, 40, 41, 42, 43, 44, 45, 46, 47, 48, 49, 50, 51, 52, 53, 54, 55, 56, 57, 58, 59, 60, 61, 62, 63, 64, 65, 66, 67, 68, 69, 70, 71, 72, 73, 74, 75, 76, 77, 78, 79, 80, 81, 82, 83, 84, 85, 86, 87, 88, 89, 90, 91, 92, 93, 94, 95, 96, 97, 98, 99, 100, 101] (by decide +kernel) (by decide +kernel)
set_option maxRecDepth 20000 in
theorem gX12_saveSnapshot_X12_passState : GoodIn wsX12_saveSnapshot (wsV RX12 387 RX12 yX12_passState wsX12_passState) := goodIn_app (goodIn_of _ (by decide +kernel)) ggX12_saveSnapshot_X12_passState
theorem dX12_saveSnapshot_0 : decode cX12_saveSnapshot 0 = .ok (.aload_n 0, 1) := by decide +kernel
theorem dX12_saveSnapshot_1 : decode cX12_saveSnapshot 1 = .ok (.iconst 1, 1) := by decide +kernel
theorem dX12_saveSnapshot_2 : decode cX12_saveSnapshot 2 = .ok (.putfield 384, 3) := by decide +kernel
theorem dX12_saveSnapshot_5 : decode cX12_saveSnapshot 5 = .ok (.aload_n 0, 1) := by decide +kernel
theorem dX12_saveSnapshot_6 : decode cX12_saveSnapshot 6 = .ok (.iconst 1, 1) := by decide +kernel
theorem dX12_saveSnapshot_7 : decode cX12_saveSnapshot 7 = .ok (.invokevirtual 387, 3) := by decide +kernel
theorem dX12_saveSnapshot_10 : decode cX12_saveSnapshot 10 = .ok (.ireturn, 1) := by decide +kernel
set_option maxRecDepth 20000 in
theorem ggX12_restoreSnapshot_X12_passState : GoodIn wsX12_restoreSnapshot wsX12_passState := goodIn_r _ [6, 7, 8, 9, 10, 11, 12, 13, 14, 15, 16, 17, 18, 19, 20, 21, 22, 23, 24, 25, 26, 27, 5, 28, 29, 30, 31, 32, 33, 34, 35, 36, 37, 38, 39, 40, 41, 42, 43, 44, 45, 46, 47, 48, 49, 50, 51, 52, 53, 54, 55, 56, 57, 58, 59, 60, 61, 62, 63, 64, 65, 66, 67, 68, 69, 70, 71, 72, 73, 74, 75, 76, 77, 78, 79, 80, 81, 82, 83, 84, 85, 86, 87, 88, 89, 90, 91, 92, 93, 94, 95, 96, 97, 98, 99, 100, 101] (by decide +kernel) (by decide +kernel)
set_option maxRecDepth 20000 in
theorem gX12_restoreSnapshot_X12_passState : GoodIn wsX12_restoreSnapshot (wsV RX12 387 RX12 yX12_passState wsX12_passState) := goodIn_app (goodIn_of _ (by decide +kernel)) ggX12_restoreSnapshot_X12_passState
theorem dX12_restoreSnapshot_0 : decode cX12_restoreSnapshot 0 = .ok (.aload_n 0, 1) := by decide +kernel
theorem dX12_restoreSnapshot_1 : decode cX12_restoreSnapshot 1 = .ok (.getfield 384, 3) := by decide +kernel
theorem dX12_restoreSnapshot_4 : decode cX12_restoreSnapshot 4 = .ok (.ifCond .eq 11, 3) := by decide +kernel
theorem dX12_restoreSnapshot_7 : decode cX12_restoreSnapshot 7 = .ok (.aload_n 0, 1) := by decide +kernel
theorem dX12_restoreSnapshot_8 : decode cX12_restoreSnapshot 8 = .ok (.iconst 0, 1) := by decide +kernel
theorem dX12_restoreSnapshot_9 : decode cX12_restoreSnapshot 9 = .ok (.invokevirtual 387, 3) := by decide +kernel
theorem dX12_restoreSnapshot_12 : decode cX12_restoreSnapshot 12 = .ok (.goto 5, 3) := by decide +kernel
theorem dX12_restoreSnapshot_15 : decode cX12_restoreSnapshot 15 = .ok (.bipush (-2), 2) := by decide +kernel
theorem dX12_restoreSnapshot_17 : decode cX12_restoreSnapshot 17 = .ok (.ireturn, 1) := by decide +kernel
theorem dJ9_max_7cf53_0 : decode cJ9_max_7cf53 0 = .ok (.iload_n 0, 1) := by decide +kernel
theorem dJ9_max_7cf53_1 : decode cJ9_max_7cf53 1 = .ok (.iload_n 1, 1) := by decide +kernel
theorem dJ9_max_7cf53_2 : decode cJ9_max_7cf53 2 = .ok (.if_icmp .lt 7, 3) := by decide +kernel
theorem dJ9_max_7cf53_5 : decode cJ9_max_7cf53 5 = .ok (.iload_n 0, 1) := by decide +kernel
theorem dJ9_max_7cf53_6 : decode cJ9_max_7cf53 6 = .ok (.goto 4, 3) := by decide +kernel
theorem dJ9_max_7cf53_9 : decode cJ9_max_7cf53 9 = .ok (.iload_n 1, 1) := by decide +kernel
theorem dJ9_max_7cf53_10 : decode cJ9_max_7cf53 10 = .ok (.ireturn, 1) := by decide +kernel
theorem dJ9_min_7cf53_0 : decode cJ9_min_7cf53 0 = .ok (.iload_n 0, 1) := by decide +kernel
theorem dJ9_min_7cf53_1 : decode cJ9_min_7cf53 1 = .ok (.iload_n 1, 1) := by decide +kernel
theorem dJ9_min_7cf53_2 : decode cJ9_min_7cf53 2 = .ok (.if_icmp .gt 7, 3) := by decide +kernel
theorem dJ9_min_7cf53_5 : decode cJ9_min_7cf53 5 = .ok (.iload_n 0, 1) := by decide +kernel
theorem dJ9_min_7cf53_6 : decode cJ9_min_7cf53 6 = .ok (.goto 4, 3) := by decide +kernel
theorem dJ9_min_7cf53_9 : decode cJ9_min_7cf53 9 = .ok (.iload_n 1, 1) := by decide +kernel
theorem dJ9_min_7cf53_10 : decode cJ9_min_7cf53 10 = .ok (.ireturn, 1) := by decide +kernel
theorem dJ7_fill_53178_0 : decode cJ7_fill_53178 0 = .ok (.iconst 0, 1) := by decide +kernel
theorem dJ7_fill_53178_1 : decode cJ7_fill_53178 1 = .ok (.istore_n 2, 1) := by decide +kernel
theorem dJ7_fill_53178_2 : decode cJ7_fill_53178 2 = .ok (.aload_n 0, 1) := by decide +kernel
theorem dJ7_fill_53178_3 : decode cJ7_fill_53178 3 = .ok (.arraylength, 1) := by decide +kernel
theorem dJ7_fill_53178_4 : decode cJ7_fill_53178 4 = .ok (.istore_n 3, 1) := by decide +kernel
theorem dJ7_fill_53178_5 : decode cJ7_fill_53178 5 = .ok (.iload_n 2, 1) := by decide +kernel
theorem dJ7_fill_53178_6 : decode cJ7_fill_53178 6 = .ok (.iload_n 3, 1) := by decide +kernel
theorem dJ7_fill_53178_7 : decode cJ7_fill_53178 7 = .ok (.if_icmp .ge 13, 3) := by decide +kernel
theorem dJ7_fill_53178_10 : decode cJ7_fill_53178 10 = .ok (.aload_n 0, 1) := by decide +kernel
theorem dJ7_fill_53178_11 : decode cJ7_fill_53178 11 = .ok (.iload_n 2, 1) := by decide +kernel
theorem dJ7_fill_53178_12 : decode cJ7_fill_53178 12 = .ok (.iload_n 1, 1) := by decide +kernel
theorem dJ7_fill_53178_13 : decode cJ7_fill_53178 13 = .ok (.iastore, 1) := by decide +kernel
theorem dJ7_fill_53178_14 : decode cJ7_fill_53178 14 = .ok (.iinc 2 1, 3) := by decide +kernel
theorem dJ7_fill_53178_17 : decode cJ7_fill_53178 17 = .ok (.goto (-12), 3) := by decide +kernel
theorem dJ7_fill_53178_20 : decode cJ7_fill_53178 20 = .ok (.return_, 1) := by decide +kernel
abbrev vwCl : List vw_C := [(RX0, TX0, 13), (RX1, TX1, 2), (RX2, TX2, 5), (RX3, TX3, 5), (RX4, TX4, 13), (RX5, TX5, 4), (RX6, TX6, 3), (RX8, TX8, 5), (RX9, TX9, 3), (RX10, TX10, 7), (RX11, TX11, 12), (RX12, TX12, 68)]
