set_option maxRecDepth 20000 in
theorem gX11_init_X10_init_n46 : GoodIn wsX11_init (wsX10_init) := ggX11_init_X10_init
set_option maxRecDepth 20000 in
theorem ggX11_init_X0_init : GoodIn wsX11_init wsX0_init := goodIn_r _ [72, 73, 2, 3, 74, 44, 45, 75, 76, 77, 10, 78, 79, 80, 32, 81, 82, 83, 84, 85, 86, 87, 49, 50, 51, 52, 53, 54, 165, 166, 136, 137, 138, 139, 140, 141, 142, 143, 144, 145, 146, 147, 148] (by decide +kernel) (by decide +kernel)
set_option maxRecDepth 20000 in
theorem gX11_init_X0_init_n53 : GoodIn wsX11_init (wsX0_init) := ggX11_init_X0_init
set_option maxRecDepth 20000 in
theorem ggX11_init_X4_init : GoodIn wsX11_init wsX4_init := goodIn_r _ [89, 90, 2, 3, 91, 10, 92, 93, 94, 95, 96, 97, 98, 99, 100, 101, 102, 103, 149, 150, 151, 152, 153, 154, 155, 156, 157, 158, 159, 160, 161] (by decide +kernel) (by decide +kernel)
set_option maxRecDepth 20000 in
theorem gX11_init_X4_init_n60 : GoodIn wsX11_init (wsX4_init) := ggX11_init_X4_init
set_option maxRecDepth 20000 in
theorem ggX11_init_X6_init : GoodIn wsX11_init wsX6_init := goodIn_r _ [105, 106, 2, 3, 107, 108, 10, 109, 162, 163, 164] (by decide +kernel) (by decide +kernel)
set_option maxRecDepth 20000 in
theorem gX11_init_X6_init_n73 : GoodIn wsX11_init (wsX6_init) := ggX11_init_X6_init
theorem dX11_init_0 : decode cX11_init 0 = .ok (.aload_n 0, 1) := by decide +kernel
theorem dX11_init_1 : decode cX11_init 1 = .ok (.invokespecial 1, 3) := by decide +kernel
theorem dX11_init_4 : decode cX11_init 4 = .ok (.aload_n 0, 1) := by decide +kernel
theorem dX11_init_5 : decode cX11_init 5 = .ok (.new 7, 3) := by decide +kernel
theorem dX11_init_8 : decode cX11_init 8 = .ok (.dup, 1) := by decide +kernel
theorem dX11_init_9 : decode cX11_init 9 = .ok (.invokespecial 9, 3) := by decide +kernel
theorem dX11_init_12 : decode cX11_init 12 = .ok (.putfield 10, 3) := by decide +kernel
theorem dX11_init_15 : decode cX11_init 15 = .ok (.aload_n 0, 1) := by decide +kernel
theorem dX11_init_16 : decode cX11_init 16 = .ok (.new 7, 3) := by decide +kernel
theorem dX11_init_19 : decode cX11_init 19 = .ok (.dup, 1) := by decide +kernel
theorem dX11_init_20 : decode cX11_init 20 = .ok (.invokespecial 9, 3) := by decide +kernel
theorem dX11_init_23 : decode cX11_init 23 = .ok (.putfield 16, 3) := by decide +kernel
theorem dX11_init_26 : decode cX11_init 26 = .ok (.aload_n 0, 1) := by decide +kernel
theorem dX11_init_27 : decode cX11_init 27 = .ok (.iconst 0, 1) := by decide +kernel
theorem dX11_init_28 : decode cX11_init 28 = .ok (.putfield 19, 3) := by decide +kernel
theorem dX11_init_31 : decode cX11_init 31 = .ok (.aload_n 0, 1) := by decide +kernel
theorem dX11_init_32 : decode cX11_init 32 = .ok (.bipush 8, 2) := by decide +kernel
theorem dX11_init_34 : decode cX11_init 34 = .ok (.newarray .int, 2) := by decide +kernel
theorem dX11_init_36 : decode cX11_init 36 = .ok (.putfield 23, 3) := by decide +kernel
theorem dX11_init_39 : decode cX11_init 39 = .ok (.aload_n 0, 1) := by decide +kernel
theorem dX11_init_40 : decode cX11_init 40 = .ok (.iconst 0, 1) := by decide +kernel
theorem dX11_init_41 : decode cX11_init 41 = .ok (.putfield 27, 3) := by decide +kernel
theorem dX11_init_44 : decode cX11_init 44 = .ok (.aload_n 0, 1) := by decide +kernel
theorem dX11_init_45 : decode cX11_init 45 = .ok (.iconst 3, 1) := by decide +kernel
theorem dX11_init_46 : decode cX11_init 46 = .ok (.anewarray 31, 3) := by decide +kernel
theorem dX11_init_49 : decode cX11_init 49 = .ok (.putfield 33, 3) := by decide +kernel
theorem dX11_init_52 : decode cX11_init 52 = .ok (.aload_n 0, 1) := by decide +kernel
theorem dX11_init_53 : decode cX11_init 53 = .ok (.new 37, 3) := by decide +kernel
theorem dX11_init_56 : decode cX11_init 56 = .ok (.dup, 1) := by decide +kernel
theorem dX11_init_57 : decode cX11_init 57 = .ok (.invokespecial 39, 3) := by decide +kernel
theorem dX11_init_60 : decode cX11_init 60 = .ok (.putfield 40, 3) := by decide +kernel
theorem dX11_init_63 : decode cX11_init 63 = .ok (.aload_n 0, 1) := by decide +kernel
theorem dX11_init_64 : decode cX11_init 64 = .ok (.new 44, 3) := by decide +kernel
theorem dX11_init_67 : decode cX11_init 67 = .ok (.dup, 1) := by decide +kernel
theorem dX11_init_68 : decode cX11_init 68 = .ok (.invokespecial 46, 3) := by decide +kernel
theorem dX11_init_71 : decode cX11_init 71 = .ok (.putfield 47, 3) := by decide +kernel
theorem dX11_init_74 : decode cX11_init 74 = .ok (.aload_n 0, 1) := by decide +kernel
theorem dX11_init_75 : decode cX11_init 75 = .ok (.new 51, 3) := by decide +kernel
theorem dX11_init_78 : decode cX11_init 78 = .ok (.dup, 1) := by decide +kernel
theorem dX11_init_79 : decode cX11_init 79 = .ok (.invokespecial 53, 3) := by decide +kernel
theorem dX11_init_82 : decode cX11_init 82 = .ok (.putfield 54, 3) := by decide +kernel
theorem dX11_init_85 : decode cX11_init 85 = .ok (.aload_n 0, 1) := by decide +kernel
theorem dX11_init_86 : decode cX11_init 86 = .ok (.new 58, 3) := by decide +kernel
theorem dX11_init_89 : decode cX11_init 89 = .ok (.dup, 1) := by decide +kernel
theorem dX11_init_90 : decode cX11_init 90 = .ok (.invokespecial 60, 3) := by decide +kernel
theorem dX11_init_93 : decode cX11_init 93 = .ok (.putfield 61, 3) := by decide +kernel
theorem dX11_init_96 : decode cX11_init 96 = .ok (.aload_n 0, 1) := by decide +kernel
theorem dX11_init_97 : decode cX11_init 97 = .ok (.aconst_null, 1) := by decide +kernel
theorem dX11_init_98 : decode cX11_init 98 = .ok (.putfield 65, 3) := by decide +kernel
theorem dX11_init_101 : decode cX11_init 101 = .ok (.aload_n 0, 1) := by decide +kernel
theorem dX11_init_102 : decode cX11_init 102 = .ok (.bipush 21, 2) := by decide +kernel
theorem dX11_init_104 : decode cX11_init 104 = .ok (.newarray .long, 2) := by decide +kernel
theorem dX11_init_106 : decode cX11_init 106 = .ok (.putfield 69, 3) := by decide +kernel
theorem dX11_init_109 : decode cX11_init 109 = .ok (.iconst 0, 1) := by decide +kernel
theorem dX11_init_110 : decode cX11_init 110 = .ok (.istore_n 1, 1) := by decide +kernel
theorem dX11_init_111 : decode cX11_init 111 = .ok (.iload_n 1, 1) := by decide +kernel
theorem dX11_init_112 : decode cX11_init 112 = .ok (.iconst 3, 1) := by decide +kernel
theorem dX11_init_113 : decode cX11_init 113 = .ok (.if_icmp .ge 22, 3) := by decide +kernel
theorem dX11_init_116 : decode cX11_init 116 = .ok (.aload_n 0, 1) := by decide +kernel
theorem dX11_init_117 : decode cX11_init 117 = .ok (.getfield 33, 3) := by decide +kernel
theorem dX11_init_120 : decode cX11_init 120 = .ok (.iload_n 1, 1) := by decide +kernel
theorem dX11_init_121 : decode cX11_init 121 = .ok (.new 31, 3) := by decide +kernel
theorem dX11_init_124 : decode cX11_init 124 = .ok (.dup, 1) := by decide +kernel
theorem dX11_init_125 : decode cX11_init 125 = .ok (.invokespecial 73, 3) := by decide +kernel
theorem dX11_init_128 : decode cX11_init 128 = .ok (.aastore, 1) := by decide +kernel
theorem dX11_init_129 : decode cX11_init 129 = .ok (.iinc 1 1, 3) := by decide +kernel
theorem dX11_init_132 : decode cX11_init 132 = .ok (.goto (-21), 3) := by decide +kernel
theorem dX11_init_135 : decode cX11_init 135 = .ok (.return_, 1) := by decide +kernel
set_option maxRecDepth 20000 in
theorem ggX11_setLetters_X5_restart : GoodIn wsX11_setLetters wsX5_restart := goodIn_r _ [7, 8, 9, 10, 11, 12, 13, 26, 27, 28, 29, 30, 31, 32, 33, 34] (by decide +kernel) (by decide +kernel)
set_option maxRecDepth 20000 in
theorem gX11_setLetters_X5_restart : GoodIn wsX11_setLetters (wsV RX11 77 RX5 yX5_restart wsX5_restart) := goodIn_app (goodIn_of _ (by decide +kernel)) ggX11_setLetters_X5_restart
theorem dX11_setLetters_0 : decode cX11_setLetters 0 = .ok (.iload_n 1, 1) := by decide +kernel
theorem dX11_setLetters_1 : decode cX11_setLetters 1 = .ok (.iconst 1, 1) := by decide +kernel
theorem dX11_setLetters_2 : decode cX11_setLetters 2 = .ok (.if_icmp .lt 8, 3) := by decide +kernel
theorem dX11_setLetters_5 : decode cX11_setLetters 5 = .ok (.iload_n 1, 1) := by decide +kernel
theorem dX11_setLetters_6 : decode cX11_setLetters 6 = .ok (.iconst 3, 1) := by decide +kernel
theorem dX11_setLetters_7 : decode cX11_setLetters 7 = .ok (.if_icmp .le 5, 3) := by decide +kernel
theorem dX11_setLetters_10 : decode cX11_setLetters 10 = .ok (.iconst (-1), 1) := by decide +kernel
theorem dX11_setLetters_11 : decode cX11_setLetters 11 = .ok (.ireturn, 1) := by decide +kernel
theorem dX11_setLetters_12 : decode cX11_setLetters 12 = .ok (.aload_n 0, 1) := by decide +kernel
theorem dX11_setLetters_13 : decode cX11_setLetters 13 = .ok (.getfield 10, 3) := by decide +kernel
theorem dX11_setLetters_16 : decode cX11_setLetters 16 = .ok (.getfield 74, 3) := by decide +kernel
theorem dX11_setLetters_19 : decode cX11_setLetters 19 = .ok (.istore_n 2, 1) := by decide +kernel
theorem dX11_setLetters_20 : decode cX11_setLetters 20 = .ok (.aload_n 0, 1) := by decide +kernel
theorem dX11_setLetters_21 : decode cX11_setLetters 21 = .ok (.getfield 10, 3) := by decide +kernel
theorem dX11_setLetters_24 : decode cX11_setLetters 24 = .ok (.iload_n 1, 1) := by decide +kernel
theorem dX11_setLetters_25 : decode cX11_setLetters 25 = .ok (.invokevirtual 77, 3) := by decide +kernel
theorem dX11_setLetters_28 : decode cX11_setLetters 28 = .ok (.iload_n 2, 1) := by decide +kernel
theorem dX11_setLetters_29 : decode cX11_setLetters 29 = .ok (.ireturn, 1) := by decide +kernel
theorem dX11_letters_0 : decode cX11_letters 0 = .ok (.aload_n 0, 1) := by decide +kernel
theorem dX11_letters_1 : decode cX11_letters 1 = .ok (.getfield 10, 3) := by decide +kernel
theorem dX11_letters_4 : decode cX11_letters 4 = .ok (.getfield 74, 3) := by decide +kernel
theorem dX11_letters_7 : decode cX11_letters 7 = .ok (.ireturn, 1) := by decide +kernel
set_option maxRecDepth 20000 in
theorem ggX11_append_X11_isWord : GoodIn wsX11_append wsX11_isWord := goodIn_r _ [8] (by decide +kernel) (by decide +kernel)
set_option maxRecDepth 20000 in
theorem gX11_append_X11_isWord : GoodIn wsX11_append (va_wsS RX11 81 yX11_isWord wsX11_isWord) := goodIn_app (goodIn_of _ (by decide +kernel)) ggX11_append_X11_isWord
set_option maxRecDepth 20000 in
theorem ggX11_append_X9_push : GoodIn wsX11_append wsX9_push := goodIn_r _ [13, 14, 15, 32, 33, 34] (by decide +kernel) (by decide +kernel)
set_option maxRecDepth 20000 in
theorem gX11_append_X9_push : GoodIn wsX11_append (wsV RX11 92 RX9 yX9_push wsX9_push) := goodIn_app (goodIn_of _ (by decide +kernel)) ggX11_append_X9_push
theorem dX11_append_0 : decode cX11_append 0 = .ok (.iload_n 1, 1) := by decide +kernel
theorem dX11_append_1 : decode cX11_append 1 = .ok (.invokestatic 81, 3) := by decide +kernel
theorem dX11_append_4 : decode cX11_append 4 = .ok (.ifCond .eq 18, 3) := by decide +kernel
theorem dX11_append_7 : decode cX11_append 7 = .ok (.iload_n 2, 1) := by decide +kernel
theorem dX11_append_8 : decode cX11_append 8 = .ok (.ifCond .lt 14, 3) := by decide +kernel
theorem dX11_append_11 : decode cX11_append 11 = .ok (.iload_n 2, 1) := by decide +kernel
theorem dX11_append_12 : decode cX11_append 12 = .ok (.aload_n 0, 1) := by decide +kernel
theorem dX11_append_13 : decode cX11_append 13 = .ok (.getfield 10, 3) := by decide +kernel
theorem dX11_append_16 : decode cX11_append 16 = .ok (.getfield 74, 3) := by decide +kernel
theorem dX11_append_19 : decode cX11_append 19 = .ok (.if_icmp .lt 5, 3) := by decide +kernel
theorem dX11_append_22 : decode cX11_append 22 = .ok (.iconst (-1), 1) := by decide +kernel
theorem dX11_append_23 : decode cX11_append 23 = .ok (.ireturn, 1) := by decide +kernel
theorem dX11_append_24 : decode cX11_append 24 = .ok (.aload_n 0, 1) := by decide +kernel
theorem dX11_append_25 : decode cX11_append 25 = .ok (.getfield 10, 3) := by decide +kernel
theorem dX11_append_28 : decode cX11_append 28 = .ok (.getfield 85, 3) := by decide +kernel
theorem dX11_append_31 : decode cX11_append 31 = .ok (.iload_n 1, 1) := by decide +kernel
theorem dX11_append_32 : decode cX11_append 32 = .ok (.aaload, 1) := by decide +kernel
theorem dX11_append_33 : decode cX11_append 33 = .ok (.astore_n 3, 1) := by decide +kernel
theorem dX11_append_34 : decode cX11_append 34 = .ok (.aload_n 3, 1) := by decide +kernel
theorem dX11_append_35 : decode cX11_append 35 = .ok (.getfield 89, 3) := by decide +kernel
theorem dX11_append_38 : decode cX11_append 38 = .ok (.bipush 12, 2) := by decide +kernel
theorem dX11_append_40 : decode cX11_append 40 = .ok (.if_icmp .lt 6, 3) := by decide +kernel
theorem dX11_append_43 : decode cX11_append 43 = .ok (.bipush (-3), 2) := by decide +kernel
theorem dX11_append_45 : decode cX11_append 45 = .ok (.ireturn, 1) := by decide +kernel
theorem dX11_append_46 : decode cX11_append 46 = .ok (.aload_n 3, 1) := by decide +kernel
theorem dX11_append_47 : decode cX11_append 47 = .ok (.iload_n 2, 1) := by decide +kernel
theorem dX11_append_48 : decode cX11_append 48 = .ok (.invokevirtual 92, 3) := by decide +kernel
theorem dX11_append_51 : decode cX11_append 51 = .ok (.aload_n 3, 1) := by decide +kernel
theorem dX11_append_52 : decode cX11_append 52 = .ok (.getfield 89, 3) := by decide +kernel
theorem dX11_append_55 : decode cX11_append 55 = .ok (.ireturn, 1) := by decide +kernel
set_option maxRecDepth 20000 in
theorem ggX11_clearWord_X11_isWord : GoodIn wsX11_clearWord wsX11_isWord := goodIn_r _ [7] (by decide +kernel) (by decide +kernel)
set_option maxRecDepth 20000 in
theorem gX11_clearWord_X11_isWord : GoodIn wsX11_clearWord (va_wsS RX11 81 yX11_isWord wsX11_isWord) := goodIn_app (goodIn_of _ (by decide +kernel)) ggX11_clearWord_X11_isWord
theorem dX11_clearWord_0 : decode cX11_clearWord 0 = .ok (.iload_n 1, 1) := by decide +kernel
theorem dX11_clearWord_1 : decode cX11_clearWord 1 = .ok (.invokestatic 81, 3) := by decide +kernel
theorem dX11_clearWord_4 : decode cX11_clearWord 4 = .ok (.ifCond .ne 5, 3) := by decide +kernel
theorem dX11_clearWord_7 : decode cX11_clearWord 7 = .ok (.iconst (-1), 1) := by decide +kernel
theorem dX11_clearWord_8 : decode cX11_clearWord 8 = .ok (.ireturn, 1) := by decide +kernel
theorem dX11_clearWord_9 : decode cX11_clearWord 9 = .ok (.aload_n 0, 1) := by decide +kernel
theorem dX11_clearWord_10 : decode cX11_clearWord 10 = .ok (.getfield 10, 3) := by decide +kernel
theorem dX11_clearWord_13 : decode cX11_clearWord 13 = .ok (.getfield 85, 3) := by decide +kernel
theorem dX11_clearWord_16 : decode cX11_clearWord 16 = .ok (.iload_n 1, 1) := by decide +kernel
theorem dX11_clearWord_17 : decode cX11_clearWord 17 = .ok (.aaload, 1) := by decide +kernel
theorem dX11_clearWord_18 : decode cX11_clearWord 18 = .ok (.getfield 89, 3) := by decide +kernel
theorem dX11_clearWord_21 : decode cX11_clearWord 21 = .ok (.istore_n 2, 1) := by decide +kernel
theorem dX11_clearWord_22 : decode cX11_clearWord 22 = .ok (.aload_n 0, 1) := by decide +kernel
theorem dX11_clearWord_23 : decode cX11_clearWord 23 = .ok (.getfield 10, 3) := by decide +kernel
theorem dX11_clearWord_26 : decode cX11_clearWord 26 = .ok (.getfield 85, 3) := by decide +kernel
theorem dX11_clearWord_29 : decode cX11_clearWord 29 = .ok (.iload_n 1, 1) := by decide +kernel
theorem dX11_clearWord_30 : decode cX11_clearWord 30 = .ok (.aaload, 1) := by decide +kernel
theorem dX11_clearWord_31 : decode cX11_clearWord 31 = .ok (.iconst 0, 1) := by decide +kernel
theorem dX11_clearWord_32 : decode cX11_clearWord 32 = .ok (.putfield 89, 3) := by decide +kernel
theorem dX11_clearWord_35 : decode cX11_clearWord 35 = .ok (.iload_n 2, 1) := by decide +kernel
theorem dX11_clearWord_36 : decode cX11_clearWord 36 = .ok (.ireturn, 1) := by decide +kernel
set_option maxRecDepth 20000 in
theorem ggX11_length_X11_isWord : GoodIn wsX11_length wsX11_isWord := goodIn_r _ [7] (by decide +kernel) (by decide +kernel)
set_option maxRecDepth 20000 in
theorem gX11_length_X11_isWord : GoodIn wsX11_length (va_wsS RX11 81 yX11_isWord wsX11_isWord) := goodIn_app (goodIn_of _ (by decide +kernel)) ggX11_length_X11_isWord
theorem dX11_length_0 : decode cX11_length 0 = .ok (.iload_n 1, 1) := by decide +kernel
theorem dX11_length_1 : decode cX11_length 1 = .ok (.invokestatic 81, 3) := by decide +kernel
theorem dX11_length_4 : decode cX11_length 4 = .ok (.ifCond .eq 18, 3) := by decide +kernel
theorem dX11_length_7 : decode cX11_length 7 = .ok (.aload_n 0, 1) := by decide +kernel
theorem dX11_length_8 : decode cX11_length 8 = .ok (.getfield 10, 3) := by decide +kernel
theorem dX11_length_11 : decode cX11_length 11 = .ok (.getfield 85, 3) := by decide +kernel
theorem dX11_length_14 : decode cX11_length 14 = .ok (.iload_n 1, 1) := by decide +kernel
theorem dX11_length_15 : decode cX11_length 15 = .ok (.aaload, 1) := by decide +kernel
theorem dX11_length_16 : decode cX11_length 16 = .ok (.getfield 89, 3) := by decide +kernel
theorem dX11_length_19 : decode cX11_length 19 = .ok (.goto 4, 3) := by decide +kernel
theorem dX11_length_22 : decode cX11_length 22 = .ok (.iconst (-1), 1) := by decide +kernel
theorem dX11_length_23 : decode cX11_length 23 = .ok (.ireturn, 1) := by decide +kernel
set_option maxRecDepth 20000 in
theorem ggX11_letter_X11_isWord : GoodIn wsX11_letter wsX11_isWord := goodIn_r _ [8] (by decide +kernel) (by decide +kernel)
set_option maxRecDepth 20000 in
theorem gX11_letter_X11_isWord : GoodIn wsX11_letter (va_wsS RX11 81 yX11_isWord wsX11_isWord) := goodIn_app (goodIn_of _ (by decide +kernel)) ggX11_letter_X11_isWord
theorem dX11_letter_0 : decode cX11_letter 0 = .ok (.iload_n 1, 1) := by decide +kernel
theorem dX11_letter_1 : decode cX11_letter 1 = .ok (.invokestatic 81, 3) := by decide +kernel
theorem dX11_letter_4 : decode cX11_letter 4 = .ok (.ifCond .ne 5, 3) := by decide +kernel
theorem dX11_letter_7 : decode cX11_letter 7 = .ok (.iconst (-1), 1) := by decide +kernel
theorem dX11_letter_8 : decode cX11_letter 8 = .ok (.ireturn, 1) := by decide +kernel
theorem dX11_letter_9 : decode cX11_letter 9 = .ok (.aload_n 0, 1) := by decide +kernel
theorem dX11_letter_10 : decode cX11_letter 10 = .ok (.getfield 10, 3) := by decide +kernel
theorem dX11_letter_13 : decode cX11_letter 13 = .ok (.getfield 85, 3) := by decide +kernel
theorem dX11_letter_16 : decode cX11_letter 16 = .ok (.iload_n 1, 1) := by decide +kernel
theorem dX11_letter_17 : decode cX11_letter 17 = .ok (.aaload, 1) := by decide +kernel
theorem dX11_letter_18 : decode cX11_letter 18 = .ok (.astore_n 3, 1) := by decide +kernel
theorem dX11_letter_19 : decode cX11_letter 19 = .ok (.iload_n 2, 1) := by decide +kernel
theorem dX11_letter_20 : decode cX11_letter 20 = .ok (.ifCond .lt 20, 3) := by decide +kernel
theorem dX11_letter_23 : decode cX11_letter 23 = .ok (.iload_n 2, 1) := by decide +kernel
theorem dX11_letter_24 : decode cX11_letter 24 = .ok (.aload_n 3, 1) := by decide +kernel
theorem dX11_letter_25 : decode cX11_letter 25 = .ok (.getfield 89, 3) := by decide +kernel
theorem dX11_letter_28 : decode cX11_letter 28 = .ok (.if_icmp .ge 12, 3) := by decide +kernel
theorem dX11_letter_31 : decode cX11_letter 31 = .ok (.aload_n 3, 1) := by decide +kernel
theorem dX11_letter_32 : decode cX11_letter 32 = .ok (.getfield 95, 3) := by decide +kernel
theorem dX11_letter_35 : decode cX11_letter 35 = .ok (.iload_n 2, 1) := by decide +kernel
theorem dX11_letter_36 : decode cX11_letter 36 = .ok (.iaload, 1) := by decide +kernel
theorem dX11_letter_37 : decode cX11_letter 37 = .ok (.goto 5, 3) := by decide +kernel
theorem dX11_letter_40 : decode cX11_letter 40 = .ok (.bipush (-2), 2) := by decide +kernel
theorem dX11_letter_42 : decode cX11_letter 42 = .ok (.ireturn, 1) := by decide +kernel
set_option maxRecDepth 20000 in
theorem ggX11_reverse_X11_isWord : GoodIn wsX11_reverse wsX11_isWord := goodIn_r _ [6] (by decide +kernel) (by decide +kernel)
set_option maxRecDepth 20000 in
theorem gX11_reverse_X11_isWord : GoodIn wsX11_reverse (va_wsS RX11 81 yX11_isWord wsX11_isWord) := goodIn_app (goodIn_of _ (by decide +kernel)) ggX11_reverse_X11_isWord
set_option maxRecDepth 20000 in
theorem ggX11_reverse_X9_turnRound : GoodIn wsX11_reverse wsX9_turnRound := goodIn_r _ [11, 12, 13, 30, 31, 32] (by decide +kernel) (by decide +kernel)
set_option maxRecDepth 20000 in
theorem gX11_reverse_X9_turnRound : GoodIn wsX11_reverse (wsV RX11 97 RX9 yX9_turnRound wsX9_turnRound) := goodIn_app (goodIn_of _ (by decide +kernel)) ggX11_reverse_X9_turnRound
theorem dX11_reverse_0 : decode cX11_reverse 0 = .ok (.iload_n 1, 1) := by decide +kernel
theorem dX11_reverse_1 : decode cX11_reverse 1 = .ok (.invokestatic 81, 3) := by decide +kernel
theorem dX11_reverse_4 : decode cX11_reverse 4 = .ok (.ifCond .ne 5, 3) := by decide +kernel
theorem dX11_reverse_7 : decode cX11_reverse 7 = .ok (.iconst (-1), 1) := by decide +kernel
theorem dX11_reverse_8 : decode cX11_reverse 8 = .ok (.ireturn, 1) := by decide +kernel
theorem dX11_reverse_9 : decode cX11_reverse 9 = .ok (.aload_n 0, 1) := by decide +kernel
theorem dX11_reverse_10 : decode cX11_reverse 10 = .ok (.getfield 10, 3) := by decide +kernel
theorem dX11_reverse_13 : decode cX11_reverse 13 = .ok (.getfield 85, 3) := by decide +kernel
theorem dX11_reverse_16 : decode cX11_reverse 16 = .ok (.iload_n 1, 1) := by decide +kernel
theorem dX11_reverse_17 : decode cX11_reverse 17 = .ok (.aaload, 1) := by decide +kernel
theorem dX11_reverse_18 : decode cX11_reverse 18 = .ok (.invokevirtual 97, 3) := by decide +kernel
theorem dX11_reverse_21 : decode cX11_reverse 21 = .ok (.ifCond .eq 7, 3) := by decide +kernel
theorem dX11_reverse_24 : decode cX11_reverse 24 = .ok (.iconst 1, 1) := by decide +kernel
theorem dX11_reverse_25 : decode cX11_reverse 25 = .ok (.goto 4, 3) := by decide +kernel
theorem dX11_reverse_28 : decode cX11_reverse 28 = .ok (.iconst 0, 1) := by decide +kernel
theorem dX11_reverse_29 : decode cX11_reverse 29 = .ok (.ireturn, 1) := by decide +kernel
set_option maxRecDepth 20000 in
theorem ggX11_concatenate_X11_isWord : GoodIn wsX11_concatenate wsX11_isWord := goodIn_r _ [7] (by decide +kernel) (by decide +kernel)
set_option maxRecDepth 20000 in
theorem gX11_concatenate_X11_isWord : GoodIn wsX11_concatenate (va_wsS RX11 81 yX11_isWord wsX11_isWord) := goodIn_app (goodIn_of _ (by decide +kernel)) ggX11_concatenate_X11_isWord
set_option maxRecDepth 20000 in
theorem ggX11_concatenate_X9_pushAll : GoodIn wsX11_concatenate wsX9_pushAll := goodIn_r _ [12, 13, 14, 15, 16, 17, 11, 18, 35, 36, 37] (by decide +kernel) (by decide +kernel)
set_option maxRecDepth 20000 in
theorem gX11_concatenate_X9_pushAll : GoodIn wsX11_concatenate (wsV RX11 101 RX9 yX9_pushAll wsX9_pushAll) := goodIn_app (goodIn_of _ (by decide +kernel)) ggX11_concatenate_X9_pushAll
theorem dX11_concatenate_0 : decode cX11_concatenate 0 = .ok (.iload_n 1, 1) := by decide +kernel
theorem dX11_concatenate_1 : decode cX11_concatenate 1 = .ok (.invokestatic 81, 3) := by decide +kernel
theorem dX11_concatenate_4 : decode cX11_concatenate 4 = .ok (.ifCond .eq 10, 3) := by decide +kernel
theorem dX11_concatenate_7 : decode cX11_concatenate 7 = .ok (.iload_n 2, 1) := by decide +kernel
theorem dX11_concatenate_8 : decode cX11_concatenate 8 = .ok (.invokestatic 81, 3) := by decide +kernel
theorem dX11_concatenate_11 : decode cX11_concatenate 11 = .ok (.ifCond .ne 5, 3) := by decide +kernel
theorem dX11_concatenate_14 : decode cX11_concatenate 14 = .ok (.iconst (-1), 1) := by decide +kernel
theorem dX11_concatenate_15 : decode cX11_concatenate 15 = .ok (.ireturn, 1) := by decide +kernel
theorem dX11_concatenate_16 : decode cX11_concatenate 16 = .ok (.aload_n 0, 1) := by decide +kernel
theorem dX11_concatenate_17 : decode cX11_concatenate 17 = .ok (.getfield 10, 3) := by decide +kernel
theorem dX11_concatenate_20 : decode cX11_concatenate 20 = .ok (.getfield 85, 3) := by decide +kernel
theorem dX11_concatenate_23 : decode cX11_concatenate 23 = .ok (.iload_n 1, 1) := by decide +kernel
theorem dX11_concatenate_24 : decode cX11_concatenate 24 = .ok (.aaload, 1) := by decide +kernel
theorem dX11_concatenate_25 : decode cX11_concatenate 25 = .ok (.astore_n 3, 1) := by decide +kernel
theorem dX11_concatenate_26 : decode cX11_concatenate 26 = .ok (.aload_n 3, 1) := by decide +kernel
theorem dX11_concatenate_27 : decode cX11_concatenate 27 = .ok (.getfield 89, 3) := by decide +kernel
theorem dX11_concatenate_30 : decode cX11_concatenate 30 = .ok (.aload_n 0, 1) := by decide +kernel
theorem dX11_concatenate_31 : decode cX11_concatenate 31 = .ok (.getfield 10, 3) := by decide +kernel
theorem dX11_concatenate_34 : decode cX11_concatenate 34 = .ok (.getfield 85, 3) := by decide +kernel
theorem dX11_concatenate_37 : decode cX11_concatenate 37 = .ok (.iload_n 2, 1) := by decide +kernel
theorem dX11_concatenate_38 : decode cX11_concatenate 38 = .ok (.aaload, 1) := by decide +kernel
theorem dX11_concatenate_39 : decode cX11_concatenate 39 = .ok (.getfield 89, 3) := by decide +kernel
theorem dX11_concatenate_42 : decode cX11_concatenate 42 = .ok (.iadd, 1) := by decide +kernel
theorem dX11_concatenate_43 : decode cX11_concatenate 43 = .ok (.bipush 12, 2) := by decide +kernel
theorem dX11_concatenate_45 : decode cX11_concatenate 45 = .ok (.if_icmp .le 6, 3) := by decide +kernel
theorem dX11_concatenate_48 : decode cX11_concatenate 48 = .ok (.bipush (-3), 2) := by decide +kernel
theorem dX11_concatenate_50 : decode cX11_concatenate 50 = .ok (.ireturn, 1) := by decide +kernel
theorem dX11_concatenate_51 : decode cX11_concatenate 51 = .ok (.aload_n 3, 1) := by decide +kernel
theorem dX11_concatenate_52 : decode cX11_concatenate 52 = .ok (.aload_n 0, 1) := by decide +kernel
theorem dX11_concatenate_53 : decode cX11_concatenate 53 = .ok (.getfield 10, 3) := by decide +kernel
theorem dX11_concatenate_56 : decode cX11_concatenate 56 = .ok (.getfield 85, 3) := by decide +kernel
theorem dX11_concatenate_59 : decode cX11_concatenate 59 = .ok (.iload_n 2, 1) := by decide +kernel
theorem dX11_concatenate_60 : decode cX11_concatenate 60 = .ok (.aaload, 1) := by decide +kernel
theorem dX11_concatenate_61 : decode cX11_concatenate 61 = .ok (.invokevirtual 101, 3) := by decide +kernel
theorem dX11_concatenate_64 : decode cX11_concatenate 64 = .ok (.aload_n 3, 1) := by decide +kernel
theorem dX11_concatenate_65 : decode cX11_concatenate 65 = .ok (.getfield 89, 3) := by decide +kernel
theorem dX11_concatenate_68 : decode cX11_concatenate 68 = .ok (.ireturn, 1) := by decide +kernel
set_option maxRecDepth 20000 in
theorem ggX11_compare_X11_isWord : GoodIn wsX11_compare wsX11_isWord := goodIn_r _ [6] (by decide +kernel) (by decide +kernel)
set_option maxRecDepth 20000 in
theorem gX11_compare_X11_isWord : GoodIn wsX11_compare (va_wsS RX11 81 yX11_isWord wsX11_isWord) := goodIn_app (goodIn_of _ (by decide +kernel)) ggX11_compare_X11_isWord
set_option maxRecDepth 20000 in
theorem ggX11_compare_X9_orderAgainst : GoodIn wsX11_compare wsX9_orderAgainst := goodIn_r _ [11, 12, 13, 30, 31, 32] (by decide +kernel) (by decide +kernel)
set_option maxRecDepth 20000 in
theorem gX11_compare_X9_orderAgainst : GoodIn wsX11_compare (wsV RX11 105 RX9 yX9_orderAgainst wsX9_orderAgainst) := goodIn_app (goodIn_of _ (by decide +kernel)) ggX11_compare_X9_orderAgainst
theorem dX11_compare_0 : decode cX11_compare 0 = .ok (.iload_n 1, 1) := by decide +kernel
theorem dX11_compare_1 : decode cX11_compare 1 = .ok (.invokestatic 81, 3) := by decide +kernel
theorem dX11_compare_4 : decode cX11_compare 4 = .ok (.ifCond .eq 10, 3) := by decide +kernel
theorem dX11_compare_7 : decode cX11_compare 7 = .ok (.iload_n 2, 1) := by decide +kernel
theorem dX11_compare_8 : decode cX11_compare 8 = .ok (.invokestatic 81, 3) := by decide +kernel
theorem dX11_compare_11 : decode cX11_compare 11 = .ok (.ifCond .ne 5, 3) := by decide +kernel
theorem dX11_compare_14 : decode cX11_compare 14 = .ok (.iconst (-1), 1) := by decide +kernel
theorem dX11_compare_15 : decode cX11_compare 15 = .ok (.ireturn, 1) := by decide +kernel
theorem dX11_compare_16 : decode cX11_compare 16 = .ok (.aload_n 0, 1) := by decide +kernel
theorem dX11_compare_17 : decode cX11_compare 17 = .ok (.getfield 10, 3) := by decide +kernel
theorem dX11_compare_20 : decode cX11_compare 20 = .ok (.getfield 85, 3) := by decide +kernel
theorem dX11_compare_23 : decode cX11_compare 23 = .ok (.iload_n 1, 1) := by decide +kernel
theorem dX11_compare_24 : decode cX11_compare 24 = .ok (.aaload, 1) := by decide +kernel
theorem dX11_compare_25 : decode cX11_compare 25 = .ok (.aload_n 0, 1) := by decide +kernel
theorem dX11_compare_26 : decode cX11_compare 26 = .ok (.getfield 10, 3) := by decide +kernel
theorem dX11_compare_29 : decode cX11_compare 29 = .ok (.getfield 85, 3) := by decide +kernel
theorem dX11_compare_32 : decode cX11_compare 32 = .ok (.iload_n 2, 1) := by decide +kernel
theorem dX11_compare_33 : decode cX11_compare 33 = .ok (.aaload, 1) := by decide +kernel
theorem dX11_compare_34 : decode cX11_compare 34 = .ok (.invokevirtual 105, 3) := by decide +kernel
theorem dX11_compare_37 : decode cX11_compare 37 = .ok (.ireturn, 1) := by decide +kernel
set_option maxRecDepth 20000 in
theorem ggX11_occurrences_X11_isWord : GoodIn wsX11_occurrences wsX11_isWord := goodIn_r _ [6] (by decide +kernel) (by decide +kernel)
set_option maxRecDepth 20000 in
theorem gX11_occurrences_X11_isWord : GoodIn wsX11_occurrences (va_wsS RX11 81 yX11_isWord wsX11_isWord) := goodIn_app (goodIn_of _ (by decide +kernel)) ggX11_occurrences_X11_isWord
set_option maxRecDepth 20000 in
theorem ggX11_occurrences_X9_occurrencesIn : GoodIn wsX11_occurrences wsX9_occurrencesIn := goodIn_r _ [11, 12, 13, 14, 15, 16, 17, 18, 35, 36, 37] (by decide +kernel) (by decide +kernel)
set_option maxRecDepth 20000 in
theorem gX11_occurrences_X9_occurrencesIn : GoodIn wsX11_occurrences (wsV RX11 109 RX9 yX9_occurrencesIn wsX9_occurrencesIn) := goodIn_app (goodIn_of _ (by decide +kernel)) ggX11_occurrences_X9_occurrencesIn
theorem dX11_occurrences_0 : decode cX11_occurrences 0 = .ok (.iload_n 1, 1) := by decide +kernel
theorem dX11_occurrences_1 : decode cX11_occurrences 1 = .ok (.invokestatic 81, 3) := by decide +kernel
theorem dX11_occurrences_4 : decode cX11_occurrences 4 = .ok (.ifCond .eq 10, 3) := by decide +kernel
theorem dX11_occurrences_7 : decode cX11_occurrences 7 = .ok (.iload_n 2, 1) := by decide +kernel
theorem dX11_occurrences_8 : decode cX11_occurrences 8 = .ok (.invokestatic 81, 3) := by decide +kernel
theorem dX11_occurrences_11 : decode cX11_occurrences 11 = .ok (.ifCond .ne 5, 3) := by decide +kernel
theorem dX11_occurrences_14 : decode cX11_occurrences 14 = .ok (.iconst (-1), 1) := by decide +kernel
theorem dX11_occurrences_15 : decode cX11_occurrences 15 = .ok (.ireturn, 1) := by decide +kernel
theorem dX11_occurrences_16 : decode cX11_occurrences 16 = .ok (.aload_n 0, 1) := by decide +kernel
theorem dX11_occurrences_17 : decode cX11_occurrences 17 = .ok (.getfield 10, 3) := by decide +kernel
theorem dX11_occurrences_20 : decode cX11_occurrences 20 = .ok (.getfield 85, 3) := by decide +kernel
theorem dX11_occurrences_23 : decode cX11_occurrences 23 = .ok (.iload_n 1, 1) := by decide +kernel
theorem dX11_occurrences_24 : decode cX11_occurrences 24 = .ok (.aaload, 1) := by decide +kernel
theorem dX11_occurrences_25 : decode cX11_occurrences 25 = .ok (.aload_n 0, 1) := by decide +kernel
theorem dX11_occurrences_26 : decode cX11_occurrences 26 = .ok (.getfield 10, 3) := by decide +kernel
theorem dX11_occurrences_29 : decode cX11_occurrences 29 = .ok (.getfield 85, 3) := by decide +kernel
theorem dX11_occurrences_32 : decode cX11_occurrences 32 = .ok (.iload_n 2, 1) := by decide +kernel
theorem dX11_occurrences_33 : decode cX11_occurrences 33 = .ok (.aaload, 1) := by decide +kernel
theorem dX11_occurrences_34 : decode cX11_occurrences 34 = .ok (.invokevirtual 109, 3) := by decide +kernel
theorem dX11_occurrences_37 : decode cX11_occurrences 37 = .ok (.ireturn, 1) := by decide +kernel
set_option maxRecDepth 20000 in
theorem ggX11_separate_X11_isWord : GoodIn wsX11_separate wsX11_isWord := goodIn_r _ [8] (by decide +kernel) (by decide +kernel)
set_option maxRecDepth 20000 in
theorem gX11_separate_X11_isWord : GoodIn wsX11_separate (va_wsS RX11 81 yX11_isWord wsX11_isWord) := goodIn_app (goodIn_of _ (by decide +kernel)) ggX11_separate_X11_isWord
set_option maxRecDepth 20000 in
theorem ggX11_separate_X9_setListed : GoodIn wsX11_separate wsX9_setListed := goodIn_r _ [13, 14, 15, 16, 17, 18, 19, 20, 21, 22, 63, 64, 65] (by decide +kernel) (by decide +kernel)
set_option maxRecDepth 20000 in
theorem gX11_separate_X9_setListed : GoodIn wsX11_separate (wsV RX11 112 RX9 yX9_setListed wsX9_setListed) := goodIn_app (goodIn_of _ (by decide +kernel)) ggX11_separate_X9_setListed
set_option maxRecDepth 20000 in
theorem ggX11_separate_X11_separatingModulus : GoodIn wsX11_separate wsX11_separatingModulus := goodIn_r _ [25, 26, 27, 28, 12, 29, 30, 18, 22, 31, 32, 33, 34, 63, 64, 65] (by decide +kernel) (by decide +kernel)
set_option maxRecDepth 20000 in
theorem gX11_separate_X11_separatingModulus : GoodIn wsX11_separate (va_wsS RX11 116 yX11_separatingModulus wsX11_separatingModulus) := goodIn_app (goodIn_of _ (by decide +kernel)) ggX11_separate_X11_separatingModulus
set_option maxRecDepth 20000 in
theorem ggX11_separate_X11_thirdWord : GoodIn wsX11_separate wsX11_thirdWord := goodIn_r _ [38, 1, 4, 3, 47, 48, 49, 50, 51, 52, 53, 54, 55, 56, 57, 58, 59, 60, 61, 62] (by decide +kernel) (by decide +kernel)
set_option maxRecDepth 20000 in
theorem gX11_separate_X11_thirdWord : GoodIn wsX11_separate (wsV RX11 120 RX11 yX11_thirdWord wsX11_thirdWord) := goodIn_app (goodIn_of _ (by decide +kernel)) ggX11_separate_X11_thirdWord
set_option maxRecDepth 20000 in
theorem ggX11_separate_X9_copyFrom : GoodIn wsX11_separate wsX9_copyFrom := goodIn_r _ [42, 22, 43, 44, 45, 46, 18, 63, 64, 65] (by decide +kernel) (by decide +kernel)
set_option maxRecDepth 20000 in
theorem gX11_separate_X9_copyFrom : GoodIn wsX11_separate (wsV RX11 124 RX9 yX9_copyFrom wsX9_copyFrom) := goodIn_app (goodIn_of _ (by decide +kernel)) ggX11_separate_X9_copyFrom
theorem dX11_separate_0 : decode cX11_separate 0 = .ok (.iload_n 1, 1) := by decide +kernel
theorem dX11_separate_1 : decode cX11_separate 1 = .ok (.invokestatic 81, 3) := by decide +kernel
theorem dX11_separate_4 : decode cX11_separate 4 = .ok (.ifCond .eq 15, 3) := by decide +kernel
theorem dX11_separate_7 : decode cX11_separate 7 = .ok (.iload_n 2, 1) := by decide +kernel
theorem dX11_separate_8 : decode cX11_separate 8 = .ok (.invokestatic 81, 3) := by decide +kernel
theorem dX11_separate_11 : decode cX11_separate 11 = .ok (.ifCond .eq 8, 3) := by decide +kernel
theorem dX11_separate_14 : decode cX11_separate 14 = .ok (.iload_n 1, 1) := by decide +kernel
theorem dX11_separate_15 : decode cX11_separate 15 = .ok (.iload_n 2, 1) := by decide +kernel
theorem dX11_separate_16 : decode cX11_separate 16 = .ok (.if_icmp .ne 5, 3) := by decide +kernel
theorem dX11_separate_19 : decode cX11_separate 19 = .ok (.iconst (-1), 1) := by decide +kernel
theorem dX11_separate_20 : decode cX11_separate 20 = .ok (.ireturn, 1) := by decide +kernel
theorem dX11_separate_21 : decode cX11_separate 21 = .ok (.iconst 1, 1) := by decide +kernel
theorem dX11_separate_22 : decode cX11_separate 22 = .ok (.istore_n 3, 1) := by decide +kernel
theorem dX11_separate_23 : decode cX11_separate 23 = .ok (.iconst 1, 1) := by decide +kernel
theorem dX11_separate_24 : decode cX11_separate 24 = .ok (.istore 4, 2) := by decide +kernel
theorem dX11_separate_26 : decode cX11_separate 26 = .ok (.iload 4, 2) := by decide +kernel
theorem dX11_separate_28 : decode cX11_separate 28 = .ok (.iconst 4, 1) := by decide +kernel
theorem dX11_separate_29 : decode cX11_separate 29 = .ok (.if_icmp .gt 102, 3) := by decide +kernel
theorem dX11_separate_32 : decode cX11_separate 32 = .ok (.iload_n 3, 1) := by decide +kernel
theorem dX11_separate_33 : decode cX11_separate 33 = .ok (.aload_n 0, 1) := by decide +kernel
theorem dX11_separate_34 : decode cX11_separate 34 = .ok (.getfield 10, 3) := by decide +kernel
theorem dX11_separate_37 : decode cX11_separate 37 = .ok (.getfield 74, 3) := by decide +kernel
theorem dX11_separate_40 : decode cX11_separate 40 = .ok (.imul, 1) := by decide +kernel
theorem dX11_separate_41 : decode cX11_separate 41 = .ok (.istore_n 3, 1) := by decide +kernel
theorem dX11_separate_42 : decode cX11_separate 42 = .ok (.iconst 0, 1) := by decide +kernel
theorem dX11_separate_43 : decode cX11_separate 43 = .ok (.istore 5, 2) := by decide +kernel
theorem dX11_separate_45 : decode cX11_separate 45 = .ok (.iload 5, 2) := by decide +kernel
theorem dX11_separate_47 : decode cX11_separate 47 = .ok (.iload_n 3, 1) := by decide +kernel
theorem dX11_separate_48 : decode cX11_separate 48 = .ok (.if_icmp .ge 77, 3) := by decide +kernel
theorem dX11_separate_51 : decode cX11_separate 51 = .ok (.aload_n 0, 1) := by decide +kernel
theorem dX11_separate_52 : decode cX11_separate 52 = .ok (.getfield 40, 3) := by decide +kernel
theorem dX11_separate_55 : decode cX11_separate 55 = .ok (.iload 4, 2) := by decide +kernel
theorem dX11_separate_57 : decode cX11_separate 57 = .ok (.iload 5, 2) := by decide +kernel
theorem dX11_separate_59 : decode cX11_separate 59 = .ok (.aload_n 0, 1) := by decide +kernel
theorem dX11_separate_60 : decode cX11_separate 60 = .ok (.getfield 10, 3) := by decide +kernel
theorem dX11_separate_63 : decode cX11_separate 63 = .ok (.getfield 74, 3) := by decide +kernel
theorem dX11_separate_66 : decode cX11_separate 66 = .ok (.invokevirtual 112, 3) := by decide +kernel
theorem dX11_separate_69 : decode cX11_separate 69 = .ok (.aload_n 0, 1) := by decide +kernel
theorem dX11_separate_70 : decode cX11_separate 70 = .ok (.getfield 40, 3) := by decide +kernel
theorem dX11_separate_73 : decode cX11_separate 73 = .ok (.aload_n 0, 1) := by decide +kernel
theorem dX11_separate_74 : decode cX11_separate 74 = .ok (.getfield 10, 3) := by decide +kernel
theorem dX11_separate_77 : decode cX11_separate 77 = .ok (.getfield 85, 3) := by decide +kernel
theorem dX11_separate_80 : decode cX11_separate 80 = .ok (.iload_n 1, 1) := by decide +kernel
theorem dX11_separate_81 : decode cX11_separate 81 = .ok (.aaload, 1) := by decide +kernel
theorem dX11_separate_82 : decode cX11_separate 82 = .ok (.aload_n 0, 1) := by decide +kernel
theorem dX11_separate_83 : decode cX11_separate 83 = .ok (.getfield 10, 3) := by decide +kernel
theorem dX11_separate_86 : decode cX11_separate 86 = .ok (.getfield 85, 3) := by decide +kernel
theorem dX11_separate_89 : decode cX11_separate 89 = .ok (.iload_n 2, 1) := by decide +kernel
theorem dX11_separate_90 : decode cX11_separate 90 = .ok (.aaload, 1) := by decide +kernel
theorem dX11_separate_91 : decode cX11_separate 91 = .ok (.invokestatic 116, 3) := by decide +kernel
theorem dX11_separate_94 : decode cX11_separate 94 = .ok (.istore 6, 2) := by decide +kernel
theorem dX11_separate_96 : decode cX11_separate 96 = .ok (.iload 6, 2) := by decide +kernel
theorem dX11_separate_98 : decode cX11_separate 98 = .ok (.bipush (-2), 2) := by decide +kernel
theorem dX11_separate_100 : decode cX11_separate 100 = .ok (.if_icmp .eq 19, 3) := by decide +kernel
theorem dX11_separate_103 : decode cX11_separate 103 = .ok (.aload_n 0, 1) := by decide +kernel
theorem dX11_separate_104 : decode cX11_separate 104 = .ok (.iload_n 1, 1) := by decide +kernel
theorem dX11_separate_105 : decode cX11_separate 105 = .ok (.iload_n 2, 1) := by decide +kernel
theorem dX11_separate_106 : decode cX11_separate 106 = .ok (.invokevirtual 120, 3) := by decide +kernel
theorem dX11_separate_109 : decode cX11_separate 109 = .ok (.aload_n 0, 1) := by decide +kernel
theorem dX11_separate_110 : decode cX11_separate 110 = .ok (.getfield 40, 3) := by decide +kernel
theorem dX11_separate_113 : decode cX11_separate 113 = .ok (.invokevirtual 124, 3) := by decide +kernel
theorem dX11_separate_116 : decode cX11_separate 116 = .ok (.iload 6, 2) := by decide +kernel
theorem dX11_separate_118 : decode cX11_separate 118 = .ok (.ireturn, 1) := by decide +kernel
theorem dX11_separate_119 : decode cX11_separate 119 = .ok (.iinc 5 1, 3) := by decide +kernel
theorem dX11_separate_122 : decode cX11_separate 122 = .ok (.goto (-77), 3) := by decide +kernel
theorem dX11_separate_125 : decode cX11_separate 125 = .ok (.iinc 4 1, 3) := by decide +kernel
theorem dX11_separate_128 : decode cX11_separate 128 = .ok (.goto (-102), 3) := by decide +kernel
theorem dX11_separate_131 : decode cX11_separate 131 = .ok (.bipush (-2), 2) := by decide +kernel
theorem dX11_separate_133 : decode cX11_separate 133 = .ok (.ireturn, 1) := by decide +kernel
theorem dX11_feed_0 : decode cX11_feed 0 = .ok (.iload_n 1, 1) := by decide +kernel
theorem dX11_feed_1 : decode cX11_feed 1 = .ok (.iconst 1, 1) := by decide +kernel
theorem dX11_feed_2 : decode cX11_feed 2 = .ok (.if_icmp .lt 9, 3) := by decide +kernel
theorem dX11_feed_5 : decode cX11_feed 5 = .ok (.iload_n 1, 1) := by decide +kernel
theorem dX11_feed_6 : decode cX11_feed 6 = .ok (.bipush 127, 2) := by decide +kernel
theorem dX11_feed_8 : decode cX11_feed 8 = .ok (.if_icmp .le 5, 3) := by decide +kernel
theorem dX11_feed_11 : decode cX11_feed 11 = .ok (.iconst (-1), 1) := by decide +kernel
theorem dX11_feed_12 : decode cX11_feed 12 = .ok (.ireturn, 1) := by decide +kernel
theorem dX11_feed_13 : decode cX11_feed 13 = .ok (.aload_n 0, 1) := by decide +kernel
theorem dX11_feed_14 : decode cX11_feed 14 = .ok (.getfield 27, 3) := by decide +kernel
theorem dX11_feed_17 : decode cX11_feed 17 = .ok (.bipush 8, 2) := by decide +kernel
theorem dX11_feed_19 : decode cX11_feed 19 = .ok (.if_icmp .lt 6, 3) := by decide +kernel
theorem dX11_feed_22 : decode cX11_feed 22 = .ok (.bipush (-3), 2) := by decide +kernel
theorem dX11_feed_24 : decode cX11_feed 24 = .ok (.ireturn, 1) := by decide +kernel
theorem dX11_feed_25 : decode cX11_feed 25 = .ok (.aload_n 0, 1) := by decide +kernel
theorem dX11_feed_26 : decode cX11_feed 26 = .ok (.getfield 23, 3) := by decide +kernel
theorem dX11_feed_29 : decode cX11_feed 29 = .ok (.aload_n 0, 1) := by decide +kernel
theorem dX11_feed_30 : decode cX11_feed 30 = .ok (.getfield 27, 3) := by decide +kernel
theorem dX11_feed_33 : decode cX11_feed 33 = .ok (.iload_n 1, 1) := by decide +kernel
theorem dX11_feed_34 : decode cX11_feed 34 = .ok (.iastore, 1) := by decide +kernel
theorem dX11_feed_35 : decode cX11_feed 35 = .ok (.aload_n 0, 1) := by decide +kernel
theorem dX11_feed_36 : decode cX11_feed 36 = .ok (.dup, 1) := by decide +kernel
theorem dX11_feed_37 : decode cX11_feed 37 = .ok (.getfield 27, 3) := by decide +kernel
theorem dX11_feed_40 : decode cX11_feed 40 = .ok (.iconst 1, 1) := by decide +kernel
theorem dX11_feed_41 : decode cX11_feed 41 = .ok (.iadd, 1) := by decide +kernel
theorem dX11_feed_42 : decode cX11_feed 42 = .ok (.putfield 27, 3) := by decide +kernel
theorem dX11_feed_45 : decode cX11_feed 45 = .ok (.aload_n 0, 1) := by decide +kernel
theorem dX11_feed_46 : decode cX11_feed 46 = .ok (.getfield 27, 3) := by decide +kernel
theorem dX11_feed_49 : decode cX11_feed 49 = .ok (.ireturn, 1) := by decide +kernel
set_option maxRecDepth 20000 in
theorem ggX11_addTest_X7_errorAt : GoodIn wsX11_addTest wsX7_errorAt := goodIn_r _ [10, 11, 12, 9, 13, 14, 15, 16, 17, 18, 19] (by decide +kernel) (by decide +kernel)
set_option maxRecDepth 20000 in
theorem gX11_addTest_X7_errorAt : GoodIn wsX11_addTest (va_wsS RX11 136 yX7_errorAt wsX7_errorAt) := goodIn_app (goodIn_of _ (by decide +kernel)) ggX11_addTest_X7_errorAt
set_option maxRecDepth 20000 in
theorem ggX11_addTest_X7_read : GoodIn wsX11_addTest wsX7_read := goodIn_r _ [22, 23, 24, 25, 26, 27, 28, 29, 30, 31, 32, 33, 34, 35, 36, 37, 63, 64, 65, 66, 67] (by decide +kernel) (by decide +kernel)
set_option maxRecDepth 20000 in
theorem gX11_addTest_X7_read : GoodIn wsX11_addTest (va_wsS RX11 142 yX7_read wsX7_read) := goodIn_app (goodIn_of _ (by decide +kernel)) ggX11_addTest_X7_read
set_option maxRecDepth 20000 in
theorem ggX11_addTest_X1_add : GoodIn wsX11_addTest wsX1_add := goodIn_r _ [42, 43, 44, 61, 62] (by decide +kernel) (by decide +kernel)
set_option maxRecDepth 20000 in
theorem gX11_addTest_X1_add : GoodIn wsX11_addTest (wsV RX11 146 RX1 yX1_add wsX1_add) := goodIn_app (goodIn_of _ (by decide +kernel)) ggX11_addTest_X1_add
theorem dX11_addTest_0 : decode cX11_addTest 0 = .ok (.aload_n 0, 1) := by decide +kernel
theorem dX11_addTest_1 : decode cX11_addTest 1 = .ok (.getfield 10, 3) := by decide +kernel
theorem dX11_addTest_4 : decode cX11_addTest 4 = .ok (.getfield 127, 3) := by decide +kernel
theorem dX11_addTest_7 : decode cX11_addTest 7 = .ok (.getfield 131, 3) := by decide +kernel
theorem dX11_addTest_10 : decode cX11_addTest 10 = .ok (.bipush 6, 2) := by decide +kernel
theorem dX11_addTest_12 : decode cX11_addTest 12 = .ok (.if_icmp .lt 6, 3) := by decide +kernel
theorem dX11_addTest_15 : decode cX11_addTest 15 = .ok (.bipush (-3), 2) := by decide +kernel
theorem dX11_addTest_17 : decode cX11_addTest 17 = .ok (.ireturn, 1) := by decide +kernel
theorem dX11_addTest_18 : decode cX11_addTest 18 = .ok (.aload_n 0, 1) := by decide +kernel
theorem dX11_addTest_19 : decode cX11_addTest 19 = .ok (.getfield 23, 3) := by decide +kernel
theorem dX11_addTest_22 : decode cX11_addTest 22 = .ok (.aload_n 0, 1) := by decide +kernel
theorem dX11_addTest_23 : decode cX11_addTest 23 = .ok (.getfield 27, 3) := by decide +kernel
theorem dX11_addTest_26 : decode cX11_addTest 26 = .ok (.aload_n 0, 1) := by decide +kernel
theorem dX11_addTest_27 : decode cX11_addTest 27 = .ok (.getfield 10, 3) := by decide +kernel
theorem dX11_addTest_30 : decode cX11_addTest 30 = .ok (.getfield 74, 3) := by decide +kernel
theorem dX11_addTest_33 : decode cX11_addTest 33 = .ok (.invokestatic 136, 3) := by decide +kernel
theorem dX11_addTest_36 : decode cX11_addTest 36 = .ok (.istore_n 1, 1) := by decide +kernel
theorem dX11_addTest_37 : decode cX11_addTest 37 = .ok (.aload_n 0, 1) := by decide +kernel
theorem dX11_addTest_38 : decode cX11_addTest 38 = .ok (.getfield 27, 3) := by decide +kernel
theorem dX11_addTest_41 : decode cX11_addTest 41 = .ok (.istore_n 2, 1) := by decide +kernel
theorem dX11_addTest_42 : decode cX11_addTest 42 = .ok (.aload_n 0, 1) := by decide +kernel
theorem dX11_addTest_43 : decode cX11_addTest 43 = .ok (.iconst 0, 1) := by decide +kernel
theorem dX11_addTest_44 : decode cX11_addTest 44 = .ok (.putfield 27, 3) := by decide +kernel
theorem dX11_addTest_47 : decode cX11_addTest 47 = .ok (.iload_n 1, 1) := by decide +kernel
theorem dX11_addTest_48 : decode cX11_addTest 48 = .ok (.ifCond .lt 8, 3) := by decide +kernel
theorem dX11_addTest_51 : decode cX11_addTest 51 = .ok (.bipush (-100), 2) := by decide +kernel
theorem dX11_addTest_53 : decode cX11_addTest 53 = .ok (.iload_n 1, 1) := by decide +kernel
theorem dX11_addTest_54 : decode cX11_addTest 54 = .ok (.isub, 1) := by decide +kernel
theorem dX11_addTest_55 : decode cX11_addTest 55 = .ok (.ireturn, 1) := by decide +kernel
theorem dX11_addTest_56 : decode cX11_addTest 56 = .ok (.aload_n 0, 1) := by decide +kernel
theorem dX11_addTest_57 : decode cX11_addTest 57 = .ok (.getfield 10, 3) := by decide +kernel
theorem dX11_addTest_60 : decode cX11_addTest 60 = .ok (.getfield 127, 3) := by decide +kernel
theorem dX11_addTest_63 : decode cX11_addTest 63 = .ok (.aload_n 0, 1) := by decide +kernel
theorem dX11_addTest_64 : decode cX11_addTest 64 = .ok (.getfield 23, 3) := by decide +kernel
theorem dX11_addTest_67 : decode cX11_addTest 67 = .ok (.iload_n 2, 1) := by decide +kernel
theorem dX11_addTest_68 : decode cX11_addTest 68 = .ok (.invokestatic 142, 3) := by decide +kernel
theorem dX11_addTest_71 : decode cX11_addTest 71 = .ok (.invokevirtual 146, 3) := by decide +kernel
theorem dX11_addTest_74 : decode cX11_addTest 74 = .ok (.aload_n 0, 1) := by decide +kernel
theorem dX11_addTest_75 : decode cX11_addTest 75 = .ok (.getfield 10, 3) := by decide +kernel
theorem dX11_addTest_78 : decode cX11_addTest 78 = .ok (.getfield 127, 3) := by decide +kernel
theorem dX11_addTest_81 : decode cX11_addTest 81 = .ok (.getfield 131, 3) := by decide +kernel
theorem dX11_addTest_84 : decode cX11_addTest 84 = .ok (.iconst 1, 1) := by decide +kernel
theorem dX11_addTest_85 : decode cX11_addTest 85 = .ok (.isub, 1) := by decide +kernel
theorem dX11_addTest_86 : decode cX11_addTest 86 = .ok (.ireturn, 1) := by decide +kernel
set_option maxRecDepth 20000 in
theorem ggX11_removeTest_X11_isTest : GoodIn wsX11_removeTest wsX11_isTest := goodIn_r _ [8, 1, 2, 3, 16, 17, 18, 19, 20, 21, 22, 23, 24, 25, 26, 27, 28, 29, 30, 31, 32, 33] (by decide +kernel) (by decide +kernel)
set_option maxRecDepth 20000 in
theorem gX11_removeTest_X11_isTest : GoodIn wsX11_removeTest (wsV RX11 150 RX11 yX11_isTest wsX11_isTest) := goodIn_app (goodIn_of _ (by decide +kernel)) ggX11_removeTest_X11_isTest
set_option maxRecDepth 20000 in
theorem ggX11_removeTest_X1_remove : GoodIn wsX11_removeTest wsX1_remove := goodIn_r _ [13, 14, 15, 32, 33] (by decide +kernel) (by decide +kernel)
set_option maxRecDepth 20000 in
theorem gX11_removeTest_X1_remove : GoodIn wsX11_removeTest (wsV RX11 153 RX1 yX1_remove wsX1_remove) := goodIn_app (goodIn_of _ (by decide +kernel)) ggX11_removeTest_X1_remove
theorem dX11_removeTest_0 : decode cX11_removeTest 0 = .ok (.aload_n 0, 1) := by decide +kernel
theorem dX11_removeTest_1 : decode cX11_removeTest 1 = .ok (.iload_n 1, 1) := by decide +kernel
theorem dX11_removeTest_2 : decode cX11_removeTest 2 = .ok (.invokevirtual 150, 3) := by decide +kernel
theorem dX11_removeTest_5 : decode cX11_removeTest 5 = .ok (.ifCond .ne 5, 3) := by decide +kernel
theorem dX11_removeTest_8 : decode cX11_removeTest 8 = .ok (.iconst (-1), 1) := by decide +kernel
theorem dX11_removeTest_9 : decode cX11_removeTest 9 = .ok (.ireturn, 1) := by decide +kernel
theorem dX11_removeTest_10 : decode cX11_removeTest 10 = .ok (.aload_n 0, 1) := by decide +kernel
theorem dX11_removeTest_11 : decode cX11_removeTest 11 = .ok (.getfield 10, 3) := by decide +kernel
theorem dX11_removeTest_14 : decode cX11_removeTest 14 = .ok (.getfield 127, 3) := by decide +kernel
theorem dX11_removeTest_17 : decode cX11_removeTest 17 = .ok (.iload_n 1, 1) := by decide +kernel
theorem dX11_removeTest_18 : decode cX11_removeTest 18 = .ok (.invokevirtual 153, 3) := by decide +kernel
theorem dX11_removeTest_21 : decode cX11_removeTest 21 = .ok (.aload_n 0, 1) := by decide +kernel
theorem dX11_removeTest_22 : decode cX11_removeTest 22 = .ok (.getfield 10, 3) := by decide +kernel
theorem dX11_removeTest_25 : decode cX11_removeTest 25 = .ok (.getfield 127, 3) := by decide +kernel
theorem dX11_removeTest_28 : decode cX11_removeTest 28 = .ok (.getfield 131, 3) := by decide +kernel
theorem dX11_removeTest_31 : decode cX11_removeTest 31 = .ok (.ireturn, 1) := by decide +kernel
theorem dX11_testCount_0 : decode cX11_testCount 0 = .ok (.aload_n 0, 1) := by decide +kernel
theorem dX11_testCount_1 : decode cX11_testCount 1 = .ok (.getfield 10, 3) := by decide +kernel
theorem dX11_testCount_4 : decode cX11_testCount 4 = .ok (.getfield 127, 3) := by decide +kernel
theorem dX11_testCount_7 : decode cX11_testCount 7 = .ok (.getfield 131, 3) := by decide +kernel
theorem dX11_testCount_10 : decode cX11_testCount 10 = .ok (.ireturn, 1) := by decide +kernel
set_option maxRecDepth 20000 in
theorem ggX11_test_X11_isTest : GoodIn wsX11_test wsX11_isTest := goodIn_r _ [11, 1, 2, 12, 13, 14, 15, 16, 17, 18, 19, 20, 21, 22, 23, 24, 25, 26, 27, 28, 29, 30] (by decide +kernel) (by decide +kernel)
set_option maxRecDepth 20000 in
theorem gX11_test_X11_isTest : GoodIn wsX11_test (wsV RX11 150 RX11 yX11_isTest wsX11_isTest) := goodIn_app (goodIn_of _ (by decide +kernel)) ggX11_test_X11_isTest
theorem dX11_test_0 : decode cX11_test 0 = .ok (.aload_n 0, 1) := by decide +kernel
theorem dX11_test_1 : decode cX11_test 1 = .ok (.iload_n 1, 1) := by decide +kernel
theorem dX11_test_2 : decode cX11_test 2 = .ok (.invokevirtual 150, 3) := by decide +kernel
theorem dX11_test_5 : decode cX11_test 5 = .ok (.ifCond .ne 5, 3) := by decide +kernel
theorem dX11_test_8 : decode cX11_test 8 = .ok (.iconst (-1), 1) := by decide +kernel
theorem dX11_test_9 : decode cX11_test 9 = .ok (.ireturn, 1) := by decide +kernel
theorem dX11_test_10 : decode cX11_test 10 = .ok (.aload_n 0, 1) := by decide +kernel
theorem dX11_test_11 : decode cX11_test 11 = .ok (.getfield 10, 3) := by decide +kernel
theorem dX11_test_14 : decode cX11_test 14 = .ok (.getfield 127, 3) := by decide +kernel
theorem dX11_test_17 : decode cX11_test 17 = .ok (.getfield 156, 3) := by decide +kernel
theorem dX11_test_20 : decode cX11_test 20 = .ok (.iload_n 1, 1) := by decide +kernel
theorem dX11_test_21 : decode cX11_test 21 = .ok (.aaload, 1) := by decide +kernel
theorem dX11_test_22 : decode cX11_test 22 = .ok (.astore_n 3, 1) := by decide +kernel
theorem dX11_test_23 : decode cX11_test 23 = .ok (.iload_n 2, 1) := by decide +kernel
theorem dX11_test_24 : decode cX11_test 24 = .ok (.tableswitch 43 0 2 #[28, 33, 38], 28) := by decide +kernel
theorem dX11_test_52 : decode cX11_test 52 = .ok (.aload_n 3, 1) := by decide +kernel
theorem dX11_test_53 : decode cX11_test 53 = .ok (.getfield 160, 3) := by decide +kernel
theorem dX11_test_56 : decode cX11_test 56 = .ok (.ireturn, 1) := by decide +kernel
theorem dX11_test_57 : decode cX11_test 57 = .ok (.aload_n 3, 1) := by decide +kernel
theorem dX11_test_58 : decode cX11_test 58 = .ok (.getfield 165, 3) := by decide +kernel
theorem dX11_test_61 : decode cX11_test 61 = .ok (.ireturn, 1) := by decide +kernel
theorem dX11_test_62 : decode cX11_test 62 = .ok (.aload_n 3, 1) := by decide +kernel
theorem dX11_test_63 : decode cX11_test 63 = .ok (.getfield 168, 3) := by decide +kernel
theorem dX11_test_66 : decode cX11_test 66 = .ok (.ireturn, 1) := by decide +kernel
theorem dX11_test_67 : decode cX11_test 67 = .ok (.iconst (-1), 1) := by decide +kernel
theorem dX11_test_68 : decode cX11_test 68 = .ok (.ireturn, 1) := by decide +kernel
set_option maxRecDepth 20000 in
theorem ggX11_value_X11_isTest : GoodIn wsX11_value wsX11_isTest := goodIn_r _ [9, 1, 2, 10, 41, 42, 43, 44, 45, 46, 47, 48, 49, 50, 51, 52, 53, 54, 55, 56, 57, 58] (by decide +kernel) (by decide +kernel)
set_option maxRecDepth 20000 in
theorem gX11_value_X11_isTest : GoodIn wsX11_value (wsV RX11 150 RX11 yX11_isTest wsX11_isTest) := goodIn_app (goodIn_of _ (by decide +kernel)) ggX11_value_X11_isTest
set_option maxRecDepth 20000 in
theorem ggX11_value_X11_isWord : GoodIn wsX11_value wsX11_isWord := goodIn_r _ [13] (by decide +kernel) (by decide +kernel)
set_option maxRecDepth 20000 in
theorem gX11_value_X11_isWord : GoodIn wsX11_value (va_wsS RX11 81 yX11_isWord wsX11_isWord) := goodIn_app (goodIn_of _ (by decide +kernel)) ggX11_value_X11_isWord
set_option maxRecDepth 20000 in
theorem ggX11_value_X8_valueFor : GoodIn wsX11_value wsX8_valueFor := goodIn_r _ [18, 19, 20, 21, 22, 23, 17, 24, 25, 26, 27, 28, 29, 30, 31, 32, 33, 34, 35, 36, 37, 38, 39, 40, 59, 60, 61, 62, 63, 64, 65, 66] (by decide +kernel) (by decide +kernel)
set_option maxRecDepth 20000 in
theorem gX11_value_X8_valueFor : GoodIn wsX11_value (wsV RX11 169 RX8 yX8_valueFor wsX8_valueFor) := goodIn_app (goodIn_of _ (by decide +kernel)) ggX11_value_X8_valueFor
theorem dX11_value_0 : decode cX11_value 0 = .ok (.aload_n 0, 1) := by decide +kernel
theorem dX11_value_1 : decode cX11_value 1 = .ok (.iload_n 1, 1) := by decide +kernel
theorem dX11_value_2 : decode cX11_value 2 = .ok (.invokevirtual 150, 3) := by decide +kernel
theorem dX11_value_5 : decode cX11_value 5 = .ok (.ifCond .eq 10, 3) := by decide +kernel
theorem dX11_value_8 : decode cX11_value 8 = .ok (.iload_n 2, 1) := by decide +kernel
theorem dX11_value_9 : decode cX11_value 9 = .ok (.invokestatic 81, 3) := by decide +kernel
theorem dX11_value_12 : decode cX11_value 12 = .ok (.ifCond .ne 5, 3) := by decide +kernel
theorem dX11_value_15 : decode cX11_value 15 = .ok (.iconst (-1), 1) := by decide +kernel
theorem dX11_value_16 : decode cX11_value 16 = .ok (.ireturn, 1) := by decide +kernel
theorem dX11_value_17 : decode cX11_value 17 = .ok (.aload_n 0, 1) := by decide +kernel
theorem dX11_value_18 : decode cX11_value 18 = .ok (.getfield 10, 3) := by decide +kernel
theorem dX11_value_21 : decode cX11_value 21 = .ok (.getfield 127, 3) := by decide +kernel
theorem dX11_value_24 : decode cX11_value 24 = .ok (.getfield 156, 3) := by decide +kernel
theorem dX11_value_27 : decode cX11_value 27 = .ok (.iload_n 1, 1) := by decide +kernel
theorem dX11_value_28 : decode cX11_value 28 = .ok (.aaload, 1) := by decide +kernel
theorem dX11_value_29 : decode cX11_value 29 = .ok (.aload_n 0, 1) := by decide +kernel
theorem dX11_value_30 : decode cX11_value 30 = .ok (.getfield 10, 3) := by decide +kernel
theorem dX11_value_33 : decode cX11_value 33 = .ok (.getfield 85, 3) := by decide +kernel
theorem dX11_value_36 : decode cX11_value 36 = .ok (.iload_n 2, 1) := by decide +kernel
theorem dX11_value_37 : decode cX11_value 37 = .ok (.aaload, 1) := by decide +kernel
theorem dX11_value_38 : decode cX11_value 38 = .ok (.invokevirtual 169, 3) := by decide +kernel
theorem dX11_value_41 : decode cX11_value 41 = .ok (.ireturn, 1) := by decide +kernel
set_option maxRecDepth 20000 in
theorem ggX11_signature_X11_isWord : GoodIn wsX11_signature wsX11_isWord := goodIn_r _ [10] (by decide +kernel) (by decide +kernel)
set_option maxRecDepth 20000 in
theorem gX11_signature_X11_isWord : GoodIn wsX11_signature (va_wsS RX11 81 yX11_isWord wsX11_isWord) := goodIn_app (goodIn_of _ (by decide +kernel)) ggX11_signature_X11_isWord
set_option maxRecDepth 20000 in
theorem ggX11_signature_X8_valueFor : GoodIn wsX11_signature wsX8_valueFor := goodIn_r _ [15, 16, 17, 18, 19, 20, 14, 21, 22, 23, 24, 25, 26, 27, 28, 29, 30, 31, 32, 33, 34, 35, 36, 37, 61, 62, 63, 56, 57, 58, 59, 60] (by decide +kernel) (by decide +kernel)
set_option maxRecDepth 20000 in
theorem gX11_signature_X8_valueFor : GoodIn wsX11_signature (wsV RX11 169 RX8 yX8_valueFor wsX8_valueFor) := goodIn_app (goodIn_of _ (by decide +kernel)) ggX11_signature_X8_valueFor
theorem dX11_signature_0 : decode cX11_signature 0 = .ok (.iload_n 1, 1) := by decide +kernel
theorem dX11_signature_1 : decode cX11_signature 1 = .ok (.invokestatic 81, 3) := by decide +kernel
theorem dX11_signature_4 : decode cX11_signature 4 = .ok (.ifCond .ne 5, 3) := by decide +kernel
theorem dX11_signature_7 : decode cX11_signature 7 = .ok (.iconst (-1), 1) := by decide +kernel
theorem dX11_signature_8 : decode cX11_signature 8 = .ok (.ireturn, 1) := by decide +kernel
theorem dX11_signature_9 : decode cX11_signature 9 = .ok (.iconst 0, 1) := by decide +kernel
theorem dX11_signature_10 : decode cX11_signature 10 = .ok (.istore_n 2, 1) := by decide +kernel
theorem dX11_signature_11 : decode cX11_signature 11 = .ok (.aload_n 0, 1) := by decide +kernel
theorem dX11_signature_12 : decode cX11_signature 12 = .ok (.getfield 10, 3) := by decide +kernel
theorem dX11_signature_15 : decode cX11_signature 15 = .ok (.getfield 127, 3) := by decide +kernel
theorem dX11_signature_18 : decode cX11_signature 18 = .ok (.getfield 131, 3) := by decide +kernel
theorem dX11_signature_21 : decode cX11_signature 21 = .ok (.iconst 1, 1) := by decide +kernel
theorem dX11_signature_22 : decode cX11_signature 22 = .ok (.isub, 1) := by decide +kernel
theorem dX11_signature_23 : decode cX11_signature 23 = .ok (.istore_n 3, 1) := by decide +kernel
theorem dX11_signature_24 : decode cX11_signature 24 = .ok (.iload_n 3, 1) := by decide +kernel
theorem dX11_signature_25 : decode cX11_signature 25 = .ok (.ifCond .lt 46, 3) := by decide +kernel
theorem dX11_signature_28 : decode cX11_signature 28 = .ok (.aload_n 0, 1) := by decide +kernel
theorem dX11_signature_29 : decode cX11_signature 29 = .ok (.getfield 10, 3) := by decide +kernel
theorem dX11_signature_32 : decode cX11_signature 32 = .ok (.getfield 127, 3) := by decide +kernel
theorem dX11_signature_35 : decode cX11_signature 35 = .ok (.getfield 156, 3) := by decide +kernel
theorem dX11_signature_38 : decode cX11_signature 38 = .ok (.iload_n 3, 1) := by decide +kernel
theorem dX11_signature_39 : decode cX11_signature 39 = .ok (.aaload, 1) := by decide +kernel
theorem dX11_signature_40 : decode cX11_signature 40 = .ok (.astore 4, 2) := by decide +kernel
theorem dX11_signature_42 : decode cX11_signature 42 = .ok (.aload 4, 2) := by decide +kernel
theorem dX11_signature_44 : decode cX11_signature 44 = .ok (.aload_n 0, 1) := by decide +kernel
theorem dX11_signature_45 : decode cX11_signature 45 = .ok (.getfield 10, 3) := by decide +kernel
theorem dX11_signature_48 : decode cX11_signature 48 = .ok (.getfield 85, 3) := by decide +kernel
theorem dX11_signature_51 : decode cX11_signature 51 = .ok (.iload_n 1, 1) := by decide +kernel
theorem dX11_signature_52 : decode cX11_signature 52 = .ok (.aaload, 1) := by decide +kernel
theorem dX11_signature_53 : decode cX11_signature 53 = .ok (.invokevirtual 169, 3) := by decide +kernel
theorem dX11_signature_56 : decode cX11_signature 56 = .ok (.aload 4, 2) := by decide +kernel
theorem dX11_signature_58 : decode cX11_signature 58 = .ok (.getfield 165, 3) := by decide +kernel
theorem dX11_signature_61 : decode cX11_signature 61 = .ok (.iload_n 2, 1) := by decide +kernel
theorem dX11_signature_62 : decode cX11_signature 62 = .ok (.imul, 1) := by decide +kernel
theorem dX11_signature_63 : decode cX11_signature 63 = .ok (.iadd, 1) := by decide +kernel
theorem dX11_signature_64 : decode cX11_signature 64 = .ok (.istore_n 2, 1) := by decide +kernel
theorem dX11_signature_65 : decode cX11_signature 65 = .ok (.iinc 3 (-1), 3) := by decide +kernel
theorem dX11_signature_68 : decode cX11_signature 68 = .ok (.goto (-44), 3) := by decide +kernel
theorem dX11_signature_71 : decode cX11_signature 71 = .ok (.iload_n 2, 1) := by decide +kernel
theorem dX11_signature_72 : decode cX11_signature 72 = .ok (.ireturn, 1) := by decide +kernel
set_option maxRecDepth 20000 in
theorem ggX11_classes_X10_list : GoodIn wsX11_classes wsX10_list := goodIn_r _ [9, 10, 11, 12, 8, 13, 14, 15, 16, 17, 18, 19, 20, 21, 22, 23, 24, 25, 26, 27, 28, 29, 30, 31, 32, 33, 34, 35, 36, 37, 38, 39, 40, 41, 42, 43, 44, 45, 46, 47, 48, 49, 50, 51, 52, 53, 54, 55, 56, 57, 58, 59, 60, 61, 62, 63, 94, 95, 96, 97, 98, 99, 100, 101, 102, 103, 104, 105, 106, 107] (by decide +kernel) (by decide +kernel)
set_option maxRecDepth 20000 in
theorem gX11_classes_X10_list : GoodIn wsX11_classes (wsV RX11 172 RX10 yX10_list wsX10_list) := goodIn_app (goodIn_of _ (by decide +kernel)) ggX11_classes_X10_list
set_option maxRecDepth 20000 in
theorem ggX11_classes_X10_distinctSignatures : GoodIn wsX11_classes wsX10_distinctSignatures := goodIn_r _ [67, 68, 16, 69, 70, 71, 72, 73, 74, 75, 8, 76, 50, 77, 94, 95, 96, 97, 98, 99, 100] (by decide +kernel) (by decide +kernel)
set_option maxRecDepth 20000 in
theorem gX11_classes_X10_distinctSignatures : GoodIn wsX11_classes (wsV RX11 176 RX10 yX10_distinctSignatures wsX10_distinctSignatures) := goodIn_app (goodIn_of _ (by decide +kernel)) ggX11_classes_X10_distinctSignatures
theorem dX11_classes_0 : decode cX11_classes 0 = .ok (.iload_n 1, 1) := by decide +kernel
theorem dX11_classes_1 : decode cX11_classes 1 = .ok (.ifCond .lt 9, 3) := by decide +kernel
theorem dX11_classes_4 : decode cX11_classes 4 = .ok (.iload_n 1, 1) := by decide +kernel
theorem dX11_classes_5 : decode cX11_classes 5 = .ok (.bipush 7, 2) := by decide +kernel
theorem dX11_classes_7 : decode cX11_classes 7 = .ok (.if_icmp .le 5, 3) := by decide +kernel
theorem dX11_classes_10 : decode cX11_classes 10 = .ok (.iconst (-1), 1) := by decide +kernel
theorem dX11_classes_11 : decode cX11_classes 11 = .ok (.ireturn, 1) := by decide +kernel
theorem dX11_classes_12 : decode cX11_classes 12 = .ok (.aload_n 0, 1) := by decide +kernel
theorem dX11_classes_13 : decode cX11_classes 13 = .ok (.getfield 47, 3) := by decide +kernel
theorem dX11_classes_16 : decode cX11_classes 16 = .ok (.aload_n 0, 1) := by decide +kernel
theorem dX11_classes_17 : decode cX11_classes 17 = .ok (.getfield 10, 3) := by decide +kernel
theorem dX11_classes_20 : decode cX11_classes 20 = .ok (.getfield 127, 3) := by decide +kernel
theorem dX11_classes_23 : decode cX11_classes 23 = .ok (.aload_n 0, 1) := by decide +kernel
theorem dX11_classes_24 : decode cX11_classes 24 = .ok (.getfield 10, 3) := by decide +kernel
theorem dX11_classes_27 : decode cX11_classes 27 = .ok (.getfield 74, 3) := by decide +kernel
theorem dX11_classes_30 : decode cX11_classes 30 = .ok (.iload_n 1, 1) := by decide +kernel
theorem dX11_classes_31 : decode cX11_classes 31 = .ok (.invokevirtual 172, 3) := by decide +kernel
theorem dX11_classes_34 : decode cX11_classes 34 = .ok (.aload_n 0, 1) := by decide +kernel
theorem dX11_classes_35 : decode cX11_classes 35 = .ok (.getfield 47, 3) := by decide +kernel
theorem dX11_classes_38 : decode cX11_classes 38 = .ok (.invokevirtual 176, 3) := by decide +kernel
theorem dX11_classes_41 : decode cX11_classes 41 = .ok (.ireturn, 1) := by decide +kernel
set_option maxRecDepth 20000 in
theorem ggX11_classSize_X10_list : GoodIn wsX11_classSize wsX10_list := goodIn_r _ [9, 10, 11, 12, 8, 13, 14, 15, 16, 17, 18, 19, 20, 21, 22, 23, 24, 25, 26, 27, 28, 29, 30, 31, 32, 33, 34, 35, 36, 37, 38, 39, 40, 41, 42, 43, 44, 45, 46, 47, 48, 49, 50, 51, 52, 53, 54, 55, 56, 57, 58, 59, 60, 61, 62, 63, 84, 85, 86, 87, 88, 89, 90, 91, 92, 93, 94, 95, 96, 97] (by decide +kernel) (by decide +kernel)
set_option maxRecDepth 20000 in
theorem gX11_classSize_X10_list : GoodIn wsX11_classSize (wsV RX11 172 RX10 yX10_list wsX10_list) := goodIn_app (goodIn_of _ (by decide +kernel)) ggX11_classSize_X10_list
set_option maxRecDepth 20000 in
theorem ggX11_classSize_X10_wordsWith : GoodIn wsX11_classSize wsX10_wordsWith := goodIn_r _ [67, 16, 50, 84, 85, 86, 87, 88, 89, 90] (by decide +kernel) (by decide +kernel)
set_option maxRecDepth 20000 in
theorem gX11_classSize_X10_wordsWith : GoodIn wsX11_classSize (wsV RX11 180 RX10 yX10_wordsWith wsX10_wordsWith) := goodIn_app (goodIn_of _ (by decide +kernel)) ggX11_classSize_X10_wordsWith
theorem dX11_classSize_0 : decode cX11_classSize 0 = .ok (.iload_n 1, 1) := by decide +kernel
theorem dX11_classSize_1 : decode cX11_classSize 1 = .ok (.ifCond .lt 9, 3) := by decide +kernel
theorem dX11_classSize_4 : decode cX11_classSize 4 = .ok (.iload_n 1, 1) := by decide +kernel
theorem dX11_classSize_5 : decode cX11_classSize 5 = .ok (.bipush 7, 2) := by decide +kernel
theorem dX11_classSize_7 : decode cX11_classSize 7 = .ok (.if_icmp .le 5, 3) := by decide +kernel
theorem dX11_classSize_10 : decode cX11_classSize 10 = .ok (.iconst (-1), 1) := by decide +kernel
theorem dX11_classSize_11 : decode cX11_classSize 11 = .ok (.ireturn, 1) := by decide +kernel
theorem dX11_classSize_12 : decode cX11_classSize 12 = .ok (.aload_n 0, 1) := by decide +kernel
theorem dX11_classSize_13 : decode cX11_classSize 13 = .ok (.getfield 47, 3) := by decide +kernel
theorem dX11_classSize_16 : decode cX11_classSize 16 = .ok (.aload_n 0, 1) := by decide +kernel
theorem dX11_classSize_17 : decode cX11_classSize 17 = .ok (.getfield 10, 3) := by decide +kernel
theorem dX11_classSize_20 : decode cX11_classSize 20 = .ok (.getfield 127, 3) := by decide +kernel
theorem dX11_classSize_23 : decode cX11_classSize 23 = .ok (.aload_n 0, 1) := by decide +kernel
theorem dX11_classSize_24 : decode cX11_classSize 24 = .ok (.getfield 10, 3) := by decide +kernel
theorem dX11_classSize_27 : decode cX11_classSize 27 = .ok (.getfield 74, 3) := by decide +kernel
theorem dX11_classSize_30 : decode cX11_classSize 30 = .ok (.iload_n 1, 1) := by decide +kernel
theorem dX11_classSize_31 : decode cX11_classSize 31 = .ok (.invokevirtual 172, 3) := by decide +kernel
theorem dX11_classSize_34 : decode cX11_classSize 34 = .ok (.aload_n 0, 1) := by decide +kernel
theorem dX11_classSize_35 : decode cX11_classSize 35 = .ok (.getfield 47, 3) := by decide +kernel
theorem dX11_classSize_38 : decode cX11_classSize 38 = .ok (.iload_n 2, 1) := by decide +kernel
theorem dX11_classSize_39 : decode cX11_classSize 39 = .ok (.invokevirtual 180, 3) := by decide +kernel
theorem dX11_classSize_42 : decode cX11_classSize 42 = .ok (.ireturn, 1) := by decide +kernel
set_option maxRecDepth 20000 in
theorem ggX11_findCollision_X10_start : GoodIn wsX11_findCollision wsX10_start := goodIn_r _ [12, 13, 14, 15, 106, 107, 108, 109, 110, 111, 112] (by decide +kernel) (by decide +kernel)
set_option maxRecDepth 20000 in
theorem gX11_findCollision_X10_start : GoodIn wsX11_findCollision (wsV RX11 184 RX10 yX10_start wsX10_start) := goodIn_app (goodIn_of _ (by decide +kernel)) ggX11_findCollision_X10_start
set_option maxRecDepth 20000 in
theorem ggX11_findCollision_X10_lengthen : GoodIn wsX11_findCollision wsX10_lengthen := goodIn_r _ [19, 15, 13, 14, 20, 21, 22, 23, 24, 25, 26, 27, 28, 29, 30, 31, 32, 33, 34, 35, 36, 37, 38, 39, 40, 41, 42, 43, 44, 106, 107, 108, 109, 110, 111, 112, 113, 114, 115, 116, 117, 118, 119] (by decide +kernel) (by decide +kernel)
set_option maxRecDepth 20000 in
theorem gX11_findCollision_X10_lengthen : GoodIn wsX11_findCollision (wsV RX11 187 RX10 yX10_lengthen wsX10_lengthen) := goodIn_app (goodIn_of _ (by decide +kernel)) ggX11_findCollision_X10_lengthen
set_option maxRecDepth 20000 in
theorem ggX11_findCollision_X10_sign : GoodIn wsX11_findCollision wsX10_sign := goodIn_r _ [48, 15, 49, 13, 14, 50, 51, 52, 23, 53, 25, 27, 54, 55, 56, 57, 58, 26, 59, 60, 61, 31, 62, 33, 34, 106, 107, 108, 109, 110, 111, 112, 113, 114, 115, 116, 117, 118, 119] (by decide +kernel) (by decide +kernel)
set_option maxRecDepth 20000 in
theorem gX11_findCollision_X10_sign : GoodIn wsX11_findCollision (wsV RX11 191 RX10 yX10_sign wsX10_sign) := goodIn_app (goodIn_of _ (by decide +kernel)) ggX11_findCollision_X10_sign
set_option maxRecDepth 20000 in
theorem ggX11_findCollision_X10_findPair : GoodIn wsX11_findCollision wsX10_findPair := goodIn_r _ [66, 67, 15, 68, 69, 70, 71, 72, 73, 74, 75, 76, 11, 77, 49, 78, 106, 107, 108, 109, 110, 111, 112] (by decide +kernel) (by decide +kernel)
set_option maxRecDepth 20000 in
theorem gX11_findCollision_X10_findPair : GoodIn wsX11_findCollision (wsV RX11 195 RX10 yX10_findPair wsX10_findPair) := goodIn_app (goodIn_of _ (by decide +kernel)) ggX11_findCollision_X10_findPair
set_option maxRecDepth 20000 in
theorem ggX11_findCollision_X9_setListed : GoodIn wsX11_findCollision wsX9_setListed := goodIn_r _ [83, 84, 42, 43, 44, 85, 86, 87, 88, 89, 120, 121, 122] (by decide +kernel) (by decide +kernel)
set_option maxRecDepth 20000 in
theorem gX11_findCollision_X9_setListed : GoodIn wsX11_findCollision (wsV RX11 112 RX9 yX9_setListed wsX9_setListed) := goodIn_app (goodIn_of _ (by decide +kernel)) ggX11_findCollision_X9_setListed
theorem dX11_findCollision_0 : decode cX11_findCollision 0 = .ok (.aload_n 0, 1) := by decide +kernel
theorem dX11_findCollision_1 : decode cX11_findCollision 1 = .ok (.getfield 47, 3) := by decide +kernel
theorem dX11_findCollision_4 : decode cX11_findCollision 4 = .ok (.invokevirtual 184, 3) := by decide +kernel
theorem dX11_findCollision_7 : decode cX11_findCollision 7 = .ok (.iconst 1, 1) := by decide +kernel
theorem dX11_findCollision_8 : decode cX11_findCollision 8 = .ok (.istore_n 1, 1) := by decide +kernel
theorem dX11_findCollision_9 : decode cX11_findCollision 9 = .ok (.iload_n 1, 1) := by decide +kernel
theorem dX11_findCollision_10 : decode cX11_findCollision 10 = .ok (.bipush 7, 2) := by decide +kernel
theorem dX11_findCollision_12 : decode cX11_findCollision 12 = .ok (.if_icmp .gt 110, 3) := by decide +kernel
theorem dX11_findCollision_15 : decode cX11_findCollision 15 = .ok (.aload_n 0, 1) := by decide +kernel
theorem dX11_findCollision_16 : decode cX11_findCollision 16 = .ok (.getfield 47, 3) := by decide +kernel
theorem dX11_findCollision_19 : decode cX11_findCollision 19 = .ok (.aload_n 0, 1) := by decide +kernel
theorem dX11_findCollision_20 : decode cX11_findCollision 20 = .ok (.getfield 10, 3) := by decide +kernel
theorem dX11_findCollision_23 : decode cX11_findCollision 23 = .ok (.getfield 127, 3) := by decide +kernel
theorem dX11_findCollision_26 : decode cX11_findCollision 26 = .ok (.aload_n 0, 1) := by decide +kernel
theorem dX11_findCollision_27 : decode cX11_findCollision 27 = .ok (.getfield 10, 3) := by decide +kernel
theorem dX11_findCollision_30 : decode cX11_findCollision 30 = .ok (.getfield 74, 3) := by decide +kernel
theorem dX11_findCollision_33 : decode cX11_findCollision 33 = .ok (.invokevirtual 187, 3) := by decide +kernel
theorem dX11_findCollision_36 : decode cX11_findCollision 36 = .ok (.aload_n 0, 1) := by decide +kernel
theorem dX11_findCollision_37 : decode cX11_findCollision 37 = .ok (.getfield 47, 3) := by decide +kernel
theorem dX11_findCollision_40 : decode cX11_findCollision 40 = .ok (.aload_n 0, 1) := by decide +kernel
theorem dX11_findCollision_41 : decode cX11_findCollision 41 = .ok (.getfield 10, 3) := by decide +kernel
theorem dX11_findCollision_44 : decode cX11_findCollision 44 = .ok (.getfield 127, 3) := by decide +kernel
theorem dX11_findCollision_47 : decode cX11_findCollision 47 = .ok (.invokevirtual 191, 3) := by decide +kernel
theorem dX11_findCollision_50 : decode cX11_findCollision 50 = .ok (.aload_n 0, 1) := by decide +kernel
theorem dX11_findCollision_51 : decode cX11_findCollision 51 = .ok (.getfield 47, 3) := by decide +kernel
theorem dX11_findCollision_54 : decode cX11_findCollision 54 = .ok (.invokevirtual 195, 3) := by decide +kernel
theorem dX11_findCollision_57 : decode cX11_findCollision 57 = .ok (.ifCond .eq 59, 3) := by decide +kernel
theorem dX11_findCollision_60 : decode cX11_findCollision 60 = .ok (.aload_n 0, 1) := by decide +kernel
theorem dX11_findCollision_61 : decode cX11_findCollision 61 = .ok (.getfield 10, 3) := by decide +kernel
theorem dX11_findCollision_64 : decode cX11_findCollision 64 = .ok (.getfield 85, 3) := by decide +kernel
theorem dX11_findCollision_67 : decode cX11_findCollision 67 = .ok (.iconst 0, 1) := by decide +kernel
theorem dX11_findCollision_68 : decode cX11_findCollision 68 = .ok (.aaload, 1) := by decide +kernel
theorem dX11_findCollision_69 : decode cX11_findCollision 69 = .ok (.iload_n 1, 1) := by decide +kernel
theorem dX11_findCollision_70 : decode cX11_findCollision 70 = .ok (.aload_n 0, 1) := by decide +kernel
theorem dX11_findCollision_71 : decode cX11_findCollision 71 = .ok (.getfield 47, 3) := by decide +kernel
theorem dX11_findCollision_74 : decode cX11_findCollision 74 = .ok (.getfield 198, 3) := by decide +kernel
theorem dX11_findCollision_77 : decode cX11_findCollision 77 = .ok (.aload_n 0, 1) := by decide +kernel
theorem dX11_findCollision_78 : decode cX11_findCollision 78 = .ok (.getfield 10, 3) := by decide +kernel
theorem dX11_findCollision_81 : decode cX11_findCollision 81 = .ok (.getfield 74, 3) := by decide +kernel
theorem dX11_findCollision_84 : decode cX11_findCollision 84 = .ok (.invokevirtual 112, 3) := by decide +kernel
theorem dX11_findCollision_87 : decode cX11_findCollision 87 = .ok (.aload_n 0, 1) := by decide +kernel
theorem dX11_findCollision_88 : decode cX11_findCollision 88 = .ok (.getfield 10, 3) := by decide +kernel
theorem dX11_findCollision_91 : decode cX11_findCollision 91 = .ok (.getfield 85, 3) := by decide +kernel
theorem dX11_findCollision_94 : decode cX11_findCollision 94 = .ok (.iconst 1, 1) := by decide +kernel
theorem dX11_findCollision_95 : decode cX11_findCollision 95 = .ok (.aaload, 1) := by decide +kernel
theorem dX11_findCollision_96 : decode cX11_findCollision 96 = .ok (.iload_n 1, 1) := by decide +kernel
theorem dX11_findCollision_97 : decode cX11_findCollision 97 = .ok (.aload_n 0, 1) := by decide +kernel
theorem dX11_findCollision_98 : decode cX11_findCollision 98 = .ok (.getfield 47, 3) := by decide +kernel
theorem dX11_findCollision_101 : decode cX11_findCollision 101 = .ok (.getfield 201, 3) := by decide +kernel
theorem dX11_findCollision_104 : decode cX11_findCollision 104 = .ok (.aload_n 0, 1) := by decide +kernel
theorem dX11_findCollision_105 : decode cX11_findCollision 105 = .ok (.getfield 10, 3) := by decide +kernel
theorem dX11_findCollision_108 : decode cX11_findCollision 108 = .ok (.getfield 74, 3) := by decide +kernel
theorem dX11_findCollision_111 : decode cX11_findCollision 111 = .ok (.invokevirtual 112, 3) := by decide +kernel
theorem dX11_findCollision_114 : decode cX11_findCollision 114 = .ok (.iload_n 1, 1) := by decide +kernel
theorem dX11_findCollision_115 : decode cX11_findCollision 115 = .ok (.ireturn, 1) := by decide +kernel
theorem dX11_findCollision_116 : decode cX11_findCollision 116 = .ok (.iinc 1 1, 3) := by decide +kernel
theorem dX11_findCollision_119 : decode cX11_findCollision 119 = .ok (.goto (-110), 3) := by decide +kernel
theorem dX11_findCollision_122 : decode cX11_findCollision 122 = .ok (.bipush (-2), 2) := by decide +kernel
theorem dX11_findCollision_124 : decode cX11_findCollision 124 = .ok (.ireturn, 1) := by decide +kernel
set_option maxRecDepth 20000 in
theorem ggX11_states_X11_isTest : GoodIn wsX11_states wsX11_isTest := goodIn_r _ [7, 8, 9, 10, 95, 96, 97, 98, 99, 100, 101, 102, 103, 104, 105, 106, 120, 121, 122, 123, 124, 125] (by decide +kernel) (by decide +kernel)
set_option maxRecDepth 20000 in
theorem gX11_states_X11_isTest : GoodIn wsX11_states (wsV RX11 150 RX11 yX11_isTest wsX11_isTest) := goodIn_app (goodIn_of _ (by decide +kernel)) ggX11_states_X11_isTest
set_option maxRecDepth 20000 in
theorem ggX11_states_X11_exploreTest : GoodIn wsX11_states wsX11_exploreTest := goodIn_r _ [14, 1, 8, 15, 16, 9, 17, 18, 19, 20, 21, 22, 23, 24, 25, 26, 27, 28, 29, 30, 31, 32, 33, 34, 35, 36, 37, 38, 39, 40, 41, 42, 43, 44, 45, 46, 47, 48, 49, 50, 51, 52, 53, 54, 55, 56, 57, 58, 59, 60, 61, 62, 63, 64, 65, 66, 67, 68, 69, 70, 71, 72, 73, 74, 75, 76, 77, 78, 79, 80, 81, 82, 83, 84, 85, 86, 87, 88, 89, 90, 91, 92, 93, 94, 95, 96, 97, 98, 99, 100, 101, 102, 103, 104, 105, 106, 120, 121, 122, 123, 107, 108, 109, 110, 111, 112, 113, 114, 115, 116, 117, 118, 119, 124, 125, 126, 127, 128, 129, 130] (by decide +kernel) (by decide +kernel)
set_option maxRecDepth 20000 in
theorem gX11_states_X11_exploreTest : GoodIn wsX11_states (wsV RX11 204 RX11 yX11_exploreTest wsX11_exploreTest) := goodIn_app (goodIn_of _ (by decide +kernel)) ggX11_states_X11_exploreTest
theorem dX11_states_0 : decode cX11_states 0 = .ok (.aload_n 0, 1) := by decide +kernel
theorem dX11_states_1 : decode cX11_states 1 = .ok (.iload_n 1, 1) := by decide +kernel
theorem dX11_states_2 : decode cX11_states 2 = .ok (.invokevirtual 150, 3) := by decide +kernel
theorem dX11_states_5 : decode cX11_states 5 = .ok (.ifCond .ne 5, 3) := by decide +kernel
theorem dX11_states_8 : decode cX11_states 8 = .ok (.iconst (-1), 1) := by decide +kernel
theorem dX11_states_9 : decode cX11_states 9 = .ok (.ireturn, 1) := by decide +kernel
theorem dX11_states_10 : decode cX11_states 10 = .ok (.aload_n 0, 1) := by decide +kernel
theorem dX11_states_11 : decode cX11_states 11 = .ok (.iload_n 1, 1) := by decide +kernel
theorem dX11_states_12 : decode cX11_states 12 = .ok (.invokevirtual 204, 3) := by decide +kernel
theorem dX11_states_15 : decode cX11_states 15 = .ok (.ifCond .eq 13, 3) := by decide +kernel
theorem dX11_states_18 : decode cX11_states 18 = .ok (.aload_n 0, 1) := by decide +kernel
theorem dX11_states_19 : decode cX11_states 19 = .ok (.getfield 54, 3) := by decide +kernel
theorem dX11_states_22 : decode cX11_states 22 = .ok (.getfield 207, 3) := by decide +kernel
theorem dX11_states_25 : decode cX11_states 25 = .ok (.goto 5, 3) := by decide +kernel
theorem dX11_states_28 : decode cX11_states 28 = .ok (.bipush (-4), 2) := by decide +kernel
theorem dX11_states_30 : decode cX11_states 30 = .ok (.ireturn, 1) := by decide +kernel
set_option maxRecDepth 20000 in
theorem ggX11_minimalStates_X11_isTest : GoodIn wsX11_minimalStates wsX11_isTest := goodIn_r _ [8, 9, 10, 11, 149, 150, 151, 152, 153, 154, 155, 156, 157, 158, 159, 160, 174, 175, 176, 177, 178, 179] (by decide +kernel) (by decide +kernel)
set_option maxRecDepth 20000 in
theorem gX11_minimalStates_X11_isTest : GoodIn wsX11_minimalStates (wsV RX11 150 RX11 yX11_isTest wsX11_isTest) := goodIn_app (goodIn_of _ (by decide +kernel)) ggX11_minimalStates_X11_isTest
set_option maxRecDepth 20000 in
theorem ggX11_minimalStates_X11_exploreTest : GoodIn wsX11_minimalStates wsX11_exploreTest := goodIn_r _ [15, 2, 9, 16, 17, 10, 18, 19, 20, 21, 22, 23, 24, 25, 26, 27, 28, 29, 30, 31, 32, 33, 34, 35, 36, 37, 38, 39, 40, 41, 42, 43, 44, 45, 46, 47, 48, 49, 50, 51, 52, 53, 54, 55, 56, 57, 58, 59, 60, 61, 62, 63, 64, 65, 66, 67, 68, 69, 70, 71, 72, 73, 74, 75, 76, 77, 78, 79, 80, 81, 82, 83, 84, 85, 86, 87, 88, 89, 90, 91, 92, 93, 94, 95, 149, 150, 151, 152, 153, 154, 155, 156, 157, 158, 159, 160, 174, 175, 176, 177, 180, 181, 182, 183, 184, 185, 186, 187, 188, 189, 190, 191, 192, 178, 179, 193, 194, 195, 196, 197] (by decide +kernel) (by decide +kernel)
set_option maxRecDepth 20000 in
theorem gX11_minimalStates_X11_exploreTest : GoodIn wsX11_minimalStates (wsV RX11 204 RX11 yX11_exploreTest wsX11_exploreTest) := goodIn_app (goodIn_of _ (by decide +kernel)) ggX11_minimalStates_X11_exploreTest
set_option maxRecDepth 20000 in
theorem ggX11_minimalStates_X4_refine : GoodIn wsX11_minimalStates wsX4_refine := goodIn_r _ [100, 101, 102, 103, 104, 105, 106, 107, 108, 109, 110, 111, 112, 113, 99, 114, 115, 116, 117, 118, 119, 120, 121, 122, 123, 124, 125, 126, 127, 128, 129, 130, 131, 132, 133, 134, 135, 136, 137, 138, 139, 140, 141, 142, 143, 144, 145, 146, 147, 148, 161, 162, 163, 164, 165, 166, 167, 168, 169, 170, 171, 172, 173, 180, 181, 182, 183, 184, 185, 186, 187, 188, 189, 190, 191, 192] (by decide +kernel) (by decide +kernel)
set_option maxRecDepth 20000 in
theorem gX11_minimalStates_X4_refine : GoodIn wsX11_minimalStates (wsV RX11 210 RX4 yX4_refine wsX4_refine) := goodIn_app (goodIn_of _ (by decide +kernel)) ggX11_minimalStates_X4_refine
theorem dX11_minimalStates_0 : decode cX11_minimalStates 0 = .ok (.aload_n 0, 1) := by decide +kernel
theorem dX11_minimalStates_1 : decode cX11_minimalStates 1 = .ok (.iload_n 1, 1) := by decide +kernel
theorem dX11_minimalStates_2 : decode cX11_minimalStates 2 = .ok (.invokevirtual 150, 3) := by decide +kernel
theorem dX11_minimalStates_5 : decode cX11_minimalStates 5 = .ok (.ifCond .ne 5, 3) := by decide +kernel
theorem dX11_minimalStates_8 : decode cX11_minimalStates 8 = .ok (.iconst (-1), 1) := by decide +kernel
theorem dX11_minimalStates_9 : decode cX11_minimalStates 9 = .ok (.ireturn, 1) := by decide +kernel
theorem dX11_minimalStates_10 : decode cX11_minimalStates 10 = .ok (.aload_n 0, 1) := by decide +kernel
theorem dX11_minimalStates_11 : decode cX11_minimalStates 11 = .ok (.iload_n 1, 1) := by decide +kernel
theorem dX11_minimalStates_12 : decode cX11_minimalStates 12 = .ok (.invokevirtual 204, 3) := by decide +kernel
theorem dX11_minimalStates_15 : decode cX11_minimalStates 15 = .ok (.ifCond .ne 6, 3) := by decide +kernel
theorem dX11_minimalStates_18 : decode cX11_minimalStates 18 = .ok (.bipush (-4), 2) := by decide +kernel
theorem dX11_minimalStates_20 : decode cX11_minimalStates 20 = .ok (.ireturn, 1) := by decide +kernel
theorem dX11_minimalStates_21 : decode cX11_minimalStates 21 = .ok (.aload_n 0, 1) := by decide +kernel
theorem dX11_minimalStates_22 : decode cX11_minimalStates 22 = .ok (.getfield 61, 3) := by decide +kernel
theorem dX11_minimalStates_25 : decode cX11_minimalStates 25 = .ok (.aload_n 0, 1) := by decide +kernel
theorem dX11_minimalStates_26 : decode cX11_minimalStates 26 = .ok (.getfield 54, 3) := by decide +kernel
theorem dX11_minimalStates_29 : decode cX11_minimalStates 29 = .ok (.invokevirtual 210, 3) := by decide +kernel
theorem dX11_minimalStates_32 : decode cX11_minimalStates 32 = .ok (.aload_n 0, 1) := by decide +kernel
theorem dX11_minimalStates_33 : decode cX11_minimalStates 33 = .ok (.getfield 61, 3) := by decide +kernel
theorem dX11_minimalStates_36 : decode cX11_minimalStates 36 = .ok (.getfield 214, 3) := by decide +kernel
theorem dX11_minimalStates_39 : decode cX11_minimalStates 39 = .ok (.ireturn, 1) := by decide +kernel
set_option maxRecDepth 20000 in
theorem ggX11_monoidSize_X11_isTest : GoodIn wsX11_monoidSize wsX11_isTest := goodIn_r _ [12, 13, 14, 15, 201, 202, 203, 204, 205, 206, 207, 208, 209, 210, 211, 212, 218, 219, 220, 221, 222, 223] (by decide +kernel) (by decide +kernel)
set_option maxRecDepth 20000 in
theorem gX11_monoidSize_X11_isTest : GoodIn wsX11_monoidSize (wsV RX11 150 RX11 yX11_isTest wsX11_isTest) := goodIn_app (goodIn_of _ (by decide +kernel)) ggX11_monoidSize_X11_isTest
set_option maxRecDepth 20000 in
theorem ggX11_monoidSize_X11_exploreTest : GoodIn wsX11_monoidSize wsX11_exploreTest := goodIn_r _ [19, 2, 13, 20, 21, 14, 22, 23, 24, 25, 26, 27, 28, 29, 30, 31, 32, 33, 34, 35, 36, 37, 38, 39, 40, 41, 42, 43, 44, 45, 46, 47, 48, 49, 50, 51, 52, 53, 54, 55, 56, 57, 58, 59, 60, 61, 62, 63, 64, 65, 66, 67, 68, 69, 70, 71, 72, 73, 74, 75, 76, 77, 78, 79, 80, 81, 82, 83, 84, 85, 86, 87, 88, 89, 90, 91, 92, 93, 94, 95, 96, 97, 98, 99, 201, 202, 203, 204, 205, 206, 207, 208, 209, 210, 211, 212, 218, 219, 220, 221, 224, 225, 226, 227, 228, 229, 230, 231, 232, 233, 234, 235, 236, 222, 223, 237, 238, 239, 240, 241] (by decide +kernel) (by decide +kernel)
set_option maxRecDepth 20000 in
theorem gX11_monoidSize_X11_exploreTest : GoodIn wsX11_monoidSize (wsV RX11 204 RX11 yX11_exploreTest wsX11_exploreTest) := goodIn_app (goodIn_of _ (by decide +kernel)) ggX11_monoidSize_X11_exploreTest
set_option maxRecDepth 20000 in
theorem ggX11_monoidSize_X4_refine : GoodIn wsX11_monoidSize wsX4_refine := goodIn_r _ [104, 105, 106, 107, 108, 109, 110, 111, 112, 113, 114, 115, 116, 117, 103, 118, 119, 120, 121, 122, 123, 124, 125, 126, 127, 128, 129, 130, 131, 132, 133, 134, 135, 136, 137, 138, 139, 140, 141, 142, 143, 144, 145, 146, 147, 148, 149, 150, 151, 152, 242, 243, 244, 245, 246, 247, 248, 249, 250, 251, 252, 253, 254, 224, 225, 226, 227, 228, 229, 230, 231, 232, 233, 234, 235, 236] (by decide +kernel) (by decide +kernel)
set_option maxRecDepth 20000 in
theorem gX11_monoidSize_X4_refine : GoodIn wsX11_monoidSize (wsV RX11 210 RX4 yX4_refine wsX4_refine) := goodIn_app (goodIn_of _ (by decide +kernel)) ggX11_monoidSize_X4_refine
set_option maxRecDepth 20000 in
theorem ggX11_monoidSize_X3_init : GoodIn wsX11_monoidSize wsX3_init := goodIn_r _ [154, 155, 156, 157, 158, 159, 160, 161, 162, 163, 164, 213, 214, 215, 216, 217] (by decide +kernel) (by decide +kernel)
set_option maxRecDepth 20000 in
theorem gX11_monoidSize_X3_init_n219 : GoodIn wsX11_monoidSize (wsX3_init) := ggX11_monoidSize_X3_init
set_option maxRecDepth 20000 in
theorem ggX11_monoidSize_X3_generate : GoodIn wsX11_monoidSize wsX3_generate := goodIn_r _ [168, 169, 158, 170, 171, 172, 173, 6, 174, 159, 161, 175, 176, 177, 103, 178, 122, 133, 107, 108, 179, 180, 181, 182, 164, 163, 183, 51, 52, 53, 184, 185, 186, 187, 188, 189, 190, 191, 192, 193, 194, 195, 196, 197, 198, 199, 200, 242, 243, 244, 245, 246, 247, 248, 249, 250, 251, 252, 253, 254, 213, 214, 215, 216, 217, 224, 225, 226, 227, 228, 229, 230, 231, 232, 233, 234, 235, 236] (by decide +kernel) (by decide +kernel)
set_option maxRecDepth 20000 in
theorem gX11_monoidSize_X3_generate : GoodIn wsX11_monoidSize (wsV RX11 220 RX3 yX3_generate wsX3_generate) := goodIn_app (goodIn_of _ (by decide +kernel)) ggX11_monoidSize_X3_generate
theorem dX11_monoidSize_0 : decode cX11_monoidSize 0 = .ok (.aload_n 0, 1) := by decide +kernel
theorem dX11_monoidSize_1 : decode cX11_monoidSize 1 = .ok (.iload_n 1, 1) := by decide +kernel
theorem dX11_monoidSize_2 : decode cX11_monoidSize 2 = .ok (.invokevirtual 150, 3) := by decide +kernel
theorem dX11_monoidSize_5 : decode cX11_monoidSize 5 = .ok (.ifCond .ne 5, 3) := by decide +kernel
theorem dX11_monoidSize_8 : decode cX11_monoidSize 8 = .ok (.iconst (-1), 1) := by decide +kernel
theorem dX11_monoidSize_9 : decode cX11_monoidSize 9 = .ok (.ireturn, 1) := by decide +kernel
theorem dX11_monoidSize_10 : decode cX11_monoidSize 10 = .ok (.aload_n 0, 1) := by decide +kernel
theorem dX11_monoidSize_11 : decode cX11_monoidSize 11 = .ok (.iload_n 1, 1) := by decide +kernel
theorem dX11_monoidSize_12 : decode cX11_monoidSize 12 = .ok (.invokevirtual 204, 3) := by decide +kernel
theorem dX11_monoidSize_15 : decode cX11_monoidSize 15 = .ok (.ifCond .ne 6, 3) := by decide +kernel
theorem dX11_monoidSize_18 : decode cX11_monoidSize 18 = .ok (.bipush (-4), 2) := by decide +kernel
theorem dX11_monoidSize_20 : decode cX11_monoidSize 20 = .ok (.ireturn, 1) := by decide +kernel
theorem dX11_monoidSize_21 : decode cX11_monoidSize 21 = .ok (.aload_n 0, 1) := by decide +kernel
theorem dX11_monoidSize_22 : decode cX11_monoidSize 22 = .ok (.getfield 61, 3) := by decide +kernel
theorem dX11_monoidSize_25 : decode cX11_monoidSize 25 = .ok (.aload_n 0, 1) := by decide +kernel
theorem dX11_monoidSize_26 : decode cX11_monoidSize 26 = .ok (.getfield 54, 3) := by decide +kernel
theorem dX11_monoidSize_29 : decode cX11_monoidSize 29 = .ok (.invokevirtual 210, 3) := by decide +kernel
theorem dX11_monoidSize_32 : decode cX11_monoidSize 32 = .ok (.aload_n 0, 1) := by decide +kernel
theorem dX11_monoidSize_33 : decode cX11_monoidSize 33 = .ok (.getfield 65, 3) := by decide +kernel
theorem dX11_monoidSize_36 : decode cX11_monoidSize 36 = .ok (.ifnonnull 14, 3) := by decide +kernel
theorem dX11_monoidSize_39 : decode cX11_monoidSize 39 = .ok (.aload_n 0, 1) := by decide +kernel
theorem dX11_monoidSize_40 : decode cX11_monoidSize 40 = .ok (.new 217, 3) := by decide +kernel
theorem dX11_monoidSize_43 : decode cX11_monoidSize 43 = .ok (.dup, 1) := by decide +kernel
theorem dX11_monoidSize_44 : decode cX11_monoidSize 44 = .ok (.invokespecial 219, 3) := by decide +kernel
theorem dX11_monoidSize_47 : decode cX11_monoidSize 47 = .ok (.putfield 65, 3) := by decide +kernel
theorem dX11_monoidSize_50 : decode cX11_monoidSize 50 = .ok (.aload_n 0, 1) := by decide +kernel
theorem dX11_monoidSize_51 : decode cX11_monoidSize 51 = .ok (.getfield 65, 3) := by decide +kernel
theorem dX11_monoidSize_54 : decode cX11_monoidSize 54 = .ok (.aload_n 0, 1) := by decide +kernel
theorem dX11_monoidSize_55 : decode cX11_monoidSize 55 = .ok (.getfield 61, 3) := by decide +kernel
theorem dX11_monoidSize_58 : decode cX11_monoidSize 58 = .ok (.aload_n 0, 1) := by decide +kernel
theorem dX11_monoidSize_59 : decode cX11_monoidSize 59 = .ok (.getfield 54, 3) := by decide +kernel
theorem dX11_monoidSize_62 : decode cX11_monoidSize 62 = .ok (.invokevirtual 220, 3) := by decide +kernel
theorem dX11_monoidSize_65 : decode cX11_monoidSize 65 = .ok (.ifCond .eq 13, 3) := by decide +kernel
theorem dX11_monoidSize_68 : decode cX11_monoidSize 68 = .ok (.aload_n 0, 1) := by decide +kernel
theorem dX11_monoidSize_69 : decode cX11_monoidSize 69 = .ok (.getfield 65, 3) := by decide +kernel
theorem dX11_monoidSize_72 : decode cX11_monoidSize 72 = .ok (.getfield 224, 3) := by decide +kernel
theorem dX11_monoidSize_75 : decode cX11_monoidSize 75 = .ok (.goto 5, 3) := by decide +kernel
theorem dX11_monoidSize_78 : decode cX11_monoidSize 78 = .ok (.bipush (-4), 2) := by decide +kernel
theorem dX11_monoidSize_80 : decode cX11_monoidSize 80 = .ok (.ireturn, 1) := by decide +kernel
set_option maxRecDepth 20000 in
theorem ggX11_isGroup_X11_isTest : GoodIn wsX11_isGroup wsX11_isTest := goodIn_r _ [7, 8, 9, 10, 157, 158, 159, 160, 161, 162, 163, 164, 165, 166, 167, 168, 169, 170, 171, 172, 173, 174] (by decide +kernel) (by decide +kernel)
set_option maxRecDepth 20000 in
theorem gX11_isGroup_X11_isTest : GoodIn wsX11_isGroup (wsV RX11 150 RX11 yX11_isTest wsX11_isTest) := goodIn_app (goodIn_of _ (by decide +kernel)) ggX11_isGroup_X11_isTest
set_option maxRecDepth 20000 in
theorem ggX11_isGroup_X11_exploreTest : GoodIn wsX11_isGroup wsX11_exploreTest := goodIn_r _ [14, 2, 8, 15, 16, 9, 17, 18, 19, 20, 21, 22, 23, 24, 25, 26, 27, 28, 29, 30, 31, 32, 33, 34, 35, 36, 37, 38, 39, 40, 41, 42, 43, 44, 45, 46, 47, 48, 49, 50, 51, 52, 53, 54, 55, 56, 57, 58, 59, 60, 61, 62, 63, 64, 65, 66, 67, 68, 69, 70, 71, 72, 73, 74, 75, 76, 77, 78, 79, 80, 81, 82, 83, 84, 85, 86, 87, 88, 89, 90, 91, 92, 93, 94, 157, 158, 159, 160, 161, 162, 163, 164, 165, 166, 167, 168, 169, 170, 171, 172, 175, 176, 177, 178, 179, 180, 181, 182, 183, 184, 185, 186, 187, 173, 174, 188, 189, 190, 191, 192] (by decide +kernel) (by decide +kernel)
set_option maxRecDepth 20000 in
theorem gX11_isGroup_X11_exploreTest : GoodIn wsX11_isGroup (wsV RX11 204 RX11 yX11_exploreTest wsX11_exploreTest) := goodIn_app (goodIn_of _ (by decide +kernel)) ggX11_isGroup_X11_exploreTest
set_option maxRecDepth 20000 in
theorem ggX11_isGroup_X4_refine : GoodIn wsX11_isGroup wsX4_refine := goodIn_r _ [99, 100, 101, 102, 103, 104, 105, 106, 107, 108, 109, 110, 111, 112, 98, 113, 114, 115, 116, 117, 118, 119, 120, 121, 122, 123, 124, 125, 126, 127, 128, 129, 130, 131, 132, 133, 134, 135, 136, 137, 138, 139, 140, 141, 142, 143, 144, 145, 146, 147, 193, 194, 195, 196, 197, 198, 199, 200, 201, 202, 203, 204, 205, 175, 176, 177, 178, 179, 180, 181, 182, 183, 184, 185, 186, 187] (by decide +kernel) (by decide +kernel)
set_option maxRecDepth 20000 in
theorem gX11_isGroup_X4_refine : GoodIn wsX11_isGroup (wsV RX11 210 RX4 yX4_refine wsX4_refine) := goodIn_app (goodIn_of _ (by decide +kernel)) ggX11_isGroup_X4_refine
set_option maxRecDepth 20000 in
theorem ggX11_isGroup_X4_isPermuted : GoodIn wsX11_isGroup wsX4_isPermuted := goodIn_r _ [151, 109, 100, 152, 153, 154, 155, 98, 156, 117, 128, 102, 103, 175, 176, 177, 178, 179, 180, 181, 182, 183, 184, 185, 186, 187, 193, 194, 195, 196, 197, 198, 199, 200, 201, 202, 203, 204, 205] (by decide +kernel) (by decide +kernel)
set_option maxRecDepth 20000 in
theorem gX11_isGroup_X4_isPermuted : GoodIn wsX11_isGroup (wsV RX11 225 RX4 yX4_isPermuted wsX4_isPermuted) := goodIn_app (goodIn_of _ (by decide +kernel)) ggX11_isGroup_X4_isPermuted
theorem dX11_isGroup_0 : decode cX11_isGroup 0 = .ok (.aload_n 0, 1) := by decide +kernel
theorem dX11_isGroup_1 : decode cX11_isGroup 1 = .ok (.iload_n 1, 1) := by decide +kernel
theorem dX11_isGroup_2 : decode cX11_isGroup 2 = .ok (.invokevirtual 150, 3) := by decide +kernel
theorem dX11_isGroup_5 : decode cX11_isGroup 5 = .ok (.ifCond .ne 5, 3) := by decide +kernel
theorem dX11_isGroup_8 : decode cX11_isGroup 8 = .ok (.iconst (-1), 1) := by decide +kernel
theorem dX11_isGroup_9 : decode cX11_isGroup 9 = .ok (.ireturn, 1) := by decide +kernel
theorem dX11_isGroup_10 : decode cX11_isGroup 10 = .ok (.aload_n 0, 1) := by decide +kernel
theorem dX11_isGroup_11 : decode cX11_isGroup 11 = .ok (.iload_n 1, 1) := by decide +kernel
theorem dX11_isGroup_12 : decode cX11_isGroup 12 = .ok (.invokevirtual 204, 3) := by decide +kernel
theorem dX11_isGroup_15 : decode cX11_isGroup 15 = .ok (.ifCond .ne 6, 3) := by decide +kernel
theorem dX11_isGroup_18 : decode cX11_isGroup 18 = .ok (.bipush (-4), 2) := by decide +kernel
theorem dX11_isGroup_20 : decode cX11_isGroup 20 = .ok (.ireturn, 1) := by decide +kernel
theorem dX11_isGroup_21 : decode cX11_isGroup 21 = .ok (.aload_n 0, 1) := by decide +kernel
theorem dX11_isGroup_22 : decode cX11_isGroup 22 = .ok (.getfield 61, 3) := by decide +kernel
theorem dX11_isGroup_25 : decode cX11_isGroup 25 = .ok (.aload_n 0, 1) := by decide +kernel
theorem dX11_isGroup_26 : decode cX11_isGroup 26 = .ok (.getfield 54, 3) := by decide +kernel
theorem dX11_isGroup_29 : decode cX11_isGroup 29 = .ok (.invokevirtual 210, 3) := by decide +kernel
theorem dX11_isGroup_32 : decode cX11_isGroup 32 = .ok (.aload_n 0, 1) := by decide +kernel
theorem dX11_isGroup_33 : decode cX11_isGroup 33 = .ok (.getfield 61, 3) := by decide +kernel
theorem dX11_isGroup_36 : decode cX11_isGroup 36 = .ok (.aload_n 0, 1) := by decide +kernel
theorem dX11_isGroup_37 : decode cX11_isGroup 37 = .ok (.getfield 54, 3) := by decide +kernel
theorem dX11_isGroup_40 : decode cX11_isGroup 40 = .ok (.invokevirtual 225, 3) := by decide +kernel
theorem dX11_isGroup_43 : decode cX11_isGroup 43 = .ok (.ifCond .eq 7, 3) := by decide +kernel
theorem dX11_isGroup_46 : decode cX11_isGroup 46 = .ok (.iconst 1, 1) := by decide +kernel
theorem dX11_isGroup_47 : decode cX11_isGroup 47 = .ok (.goto 4, 3) := by decide +kernel
theorem dX11_isGroup_50 : decode cX11_isGroup 50 = .ok (.iconst 0, 1) := by decide +kernel
theorem dX11_isGroup_51 : decode cX11_isGroup 51 = .ok (.ireturn, 1) := by decide +kernel
set_option maxRecDepth 20000 in
theorem ggX11_setBasic_X11_isLanguage : GoodIn wsX11_setBasic wsX11_isLanguage := goodIn_r _ [9] (by decide +kernel) (by decide +kernel)
set_option maxRecDepth 20000 in
theorem gX11_setBasic_X11_isLanguage : GoodIn wsX11_setBasic (va_wsS RX11 229 yX11_isLanguage wsX11_isLanguage) := goodIn_app (goodIn_of _ (by decide +kernel)) ggX11_setBasic_X11_isLanguage
set_option maxRecDepth 20000 in
theorem ggX11_setBasic_X11_isTest : GoodIn wsX11_setBasic wsX11_isTest := goodIn_r _ [13, 1, 2, 14, 34, 35, 36, 37, 38, 39, 40, 41, 42, 43, 44, 45, 46, 47, 48, 49, 50, 51] (by decide +kernel) (by decide +kernel)
set_option maxRecDepth 20000 in
theorem gX11_setBasic_X11_isTest : GoodIn wsX11_setBasic (wsV RX11 150 RX11 yX11_isTest wsX11_isTest) := goodIn_app (goodIn_of _ (by decide +kernel)) ggX11_setBasic_X11_isTest
set_option maxRecDepth 20000 in
theorem ggX11_setBasic_X2_basic : GoodIn wsX11_setBasic wsX2_basic := goodIn_r _ [18, 19, 20, 21, 22, 17, 23, 24, 25, 26, 27, 28, 29, 30, 31, 32, 33, 57, 58, 59, 60, 61] (by decide +kernel) (by decide +kernel)
set_option maxRecDepth 20000 in
theorem gX11_setBasic_X2_basic : GoodIn wsX11_setBasic (va_wsS RX11 236 yX2_basic wsX2_basic) := goodIn_app (goodIn_of _ (by decide +kernel)) ggX11_setBasic_X2_basic
theorem dX11_setBasic_0 : decode cX11_setBasic 0 = .ok (.iload_n 1, 1) := by decide +kernel
theorem dX11_setBasic_1 : decode cX11_setBasic 1 = .ok (.invokestatic 229, 3) := by decide +kernel
theorem dX11_setBasic_4 : decode cX11_setBasic 4 = .ok (.ifCond .eq 11, 3) := by decide +kernel
theorem dX11_setBasic_7 : decode cX11_setBasic 7 = .ok (.aload_n 0, 1) := by decide +kernel
theorem dX11_setBasic_8 : decode cX11_setBasic 8 = .ok (.iload_n 2, 1) := by decide +kernel
theorem dX11_setBasic_9 : decode cX11_setBasic 9 = .ok (.invokevirtual 150, 3) := by decide +kernel
theorem dX11_setBasic_12 : decode cX11_setBasic 12 = .ok (.ifCond .ne 5, 3) := by decide +kernel
theorem dX11_setBasic_15 : decode cX11_setBasic 15 = .ok (.iconst (-1), 1) := by decide +kernel
theorem dX11_setBasic_16 : decode cX11_setBasic 16 = .ok (.ireturn, 1) := by decide +kernel
theorem dX11_setBasic_17 : decode cX11_setBasic 17 = .ok (.aload_n 0, 1) := by decide +kernel
theorem dX11_setBasic_18 : decode cX11_setBasic 18 = .ok (.getfield 10, 3) := by decide +kernel
theorem dX11_setBasic_21 : decode cX11_setBasic 21 = .ok (.getfield 127, 3) := by decide +kernel
theorem dX11_setBasic_24 : decode cX11_setBasic 24 = .ok (.getfield 156, 3) := by decide +kernel
theorem dX11_setBasic_27 : decode cX11_setBasic 27 = .ok (.iload_n 2, 1) := by decide +kernel
theorem dX11_setBasic_28 : decode cX11_setBasic 28 = .ok (.aaload, 1) := by decide +kernel
theorem dX11_setBasic_29 : decode cX11_setBasic 29 = .ok (.astore 4, 2) := by decide +kernel
theorem dX11_setBasic_31 : decode cX11_setBasic 31 = .ok (.iload_n 3, 1) := by decide +kernel
theorem dX11_setBasic_32 : decode cX11_setBasic 32 = .ok (.ifCond .lt 12, 3) := by decide +kernel
theorem dX11_setBasic_35 : decode cX11_setBasic 35 = .ok (.iload_n 3, 1) := by decide +kernel
theorem dX11_setBasic_36 : decode cX11_setBasic 36 = .ok (.aload 4, 2) := by decide +kernel
theorem dX11_setBasic_38 : decode cX11_setBasic 38 = .ok (.getfield 165, 3) := by decide +kernel
theorem dX11_setBasic_41 : decode cX11_setBasic 41 = .ok (.if_icmp .lt 5, 3) := by decide +kernel
theorem dX11_setBasic_44 : decode cX11_setBasic 44 = .ok (.iconst (-1), 1) := by decide +kernel
theorem dX11_setBasic_45 : decode cX11_setBasic 45 = .ok (.ireturn, 1) := by decide +kernel
theorem dX11_setBasic_46 : decode cX11_setBasic 46 = .ok (.aload_n 0, 1) := by decide +kernel
theorem dX11_setBasic_47 : decode cX11_setBasic 47 = .ok (.getfield 10, 3) := by decide +kernel
theorem dX11_setBasic_50 : decode cX11_setBasic 50 = .ok (.getfield 232, 3) := by decide +kernel
theorem dX11_setBasic_53 : decode cX11_setBasic 53 = .ok (.iload_n 1, 1) := by decide +kernel
theorem dX11_setBasic_54 : decode cX11_setBasic 54 = .ok (.aload 4, 2) := by decide +kernel
theorem dX11_setBasic_56 : decode cX11_setBasic 56 = .ok (.iload_n 3, 1) := by decide +kernel
theorem dX11_setBasic_57 : decode cX11_setBasic 57 = .ok (.invokestatic 236, 3) := by decide +kernel
theorem dX11_setBasic_60 : decode cX11_setBasic 60 = .ok (.aastore, 1) := by decide +kernel
theorem dX11_setBasic_61 : decode cX11_setBasic 61 = .ok (.iconst 1, 1) := by decide +kernel
theorem dX11_setBasic_62 : decode cX11_setBasic 62 = .ok (.ireturn, 1) := by decide +kernel
set_option maxRecDepth 20000 in
theorem ggX11_complement_X11_isLanguage : GoodIn wsX11_complement wsX11_isLanguage := goodIn_r _ [7] (by decide +kernel) (by decide +kernel)
set_option maxRecDepth 20000 in
theorem gX11_complement_X11_isLanguage : GoodIn wsX11_complement (va_wsS RX11 229 yX11_isLanguage wsX11_isLanguage) := goodIn_app (goodIn_of _ (by decide +kernel)) ggX11_complement_X11_isLanguage
set_option maxRecDepth 20000 in
theorem ggX11_complement_X2_complementOf : GoodIn wsX11_complement wsX2_complementOf := goodIn_r _ [11, 12, 13, 10, 14, 15, 16, 17, 18, 19, 20, 21, 22, 23, 24, 25, 26, 27, 28, 45, 46, 47, 48, 49] (by decide +kernel) (by decide +kernel)
set_option maxRecDepth 20000 in
theorem gX11_complement_X2_complementOf : GoodIn wsX11_complement (va_wsS RX11 242 yX2_complementOf wsX2_complementOf) := goodIn_app (goodIn_of _ (by decide +kernel)) ggX11_complement_X2_complementOf
theorem dX11_complement_0 : decode cX11_complement 0 = .ok (.iload_n 1, 1) := by decide +kernel
theorem dX11_complement_1 : decode cX11_complement 1 = .ok (.invokestatic 229, 3) := by decide +kernel
theorem dX11_complement_4 : decode cX11_complement 4 = .ok (.ifCond .eq 10, 3) := by decide +kernel
theorem dX11_complement_7 : decode cX11_complement 7 = .ok (.iload_n 2, 1) := by decide +kernel
theorem dX11_complement_8 : decode cX11_complement 8 = .ok (.invokestatic 229, 3) := by decide +kernel
theorem dX11_complement_11 : decode cX11_complement 11 = .ok (.ifCond .ne 5, 3) := by decide +kernel
theorem dX11_complement_14 : decode cX11_complement 14 = .ok (.iconst (-1), 1) := by decide +kernel
theorem dX11_complement_15 : decode cX11_complement 15 = .ok (.ireturn, 1) := by decide +kernel
theorem dX11_complement_16 : decode cX11_complement 16 = .ok (.aload_n 0, 1) := by decide +kernel
theorem dX11_complement_17 : decode cX11_complement 17 = .ok (.getfield 10, 3) := by decide +kernel
theorem dX11_complement_20 : decode cX11_complement 20 = .ok (.getfield 232, 3) := by decide +kernel
theorem dX11_complement_23 : decode cX11_complement 23 = .ok (.iload_n 2, 1) := by decide +kernel
theorem dX11_complement_24 : decode cX11_complement 24 = .ok (.aaload, 1) := by decide +kernel
theorem dX11_complement_25 : decode cX11_complement 25 = .ok (.astore_n 3, 1) := by decide +kernel
theorem dX11_complement_26 : decode cX11_complement 26 = .ok (.aload_n 3, 1) := by decide +kernel
theorem dX11_complement_27 : decode cX11_complement 27 = .ok (.ifnonnull 6, 3) := by decide +kernel
theorem dX11_complement_30 : decode cX11_complement 30 = .ok (.bipush (-5), 2) := by decide +kernel
theorem dX11_complement_32 : decode cX11_complement 32 = .ok (.ireturn, 1) := by decide +kernel
theorem dX11_complement_33 : decode cX11_complement 33 = .ok (.aload_n 0, 1) := by decide +kernel
theorem dX11_complement_34 : decode cX11_complement 34 = .ok (.getfield 10, 3) := by decide +kernel
theorem dX11_complement_37 : decode cX11_complement 37 = .ok (.getfield 232, 3) := by decide +kernel
theorem dX11_complement_40 : decode cX11_complement 40 = .ok (.iload_n 1, 1) := by decide +kernel
theorem dX11_complement_41 : decode cX11_complement 41 = .ok (.aload_n 3, 1) := by decide +kernel
theorem dX11_complement_42 : decode cX11_complement 42 = .ok (.invokestatic 242, 3) := by decide +kernel
theorem dX11_complement_45 : decode cX11_complement 45 = .ok (.aastore, 1) := by decide +kernel
theorem dX11_complement_46 : decode cX11_complement 46 = .ok (.aload_n 3, 1) := by decide +kernel
theorem dX11_complement_47 : decode cX11_complement 47 = .ok (.getfield 246, 3) := by decide +kernel
theorem dX11_complement_50 : decode cX11_complement 50 = .ok (.ireturn, 1) := by decide +kernel
set_option maxRecDepth 20000 in
theorem ggX11_intersect_X11_combine : GoodIn wsX11_intersect wsX11_combine := goodIn_r _ [5, 6, 7, 8, 9, 10, 4, 11, 12, 13, 14, 15, 16, 17, 18, 19, 20, 21, 22, 23, 24, 25, 26, 27, 28, 29, 30, 31, 32, 33, 34, 35, 36, 37, 38, 39, 40, 41, 42, 43, 44, 45, 46, 47, 48, 49, 50, 51, 52, 53, 54, 55, 56, 57, 58, 59, 60, 61, 62, 63, 64, 65, 66] (by decide +kernel) (by decide +kernel)
set_option maxRecDepth 20000 in
theorem gX11_intersect_X11_combine : GoodIn wsX11_intersect (wsV RX11 249 RX11 yX11_combine wsX11_combine) := goodIn_app (goodIn_of _ (by decide +kernel)) ggX11_intersect_X11_combine
theorem dX11_intersect_0 : decode cX11_intersect 0 = .ok (.aload_n 0, 1) := by decide +kernel
theorem dX11_intersect_1 : decode cX11_intersect 1 = .ok (.iconst 2, 1) := by decide +kernel
theorem dX11_intersect_2 : decode cX11_intersect 2 = .ok (.iload_n 1, 1) := by decide +kernel
theorem dX11_intersect_3 : decode cX11_intersect 3 = .ok (.iload_n 2, 1) := by decide +kernel
theorem dX11_intersect_4 : decode cX11_intersect 4 = .ok (.iload_n 3, 1) := by decide +kernel
theorem dX11_intersect_5 : decode cX11_intersect 5 = .ok (.invokevirtual 249, 3) := by decide +kernel
theorem dX11_intersect_8 : decode cX11_intersect 8 = .ok (.ireturn, 1) := by decide +kernel
set_option maxRecDepth 20000 in
theorem ggX11_unite_X11_combine : GoodIn wsX11_unite wsX11_combine := goodIn_r _ [5, 6, 7, 8, 9, 10, 4, 11, 12, 13, 14, 15, 16, 17, 18, 19, 20, 21, 22, 23, 24, 25, 26, 27, 28, 29, 30, 31, 32, 33, 34, 35, 36, 37, 38, 39, 40, 41, 42, 43, 44, 45, 46, 47, 48, 49, 50, 51, 52, 53, 54, 55, 56, 57, 58, 59, 60, 61, 62, 63, 64, 65, 66] (by decide +kernel) (by decide +kernel)
set_option maxRecDepth 20000 in
theorem gX11_unite_X11_combine : GoodIn wsX11_unite (wsV RX11 249 RX11 yX11_combine wsX11_combine) := goodIn_app (goodIn_of _ (by decide +kernel)) ggX11_unite_X11_combine
theorem dX11_unite_0 : decode cX11_unite 0 = .ok (.aload_n 0, 1) := by decide +kernel
theorem dX11_unite_1 : decode cX11_unite 1 = .ok (.iconst 3, 1) := by decide +kernel
theorem dX11_unite_2 : decode cX11_unite 2 = .ok (.iload_n 1, 1) := by decide +kernel
theorem dX11_unite_3 : decode cX11_unite 3 = .ok (.iload_n 2, 1) := by decide +kernel
theorem dX11_unite_4 : decode cX11_unite 4 = .ok (.iload_n 3, 1) := by decide +kernel
theorem dX11_unite_5 : decode cX11_unite 5 = .ok (.invokevirtual 249, 3) := by decide +kernel
theorem dX11_unite_8 : decode cX11_unite 8 = .ok (.ireturn, 1) := by decide +kernel
set_option maxRecDepth 20000 in
theorem ggX11_clearLanguage_X11_isLanguage : GoodIn wsX11_clearLanguage wsX11_isLanguage := goodIn_r _ [6] (by decide +kernel) (by decide +kernel)
set_option maxRecDepth 20000 in
theorem gX11_clearLanguage_X11_isLanguage : GoodIn wsX11_clearLanguage (va_wsS RX11 229 yX11_isLanguage wsX11_isLanguage) := goodIn_app (goodIn_of _ (by decide +kernel)) ggX11_clearLanguage_X11_isLanguage
theorem dX11_clearLanguage_0 : decode cX11_clearLanguage 0 = .ok (.iload_n 1, 1) := by decide +kernel
theorem dX11_clearLanguage_1 : decode cX11_clearLanguage 1 = .ok (.invokestatic 229, 3) := by decide +kernel
theorem dX11_clearLanguage_4 : decode cX11_clearLanguage 4 = .ok (.ifCond .ne 5, 3) := by decide +kernel
theorem dX11_clearLanguage_7 : decode cX11_clearLanguage 7 = .ok (.iconst (-1), 1) := by decide +kernel
theorem dX11_clearLanguage_8 : decode cX11_clearLanguage 8 = .ok (.ireturn, 1) := by decide +kernel
theorem dX11_clearLanguage_9 : decode cX11_clearLanguage 9 = .ok (.aload_n 0, 1) := by decide +kernel
theorem dX11_clearLanguage_10 : decode cX11_clearLanguage 10 = .ok (.getfield 10, 3) := by decide +kernel
theorem dX11_clearLanguage_13 : decode cX11_clearLanguage 13 = .ok (.getfield 232, 3) := by decide +kernel
theorem dX11_clearLanguage_16 : decode cX11_clearLanguage 16 = .ok (.iload_n 1, 1) := by decide +kernel
theorem dX11_clearLanguage_17 : decode cX11_clearLanguage 17 = .ok (.aaload, 1) := by decide +kernel
theorem dX11_clearLanguage_18 : decode cX11_clearLanguage 18 = .ok (.ifnonnull 7, 3) := by decide +kernel
theorem dX11_clearLanguage_21 : decode cX11_clearLanguage 21 = .ok (.iconst 0, 1) := by decide +kernel
theorem dX11_clearLanguage_22 : decode cX11_clearLanguage 22 = .ok (.goto 4, 3) := by decide +kernel
theorem dX11_clearLanguage_25 : decode cX11_clearLanguage 25 = .ok (.iconst 1, 1) := by decide +kernel
theorem dX11_clearLanguage_26 : decode cX11_clearLanguage 26 = .ok (.istore_n 2, 1) := by decide +kernel
theorem dX11_clearLanguage_27 : decode cX11_clearLanguage 27 = .ok (.aload_n 0, 1) := by decide +kernel
theorem dX11_clearLanguage_28 : decode cX11_clearLanguage 28 = .ok (.getfield 10, 3) := by decide +kernel
theorem dX11_clearLanguage_31 : decode cX11_clearLanguage 31 = .ok (.getfield 232, 3) := by decide +kernel
theorem dX11_clearLanguage_34 : decode cX11_clearLanguage 34 = .ok (.iload_n 1, 1) := by decide +kernel
theorem dX11_clearLanguage_35 : decode cX11_clearLanguage 35 = .ok (.aconst_null, 1) := by decide +kernel
theorem dX11_clearLanguage_36 : decode cX11_clearLanguage 36 = .ok (.aastore, 1) := by decide +kernel
theorem dX11_clearLanguage_37 : decode cX11_clearLanguage 37 = .ok (.iload_n 2, 1) := by decide +kernel
theorem dX11_clearLanguage_38 : decode cX11_clearLanguage 38 = .ok (.ireturn, 1) := by decide +kernel
set_option maxRecDepth 20000 in
theorem ggX11_form_X11_isLanguage : GoodIn wsX11_form wsX11_isLanguage := goodIn_r _ [7] (by decide +kernel) (by decide +kernel)
set_option maxRecDepth 20000 in
theorem gX11_form_X11_isLanguage : GoodIn wsX11_form (va_wsS RX11 229 yX11_isLanguage wsX11_isLanguage) := goodIn_app (goodIn_of _ (by decide +kernel)) ggX11_form_X11_isLanguage
theorem dX11_form_0 : decode cX11_form 0 = .ok (.iload_n 1, 1) := by decide +kernel
theorem dX11_form_1 : decode cX11_form 1 = .ok (.invokestatic 229, 3) := by decide +kernel
theorem dX11_form_4 : decode cX11_form 4 = .ok (.ifCond .ne 5, 3) := by decide +kernel
theorem dX11_form_7 : decode cX11_form 7 = .ok (.iconst (-1), 1) := by decide +kernel
theorem dX11_form_8 : decode cX11_form 8 = .ok (.ireturn, 1) := by decide +kernel
theorem dX11_form_9 : decode cX11_form 9 = .ok (.aload_n 0, 1) := by decide +kernel
theorem dX11_form_10 : decode cX11_form 10 = .ok (.getfield 10, 3) := by decide +kernel
theorem dX11_form_13 : decode cX11_form 13 = .ok (.getfield 232, 3) := by decide +kernel
theorem dX11_form_16 : decode cX11_form 16 = .ok (.iload_n 1, 1) := by decide +kernel
theorem dX11_form_17 : decode cX11_form 17 = .ok (.aaload, 1) := by decide +kernel
theorem dX11_form_18 : decode cX11_form 18 = .ok (.astore_n 2, 1) := by decide +kernel
theorem dX11_form_19 : decode cX11_form 19 = .ok (.aload_n 2, 1) := by decide +kernel
theorem dX11_form_20 : decode cX11_form 20 = .ok (.ifnonnull 8, 3) := by decide +kernel
theorem dX11_form_23 : decode cX11_form 23 = .ok (.bipush (-5), 2) := by decide +kernel
theorem dX11_form_25 : decode cX11_form 25 = .ok (.goto 7, 3) := by decide +kernel
theorem dX11_form_28 : decode cX11_form 28 = .ok (.aload_n 2, 1) := by decide +kernel
theorem dX11_form_29 : decode cX11_form 29 = .ok (.getfield 253, 3) := by decide +kernel
theorem dX11_form_32 : decode cX11_form 32 = .ok (.ireturn, 1) := by decide +kernel
set_option maxRecDepth 20000 in
theorem ggX11_contains_X11_isLanguage : GoodIn wsX11_contains wsX11_isLanguage := goodIn_r _ [7] (by decide +kernel) (by decide +kernel)
set_option maxRecDepth 20000 in
theorem gX11_contains_X11_isLanguage : GoodIn wsX11_contains (va_wsS RX11 229 yX11_isLanguage wsX11_isLanguage) := goodIn_app (goodIn_of _ (by decide +kernel)) ggX11_contains_X11_isLanguage
set_option maxRecDepth 20000 in
theorem ggX11_contains_X11_isWord : GoodIn wsX11_contains wsX11_isWord := goodIn_r _ [10] (by decide +kernel) (by decide +kernel)
set_option maxRecDepth 20000 in
theorem gX11_contains_X11_isWord : GoodIn wsX11_contains (va_wsS RX11 81 yX11_isWord wsX11_isWord) := goodIn_app (goodIn_of _ (by decide +kernel)) ggX11_contains_X11_isWord
set_option maxRecDepth 20000 in
theorem ggX11_contains_X2_holds : GoodIn wsX11_contains wsX2_holds := goodIn_r _ [15, 16, 17, 18, 19, 20, 21, 22, 23, 24, 25, 26, 27, 28, 29, 30, 31, 32, 33, 34, 35, 36, 37, 38, 39, 40, 41, 42, 43, 44, 45, 46, 47, 48, 14, 49, 50, 67, 68, 69, 70, 71, 72, 73, 74, 75, 76, 77, 78, 79] (by decide +kernel) (by decide +kernel)
set_option maxRecDepth 20000 in
theorem gX11_contains_X2_holds : GoodIn wsX11_contains (wsV RX11 256 RX2 yX2_holds wsX2_holds) := goodIn_app (goodIn_of _ (by decide +kernel)) ggX11_contains_X2_holds
theorem dX11_contains_0 : decode cX11_contains 0 = .ok (.iload_n 1, 1) := by decide +kernel
theorem dX11_contains_1 : decode cX11_contains 1 = .ok (.invokestatic 229, 3) := by decide +kernel
theorem dX11_contains_4 : decode cX11_contains 4 = .ok (.ifCond .eq 10, 3) := by decide +kernel
theorem dX11_contains_7 : decode cX11_contains 7 = .ok (.iload_n 2, 1) := by decide +kernel
theorem dX11_contains_8 : decode cX11_contains 8 = .ok (.invokestatic 81, 3) := by decide +kernel
theorem dX11_contains_11 : decode cX11_contains 11 = .ok (.ifCond .ne 5, 3) := by decide +kernel
theorem dX11_contains_14 : decode cX11_contains 14 = .ok (.iconst (-1), 1) := by decide +kernel
theorem dX11_contains_15 : decode cX11_contains 15 = .ok (.ireturn, 1) := by decide +kernel
theorem dX11_contains_16 : decode cX11_contains 16 = .ok (.aload_n 0, 1) := by decide +kernel
theorem dX11_contains_17 : decode cX11_contains 17 = .ok (.getfield 10, 3) := by decide +kernel
theorem dX11_contains_20 : decode cX11_contains 20 = .ok (.getfield 232, 3) := by decide +kernel
theorem dX11_contains_23 : decode cX11_contains 23 = .ok (.iload_n 1, 1) := by decide +kernel
theorem dX11_contains_24 : decode cX11_contains 24 = .ok (.aaload, 1) := by decide +kernel
theorem dX11_contains_25 : decode cX11_contains 25 = .ok (.astore_n 3, 1) := by decide +kernel
theorem dX11_contains_26 : decode cX11_contains 26 = .ok (.aload_n 3, 1) := by decide +kernel
theorem dX11_contains_27 : decode cX11_contains 27 = .ok (.ifnonnull 6, 3) := by decide +kernel
theorem dX11_contains_30 : decode cX11_contains 30 = .ok (.bipush (-5), 2) := by decide +kernel
theorem dX11_contains_32 : decode cX11_contains 32 = .ok (.ireturn, 1) := by decide +kernel
theorem dX11_contains_33 : decode cX11_contains 33 = .ok (.aload_n 3, 1) := by decide +kernel
theorem dX11_contains_34 : decode cX11_contains 34 = .ok (.aload_n 0, 1) := by decide +kernel
theorem dX11_contains_35 : decode cX11_contains 35 = .ok (.getfield 10, 3) := by decide +kernel
theorem dX11_contains_38 : decode cX11_contains 38 = .ok (.getfield 85, 3) := by decide +kernel
theorem dX11_contains_41 : decode cX11_contains 41 = .ok (.iload_n 2, 1) := by decide +kernel
theorem dX11_contains_42 : decode cX11_contains 42 = .ok (.aaload, 1) := by decide +kernel
theorem dX11_contains_43 : decode cX11_contains 43 = .ok (.invokevirtual 256, 3) := by decide +kernel
theorem dX11_contains_46 : decode cX11_contains 46 = .ok (.ifCond .eq 7, 3) := by decide +kernel
theorem dX11_contains_49 : decode cX11_contains 49 = .ok (.iconst 1, 1) := by decide +kernel
theorem dX11_contains_50 : decode cX11_contains 50 = .ok (.goto 4, 3) := by decide +kernel
theorem dX11_contains_53 : decode cX11_contains 53 = .ok (.iconst 0, 1) := by decide +kernel
theorem dX11_contains_54 : decode cX11_contains 54 = .ok (.ireturn, 1) := by decide +kernel
set_option maxRecDepth 20000 in
theorem ggX11_languageStates_X11_isLanguage : GoodIn wsX11_languageStates wsX11_isLanguage := goodIn_r _ [9] (by decide +kernel) (by decide +kernel)
set_option maxRecDepth 20000 in
theorem gX11_languageStates_X11_isLanguage : GoodIn wsX11_languageStates (va_wsS RX11 229 yX11_isLanguage wsX11_isLanguage) := goodIn_app (goodIn_of _ (by decide +kernel)) ggX11_languageStates_X11_isLanguage
set_option maxRecDepth 20000 in
theorem ggX11_languageStates_X11_exploreLanguage : GoodIn wsX11_languageStates wsX11_exploreLanguage := goodIn_r _ [13, 4, 1, 14, 15, 16, 17, 18, 19, 20, 21, 22, 23, 24, 25, 26, 27, 28, 29, 30, 31, 32, 33, 34, 35, 36, 37, 38, 39, 40, 41, 42, 43, 44, 45, 46, 47, 48, 49, 50, 51, 52, 53, 54, 55, 56, 57, 58, 59, 60, 61, 62, 63, 64, 65, 66, 67, 68, 69, 70, 71, 72, 73, 74, 75, 76, 77, 78, 79, 80, 81, 82, 83, 84, 85, 86, 87, 88, 89, 90, 91, 92, 93, 94, 95, 96, 97, 98, 99, 100, 101, 102, 103, 104, 105, 106, 107, 108, 109, 163, 164, 165, 166, 167, 168, 169, 170, 171, 172, 173, 174, 175, 176, 177, 178, 192, 193, 194, 195, 196, 197, 198, 199, 200, 201, 202, 203, 204, 205, 206, 207, 208, 209, 210, 211, 212, 213, 214, 215, 216] (by decide +kernel) (by decide +kernel)
set_option maxRecDepth 20000 in
theorem gX11_languageStates_X11_exploreLanguage : GoodIn wsX11_languageStates (wsV RX11 260 RX11 yX11_exploreLanguage wsX11_exploreLanguage) := goodIn_app (goodIn_of _ (by decide +kernel)) ggX11_languageStates_X11_exploreLanguage
set_option maxRecDepth 20000 in
theorem ggX11_languageStates_X4_refine : GoodIn wsX11_languageStates wsX4_refine := goodIn_r _ [114, 115, 116, 117, 118, 119, 120, 121, 122, 123, 124, 125, 126, 127, 113, 128, 129, 130, 131, 132, 133, 134, 135, 136, 137, 138, 139, 140, 141, 142, 143, 144, 145, 146, 147, 148, 149, 150, 151, 152, 153, 154, 155, 156, 157, 158, 159, 160, 161, 162, 179, 180, 181, 182, 183, 184, 185, 186, 187, 188, 189, 190, 191, 192, 193, 194, 195, 196, 197, 198, 199, 200, 201, 202, 203, 204] (by decide +kernel) (by decide +kernel)
set_option maxRecDepth 20000 in
theorem gX11_languageStates_X4_refine : GoodIn wsX11_languageStates (wsV RX11 210 RX4 yX4_refine wsX4_refine) := goodIn_app (goodIn_of _ (by decide +kernel)) ggX11_languageStates_X4_refine
theorem dX11_languageStates_0 : decode cX11_languageStates 0 = .ok (.iload_n 1, 1) := by decide +kernel
theorem dX11_languageStates_1 : decode cX11_languageStates 1 = .ok (.invokestatic 229, 3) := by decide +kernel
theorem dX11_languageStates_4 : decode cX11_languageStates 4 = .ok (.ifCond .ne 5, 3) := by decide +kernel
theorem dX11_languageStates_7 : decode cX11_languageStates 7 = .ok (.iconst (-1), 1) := by decide +kernel
theorem dX11_languageStates_8 : decode cX11_languageStates 8 = .ok (.ireturn, 1) := by decide +kernel
theorem dX11_languageStates_9 : decode cX11_languageStates 9 = .ok (.aload_n 0, 1) := by decide +kernel
theorem dX11_languageStates_10 : decode cX11_languageStates 10 = .ok (.getfield 10, 3) := by decide +kernel
theorem dX11_languageStates_13 : decode cX11_languageStates 13 = .ok (.getfield 232, 3) := by decide +kernel
theorem dX11_languageStates_16 : decode cX11_languageStates 16 = .ok (.iload_n 1, 1) := by decide +kernel
theorem dX11_languageStates_17 : decode cX11_languageStates 17 = .ok (.aaload, 1) := by decide +kernel
theorem dX11_languageStates_18 : decode cX11_languageStates 18 = .ok (.astore_n 2, 1) := by decide +kernel
theorem dX11_languageStates_19 : decode cX11_languageStates 19 = .ok (.aload_n 2, 1) := by decide +kernel
theorem dX11_languageStates_20 : decode cX11_languageStates 20 = .ok (.ifnonnull 6, 3) := by decide +kernel
theorem dX11_languageStates_23 : decode cX11_languageStates 23 = .ok (.bipush (-5), 2) := by decide +kernel
theorem dX11_languageStates_25 : decode cX11_languageStates 25 = .ok (.ireturn, 1) := by decide +kernel
theorem dX11_languageStates_26 : decode cX11_languageStates 26 = .ok (.aload_n 0, 1) := by decide +kernel
theorem dX11_languageStates_27 : decode cX11_languageStates 27 = .ok (.aload_n 2, 1) := by decide +kernel
theorem dX11_languageStates_28 : decode cX11_languageStates 28 = .ok (.invokevirtual 260, 3) := by decide +kernel
theorem dX11_languageStates_31 : decode cX11_languageStates 31 = .ok (.ifCond .ne 6, 3) := by decide +kernel
theorem dX11_languageStates_34 : decode cX11_languageStates 34 = .ok (.bipush (-4), 2) := by decide +kernel
theorem dX11_languageStates_36 : decode cX11_languageStates 36 = .ok (.ireturn, 1) := by decide +kernel
theorem dX11_languageStates_37 : decode cX11_languageStates 37 = .ok (.aload_n 0, 1) := by decide +kernel
theorem dX11_languageStates_38 : decode cX11_languageStates 38 = .ok (.getfield 61, 3) := by decide +kernel
theorem dX11_languageStates_41 : decode cX11_languageStates 41 = .ok (.aload_n 0, 1) := by decide +kernel
theorem dX11_languageStates_42 : decode cX11_languageStates 42 = .ok (.getfield 54, 3) := by decide +kernel
theorem dX11_languageStates_45 : decode cX11_languageStates 45 = .ok (.invokevirtual 210, 3) := by decide +kernel
theorem dX11_languageStates_48 : decode cX11_languageStates 48 = .ok (.aload_n 0, 1) := by decide +kernel
theorem dX11_languageStates_49 : decode cX11_languageStates 49 = .ok (.getfield 61, 3) := by decide +kernel
theorem dX11_languageStates_52 : decode cX11_languageStates 52 = .ok (.getfield 214, 3) := by decide +kernel
theorem dX11_languageStates_55 : decode cX11_languageStates 55 = .ok (.ireturn, 1) := by decide +kernel
set_option maxRecDepth 20000 in
theorem ggX11_countWords_X11_isLanguage : GoodIn wsX11_countWords wsX11_isLanguage := goodIn_r _ [11] (by decide +kernel) (by decide +kernel)
set_option maxRecDepth 20000 in
theorem gX11_countWords_X11_isLanguage : GoodIn wsX11_countWords (va_wsS RX11 229 yX11_isLanguage wsX11_isLanguage) := goodIn_app (goodIn_of _ (by decide +kernel)) ggX11_countWords_X11_isLanguage
set_option maxRecDepth 20000 in
theorem ggX11_countWords_X11_exploreLanguage : GoodIn wsX11_countWords wsX11_exploreLanguage := goodIn_r _ [15, 6, 2, 16, 17, 18, 19, 20, 21, 22, 23, 24, 25, 26, 27, 28, 29, 30, 31, 32, 33, 34, 35, 36, 37, 38, 39, 40, 41, 42, 43, 44, 45, 46, 47, 48, 49, 50, 51, 52, 53, 54, 55, 56, 57, 58, 59, 60, 61, 62, 63, 64, 65, 66, 67, 68, 69, 70, 71, 72, 73, 74, 75, 76, 77, 78, 79, 80, 81, 82, 83, 84, 85, 86, 87, 88, 89, 90, 91, 92, 93, 94, 95, 96, 97, 98, 99, 100, 101, 102, 103, 104, 105, 106, 107, 108, 109, 110, 111, 134, 135, 136, 137, 138, 139, 140, 141, 142, 143, 144, 145, 146, 147, 148, 149, 150, 151, 152, 153, 154, 155, 156, 157, 158, 159, 160, 161, 162, 163, 164, 165, 166, 167, 168, 169, 170, 171, 172, 173, 174] (by decide +kernel) (by decide +kernel)
set_option maxRecDepth 20000 in
theorem gX11_countWords_X11_exploreLanguage : GoodIn wsX11_countWords (wsV RX11 260 RX11 yX11_exploreLanguage wsX11_exploreLanguage) := goodIn_app (goodIn_of _ (by decide +kernel)) ggX11_countWords_X11_exploreLanguage
set_option maxRecDepth 20000 in
theorem ggX11_countWords_X0_countByLength : GoodIn wsX11_countWords wsX0_countByLength := goodIn_r _ [115, 116, 117, 118, 119, 21, 120, 26, 121, 122, 123, 124, 93, 125, 126, 127, 128, 129, 23, 49, 130, 131, 132, 133, 150, 151, 152, 153, 154, 155, 156, 157, 158, 159, 160, 161, 162] (by decide +kernel) (by decide +kernel)
set_option maxRecDepth 20000 in
theorem gX11_countWords_X0_countByLength : GoodIn wsX11_countWords (wsV RX11 270 RX0 yX0_countByLength wsX0_countByLength) := goodIn_app (goodIn_of _ (by decide +kernel)) ggX11_countWords_X0_countByLength
theorem dX11_countWords_0 : decode cX11_countWords 0 = .ok (.iload_n 1, 1) := by decide +kernel
theorem dX11_countWords_1 : decode cX11_countWords 1 = .ok (.invokestatic 229, 3) := by decide +kernel
theorem dX11_countWords_4 : decode cX11_countWords 4 = .ok (.ifCond .eq 13, 3) := by decide +kernel
theorem dX11_countWords_7 : decode cX11_countWords 7 = .ok (.iload_n 2, 1) := by decide +kernel
theorem dX11_countWords_8 : decode cX11_countWords 8 = .ok (.ifCond .lt 9, 3) := by decide +kernel
theorem dX11_countWords_11 : decode cX11_countWords 11 = .ok (.iload_n 2, 1) := by decide +kernel
theorem dX11_countWords_12 : decode cX11_countWords 12 = .ok (.bipush 20, 2) := by decide +kernel
theorem dX11_countWords_14 : decode cX11_countWords 14 = .ok (.if_icmp .le 7, 3) := by decide +kernel
theorem dX11_countWords_17 : decode cX11_countWords 17 = .ok (.ldc2_w 264, 3) := by decide +kernel
theorem dX11_countWords_20 : decode cX11_countWords 20 = .ok (.lreturn, 1) := by decide +kernel
theorem dX11_countWords_21 : decode cX11_countWords 21 = .ok (.aload_n 0, 1) := by decide +kernel
theorem dX11_countWords_22 : decode cX11_countWords 22 = .ok (.getfield 10, 3) := by decide +kernel
theorem dX11_countWords_25 : decode cX11_countWords 25 = .ok (.getfield 232, 3) := by decide +kernel
theorem dX11_countWords_28 : decode cX11_countWords 28 = .ok (.iload_n 1, 1) := by decide +kernel
theorem dX11_countWords_29 : decode cX11_countWords 29 = .ok (.aaload, 1) := by decide +kernel
theorem dX11_countWords_30 : decode cX11_countWords 30 = .ok (.astore_n 3, 1) := by decide +kernel
theorem dX11_countWords_31 : decode cX11_countWords 31 = .ok (.aload_n 3, 1) := by decide +kernel
theorem dX11_countWords_32 : decode cX11_countWords 32 = .ok (.ifnonnull 7, 3) := by decide +kernel
theorem dX11_countWords_35 : decode cX11_countWords 35 = .ok (.ldc2_w 266, 3) := by decide +kernel
theorem dX11_countWords_38 : decode cX11_countWords 38 = .ok (.lreturn, 1) := by decide +kernel
theorem dX11_countWords_39 : decode cX11_countWords 39 = .ok (.aload_n 0, 1) := by decide +kernel
theorem dX11_countWords_40 : decode cX11_countWords 40 = .ok (.aload_n 3, 1) := by decide +kernel
theorem dX11_countWords_41 : decode cX11_countWords 41 = .ok (.invokevirtual 260, 3) := by decide +kernel
theorem dX11_countWords_44 : decode cX11_countWords 44 = .ok (.ifCond .ne 7, 3) := by decide +kernel
theorem dX11_countWords_47 : decode cX11_countWords 47 = .ok (.ldc2_w 268, 3) := by decide +kernel
theorem dX11_countWords_50 : decode cX11_countWords 50 = .ok (.lreturn, 1) := by decide +kernel
theorem dX11_countWords_51 : decode cX11_countWords 51 = .ok (.aload_n 0, 1) := by decide +kernel
theorem dX11_countWords_52 : decode cX11_countWords 52 = .ok (.getfield 54, 3) := by decide +kernel
theorem dX11_countWords_55 : decode cX11_countWords 55 = .ok (.aload_n 0, 1) := by decide +kernel
theorem dX11_countWords_56 : decode cX11_countWords 56 = .ok (.getfield 69, 3) := by decide +kernel
theorem dX11_countWords_59 : decode cX11_countWords 59 = .ok (.iload_n 2, 1) := by decide +kernel
theorem dX11_countWords_60 : decode cX11_countWords 60 = .ok (.invokevirtual 270, 3) := by decide +kernel
theorem dX11_countWords_63 : decode cX11_countWords 63 = .ok (.aload_n 0, 1) := by decide +kernel
theorem dX11_countWords_64 : decode cX11_countWords 64 = .ok (.getfield 69, 3) := by decide +kernel
theorem dX11_countWords_67 : decode cX11_countWords 67 = .ok (.iload_n 2, 1) := by decide +kernel
theorem dX11_countWords_68 : decode cX11_countWords 68 = .ok (.laload, 1) := by decide +kernel
theorem dX11_countWords_69 : decode cX11_countWords 69 = .ok (.lreturn, 1) := by decide +kernel
set_option maxRecDepth 20000 in
theorem ggX11_firstWord_X11_isLanguage : GoodIn wsX11_firstWord wsX11_isLanguage := goodIn_r _ [7] (by decide +kernel) (by decide +kernel)
set_option maxRecDepth 20000 in
theorem gX11_firstWord_X11_isLanguage : GoodIn wsX11_firstWord (va_wsS RX11 229 yX11_isLanguage wsX11_isLanguage) := goodIn_app (goodIn_of _ (by decide +kernel)) ggX11_firstWord_X11_isLanguage
set_option maxRecDepth 20000 in
theorem ggX11_firstWord_X11_isWord : GoodIn wsX11_firstWord wsX11_isWord := goodIn_r _ [10] (by decide +kernel) (by decide +kernel)
set_option maxRecDepth 20000 in
theorem gX11_firstWord_X11_isWord : GoodIn wsX11_firstWord (va_wsS RX11 81 yX11_isWord wsX11_isWord) := goodIn_app (goodIn_of _ (by decide +kernel)) ggX11_firstWord_X11_isWord
set_option maxRecDepth 20000 in
theorem ggX11_firstWord_X11_exploreLanguage : GoodIn wsX11_firstWord wsX11_exploreLanguage := goodIn_r _ [14, 15, 1, 16, 17, 18, 19, 20, 21, 22, 23, 24, 25, 26, 27, 28, 29, 30, 31, 32, 33, 34, 35, 36, 37, 38, 39, 40, 41, 42, 43, 44, 45, 46, 47, 48, 49, 50, 51, 52, 53, 54, 55, 56, 57, 58, 59, 60, 61, 62, 63, 64, 65, 66, 67, 68, 69, 70, 71, 72, 73, 74, 75, 76, 77, 78, 79, 80, 81, 82, 83, 84, 85, 86, 87, 88, 89, 90, 91, 92, 93, 94, 95, 96, 97, 98, 99, 100, 101, 102, 103, 104, 105, 106, 107, 108, 109, 110, 111, 128, 129, 130, 131, 132, 133, 134, 135, 136, 137, 138, 139, 140, 141, 142, 143, 144, 145, 146, 147, 148, 149, 150, 151, 152, 153, 154, 155, 156, 157, 158, 159, 160, 161, 162, 163, 164, 165, 166, 167, 168] (by decide +kernel) (by decide +kernel)
set_option maxRecDepth 20000 in
theorem gX11_firstWord_X11_exploreLanguage : GoodIn wsX11_firstWord (wsV RX11 260 RX11 yX11_exploreLanguage wsX11_exploreLanguage) := goodIn_app (goodIn_of _ (by decide +kernel)) ggX11_firstWord_X11_exploreLanguage
set_option maxRecDepth 20000 in
theorem ggX11_firstWord_X11_takeFirst : GoodIn wsX11_firstWord wsX11_takeFirst := goodIn_r _ [115, 15, 116, 117, 118, 119, 21, 120, 26, 93, 121, 122, 123, 124, 46, 125, 86, 87, 88, 126, 127, 51, 50, 128, 129, 130, 131, 132, 133, 134, 135, 136, 137, 138, 139, 144, 145, 146, 147, 148, 149, 150, 151, 152, 153, 154, 155, 156, 169, 170, 171] (by decide +kernel) (by decide +kernel)
set_option maxRecDepth 20000 in
theorem gX11_firstWord_X11_takeFirst : GoodIn wsX11_firstWord (wsV RX11 274 RX11 yX11_takeFirst wsX11_takeFirst) := goodIn_app (goodIn_of _ (by decide +kernel)) ggX11_firstWord_X11_takeFirst
theorem dX11_firstWord_0 : decode cX11_firstWord 0 = .ok (.iload_n 1, 1) := by decide +kernel
theorem dX11_firstWord_1 : decode cX11_firstWord 1 = .ok (.invokestatic 229, 3) := by decide +kernel
theorem dX11_firstWord_4 : decode cX11_firstWord 4 = .ok (.ifCond .eq 10, 3) := by decide +kernel
theorem dX11_firstWord_7 : decode cX11_firstWord 7 = .ok (.iload_n 2, 1) := by decide +kernel
theorem dX11_firstWord_8 : decode cX11_firstWord 8 = .ok (.invokestatic 81, 3) := by decide +kernel
theorem dX11_firstWord_11 : decode cX11_firstWord 11 = .ok (.ifCond .ne 5, 3) := by decide +kernel
theorem dX11_firstWord_14 : decode cX11_firstWord 14 = .ok (.iconst (-1), 1) := by decide +kernel
theorem dX11_firstWord_15 : decode cX11_firstWord 15 = .ok (.ireturn, 1) := by decide +kernel
theorem dX11_firstWord_16 : decode cX11_firstWord 16 = .ok (.aload_n 0, 1) := by decide +kernel
theorem dX11_firstWord_17 : decode cX11_firstWord 17 = .ok (.getfield 10, 3) := by decide +kernel
theorem dX11_firstWord_20 : decode cX11_firstWord 20 = .ok (.getfield 232, 3) := by decide +kernel
theorem dX11_firstWord_23 : decode cX11_firstWord 23 = .ok (.iload_n 1, 1) := by decide +kernel
theorem dX11_firstWord_24 : decode cX11_firstWord 24 = .ok (.aaload, 1) := by decide +kernel
theorem dX11_firstWord_25 : decode cX11_firstWord 25 = .ok (.astore_n 3, 1) := by decide +kernel
theorem dX11_firstWord_26 : decode cX11_firstWord 26 = .ok (.aload_n 3, 1) := by decide +kernel
theorem dX11_firstWord_27 : decode cX11_firstWord 27 = .ok (.ifnonnull 6, 3) := by decide +kernel
theorem dX11_firstWord_30 : decode cX11_firstWord 30 = .ok (.bipush (-5), 2) := by decide +kernel
theorem dX11_firstWord_32 : decode cX11_firstWord 32 = .ok (.ireturn, 1) := by decide +kernel
theorem dX11_firstWord_33 : decode cX11_firstWord 33 = .ok (.aload_n 0, 1) := by decide +kernel
theorem dX11_firstWord_34 : decode cX11_firstWord 34 = .ok (.aload_n 3, 1) := by decide +kernel
theorem dX11_firstWord_35 : decode cX11_firstWord 35 = .ok (.invokevirtual 260, 3) := by decide +kernel
theorem dX11_firstWord_38 : decode cX11_firstWord 38 = .ok (.ifCond .ne 6, 3) := by decide +kernel
theorem dX11_firstWord_41 : decode cX11_firstWord 41 = .ok (.bipush (-4), 2) := by decide +kernel
theorem dX11_firstWord_43 : decode cX11_firstWord 43 = .ok (.ireturn, 1) := by decide +kernel
theorem dX11_firstWord_44 : decode cX11_firstWord 44 = .ok (.aload_n 0, 1) := by decide +kernel
theorem dX11_firstWord_45 : decode cX11_firstWord 45 = .ok (.aload_n 0, 1) := by decide +kernel
theorem dX11_firstWord_46 : decode cX11_firstWord 46 = .ok (.getfield 10, 3) := by decide +kernel
theorem dX11_firstWord_49 : decode cX11_firstWord 49 = .ok (.getfield 85, 3) := by decide +kernel
theorem dX11_firstWord_52 : decode cX11_firstWord 52 = .ok (.iload_n 2, 1) := by decide +kernel
theorem dX11_firstWord_53 : decode cX11_firstWord 53 = .ok (.aaload, 1) := by decide +kernel
theorem dX11_firstWord_54 : decode cX11_firstWord 54 = .ok (.invokevirtual 274, 3) := by decide +kernel
theorem dX11_firstWord_57 : decode cX11_firstWord 57 = .ok (.ireturn, 1) := by decide +kernel
set_option maxRecDepth 20000 in
theorem ggX11_firstDifference_X11_isLanguage : GoodIn wsX11_firstDifference wsX11_isLanguage := goodIn_r _ [7] (by decide +kernel) (by decide +kernel)
set_option maxRecDepth 20000 in
theorem gX11_firstDifference_X11_isLanguage : GoodIn wsX11_firstDifference (va_wsS RX11 229 yX11_isLanguage wsX11_isLanguage) := goodIn_app (goodIn_of _ (by decide +kernel)) ggX11_firstDifference_X11_isLanguage
set_option maxRecDepth 20000 in
theorem ggX11_firstDifference_X11_isWord : GoodIn wsX11_firstDifference wsX11_isWord := goodIn_r _ [10] (by decide +kernel) (by decide +kernel)
set_option maxRecDepth 20000 in
theorem gX11_firstDifference_X11_isWord : GoodIn wsX11_firstDifference (va_wsS RX11 81 yX11_isWord wsX11_isWord) := goodIn_app (goodIn_of _ (by decide +kernel)) ggX11_firstDifference_X11_isWord
set_option maxRecDepth 20000 in
theorem ggX11_firstDifference_X11_exploreDifference : GoodIn wsX11_firstDifference wsX11_exploreDifference := goodIn_r _ [14, 15, 1, 16, 17, 18, 19, 20, 21, 22, 23, 24, 25, 26, 27, 28, 29, 30, 31, 32, 33, 34, 35, 36, 37, 38, 39, 40, 41, 42, 43, 44, 45, 46, 47, 48, 49, 50, 51, 52, 53, 54, 55, 56, 57, 58, 59, 60, 61, 62, 63, 64, 65, 66, 67, 68, 69, 70, 71, 72, 73, 74, 75, 76, 77, 78, 79, 80, 81, 82, 83, 84, 85, 86, 87, 88, 89, 90, 91, 92, 93, 94, 95, 96, 97, 98, 99, 100, 101, 102, 103, 104, 105, 106, 107, 108, 109, 110, 111, 112, 129, 130, 131, 132, 133, 134, 135, 136, 137, 138, 139, 140, 141, 142, 143, 144, 145, 146, 147, 148, 149, 150, 151, 152, 153, 154, 155, 156, 157, 158, 159, 160, 161, 162, 163, 164, 165, 166, 167, 168, 169] (by decide +kernel) (by decide +kernel)
set_option maxRecDepth 20000 in
theorem gX11_firstDifference_X11_exploreDifference : GoodIn wsX11_firstDifference (wsV RX11 277 RX11 yX11_exploreDifference wsX11_exploreDifference) := goodIn_app (goodIn_of _ (by decide +kernel)) ggX11_firstDifference_X11_exploreDifference
set_option maxRecDepth 20000 in
theorem ggX11_firstDifference_X11_takeFirst : GoodIn wsX11_firstDifference wsX11_takeFirst := goodIn_r _ [116, 15, 117, 118, 119, 120, 21, 121, 26, 94, 122, 123, 124, 125, 46, 126, 86, 87, 88, 127, 128, 51, 50, 129, 130, 131, 132, 133, 134, 135, 136, 137, 138, 139, 140, 145, 146, 147, 148, 149, 150, 151, 152, 153, 154, 155, 156, 157, 170, 171, 172] (by decide +kernel) (by decide +kernel)
set_option maxRecDepth 20000 in
theorem gX11_firstDifference_X11_takeFirst : GoodIn wsX11_firstDifference (wsV RX11 274 RX11 yX11_takeFirst wsX11_takeFirst) := goodIn_app (goodIn_of _ (by decide +kernel)) ggX11_firstDifference_X11_takeFirst
theorem dX11_firstDifference_0 : decode cX11_firstDifference 0 = .ok (.iload_n 1, 1) := by decide +kernel
theorem dX11_firstDifference_1 : decode cX11_firstDifference 1 = .ok (.invokestatic 229, 3) := by decide +kernel
theorem dX11_firstDifference_4 : decode cX11_firstDifference 4 = .ok (.ifCond .eq 17, 3) := by decide +kernel
theorem dX11_firstDifference_7 : decode cX11_firstDifference 7 = .ok (.iload_n 2, 1) := by decide +kernel
theorem dX11_firstDifference_8 : decode cX11_firstDifference 8 = .ok (.invokestatic 229, 3) := by decide +kernel
theorem dX11_firstDifference_11 : decode cX11_firstDifference 11 = .ok (.ifCond .eq 10, 3) := by decide +kernel
theorem dX11_firstDifference_14 : decode cX11_firstDifference 14 = .ok (.iload_n 3, 1) := by decide +kernel
theorem dX11_firstDifference_15 : decode cX11_firstDifference 15 = .ok (.invokestatic 81, 3) := by decide +kernel
theorem dX11_firstDifference_18 : decode cX11_firstDifference 18 = .ok (.ifCond .ne 5, 3) := by decide +kernel
theorem dX11_firstDifference_21 : decode cX11_firstDifference 21 = .ok (.iconst (-1), 1) := by decide +kernel
theorem dX11_firstDifference_22 : decode cX11_firstDifference 22 = .ok (.ireturn, 1) := by decide +kernel
theorem dX11_firstDifference_23 : decode cX11_firstDifference 23 = .ok (.aload_n 0, 1) := by decide +kernel
theorem dX11_firstDifference_24 : decode cX11_firstDifference 24 = .ok (.getfield 10, 3) := by decide +kernel
theorem dX11_firstDifference_27 : decode cX11_firstDifference 27 = .ok (.getfield 232, 3) := by decide +kernel
theorem dX11_firstDifference_30 : decode cX11_firstDifference 30 = .ok (.iload_n 1, 1) := by decide +kernel
theorem dX11_firstDifference_31 : decode cX11_firstDifference 31 = .ok (.aaload, 1) := by decide +kernel
theorem dX11_firstDifference_32 : decode cX11_firstDifference 32 = .ok (.astore 4, 2) := by decide +kernel
theorem dX11_firstDifference_34 : decode cX11_firstDifference 34 = .ok (.aload_n 0, 1) := by decide +kernel
theorem dX11_firstDifference_35 : decode cX11_firstDifference 35 = .ok (.getfield 10, 3) := by decide +kernel
theorem dX11_firstDifference_38 : decode cX11_firstDifference 38 = .ok (.getfield 232, 3) := by decide +kernel
theorem dX11_firstDifference_41 : decode cX11_firstDifference 41 = .ok (.iload_n 2, 1) := by decide +kernel
theorem dX11_firstDifference_42 : decode cX11_firstDifference 42 = .ok (.aaload, 1) := by decide +kernel
theorem dX11_firstDifference_43 : decode cX11_firstDifference 43 = .ok (.astore 5, 2) := by decide +kernel
theorem dX11_firstDifference_45 : decode cX11_firstDifference 45 = .ok (.aload 4, 2) := by decide +kernel
theorem dX11_firstDifference_47 : decode cX11_firstDifference 47 = .ok (.ifnull 8, 3) := by decide +kernel
theorem dX11_firstDifference_50 : decode cX11_firstDifference 50 = .ok (.aload 5, 2) := by decide +kernel
theorem dX11_firstDifference_52 : decode cX11_firstDifference 52 = .ok (.ifnonnull 6, 3) := by decide +kernel
theorem dX11_firstDifference_55 : decode cX11_firstDifference 55 = .ok (.bipush (-5), 2) := by decide +kernel
theorem dX11_firstDifference_57 : decode cX11_firstDifference 57 = .ok (.ireturn, 1) := by decide +kernel
theorem dX11_firstDifference_58 : decode cX11_firstDifference 58 = .ok (.aload_n 0, 1) := by decide +kernel
theorem dX11_firstDifference_59 : decode cX11_firstDifference 59 = .ok (.aload 4, 2) := by decide +kernel
theorem dX11_firstDifference_61 : decode cX11_firstDifference 61 = .ok (.aload 5, 2) := by decide +kernel
theorem dX11_firstDifference_63 : decode cX11_firstDifference 63 = .ok (.invokevirtual 277, 3) := by decide +kernel
theorem dX11_firstDifference_66 : decode cX11_firstDifference 66 = .ok (.ifCond .ne 6, 3) := by decide +kernel
theorem dX11_firstDifference_69 : decode cX11_firstDifference 69 = .ok (.bipush (-4), 2) := by decide +kernel
theorem dX11_firstDifference_71 : decode cX11_firstDifference 71 = .ok (.ireturn, 1) := by decide +kernel
theorem dX11_firstDifference_72 : decode cX11_firstDifference 72 = .ok (.aload_n 0, 1) := by decide +kernel
theorem dX11_firstDifference_73 : decode cX11_firstDifference 73 = .ok (.aload_n 0, 1) := by decide +kernel
theorem dX11_firstDifference_74 : decode cX11_firstDifference 74 = .ok (.getfield 10, 3) := by decide +kernel
theorem dX11_firstDifference_77 : decode cX11_firstDifference 77 = .ok (.getfield 85, 3) := by decide +kernel
theorem dX11_firstDifference_80 : decode cX11_firstDifference 80 = .ok (.iload_n 3, 1) := by decide +kernel
theorem dX11_firstDifference_81 : decode cX11_firstDifference 81 = .ok (.aaload, 1) := by decide +kernel
theorem dX11_firstDifference_82 : decode cX11_firstDifference 82 = .ok (.invokevirtual 274, 3) := by decide +kernel
theorem dX11_firstDifference_85 : decode cX11_firstDifference 85 = .ok (.ireturn, 1) := by decide +kernel
set_option maxRecDepth 20000 in
theorem ggX11_newRow_X11_isRow : GoodIn wsX11_newRow wsX11_isRow := goodIn_r _ [5] (by decide +kernel) (by decide +kernel)
set_option maxRecDepth 20000 in
theorem gX11_newRow_X11_isRow : GoodIn wsX11_newRow (va_wsS RX11 281 yX11_isRow wsX11_isRow) := goodIn_app (goodIn_of _ (by decide +kernel)) ggX11_newRow_X11_isRow
set_option maxRecDepth 20000 in
theorem ggX11_newRow_X6_restart : GoodIn wsX11_newRow wsX6_restart := goodIn_r _ [10, 11, 12, 13, 14, 15, 16, 17, 30, 31, 32] (by decide +kernel) (by decide +kernel)
set_option maxRecDepth 20000 in
theorem gX11_newRow_X6_restart : GoodIn wsX11_newRow (wsV RX11 284 RX6 yX6_restart wsX6_restart) := goodIn_app (goodIn_of _ (by decide +kernel)) ggX11_newRow_X6_restart
theorem dX11_newRow_0 : decode cX11_newRow 0 = .ok (.iload_n 1, 1) := by decide +kernel
theorem dX11_newRow_1 : decode cX11_newRow 1 = .ok (.invokestatic 281, 3) := by decide +kernel
theorem dX11_newRow_4 : decode cX11_newRow 4 = .ok (.ifCond .eq 13, 3) := by decide +kernel
theorem dX11_newRow_7 : decode cX11_newRow 7 = .ok (.iload_n 2, 1) := by decide +kernel
theorem dX11_newRow_8 : decode cX11_newRow 8 = .ok (.iconst (-1), 1) := by decide +kernel
theorem dX11_newRow_9 : decode cX11_newRow 9 = .ok (.if_icmp .lt 8, 3) := by decide +kernel
theorem dX11_newRow_12 : decode cX11_newRow 12 = .ok (.iload_n 2, 1) := by decide +kernel
theorem dX11_newRow_13 : decode cX11_newRow 13 = .ok (.iconst 1, 1) := by decide +kernel
theorem dX11_newRow_14 : decode cX11_newRow 14 = .ok (.if_icmp .le 5, 3) := by decide +kernel
theorem dX11_newRow_17 : decode cX11_newRow 17 = .ok (.iconst (-1), 1) := by decide +kernel
theorem dX11_newRow_18 : decode cX11_newRow 18 = .ok (.ireturn, 1) := by decide +kernel
theorem dX11_newRow_19 : decode cX11_newRow 19 = .ok (.iload_n 2, 1) := by decide +kernel
theorem dX11_newRow_20 : decode cX11_newRow 20 = .ok (.iconst (-1), 1) := by decide +kernel
theorem dX11_newRow_21 : decode cX11_newRow 21 = .ok (.if_icmp .ne 16, 3) := by decide +kernel
theorem dX11_newRow_24 : decode cX11_newRow 24 = .ok (.aload_n 0, 1) := by decide +kernel
theorem dX11_newRow_25 : decode cX11_newRow 25 = .ok (.getfield 33, 3) := by decide +kernel
theorem dX11_newRow_28 : decode cX11_newRow 28 = .ok (.iload_n 1, 1) := by decide +kernel
theorem dX11_newRow_29 : decode cX11_newRow 29 = .ok (.aaload, 1) := by decide +kernel
theorem dX11_newRow_30 : decode cX11_newRow 30 = .ok (.iconst (-1), 1) := by decide +kernel
theorem dX11_newRow_31 : decode cX11_newRow 31 = .ok (.iconst 0, 1) := by decide +kernel
theorem dX11_newRow_32 : decode cX11_newRow 32 = .ok (.invokevirtual 284, 3) := by decide +kernel
theorem dX11_newRow_35 : decode cX11_newRow 35 = .ok (.iconst 1, 1) := by decide +kernel
theorem dX11_newRow_36 : decode cX11_newRow 36 = .ok (.ireturn, 1) := by decide +kernel
theorem dX11_newRow_37 : decode cX11_newRow 37 = .ok (.iload_n 3, 1) := by decide +kernel
theorem dX11_newRow_38 : decode cX11_newRow 38 = .ok (.bipush 21, 2) := by decide +kernel
theorem dX11_newRow_40 : decode cX11_newRow 40 = .ok (.if_icmp .le 5, 3) := by decide +kernel
theorem dX11_newRow_43 : decode cX11_newRow 43 = .ok (.iconst (-1), 1) := by decide +kernel
theorem dX11_newRow_44 : decode cX11_newRow 44 = .ok (.ireturn, 1) := by decide +kernel
theorem dX11_newRow_45 : decode cX11_newRow 45 = .ok (.iload_n 3, 1) := by decide +kernel
theorem dX11_newRow_46 : decode cX11_newRow 46 = .ok (.ifCond .ge 6, 3) := by decide +kernel
theorem dX11_newRow_49 : decode cX11_newRow 49 = .ok (.bipush (-14), 2) := by decide +kernel
theorem dX11_newRow_51 : decode cX11_newRow 51 = .ok (.ireturn, 1) := by decide +kernel
theorem dX11_newRow_52 : decode cX11_newRow 52 = .ok (.aload_n 0, 1) := by decide +kernel
theorem dX11_newRow_53 : decode cX11_newRow 53 = .ok (.getfield 33, 3) := by decide +kernel
theorem dX11_newRow_56 : decode cX11_newRow 56 = .ok (.iload_n 1, 1) := by decide +kernel
theorem dX11_newRow_57 : decode cX11_newRow 57 = .ok (.aaload, 1) := by decide +kernel
theorem dX11_newRow_58 : decode cX11_newRow 58 = .ok (.iload_n 2, 1) := by decide +kernel
theorem dX11_newRow_59 : decode cX11_newRow 59 = .ok (.iload_n 3, 1) := by decide +kernel
theorem dX11_newRow_60 : decode cX11_newRow 60 = .ok (.invokevirtual 284, 3) := by decide +kernel
theorem dX11_newRow_63 : decode cX11_newRow 63 = .ok (.iconst 1, 1) := by decide +kernel
theorem dX11_newRow_64 : decode cX11_newRow 64 = .ok (.ireturn, 1) := by decide +kernel
set_option maxRecDepth 20000 in
theorem ggX11_setElement_X11_isRow : GoodIn wsX11_setElement wsX11_isRow := goodIn_r _ [7] (by decide +kernel) (by decide +kernel)
set_option maxRecDepth 20000 in
theorem gX11_setElement_X11_isRow : GoodIn wsX11_setElement (va_wsS RX11 281 yX11_isRow wsX11_isRow) := goodIn_app (goodIn_of _ (by decide +kernel)) ggX11_setElement_X11_isRow
set_option maxRecDepth 20000 in
theorem ggX11_setElement_X6_put : GoodIn wsX11_setElement wsX6_put := goodIn_r _ [12, 13, 14, 27, 28, 29] (by decide +kernel) (by decide +kernel)
set_option maxRecDepth 20000 in
theorem gX11_setElement_X6_put : GoodIn wsX11_setElement (wsV RX11 291 RX6 yX6_put wsX6_put) := goodIn_app (goodIn_of _ (by decide +kernel)) ggX11_setElement_X6_put
theorem dX11_setElement_0 : decode cX11_setElement 0 = .ok (.iload_n 1, 1) := by decide +kernel
theorem dX11_setElement_1 : decode cX11_setElement 1 = .ok (.invokestatic 281, 3) := by decide +kernel
theorem dX11_setElement_4 : decode cX11_setElement 4 = .ok (.ifCond .ne 5, 3) := by decide +kernel
theorem dX11_setElement_7 : decode cX11_setElement 7 = .ok (.iconst (-1), 1) := by decide +kernel
theorem dX11_setElement_8 : decode cX11_setElement 8 = .ok (.ireturn, 1) := by decide +kernel
theorem dX11_setElement_9 : decode cX11_setElement 9 = .ok (.aload_n 0, 1) := by decide +kernel
theorem dX11_setElement_10 : decode cX11_setElement 10 = .ok (.getfield 33, 3) := by decide +kernel
theorem dX11_setElement_13 : decode cX11_setElement 13 = .ok (.iload_n 1, 1) := by decide +kernel
theorem dX11_setElement_14 : decode cX11_setElement 14 = .ok (.aaload, 1) := by decide +kernel
theorem dX11_setElement_15 : decode cX11_setElement 15 = .ok (.astore 4, 2) := by decide +kernel
theorem dX11_setElement_17 : decode cX11_setElement 17 = .ok (.aload 4, 2) := by decide +kernel
theorem dX11_setElement_19 : decode cX11_setElement 19 = .ok (.getfield 287, 3) := by decide +kernel
theorem dX11_setElement_22 : decode cX11_setElement 22 = .ok (.iconst (-1), 1) := by decide +kernel
theorem dX11_setElement_23 : decode cX11_setElement 23 = .ok (.if_icmp .ne 6, 3) := by decide +kernel
theorem dX11_setElement_26 : decode cX11_setElement 26 = .ok (.bipush (-11), 2) := by decide +kernel
theorem dX11_setElement_28 : decode cX11_setElement 28 = .ok (.ireturn, 1) := by decide +kernel
theorem dX11_setElement_29 : decode cX11_setElement 29 = .ok (.iload_n 2, 1) := by decide +kernel
theorem dX11_setElement_30 : decode cX11_setElement 30 = .ok (.ifCond .lt 12, 3) := by decide +kernel
theorem dX11_setElement_33 : decode cX11_setElement 33 = .ok (.iload_n 2, 1) := by decide +kernel
theorem dX11_setElement_34 : decode cX11_setElement 34 = .ok (.aload 4, 2) := by decide +kernel
theorem dX11_setElement_36 : decode cX11_setElement 36 = .ok (.getfield 290, 3) := by decide +kernel
theorem dX11_setElement_39 : decode cX11_setElement 39 = .ok (.if_icmp .lt 6, 3) := by decide +kernel
theorem dX11_setElement_42 : decode cX11_setElement 42 = .ok (.bipush (-13), 2) := by decide +kernel
theorem dX11_setElement_44 : decode cX11_setElement 44 = .ok (.ireturn, 1) := by decide +kernel
theorem dX11_setElement_45 : decode cX11_setElement 45 = .ok (.aload 4, 2) := by decide +kernel
theorem dX11_setElement_47 : decode cX11_setElement 47 = .ok (.iload_n 2, 1) := by decide +kernel
theorem dX11_setElement_48 : decode cX11_setElement 48 = .ok (.iload_n 3, 1) := by decide +kernel
theorem dX11_setElement_49 : decode cX11_setElement 49 = .ok (.invokevirtual 291, 3) := by decide +kernel
theorem dX11_setElement_52 : decode cX11_setElement 52 = .ok (.iconst 1, 1) := by decide +kernel
theorem dX11_setElement_53 : decode cX11_setElement 53 = .ok (.ireturn, 1) := by decide +kernel
set_option maxRecDepth 20000 in
theorem ggX11_element_X11_isRow : GoodIn wsX11_element wsX11_isRow := goodIn_r _ [8] (by decide +kernel) (by decide +kernel)
set_option maxRecDepth 20000 in
theorem gX11_element_X11_isRow : GoodIn wsX11_element (va_wsS RX11 281 yX11_isRow wsX11_isRow) := goodIn_app (goodIn_of _ (by decide +kernel)) ggX11_element_X11_isRow
theorem dX11_element_0 : decode cX11_element 0 = .ok (.iload_n 1, 1) := by decide +kernel
theorem dX11_element_1 : decode cX11_element 1 = .ok (.invokestatic 281, 3) := by decide +kernel
theorem dX11_element_4 : decode cX11_element 4 = .ok (.ifCond .eq 20, 3) := by decide +kernel
theorem dX11_element_7 : decode cX11_element 7 = .ok (.iload_n 2, 1) := by decide +kernel
theorem dX11_element_8 : decode cX11_element 8 = .ok (.ifCond .lt 16, 3) := by decide +kernel
theorem dX11_element_11 : decode cX11_element 11 = .ok (.iload_n 2, 1) := by decide +kernel
theorem dX11_element_12 : decode cX11_element 12 = .ok (.aload_n 0, 1) := by decide +kernel
theorem dX11_element_13 : decode cX11_element 13 = .ok (.getfield 33, 3) := by decide +kernel
theorem dX11_element_16 : decode cX11_element 16 = .ok (.iload_n 1, 1) := by decide +kernel
theorem dX11_element_17 : decode cX11_element 17 = .ok (.aaload, 1) := by decide +kernel
theorem dX11_element_18 : decode cX11_element 18 = .ok (.getfield 290, 3) := by decide +kernel
theorem dX11_element_21 : decode cX11_element 21 = .ok (.if_icmp .lt 7, 3) := by decide +kernel
theorem dX11_element_24 : decode cX11_element 24 = .ok (.ldc2_w 294, 3) := by decide +kernel
theorem dX11_element_27 : decode cX11_element 27 = .ok (.lreturn, 1) := by decide +kernel
theorem dX11_element_28 : decode cX11_element 28 = .ok (.aload_n 0, 1) := by decide +kernel
theorem dX11_element_29 : decode cX11_element 29 = .ok (.getfield 33, 3) := by decide +kernel
theorem dX11_element_32 : decode cX11_element 32 = .ok (.iload_n 1, 1) := by decide +kernel
theorem dX11_element_33 : decode cX11_element 33 = .ok (.aaload, 1) := by decide +kernel
theorem dX11_element_34 : decode cX11_element 34 = .ok (.getfield 296, 3) := by decide +kernel
theorem dX11_element_37 : decode cX11_element 37 = .ok (.iload_n 2, 1) := by decide +kernel
theorem dX11_element_38 : decode cX11_element 38 = .ok (.iaload, 1) := by decide +kernel
theorem dX11_element_39 : decode cX11_element 39 = .ok (.i2l, 1) := by decide +kernel
theorem dX11_element_40 : decode cX11_element 40 = .ok (.lreturn, 1) := by decide +kernel
set_option maxRecDepth 20000 in
theorem ggX11_copyElements_X11_isRow : GoodIn wsX11_copyElements wsX11_isRow := goodIn_r _ [11] (by decide +kernel) (by decide +kernel)
set_option maxRecDepth 20000 in
theorem gX11_copyElements_X11_isRow : GoodIn wsX11_copyElements (va_wsS RX11 281 yX11_isRow wsX11_isRow) := goodIn_app (goodIn_of _ (by decide +kernel)) ggX11_copyElements_X11_isRow
set_option maxRecDepth 20000 in
theorem ggX11_copyElements_X6_hasRange : GoodIn wsX11_copyElements wsX6_hasRange := goodIn_r _ [16, 17, 30, 31, 32] (by decide +kernel) (by decide +kernel)
set_option maxRecDepth 20000 in
theorem gX11_copyElements_X6_hasRange : GoodIn wsX11_copyElements (wsV RX11 299 RX6 yX6_hasRange wsX6_hasRange) := goodIn_app (goodIn_of _ (by decide +kernel)) ggX11_copyElements_X6_hasRange
theorem dX11_copyElements_0 : decode cX11_copyElements 0 = .ok (.iload_n 1, 1) := by decide +kernel
theorem dX11_copyElements_1 : decode cX11_copyElements 1 = .ok (.invokestatic 281, 3) := by decide +kernel
theorem dX11_copyElements_4 : decode cX11_copyElements 4 = .ok (.ifCond .eq 10, 3) := by decide +kernel
theorem dX11_copyElements_7 : decode cX11_copyElements 7 = .ok (.iload_n 3, 1) := by decide +kernel
theorem dX11_copyElements_8 : decode cX11_copyElements 8 = .ok (.invokestatic 281, 3) := by decide +kernel
theorem dX11_copyElements_11 : decode cX11_copyElements 11 = .ok (.ifCond .ne 5, 3) := by decide +kernel
theorem dX11_copyElements_14 : decode cX11_copyElements 14 = .ok (.iconst (-1), 1) := by decide +kernel
theorem dX11_copyElements_15 : decode cX11_copyElements 15 = .ok (.ireturn, 1) := by decide +kernel
theorem dX11_copyElements_16 : decode cX11_copyElements 16 = .ok (.aload_n 0, 1) := by decide +kernel
theorem dX11_copyElements_17 : decode cX11_copyElements 17 = .ok (.getfield 33, 3) := by decide +kernel
theorem dX11_copyElements_20 : decode cX11_copyElements 20 = .ok (.iload_n 1, 1) := by decide +kernel
theorem dX11_copyElements_21 : decode cX11_copyElements 21 = .ok (.aaload, 1) := by decide +kernel
theorem dX11_copyElements_22 : decode cX11_copyElements 22 = .ok (.astore 6, 2) := by decide +kernel
theorem dX11_copyElements_24 : decode cX11_copyElements 24 = .ok (.aload_n 0, 1) := by decide +kernel
theorem dX11_copyElements_25 : decode cX11_copyElements 25 = .ok (.getfield 33, 3) := by decide +kernel
theorem dX11_copyElements_28 : decode cX11_copyElements 28 = .ok (.iload_n 3, 1) := by decide +kernel
theorem dX11_copyElements_29 : decode cX11_copyElements 29 = .ok (.aaload, 1) := by decide +kernel
theorem dX11_copyElements_30 : decode cX11_copyElements 30 = .ok (.astore 7, 2) := by decide +kernel
theorem dX11_copyElements_32 : decode cX11_copyElements 32 = .ok (.aload 6, 2) := by decide +kernel
theorem dX11_copyElements_34 : decode cX11_copyElements 34 = .ok (.getfield 287, 3) := by decide +kernel
theorem dX11_copyElements_37 : decode cX11_copyElements 37 = .ok (.iconst (-1), 1) := by decide +kernel
theorem dX11_copyElements_38 : decode cX11_copyElements 38 = .ok (.if_icmp .eq 12, 3) := by decide +kernel
theorem dX11_copyElements_41 : decode cX11_copyElements 41 = .ok (.aload 7, 2) := by decide +kernel
theorem dX11_copyElements_43 : decode cX11_copyElements 43 = .ok (.getfield 287, 3) := by decide +kernel
theorem dX11_copyElements_46 : decode cX11_copyElements 46 = .ok (.iconst (-1), 1) := by decide +kernel
theorem dX11_copyElements_47 : decode cX11_copyElements 47 = .ok (.if_icmp .ne 6, 3) := by decide +kernel
theorem dX11_copyElements_50 : decode cX11_copyElements 50 = .ok (.bipush (-11), 2) := by decide +kernel
theorem dX11_copyElements_52 : decode cX11_copyElements 52 = .ok (.ireturn, 1) := by decide +kernel
theorem dX11_copyElements_53 : decode cX11_copyElements 53 = .ok (.aload 6, 2) := by decide +kernel
theorem dX11_copyElements_55 : decode cX11_copyElements 55 = .ok (.getfield 287, 3) := by decide +kernel
theorem dX11_copyElements_58 : decode cX11_copyElements 58 = .ok (.aload 7, 2) := by decide +kernel
theorem dX11_copyElements_60 : decode cX11_copyElements 60 = .ok (.getfield 287, 3) := by decide +kernel
theorem dX11_copyElements_63 : decode cX11_copyElements 63 = .ok (.if_icmp .eq 6, 3) := by decide +kernel
theorem dX11_copyElements_66 : decode cX11_copyElements 66 = .ok (.bipush (-6), 2) := by decide +kernel
theorem dX11_copyElements_68 : decode cX11_copyElements 68 = .ok (.ireturn, 1) := by decide +kernel
theorem dX11_copyElements_69 : decode cX11_copyElements 69 = .ok (.aload 6, 2) := by decide +kernel
theorem dX11_copyElements_71 : decode cX11_copyElements 71 = .ok (.iload_n 2, 1) := by decide +kernel
theorem dX11_copyElements_72 : decode cX11_copyElements 72 = .ok (.iload 5, 2) := by decide +kernel
theorem dX11_copyElements_74 : decode cX11_copyElements 74 = .ok (.invokevirtual 299, 3) := by decide +kernel
theorem dX11_copyElements_77 : decode cX11_copyElements 77 = .ok (.ifCond .eq 15, 3) := by decide +kernel
theorem dX11_copyElements_80 : decode cX11_copyElements 80 = .ok (.aload 7, 2) := by decide +kernel
theorem dX11_copyElements_82 : decode cX11_copyElements 82 = .ok (.iload 4, 2) := by decide +kernel
theorem dX11_copyElements_84 : decode cX11_copyElements 84 = .ok (.iload 5, 2) := by decide +kernel
theorem dX11_copyElements_86 : decode cX11_copyElements 86 = .ok (.invokevirtual 299, 3) := by decide +kernel
theorem dX11_copyElements_89 : decode cX11_copyElements 89 = .ok (.ifCond .ne 6, 3) := by decide +kernel
theorem dX11_copyElements_92 : decode cX11_copyElements 92 = .ok (.bipush (-13), 2) := by decide +kernel
theorem dX11_copyElements_94 : decode cX11_copyElements 94 = .ok (.ireturn, 1) := by decide +kernel
theorem dX11_copyElements_95 : decode cX11_copyElements 95 = .ok (.aload 6, 2) := by decide +kernel
theorem dX11_copyElements_97 : decode cX11_copyElements 97 = .ok (.getfield 296, 3) := by decide +kernel
theorem dX11_copyElements_100 : decode cX11_copyElements 100 = .ok (.iload_n 2, 1) := by decide +kernel
theorem dX11_copyElements_101 : decode cX11_copyElements 101 = .ok (.aload 7, 2) := by decide +kernel
theorem dX11_copyElements_103 : decode cX11_copyElements 103 = .ok (.getfield 296, 3) := by decide +kernel
theorem dX11_copyElements_106 : decode cX11_copyElements 106 = .ok (.iload 4, 2) := by decide +kernel
theorem dX11_copyElements_108 : decode cX11_copyElements 108 = .ok (.iload 5, 2) := by decide +kernel
theorem dX11_copyElements_110 : decode cX11_copyElements 110 = .ok (.invokestatic 303, 3) := by decide +kernel
theorem dX11_copyElements_113 : decode cX11_copyElements 113 = .ok (.iload 5, 2) := by decide +kernel
theorem dX11_copyElements_115 : decode cX11_copyElements 115 = .ok (.ireturn, 1) := by decide +kernel
set_option maxRecDepth 20000 in
theorem ggX11_fillCounts_X11_isRow : GoodIn wsX11_fillCounts wsX11_isRow := goodIn_r _ [11] (by decide +kernel) (by decide +kernel)
set_option maxRecDepth 20000 in
theorem gX11_fillCounts_X11_isRow : GoodIn wsX11_fillCounts (va_wsS RX11 281 yX11_isRow wsX11_isRow) := goodIn_app (goodIn_of _ (by decide +kernel)) ggX11_fillCounts_X11_isRow
set_option maxRecDepth 20000 in
theorem ggX11_fillCounts_X11_isLanguage : GoodIn wsX11_fillCounts wsX11_isLanguage := goodIn_r _ [14] (by decide +kernel) (by decide +kernel)
set_option maxRecDepth 20000 in
theorem gX11_fillCounts_X11_isLanguage : GoodIn wsX11_fillCounts (va_wsS RX11 229 yX11_isLanguage wsX11_isLanguage) := goodIn_app (goodIn_of _ (by decide +kernel)) ggX11_fillCounts_X11_isLanguage
set_option maxRecDepth 20000 in
theorem ggX11_fillCounts_X11_exploreLanguage : GoodIn wsX11_fillCounts wsX11_exploreLanguage := goodIn_r _ [18, 5, 1, 19, 20, 21, 22, 23, 24, 25, 26, 27, 28, 29, 30, 31, 32, 33, 34, 35, 36, 37, 38, 39, 40, 41, 42, 43, 44, 45, 46, 47, 48, 49, 50, 51, 52, 53, 54, 55, 56, 57, 58, 59, 60, 61, 62, 63, 64, 65, 66, 67, 68, 69, 70, 71, 72, 73, 74, 75, 76, 77, 78, 79, 80, 81, 82, 83, 84, 85, 86, 87, 88, 89, 90, 91, 92, 93, 94, 95, 96, 97, 98, 99, 100, 101, 102, 103, 104, 105, 106, 107, 108, 109, 110, 111, 112, 113, 114, 144, 145, 146, 147, 148, 149, 150, 151, 152, 153, 154, 155, 156, 157, 158, 159, 163, 164, 165, 166, 167, 168, 169, 170, 171, 172, 173, 174, 175, 176, 177, 178, 179, 180, 181, 182, 183, 184, 185, 186, 187] (by decide +kernel) (by decide +kernel)
set_option maxRecDepth 20000 in
theorem gX11_fillCounts_X11_exploreLanguage : GoodIn wsX11_fillCounts (wsV RX11 260 RX11 yX11_exploreLanguage wsX11_exploreLanguage) := goodIn_app (goodIn_of _ (by decide +kernel)) ggX11_fillCounts_X11_exploreLanguage
set_option maxRecDepth 20000 in
theorem ggX11_fillCounts_X0_countByLength : GoodIn wsX11_fillCounts wsX0_countByLength := goodIn_r _ [118, 119, 120, 121, 122, 24, 123, 29, 124, 125, 126, 127, 96, 128, 129, 130, 131, 132, 26, 52, 133, 134, 135, 136, 163, 164, 165, 166, 167, 168, 169, 170, 171, 172, 173, 174, 175] (by decide +kernel) (by decide +kernel)
set_option maxRecDepth 20000 in
theorem gX11_fillCounts_X0_countByLength : GoodIn wsX11_fillCounts (wsV RX11 270 RX0 yX0_countByLength wsX0_countByLength) := goodIn_app (goodIn_of _ (by decide +kernel)) ggX11_fillCounts_X0_countByLength
set_option maxRecDepth 20000 in
theorem ggX11_fillCounts_X6_put : GoodIn wsX11_fillCounts wsX6_put := goodIn_r _ [141, 142, 143, 160, 161, 162] (by decide +kernel) (by decide +kernel)
set_option maxRecDepth 20000 in
theorem gX11_fillCounts_X6_put : GoodIn wsX11_fillCounts (wsV RX11 291 RX6 yX6_put wsX6_put) := goodIn_app (goodIn_of _ (by decide +kernel)) ggX11_fillCounts_X6_put
theorem dX11_fillCounts_0 : decode cX11_fillCounts 0 = .ok (.iload_n 1, 1) := by decide +kernel
theorem dX11_fillCounts_1 : decode cX11_fillCounts 1 = .ok (.invokestatic 281, 3) := by decide +kernel
theorem dX11_fillCounts_4 : decode cX11_fillCounts 4 = .ok (.ifCond .eq 10, 3) := by decide +kernel
theorem dX11_fillCounts_7 : decode cX11_fillCounts 7 = .ok (.iload_n 2, 1) := by decide +kernel
theorem dX11_fillCounts_8 : decode cX11_fillCounts 8 = .ok (.invokestatic 229, 3) := by decide +kernel
theorem dX11_fillCounts_11 : decode cX11_fillCounts 11 = .ok (.ifCond .ne 5, 3) := by decide +kernel
theorem dX11_fillCounts_14 : decode cX11_fillCounts 14 = .ok (.iconst (-1), 1) := by decide +kernel
theorem dX11_fillCounts_15 : decode cX11_fillCounts 15 = .ok (.ireturn, 1) := by decide +kernel
theorem dX11_fillCounts_16 : decode cX11_fillCounts 16 = .ok (.aload_n 0, 1) := by decide +kernel
theorem dX11_fillCounts_17 : decode cX11_fillCounts 17 = .ok (.getfield 10, 3) := by decide +kernel
theorem dX11_fillCounts_20 : decode cX11_fillCounts 20 = .ok (.getfield 232, 3) := by decide +kernel
theorem dX11_fillCounts_23 : decode cX11_fillCounts 23 = .ok (.iload_n 2, 1) := by decide +kernel
theorem dX11_fillCounts_24 : decode cX11_fillCounts 24 = .ok (.aaload, 1) := by decide +kernel
theorem dX11_fillCounts_25 : decode cX11_fillCounts 25 = .ok (.astore_n 3, 1) := by decide +kernel
theorem dX11_fillCounts_26 : decode cX11_fillCounts 26 = .ok (.aload_n 3, 1) := by decide +kernel
theorem dX11_fillCounts_27 : decode cX11_fillCounts 27 = .ok (.ifnonnull 6, 3) := by decide +kernel
theorem dX11_fillCounts_30 : decode cX11_fillCounts 30 = .ok (.bipush (-5), 2) := by decide +kernel
theorem dX11_fillCounts_32 : decode cX11_fillCounts 32 = .ok (.ireturn, 1) := by decide +kernel
theorem dX11_fillCounts_33 : decode cX11_fillCounts 33 = .ok (.aload_n 0, 1) := by decide +kernel
theorem dX11_fillCounts_34 : decode cX11_fillCounts 34 = .ok (.getfield 33, 3) := by decide +kernel
theorem dX11_fillCounts_37 : decode cX11_fillCounts 37 = .ok (.iload_n 1, 1) := by decide +kernel
theorem dX11_fillCounts_38 : decode cX11_fillCounts 38 = .ok (.aaload, 1) := by decide +kernel
theorem dX11_fillCounts_39 : decode cX11_fillCounts 39 = .ok (.astore 4, 2) := by decide +kernel
theorem dX11_fillCounts_41 : decode cX11_fillCounts 41 = .ok (.aload 4, 2) := by decide +kernel
theorem dX11_fillCounts_43 : decode cX11_fillCounts 43 = .ok (.getfield 287, 3) := by decide +kernel
theorem dX11_fillCounts_46 : decode cX11_fillCounts 46 = .ok (.iconst (-1), 1) := by decide +kernel
theorem dX11_fillCounts_47 : decode cX11_fillCounts 47 = .ok (.if_icmp .ne 6, 3) := by decide +kernel
theorem dX11_fillCounts_50 : decode cX11_fillCounts 50 = .ok (.bipush (-11), 2) := by decide +kernel
theorem dX11_fillCounts_52 : decode cX11_fillCounts 52 = .ok (.ireturn, 1) := by decide +kernel
theorem dX11_fillCounts_53 : decode cX11_fillCounts 53 = .ok (.aload_n 0, 1) := by decide +kernel
theorem dX11_fillCounts_54 : decode cX11_fillCounts 54 = .ok (.aload_n 3, 1) := by decide +kernel
theorem dX11_fillCounts_55 : decode cX11_fillCounts 55 = .ok (.invokevirtual 260, 3) := by decide +kernel
theorem dX11_fillCounts_58 : decode cX11_fillCounts 58 = .ok (.ifCond .ne 6, 3) := by decide +kernel
theorem dX11_fillCounts_61 : decode cX11_fillCounts 61 = .ok (.bipush (-4), 2) := by decide +kernel
theorem dX11_fillCounts_63 : decode cX11_fillCounts 63 = .ok (.ireturn, 1) := by decide +kernel
theorem dX11_fillCounts_64 : decode cX11_fillCounts 64 = .ok (.aload_n 0, 1) := by decide +kernel
theorem dX11_fillCounts_65 : decode cX11_fillCounts 65 = .ok (.getfield 54, 3) := by decide +kernel
theorem dX11_fillCounts_68 : decode cX11_fillCounts 68 = .ok (.aload_n 0, 1) := by decide +kernel
theorem dX11_fillCounts_69 : decode cX11_fillCounts 69 = .ok (.getfield 69, 3) := by decide +kernel
theorem dX11_fillCounts_72 : decode cX11_fillCounts 72 = .ok (.aload 4, 2) := by decide +kernel
theorem dX11_fillCounts_74 : decode cX11_fillCounts 74 = .ok (.getfield 290, 3) := by decide +kernel
theorem dX11_fillCounts_77 : decode cX11_fillCounts 77 = .ok (.iconst 1, 1) := by decide +kernel
theorem dX11_fillCounts_78 : decode cX11_fillCounts 78 = .ok (.isub, 1) := by decide +kernel
theorem dX11_fillCounts_79 : decode cX11_fillCounts 79 = .ok (.invokevirtual 270, 3) := by decide +kernel
theorem dX11_fillCounts_82 : decode cX11_fillCounts 82 = .ok (.iconst 0, 1) := by decide +kernel
theorem dX11_fillCounts_83 : decode cX11_fillCounts 83 = .ok (.istore 5, 2) := by decide +kernel
theorem dX11_fillCounts_85 : decode cX11_fillCounts 85 = .ok (.iload 5, 2) := by decide +kernel
theorem dX11_fillCounts_87 : decode cX11_fillCounts 87 = .ok (.aload 4, 2) := by decide +kernel
theorem dX11_fillCounts_89 : decode cX11_fillCounts 89 = .ok (.getfield 290, 3) := by decide +kernel
theorem dX11_fillCounts_92 : decode cX11_fillCounts 92 = .ok (.if_icmp .ge 24, 3) := by decide +kernel
theorem dX11_fillCounts_95 : decode cX11_fillCounts 95 = .ok (.aload 4, 2) := by decide +kernel
theorem dX11_fillCounts_97 : decode cX11_fillCounts 97 = .ok (.iload 5, 2) := by decide +kernel
theorem dX11_fillCounts_99 : decode cX11_fillCounts 99 = .ok (.aload_n 0, 1) := by decide +kernel
theorem dX11_fillCounts_100 : decode cX11_fillCounts 100 = .ok (.getfield 69, 3) := by decide +kernel
theorem dX11_fillCounts_103 : decode cX11_fillCounts 103 = .ok (.iload 5, 2) := by decide +kernel
theorem dX11_fillCounts_105 : decode cX11_fillCounts 105 = .ok (.laload, 1) := by decide +kernel
theorem dX11_fillCounts_106 : decode cX11_fillCounts 106 = .ok (.l2i, 1) := by decide +kernel
theorem dX11_fillCounts_107 : decode cX11_fillCounts 107 = .ok (.invokevirtual 291, 3) := by decide +kernel
theorem dX11_fillCounts_110 : decode cX11_fillCounts 110 = .ok (.iinc 5 1, 3) := by decide +kernel
theorem dX11_fillCounts_113 : decode cX11_fillCounts 113 = .ok (.goto (-28), 3) := by decide +kernel
theorem dX11_fillCounts_116 : decode cX11_fillCounts 116 = .ok (.aload 4, 2) := by decide +kernel
theorem dX11_fillCounts_118 : decode cX11_fillCounts 118 = .ok (.getfield 290, 3) := by decide +kernel
theorem dX11_fillCounts_121 : decode cX11_fillCounts 121 = .ok (.ireturn, 1) := by decide +kernel
set_option maxRecDepth 20000 in
theorem ggX11_saveSnapshot_X5_copyFrom : GoodIn wsX11_saveSnapshot wsX5_copyFrom := goodIn_r _ [8, 9, 10, 11, 12, 13, 14, 15, 16, 17, 18, 19, 20, 21, 22, 23, 24, 25, 26, 27, 28, 29, 30, 31, 32, 49, 50, 51, 52, 53, 54, 55, 56, 57] (by decide +kernel) (by decide +kernel)
set_option maxRecDepth 20000 in
theorem gX11_saveSnapshot_X5_copyFrom : GoodIn wsX11_saveSnapshot (wsV RX11 309 RX5 yX5_copyFrom wsX5_copyFrom) := goodIn_app (goodIn_of _ (by decide +kernel)) ggX11_saveSnapshot_X5_copyFrom
set_option maxRecDepth 20000 in
theorem ggX11_saveSnapshot_X5_languagesHeld : GoodIn wsX11_saveSnapshot wsX5_languagesHeld := goodIn_r _ [36, 12, 49, 50, 51, 52] (by decide +kernel) (by decide +kernel)
set_option maxRecDepth 20000 in
theorem gX11_saveSnapshot_X5_languagesHeld : GoodIn wsX11_saveSnapshot (wsV RX11 312 RX5 yX5_languagesHeld wsX5_languagesHeld) := goodIn_app (goodIn_of _ (by decide +kernel)) ggX11_saveSnapshot_X5_languagesHeld
theorem dX11_saveSnapshot_0 : decode cX11_saveSnapshot 0 = .ok (.aload_n 0, 1) := by decide +kernel
theorem dX11_saveSnapshot_1 : decode cX11_saveSnapshot 1 = .ok (.getfield 16, 3) := by decide +kernel
theorem dX11_saveSnapshot_4 : decode cX11_saveSnapshot 4 = .ok (.aload_n 0, 1) := by decide +kernel
theorem dX11_saveSnapshot_5 : decode cX11_saveSnapshot 5 = .ok (.getfield 10, 3) := by decide +kernel
theorem dX11_saveSnapshot_8 : decode cX11_saveSnapshot 8 = .ok (.invokevirtual 309, 3) := by decide +kernel
theorem dX11_saveSnapshot_11 : decode cX11_saveSnapshot 11 = .ok (.aload_n 0, 1) := by decide +kernel
theorem dX11_saveSnapshot_12 : decode cX11_saveSnapshot 12 = .ok (.iconst 1, 1) := by decide +kernel
theorem dX11_saveSnapshot_13 : decode cX11_saveSnapshot 13 = .ok (.putfield 19, 3) := by decide +kernel
theorem dX11_saveSnapshot_16 : decode cX11_saveSnapshot 16 = .ok (.aload_n 0, 1) := by decide +kernel
theorem dX11_saveSnapshot_17 : decode cX11_saveSnapshot 17 = .ok (.getfield 10, 3) := by decide +kernel
theorem dX11_saveSnapshot_20 : decode cX11_saveSnapshot 20 = .ok (.invokevirtual 312, 3) := by decide +kernel
theorem dX11_saveSnapshot_23 : decode cX11_saveSnapshot 23 = .ok (.ireturn, 1) := by decide +kernel
set_option maxRecDepth 20000 in
theorem ggX11_restoreSnapshot_X5_copyFrom : GoodIn wsX11_restoreSnapshot wsX5_copyFrom := goodIn_r _ [8, 9, 10, 11, 12, 13, 14, 15, 16, 17, 18, 19, 20, 21, 22, 23, 24, 25, 26, 27, 28, 29, 30, 31, 32, 49, 50, 51, 52, 53, 54, 55, 56, 57] (by decide +kernel) (by decide +kernel)
set_option maxRecDepth 20000 in
theorem gX11_restoreSnapshot_X5_copyFrom : GoodIn wsX11_restoreSnapshot (wsV RX11 309 RX5 yX5_copyFrom wsX5_copyFrom) := goodIn_app (goodIn_of _ (by decide +kernel)) ggX11_restoreSnapshot_X5_copyFrom
set_option maxRecDepth 20000 in
theorem ggX11_restoreSnapshot_X5_languagesHeld : GoodIn wsX11_restoreSnapshot wsX5_languagesHeld := goodIn_r _ [36, 12, 49, 50, 51, 52] (by decide +kernel) (by decide +kernel)
set_option maxRecDepth 20000 in
theorem gX11_restoreSnapshot_X5_languagesHeld : GoodIn wsX11_restoreSnapshot (wsV RX11 312 RX5 yX5_languagesHeld wsX5_languagesHeld) := goodIn_app (goodIn_of _ (by decide +kernel)) ggX11_restoreSnapshot_X5_languagesHeld
theorem dX11_restoreSnapshot_0 : decode cX11_restoreSnapshot 0 = .ok (.aload_n 0, 1) := by decide +kernel
theorem dX11_restoreSnapshot_1 : decode cX11_restoreSnapshot 1 = .ok (.getfield 19, 3) := by decide +kernel
theorem dX11_restoreSnapshot_4 : decode cX11_restoreSnapshot 4 = .ok (.ifCond .ne 6, 3) := by decide +kernel
theorem dX11_restoreSnapshot_7 : decode cX11_restoreSnapshot 7 = .ok (.bipush (-2), 2) := by decide +kernel
theorem dX11_restoreSnapshot_9 : decode cX11_restoreSnapshot 9 = .ok (.ireturn, 1) := by decide +kernel
theorem dX11_restoreSnapshot_10 : decode cX11_restoreSnapshot 10 = .ok (.aload_n 0, 1) := by decide +kernel
theorem dX11_restoreSnapshot_11 : decode cX11_restoreSnapshot 11 = .ok (.getfield 10, 3) := by decide +kernel
theorem dX11_restoreSnapshot_14 : decode cX11_restoreSnapshot 14 = .ok (.aload_n 0, 1) := by decide +kernel
theorem dX11_restoreSnapshot_15 : decode cX11_restoreSnapshot 15 = .ok (.getfield 16, 3) := by decide +kernel
theorem dX11_restoreSnapshot_18 : decode cX11_restoreSnapshot 18 = .ok (.invokevirtual 309, 3) := by decide +kernel
theorem dX11_restoreSnapshot_21 : decode cX11_restoreSnapshot 21 = .ok (.aload_n 0, 1) := by decide +kernel
theorem dX11_restoreSnapshot_22 : decode cX11_restoreSnapshot 22 = .ok (.getfield 10, 3) := by decide +kernel
theorem dX11_restoreSnapshot_25 : decode cX11_restoreSnapshot 25 = .ok (.invokevirtual 312, 3) := by decide +kernel
theorem dX11_restoreSnapshot_28 : decode cX11_restoreSnapshot 28 = .ok (.ireturn, 1) := by decide +kernel
theorem dX11_isWord_0 : decode cX11_isWord 0 = .ok (.iload_n 0, 1) := by decide +kernel
theorem dX11_isWord_1 : decode cX11_isWord 1 = .ok (.ifCond .lt 12, 3) := by decide +kernel
theorem dX11_isWord_4 : decode cX11_isWord 4 = .ok (.iload_n 0, 1) := by decide +kernel
theorem dX11_isWord_5 : decode cX11_isWord 5 = .ok (.iconst 3, 1) := by decide +kernel
theorem dX11_isWord_6 : decode cX11_isWord 6 = .ok (.if_icmp .ge 7, 3) := by decide +kernel
theorem dX11_isWord_9 : decode cX11_isWord 9 = .ok (.iconst 1, 1) := by decide +kernel
theorem dX11_isWord_10 : decode cX11_isWord 10 = .ok (.goto 4, 3) := by decide +kernel
theorem dX11_isWord_13 : decode cX11_isWord 13 = .ok (.iconst 0, 1) := by decide +kernel
theorem dX11_isWord_14 : decode cX11_isWord 14 = .ok (.ireturn, 1) := by decide +kernel
theorem dX11_isLanguage_0 : decode cX11_isLanguage 0 = .ok (.iload_n 0, 1) := by decide +kernel
theorem dX11_isLanguage_1 : decode cX11_isLanguage 1 = .ok (.ifCond .lt 12, 3) := by decide +kernel
theorem dX11_isLanguage_4 : decode cX11_isLanguage 4 = .ok (.iload_n 0, 1) := by decide +kernel
theorem dX11_isLanguage_5 : decode cX11_isLanguage 5 = .ok (.iconst 4, 1) := by decide +kernel
theorem dX11_isLanguage_6 : decode cX11_isLanguage 6 = .ok (.if_icmp .ge 7, 3) := by decide +kernel
theorem dX11_isLanguage_9 : decode cX11_isLanguage 9 = .ok (.iconst 1, 1) := by decide +kernel
theorem dX11_isLanguage_10 : decode cX11_isLanguage 10 = .ok (.goto 4, 3) := by decide +kernel
theorem dX11_isLanguage_13 : decode cX11_isLanguage 13 = .ok (.iconst 0, 1) := by decide +kernel
theorem dX11_isLanguage_14 : decode cX11_isLanguage 14 = .ok (.ireturn, 1) := by decide +kernel
theorem dX11_isRow_0 : decode cX11_isRow 0 = .ok (.iload_n 0, 1) := by decide +kernel
theorem dX11_isRow_1 : decode cX11_isRow 1 = .ok (.ifCond .lt 12, 3) := by decide +kernel
theorem dX11_isRow_4 : decode cX11_isRow 4 = .ok (.iload_n 0, 1) := by decide +kernel
theorem dX11_isRow_5 : decode cX11_isRow 5 = .ok (.iconst 3, 1) := by decide +kernel
theorem dX11_isRow_6 : decode cX11_isRow 6 = .ok (.if_icmp .ge 7, 3) := by decide +kernel
theorem dX11_isRow_9 : decode cX11_isRow 9 = .ok (.iconst 1, 1) := by decide +kernel
theorem dX11_isRow_10 : decode cX11_isRow 10 = .ok (.goto 4, 3) := by decide +kernel
theorem dX11_isRow_13 : decode cX11_isRow 13 = .ok (.iconst 0, 1) := by decide +kernel
theorem dX11_isRow_14 : decode cX11_isRow 14 = .ok (.ireturn, 1) := by decide +kernel
theorem dX11_isTest_0 : decode cX11_isTest 0 = .ok (.iload_n 1, 1) := by decide +kernel
theorem dX11_isTest_1 : decode cX11_isTest 1 = .ok (.ifCond .lt 21, 3) := by decide +kernel
theorem dX11_isTest_4 : decode cX11_isTest 4 = .ok (.iload_n 1, 1) := by decide +kernel
theorem dX11_isTest_5 : decode cX11_isTest 5 = .ok (.aload_n 0, 1) := by decide +kernel
theorem dX11_isTest_6 : decode cX11_isTest 6 = .ok (.getfield 10, 3) := by decide +kernel
theorem dX11_isTest_9 : decode cX11_isTest 9 = .ok (.getfield 127, 3) := by decide +kernel
theorem dX11_isTest_12 : decode cX11_isTest 12 = .ok (.getfield 131, 3) := by decide +kernel
theorem dX11_isTest_15 : decode cX11_isTest 15 = .ok (.if_icmp .ge 7, 3) := by decide +kernel
theorem dX11_isTest_18 : decode cX11_isTest 18 = .ok (.iconst 1, 1) := by decide +kernel
theorem dX11_isTest_19 : decode cX11_isTest 19 = .ok (.goto 4, 3) := by decide +kernel
theorem dX11_isTest_22 : decode cX11_isTest 22 = .ok (.iconst 0, 1) := by decide +kernel
theorem dX11_isTest_23 : decode cX11_isTest 23 = .ok (.ireturn, 1) := by decide +kernel
theorem dX11_thirdWord_0 : decode cX11_thirdWord 0 = .ok (.iconst 0, 1) := by decide +kernel
theorem dX11_thirdWord_1 : decode cX11_thirdWord 1 = .ok (.istore_n 3, 1) := by decide +kernel
theorem dX11_thirdWord_2 : decode cX11_thirdWord 2 = .ok (.iload_n 3, 1) := by decide +kernel
theorem dX11_thirdWord_3 : decode cX11_thirdWord 3 = .ok (.iconst 3, 1) := by decide +kernel
theorem dX11_thirdWord_4 : decode cX11_thirdWord 4 = .ok (.if_icmp .ge 29, 3) := by decide +kernel
theorem dX11_thirdWord_7 : decode cX11_thirdWord 7 = .ok (.iload_n 3, 1) := by decide +kernel
theorem dX11_thirdWord_8 : decode cX11_thirdWord 8 = .ok (.iload_n 1, 1) := by decide +kernel
theorem dX11_thirdWord_9 : decode cX11_thirdWord 9 = .ok (.if_icmp .eq 18, 3) := by decide +kernel
theorem dX11_thirdWord_12 : decode cX11_thirdWord 12 = .ok (.iload_n 3, 1) := by decide +kernel
theorem dX11_thirdWord_13 : decode cX11_thirdWord 13 = .ok (.iload_n 2, 1) := by decide +kernel
theorem dX11_thirdWord_14 : decode cX11_thirdWord 14 = .ok (.if_icmp .eq 13, 3) := by decide +kernel
theorem dX11_thirdWord_17 : decode cX11_thirdWord 17 = .ok (.aload_n 0, 1) := by decide +kernel
theorem dX11_thirdWord_18 : decode cX11_thirdWord 18 = .ok (.getfield 10, 3) := by decide +kernel
theorem dX11_thirdWord_21 : decode cX11_thirdWord 21 = .ok (.getfield 85, 3) := by decide +kernel
theorem dX11_thirdWord_24 : decode cX11_thirdWord 24 = .ok (.iload_n 3, 1) := by decide +kernel
theorem dX11_thirdWord_25 : decode cX11_thirdWord 25 = .ok (.aaload, 1) := by decide +kernel
theorem dX11_thirdWord_26 : decode cX11_thirdWord 26 = .ok (.areturn, 1) := by decide +kernel
theorem dX11_thirdWord_27 : decode cX11_thirdWord 27 = .ok (.iinc 3 1, 3) := by decide +kernel
theorem dX11_thirdWord_30 : decode cX11_thirdWord 30 = .ok (.goto (-28), 3) := by decide +kernel
theorem dX11_thirdWord_33 : decode cX11_thirdWord 33 = .ok (.aload_n 0, 1) := by decide +kernel
theorem dX11_thirdWord_34 : decode cX11_thirdWord 34 = .ok (.getfield 40, 3) := by decide +kernel
theorem dX11_thirdWord_37 : decode cX11_thirdWord 37 = .ok (.areturn, 1) := by decide +kernel
set_option maxRecDepth 20000 in
theorem ggX11_separatingModulus_X9_occurrencesIn : GoodIn wsX11_separatingModulus wsX9_occurrencesIn := goodIn_r _ [5, 6, 7, 8, 9, 10, 11, 12, 13, 14, 15] (by decide +kernel) (by decide +kernel)
set_option maxRecDepth 20000 in
theorem gX11_separatingModulus_X9_occurrencesIn : GoodIn wsX11_separatingModulus (wsV RX11 109 RX9 yX9_occurrencesIn wsX9_occurrencesIn) := goodIn_app (goodIn_of _ (by decide +kernel)) ggX11_separatingModulus_X9_occurrencesIn
theorem dX11_separatingModulus_0 : decode cX11_separatingModulus 0 = .ok (.aload_n 0, 1) := by decide +kernel
theorem dX11_separatingModulus_1 : decode cX11_separatingModulus 1 = .ok (.aload_n 1, 1) := by decide +kernel
theorem dX11_separatingModulus_2 : decode cX11_separatingModulus 2 = .ok (.invokevirtual 109, 3) := by decide +kernel
theorem dX11_separatingModulus_5 : decode cX11_separatingModulus 5 = .ok (.istore_n 3, 1) := by decide +kernel
theorem dX11_separatingModulus_6 : decode cX11_separatingModulus 6 = .ok (.aload_n 0, 1) := by decide +kernel
theorem dX11_separatingModulus_7 : decode cX11_separatingModulus 7 = .ok (.aload_n 2, 1) := by decide +kernel
theorem dX11_separatingModulus_8 : decode cX11_separatingModulus 8 = .ok (.invokevirtual 109, 3) := by decide +kernel
theorem dX11_separatingModulus_11 : decode cX11_separatingModulus 11 = .ok (.istore 4, 2) := by decide +kernel
theorem dX11_separatingModulus_13 : decode cX11_separatingModulus 13 = .ok (.iload_n 3, 1) := by decide +kernel
theorem dX11_separatingModulus_14 : decode cX11_separatingModulus 14 = .ok (.iload 4, 2) := by decide +kernel
theorem dX11_separatingModulus_16 : decode cX11_separatingModulus 16 = .ok (.if_icmp .ne 6, 3) := by decide +kernel
theorem dX11_separatingModulus_19 : decode cX11_separatingModulus 19 = .ok (.bipush (-2), 2) := by decide +kernel
theorem dX11_separatingModulus_21 : decode cX11_separatingModulus 21 = .ok (.ireturn, 1) := by decide +kernel
theorem dX11_separatingModulus_22 : decode cX11_separatingModulus 22 = .ok (.iconst 2, 1) := by decide +kernel
theorem dX11_separatingModulus_23 : decode cX11_separatingModulus 23 = .ok (.istore 5, 2) := by decide +kernel
theorem dX11_separatingModulus_25 : decode cX11_separatingModulus 25 = .ok (.iload 5, 2) := by decide +kernel
theorem dX11_separatingModulus_27 : decode cX11_separatingModulus 27 = .ok (.bipush 99, 2) := by decide +kernel
theorem dX11_separatingModulus_29 : decode cX11_separatingModulus 29 = .ok (.if_icmp .gt 24, 3) := by decide +kernel
theorem dX11_separatingModulus_32 : decode cX11_separatingModulus 32 = .ok (.iload_n 3, 1) := by decide +kernel
theorem dX11_separatingModulus_33 : decode cX11_separatingModulus 33 = .ok (.iload 5, 2) := by decide +kernel
theorem dX11_separatingModulus_35 : decode cX11_separatingModulus 35 = .ok (.irem, 1) := by decide +kernel
theorem dX11_separatingModulus_36 : decode cX11_separatingModulus 36 = .ok (.iload 4, 2) := by decide +kernel
theorem dX11_separatingModulus_38 : decode cX11_separatingModulus 38 = .ok (.iload 5, 2) := by decide +kernel
theorem dX11_separatingModulus_40 : decode cX11_separatingModulus 40 = .ok (.irem, 1) := by decide +kernel
theorem dX11_separatingModulus_41 : decode cX11_separatingModulus 41 = .ok (.if_icmp .eq 6, 3) := by decide +kernel
theorem dX11_separatingModulus_44 : decode cX11_separatingModulus 44 = .ok (.iload 5, 2) := by decide +kernel
theorem dX11_separatingModulus_46 : decode cX11_separatingModulus 46 = .ok (.ireturn, 1) := by decide +kernel
theorem dX11_separatingModulus_47 : decode cX11_separatingModulus 47 = .ok (.iinc 5 1, 3) := by decide +kernel
theorem dX11_separatingModulus_50 : decode cX11_separatingModulus 50 = .ok (.goto (-25), 3) := by decide +kernel
theorem dX11_separatingModulus_53 : decode cX11_separatingModulus 53 = .ok (.bipush (-2), 2) := by decide +kernel
theorem dX11_separatingModulus_55 : decode cX11_separatingModulus 55 = .ok (.ireturn, 1) := by decide +kernel
set_option maxRecDepth 20000 in
theorem ggX11_combine_X11_isLanguage : GoodIn wsX11_combine wsX11_isLanguage := goodIn_r _ [7] (by decide +kernel) (by decide +kernel)
set_option maxRecDepth 20000 in
theorem gX11_combine_X11_isLanguage : GoodIn wsX11_combine (va_wsS RX11 229 yX11_isLanguage wsX11_isLanguage) := goodIn_app (goodIn_of _ (by decide +kernel)) ggX11_combine_X11_isLanguage
set_option maxRecDepth 20000 in
theorem ggX11_combine_X2_joined : GoodIn wsX11_combine wsX2_joined := goodIn_r _ [11, 12, 13, 14, 15, 16, 17, 18, 19, 20, 21, 22, 10, 23, 24, 25, 26, 27, 28, 29, 30, 31, 32, 33, 34, 35, 36, 37, 38, 39, 40, 41, 58, 59, 60, 61, 62] (by decide +kernel) (by decide +kernel)
set_option maxRecDepth 20000 in
theorem gX11_combine_X2_joined : GoodIn wsX11_combine (va_wsS RX11 315 yX2_joined wsX2_joined) := goodIn_app (goodIn_of _ (by decide +kernel)) ggX11_combine_X2_joined
theorem dX11_combine_0 : decode cX11_combine 0 = .ok (.iload_n 2, 1) := by decide +kernel
theorem dX11_combine_1 : decode cX11_combine 1 = .ok (.invokestatic 229, 3) := by decide +kernel
theorem dX11_combine_4 : decode cX11_combine 4 = .ok (.ifCond .eq 18, 3) := by decide +kernel
theorem dX11_combine_7 : decode cX11_combine 7 = .ok (.iload_n 3, 1) := by decide +kernel
theorem dX11_combine_8 : decode cX11_combine 8 = .ok (.invokestatic 229, 3) := by decide +kernel
theorem dX11_combine_11 : decode cX11_combine 11 = .ok (.ifCond .eq 11, 3) := by decide +kernel
theorem dX11_combine_14 : decode cX11_combine 14 = .ok (.iload 4, 2) := by decide +kernel
theorem dX11_combine_16 : decode cX11_combine 16 = .ok (.invokestatic 229, 3) := by decide +kernel
theorem dX11_combine_19 : decode cX11_combine 19 = .ok (.ifCond .ne 5, 3) := by decide +kernel
theorem dX11_combine_22 : decode cX11_combine 22 = .ok (.iconst (-1), 1) := by decide +kernel
theorem dX11_combine_23 : decode cX11_combine 23 = .ok (.ireturn, 1) := by decide +kernel
theorem dX11_combine_24 : decode cX11_combine 24 = .ok (.aload_n 0, 1) := by decide +kernel
theorem dX11_combine_25 : decode cX11_combine 25 = .ok (.getfield 10, 3) := by decide +kernel
theorem dX11_combine_28 : decode cX11_combine 28 = .ok (.getfield 232, 3) := by decide +kernel
theorem dX11_combine_31 : decode cX11_combine 31 = .ok (.iload_n 3, 1) := by decide +kernel
theorem dX11_combine_32 : decode cX11_combine 32 = .ok (.aaload, 1) := by decide +kernel
theorem dX11_combine_33 : decode cX11_combine 33 = .ok (.astore 5, 2) := by decide +kernel
theorem dX11_combine_35 : decode cX11_combine 35 = .ok (.aload_n 0, 1) := by decide +kernel
theorem dX11_combine_36 : decode cX11_combine 36 = .ok (.getfield 10, 3) := by decide +kernel
theorem dX11_combine_39 : decode cX11_combine 39 = .ok (.getfield 232, 3) := by decide +kernel
theorem dX11_combine_42 : decode cX11_combine 42 = .ok (.iload 4, 2) := by decide +kernel
theorem dX11_combine_44 : decode cX11_combine 44 = .ok (.aaload, 1) := by decide +kernel
theorem dX11_combine_45 : decode cX11_combine 45 = .ok (.astore 6, 2) := by decide +kernel
theorem dX11_combine_47 : decode cX11_combine 47 = .ok (.aload 5, 2) := by decide +kernel
theorem dX11_combine_49 : decode cX11_combine 49 = .ok (.ifnull 8, 3) := by decide +kernel
theorem dX11_combine_52 : decode cX11_combine 52 = .ok (.aload 6, 2) := by decide +kernel
theorem dX11_combine_54 : decode cX11_combine 54 = .ok (.ifnonnull 6, 3) := by decide +kernel
theorem dX11_combine_57 : decode cX11_combine 57 = .ok (.bipush (-5), 2) := by decide +kernel
theorem dX11_combine_59 : decode cX11_combine 59 = .ok (.ireturn, 1) := by decide +kernel
theorem dX11_combine_60 : decode cX11_combine 60 = .ok (.aload 5, 2) := by decide +kernel
theorem dX11_combine_62 : decode cX11_combine 62 = .ok (.getfield 246, 3) := by decide +kernel
theorem dX11_combine_65 : decode cX11_combine 65 = .ok (.aload 6, 2) := by decide +kernel
theorem dX11_combine_67 : decode cX11_combine 67 = .ok (.getfield 246, 3) := by decide +kernel
theorem dX11_combine_70 : decode cX11_combine 70 = .ok (.iadd, 1) := by decide +kernel
theorem dX11_combine_71 : decode cX11_combine 71 = .ok (.iconst 4, 1) := by decide +kernel
theorem dX11_combine_72 : decode cX11_combine 72 = .ok (.if_icmp .le 6, 3) := by decide +kernel
theorem dX11_combine_75 : decode cX11_combine 75 = .ok (.bipush (-3), 2) := by decide +kernel
theorem dX11_combine_77 : decode cX11_combine 77 = .ok (.ireturn, 1) := by decide +kernel
theorem dX11_combine_78 : decode cX11_combine 78 = .ok (.aload_n 0, 1) := by decide +kernel
theorem dX11_combine_79 : decode cX11_combine 79 = .ok (.getfield 10, 3) := by decide +kernel
theorem dX11_combine_82 : decode cX11_combine 82 = .ok (.getfield 232, 3) := by decide +kernel
theorem dX11_combine_85 : decode cX11_combine 85 = .ok (.iload_n 2, 1) := by decide +kernel
theorem dX11_combine_86 : decode cX11_combine 86 = .ok (.iload_n 1, 1) := by decide +kernel
theorem dX11_combine_87 : decode cX11_combine 87 = .ok (.aload 5, 2) := by decide +kernel
theorem dX11_combine_89 : decode cX11_combine 89 = .ok (.aload 6, 2) := by decide +kernel
theorem dX11_combine_91 : decode cX11_combine 91 = .ok (.invokestatic 315, 3) := by decide +kernel
theorem dX11_combine_94 : decode cX11_combine 94 = .ok (.aastore, 1) := by decide +kernel
theorem dX11_combine_95 : decode cX11_combine 95 = .ok (.aload 5, 2) := by decide +kernel
theorem dX11_combine_97 : decode cX11_combine 97 = .ok (.getfield 246, 3) := by decide +kernel
theorem dX11_combine_100 : decode cX11_combine 100 = .ok (.aload 6, 2) := by decide +kernel
theorem dX11_combine_102 : decode cX11_combine 102 = .ok (.getfield 246, 3) := by decide +kernel
theorem dX11_combine_105 : decode cX11_combine 105 = .ok (.iadd, 1) := by decide +kernel
theorem dX11_combine_106 : decode cX11_combine 106 = .ok (.ireturn, 1) := by decide +kernel
set_option maxRecDepth 20000 in
theorem ggX11_exploreTest_X0_restart : GoodIn wsX11_exploreTest wsX0_restart := goodIn_r _ [11, 12, 13, 14, 15, 100, 101, 102, 103, 104, 105, 106, 107, 108, 109, 110, 111, 112, 113, 114] (by decide +kernel) (by decide +kernel)
set_option maxRecDepth 20000 in
theorem gX11_exploreTest_X0_restart : GoodIn wsX11_exploreTest (wsV RX11 319 RX0 yX0_restart wsX0_restart) := goodIn_app (goodIn_of _ (by decide +kernel)) ggX11_exploreTest_X0_restart
set_option maxRecDepth 20000 in
theorem ggX11_exploreTest_X1_add : GoodIn wsX11_exploreTest wsX1_add := goodIn_r _ [20, 21, 22, 113, 114] (by decide +kernel) (by decide +kernel)
set_option maxRecDepth 20000 in
theorem gX11_exploreTest_X1_add : GoodIn wsX11_exploreTest (wsV RX11 146 RX1 yX1_add wsX1_add) := goodIn_app (goodIn_of _ (by decide +kernel)) ggX11_exploreTest_X1_add
set_option maxRecDepth 20000 in
theorem ggX11_exploreTest_X0_explore : GoodIn wsX11_exploreTest wsX0_explore := goodIn_r _ [26, 27, 28, 15, 12, 13, 29, 30, 31, 32, 33, 34, 35, 36, 37, 38, 39, 40, 10, 41, 42, 43, 44, 45, 46, 47, 48, 49, 50, 51, 19, 52, 21, 53, 22, 54, 55, 56, 57, 58, 59, 60, 61, 62, 63, 64, 65, 66, 67, 68, 69, 70, 100, 101, 102, 103, 104, 105, 106, 107, 108, 109, 110, 111, 112, 113, 114, 115, 116, 117, 118, 119] (by decide +kernel) (by decide +kernel)
set_option maxRecDepth 20000 in
theorem gX11_exploreTest_X0_explore : GoodIn wsX11_exploreTest (wsV RX11 321 RX0 yX0_explore wsX0_explore) := goodIn_app (goodIn_of _ (by decide +kernel)) ggX11_exploreTest_X0_explore
set_option maxRecDepth 20000 in
theorem ggX11_exploreTest_X0_markValues : GoodIn wsX11_exploreTest wsX0_markValues := goodIn_r _ [74, 15, 75, 13, 29, 30, 76, 77, 78, 19, 79, 22, 53, 80, 81, 82, 57, 83, 59, 60, 100, 101, 102, 103, 104, 105, 106, 107, 108, 109, 110, 111, 112, 113, 114, 115, 116, 117, 118, 119] (by decide +kernel) (by decide +kernel)
set_option maxRecDepth 20000 in
theorem gX11_exploreTest_X0_markValues : GoodIn wsX11_exploreTest (wsV RX11 324 RX0 yX0_markValues wsX0_markValues) := goodIn_app (goodIn_of _ (by decide +kernel)) ggX11_exploreTest_X0_markValues
theorem dX11_exploreTest_0 : decode cX11_exploreTest 0 = .ok (.aload_n 0, 1) := by decide +kernel
theorem dX11_exploreTest_1 : decode cX11_exploreTest 1 = .ok (.getfield 54, 3) := by decide +kernel
theorem dX11_exploreTest_4 : decode cX11_exploreTest 4 = .ok (.aload_n 0, 1) := by decide +kernel
theorem dX11_exploreTest_5 : decode cX11_exploreTest 5 = .ok (.getfield 10, 3) := by decide +kernel
theorem dX11_exploreTest_8 : decode cX11_exploreTest 8 = .ok (.getfield 74, 3) := by decide +kernel
theorem dX11_exploreTest_11 : decode cX11_exploreTest 11 = .ok (.invokevirtual 319, 3) := by decide +kernel
theorem dX11_exploreTest_14 : decode cX11_exploreTest 14 = .ok (.aload_n 0, 1) := by decide +kernel
theorem dX11_exploreTest_15 : decode cX11_exploreTest 15 = .ok (.getfield 54, 3) := by decide +kernel
theorem dX11_exploreTest_18 : decode cX11_exploreTest 18 = .ok (.getfield 320, 3) := by decide +kernel
theorem dX11_exploreTest_21 : decode cX11_exploreTest 21 = .ok (.aload_n 0, 1) := by decide +kernel
theorem dX11_exploreTest_22 : decode cX11_exploreTest 22 = .ok (.getfield 10, 3) := by decide +kernel
theorem dX11_exploreTest_25 : decode cX11_exploreTest 25 = .ok (.getfield 127, 3) := by decide +kernel
theorem dX11_exploreTest_28 : decode cX11_exploreTest 28 = .ok (.getfield 156, 3) := by decide +kernel
theorem dX11_exploreTest_31 : decode cX11_exploreTest 31 = .ok (.iload_n 1, 1) := by decide +kernel
theorem dX11_exploreTest_32 : decode cX11_exploreTest 32 = .ok (.aaload, 1) := by decide +kernel
theorem dX11_exploreTest_33 : decode cX11_exploreTest 33 = .ok (.invokevirtual 146, 3) := by decide +kernel
theorem dX11_exploreTest_36 : decode cX11_exploreTest 36 = .ok (.aload_n 0, 1) := by decide +kernel
theorem dX11_exploreTest_37 : decode cX11_exploreTest 37 = .ok (.getfield 54, 3) := by decide +kernel
theorem dX11_exploreTest_40 : decode cX11_exploreTest 40 = .ok (.invokevirtual 321, 3) := by decide +kernel
theorem dX11_exploreTest_43 : decode cX11_exploreTest 43 = .ok (.ifCond .ne 5, 3) := by decide +kernel
theorem dX11_exploreTest_46 : decode cX11_exploreTest 46 = .ok (.iconst 0, 1) := by decide +kernel
theorem dX11_exploreTest_47 : decode cX11_exploreTest 47 = .ok (.ireturn, 1) := by decide +kernel
theorem dX11_exploreTest_48 : decode cX11_exploreTest 48 = .ok (.aload_n 0, 1) := by decide +kernel
theorem dX11_exploreTest_49 : decode cX11_exploreTest 49 = .ok (.getfield 54, 3) := by decide +kernel
theorem dX11_exploreTest_52 : decode cX11_exploreTest 52 = .ok (.invokevirtual 324, 3) := by decide +kernel
theorem dX11_exploreTest_55 : decode cX11_exploreTest 55 = .ok (.iconst 1, 1) := by decide +kernel
theorem dX11_exploreTest_56 : decode cX11_exploreTest 56 = .ok (.ireturn, 1) := by decide +kernel
set_option maxRecDepth 20000 in
theorem ggX11_exploreLanguage_X0_restart : GoodIn wsX11_exploreLanguage wsX0_restart := goodIn_r _ [9, 10, 11, 12, 13, 115, 116, 117, 118, 119, 120, 121, 122, 123, 124, 125, 126, 127, 128, 129] (by decide +kernel) (by decide +kernel)
set_option maxRecDepth 20000 in
theorem gX11_exploreLanguage_X0_restart : GoodIn wsX11_exploreLanguage (wsV RX11 319 RX0 yX0_restart wsX0_restart) := goodIn_app (goodIn_of _ (by decide +kernel)) ggX11_exploreLanguage_X0_restart
set_option maxRecDepth 20000 in
theorem ggX11_exploreLanguage_X2_addTestsTo : GoodIn wsX11_exploreLanguage wsX2_addTestsTo := goodIn_r _ [18, 19, 20, 21, 22, 23, 24, 25, 26, 27, 130, 131, 132, 133, 134, 128, 129] (by decide +kernel) (by decide +kernel)
set_option maxRecDepth 20000 in
theorem gX11_exploreLanguage_X2_addTestsTo : GoodIn wsX11_exploreLanguage (wsV RX11 327 RX2 yX2_addTestsTo wsX2_addTestsTo) := goodIn_app (goodIn_of _ (by decide +kernel)) ggX11_exploreLanguage_X2_addTestsTo
set_option maxRecDepth 20000 in
theorem ggX11_exploreLanguage_X0_explore : GoodIn wsX11_exploreLanguage wsX0_explore := goodIn_r _ [31, 32, 33, 13, 10, 11, 34, 35, 36, 37, 38, 39, 40, 41, 42, 43, 44, 45, 8, 46, 47, 48, 49, 50, 51, 52, 53, 54, 55, 56, 24, 57, 26, 58, 27, 59, 60, 61, 62, 63, 64, 65, 66, 67, 68, 69, 70, 71, 72, 73, 74, 75, 115, 116, 117, 118, 119, 120, 121, 122, 123, 124, 125, 126, 127, 128, 129, 135, 136, 137, 138, 139] (by decide +kernel) (by decide +kernel)
set_option maxRecDepth 20000 in
theorem gX11_exploreLanguage_X0_explore : GoodIn wsX11_exploreLanguage (wsV RX11 321 RX0 yX0_explore wsX0_explore) := goodIn_app (goodIn_of _ (by decide +kernel)) ggX11_exploreLanguage_X0_explore
set_option maxRecDepth 20000 in
theorem ggX11_exploreLanguage_X0_markMembers : GoodIn wsX11_exploreLanguage wsX0_markMembers := goodIn_r _ [79, 13, 80, 11, 34, 35, 81, 82, 83, 17, 84, 19, 85, 86, 87, 88, 24, 89, 27, 58, 90, 91, 92, 62, 93, 64, 65, 94, 95, 96, 97, 98, 115, 116, 117, 118, 119, 120, 121, 122, 123, 124, 125, 126, 127, 130, 131, 132, 133, 134, 128, 129, 135, 136, 137, 138, 139] (by decide +kernel) (by decide +kernel)
set_option maxRecDepth 20000 in
theorem gX11_exploreLanguage_X0_markMembers : GoodIn wsX11_exploreLanguage (wsV RX11 330 RX0 yX0_markMembers wsX0_markMembers) := goodIn_app (goodIn_of _ (by decide +kernel)) ggX11_exploreLanguage_X0_markMembers
theorem dX11_exploreLanguage_0 : decode cX11_exploreLanguage 0 = .ok (.aload_n 0, 1) := by decide +kernel
theorem dX11_exploreLanguage_1 : decode cX11_exploreLanguage 1 = .ok (.getfield 54, 3) := by decide +kernel
theorem dX11_exploreLanguage_4 : decode cX11_exploreLanguage 4 = .ok (.aload_n 0, 1) := by decide +kernel
theorem dX11_exploreLanguage_5 : decode cX11_exploreLanguage 5 = .ok (.getfield 10, 3) := by decide +kernel
theorem dX11_exploreLanguage_8 : decode cX11_exploreLanguage 8 = .ok (.getfield 74, 3) := by decide +kernel
theorem dX11_exploreLanguage_11 : decode cX11_exploreLanguage 11 = .ok (.invokevirtual 319, 3) := by decide +kernel
theorem dX11_exploreLanguage_14 : decode cX11_exploreLanguage 14 = .ok (.aload_n 1, 1) := by decide +kernel
theorem dX11_exploreLanguage_15 : decode cX11_exploreLanguage 15 = .ok (.aload_n 0, 1) := by decide +kernel
theorem dX11_exploreLanguage_16 : decode cX11_exploreLanguage 16 = .ok (.getfield 54, 3) := by decide +kernel
theorem dX11_exploreLanguage_19 : decode cX11_exploreLanguage 19 = .ok (.getfield 320, 3) := by decide +kernel
theorem dX11_exploreLanguage_22 : decode cX11_exploreLanguage 22 = .ok (.invokevirtual 327, 3) := by decide +kernel
theorem dX11_exploreLanguage_25 : decode cX11_exploreLanguage 25 = .ok (.aload_n 0, 1) := by decide +kernel
theorem dX11_exploreLanguage_26 : decode cX11_exploreLanguage 26 = .ok (.getfield 54, 3) := by decide +kernel
theorem dX11_exploreLanguage_29 : decode cX11_exploreLanguage 29 = .ok (.invokevirtual 321, 3) := by decide +kernel
theorem dX11_exploreLanguage_32 : decode cX11_exploreLanguage 32 = .ok (.ifCond .ne 5, 3) := by decide +kernel
theorem dX11_exploreLanguage_35 : decode cX11_exploreLanguage 35 = .ok (.iconst 0, 1) := by decide +kernel
theorem dX11_exploreLanguage_36 : decode cX11_exploreLanguage 36 = .ok (.ireturn, 1) := by decide +kernel
theorem dX11_exploreLanguage_37 : decode cX11_exploreLanguage 37 = .ok (.aload_n 0, 1) := by decide +kernel
theorem dX11_exploreLanguage_38 : decode cX11_exploreLanguage 38 = .ok (.getfield 54, 3) := by decide +kernel
theorem dX11_exploreLanguage_41 : decode cX11_exploreLanguage 41 = .ok (.aload_n 1, 1) := by decide +kernel
theorem dX11_exploreLanguage_42 : decode cX11_exploreLanguage 42 = .ok (.invokevirtual 330, 3) := by decide +kernel
theorem dX11_exploreLanguage_45 : decode cX11_exploreLanguage 45 = .ok (.iconst 1, 1) := by decide +kernel
theorem dX11_exploreLanguage_46 : decode cX11_exploreLanguage 46 = .ok (.ireturn, 1) := by decide +kernel
set_option maxRecDepth 20000 in
theorem ggX11_exploreDifference_X0_restart : GoodIn wsX11_exploreDifference wsX0_restart := goodIn_r _ [9, 10, 11, 12, 13, 116, 117, 118, 119, 120, 121, 122, 123, 124, 125, 126, 127, 128, 129, 130] (by decide +kernel) (by decide +kernel)
set_option maxRecDepth 20000 in
theorem gX11_exploreDifference_X0_restart : GoodIn wsX11_exploreDifference (wsV RX11 319 RX0 yX0_restart wsX0_restart) := goodIn_app (goodIn_of _ (by decide +kernel)) ggX11_exploreDifference_X0_restart
set_option maxRecDepth 20000 in
theorem ggX11_exploreDifference_X2_addTestsTo : GoodIn wsX11_exploreDifference wsX2_addTestsTo := goodIn_r _ [18, 19, 20, 21, 22, 23, 24, 25, 26, 27, 131, 132, 133, 134, 135, 129, 130] (by decide +kernel) (by decide +kernel)
set_option maxRecDepth 20000 in
theorem gX11_exploreDifference_X2_addTestsTo : GoodIn wsX11_exploreDifference (wsV RX11 327 RX2 yX2_addTestsTo wsX2_addTestsTo) := goodIn_app (goodIn_of _ (by decide +kernel)) ggX11_exploreDifference_X2_addTestsTo
set_option maxRecDepth 20000 in
theorem ggX11_exploreDifference_X0_explore : GoodIn wsX11_exploreDifference wsX0_explore := goodIn_r _ [31, 32, 33, 13, 10, 11, 34, 35, 36, 37, 38, 39, 40, 41, 42, 43, 44, 45, 8, 46, 47, 48, 49, 50, 51, 52, 53, 54, 55, 56, 24, 57, 26, 58, 27, 59, 60, 61, 62, 63, 64, 65, 66, 67, 68, 69, 70, 71, 72, 73, 74, 75, 116, 117, 118, 119, 120, 121, 122, 123, 124, 125, 126, 127, 128, 129, 130, 136, 137, 138, 139, 140] (by decide +kernel) (by decide +kernel)
set_option maxRecDepth 20000 in
theorem gX11_exploreDifference_X0_explore : GoodIn wsX11_exploreDifference (wsV RX11 321 RX0 yX0_explore wsX0_explore) := goodIn_app (goodIn_of _ (by decide +kernel)) ggX11_exploreDifference_X0_explore
set_option maxRecDepth 20000 in
theorem ggX11_exploreDifference_X0_markDifference : GoodIn wsX11_exploreDifference wsX0_markDifference := goodIn_r _ [79, 13, 11, 34, 35, 80, 81, 82, 83, 84, 17, 85, 19, 86, 87, 88, 89, 24, 90, 27, 58, 91, 92, 93, 62, 94, 64, 65, 95, 96, 97, 98, 99, 116, 117, 118, 119, 120, 121, 122, 123, 124, 125, 126, 127, 128, 131, 132, 133, 134, 135, 129, 130, 136, 137, 138, 139, 140] (by decide +kernel) (by decide +kernel)
set_option maxRecDepth 20000 in
theorem gX11_exploreDifference_X0_markDifference : GoodIn wsX11_exploreDifference (wsV RX11 334 RX0 yX0_markDifference wsX0_markDifference) := goodIn_app (goodIn_of _ (by decide +kernel)) ggX11_exploreDifference_X0_markDifference
theorem dX11_exploreDifference_0 : decode cX11_exploreDifference 0 = .ok (.aload_n 0, 1) := by decide +kernel
theorem dX11_exploreDifference_1 : decode cX11_exploreDifference 1 = .ok (.getfield 54, 3) := by decide +kernel
theorem dX11_exploreDifference_4 : decode cX11_exploreDifference 4 = .ok (.aload_n 0, 1) := by decide +kernel
theorem dX11_exploreDifference_5 : decode cX11_exploreDifference 5 = .ok (.getfield 10, 3) := by decide +kernel
theorem dX11_exploreDifference_8 : decode cX11_exploreDifference 8 = .ok (.getfield 74, 3) := by decide +kernel
theorem dX11_exploreDifference_11 : decode cX11_exploreDifference 11 = .ok (.invokevirtual 319, 3) := by decide +kernel
theorem dX11_exploreDifference_14 : decode cX11_exploreDifference 14 = .ok (.aload_n 1, 1) := by decide +kernel
theorem dX11_exploreDifference_15 : decode cX11_exploreDifference 15 = .ok (.aload_n 0, 1) := by decide +kernel
theorem dX11_exploreDifference_16 : decode cX11_exploreDifference 16 = .ok (.getfield 54, 3) := by decide +kernel
theorem dX11_exploreDifference_19 : decode cX11_exploreDifference 19 = .ok (.getfield 320, 3) := by decide +kernel
theorem dX11_exploreDifference_22 : decode cX11_exploreDifference 22 = .ok (.invokevirtual 327, 3) := by decide +kernel
theorem dX11_exploreDifference_25 : decode cX11_exploreDifference 25 = .ok (.aload_n 2, 1) := by decide +kernel
theorem dX11_exploreDifference_26 : decode cX11_exploreDifference 26 = .ok (.aload_n 0, 1) := by decide +kernel
theorem dX11_exploreDifference_27 : decode cX11_exploreDifference 27 = .ok (.getfield 54, 3) := by decide +kernel
theorem dX11_exploreDifference_30 : decode cX11_exploreDifference 30 = .ok (.getfield 320, 3) := by decide +kernel
theorem dX11_exploreDifference_33 : decode cX11_exploreDifference 33 = .ok (.invokevirtual 327, 3) := by decide +kernel
theorem dX11_exploreDifference_36 : decode cX11_exploreDifference 36 = .ok (.aload_n 0, 1) := by decide +kernel
theorem dX11_exploreDifference_37 : decode cX11_exploreDifference 37 = .ok (.getfield 54, 3) := by decide +kernel
theorem dX11_exploreDifference_40 : decode cX11_exploreDifference 40 = .ok (.invokevirtual 321, 3) := by decide +kernel
theorem dX11_exploreDifference_43 : decode cX11_exploreDifference 43 = .ok (.ifCond .ne 5, 3) := by decide +kernel
theorem dX11_exploreDifference_46 : decode cX11_exploreDifference 46 = .ok (.iconst 0, 1) := by decide +kernel
theorem dX11_exploreDifference_47 : decode cX11_exploreDifference 47 = .ok (.ireturn, 1) := by decide +kernel
theorem dX11_exploreDifference_48 : decode cX11_exploreDifference 48 = .ok (.aload_n 0, 1) := by decide +kernel
theorem dX11_exploreDifference_49 : decode cX11_exploreDifference 49 = .ok (.getfield 54, 3) := by decide +kernel
theorem dX11_exploreDifference_52 : decode cX11_exploreDifference 52 = .ok (.aload_n 1, 1) := by decide +kernel
theorem dX11_exploreDifference_53 : decode cX11_exploreDifference 53 = .ok (.aload_n 2, 1) := by decide +kernel
theorem dX11_exploreDifference_54 : decode cX11_exploreDifference 54 = .ok (.invokevirtual 334, 3) := by decide +kernel
theorem dX11_exploreDifference_57 : decode cX11_exploreDifference 57 = .ok (.iconst 1, 1) := by decide +kernel
theorem dX11_exploreDifference_58 : decode cX11_exploreDifference 58 = .ok (.ireturn, 1) := by decide +kernel
set_option maxRecDepth 20000 in
theorem ggX11_takeFirst_X0_firstMarked : GoodIn wsX11_takeFirst wsX0_firstMarked := goodIn_r _ [7, 8, 9, 35, 36, 37, 38, 39, 40, 41, 42, 43, 44, 45, 46, 47] (by decide +kernel) (by decide +kernel)
set_option maxRecDepth 20000 in
theorem gX11_takeFirst_X0_firstMarked : GoodIn wsX11_takeFirst (wsV RX11 338 RX0 yX0_firstMarked wsX0_firstMarked) := goodIn_app (goodIn_of _ (by decide +kernel)) ggX11_takeFirst_X0_firstMarked
set_option maxRecDepth 20000 in
theorem ggX11_takeFirst_X0_spell : GoodIn wsX11_takeFirst wsX0_spell := goodIn_r _ [13, 14, 15, 16, 17, 18, 19, 20, 21, 22, 35, 36, 37, 38, 39, 40, 41, 42, 43, 44, 45, 46, 47, 48, 49, 50] (by decide +kernel) (by decide +kernel)
set_option maxRecDepth 20000 in
theorem gX11_takeFirst_X0_spell : GoodIn wsX11_takeFirst (wsV RX11 344 RX0 yX0_spell wsX0_spell) := goodIn_app (goodIn_of _ (by decide +kernel)) ggX11_takeFirst_X0_spell
theorem dX11_takeFirst_0 : decode cX11_takeFirst 0 = .ok (.aload_n 0, 1) := by decide +kernel
theorem dX11_takeFirst_1 : decode cX11_takeFirst 1 = .ok (.getfield 54, 3) := by decide +kernel
theorem dX11_takeFirst_4 : decode cX11_takeFirst 4 = .ok (.invokevirtual 338, 3) := by decide +kernel
theorem dX11_takeFirst_7 : decode cX11_takeFirst 7 = .ok (.istore_n 2, 1) := by decide +kernel
theorem dX11_takeFirst_8 : decode cX11_takeFirst 8 = .ok (.iload_n 2, 1) := by decide +kernel
theorem dX11_takeFirst_9 : decode cX11_takeFirst 9 = .ok (.ifCond .ge 6, 3) := by decide +kernel
theorem dX11_takeFirst_12 : decode cX11_takeFirst 12 = .ok (.bipush (-2), 2) := by decide +kernel
theorem dX11_takeFirst_14 : decode cX11_takeFirst 14 = .ok (.ireturn, 1) := by decide +kernel
theorem dX11_takeFirst_15 : decode cX11_takeFirst 15 = .ok (.aload_n 0, 1) := by decide +kernel
theorem dX11_takeFirst_16 : decode cX11_takeFirst 16 = .ok (.getfield 54, 3) := by decide +kernel
theorem dX11_takeFirst_19 : decode cX11_takeFirst 19 = .ok (.getfield 341, 3) := by decide +kernel
theorem dX11_takeFirst_22 : decode cX11_takeFirst 22 = .ok (.iload_n 2, 1) := by decide +kernel
theorem dX11_takeFirst_23 : decode cX11_takeFirst 23 = .ok (.iaload, 1) := by decide +kernel
theorem dX11_takeFirst_24 : decode cX11_takeFirst 24 = .ok (.istore_n 3, 1) := by decide +kernel
theorem dX11_takeFirst_25 : decode cX11_takeFirst 25 = .ok (.iload_n 3, 1) := by decide +kernel
theorem dX11_takeFirst_26 : decode cX11_takeFirst 26 = .ok (.bipush 12, 2) := by decide +kernel
theorem dX11_takeFirst_28 : decode cX11_takeFirst 28 = .ok (.if_icmp .gt 12, 3) := by decide +kernel
theorem dX11_takeFirst_31 : decode cX11_takeFirst 31 = .ok (.aload_n 0, 1) := by decide +kernel
theorem dX11_takeFirst_32 : decode cX11_takeFirst 32 = .ok (.getfield 54, 3) := by decide +kernel
theorem dX11_takeFirst_35 : decode cX11_takeFirst 35 = .ok (.iload_n 2, 1) := by decide +kernel
theorem dX11_takeFirst_36 : decode cX11_takeFirst 36 = .ok (.aload_n 1, 1) := by decide +kernel
theorem dX11_takeFirst_37 : decode cX11_takeFirst 37 = .ok (.invokevirtual 344, 3) := by decide +kernel
theorem dX11_takeFirst_40 : decode cX11_takeFirst 40 = .ok (.iload_n 3, 1) := by decide +kernel
theorem dX11_takeFirst_41 : decode cX11_takeFirst 41 = .ok (.ireturn, 1) := by decide +kernel
theorem dX12_init_0 : decode cX12_init 0 = .ok (.aload_n 0, 1) := by decide +kernel
theorem dX12_init_1 : decode cX12_init 1 = .ok (.invokespecial 1, 3) := by decide +kernel
theorem dX12_init_4 : decode cX12_init 4 = .ok (.aload_n 0, 1) := by decide +kernel
theorem dX12_init_5 : decode cX12_init 5 = .ok (.iconst 2, 1) := by decide +kernel
theorem dX12_init_6 : decode cX12_init 6 = .ok (.putfield 7, 3) := by decide +kernel
theorem dX12_init_9 : decode cX12_init 9 = .ok (.aload_n 0, 1) := by decide +kernel
theorem dX12_init_10 : decode cX12_init 10 = .ok (.iconst 3, 1) := by decide +kernel
theorem dX12_init_11 : decode cX12_init 11 = .ok (.newarray .int, 2) := by decide +kernel
theorem dX12_init_13 : decode cX12_init 13 = .ok (.putfield 13, 3) := by decide +kernel
theorem dX12_init_16 : decode cX12_init 16 = .ok (.aload_n 0, 1) := by decide +kernel
theorem dX12_init_17 : decode cX12_init 17 = .ok (.bipush 36, 2) := by decide +kernel
theorem dX12_init_19 : decode cX12_init 19 = .ok (.newarray .int, 2) := by decide +kernel
theorem dX12_init_21 : decode cX12_init 21 = .ok (.putfield 17, 3) := by decide +kernel
theorem dX12_init_24 : decode cX12_init 24 = .ok (.aload_n 0, 1) := by decide +kernel
theorem dX12_init_25 : decode cX12_init 25 = .ok (.bipush 13, 2) := by decide +kernel
theorem dX12_init_27 : decode cX12_init 27 = .ok (.newarray .int, 2) := by decide +kernel
theorem dX12_init_29 : decode cX12_init 29 = .ok (.putfield 20, 3) := by decide +kernel
theorem dX12_init_32 : decode cX12_init 32 = .ok (.aload_n 0, 1) := by decide +kernel
theorem dX12_init_33 : decode cX12_init 33 = .ok (.iconst 4, 1) := by decide +kernel
theorem dX12_init_34 : decode cX12_init 34 = .ok (.newarray .int, 2) := by decide +kernel
theorem dX12_init_36 : decode cX12_init 36 = .ok (.putfield 23, 3) := by decide +kernel
theorem dX12_init_39 : decode cX12_init 39 = .ok (.aload_n 0, 1) := by decide +kernel
theorem dX12_init_40 : decode cX12_init 40 = .ok (.bipush 6, 2) := by decide +kernel
theorem dX12_init_42 : decode cX12_init 42 = .ok (.newarray .int, 2) := by decide +kernel
theorem dX12_init_44 : decode cX12_init 44 = .ok (.putfield 26, 3) := by decide +kernel
theorem dX12_init_47 : decode cX12_init 47 = .ok (.aload_n 0, 1) := by decide +kernel
theorem dX12_init_48 : decode cX12_init 48 = .ok (.bipush 6, 2) := by decide +kernel
theorem dX12_init_50 : decode cX12_init 50 = .ok (.newarray .int, 2) := by decide +kernel
theorem dX12_init_52 : decode cX12_init 52 = .ok (.putfield 29, 3) := by decide +kernel
theorem dX12_init_55 : decode cX12_init 55 = .ok (.aload_n 0, 1) := by decide +kernel
theorem dX12_init_56 : decode cX12_init 56 = .ok (.bipush 6, 2) := by decide +kernel
theorem dX12_init_58 : decode cX12_init 58 = .ok (.newarray .int, 2) := by decide +kernel
theorem dX12_init_60 : decode cX12_init 60 = .ok (.putfield 32, 3) := by decide +kernel
theorem dX12_init_63 : decode cX12_init 63 = .ok (.aload_n 0, 1) := by decide +kernel
theorem dX12_init_64 : decode cX12_init 64 = .ok (.bipush 24, 2) := by decide +kernel
theorem dX12_init_66 : decode cX12_init 66 = .ok (.newarray .int, 2) := by decide +kernel
theorem dX12_init_68 : decode cX12_init 68 = .ok (.putfield 35, 3) := by decide +kernel
theorem dX12_init_71 : decode cX12_init 71 = .ok (.aload_n 0, 1) := by decide +kernel
theorem dX12_init_72 : decode cX12_init 72 = .ok (.bipush 8, 2) := by decide +kernel
theorem dX12_init_74 : decode cX12_init 74 = .ok (.newarray .int, 2) := by decide +kernel
theorem dX12_init_76 : decode cX12_init 76 = .ok (.putfield 38, 3) := by decide +kernel
theorem dX12_init_79 : decode cX12_init 79 = .ok (.aload_n 0, 1) := by decide +kernel
theorem dX12_init_80 : decode cX12_init 80 = .ok (.sipush 2187, 3) := by decide +kernel
theorem dX12_init_83 : decode cX12_init 83 = .ok (.newarray .int, 2) := by decide +kernel
theorem dX12_init_85 : decode cX12_init 85 = .ok (.putfield 41, 3) := by decide +kernel
theorem dX12_init_88 : decode cX12_init 88 = .ok (.aload_n 0, 1) := by decide +kernel
theorem dX12_init_89 : decode cX12_init 89 = .ok (.bipush 12, 2) := by decide +kernel
theorem dX12_init_91 : decode cX12_init 91 = .ok (.newarray .int, 2) := by decide +kernel
theorem dX12_init_93 : decode cX12_init 93 = .ok (.putfield 44, 3) := by decide +kernel
theorem dX12_init_96 : decode cX12_init 96 = .ok (.aload_n 0, 1) := by decide +kernel
theorem dX12_init_97 : decode cX12_init 97 = .ok (.iconst 4, 1) := by decide +kernel
theorem dX12_init_98 : decode cX12_init 98 = .ok (.newarray .int, 2) := by decide +kernel
theorem dX12_init_100 : decode cX12_init 100 = .ok (.putfield 47, 3) := by decide +kernel
theorem dX12_init_103 : decode cX12_init 103 = .ok (.aload_n 0, 1) := by decide +kernel
theorem dX12_init_104 : decode cX12_init 104 = .ok (.iconst 4, 1) := by decide +kernel
theorem dX12_init_105 : decode cX12_init 105 = .ok (.newarray .int, 2) := by decide +kernel
theorem dX12_init_107 : decode cX12_init 107 = .ok (.putfield 50, 3) := by decide +kernel
theorem dX12_init_110 : decode cX12_init 110 = .ok (.aload_n 0, 1) := by decide +kernel
theorem dX12_init_111 : decode cX12_init 111 = .ok (.iconst 4, 1) := by decide +kernel
theorem dX12_init_112 : decode cX12_init 112 = .ok (.newarray .int, 2) := by decide +kernel
theorem dX12_init_114 : decode cX12_init 114 = .ok (.putfield 53, 3) := by decide +kernel
theorem dX12_init_117 : decode cX12_init 117 = .ok (.aload_n 0, 1) := by decide +kernel
theorem dX12_init_118 : decode cX12_init 118 = .ok (.bipush 16, 2) := by decide +kernel
theorem dX12_init_120 : decode cX12_init 120 = .ok (.newarray .int, 2) := by decide +kernel
theorem dX12_init_122 : decode cX12_init 122 = .ok (.putfield 56, 3) := by decide +kernel
theorem dX12_init_125 : decode cX12_init 125 = .ok (.aload_n 0, 1) := by decide +kernel
theorem dX12_init_126 : decode cX12_init 126 = .ok (.bipush 16, 2) := by decide +kernel
theorem dX12_init_128 : decode cX12_init 128 = .ok (.newarray .int, 2) := by decide +kernel
theorem dX12_init_130 : decode cX12_init 130 = .ok (.putfield 59, 3) := by decide +kernel
theorem dX12_init_133 : decode cX12_init 133 = .ok (.aload_n 0, 1) := by decide +kernel
theorem dX12_init_134 : decode cX12_init 134 = .ok (.bipush 16, 2) := by decide +kernel
theorem dX12_init_136 : decode cX12_init 136 = .ok (.newarray .int, 2) := by decide +kernel
theorem dX12_init_138 : decode cX12_init 138 = .ok (.putfield 62, 3) := by decide +kernel
theorem dX12_init_141 : decode cX12_init 141 = .ok (.aload_n 0, 1) := by decide +kernel
theorem dX12_init_142 : decode cX12_init 142 = .ok (.bipush 16, 2) := by decide +kernel
theorem dX12_init_144 : decode cX12_init 144 = .ok (.newarray .int, 2) := by decide +kernel
theorem dX12_init_146 : decode cX12_init 146 = .ok (.putfield 65, 3) := by decide +kernel
theorem dX12_init_149 : decode cX12_init 149 = .ok (.aload_n 0, 1) := by decide +kernel
theorem dX12_init_150 : decode cX12_init 150 = .ok (.bipush 64, 2) := by decide +kernel
theorem dX12_init_152 : decode cX12_init 152 = .ok (.newarray .int, 2) := by decide +kernel
theorem dX12_init_154 : decode cX12_init 154 = .ok (.putfield 68, 3) := by decide +kernel
theorem dX12_init_157 : decode cX12_init 157 = .ok (.aload_n 0, 1) := by decide +kernel
theorem dX12_init_158 : decode cX12_init 158 = .ok (.iconst 4, 1) := by decide +kernel
theorem dX12_init_159 : decode cX12_init 159 = .ok (.newarray .int, 2) := by decide +kernel
theorem dX12_init_161 : decode cX12_init 161 = .ok (.putfield 71, 3) := by decide +kernel
theorem dX12_init_164 : decode cX12_init 164 = .ok (.aload_n 0, 1) := by decide +kernel
theorem dX12_init_165 : decode cX12_init 165 = .ok (.iconst 4, 1) := by decide +kernel
theorem dX12_init_166 : decode cX12_init 166 = .ok (.newarray .int, 2) := by decide +kernel
theorem dX12_init_168 : decode cX12_init 168 = .ok (.putfield 74, 3) := by decide +kernel
theorem dX12_init_171 : decode cX12_init 171 = .ok (.aload_n 0, 1) := by decide +kernel
theorem dX12_init_172 : decode cX12_init 172 = .ok (.iconst 4, 1) := by decide +kernel
theorem dX12_init_173 : decode cX12_init 173 = .ok (.newarray .int, 2) := by decide +kernel
theorem dX12_init_175 : decode cX12_init 175 = .ok (.putfield 77, 3) := by decide +kernel
theorem dX12_init_178 : decode cX12_init 178 = .ok (.aload_n 0, 1) := by decide +kernel
theorem dX12_init_179 : decode cX12_init 179 = .ok (.iconst 4, 1) := by decide +kernel
theorem dX12_init_180 : decode cX12_init 180 = .ok (.newarray .int, 2) := by decide +kernel
theorem dX12_init_182 : decode cX12_init 182 = .ok (.putfield 80, 3) := by decide +kernel
theorem dX12_init_185 : decode cX12_init 185 = .ok (.aload_n 0, 1) := by decide +kernel
theorem dX12_init_186 : decode cX12_init 186 = .ok (.bipush 16, 2) := by decide +kernel
theorem dX12_init_188 : decode cX12_init 188 = .ok (.newarray .int, 2) := by decide +kernel
theorem dX12_init_190 : decode cX12_init 190 = .ok (.putfield 83, 3) := by decide +kernel
theorem dX12_init_193 : decode cX12_init 193 = .ok (.aload_n 0, 1) := by decide +kernel
theorem dX12_init_194 : decode cX12_init 194 = .ok (.bipush 8, 2) := by decide +kernel
theorem dX12_init_196 : decode cX12_init 196 = .ok (.newarray .int, 2) := by decide +kernel
theorem dX12_init_198 : decode cX12_init 198 = .ok (.putfield 86, 3) := by decide +kernel
theorem dX12_init_201 : decode cX12_init 201 = .ok (.aload_n 0, 1) := by decide +kernel
theorem dX12_init_202 : decode cX12_init 202 = .ok (.bipush 8, 2) := by decide +kernel
theorem dX12_init_204 : decode cX12_init 204 = .ok (.newarray .int, 2) := by decide +kernel
theorem dX12_init_206 : decode cX12_init 206 = .ok (.putfield 89, 3) := by decide +kernel
theorem dX12_init_209 : decode cX12_init 209 = .ok (.aload_n 0, 1) := by decide +kernel
theorem dX12_init_210 : decode cX12_init 210 = .ok (.bipush 8, 2) := by decide +kernel
theorem dX12_init_212 : decode cX12_init 212 = .ok (.newarray .int, 2) := by decide +kernel
theorem dX12_init_214 : decode cX12_init 214 = .ok (.putfield 92, 3) := by decide +kernel
theorem dX12_init_217 : decode cX12_init 217 = .ok (.aload_n 0, 1) := by decide +kernel
theorem dX12_init_218 : decode cX12_init 218 = .ok (.bipush 8, 2) := by decide +kernel
theorem dX12_init_220 : decode cX12_init 220 = .ok (.newarray .int, 2) := by decide +kernel
theorem dX12_init_222 : decode cX12_init 222 = .ok (.putfield 95, 3) := by decide +kernel
theorem dX12_init_225 : decode cX12_init 225 = .ok (.aload_n 0, 1) := by decide +kernel
theorem dX12_init_226 : decode cX12_init 226 = .ok (.bipush 32, 2) := by decide +kernel
theorem dX12_init_228 : decode cX12_init 228 = .ok (.newarray .int, 2) := by decide +kernel
theorem dX12_init_230 : decode cX12_init 230 = .ok (.putfield 98, 3) := by decide +kernel
theorem dX12_init_233 : decode cX12_init 233 = .ok (.aload_n 0, 1) := by decide +kernel
theorem dX12_init_234 : decode cX12_init 234 = .ok (.iconst 4, 1) := by decide +kernel
theorem dX12_init_235 : decode cX12_init 235 = .ok (.newarray .int, 2) := by decide +kernel
theorem dX12_init_237 : decode cX12_init 237 = .ok (.putfield 101, 3) := by decide +kernel
theorem dX12_init_240 : decode cX12_init 240 = .ok (.aload_n 0, 1) := by decide +kernel
theorem dX12_init_241 : decode cX12_init 241 = .ok (.sipush 2000, 3) := by decide +kernel
theorem dX12_init_244 : decode cX12_init 244 = .ok (.newarray .long, 2) := by decide +kernel
theorem dX12_init_246 : decode cX12_init 246 = .ok (.putfield 104, 3) := by decide +kernel
theorem dX12_init_249 : decode cX12_init 249 = .ok (.aload_n 0, 1) := by decide +kernel
theorem dX12_init_250 : decode cX12_init 250 = .ok (.sipush 2000, 3) := by decide +kernel
theorem dX12_init_253 : decode cX12_init 253 = .ok (.newarray .long, 2) := by decide +kernel
theorem dX12_init_255 : decode cX12_init 255 = .ok (.putfield 108, 3) := by decide +kernel
theorem dX12_init_258 : decode cX12_init 258 = .ok (.aload_n 0, 1) := by decide +kernel
theorem dX12_init_259 : decode cX12_init 259 = .ok (.sipush 8192, 3) := by decide +kernel
theorem dX12_init_262 : decode cX12_init 262 = .ok (.newarray .long, 2) := by decide +kernel
theorem dX12_init_264 : decode cX12_init 264 = .ok (.putfield 111, 3) := by decide +kernel
theorem dX12_init_267 : decode cX12_init 267 = .ok (.aload_n 0, 1) := by decide +kernel
theorem dX12_init_268 : decode cX12_init 268 = .ok (.sipush 8192, 3) := by decide +kernel
theorem dX12_init_271 : decode cX12_init 271 = .ok (.newarray .long, 2) := by decide +kernel
theorem dX12_init_273 : decode cX12_init 273 = .ok (.putfield 114, 3) := by decide +kernel
theorem dX12_init_276 : decode cX12_init 276 = .ok (.aload_n 0, 1) := by decide +kernel
theorem dX12_init_277 : decode cX12_init 277 = .ok (.sipush 8192, 3) := by decide +kernel
theorem dX12_init_280 : decode cX12_init 280 = .ok (.newarray .int, 2) := by decide +kernel
theorem dX12_init_282 : decode cX12_init 282 = .ok (.putfield 117, 3) := by decide +kernel
theorem dX12_init_285 : decode cX12_init 285 = .ok (.aload_n 0, 1) := by decide +kernel
theorem dX12_init_286 : decode cX12_init 286 = .ok (.sipush 6000, 3) := by decide +kernel
theorem dX12_init_289 : decode cX12_init 289 = .ok (.newarray .int, 2) := by decide +kernel
theorem dX12_init_291 : decode cX12_init 291 = .ok (.putfield 120, 3) := by decide +kernel
theorem dX12_init_294 : decode cX12_init 294 = .ok (.aload_n 0, 1) := by decide +kernel
theorem dX12_init_295 : decode cX12_init 295 = .ok (.sipush 2000, 3) := by decide +kernel
theorem dX12_init_298 : decode cX12_init 298 = .ok (.newarray .int, 2) := by decide +kernel
theorem dX12_init_300 : decode cX12_init 300 = .ok (.putfield 123, 3) := by decide +kernel
theorem dX12_init_303 : decode cX12_init 303 = .ok (.aload_n 0, 1) := by decide +kernel
theorem dX12_init_304 : decode cX12_init 304 = .ok (.sipush 2000, 3) := by decide +kernel
theorem dX12_init_307 : decode cX12_init 307 = .ok (.newarray .int, 2) := by decide +kernel
theorem dX12_init_309 : decode cX12_init 309 = .ok (.putfield 126, 3) := by decide +kernel
theorem dX12_init_312 : decode cX12_init 312 = .ok (.aload_n 0, 1) := by decide +kernel
theorem dX12_init_313 : decode cX12_init 313 = .ok (.sipush 2000, 3) := by decide +kernel
theorem dX12_init_316 : decode cX12_init 316 = .ok (.newarray .int, 2) := by decide +kernel
theorem dX12_init_318 : decode cX12_init 318 = .ok (.putfield 129, 3) := by decide +kernel
theorem dX12_init_321 : decode cX12_init 321 = .ok (.aload_n 0, 1) := by decide +kernel
theorem dX12_init_322 : decode cX12_init 322 = .ok (.sipush 2000, 3) := by decide +kernel
theorem dX12_init_325 : decode cX12_init 325 = .ok (.newarray .int, 2) := by decide +kernel
theorem dX12_init_327 : decode cX12_init 327 = .ok (.putfield 132, 3) := by decide +kernel
theorem dX12_init_330 : decode cX12_init 330 = .ok (.aload_n 0, 1) := by decide +kernel
theorem dX12_init_331 : decode cX12_init 331 = .ok (.sipush 2000, 3) := by decide +kernel
theorem dX12_init_334 : decode cX12_init 334 = .ok (.newarray .int, 2) := by decide +kernel
theorem dX12_init_336 : decode cX12_init 336 = .ok (.putfield 135, 3) := by decide +kernel
theorem dX12_init_339 : decode cX12_init 339 = .ok (.aload_n 0, 1) := by decide +kernel
theorem dX12_init_340 : decode cX12_init 340 = .ok (.ldc 138, 2) := by decide +kernel
theorem dX12_init_342 : decode cX12_init 342 = .ok (.newarray .int, 2) := by decide +kernel
theorem dX12_init_344 : decode cX12_init 344 = .ok (.putfield 139, 3) := by decide +kernel
theorem dX12_init_347 : decode cX12_init 347 = .ok (.aload_n 0, 1) := by decide +kernel
theorem dX12_init_348 : decode cX12_init 348 = .ok (.sipush 400, 3) := by decide +kernel
theorem dX12_init_351 : decode cX12_init 351 = .ok (.newarray .int, 2) := by decide +kernel
theorem dX12_init_353 : decode cX12_init 353 = .ok (.putfield 142, 3) := by decide +kernel
theorem dX12_init_356 : decode cX12_init 356 = .ok (.aload_n 0, 1) := by decide +kernel
theorem dX12_init_357 : decode cX12_init 357 = .ok (.sipush 2000, 3) := by decide +kernel
theorem dX12_init_360 : decode cX12_init 360 = .ok (.newarray .long, 2) := by decide +kernel
theorem dX12_init_362 : decode cX12_init 362 = .ok (.putfield 145, 3) := by decide +kernel
theorem dX12_init_365 : decode cX12_init 365 = .ok (.aload_n 0, 1) := by decide +kernel
theorem dX12_init_366 : decode cX12_init 366 = .ok (.sipush 2000, 3) := by decide +kernel
theorem dX12_init_369 : decode cX12_init 369 = .ok (.newarray .long, 2) := by decide +kernel
theorem dX12_init_371 : decode cX12_init 371 = .ok (.putfield 148, 3) := by decide +kernel
theorem dX12_init_374 : decode cX12_init 374 = .ok (.aload_n 0, 1) := by decide +kernel
theorem dX12_init_375 : decode cX12_init 375 = .ok (.bipush 21, 2) := by decide +kernel
theorem dX12_init_377 : decode cX12_init 377 = .ok (.newarray .long, 2) := by decide +kernel
theorem dX12_init_379 : decode cX12_init 379 = .ok (.putfield 151, 3) := by decide +kernel
theorem dX12_init_382 : decode cX12_init 382 = .ok (.aload_n 0, 1) := by decide +kernel
theorem dX12_init_383 : decode cX12_init 383 = .ok (.iconst 3, 1) := by decide +kernel
theorem dX12_init_384 : decode cX12_init 384 = .ok (.newarray .int, 2) := by decide +kernel
theorem dX12_init_386 : decode cX12_init 386 = .ok (.putfield 154, 3) := by decide +kernel
theorem dX12_init_389 : decode cX12_init 389 = .ok (.aload_n 0, 1) := by decide +kernel
theorem dX12_init_390 : decode cX12_init 390 = .ok (.iconst 3, 1) := by decide +kernel
theorem dX12_init_391 : decode cX12_init 391 = .ok (.newarray .int, 2) := by decide +kernel
theorem dX12_init_393 : decode cX12_init 393 = .ok (.putfield 157, 3) := by decide +kernel
theorem dX12_init_396 : decode cX12_init 396 = .ok (.aload_n 0, 1) := by decide +kernel
theorem dX12_init_397 : decode cX12_init 397 = .ok (.bipush 63, 2) := by decide +kernel
theorem dX12_init_399 : decode cX12_init 399 = .ok (.newarray .int, 2) := by decide +kernel
theorem dX12_init_401 : decode cX12_init 401 = .ok (.putfield 160, 3) := by decide +kernel
theorem dX12_init_404 : decode cX12_init 404 = .ok (.aload_n 0, 1) := by decide +kernel
theorem dX12_init_405 : decode cX12_init 405 = .ok (.bipush 21, 2) := by decide +kernel
theorem dX12_init_407 : decode cX12_init 407 = .ok (.newarray .int, 2) := by decide +kernel
theorem dX12_init_409 : decode cX12_init 409 = .ok (.putfield 163, 3) := by decide +kernel
theorem dX12_init_412 : decode cX12_init 412 = .ok (.aload_n 0, 1) := by decide +kernel
theorem dX12_init_413 : decode cX12_init 413 = .ok (.sipush 240, 3) := by decide +kernel
theorem dX12_init_416 : decode cX12_init 416 = .ok (.newarray .int, 2) := by decide +kernel
theorem dX12_init_418 : decode cX12_init 418 = .ok (.putfield 166, 3) := by decide +kernel
theorem dX12_init_421 : decode cX12_init 421 = .ok (.iconst 0, 1) := by decide +kernel
theorem dX12_init_422 : decode cX12_init 422 = .ok (.istore_n 1, 1) := by decide +kernel
theorem dX12_init_423 : decode cX12_init 423 = .ok (.iload_n 1, 1) := by decide +kernel
theorem dX12_init_424 : decode cX12_init 424 = .ok (.iconst 4, 1) := by decide +kernel
theorem dX12_init_425 : decode cX12_init 425 = .ok (.if_icmp .ge 16, 3) := by decide +kernel
theorem dX12_init_428 : decode cX12_init 428 = .ok (.aload_n 0, 1) := by decide +kernel
theorem dX12_init_429 : decode cX12_init 429 = .ok (.getfield 47, 3) := by decide +kernel
theorem dX12_init_432 : decode cX12_init 432 = .ok (.iload_n 1, 1) := by decide +kernel
theorem dX12_init_433 : decode cX12_init 433 = .ok (.iconst (-1), 1) := by decide +kernel
theorem dX12_init_434 : decode cX12_init 434 = .ok (.iastore, 1) := by decide +kernel
theorem dX12_init_435 : decode cX12_init 435 = .ok (.iinc 1 1, 3) := by decide +kernel
theorem dX12_init_438 : decode cX12_init 438 = .ok (.goto (-15), 3) := by decide +kernel
theorem dX12_init_441 : decode cX12_init 441 = .ok (.iconst 0, 1) := by decide +kernel
theorem dX12_init_442 : decode cX12_init 442 = .ok (.istore_n 1, 1) := by decide +kernel
theorem dX12_init_443 : decode cX12_init 443 = .ok (.iload_n 1, 1) := by decide +kernel
theorem dX12_init_444 : decode cX12_init 444 = .ok (.iconst 3, 1) := by decide +kernel
theorem dX12_init_445 : decode cX12_init 445 = .ok (.if_icmp .ge 16, 3) := by decide +kernel
theorem dX12_init_448 : decode cX12_init 448 = .ok (.aload_n 0, 1) := by decide +kernel
theorem dX12_init_449 : decode cX12_init 449 = .ok (.getfield 154, 3) := by decide +kernel
theorem dX12_init_452 : decode cX12_init 452 = .ok (.iload_n 1, 1) := by decide +kernel
theorem dX12_init_453 : decode cX12_init 453 = .ok (.iconst (-1), 1) := by decide +kernel
theorem dX12_init_454 : decode cX12_init 454 = .ok (.iastore, 1) := by decide +kernel
theorem dX12_init_455 : decode cX12_init 455 = .ok (.iinc 1 1, 3) := by decide +kernel
theorem dX12_init_458 : decode cX12_init 458 = .ok (.goto (-15), 3) := by decide +kernel
theorem dX12_init_461 : decode cX12_init 461 = .ok (.return_, 1) := by decide +kernel
theorem dX12_isBetween_0 : decode cX12_isBetween 0 = .ok (.iload_n 0, 1) := by decide +kernel
theorem dX12_isBetween_1 : decode cX12_isBetween 1 = .ok (.iload_n 1, 1) := by decide +kernel
theorem dX12_isBetween_2 : decode cX12_isBetween 2 = .ok (.if_icmp .lt 12, 3) := by decide +kernel
theorem dX12_isBetween_5 : decode cX12_isBetween 5 = .ok (.iload_n 0, 1) := by decide +kernel
theorem dX12_isBetween_6 : decode cX12_isBetween 6 = .ok (.iload_n 2, 1) := by decide +kernel
theorem dX12_isBetween_7 : decode cX12_isBetween 7 = .ok (.if_icmp .gt 7, 3) := by decide +kernel
theorem dX12_isBetween_10 : decode cX12_isBetween 10 = .ok (.iconst 1, 1) := by decide +kernel
theorem dX12_isBetween_11 : decode cX12_isBetween 11 = .ok (.goto 4, 3) := by decide +kernel
theorem dX12_isBetween_14 : decode cX12_isBetween 14 = .ok (.iconst 0, 1) := by decide +kernel
theorem dX12_isBetween_15 : decode cX12_isBetween 15 = .ok (.ireturn, 1) := by decide +kernel
set_option maxRecDepth 20000 in
theorem ggX12_isWord_X12_isBetween : GoodIn wsX12_isWord wsX12_isBetween := goodIn_r _ [4] (by decide +kernel) (by decide +kernel)
set_option maxRecDepth 20000 in
theorem gX12_isWord_X12_isBetween : GoodIn wsX12_isWord (va_wsS RX12 169 yX12_isBetween wsX12_isBetween) := goodIn_app (goodIn_of _ (by decide +kernel)) ggX12_isWord_X12_isBetween
theorem dX12_isWord_0 : decode cX12_isWord 0 = .ok (.iload_n 0, 1) := by decide +kernel
theorem dX12_isWord_1 : decode cX12_isWord 1 = .ok (.iconst 0, 1) := by decide +kernel
theorem dX12_isWord_2 : decode cX12_isWord 2 = .ok (.iconst 2, 1) := by decide +kernel
theorem dX12_isWord_3 : decode cX12_isWord 3 = .ok (.invokestatic 169, 3) := by decide +kernel
theorem dX12_isWord_6 : decode cX12_isWord 6 = .ok (.ireturn, 1) := by decide +kernel
set_option maxRecDepth 20000 in
theorem ggX12_setLetters_X12_isBetween : GoodIn wsX12_setLetters wsX12_isBetween := goodIn_r _ [8] (by decide +kernel) (by decide +kernel)
set_option maxRecDepth 20000 in
theorem gX12_setLetters_X12_isBetween : GoodIn wsX12_setLetters (va_wsS RX12 169 yX12_isBetween wsX12_isBetween) := goodIn_app (goodIn_of _ (by decide +kernel)) ggX12_setLetters_X12_isBetween
theorem dX12_setLetters_0 : decode cX12_setLetters 0 = .ok (.iload_n 1, 1) := by decide +kernel
theorem dX12_setLetters_1 : decode cX12_setLetters 1 = .ok (.iconst 1, 1) := by decide +kernel
theorem dX12_setLetters_2 : decode cX12_setLetters 2 = .ok (.iconst 3, 1) := by decide +kernel
theorem dX12_setLetters_3 : decode cX12_setLetters 3 = .ok (.invokestatic 169, 3) := by decide +kernel
theorem dX12_setLetters_6 : decode cX12_setLetters 6 = .ok (.ifCond .ne 5, 3) := by decide +kernel
theorem dX12_setLetters_9 : decode cX12_setLetters 9 = .ok (.iconst (-1), 1) := by decide +kernel
theorem dX12_setLetters_10 : decode cX12_setLetters 10 = .ok (.ireturn, 1) := by decide +kernel
theorem dX12_setLetters_11 : decode cX12_setLetters 11 = .ok (.aload_n 0, 1) := by decide +kernel
theorem dX12_setLetters_12 : decode cX12_setLetters 12 = .ok (.getfield 7, 3) := by decide +kernel
theorem dX12_setLetters_15 : decode cX12_setLetters 15 = .ok (.istore_n 2, 1) := by decide +kernel
theorem dX12_setLetters_16 : decode cX12_setLetters 16 = .ok (.aload_n 0, 1) := by decide +kernel
theorem dX12_setLetters_17 : decode cX12_setLetters 17 = .ok (.iload_n 1, 1) := by decide +kernel
theorem dX12_setLetters_18 : decode cX12_setLetters 18 = .ok (.putfield 7, 3) := by decide +kernel
theorem dX12_setLetters_21 : decode cX12_setLetters 21 = .ok (.iconst 0, 1) := by decide +kernel
theorem dX12_setLetters_22 : decode cX12_setLetters 22 = .ok (.istore_n 3, 1) := by decide +kernel
theorem dX12_setLetters_23 : decode cX12_setLetters 23 = .ok (.iload_n 3, 1) := by decide +kernel
theorem dX12_setLetters_24 : decode cX12_setLetters 24 = .ok (.iconst 3, 1) := by decide +kernel
theorem dX12_setLetters_25 : decode cX12_setLetters 25 = .ok (.if_icmp .ge 16, 3) := by decide +kernel
theorem dX12_setLetters_28 : decode cX12_setLetters 28 = .ok (.aload_n 0, 1) := by decide +kernel
theorem dX12_setLetters_29 : decode cX12_setLetters 29 = .ok (.getfield 13, 3) := by decide +kernel
theorem dX12_setLetters_32 : decode cX12_setLetters 32 = .ok (.iload_n 3, 1) := by decide +kernel
theorem dX12_setLetters_33 : decode cX12_setLetters 33 = .ok (.iconst 0, 1) := by decide +kernel
theorem dX12_setLetters_34 : decode cX12_setLetters 34 = .ok (.iastore, 1) := by decide +kernel
theorem dX12_setLetters_35 : decode cX12_setLetters 35 = .ok (.iinc 3 1, 3) := by decide +kernel
theorem dX12_setLetters_38 : decode cX12_setLetters 38 = .ok (.goto (-15), 3) := by decide +kernel
theorem dX12_setLetters_41 : decode cX12_setLetters 41 = .ok (.iconst 0, 1) := by decide +kernel
theorem dX12_setLetters_42 : decode cX12_setLetters 42 = .ok (.istore_n 3, 1) := by decide +kernel
theorem dX12_setLetters_43 : decode cX12_setLetters 43 = .ok (.iload_n 3, 1) := by decide +kernel
theorem dX12_setLetters_44 : decode cX12_setLetters 44 = .ok (.iconst 4, 1) := by decide +kernel
theorem dX12_setLetters_45 : decode cX12_setLetters 45 = .ok (.if_icmp .ge 16, 3) := by decide +kernel
theorem dX12_setLetters_48 : decode cX12_setLetters 48 = .ok (.aload_n 0, 1) := by decide +kernel
theorem dX12_setLetters_49 : decode cX12_setLetters 49 = .ok (.getfield 47, 3) := by decide +kernel
theorem dX12_setLetters_52 : decode cX12_setLetters 52 = .ok (.iload_n 3, 1) := by decide +kernel
theorem dX12_setLetters_53 : decode cX12_setLetters 53 = .ok (.iconst (-1), 1) := by decide +kernel
theorem dX12_setLetters_54 : decode cX12_setLetters 54 = .ok (.iastore, 1) := by decide +kernel
theorem dX12_setLetters_55 : decode cX12_setLetters 55 = .ok (.iinc 3 1, 3) := by decide +kernel
theorem dX12_setLetters_58 : decode cX12_setLetters 58 = .ok (.goto (-15), 3) := by decide +kernel
theorem dX12_setLetters_61 : decode cX12_setLetters 61 = .ok (.aload_n 0, 1) := by decide +kernel
theorem dX12_setLetters_62 : decode cX12_setLetters 62 = .ok (.iconst 0, 1) := by decide +kernel
theorem dX12_setLetters_63 : decode cX12_setLetters 63 = .ok (.putfield 173, 3) := by decide +kernel
theorem dX12_setLetters_66 : decode cX12_setLetters 66 = .ok (.iload_n 2, 1) := by decide +kernel
theorem dX12_setLetters_67 : decode cX12_setLetters 67 = .ok (.ireturn, 1) := by decide +kernel
theorem dX12_letters_0 : decode cX12_letters 0 = .ok (.aload_n 0, 1) := by decide +kernel
theorem dX12_letters_1 : decode cX12_letters 1 = .ok (.getfield 7, 3) := by decide +kernel
theorem dX12_letters_4 : decode cX12_letters 4 = .ok (.ireturn, 1) := by decide +kernel
set_option maxRecDepth 20000 in
theorem ggX12_append_X12_isWord : GoodIn wsX12_append wsX12_isWord := goodIn_r _ [7, 8, 9, 6, 10] (by decide +kernel) (by decide +kernel)
set_option maxRecDepth 20000 in
theorem gX12_append_X12_isWord : GoodIn wsX12_append (va_wsS RX12 176 yX12_isWord wsX12_isWord) := goodIn_app (goodIn_of _ (by decide +kernel)) ggX12_append_X12_isWord
set_option maxRecDepth 20000 in
theorem ggX12_append_X12_isBetween : GoodIn wsX12_append wsX12_isBetween := goodIn_r _ [10] (by decide +kernel) (by decide +kernel)
set_option maxRecDepth 20000 in
theorem gX12_append_X12_isBetween : GoodIn wsX12_append (va_wsS RX12 169 yX12_isBetween wsX12_isBetween) := goodIn_app (goodIn_of _ (by decide +kernel)) ggX12_append_X12_isBetween
theorem dX12_append_0 : decode cX12_append 0 = .ok (.iload_n 1, 1) := by decide +kernel
theorem dX12_append_1 : decode cX12_append 1 = .ok (.invokestatic 176, 3) := by decide +kernel
theorem dX12_append_4 : decode cX12_append 4 = .ok (.ifCond .eq 17, 3) := by decide +kernel
theorem dX12_append_7 : decode cX12_append 7 = .ok (.iload_n 2, 1) := by decide +kernel
theorem dX12_append_8 : decode cX12_append 8 = .ok (.iconst 0, 1) := by decide +kernel
theorem dX12_append_9 : decode cX12_append 9 = .ok (.aload_n 0, 1) := by decide +kernel
theorem dX12_append_10 : decode cX12_append 10 = .ok (.getfield 7, 3) := by decide +kernel
theorem dX12_append_13 : decode cX12_append 13 = .ok (.iconst 1, 1) := by decide +kernel
theorem dX12_append_14 : decode cX12_append 14 = .ok (.isub, 1) := by decide +kernel
theorem dX12_append_15 : decode cX12_append 15 = .ok (.invokestatic 169, 3) := by decide +kernel
theorem dX12_append_18 : decode cX12_append 18 = .ok (.ifCond .ne 5, 3) := by decide +kernel
theorem dX12_append_21 : decode cX12_append 21 = .ok (.iconst (-1), 1) := by decide +kernel
theorem dX12_append_22 : decode cX12_append 22 = .ok (.ireturn, 1) := by decide +kernel
theorem dX12_append_23 : decode cX12_append 23 = .ok (.aload_n 0, 1) := by decide +kernel
theorem dX12_append_24 : decode cX12_append 24 = .ok (.getfield 13, 3) := by decide +kernel
theorem dX12_append_27 : decode cX12_append 27 = .ok (.iload_n 1, 1) := by decide +kernel
theorem dX12_append_28 : decode cX12_append 28 = .ok (.iaload, 1) := by decide +kernel
theorem dX12_append_29 : decode cX12_append 29 = .ok (.bipush 12, 2) := by decide +kernel
theorem dX12_append_31 : decode cX12_append 31 = .ok (.if_icmp .ne 6, 3) := by decide +kernel
theorem dX12_append_34 : decode cX12_append 34 = .ok (.bipush (-3), 2) := by decide +kernel
theorem dX12_append_36 : decode cX12_append 36 = .ok (.ireturn, 1) := by decide +kernel
theorem dX12_append_37 : decode cX12_append 37 = .ok (.aload_n 0, 1) := by decide +kernel
theorem dX12_append_38 : decode cX12_append 38 = .ok (.getfield 17, 3) := by decide +kernel
theorem dX12_append_41 : decode cX12_append 41 = .ok (.bipush 12, 2) := by decide +kernel
theorem dX12_append_43 : decode cX12_append 43 = .ok (.iload_n 1, 1) := by decide +kernel
theorem dX12_append_44 : decode cX12_append 44 = .ok (.imul, 1) := by decide +kernel
theorem dX12_append_45 : decode cX12_append 45 = .ok (.aload_n 0, 1) := by decide +kernel
theorem dX12_append_46 : decode cX12_append 46 = .ok (.getfield 13, 3) := by decide +kernel
theorem dX12_append_49 : decode cX12_append 49 = .ok (.iload_n 1, 1) := by decide +kernel
theorem dX12_append_50 : decode cX12_append 50 = .ok (.iaload, 1) := by decide +kernel
theorem dX12_append_51 : decode cX12_append 51 = .ok (.iadd, 1) := by decide +kernel
theorem dX12_append_52 : decode cX12_append 52 = .ok (.iload_n 2, 1) := by decide +kernel
theorem dX12_append_53 : decode cX12_append 53 = .ok (.iastore, 1) := by decide +kernel
theorem dX12_append_54 : decode cX12_append 54 = .ok (.aload_n 0, 1) := by decide +kernel
theorem dX12_append_55 : decode cX12_append 55 = .ok (.getfield 13, 3) := by decide +kernel
theorem dX12_append_58 : decode cX12_append 58 = .ok (.iload_n 1, 1) := by decide +kernel
theorem dX12_append_59 : decode cX12_append 59 = .ok (.dup2, 1) := by decide +kernel
theorem dX12_append_60 : decode cX12_append 60 = .ok (.iaload, 1) := by decide +kernel
theorem dX12_append_61 : decode cX12_append 61 = .ok (.iconst 1, 1) := by decide +kernel
theorem dX12_append_62 : decode cX12_append 62 = .ok (.iadd, 1) := by decide +kernel
theorem dX12_append_63 : decode cX12_append 63 = .ok (.iastore, 1) := by decide +kernel
theorem dX12_append_64 : decode cX12_append 64 = .ok (.aload_n 0, 1) := by decide +kernel
theorem dX12_append_65 : decode cX12_append 65 = .ok (.getfield 13, 3) := by decide +kernel
theorem dX12_append_68 : decode cX12_append 68 = .ok (.iload_n 1, 1) := by decide +kernel
theorem dX12_append_69 : decode cX12_append 69 = .ok (.iaload, 1) := by decide +kernel
theorem dX12_append_70 : decode cX12_append 70 = .ok (.ireturn, 1) := by decide +kernel
set_option maxRecDepth 20000 in
theorem ggX12_clearWord_X12_isWord : GoodIn wsX12_clearWord wsX12_isWord := goodIn_r _ [5, 6, 7, 4, 8] (by decide +kernel) (by decide +kernel)
set_option maxRecDepth 20000 in
theorem gX12_clearWord_X12_isWord : GoodIn wsX12_clearWord (va_wsS RX12 176 yX12_isWord wsX12_isWord) := goodIn_app (goodIn_of _ (by decide +kernel)) ggX12_clearWord_X12_isWord
theorem dX12_clearWord_0 : decode cX12_clearWord 0 = .ok (.iload_n 1, 1) := by decide +kernel
theorem dX12_clearWord_1 : decode cX12_clearWord 1 = .ok (.invokestatic 176, 3) := by decide +kernel
theorem dX12_clearWord_4 : decode cX12_clearWord 4 = .ok (.ifCond .ne 5, 3) := by decide +kernel
theorem dX12_clearWord_7 : decode cX12_clearWord 7 = .ok (.iconst (-1), 1) := by decide +kernel
theorem dX12_clearWord_8 : decode cX12_clearWord 8 = .ok (.ireturn, 1) := by decide +kernel
theorem dX12_clearWord_9 : decode cX12_clearWord 9 = .ok (.aload_n 0, 1) := by decide +kernel
theorem dX12_clearWord_10 : decode cX12_clearWord 10 = .ok (.getfield 13, 3) := by decide +kernel
theorem dX12_clearWord_13 : decode cX12_clearWord 13 = .ok (.iload_n 1, 1) := by decide +kernel
theorem dX12_clearWord_14 : decode cX12_clearWord 14 = .ok (.iaload, 1) := by decide +kernel
theorem dX12_clearWord_15 : decode cX12_clearWord 15 = .ok (.istore_n 2, 1) := by decide +kernel
theorem dX12_clearWord_16 : decode cX12_clearWord 16 = .ok (.aload_n 0, 1) := by decide +kernel
theorem dX12_clearWord_17 : decode cX12_clearWord 17 = .ok (.getfield 13, 3) := by decide +kernel
theorem dX12_clearWord_20 : decode cX12_clearWord 20 = .ok (.iload_n 1, 1) := by decide +kernel
theorem dX12_clearWord_21 : decode cX12_clearWord 21 = .ok (.iconst 0, 1) := by decide +kernel
theorem dX12_clearWord_22 : decode cX12_clearWord 22 = .ok (.iastore, 1) := by decide +kernel
theorem dX12_clearWord_23 : decode cX12_clearWord 23 = .ok (.iload_n 2, 1) := by decide +kernel
theorem dX12_clearWord_24 : decode cX12_clearWord 24 = .ok (.ireturn, 1) := by decide +kernel
set_option maxRecDepth 20000 in
theorem ggX12_length_X12_isWord : GoodIn wsX12_length wsX12_isWord := goodIn_r _ [5, 6, 7, 4, 8] (by decide +kernel) (by decide +kernel)
set_option maxRecDepth 20000 in
theorem gX12_length_X12_isWord : GoodIn wsX12_length (va_wsS RX12 176 yX12_isWord wsX12_isWord) := goodIn_app (goodIn_of _ (by decide +kernel)) ggX12_length_X12_isWord
theorem dX12_length_0 : decode cX12_length 0 = .ok (.iload_n 1, 1) := by decide +kernel
theorem dX12_length_1 : decode cX12_length 1 = .ok (.invokestatic 176, 3) := by decide +kernel
theorem dX12_length_4 : decode cX12_length 4 = .ok (.ifCond .eq 12, 3) := by decide +kernel
theorem dX12_length_7 : decode cX12_length 7 = .ok (.aload_n 0, 1) := by decide +kernel
theorem dX12_length_8 : decode cX12_length 8 = .ok (.getfield 13, 3) := by decide +kernel
theorem dX12_length_11 : decode cX12_length 11 = .ok (.iload_n 1, 1) := by decide +kernel
theorem dX12_length_12 : decode cX12_length 12 = .ok (.iaload, 1) := by decide +kernel
theorem dX12_length_13 : decode cX12_length 13 = .ok (.goto 4, 3) := by decide +kernel
theorem dX12_length_16 : decode cX12_length 16 = .ok (.iconst (-1), 1) := by decide +kernel
theorem dX12_length_17 : decode cX12_length 17 = .ok (.ireturn, 1) := by decide +kernel
set_option maxRecDepth 20000 in
theorem ggX12_letter_X12_isWord : GoodIn wsX12_letter wsX12_isWord := goodIn_r _ [6, 7, 8, 5, 9] (by decide +kernel) (by decide +kernel)
set_option maxRecDepth 20000 in
theorem gX12_letter_X12_isWord : GoodIn wsX12_letter (va_wsS RX12 176 yX12_isWord wsX12_isWord) := goodIn_app (goodIn_of _ (by decide +kernel)) ggX12_letter_X12_isWord
set_option maxRecDepth 20000 in
theorem ggX12_letter_X12_isBetween : GoodIn wsX12_letter wsX12_isBetween := goodIn_r _ [9] (by decide +kernel) (by decide +kernel)
set_option maxRecDepth 20000 in
theorem gX12_letter_X12_isBetween : GoodIn wsX12_letter (va_wsS RX12 169 yX12_isBetween wsX12_isBetween) := goodIn_app (goodIn_of _ (by decide +kernel)) ggX12_letter_X12_isBetween
theorem dX12_letter_0 : decode cX12_letter 0 = .ok (.iload_n 1, 1) := by decide +kernel
theorem dX12_letter_1 : decode cX12_letter 1 = .ok (.invokestatic 176, 3) := by decide +kernel
theorem dX12_letter_4 : decode cX12_letter 4 = .ok (.ifCond .ne 5, 3) := by decide +kernel
theorem dX12_letter_7 : decode cX12_letter 7 = .ok (.iconst (-1), 1) := by decide +kernel
theorem dX12_letter_8 : decode cX12_letter 8 = .ok (.ireturn, 1) := by decide +kernel
theorem dX12_letter_9 : decode cX12_letter 9 = .ok (.iload_n 2, 1) := by decide +kernel
theorem dX12_letter_10 : decode cX12_letter 10 = .ok (.iconst 0, 1) := by decide +kernel
theorem dX12_letter_11 : decode cX12_letter 11 = .ok (.aload_n 0, 1) := by decide +kernel
theorem dX12_letter_12 : decode cX12_letter 12 = .ok (.getfield 13, 3) := by decide +kernel
theorem dX12_letter_15 : decode cX12_letter 15 = .ok (.iload_n 1, 1) := by decide +kernel
theorem dX12_letter_16 : decode cX12_letter 16 = .ok (.iaload, 1) := by decide +kernel
theorem dX12_letter_17 : decode cX12_letter 17 = .ok (.iconst 1, 1) := by decide +kernel
theorem dX12_letter_18 : decode cX12_letter 18 = .ok (.isub, 1) := by decide +kernel
theorem dX12_letter_19 : decode cX12_letter 19 = .ok (.invokestatic 169, 3) := by decide +kernel
theorem dX12_letter_22 : decode cX12_letter 22 = .ok (.ifCond .eq 17, 3) := by decide +kernel
theorem dX12_letter_25 : decode cX12_letter 25 = .ok (.aload_n 0, 1) := by decide +kernel
theorem dX12_letter_26 : decode cX12_letter 26 = .ok (.getfield 17, 3) := by decide +kernel
theorem dX12_letter_29 : decode cX12_letter 29 = .ok (.bipush 12, 2) := by decide +kernel
theorem dX12_letter_31 : decode cX12_letter 31 = .ok (.iload_n 1, 1) := by decide +kernel
theorem dX12_letter_32 : decode cX12_letter 32 = .ok (.imul, 1) := by decide +kernel
theorem dX12_letter_33 : decode cX12_letter 33 = .ok (.iload_n 2, 1) := by decide +kernel
theorem dX12_letter_34 : decode cX12_letter 34 = .ok (.iadd, 1) := by decide +kernel
theorem dX12_letter_35 : decode cX12_letter 35 = .ok (.iaload, 1) := by decide +kernel
theorem dX12_letter_36 : decode cX12_letter 36 = .ok (.goto 5, 3) := by decide +kernel
theorem dX12_letter_39 : decode cX12_letter 39 = .ok (.bipush (-2), 2) := by decide +kernel
theorem dX12_letter_41 : decode cX12_letter 41 = .ok (.ireturn, 1) := by decide +kernel
set_option maxRecDepth 20000 in
theorem ggX12_reverse_X12_isWord : GoodIn wsX12_reverse wsX12_isWord := goodIn_r _ [6, 7, 8, 5, 9] (by decide +kernel) (by decide +kernel)
set_option maxRecDepth 20000 in
theorem gX12_reverse_X12_isWord : GoodIn wsX12_reverse (va_wsS RX12 176 yX12_isWord wsX12_isWord) := goodIn_app (goodIn_of _ (by decide +kernel)) ggX12_reverse_X12_isWord
theorem dX12_reverse_0 : decode cX12_reverse 0 = .ok (.iload_n 1, 1) := by decide +kernel
theorem dX12_reverse_1 : decode cX12_reverse 1 = .ok (.invokestatic 176, 3) := by decide +kernel
theorem dX12_reverse_4 : decode cX12_reverse 4 = .ok (.ifCond .ne 5, 3) := by decide +kernel
theorem dX12_reverse_7 : decode cX12_reverse 7 = .ok (.iconst (-1), 1) := by decide +kernel
theorem dX12_reverse_8 : decode cX12_reverse 8 = .ok (.ireturn, 1) := by decide +kernel
theorem dX12_reverse_9 : decode cX12_reverse 9 = .ok (.iconst 1, 1) := by decide +kernel
theorem dX12_reverse_10 : decode cX12_reverse 10 = .ok (.istore_n 2, 1) := by decide +kernel
theorem dX12_reverse_11 : decode cX12_reverse 11 = .ok (.aload_n 0, 1) := by decide +kernel
theorem dX12_reverse_12 : decode cX12_reverse 12 = .ok (.getfield 13, 3) := by decide +kernel
theorem dX12_reverse_15 : decode cX12_reverse 15 = .ok (.iload_n 1, 1) := by decide +kernel
theorem dX12_reverse_16 : decode cX12_reverse 16 = .ok (.iaload, 1) := by decide +kernel
theorem dX12_reverse_17 : decode cX12_reverse 17 = .ok (.istore_n 3, 1) := by decide +kernel
theorem dX12_reverse_18 : decode cX12_reverse 18 = .ok (.iconst 0, 1) := by decide +kernel
theorem dX12_reverse_19 : decode cX12_reverse 19 = .ok (.istore 4, 2) := by decide +kernel
theorem dX12_reverse_21 : decode cX12_reverse 21 = .ok (.iconst 2, 1) := by decide +kernel
theorem dX12_reverse_22 : decode cX12_reverse 22 = .ok (.iload 4, 2) := by decide +kernel
theorem dX12_reverse_24 : decode cX12_reverse 24 = .ok (.imul, 1) := by decide +kernel
theorem dX12_reverse_25 : decode cX12_reverse 25 = .ok (.iload_n 3, 1) := by decide +kernel
theorem dX12_reverse_26 : decode cX12_reverse 26 = .ok (.if_icmp .ge 81, 3) := by decide +kernel
theorem dX12_reverse_29 : decode cX12_reverse 29 = .ok (.bipush 12, 2) := by decide +kernel
theorem dX12_reverse_31 : decode cX12_reverse 31 = .ok (.iload_n 1, 1) := by decide +kernel
theorem dX12_reverse_32 : decode cX12_reverse 32 = .ok (.imul, 1) := by decide +kernel
theorem dX12_reverse_33 : decode cX12_reverse 33 = .ok (.iload 4, 2) := by decide +kernel
theorem dX12_reverse_35 : decode cX12_reverse 35 = .ok (.iadd, 1) := by decide +kernel
theorem dX12_reverse_36 : decode cX12_reverse 36 = .ok (.istore 5, 2) := by decide +kernel
theorem dX12_reverse_38 : decode cX12_reverse 38 = .ok (.bipush 12, 2) := by decide +kernel
theorem dX12_reverse_40 : decode cX12_reverse 40 = .ok (.iload_n 1, 1) := by decide +kernel
theorem dX12_reverse_41 : decode cX12_reverse 41 = .ok (.imul, 1) := by decide +kernel
theorem dX12_reverse_42 : decode cX12_reverse 42 = .ok (.iload_n 3, 1) := by decide +kernel
theorem dX12_reverse_43 : decode cX12_reverse 43 = .ok (.iadd, 1) := by decide +kernel
theorem dX12_reverse_44 : decode cX12_reverse 44 = .ok (.iconst 1, 1) := by decide +kernel
theorem dX12_reverse_45 : decode cX12_reverse 45 = .ok (.isub, 1) := by decide +kernel
theorem dX12_reverse_46 : decode cX12_reverse 46 = .ok (.iload 4, 2) := by decide +kernel
theorem dX12_reverse_48 : decode cX12_reverse 48 = .ok (.isub, 1) := by decide +kernel
theorem dX12_reverse_49 : decode cX12_reverse 49 = .ok (.istore 6, 2) := by decide +kernel
theorem dX12_reverse_51 : decode cX12_reverse 51 = .ok (.aload_n 0, 1) := by decide +kernel
theorem dX12_reverse_52 : decode cX12_reverse 52 = .ok (.getfield 17, 3) := by decide +kernel
theorem dX12_reverse_55 : decode cX12_reverse 55 = .ok (.iload 5, 2) := by decide +kernel
theorem dX12_reverse_57 : decode cX12_reverse 57 = .ok (.iaload, 1) := by decide +kernel
theorem dX12_reverse_58 : decode cX12_reverse 58 = .ok (.istore 7, 2) := by decide +kernel
theorem dX12_reverse_60 : decode cX12_reverse 60 = .ok (.iload 7, 2) := by decide +kernel
theorem dX12_reverse_62 : decode cX12_reverse 62 = .ok (.aload_n 0, 1) := by decide +kernel
theorem dX12_reverse_63 : decode cX12_reverse 63 = .ok (.getfield 17, 3) := by decide +kernel
theorem dX12_reverse_66 : decode cX12_reverse 66 = .ok (.iload 6, 2) := by decide +kernel
theorem dX12_reverse_68 : decode cX12_reverse 68 = .ok (.iaload, 1) := by decide +kernel
theorem dX12_reverse_69 : decode cX12_reverse 69 = .ok (.if_icmp .ne 7, 3) := by decide +kernel
theorem dX12_reverse_72 : decode cX12_reverse 72 = .ok (.iload_n 2, 1) := by decide +kernel
theorem dX12_reverse_73 : decode cX12_reverse 73 = .ok (.goto 4, 3) := by decide +kernel
theorem dX12_reverse_76 : decode cX12_reverse 76 = .ok (.iconst 0, 1) := by decide +kernel
theorem dX12_reverse_77 : decode cX12_reverse 77 = .ok (.istore_n 2, 1) := by decide +kernel
theorem dX12_reverse_78 : decode cX12_reverse 78 = .ok (.aload_n 0, 1) := by decide +kernel
theorem dX12_reverse_79 : decode cX12_reverse 79 = .ok (.getfield 17, 3) := by decide +kernel
theorem dX12_reverse_82 : decode cX12_reverse 82 = .ok (.iload 5, 2) := by decide +kernel
theorem dX12_reverse_84 : decode cX12_reverse 84 = .ok (.aload_n 0, 1) := by decide +kernel
theorem dX12_reverse_85 : decode cX12_reverse 85 = .ok (.getfield 17, 3) := by decide +kernel
theorem dX12_reverse_88 : decode cX12_reverse 88 = .ok (.iload 6, 2) := by decide +kernel
theorem dX12_reverse_90 : decode cX12_reverse 90 = .ok (.iaload, 1) := by decide +kernel
theorem dX12_reverse_91 : decode cX12_reverse 91 = .ok (.iastore, 1) := by decide +kernel
theorem dX12_reverse_92 : decode cX12_reverse 92 = .ok (.aload_n 0, 1) := by decide +kernel
theorem dX12_reverse_93 : decode cX12_reverse 93 = .ok (.getfield 17, 3) := by decide +kernel
theorem dX12_reverse_96 : decode cX12_reverse 96 = .ok (.iload 6, 2) := by decide +kernel
theorem dX12_reverse_98 : decode cX12_reverse 98 = .ok (.iload 7, 2) := by decide +kernel
theorem dX12_reverse_100 : decode cX12_reverse 100 = .ok (.iastore, 1) := by decide +kernel
theorem dX12_reverse_101 : decode cX12_reverse 101 = .ok (.iinc 4 1, 3) := by decide +kernel
theorem dX12_reverse_104 : decode cX12_reverse 104 = .ok (.goto (-83), 3) := by decide +kernel
theorem dX12_reverse_107 : decode cX12_reverse 107 = .ok (.iload_n 2, 1) := by decide +kernel
theorem dX12_reverse_108 : decode cX12_reverse 108 = .ok (.ireturn, 1) := by decide +kernel
set_option maxRecDepth 20000 in
theorem ggX12_concatenate_X12_isWord : GoodIn wsX12_concatenate wsX12_isWord := goodIn_r _ [6, 7, 8, 5, 9] (by decide +kernel) (by decide +kernel)
set_option maxRecDepth 20000 in
theorem gX12_concatenate_X12_isWord : GoodIn wsX12_concatenate (va_wsS RX12 176 yX12_isWord wsX12_isWord) := goodIn_app (goodIn_of _ (by decide +kernel)) ggX12_concatenate_X12_isWord
theorem dX12_concatenate_0 : decode cX12_concatenate 0 = .ok (.iload_n 1, 1) := by decide +kernel
theorem dX12_concatenate_1 : decode cX12_concatenate 1 = .ok (.invokestatic 176, 3) := by decide +kernel
theorem dX12_concatenate_4 : decode cX12_concatenate 4 = .ok (.ifCond .eq 10, 3) := by decide +kernel
theorem dX12_concatenate_7 : decode cX12_concatenate 7 = .ok (.iload_n 2, 1) := by decide +kernel
theorem dX12_concatenate_8 : decode cX12_concatenate 8 = .ok (.invokestatic 176, 3) := by decide +kernel
theorem dX12_concatenate_11 : decode cX12_concatenate 11 = .ok (.ifCond .ne 5, 3) := by decide +kernel
theorem dX12_concatenate_14 : decode cX12_concatenate 14 = .ok (.iconst (-1), 1) := by decide +kernel
theorem dX12_concatenate_15 : decode cX12_concatenate 15 = .ok (.ireturn, 1) := by decide +kernel
theorem dX12_concatenate_16 : decode cX12_concatenate 16 = .ok (.aload_n 0, 1) := by decide +kernel
theorem dX12_concatenate_17 : decode cX12_concatenate 17 = .ok (.getfield 13, 3) := by decide +kernel
theorem dX12_concatenate_20 : decode cX12_concatenate 20 = .ok (.iload_n 2, 1) := by decide +kernel
theorem dX12_concatenate_21 : decode cX12_concatenate 21 = .ok (.iaload, 1) := by decide +kernel
theorem dX12_concatenate_22 : decode cX12_concatenate 22 = .ok (.istore_n 3, 1) := by decide +kernel
theorem dX12_concatenate_23 : decode cX12_concatenate 23 = .ok (.aload_n 0, 1) := by decide +kernel
theorem dX12_concatenate_24 : decode cX12_concatenate 24 = .ok (.getfield 13, 3) := by decide +kernel
theorem dX12_concatenate_27 : decode cX12_concatenate 27 = .ok (.iload_n 1, 1) := by decide +kernel
theorem dX12_concatenate_28 : decode cX12_concatenate 28 = .ok (.iaload, 1) := by decide +kernel
theorem dX12_concatenate_29 : decode cX12_concatenate 29 = .ok (.iload_n 3, 1) := by decide +kernel
theorem dX12_concatenate_30 : decode cX12_concatenate 30 = .ok (.iadd, 1) := by decide +kernel
theorem dX12_concatenate_31 : decode cX12_concatenate 31 = .ok (.bipush 12, 2) := by decide +kernel
theorem dX12_concatenate_33 : decode cX12_concatenate 33 = .ok (.if_icmp .le 6, 3) := by decide +kernel
theorem dX12_concatenate_36 : decode cX12_concatenate 36 = .ok (.bipush (-3), 2) := by decide +kernel
theorem dX12_concatenate_38 : decode cX12_concatenate 38 = .ok (.ireturn, 1) := by decide +kernel
theorem dX12_concatenate_39 : decode cX12_concatenate 39 = .ok (.iconst 0, 1) := by decide +kernel
theorem dX12_concatenate_40 : decode cX12_concatenate 40 = .ok (.istore 4, 2) := by decide +kernel
theorem dX12_concatenate_42 : decode cX12_concatenate 42 = .ok (.iload 4, 2) := by decide +kernel
theorem dX12_concatenate_44 : decode cX12_concatenate 44 = .ok (.iload_n 3, 1) := by decide +kernel
theorem dX12_concatenate_45 : decode cX12_concatenate 45 = .ok (.if_icmp .ge 40, 3) := by decide +kernel
theorem dX12_concatenate_48 : decode cX12_concatenate 48 = .ok (.aload_n 0, 1) := by decide +kernel
theorem dX12_concatenate_49 : decode cX12_concatenate 49 = .ok (.getfield 17, 3) := by decide +kernel
theorem dX12_concatenate_52 : decode cX12_concatenate 52 = .ok (.bipush 12, 2) := by decide +kernel
theorem dX12_concatenate_54 : decode cX12_concatenate 54 = .ok (.iload_n 1, 1) := by decide +kernel
theorem dX12_concatenate_55 : decode cX12_concatenate 55 = .ok (.imul, 1) := by decide +kernel
theorem dX12_concatenate_56 : decode cX12_concatenate 56 = .ok (.aload_n 0, 1) := by decide +kernel
theorem dX12_concatenate_57 : decode cX12_concatenate 57 = .ok (.getfield 13, 3) := by decide +kernel
theorem dX12_concatenate_60 : decode cX12_concatenate 60 = .ok (.iload_n 1, 1) := by decide +kernel
theorem dX12_concatenate_61 : decode cX12_concatenate 61 = .ok (.iaload, 1) := by decide +kernel
theorem dX12_concatenate_62 : decode cX12_concatenate 62 = .ok (.iadd, 1) := by decide +kernel
theorem dX12_concatenate_63 : decode cX12_concatenate 63 = .ok (.iload 4, 2) := by decide +kernel
theorem dX12_concatenate_65 : decode cX12_concatenate 65 = .ok (.iadd, 1) := by decide +kernel
theorem dX12_concatenate_66 : decode cX12_concatenate 66 = .ok (.aload_n 0, 1) := by decide +kernel
theorem dX12_concatenate_67 : decode cX12_concatenate 67 = .ok (.getfield 17, 3) := by decide +kernel
theorem dX12_concatenate_70 : decode cX12_concatenate 70 = .ok (.bipush 12, 2) := by decide +kernel
theorem dX12_concatenate_72 : decode cX12_concatenate 72 = .ok (.iload_n 2, 1) := by decide +kernel
theorem dX12_concatenate_73 : decode cX12_concatenate 73 = .ok (.imul, 1) := by decide +kernel
theorem dX12_concatenate_74 : decode cX12_concatenate 74 = .ok (.iload 4, 2) := by decide +kernel
theorem dX12_concatenate_76 : decode cX12_concatenate 76 = .ok (.iadd, 1) := by decide +kernel
theorem dX12_concatenate_77 : decode cX12_concatenate 77 = .ok (.iaload, 1) := by decide +kernel
theorem dX12_concatenate_78 : decode cX12_concatenate 78 = .ok (.iastore, 1) := by decide +kernel
theorem dX12_concatenate_79 : decode cX12_concatenate 79 = .ok (.iinc 4 1, 3) := by decide +kernel
theorem dX12_concatenate_82 : decode cX12_concatenate 82 = .ok (.goto (-40), 3) := by decide +kernel
theorem dX12_concatenate_85 : decode cX12_concatenate 85 = .ok (.aload_n 0, 1) := by decide +kernel
theorem dX12_concatenate_86 : decode cX12_concatenate 86 = .ok (.getfield 13, 3) := by decide +kernel
theorem dX12_concatenate_89 : decode cX12_concatenate 89 = .ok (.iload_n 1, 1) := by decide +kernel
theorem dX12_concatenate_90 : decode cX12_concatenate 90 = .ok (.dup2, 1) := by decide +kernel
theorem dX12_concatenate_91 : decode cX12_concatenate 91 = .ok (.iaload, 1) := by decide +kernel
theorem dX12_concatenate_92 : decode cX12_concatenate 92 = .ok (.iload_n 3, 1) := by decide +kernel
theorem dX12_concatenate_93 : decode cX12_concatenate 93 = .ok (.iadd, 1) := by decide +kernel
theorem dX12_concatenate_94 : decode cX12_concatenate 94 = .ok (.iastore, 1) := by decide +kernel
theorem dX12_concatenate_95 : decode cX12_concatenate 95 = .ok (.aload_n 0, 1) := by decide +kernel
theorem dX12_concatenate_96 : decode cX12_concatenate 96 = .ok (.getfield 13, 3) := by decide +kernel
theorem dX12_concatenate_99 : decode cX12_concatenate 99 = .ok (.iload_n 1, 1) := by decide +kernel
theorem dX12_concatenate_100 : decode cX12_concatenate 100 = .ok (.iaload, 1) := by decide +kernel
theorem dX12_concatenate_101 : decode cX12_concatenate 101 = .ok (.ireturn, 1) := by decide +kernel
set_option maxRecDepth 20000 in
theorem ggX12_compare_X12_isWord : GoodIn wsX12_compare wsX12_isWord := goodIn_r _ [6, 7, 8, 5, 9] (by decide +kernel) (by decide +kernel)
set_option maxRecDepth 20000 in
theorem gX12_compare_X12_isWord : GoodIn wsX12_compare (va_wsS RX12 176 yX12_isWord wsX12_isWord) := goodIn_app (goodIn_of _ (by decide +kernel)) ggX12_compare_X12_isWord
theorem dX12_compare_0 : decode cX12_compare 0 = .ok (.iload_n 1, 1) := by decide +kernel
theorem dX12_compare_1 : decode cX12_compare 1 = .ok (.invokestatic 176, 3) := by decide +kernel
theorem dX12_compare_4 : decode cX12_compare 4 = .ok (.ifCond .eq 10, 3) := by decide +kernel
theorem dX12_compare_7 : decode cX12_compare 7 = .ok (.iload_n 2, 1) := by decide +kernel
theorem dX12_compare_8 : decode cX12_compare 8 = .ok (.invokestatic 176, 3) := by decide +kernel
theorem dX12_compare_11 : decode cX12_compare 11 = .ok (.ifCond .ne 5, 3) := by decide +kernel
theorem dX12_compare_14 : decode cX12_compare 14 = .ok (.iconst (-1), 1) := by decide +kernel
theorem dX12_compare_15 : decode cX12_compare 15 = .ok (.ireturn, 1) := by decide +kernel
theorem dX12_compare_16 : decode cX12_compare 16 = .ok (.aload_n 0, 1) := by decide +kernel
theorem dX12_compare_17 : decode cX12_compare 17 = .ok (.getfield 13, 3) := by decide +kernel
theorem dX12_compare_20 : decode cX12_compare 20 = .ok (.iload_n 1, 1) := by decide +kernel
theorem dX12_compare_21 : decode cX12_compare 21 = .ok (.iaload, 1) := by decide +kernel
theorem dX12_compare_22 : decode cX12_compare 22 = .ok (.aload_n 0, 1) := by decide +kernel
theorem dX12_compare_23 : decode cX12_compare 23 = .ok (.getfield 13, 3) := by decide +kernel
theorem dX12_compare_26 : decode cX12_compare 26 = .ok (.iload_n 2, 1) := by decide +kernel
theorem dX12_compare_27 : decode cX12_compare 27 = .ok (.iaload, 1) := by decide +kernel
theorem dX12_compare_28 : decode cX12_compare 28 = .ok (.if_icmp .eq 24, 3) := by decide +kernel
theorem dX12_compare_31 : decode cX12_compare 31 = .ok (.aload_n 0, 1) := by decide +kernel
theorem dX12_compare_32 : decode cX12_compare 32 = .ok (.getfield 13, 3) := by decide +kernel
theorem dX12_compare_35 : decode cX12_compare 35 = .ok (.iload_n 1, 1) := by decide +kernel
theorem dX12_compare_36 : decode cX12_compare 36 = .ok (.iaload, 1) := by decide +kernel
theorem dX12_compare_37 : decode cX12_compare 37 = .ok (.aload_n 0, 1) := by decide +kernel
theorem dX12_compare_38 : decode cX12_compare 38 = .ok (.getfield 13, 3) := by decide +kernel
theorem dX12_compare_41 : decode cX12_compare 41 = .ok (.iload_n 2, 1) := by decide +kernel
theorem dX12_compare_42 : decode cX12_compare 42 = .ok (.iaload, 1) := by decide +kernel
theorem dX12_compare_43 : decode cX12_compare 43 = .ok (.if_icmp .ge 7, 3) := by decide +kernel
theorem dX12_compare_46 : decode cX12_compare 46 = .ok (.iconst 0, 1) := by decide +kernel
theorem dX12_compare_47 : decode cX12_compare 47 = .ok (.goto 4, 3) := by decide +kernel
theorem dX12_compare_50 : decode cX12_compare 50 = .ok (.iconst 2, 1) := by decide +kernel
theorem dX12_compare_51 : decode cX12_compare 51 = .ok (.ireturn, 1) := by decide +kernel
theorem dX12_compare_52 : decode cX12_compare 52 = .ok (.iconst 0, 1) := by decide +kernel
theorem dX12_compare_53 : decode cX12_compare 53 = .ok (.istore_n 3, 1) := by decide +kernel
theorem dX12_compare_54 : decode cX12_compare 54 = .ok (.iload_n 3, 1) := by decide +kernel
theorem dX12_compare_55 : decode cX12_compare 55 = .ok (.aload_n 0, 1) := by decide +kernel
theorem dX12_compare_56 : decode cX12_compare 56 = .ok (.getfield 13, 3) := by decide +kernel
theorem dX12_compare_59 : decode cX12_compare 59 = .ok (.iload_n 1, 1) := by decide +kernel
theorem dX12_compare_60 : decode cX12_compare 60 = .ok (.iaload, 1) := by decide +kernel
theorem dX12_compare_61 : decode cX12_compare 61 = .ok (.if_icmp .ge 55, 3) := by decide +kernel
theorem dX12_compare_64 : decode cX12_compare 64 = .ok (.aload_n 0, 1) := by decide +kernel
theorem dX12_compare_65 : decode cX12_compare 65 = .ok (.getfield 17, 3) := by decide +kernel
theorem dX12_compare_68 : decode cX12_compare 68 = .ok (.bipush 12, 2) := by decide +kernel
theorem dX12_compare_70 : decode cX12_compare 70 = .ok (.iload_n 1, 1) := by decide +kernel
theorem dX12_compare_71 : decode cX12_compare 71 = .ok (.imul, 1) := by decide +kernel
theorem dX12_compare_72 : decode cX12_compare 72 = .ok (.iload_n 3, 1) := by decide +kernel
theorem dX12_compare_73 : decode cX12_compare 73 = .ok (.iadd, 1) := by decide +kernel
theorem dX12_compare_74 : decode cX12_compare 74 = .ok (.iaload, 1) := by decide +kernel
theorem dX12_compare_75 : decode cX12_compare 75 = .ok (.istore 4, 2) := by decide +kernel
theorem dX12_compare_77 : decode cX12_compare 77 = .ok (.aload_n 0, 1) := by decide +kernel
theorem dX12_compare_78 : decode cX12_compare 78 = .ok (.getfield 17, 3) := by decide +kernel
theorem dX12_compare_81 : decode cX12_compare 81 = .ok (.bipush 12, 2) := by decide +kernel
theorem dX12_compare_83 : decode cX12_compare 83 = .ok (.iload_n 2, 1) := by decide +kernel
theorem dX12_compare_84 : decode cX12_compare 84 = .ok (.imul, 1) := by decide +kernel
theorem dX12_compare_85 : decode cX12_compare 85 = .ok (.iload_n 3, 1) := by decide +kernel
theorem dX12_compare_86 : decode cX12_compare 86 = .ok (.iadd, 1) := by decide +kernel
theorem dX12_compare_87 : decode cX12_compare 87 = .ok (.iaload, 1) := by decide +kernel
theorem dX12_compare_88 : decode cX12_compare 88 = .ok (.istore 5, 2) := by decide +kernel
theorem dX12_compare_90 : decode cX12_compare 90 = .ok (.iload 4, 2) := by decide +kernel
theorem dX12_compare_92 : decode cX12_compare 92 = .ok (.iload 5, 2) := by decide +kernel
theorem dX12_compare_94 : decode cX12_compare 94 = .ok (.if_icmp .eq 16, 3) := by decide +kernel
theorem dX12_compare_97 : decode cX12_compare 97 = .ok (.iload 4, 2) := by decide +kernel
theorem dX12_compare_99 : decode cX12_compare 99 = .ok (.iload 5, 2) := by decide +kernel
theorem dX12_compare_101 : decode cX12_compare 101 = .ok (.if_icmp .ge 7, 3) := by decide +kernel
theorem dX12_compare_104 : decode cX12_compare 104 = .ok (.iconst 0, 1) := by decide +kernel
theorem dX12_compare_105 : decode cX12_compare 105 = .ok (.goto 4, 3) := by decide +kernel
theorem dX12_compare_108 : decode cX12_compare 108 = .ok (.iconst 2, 1) := by decide +kernel
theorem dX12_compare_109 : decode cX12_compare 109 = .ok (.ireturn, 1) := by decide +kernel
theorem dX12_compare_110 : decode cX12_compare 110 = .ok (.iinc 3 1, 3) := by decide +kernel
theorem dX12_compare_113 : decode cX12_compare 113 = .ok (.goto (-59), 3) := by decide +kernel
theorem dX12_compare_116 : decode cX12_compare 116 = .ok (.iconst 1, 1) := by decide +kernel
theorem dX12_compare_117 : decode cX12_compare 117 = .ok (.ireturn, 1) := by decide +kernel
theorem dX12_occurrencesIn_0 : decode cX12_occurrencesIn 0 = .ok (.iconst 0, 1) := by decide +kernel
theorem dX12_occurrencesIn_1 : decode cX12_occurrencesIn 1 = .ok (.istore 5, 2) := by decide +kernel
theorem dX12_occurrencesIn_3 : decode cX12_occurrencesIn 3 = .ok (.iload 5, 2) := by decide +kernel
theorem dX12_occurrencesIn_5 : decode cX12_occurrencesIn 5 = .ok (.iload_n 3, 1) := by decide +kernel
theorem dX12_occurrencesIn_6 : decode cX12_occurrencesIn 6 = .ok (.if_icmp .gt 26, 3) := by decide +kernel
theorem dX12_occurrencesIn_9 : decode cX12_occurrencesIn 9 = .ok (.aload_n 0, 1) := by decide +kernel
theorem dX12_occurrencesIn_10 : decode cX12_occurrencesIn 10 = .ok (.getfield 20, 3) := by decide +kernel
theorem dX12_occurrencesIn_13 : decode cX12_occurrencesIn 13 = .ok (.iload 5, 2) := by decide +kernel
theorem dX12_occurrencesIn_15 : decode cX12_occurrencesIn 15 = .ok (.iload 5, 2) := by decide +kernel
theorem dX12_occurrencesIn_17 : decode cX12_occurrencesIn 17 = .ok (.ifCond .ne 7, 3) := by decide +kernel
theorem dX12_occurrencesIn_20 : decode cX12_occurrencesIn 20 = .ok (.iconst 1, 1) := by decide +kernel
theorem dX12_occurrencesIn_21 : decode cX12_occurrencesIn 21 = .ok (.goto 4, 3) := by decide +kernel
theorem dX12_occurrencesIn_24 : decode cX12_occurrencesIn 24 = .ok (.iconst 0, 1) := by decide +kernel
theorem dX12_occurrencesIn_25 : decode cX12_occurrencesIn 25 = .ok (.iastore, 1) := by decide +kernel
theorem dX12_occurrencesIn_26 : decode cX12_occurrencesIn 26 = .ok (.iinc 5 1, 3) := by decide +kernel
theorem dX12_occurrencesIn_29 : decode cX12_occurrencesIn 29 = .ok (.goto (-26), 3) := by decide +kernel
theorem dX12_occurrencesIn_32 : decode cX12_occurrencesIn 32 = .ok (.iconst 0, 1) := by decide +kernel
theorem dX12_occurrencesIn_33 : decode cX12_occurrencesIn 33 = .ok (.istore 5, 2) := by decide +kernel
theorem dX12_occurrencesIn_35 : decode cX12_occurrencesIn 35 = .ok (.iload 5, 2) := by decide +kernel
theorem dX12_occurrencesIn_37 : decode cX12_occurrencesIn 37 = .ok (.aload_n 0, 1) := by decide +kernel
theorem dX12_occurrencesIn_38 : decode cX12_occurrencesIn 38 = .ok (.getfield 13, 3) := by decide +kernel
theorem dX12_occurrencesIn_41 : decode cX12_occurrencesIn 41 = .ok (.iload 4, 2) := by decide +kernel
theorem dX12_occurrencesIn_43 : decode cX12_occurrencesIn 43 = .ok (.iaload, 1) := by decide +kernel
theorem dX12_occurrencesIn_44 : decode cX12_occurrencesIn 44 = .ok (.if_icmp .ge 70, 3) := by decide +kernel
theorem dX12_occurrencesIn_47 : decode cX12_occurrencesIn 47 = .ok (.iload_n 3, 1) := by decide +kernel
theorem dX12_occurrencesIn_48 : decode cX12_occurrencesIn 48 = .ok (.istore 6, 2) := by decide +kernel
theorem dX12_occurrencesIn_50 : decode cX12_occurrencesIn 50 = .ok (.iload 6, 2) := by decide +kernel
theorem dX12_occurrencesIn_52 : decode cX12_occurrencesIn 52 = .ok (.ifCond .le 56, 3) := by decide +kernel
theorem dX12_occurrencesIn_55 : decode cX12_occurrencesIn 55 = .ok (.aload_n 0, 1) := by decide +kernel
theorem dX12_occurrencesIn_56 : decode cX12_occurrencesIn 56 = .ok (.getfield 20, 3) := by decide +kernel
theorem dX12_occurrencesIn_59 : decode cX12_occurrencesIn 59 = .ok (.iload 6, 2) := by decide +kernel
theorem dX12_occurrencesIn_61 : decode cX12_occurrencesIn 61 = .ok (.dup2, 1) := by decide +kernel
theorem dX12_occurrencesIn_62 : decode cX12_occurrencesIn 62 = .ok (.iaload, 1) := by decide +kernel
theorem dX12_occurrencesIn_63 : decode cX12_occurrencesIn 63 = .ok (.aload_n 1, 1) := by decide +kernel
theorem dX12_occurrencesIn_64 : decode cX12_occurrencesIn 64 = .ok (.iload_n 2, 1) := by decide +kernel
theorem dX12_occurrencesIn_65 : decode cX12_occurrencesIn 65 = .ok (.iload 6, 2) := by decide +kernel
theorem dX12_occurrencesIn_67 : decode cX12_occurrencesIn 67 = .ok (.iadd, 1) := by decide +kernel
theorem dX12_occurrencesIn_68 : decode cX12_occurrencesIn 68 = .ok (.iconst 1, 1) := by decide +kernel
theorem dX12_occurrencesIn_69 : decode cX12_occurrencesIn 69 = .ok (.isub, 1) := by decide +kernel
theorem dX12_occurrencesIn_70 : decode cX12_occurrencesIn 70 = .ok (.iaload, 1) := by decide +kernel
theorem dX12_occurrencesIn_71 : decode cX12_occurrencesIn 71 = .ok (.aload_n 0, 1) := by decide +kernel
theorem dX12_occurrencesIn_72 : decode cX12_occurrencesIn 72 = .ok (.getfield 17, 3) := by decide +kernel
theorem dX12_occurrencesIn_75 : decode cX12_occurrencesIn 75 = .ok (.bipush 12, 2) := by decide +kernel
theorem dX12_occurrencesIn_77 : decode cX12_occurrencesIn 77 = .ok (.iload 4, 2) := by decide +kernel
theorem dX12_occurrencesIn_79 : decode cX12_occurrencesIn 79 = .ok (.imul, 1) := by decide +kernel
theorem dX12_occurrencesIn_80 : decode cX12_occurrencesIn 80 = .ok (.iload 5, 2) := by decide +kernel
theorem dX12_occurrencesIn_82 : decode cX12_occurrencesIn 82 = .ok (.iadd, 1) := by decide +kernel
theorem dX12_occurrencesIn_83 : decode cX12_occurrencesIn 83 = .ok (.iaload, 1) := by decide +kernel
theorem dX12_occurrencesIn_84 : decode cX12_occurrencesIn 84 = .ok (.if_icmp .ne 15, 3) := by decide +kernel
theorem dX12_occurrencesIn_87 : decode cX12_occurrencesIn 87 = .ok (.aload_n 0, 1) := by decide +kernel
theorem dX12_occurrencesIn_88 : decode cX12_occurrencesIn 88 = .ok (.getfield 20, 3) := by decide +kernel
theorem dX12_occurrencesIn_91 : decode cX12_occurrencesIn 91 = .ok (.iload 6, 2) := by decide +kernel
theorem dX12_occurrencesIn_93 : decode cX12_occurrencesIn 93 = .ok (.iconst 1, 1) := by decide +kernel
theorem dX12_occurrencesIn_94 : decode cX12_occurrencesIn 94 = .ok (.isub, 1) := by decide +kernel
theorem dX12_occurrencesIn_95 : decode cX12_occurrencesIn 95 = .ok (.iaload, 1) := by decide +kernel
theorem dX12_occurrencesIn_96 : decode cX12_occurrencesIn 96 = .ok (.goto 4, 3) := by decide +kernel
theorem dX12_occurrencesIn_99 : decode cX12_occurrencesIn 99 = .ok (.iconst 0, 1) := by decide +kernel
theorem dX12_occurrencesIn_100 : decode cX12_occurrencesIn 100 = .ok (.iadd, 1) := by decide +kernel
theorem dX12_occurrencesIn_101 : decode cX12_occurrencesIn 101 = .ok (.iastore, 1) := by decide +kernel
theorem dX12_occurrencesIn_102 : decode cX12_occurrencesIn 102 = .ok (.iinc 6 (-1), 3) := by decide +kernel
theorem dX12_occurrencesIn_105 : decode cX12_occurrencesIn 105 = .ok (.goto (-55), 3) := by decide +kernel
theorem dX12_occurrencesIn_108 : decode cX12_occurrencesIn 108 = .ok (.iinc 5 1, 3) := by decide +kernel
theorem dX12_occurrencesIn_111 : decode cX12_occurrencesIn 111 = .ok (.goto (-76), 3) := by decide +kernel
theorem dX12_occurrencesIn_114 : decode cX12_occurrencesIn 114 = .ok (.aload_n 0, 1) := by decide +kernel
theorem dX12_occurrencesIn_115 : decode cX12_occurrencesIn 115 = .ok (.getfield 20, 3) := by decide +kernel
theorem dX12_occurrencesIn_118 : decode cX12_occurrencesIn 118 = .ok (.iload_n 3, 1) := by decide +kernel
theorem dX12_occurrencesIn_119 : decode cX12_occurrencesIn 119 = .ok (.iaload, 1) := by decide +kernel
theorem dX12_occurrencesIn_120 : decode cX12_occurrencesIn 120 = .ok (.ireturn, 1) := by decide +kernel
set_option maxRecDepth 20000 in
theorem ggX12_occurrences_X12_isWord : GoodIn wsX12_occurrences wsX12_isWord := goodIn_r _ [6, 7, 8, 5, 9] (by decide +kernel) (by decide +kernel)
set_option maxRecDepth 20000 in
theorem gX12_occurrences_X12_isWord : GoodIn wsX12_occurrences (va_wsS RX12 176 yX12_isWord wsX12_isWord) := goodIn_app (goodIn_of _ (by decide +kernel)) ggX12_occurrences_X12_isWord
set_option maxRecDepth 20000 in
theorem ggX12_occurrences_X12_occurrencesIn : GoodIn wsX12_occurrences wsX12_occurrencesIn := goodIn_r _ [13, 14, 2, 1, 15, 16, 17, 18, 19, 20, 21, 22, 23, 24, 25, 26, 27, 28, 29, 30, 31, 32, 33, 34, 35, 36, 37, 38, 39, 40, 41, 42, 43, 44, 45, 46, 47, 48, 49, 50, 51, 52, 53, 54, 55, 56, 57, 58, 59, 60, 61, 62, 63, 64, 65, 66, 67, 68, 69, 70, 71, 72, 73, 74, 75, 76, 77, 78, 79, 80, 81, 82] (by decide +kernel) (by decide +kernel)
set_option maxRecDepth 20000 in
theorem gX12_occurrences_X12_occurrencesIn : GoodIn wsX12_occurrences (wsV RX12 180 RX12 yX12_occurrencesIn wsX12_occurrencesIn) := goodIn_app (goodIn_of _ (by decide +kernel)) ggX12_occurrences_X12_occurrencesIn
theorem dX12_occurrences_0 : decode cX12_occurrences 0 = .ok (.iload_n 1, 1) := by decide +kernel
theorem dX12_occurrences_1 : decode cX12_occurrences 1 = .ok (.invokestatic 176, 3) := by decide +kernel
theorem dX12_occurrences_4 : decode cX12_occurrences 4 = .ok (.ifCond .eq 10, 3) := by decide +kernel
theorem dX12_occurrences_7 : decode cX12_occurrences 7 = .ok (.iload_n 2, 1) := by decide +kernel
theorem dX12_occurrences_8 : decode cX12_occurrences 8 = .ok (.invokestatic 176, 3) := by decide +kernel
theorem dX12_occurrences_11 : decode cX12_occurrences 11 = .ok (.ifCond .ne 5, 3) := by decide +kernel
theorem dX12_occurrences_14 : decode cX12_occurrences 14 = .ok (.iconst (-1), 1) := by decide +kernel
theorem dX12_occurrences_15 : decode cX12_occurrences 15 = .ok (.ireturn, 1) := by decide +kernel
theorem dX12_occurrences_16 : decode cX12_occurrences 16 = .ok (.aload_n 0, 1) := by decide +kernel
theorem dX12_occurrences_17 : decode cX12_occurrences 17 = .ok (.aload_n 0, 1) := by decide +kernel
theorem dX12_occurrences_18 : decode cX12_occurrences 18 = .ok (.getfield 17, 3) := by decide +kernel
theorem dX12_occurrences_21 : decode cX12_occurrences 21 = .ok (.bipush 12, 2) := by decide +kernel
theorem dX12_occurrences_23 : decode cX12_occurrences 23 = .ok (.iload_n 1, 1) := by decide +kernel
theorem dX12_occurrences_24 : decode cX12_occurrences 24 = .ok (.imul, 1) := by decide +kernel
theorem dX12_occurrences_25 : decode cX12_occurrences 25 = .ok (.aload_n 0, 1) := by decide +kernel
theorem dX12_occurrences_26 : decode cX12_occurrences 26 = .ok (.getfield 13, 3) := by decide +kernel
theorem dX12_occurrences_29 : decode cX12_occurrences 29 = .ok (.iload_n 1, 1) := by decide +kernel
theorem dX12_occurrences_30 : decode cX12_occurrences 30 = .ok (.iaload, 1) := by decide +kernel
theorem dX12_occurrences_31 : decode cX12_occurrences 31 = .ok (.iload_n 2, 1) := by decide +kernel
theorem dX12_occurrences_32 : decode cX12_occurrences 32 = .ok (.invokevirtual 180, 3) := by decide +kernel
theorem dX12_occurrences_35 : decode cX12_occurrences 35 = .ok (.ireturn, 1) := by decide +kernel
set_option maxRecDepth 20000 in
theorem ggX12_separate_X12_isWord : GoodIn wsX12_separate wsX12_isWord := goodIn_r _ [8, 9, 10, 7, 11] (by decide +kernel) (by decide +kernel)
set_option maxRecDepth 20000 in
theorem gX12_separate_X12_isWord : GoodIn wsX12_separate (va_wsS RX12 176 yX12_isWord wsX12_isWord) := goodIn_app (goodIn_of _ (by decide +kernel)) ggX12_separate_X12_isWord
set_option maxRecDepth 20000 in
theorem ggX12_separate_X12_occurrencesIn : GoodIn wsX12_separate wsX12_occurrencesIn := goodIn_r _ [15, 16, 3, 4, 17, 18, 19, 20, 21, 22, 23, 24, 25, 26, 27, 28, 29, 30, 31, 32, 33, 34, 35, 36, 37, 38, 39, 40, 41, 42, 43, 44, 45, 46, 47, 48, 49, 50, 51, 52, 53, 54, 55, 56, 57, 58, 59, 60, 61, 62, 63, 64, 65, 66, 67, 68, 69, 70, 71, 72, 73, 74, 75, 76, 77, 78, 79, 80, 81, 82, 83, 84] (by decide +kernel) (by decide +kernel)
set_option maxRecDepth 20000 in
theorem gX12_separate_X12_occurrencesIn : GoodIn wsX12_separate (wsV RX12 180 RX12 yX12_occurrencesIn wsX12_occurrencesIn) := goodIn_app (goodIn_of _ (by decide +kernel)) ggX12_separate_X12_occurrencesIn
theorem dX12_separate_0 : decode cX12_separate 0 = .ok (.iload_n 1, 1) := by decide +kernel
theorem dX12_separate_1 : decode cX12_separate 1 = .ok (.invokestatic 176, 3) := by decide +kernel
theorem dX12_separate_4 : decode cX12_separate 4 = .ok (.ifCond .eq 15, 3) := by decide +kernel
theorem dX12_separate_7 : decode cX12_separate 7 = .ok (.iload_n 2, 1) := by decide +kernel
theorem dX12_separate_8 : decode cX12_separate 8 = .ok (.invokestatic 176, 3) := by decide +kernel
theorem dX12_separate_11 : decode cX12_separate 11 = .ok (.ifCond .eq 8, 3) := by decide +kernel
theorem dX12_separate_14 : decode cX12_separate 14 = .ok (.iload_n 1, 1) := by decide +kernel
theorem dX12_separate_15 : decode cX12_separate 15 = .ok (.iload_n 2, 1) := by decide +kernel
theorem dX12_separate_16 : decode cX12_separate 16 = .ok (.if_icmp .ne 5, 3) := by decide +kernel
theorem dX12_separate_19 : decode cX12_separate 19 = .ok (.iconst (-1), 1) := by decide +kernel
theorem dX12_separate_20 : decode cX12_separate 20 = .ok (.ireturn, 1) := by decide +kernel
theorem dX12_separate_21 : decode cX12_separate 21 = .ok (.iconst 1, 1) := by decide +kernel
theorem dX12_separate_22 : decode cX12_separate 22 = .ok (.istore_n 3, 1) := by decide +kernel
theorem dX12_separate_23 : decode cX12_separate 23 = .ok (.iconst 1, 1) := by decide +kernel
theorem dX12_separate_24 : decode cX12_separate 24 = .ok (.istore 4, 2) := by decide +kernel
theorem dX12_separate_26 : decode cX12_separate 26 = .ok (.iload 4, 2) := by decide +kernel
theorem dX12_separate_28 : decode cX12_separate 28 = .ok (.iconst 4, 1) := by decide +kernel
theorem dX12_separate_29 : decode cX12_separate 29 = .ok (.if_icmp .gt 190, 3) := by decide +kernel
theorem dX12_separate_32 : decode cX12_separate 32 = .ok (.iload_n 3, 1) := by decide +kernel
theorem dX12_separate_33 : decode cX12_separate 33 = .ok (.aload_n 0, 1) := by decide +kernel
theorem dX12_separate_34 : decode cX12_separate 34 = .ok (.getfield 7, 3) := by decide +kernel
theorem dX12_separate_37 : decode cX12_separate 37 = .ok (.imul, 1) := by decide +kernel
theorem dX12_separate_38 : decode cX12_separate 38 = .ok (.istore_n 3, 1) := by decide +kernel
theorem dX12_separate_39 : decode cX12_separate 39 = .ok (.iconst 0, 1) := by decide +kernel
theorem dX12_separate_40 : decode cX12_separate 40 = .ok (.istore 5, 2) := by decide +kernel
theorem dX12_separate_42 : decode cX12_separate 42 = .ok (.iload 5, 2) := by decide +kernel
theorem dX12_separate_44 : decode cX12_separate 44 = .ok (.iload_n 3, 1) := by decide +kernel
theorem dX12_separate_45 : decode cX12_separate 45 = .ok (.if_icmp .ge 168, 3) := by decide +kernel
theorem dX12_separate_48 : decode cX12_separate 48 = .ok (.iload 5, 2) := by decide +kernel
theorem dX12_separate_50 : decode cX12_separate 50 = .ok (.istore 6, 2) := by decide +kernel
theorem dX12_separate_52 : decode cX12_separate 52 = .ok (.iload 4, 2) := by decide +kernel
theorem dX12_separate_54 : decode cX12_separate 54 = .ok (.iconst 1, 1) := by decide +kernel
theorem dX12_separate_55 : decode cX12_separate 55 = .ok (.isub, 1) := by decide +kernel
theorem dX12_separate_56 : decode cX12_separate 56 = .ok (.istore 7, 2) := by decide +kernel
theorem dX12_separate_58 : decode cX12_separate 58 = .ok (.iload 7, 2) := by decide +kernel
theorem dX12_separate_60 : decode cX12_separate 60 = .ok (.ifCond .lt 32, 3) := by decide +kernel
theorem dX12_separate_63 : decode cX12_separate 63 = .ok (.aload_n 0, 1) := by decide +kernel
theorem dX12_separate_64 : decode cX12_separate 64 = .ok (.getfield 23, 3) := by decide +kernel
theorem dX12_separate_67 : decode cX12_separate 67 = .ok (.iload 7, 2) := by decide +kernel
theorem dX12_separate_69 : decode cX12_separate 69 = .ok (.iload 6, 2) := by decide +kernel
theorem dX12_separate_71 : decode cX12_separate 71 = .ok (.aload_n 0, 1) := by decide +kernel
theorem dX12_separate_72 : decode cX12_separate 72 = .ok (.getfield 7, 3) := by decide +kernel
theorem dX12_separate_75 : decode cX12_separate 75 = .ok (.irem, 1) := by decide +kernel
theorem dX12_separate_76 : decode cX12_separate 76 = .ok (.iastore, 1) := by decide +kernel
theorem dX12_separate_77 : decode cX12_separate 77 = .ok (.iload 6, 2) := by decide +kernel
theorem dX12_separate_79 : decode cX12_separate 79 = .ok (.aload_n 0, 1) := by decide +kernel
theorem dX12_separate_80 : decode cX12_separate 80 = .ok (.getfield 7, 3) := by decide +kernel
theorem dX12_separate_83 : decode cX12_separate 83 = .ok (.idiv, 1) := by decide +kernel
theorem dX12_separate_84 : decode cX12_separate 84 = .ok (.istore 6, 2) := by decide +kernel
theorem dX12_separate_86 : decode cX12_separate 86 = .ok (.iinc 7 (-1), 3) := by decide +kernel
theorem dX12_separate_89 : decode cX12_separate 89 = .ok (.goto (-31), 3) := by decide +kernel
theorem dX12_separate_92 : decode cX12_separate 92 = .ok (.aload_n 0, 1) := by decide +kernel
theorem dX12_separate_93 : decode cX12_separate 93 = .ok (.aload_n 0, 1) := by decide +kernel
theorem dX12_separate_94 : decode cX12_separate 94 = .ok (.getfield 23, 3) := by decide +kernel
theorem dX12_separate_97 : decode cX12_separate 97 = .ok (.iconst 0, 1) := by decide +kernel
theorem dX12_separate_98 : decode cX12_separate 98 = .ok (.iload 4, 2) := by decide +kernel
theorem dX12_separate_100 : decode cX12_separate 100 = .ok (.iload_n 1, 1) := by decide +kernel
theorem dX12_separate_101 : decode cX12_separate 101 = .ok (.invokevirtual 180, 3) := by decide +kernel
theorem dX12_separate_104 : decode cX12_separate 104 = .ok (.istore 7, 2) := by decide +kernel
theorem dX12_separate_106 : decode cX12_separate 106 = .ok (.aload_n 0, 1) := by decide +kernel
theorem dX12_separate_107 : decode cX12_separate 107 = .ok (.aload_n 0, 1) := by decide +kernel
theorem dX12_separate_108 : decode cX12_separate 108 = .ok (.getfield 23, 3) := by decide +kernel
theorem dX12_separate_111 : decode cX12_separate 111 = .ok (.iconst 0, 1) := by decide +kernel
theorem dX12_separate_112 : decode cX12_separate 112 = .ok (.iload 4, 2) := by decide +kernel
theorem dX12_separate_114 : decode cX12_separate 114 = .ok (.iload_n 2, 1) := by decide +kernel
theorem dX12_separate_115 : decode cX12_separate 115 = .ok (.invokevirtual 180, 3) := by decide +kernel
theorem dX12_separate_118 : decode cX12_separate 118 = .ok (.istore 8, 2) := by decide +kernel
theorem dX12_separate_120 : decode cX12_separate 120 = .ok (.iload 7, 2) := by decide +kernel
theorem dX12_separate_122 : decode cX12_separate 122 = .ok (.iload 8, 2) := by decide +kernel
theorem dX12_separate_124 : decode cX12_separate 124 = .ok (.if_icmp .ne 6, 3) := by decide +kernel
theorem dX12_separate_127 : decode cX12_separate 127 = .ok (.goto 80, 3) := by decide +kernel
theorem dX12_separate_130 : decode cX12_separate 130 = .ok (.iconst 3, 1) := by decide +kernel
theorem dX12_separate_131 : decode cX12_separate 131 = .ok (.iload_n 1, 1) := by decide +kernel
theorem dX12_separate_132 : decode cX12_separate 132 = .ok (.isub, 1) := by decide +kernel
theorem dX12_separate_133 : decode cX12_separate 133 = .ok (.iload_n 2, 1) := by decide +kernel
theorem dX12_separate_134 : decode cX12_separate 134 = .ok (.isub, 1) := by decide +kernel
theorem dX12_separate_135 : decode cX12_separate 135 = .ok (.istore 9, 2) := by decide +kernel
theorem dX12_separate_137 : decode cX12_separate 137 = .ok (.aload_n 0, 1) := by decide +kernel
theorem dX12_separate_138 : decode cX12_separate 138 = .ok (.getfield 13, 3) := by decide +kernel
theorem dX12_separate_141 : decode cX12_separate 141 = .ok (.iload 9, 2) := by decide +kernel
theorem dX12_separate_143 : decode cX12_separate 143 = .ok (.iload 4, 2) := by decide +kernel
theorem dX12_separate_145 : decode cX12_separate 145 = .ok (.iastore, 1) := by decide +kernel
theorem dX12_separate_146 : decode cX12_separate 146 = .ok (.iconst 0, 1) := by decide +kernel
theorem dX12_separate_147 : decode cX12_separate 147 = .ok (.istore 10, 2) := by decide +kernel
theorem dX12_separate_149 : decode cX12_separate 149 = .ok (.iload 10, 2) := by decide +kernel
theorem dX12_separate_151 : decode cX12_separate 151 = .ok (.iload 4, 2) := by decide +kernel
theorem dX12_separate_153 : decode cX12_separate 153 = .ok (.if_icmp .ge 29, 3) := by decide +kernel
theorem dX12_separate_156 : decode cX12_separate 156 = .ok (.aload_n 0, 1) := by decide +kernel
theorem dX12_separate_157 : decode cX12_separate 157 = .ok (.getfield 17, 3) := by decide +kernel
theorem dX12_separate_160 : decode cX12_separate 160 = .ok (.bipush 12, 2) := by decide +kernel
theorem dX12_separate_162 : decode cX12_separate 162 = .ok (.iload 9, 2) := by decide +kernel
theorem dX12_separate_164 : decode cX12_separate 164 = .ok (.imul, 1) := by decide +kernel
theorem dX12_separate_165 : decode cX12_separate 165 = .ok (.iload 10, 2) := by decide +kernel
theorem dX12_separate_167 : decode cX12_separate 167 = .ok (.iadd, 1) := by decide +kernel
theorem dX12_separate_168 : decode cX12_separate 168 = .ok (.aload_n 0, 1) := by decide +kernel
theorem dX12_separate_169 : decode cX12_separate 169 = .ok (.getfield 23, 3) := by decide +kernel
theorem dX12_separate_172 : decode cX12_separate 172 = .ok (.iload 10, 2) := by decide +kernel
theorem dX12_separate_174 : decode cX12_separate 174 = .ok (.iaload, 1) := by decide +kernel
theorem dX12_separate_175 : decode cX12_separate 175 = .ok (.iastore, 1) := by decide +kernel
theorem dX12_separate_176 : decode cX12_separate 176 = .ok (.iinc 10 1, 3) := by decide +kernel
theorem dX12_separate_179 : decode cX12_separate 179 = .ok (.goto (-30), 3) := by decide +kernel
theorem dX12_separate_182 : decode cX12_separate 182 = .ok (.iconst 2, 1) := by decide +kernel
theorem dX12_separate_183 : decode cX12_separate 183 = .ok (.istore 10, 2) := by decide +kernel
theorem dX12_separate_185 : decode cX12_separate 185 = .ok (.iload 7, 2) := by decide +kernel
theorem dX12_separate_187 : decode cX12_separate 187 = .ok (.iload 10, 2) := by decide +kernel
theorem dX12_separate_189 : decode cX12_separate 189 = .ok (.irem, 1) := by decide +kernel
theorem dX12_separate_190 : decode cX12_separate 190 = .ok (.iload 8, 2) := by decide +kernel
theorem dX12_separate_192 : decode cX12_separate 192 = .ok (.iload 10, 2) := by decide +kernel
theorem dX12_separate_194 : decode cX12_separate 194 = .ok (.irem, 1) := by decide +kernel
theorem dX12_separate_195 : decode cX12_separate 195 = .ok (.if_icmp .ne 9, 3) := by decide +kernel
theorem dX12_separate_198 : decode cX12_separate 198 = .ok (.iinc 10 1, 3) := by decide +kernel
theorem dX12_separate_201 : decode cX12_separate 201 = .ok (.goto (-16), 3) := by decide +kernel
theorem dX12_separate_204 : decode cX12_separate 204 = .ok (.iload 10, 2) := by decide +kernel
theorem dX12_separate_206 : decode cX12_separate 206 = .ok (.ireturn, 1) := by decide +kernel
theorem dX12_separate_207 : decode cX12_separate 207 = .ok (.iinc 5 1, 3) := by decide +kernel
theorem dX12_separate_210 : decode cX12_separate 210 = .ok (.goto (-168), 3) := by decide +kernel
theorem dX12_separate_213 : decode cX12_separate 213 = .ok (.iinc 4 1, 3) := by decide +kernel
theorem dX12_separate_216 : decode cX12_separate 216 = .ok (.goto (-190), 3) := by decide +kernel
theorem dX12_separate_219 : decode cX12_separate 219 = .ok (.bipush (-2), 2) := by decide +kernel
theorem dX12_separate_221 : decode cX12_separate 221 = .ok (.ireturn, 1) := by decide +kernel
set_option maxRecDepth 20000 in
theorem ggX12_isTest_X12_isBetween : GoodIn wsX12_isTest wsX12_isBetween := goodIn_r _ [5] (by decide +kernel) (by decide +kernel)
set_option maxRecDepth 20000 in
theorem gX12_isTest_X12_isBetween : GoodIn wsX12_isTest (va_wsS RX12 169 yX12_isBetween wsX12_isBetween) := goodIn_app (goodIn_of _ (by decide +kernel)) ggX12_isTest_X12_isBetween
theorem dX12_isTest_0 : decode cX12_isTest 0 = .ok (.iload_n 1, 1) := by decide +kernel
theorem dX12_isTest_1 : decode cX12_isTest 1 = .ok (.iconst 0, 1) := by decide +kernel
theorem dX12_isTest_2 : decode cX12_isTest 2 = .ok (.aload_n 0, 1) := by decide +kernel
theorem dX12_isTest_3 : decode cX12_isTest 3 = .ok (.getfield 173, 3) := by decide +kernel
theorem dX12_isTest_6 : decode cX12_isTest 6 = .ok (.iconst 1, 1) := by decide +kernel
theorem dX12_isTest_7 : decode cX12_isTest 7 = .ok (.isub, 1) := by decide +kernel
theorem dX12_isTest_8 : decode cX12_isTest 8 = .ok (.invokestatic 169, 3) := by decide +kernel
theorem dX12_isTest_11 : decode cX12_isTest 11 = .ok (.ireturn, 1) := by decide +kernel
set_option maxRecDepth 20000 in
theorem ggX12_feed_X12_isBetween : GoodIn wsX12_feed wsX12_isBetween := goodIn_r _ [6] (by decide +kernel) (by decide +kernel)
set_option maxRecDepth 20000 in
theorem gX12_feed_X12_isBetween : GoodIn wsX12_feed (va_wsS RX12 169 yX12_isBetween wsX12_isBetween) := goodIn_app (goodIn_of _ (by decide +kernel)) ggX12_feed_X12_isBetween
theorem dX12_feed_0 : decode cX12_feed 0 = .ok (.iload_n 1, 1) := by decide +kernel
theorem dX12_feed_1 : decode cX12_feed 1 = .ok (.iconst 1, 1) := by decide +kernel
theorem dX12_feed_2 : decode cX12_feed 2 = .ok (.bipush 127, 2) := by decide +kernel
theorem dX12_feed_4 : decode cX12_feed 4 = .ok (.invokestatic 169, 3) := by decide +kernel
theorem dX12_feed_7 : decode cX12_feed 7 = .ok (.ifCond .ne 5, 3) := by decide +kernel
theorem dX12_feed_10 : decode cX12_feed 10 = .ok (.iconst (-1), 1) := by decide +kernel
theorem dX12_feed_11 : decode cX12_feed 11 = .ok (.ireturn, 1) := by decide +kernel
theorem dX12_feed_12 : decode cX12_feed 12 = .ok (.aload_n 0, 1) := by decide +kernel
theorem dX12_feed_13 : decode cX12_feed 13 = .ok (.getfield 184, 3) := by decide +kernel
theorem dX12_feed_16 : decode cX12_feed 16 = .ok (.bipush 8, 2) := by decide +kernel
theorem dX12_feed_18 : decode cX12_feed 18 = .ok (.if_icmp .ne 6, 3) := by decide +kernel
theorem dX12_feed_21 : decode cX12_feed 21 = .ok (.bipush (-3), 2) := by decide +kernel
theorem dX12_feed_23 : decode cX12_feed 23 = .ok (.ireturn, 1) := by decide +kernel
theorem dX12_feed_24 : decode cX12_feed 24 = .ok (.aload_n 0, 1) := by decide +kernel
theorem dX12_feed_25 : decode cX12_feed 25 = .ok (.getfield 38, 3) := by decide +kernel
theorem dX12_feed_28 : decode cX12_feed 28 = .ok (.aload_n 0, 1) := by decide +kernel
theorem dX12_feed_29 : decode cX12_feed 29 = .ok (.getfield 184, 3) := by decide +kernel
theorem dX12_feed_32 : decode cX12_feed 32 = .ok (.iload_n 1, 1) := by decide +kernel
theorem dX12_feed_33 : decode cX12_feed 33 = .ok (.iastore, 1) := by decide +kernel
theorem dX12_feed_34 : decode cX12_feed 34 = .ok (.aload_n 0, 1) := by decide +kernel
theorem dX12_feed_35 : decode cX12_feed 35 = .ok (.dup, 1) := by decide +kernel
theorem dX12_feed_36 : decode cX12_feed 36 = .ok (.getfield 184, 3) := by decide +kernel
theorem dX12_feed_39 : decode cX12_feed 39 = .ok (.iconst 1, 1) := by decide +kernel
theorem dX12_feed_40 : decode cX12_feed 40 = .ok (.iadd, 1) := by decide +kernel
theorem dX12_feed_41 : decode cX12_feed 41 = .ok (.putfield 184, 3) := by decide +kernel
theorem dX12_feed_44 : decode cX12_feed 44 = .ok (.aload_n 0, 1) := by decide +kernel
theorem dX12_feed_45 : decode cX12_feed 45 = .ok (.getfield 184, 3) := by decide +kernel
theorem dX12_feed_48 : decode cX12_feed 48 = .ok (.ireturn, 1) := by decide +kernel
set_option maxRecDepth 20000 in
theorem ggX12_isAt_X12_isBetween : GoodIn wsX12_isAt wsX12_isBetween := goodIn_r _ [7] (by decide +kernel) (by decide +kernel)
set_option maxRecDepth 20000 in
theorem gX12_isAt_X12_isBetween : GoodIn wsX12_isAt (va_wsS RX12 169 yX12_isBetween wsX12_isBetween) := goodIn_app (goodIn_of _ (by decide +kernel)) ggX12_isAt_X12_isBetween
theorem dX12_isAt_0 : decode cX12_isAt 0 = .ok (.aload_n 0, 1) := by decide +kernel
theorem dX12_isAt_1 : decode cX12_isAt 1 = .ok (.getfield 187, 3) := by decide +kernel
theorem dX12_isAt_4 : decode cX12_isAt 4 = .ok (.aload_n 0, 1) := by decide +kernel
theorem dX12_isAt_5 : decode cX12_isAt 5 = .ok (.getfield 184, 3) := by decide +kernel
theorem dX12_isAt_8 : decode cX12_isAt 8 = .ok (.if_icmp .ge 24, 3) := by decide +kernel
theorem dX12_isAt_11 : decode cX12_isAt 11 = .ok (.aload_n 0, 1) := by decide +kernel
theorem dX12_isAt_12 : decode cX12_isAt 12 = .ok (.getfield 38, 3) := by decide +kernel
theorem dX12_isAt_15 : decode cX12_isAt 15 = .ok (.aload_n 0, 1) := by decide +kernel
theorem dX12_isAt_16 : decode cX12_isAt 16 = .ok (.getfield 187, 3) := by decide +kernel
theorem dX12_isAt_19 : decode cX12_isAt 19 = .ok (.iaload, 1) := by decide +kernel
theorem dX12_isAt_20 : decode cX12_isAt 20 = .ok (.iload_n 1, 1) := by decide +kernel
theorem dX12_isAt_21 : decode cX12_isAt 21 = .ok (.iload_n 2, 1) := by decide +kernel
theorem dX12_isAt_22 : decode cX12_isAt 22 = .ok (.invokestatic 169, 3) := by decide +kernel
theorem dX12_isAt_25 : decode cX12_isAt 25 = .ok (.ifCond .eq 7, 3) := by decide +kernel
theorem dX12_isAt_28 : decode cX12_isAt 28 = .ok (.iconst 1, 1) := by decide +kernel
theorem dX12_isAt_29 : decode cX12_isAt 29 = .ok (.goto 4, 3) := by decide +kernel
theorem dX12_isAt_32 : decode cX12_isAt 32 = .ok (.iconst 0, 1) := by decide +kernel
theorem dX12_isAt_33 : decode cX12_isAt 33 = .ok (.ireturn, 1) := by decide +kernel
set_option maxRecDepth 20000 in
theorem ggX12_readsTest_X12_isAt : GoodIn wsX12_readsTest wsX12_isAt := goodIn_r _ [14, 5, 9, 4, 15, 16, 13, 17, 18, 19, 20, 21, 22, 23, 24, 25, 26, 27, 28, 29, 30, 31, 32, 33, 34, 35, 36, 37, 38, 39, 40, 41, 42, 43, 44, 45, 46, 47, 48, 49, 50, 51, 52, 53, 54, 55, 56, 57, 58, 59, 60, 61, 62, 63, 64, 65, 66, 67, 68, 69, 70, 71, 72, 73, 74, 75, 76, 77, 78, 79, 80, 81, 82, 83, 84, 85] (by decide +kernel) (by decide +kernel)
set_option maxRecDepth 20000 in
theorem gX12_readsTest_X12_isAt : GoodIn wsX12_readsTest (wsV RX12 190 RX12 yX12_isAt wsX12_isAt) := goodIn_app (goodIn_of _ (by decide +kernel)) ggX12_readsTest_X12_isAt
theorem dX12_readsTest_0 : decode cX12_readsTest 0 = .ok (.iconst 0, 1) := by decide +kernel
theorem dX12_readsTest_1 : decode cX12_readsTest 1 = .ok (.istore_n 1, 1) := by decide +kernel
theorem dX12_readsTest_2 : decode cX12_readsTest 2 = .ok (.iload_n 1, 1) := by decide +kernel
theorem dX12_readsTest_3 : decode cX12_readsTest 3 = .ok (.iconst 4, 1) := by decide +kernel
theorem dX12_readsTest_4 : decode cX12_readsTest 4 = .ok (.if_icmp .ge 62, 3) := by decide +kernel
theorem dX12_readsTest_7 : decode cX12_readsTest 7 = .ok (.aload_n 0, 1) := by decide +kernel
theorem dX12_readsTest_8 : decode cX12_readsTest 8 = .ok (.bipush 97, 2) := by decide +kernel
theorem dX12_readsTest_10 : decode cX12_readsTest 10 = .ok (.bipush 97, 2) := by decide +kernel
theorem dX12_readsTest_12 : decode cX12_readsTest 12 = .ok (.aload_n 0, 1) := by decide +kernel
theorem dX12_readsTest_13 : decode cX12_readsTest 13 = .ok (.getfield 7, 3) := by decide +kernel
theorem dX12_readsTest_16 : decode cX12_readsTest 16 = .ok (.iadd, 1) := by decide +kernel
theorem dX12_readsTest_17 : decode cX12_readsTest 17 = .ok (.iconst 1, 1) := by decide +kernel
theorem dX12_readsTest_18 : decode cX12_readsTest 18 = .ok (.isub, 1) := by decide +kernel
theorem dX12_readsTest_19 : decode cX12_readsTest 19 = .ok (.invokevirtual 190, 3) := by decide +kernel
theorem dX12_readsTest_22 : decode cX12_readsTest 22 = .ok (.ifCond .eq 44, 3) := by decide +kernel
theorem dX12_readsTest_25 : decode cX12_readsTest 25 = .ok (.aload_n 0, 1) := by decide +kernel
theorem dX12_readsTest_26 : decode cX12_readsTest 26 = .ok (.getfield 35, 3) := by decide +kernel
theorem dX12_readsTest_29 : decode cX12_readsTest 29 = .ok (.iconst 4, 1) := by decide +kernel
theorem dX12_readsTest_30 : decode cX12_readsTest 30 = .ok (.aload_n 0, 1) := by decide +kernel
theorem dX12_readsTest_31 : decode cX12_readsTest 31 = .ok (.getfield 173, 3) := by decide +kernel
theorem dX12_readsTest_34 : decode cX12_readsTest 34 = .ok (.imul, 1) := by decide +kernel
theorem dX12_readsTest_35 : decode cX12_readsTest 35 = .ok (.iload_n 1, 1) := by decide +kernel
theorem dX12_readsTest_36 : decode cX12_readsTest 36 = .ok (.iadd, 1) := by decide +kernel
theorem dX12_readsTest_37 : decode cX12_readsTest 37 = .ok (.aload_n 0, 1) := by decide +kernel
theorem dX12_readsTest_38 : decode cX12_readsTest 38 = .ok (.getfield 38, 3) := by decide +kernel
theorem dX12_readsTest_41 : decode cX12_readsTest 41 = .ok (.aload_n 0, 1) := by decide +kernel
theorem dX12_readsTest_42 : decode cX12_readsTest 42 = .ok (.getfield 187, 3) := by decide +kernel
theorem dX12_readsTest_45 : decode cX12_readsTest 45 = .ok (.iaload, 1) := by decide +kernel
theorem dX12_readsTest_46 : decode cX12_readsTest 46 = .ok (.bipush 97, 2) := by decide +kernel
theorem dX12_readsTest_48 : decode cX12_readsTest 48 = .ok (.isub, 1) := by decide +kernel
theorem dX12_readsTest_49 : decode cX12_readsTest 49 = .ok (.iastore, 1) := by decide +kernel
theorem dX12_readsTest_50 : decode cX12_readsTest 50 = .ok (.iinc 1 1, 3) := by decide +kernel
theorem dX12_readsTest_53 : decode cX12_readsTest 53 = .ok (.aload_n 0, 1) := by decide +kernel
theorem dX12_readsTest_54 : decode cX12_readsTest 54 = .ok (.dup, 1) := by decide +kernel
theorem dX12_readsTest_55 : decode cX12_readsTest 55 = .ok (.getfield 187, 3) := by decide +kernel
theorem dX12_readsTest_58 : decode cX12_readsTest 58 = .ok (.iconst 1, 1) := by decide +kernel
theorem dX12_readsTest_59 : decode cX12_readsTest 59 = .ok (.iadd, 1) := by decide +kernel
theorem dX12_readsTest_60 : decode cX12_readsTest 60 = .ok (.putfield 187, 3) := by decide +kernel
theorem dX12_readsTest_63 : decode cX12_readsTest 63 = .ok (.goto (-61), 3) := by decide +kernel
theorem dX12_readsTest_66 : decode cX12_readsTest 66 = .ok (.iload_n 1, 1) := by decide +kernel
theorem dX12_readsTest_67 : decode cX12_readsTest 67 = .ok (.ifCond .ne 16, 3) := by decide +kernel
theorem dX12_readsTest_70 : decode cX12_readsTest 70 = .ok (.aload_n 0, 1) := by decide +kernel
theorem dX12_readsTest_71 : decode cX12_readsTest 71 = .ok (.bipush 35, 2) := by decide +kernel
theorem dX12_readsTest_73 : decode cX12_readsTest 73 = .ok (.bipush 35, 2) := by decide +kernel
theorem dX12_readsTest_75 : decode cX12_readsTest 75 = .ok (.invokevirtual 190, 3) := by decide +kernel
theorem dX12_readsTest_78 : decode cX12_readsTest 78 = .ok (.ifCond .ne 5, 3) := by decide +kernel
theorem dX12_readsTest_81 : decode cX12_readsTest 81 = .ok (.iconst 0, 1) := by decide +kernel
theorem dX12_readsTest_82 : decode cX12_readsTest 82 = .ok (.ireturn, 1) := by decide +kernel
theorem dX12_readsTest_83 : decode cX12_readsTest 83 = .ok (.aload_n 0, 1) := by decide +kernel
theorem dX12_readsTest_84 : decode cX12_readsTest 84 = .ok (.dup, 1) := by decide +kernel
theorem dX12_readsTest_85 : decode cX12_readsTest 85 = .ok (.getfield 187, 3) := by decide +kernel
theorem dX12_readsTest_88 : decode cX12_readsTest 88 = .ok (.iload_n 1, 1) := by decide +kernel
theorem dX12_readsTest_89 : decode cX12_readsTest 89 = .ok (.ifCond .ne 7, 3) := by decide +kernel
theorem dX12_readsTest_92 : decode cX12_readsTest 92 = .ok (.iconst 1, 1) := by decide +kernel
theorem dX12_readsTest_93 : decode cX12_readsTest 93 = .ok (.goto 4, 3) := by decide +kernel
theorem dX12_readsTest_96 : decode cX12_readsTest 96 = .ok (.iconst 0, 1) := by decide +kernel
theorem dX12_readsTest_97 : decode cX12_readsTest 97 = .ok (.iadd, 1) := by decide +kernel
theorem dX12_readsTest_98 : decode cX12_readsTest 98 = .ok (.putfield 187, 3) := by decide +kernel
theorem dX12_readsTest_101 : decode cX12_readsTest 101 = .ok (.iload_n 1, 1) := by decide +kernel
theorem dX12_readsTest_102 : decode cX12_readsTest 102 = .ok (.ifCond .le 18, 3) := by decide +kernel
theorem dX12_readsTest_105 : decode cX12_readsTest 105 = .ok (.aload_n 0, 1) := by decide +kernel
theorem dX12_readsTest_106 : decode cX12_readsTest 106 = .ok (.bipush 94, 2) := by decide +kernel
theorem dX12_readsTest_108 : decode cX12_readsTest 108 = .ok (.bipush 94, 2) := by decide +kernel
theorem dX12_readsTest_110 : decode cX12_readsTest 110 = .ok (.invokevirtual 190, 3) := by decide +kernel
theorem dX12_readsTest_113 : decode cX12_readsTest 113 = .ok (.ifCond .eq 7, 3) := by decide +kernel
theorem dX12_readsTest_116 : decode cX12_readsTest 116 = .ok (.iconst 1, 1) := by decide +kernel
theorem dX12_readsTest_117 : decode cX12_readsTest 117 = .ok (.goto 4, 3) := by decide +kernel
theorem dX12_readsTest_120 : decode cX12_readsTest 120 = .ok (.iconst 0, 1) := by decide +kernel
theorem dX12_readsTest_121 : decode cX12_readsTest 121 = .ok (.istore_n 2, 1) := by decide +kernel
theorem dX12_readsTest_122 : decode cX12_readsTest 122 = .ok (.iload_n 2, 1) := by decide +kernel
theorem dX12_readsTest_123 : decode cX12_readsTest 123 = .ok (.ifCond .ne 16, 3) := by decide +kernel
theorem dX12_readsTest_126 : decode cX12_readsTest 126 = .ok (.aload_n 0, 1) := by decide +kernel
theorem dX12_readsTest_127 : decode cX12_readsTest 127 = .ok (.bipush 37, 2) := by decide +kernel
theorem dX12_readsTest_129 : decode cX12_readsTest 129 = .ok (.bipush 37, 2) := by decide +kernel
theorem dX12_readsTest_131 : decode cX12_readsTest 131 = .ok (.invokevirtual 190, 3) := by decide +kernel
theorem dX12_readsTest_134 : decode cX12_readsTest 134 = .ok (.ifCond .ne 5, 3) := by decide +kernel
theorem dX12_readsTest_137 : decode cX12_readsTest 137 = .ok (.iconst 0, 1) := by decide +kernel
theorem dX12_readsTest_138 : decode cX12_readsTest 138 = .ok (.ireturn, 1) := by decide +kernel
theorem dX12_readsTest_139 : decode cX12_readsTest 139 = .ok (.aload_n 0, 1) := by decide +kernel
theorem dX12_readsTest_140 : decode cX12_readsTest 140 = .ok (.dup, 1) := by decide +kernel
theorem dX12_readsTest_141 : decode cX12_readsTest 141 = .ok (.getfield 187, 3) := by decide +kernel
theorem dX12_readsTest_144 : decode cX12_readsTest 144 = .ok (.iconst 1, 1) := by decide +kernel
theorem dX12_readsTest_145 : decode cX12_readsTest 145 = .ok (.iadd, 1) := by decide +kernel
theorem dX12_readsTest_146 : decode cX12_readsTest 146 = .ok (.putfield 187, 3) := by decide +kernel
theorem dX12_readsTest_149 : decode cX12_readsTest 149 = .ok (.aload_n 0, 1) := by decide +kernel
theorem dX12_readsTest_150 : decode cX12_readsTest 150 = .ok (.iload_n 2, 1) := by decide +kernel
theorem dX12_readsTest_151 : decode cX12_readsTest 151 = .ok (.ifCond .eq 8, 3) := by decide +kernel
theorem dX12_readsTest_154 : decode cX12_readsTest 154 = .ok (.bipush 49, 2) := by decide +kernel
theorem dX12_readsTest_156 : decode cX12_readsTest 156 = .ok (.goto 5, 3) := by decide +kernel
theorem dX12_readsTest_159 : decode cX12_readsTest 159 = .ok (.bipush 50, 2) := by decide +kernel
theorem dX12_readsTest_161 : decode cX12_readsTest 161 = .ok (.bipush 57, 2) := by decide +kernel
theorem dX12_readsTest_163 : decode cX12_readsTest 163 = .ok (.invokevirtual 190, 3) := by decide +kernel
theorem dX12_readsTest_166 : decode cX12_readsTest 166 = .ok (.ifCond .ne 5, 3) := by decide +kernel
theorem dX12_readsTest_169 : decode cX12_readsTest 169 = .ok (.iconst 0, 1) := by decide +kernel
theorem dX12_readsTest_170 : decode cX12_readsTest 170 = .ok (.ireturn, 1) := by decide +kernel
theorem dX12_readsTest_171 : decode cX12_readsTest 171 = .ok (.aload_n 0, 1) := by decide +kernel
theorem dX12_readsTest_172 : decode cX12_readsTest 172 = .ok (.getfield 26, 3) := by decide +kernel
theorem dX12_readsTest_175 : decode cX12_readsTest 175 = .ok (.aload_n 0, 1) := by decide +kernel
theorem dX12_readsTest_176 : decode cX12_readsTest 176 = .ok (.getfield 173, 3) := by decide +kernel
theorem dX12_readsTest_179 : decode cX12_readsTest 179 = .ok (.iload_n 2, 1) := by decide +kernel
theorem dX12_readsTest_180 : decode cX12_readsTest 180 = .ok (.ifCond .eq 7, 3) := by decide +kernel
theorem dX12_readsTest_183 : decode cX12_readsTest 183 = .ok (.iconst 2, 1) := by decide +kernel
theorem dX12_readsTest_184 : decode cX12_readsTest 184 = .ok (.goto 12, 3) := by decide +kernel
theorem dX12_readsTest_187 : decode cX12_readsTest 187 = .ok (.iload_n 1, 1) := by decide +kernel
theorem dX12_readsTest_188 : decode cX12_readsTest 188 = .ok (.ifCond .ne 7, 3) := by decide +kernel
theorem dX12_readsTest_191 : decode cX12_readsTest 191 = .ok (.iconst 1, 1) := by decide +kernel
theorem dX12_readsTest_192 : decode cX12_readsTest 192 = .ok (.goto 4, 3) := by decide +kernel
theorem dX12_readsTest_195 : decode cX12_readsTest 195 = .ok (.iconst 0, 1) := by decide +kernel
theorem dX12_readsTest_196 : decode cX12_readsTest 196 = .ok (.iastore, 1) := by decide +kernel
theorem dX12_readsTest_197 : decode cX12_readsTest 197 = .ok (.aload_n 0, 1) := by decide +kernel
theorem dX12_readsTest_198 : decode cX12_readsTest 198 = .ok (.getfield 29, 3) := by decide +kernel
theorem dX12_readsTest_201 : decode cX12_readsTest 201 = .ok (.aload_n 0, 1) := by decide +kernel
theorem dX12_readsTest_202 : decode cX12_readsTest 202 = .ok (.getfield 173, 3) := by decide +kernel
theorem dX12_readsTest_205 : decode cX12_readsTest 205 = .ok (.aload_n 0, 1) := by decide +kernel
theorem dX12_readsTest_206 : decode cX12_readsTest 206 = .ok (.getfield 38, 3) := by decide +kernel
theorem dX12_readsTest_209 : decode cX12_readsTest 209 = .ok (.aload_n 0, 1) := by decide +kernel
theorem dX12_readsTest_210 : decode cX12_readsTest 210 = .ok (.getfield 187, 3) := by decide +kernel
theorem dX12_readsTest_213 : decode cX12_readsTest 213 = .ok (.iaload, 1) := by decide +kernel
theorem dX12_readsTest_214 : decode cX12_readsTest 214 = .ok (.bipush 48, 2) := by decide +kernel
theorem dX12_readsTest_216 : decode cX12_readsTest 216 = .ok (.isub, 1) := by decide +kernel
theorem dX12_readsTest_217 : decode cX12_readsTest 217 = .ok (.iastore, 1) := by decide +kernel
theorem dX12_readsTest_218 : decode cX12_readsTest 218 = .ok (.aload_n 0, 1) := by decide +kernel
theorem dX12_readsTest_219 : decode cX12_readsTest 219 = .ok (.getfield 32, 3) := by decide +kernel
theorem dX12_readsTest_222 : decode cX12_readsTest 222 = .ok (.aload_n 0, 1) := by decide +kernel
theorem dX12_readsTest_223 : decode cX12_readsTest 223 = .ok (.getfield 173, 3) := by decide +kernel
theorem dX12_readsTest_226 : decode cX12_readsTest 226 = .ok (.iload_n 1, 1) := by decide +kernel
theorem dX12_readsTest_227 : decode cX12_readsTest 227 = .ok (.iastore, 1) := by decide +kernel
theorem dX12_readsTest_228 : decode cX12_readsTest 228 = .ok (.aload_n 0, 1) := by decide +kernel
theorem dX12_readsTest_229 : decode cX12_readsTest 229 = .ok (.dup, 1) := by decide +kernel
theorem dX12_readsTest_230 : decode cX12_readsTest 230 = .ok (.getfield 187, 3) := by decide +kernel
theorem dX12_readsTest_233 : decode cX12_readsTest 233 = .ok (.iconst 1, 1) := by decide +kernel
theorem dX12_readsTest_234 : decode cX12_readsTest 234 = .ok (.iadd, 1) := by decide +kernel
theorem dX12_readsTest_235 : decode cX12_readsTest 235 = .ok (.putfield 187, 3) := by decide +kernel
theorem dX12_readsTest_238 : decode cX12_readsTest 238 = .ok (.aload_n 0, 1) := by decide +kernel
theorem dX12_readsTest_239 : decode cX12_readsTest 239 = .ok (.getfield 187, 3) := by decide +kernel
theorem dX12_readsTest_242 : decode cX12_readsTest 242 = .ok (.aload_n 0, 1) := by decide +kernel
theorem dX12_readsTest_243 : decode cX12_readsTest 243 = .ok (.getfield 184, 3) := by decide +kernel
theorem dX12_readsTest_246 : decode cX12_readsTest 246 = .ok (.if_icmp .ne 7, 3) := by decide +kernel
theorem dX12_readsTest_249 : decode cX12_readsTest 249 = .ok (.iconst 1, 1) := by decide +kernel
theorem dX12_readsTest_250 : decode cX12_readsTest 250 = .ok (.goto 4, 3) := by decide +kernel
theorem dX12_readsTest_253 : decode cX12_readsTest 253 = .ok (.iconst 0, 1) := by decide +kernel
theorem dX12_readsTest_254 : decode cX12_readsTest 254 = .ok (.ireturn, 1) := by decide +kernel
set_option maxRecDepth 20000 in
theorem ggX12_addTest_X12_readsTest : GoodIn wsX12_addTest wsX12_readsTest := goodIn_r _ [8, 9, 10, 1, 11, 2, 12, 13, 14, 3, 15, 16, 17, 7, 18, 19, 20, 21, 22, 23, 24, 25, 26, 27, 28, 29, 30, 31, 32, 33, 34, 35, 36, 37, 38, 39, 40, 41, 42, 43, 44, 45, 46, 47, 48, 49, 50, 51, 52, 53, 54, 55, 56, 57, 58, 59, 60, 61, 62, 63, 64, 65, 66, 67, 68, 69, 70, 71, 72, 73, 74, 75, 76, 77, 78, 79, 80, 81, 82, 83, 84, 85, 86, 87, 88, 89] (by decide +kernel) (by decide +kernel)
set_option maxRecDepth 20000 in
theorem gX12_addTest_X12_readsTest : GoodIn wsX12_addTest (wsV RX12 194 RX12 yX12_readsTest wsX12_readsTest) := goodIn_app (goodIn_of _ (by decide +kernel)) ggX12_addTest_X12_readsTest
theorem dX12_addTest_0 : decode cX12_addTest 0 = .ok (.aload_n 0, 1) := by decide +kernel
theorem dX12_addTest_1 : decode cX12_addTest 1 = .ok (.getfield 173, 3) := by decide +kernel
theorem dX12_addTest_4 : decode cX12_addTest 4 = .ok (.bipush 6, 2) := by decide +kernel
theorem dX12_addTest_6 : decode cX12_addTest 6 = .ok (.if_icmp .ne 6, 3) := by decide +kernel
theorem dX12_addTest_9 : decode cX12_addTest 9 = .ok (.bipush (-3), 2) := by decide +kernel
theorem dX12_addTest_11 : decode cX12_addTest 11 = .ok (.ireturn, 1) := by decide +kernel
theorem dX12_addTest_12 : decode cX12_addTest 12 = .ok (.aload_n 0, 1) := by decide +kernel
theorem dX12_addTest_13 : decode cX12_addTest 13 = .ok (.iconst 0, 1) := by decide +kernel
theorem dX12_addTest_14 : decode cX12_addTest 14 = .ok (.putfield 187, 3) := by decide +kernel
theorem dX12_addTest_17 : decode cX12_addTest 17 = .ok (.aload_n 0, 1) := by decide +kernel
theorem dX12_addTest_18 : decode cX12_addTest 18 = .ok (.invokevirtual 194, 3) := by decide +kernel
theorem dX12_addTest_21 : decode cX12_addTest 21 = .ok (.istore_n 1, 1) := by decide +kernel
theorem dX12_addTest_22 : decode cX12_addTest 22 = .ok (.aload_n 0, 1) := by decide +kernel
theorem dX12_addTest_23 : decode cX12_addTest 23 = .ok (.iconst 0, 1) := by decide +kernel
theorem dX12_addTest_24 : decode cX12_addTest 24 = .ok (.putfield 184, 3) := by decide +kernel
theorem dX12_addTest_27 : decode cX12_addTest 27 = .ok (.iload_n 1, 1) := by decide +kernel
theorem dX12_addTest_28 : decode cX12_addTest 28 = .ok (.ifCond .ne 11, 3) := by decide +kernel
theorem dX12_addTest_31 : decode cX12_addTest 31 = .ok (.bipush (-100), 2) := by decide +kernel
theorem dX12_addTest_33 : decode cX12_addTest 33 = .ok (.aload_n 0, 1) := by decide +kernel
theorem dX12_addTest_34 : decode cX12_addTest 34 = .ok (.getfield 187, 3) := by decide +kernel
theorem dX12_addTest_37 : decode cX12_addTest 37 = .ok (.isub, 1) := by decide +kernel
theorem dX12_addTest_38 : decode cX12_addTest 38 = .ok (.ireturn, 1) := by decide +kernel
theorem dX12_addTest_39 : decode cX12_addTest 39 = .ok (.aload_n 0, 1) := by decide +kernel
theorem dX12_addTest_40 : decode cX12_addTest 40 = .ok (.dup, 1) := by decide +kernel
theorem dX12_addTest_41 : decode cX12_addTest 41 = .ok (.getfield 173, 3) := by decide +kernel
theorem dX12_addTest_44 : decode cX12_addTest 44 = .ok (.iconst 1, 1) := by decide +kernel
theorem dX12_addTest_45 : decode cX12_addTest 45 = .ok (.iadd, 1) := by decide +kernel
theorem dX12_addTest_46 : decode cX12_addTest 46 = .ok (.putfield 173, 3) := by decide +kernel
theorem dX12_addTest_49 : decode cX12_addTest 49 = .ok (.aload_n 0, 1) := by decide +kernel
theorem dX12_addTest_50 : decode cX12_addTest 50 = .ok (.getfield 173, 3) := by decide +kernel
theorem dX12_addTest_53 : decode cX12_addTest 53 = .ok (.iconst 1, 1) := by decide +kernel
theorem dX12_addTest_54 : decode cX12_addTest 54 = .ok (.isub, 1) := by decide +kernel
theorem dX12_addTest_55 : decode cX12_addTest 55 = .ok (.ireturn, 1) := by decide +kernel
set_option maxRecDepth 20000 in
theorem ggX12_removeTest_X12_isTest : GoodIn wsX12_removeTest wsX12_isTest := goodIn_r _ [10, 1, 11, 12, 9, 13, 14, 15, 16, 17, 18, 19, 20, 21, 22, 23, 24, 25, 26, 27, 28, 29, 30, 31, 32, 33, 34, 35, 36, 37, 38, 39, 40, 41, 42, 43, 44, 45, 46, 47, 48, 49, 50, 51, 52, 53, 54, 55, 56, 57, 58, 59, 60, 61, 62, 63, 64, 65, 66, 67, 68, 69, 70, 71, 72, 73, 74, 75, 76, 77, 78, 79, 80, 81] (by decide +kernel) (by decide +kernel)
set_option maxRecDepth 20000 in
theorem gX12_removeTest_X12_isTest : GoodIn wsX12_removeTest (wsV RX12 198 RX12 yX12_isTest wsX12_isTest) := goodIn_app (goodIn_of _ (by decide +kernel)) ggX12_removeTest_X12_isTest
theorem dX12_removeTest_0 : decode cX12_removeTest 0 = .ok (.aload_n 0, 1) := by decide +kernel
theorem dX12_removeTest_1 : decode cX12_removeTest 1 = .ok (.iload_n 1, 1) := by decide +kernel
theorem dX12_removeTest_2 : decode cX12_removeTest 2 = .ok (.invokevirtual 198, 3) := by decide +kernel
theorem dX12_removeTest_5 : decode cX12_removeTest 5 = .ok (.ifCond .ne 5, 3) := by decide +kernel
theorem dX12_removeTest_8 : decode cX12_removeTest 8 = .ok (.iconst (-1), 1) := by decide +kernel
theorem dX12_removeTest_9 : decode cX12_removeTest 9 = .ok (.ireturn, 1) := by decide +kernel
theorem dX12_removeTest_10 : decode cX12_removeTest 10 = .ok (.aload_n 0, 1) := by decide +kernel
theorem dX12_removeTest_11 : decode cX12_removeTest 11 = .ok (.dup, 1) := by decide +kernel
theorem dX12_removeTest_12 : decode cX12_removeTest 12 = .ok (.getfield 173, 3) := by decide +kernel
theorem dX12_removeTest_15 : decode cX12_removeTest 15 = .ok (.iconst 1, 1) := by decide +kernel
theorem dX12_removeTest_16 : decode cX12_removeTest 16 = .ok (.isub, 1) := by decide +kernel
theorem dX12_removeTest_17 : decode cX12_removeTest 17 = .ok (.putfield 173, 3) := by decide +kernel
theorem dX12_removeTest_20 : decode cX12_removeTest 20 = .ok (.iload_n 1, 1) := by decide +kernel
theorem dX12_removeTest_21 : decode cX12_removeTest 21 = .ok (.istore_n 2, 1) := by decide +kernel
theorem dX12_removeTest_22 : decode cX12_removeTest 22 = .ok (.iload_n 2, 1) := by decide +kernel
theorem dX12_removeTest_23 : decode cX12_removeTest 23 = .ok (.aload_n 0, 1) := by decide +kernel
theorem dX12_removeTest_24 : decode cX12_removeTest 24 = .ok (.getfield 173, 3) := by decide +kernel
theorem dX12_removeTest_27 : decode cX12_removeTest 27 = .ok (.if_icmp .ge 86, 3) := by decide +kernel
theorem dX12_removeTest_30 : decode cX12_removeTest 30 = .ok (.aload_n 0, 1) := by decide +kernel
theorem dX12_removeTest_31 : decode cX12_removeTest 31 = .ok (.getfield 26, 3) := by decide +kernel
theorem dX12_removeTest_34 : decode cX12_removeTest 34 = .ok (.iload_n 2, 1) := by decide +kernel
theorem dX12_removeTest_35 : decode cX12_removeTest 35 = .ok (.aload_n 0, 1) := by decide +kernel
theorem dX12_removeTest_36 : decode cX12_removeTest 36 = .ok (.getfield 26, 3) := by decide +kernel
theorem dX12_removeTest_39 : decode cX12_removeTest 39 = .ok (.iload_n 2, 1) := by decide +kernel
theorem dX12_removeTest_40 : decode cX12_removeTest 40 = .ok (.iconst 1, 1) := by decide +kernel
theorem dX12_removeTest_41 : decode cX12_removeTest 41 = .ok (.iadd, 1) := by decide +kernel
theorem dX12_removeTest_42 : decode cX12_removeTest 42 = .ok (.iaload, 1) := by decide +kernel
theorem dX12_removeTest_43 : decode cX12_removeTest 43 = .ok (.iastore, 1) := by decide +kernel
theorem dX12_removeTest_44 : decode cX12_removeTest 44 = .ok (.aload_n 0, 1) := by decide +kernel
theorem dX12_removeTest_45 : decode cX12_removeTest 45 = .ok (.getfield 29, 3) := by decide +kernel
theorem dX12_removeTest_48 : decode cX12_removeTest 48 = .ok (.iload_n 2, 1) := by decide +kernel
theorem dX12_removeTest_49 : decode cX12_removeTest 49 = .ok (.aload_n 0, 1) := by decide +kernel
theorem dX12_removeTest_50 : decode cX12_removeTest 50 = .ok (.getfield 29, 3) := by decide +kernel
theorem dX12_removeTest_53 : decode cX12_removeTest 53 = .ok (.iload_n 2, 1) := by decide +kernel
theorem dX12_removeTest_54 : decode cX12_removeTest 54 = .ok (.iconst 1, 1) := by decide +kernel
theorem dX12_removeTest_55 : decode cX12_removeTest 55 = .ok (.iadd, 1) := by decide +kernel
theorem dX12_removeTest_56 : decode cX12_removeTest 56 = .ok (.iaload, 1) := by decide +kernel
theorem dX12_removeTest_57 : decode cX12_removeTest 57 = .ok (.iastore, 1) := by decide +kernel
theorem dX12_removeTest_58 : decode cX12_removeTest 58 = .ok (.aload_n 0, 1) := by decide +kernel
theorem dX12_removeTest_59 : decode cX12_removeTest 59 = .ok (.getfield 32, 3) := by decide +kernel
theorem dX12_removeTest_62 : decode cX12_removeTest 62 = .ok (.iload_n 2, 1) := by decide +kernel
theorem dX12_removeTest_63 : decode cX12_removeTest 63 = .ok (.aload_n 0, 1) := by decide +kernel
theorem dX12_removeTest_64 : decode cX12_removeTest 64 = .ok (.getfield 32, 3) := by decide +kernel
theorem dX12_removeTest_67 : decode cX12_removeTest 67 = .ok (.iload_n 2, 1) := by decide +kernel
theorem dX12_removeTest_68 : decode cX12_removeTest 68 = .ok (.iconst 1, 1) := by decide +kernel
theorem dX12_removeTest_69 : decode cX12_removeTest 69 = .ok (.iadd, 1) := by decide +kernel
theorem dX12_removeTest_70 : decode cX12_removeTest 70 = .ok (.iaload, 1) := by decide +kernel
theorem dX12_removeTest_71 : decode cX12_removeTest 71 = .ok (.iastore, 1) := by decide +kernel
theorem dX12_removeTest_72 : decode cX12_removeTest 72 = .ok (.iconst 0, 1) := by decide +kernel
theorem dX12_removeTest_73 : decode cX12_removeTest 73 = .ok (.istore_n 3, 1) := by decide +kernel
theorem dX12_removeTest_74 : decode cX12_removeTest 74 = .ok (.iload_n 3, 1) := by decide +kernel
theorem dX12_removeTest_75 : decode cX12_removeTest 75 = .ok (.iconst 4, 1) := by decide +kernel
theorem dX12_removeTest_76 : decode cX12_removeTest 76 = .ok (.if_icmp .ge 31, 3) := by decide +kernel
theorem dX12_removeTest_79 : decode cX12_removeTest 79 = .ok (.aload_n 0, 1) := by decide +kernel
theorem dX12_removeTest_80 : decode cX12_removeTest 80 = .ok (.getfield 35, 3) := by decide +kernel
theorem dX12_removeTest_83 : decode cX12_removeTest 83 = .ok (.iconst 4, 1) := by decide +kernel
theorem dX12_removeTest_84 : decode cX12_removeTest 84 = .ok (.iload_n 2, 1) := by decide +kernel
theorem dX12_removeTest_85 : decode cX12_removeTest 85 = .ok (.imul, 1) := by decide +kernel
theorem dX12_removeTest_86 : decode cX12_removeTest 86 = .ok (.iload_n 3, 1) := by decide +kernel
theorem dX12_removeTest_87 : decode cX12_removeTest 87 = .ok (.iadd, 1) := by decide +kernel
theorem dX12_removeTest_88 : decode cX12_removeTest 88 = .ok (.aload_n 0, 1) := by decide +kernel
theorem dX12_removeTest_89 : decode cX12_removeTest 89 = .ok (.getfield 35, 3) := by decide +kernel
theorem dX12_removeTest_92 : decode cX12_removeTest 92 = .ok (.iconst 4, 1) := by decide +kernel
theorem dX12_removeTest_93 : decode cX12_removeTest 93 = .ok (.iload_n 2, 1) := by decide +kernel
theorem dX12_removeTest_94 : decode cX12_removeTest 94 = .ok (.imul, 1) := by decide +kernel
theorem dX12_removeTest_95 : decode cX12_removeTest 95 = .ok (.iconst 4, 1) := by decide +kernel
theorem dX12_removeTest_96 : decode cX12_removeTest 96 = .ok (.iadd, 1) := by decide +kernel
theorem dX12_removeTest_97 : decode cX12_removeTest 97 = .ok (.iload_n 3, 1) := by decide +kernel
theorem dX12_removeTest_98 : decode cX12_removeTest 98 = .ok (.iadd, 1) := by decide +kernel
theorem dX12_removeTest_99 : decode cX12_removeTest 99 = .ok (.iaload, 1) := by decide +kernel
theorem dX12_removeTest_100 : decode cX12_removeTest 100 = .ok (.iastore, 1) := by decide +kernel
theorem dX12_removeTest_101 : decode cX12_removeTest 101 = .ok (.iinc 3 1, 3) := by decide +kernel
theorem dX12_removeTest_104 : decode cX12_removeTest 104 = .ok (.goto (-30), 3) := by decide +kernel
theorem dX12_removeTest_107 : decode cX12_removeTest 107 = .ok (.iinc 2 1, 3) := by decide +kernel
theorem dX12_removeTest_110 : decode cX12_removeTest 110 = .ok (.goto (-88), 3) := by decide +kernel
theorem dX12_removeTest_113 : decode cX12_removeTest 113 = .ok (.aload_n 0, 1) := by decide +kernel
theorem dX12_removeTest_114 : decode cX12_removeTest 114 = .ok (.getfield 173, 3) := by decide +kernel
theorem dX12_removeTest_117 : decode cX12_removeTest 117 = .ok (.ireturn, 1) := by decide +kernel
theorem dX12_testCount_0 : decode cX12_testCount 0 = .ok (.aload_n 0, 1) := by decide +kernel
theorem dX12_testCount_1 : decode cX12_testCount 1 = .ok (.getfield 173, 3) := by decide +kernel
theorem dX12_testCount_4 : decode cX12_testCount 4 = .ok (.ireturn, 1) := by decide +kernel
theorem dX12_rangeOf_0 : decode cX12_rangeOf 0 = .ok (.aload_n 0, 1) := by decide +kernel
theorem dX12_rangeOf_1 : decode cX12_rangeOf 1 = .ok (.getfield 26, 3) := by decide +kernel
theorem dX12_rangeOf_4 : decode cX12_rangeOf 4 = .ok (.iload_n 1, 1) := by decide +kernel
theorem dX12_rangeOf_5 : decode cX12_rangeOf 5 = .ok (.iaload, 1) := by decide +kernel
theorem dX12_rangeOf_6 : decode cX12_rangeOf 6 = .ok (.iconst 2, 1) := by decide +kernel
theorem dX12_rangeOf_7 : decode cX12_rangeOf 7 = .ok (.if_icmp .ne 14, 3) := by decide +kernel
theorem dX12_rangeOf_10 : decode cX12_rangeOf 10 = .ok (.aload_n 0, 1) := by decide +kernel
theorem dX12_rangeOf_11 : decode cX12_rangeOf 11 = .ok (.getfield 29, 3) := by decide +kernel
theorem dX12_rangeOf_14 : decode cX12_rangeOf 14 = .ok (.iload_n 1, 1) := by decide +kernel
theorem dX12_rangeOf_15 : decode cX12_rangeOf 15 = .ok (.iaload, 1) := by decide +kernel
theorem dX12_rangeOf_16 : decode cX12_rangeOf 16 = .ok (.iconst 1, 1) := by decide +kernel
theorem dX12_rangeOf_17 : decode cX12_rangeOf 17 = .ok (.iadd, 1) := by decide +kernel
theorem dX12_rangeOf_18 : decode cX12_rangeOf 18 = .ok (.goto 9, 3) := by decide +kernel
theorem dX12_rangeOf_21 : decode cX12_rangeOf 21 = .ok (.aload_n 0, 1) := by decide +kernel
theorem dX12_rangeOf_22 : decode cX12_rangeOf 22 = .ok (.getfield 29, 3) := by decide +kernel
theorem dX12_rangeOf_25 : decode cX12_rangeOf 25 = .ok (.iload_n 1, 1) := by decide +kernel
theorem dX12_rangeOf_26 : decode cX12_rangeOf 26 = .ok (.iaload, 1) := by decide +kernel
theorem dX12_rangeOf_27 : decode cX12_rangeOf 27 = .ok (.ireturn, 1) := by decide +kernel
set_option maxRecDepth 20000 in
theorem ggX12_test_X12_isTest : GoodIn wsX12_test wsX12_isTest := goodIn_r _ [7, 8, 9, 10, 6, 11, 17, 18, 19, 20, 21, 22, 23, 24, 25, 26, 27, 28, 29, 30, 31, 32, 33, 34, 35, 36, 37, 38, 39, 40, 41, 42, 43, 44, 45, 46, 47, 48, 49, 50, 51, 52, 53, 54, 55, 56, 57, 58, 59, 60, 61, 62, 63, 64, 65, 66, 67, 68, 69, 70, 71, 72, 73, 74, 75, 76, 77, 78, 79, 80, 81, 82, 83, 84] (by decide +kernel) (by decide +kernel)
set_option maxRecDepth 20000 in
theorem gX12_test_X12_isTest : GoodIn wsX12_test (wsV RX12 198 RX12 yX12_isTest wsX12_isTest) := goodIn_app (goodIn_of _ (by decide +kernel)) ggX12_test_X12_isTest
set_option maxRecDepth 20000 in
theorem ggX12_test_X12_isBetween : GoodIn wsX12_test wsX12_isBetween := goodIn_r _ [11] (by decide +kernel) (by decide +kernel)
set_option maxRecDepth 20000 in
theorem gX12_test_X12_isBetween : GoodIn wsX12_test (va_wsS RX12 169 yX12_isBetween wsX12_isBetween) := goodIn_app (goodIn_of _ (by decide +kernel)) ggX12_test_X12_isBetween
set_option maxRecDepth 20000 in
theorem ggX12_test_X12_rangeOf : GoodIn wsX12_test wsX12_rangeOf := goodIn_r _ [15, 1, 16, 17, 18, 19, 20, 21, 22, 23, 24, 25, 26, 27, 28, 29, 30, 31, 32, 33, 34, 35, 36, 37, 38, 39, 40, 41, 42, 43, 44, 45, 46, 47, 48, 49, 50, 51, 52, 53, 54, 55, 56, 57, 58, 59, 60, 61, 62, 63, 64, 65, 66, 67, 68, 69, 70, 71, 72, 73, 74, 75, 76, 77, 78, 79, 80, 81, 82, 83, 84] (by decide +kernel) (by decide +kernel)
set_option maxRecDepth 20000 in
theorem gX12_test_X12_rangeOf : GoodIn wsX12_test (wsV RX12 201 RX12 yX12_rangeOf wsX12_rangeOf) := goodIn_app (goodIn_of _ (by decide +kernel)) ggX12_test_X12_rangeOf
theorem dX12_test_0 : decode cX12_test 0 = .ok (.aload_n 0, 1) := by decide +kernel
theorem dX12_test_1 : decode cX12_test 1 = .ok (.iload_n 1, 1) := by decide +kernel
theorem dX12_test_2 : decode cX12_test 2 = .ok (.invokevirtual 198, 3) := by decide +kernel
theorem dX12_test_5 : decode cX12_test 5 = .ok (.ifCond .eq 12, 3) := by decide +kernel
theorem dX12_test_8 : decode cX12_test 8 = .ok (.iload_n 2, 1) := by decide +kernel
theorem dX12_test_9 : decode cX12_test 9 = .ok (.iconst 0, 1) := by decide +kernel
theorem dX12_test_10 : decode cX12_test 10 = .ok (.iconst 2, 1) := by decide +kernel
theorem dX12_test_11 : decode cX12_test 11 = .ok (.invokestatic 169, 3) := by decide +kernel
theorem dX12_test_14 : decode cX12_test 14 = .ok (.ifCond .ne 5, 3) := by decide +kernel
theorem dX12_test_17 : decode cX12_test 17 = .ok (.iconst (-1), 1) := by decide +kernel
theorem dX12_test_18 : decode cX12_test 18 = .ok (.ireturn, 1) := by decide +kernel
theorem dX12_test_19 : decode cX12_test 19 = .ok (.iload_n 2, 1) := by decide +kernel
theorem dX12_test_20 : decode cX12_test 20 = .ok (.ifCond .ne 12, 3) := by decide +kernel
theorem dX12_test_23 : decode cX12_test 23 = .ok (.aload_n 0, 1) := by decide +kernel
theorem dX12_test_24 : decode cX12_test 24 = .ok (.getfield 26, 3) := by decide +kernel
theorem dX12_test_27 : decode cX12_test 27 = .ok (.iload_n 1, 1) := by decide +kernel
theorem dX12_test_28 : decode cX12_test 28 = .ok (.iaload, 1) := by decide +kernel
theorem dX12_test_29 : decode cX12_test 29 = .ok (.goto 22, 3) := by decide +kernel
theorem dX12_test_32 : decode cX12_test 32 = .ok (.iload_n 2, 1) := by decide +kernel
theorem dX12_test_33 : decode cX12_test 33 = .ok (.iconst 1, 1) := by decide +kernel
theorem dX12_test_34 : decode cX12_test 34 = .ok (.if_icmp .ne 11, 3) := by decide +kernel
theorem dX12_test_37 : decode cX12_test 37 = .ok (.aload_n 0, 1) := by decide +kernel
theorem dX12_test_38 : decode cX12_test 38 = .ok (.iload_n 1, 1) := by decide +kernel
theorem dX12_test_39 : decode cX12_test 39 = .ok (.invokevirtual 201, 3) := by decide +kernel
theorem dX12_test_42 : decode cX12_test 42 = .ok (.goto 9, 3) := by decide +kernel
theorem dX12_test_45 : decode cX12_test 45 = .ok (.aload_n 0, 1) := by decide +kernel
theorem dX12_test_46 : decode cX12_test 46 = .ok (.getfield 32, 3) := by decide +kernel
theorem dX12_test_49 : decode cX12_test 49 = .ok (.iload_n 1, 1) := by decide +kernel
theorem dX12_test_50 : decode cX12_test 50 = .ok (.iaload, 1) := by decide +kernel
theorem dX12_test_51 : decode cX12_test 51 = .ok (.ireturn, 1) := by decide +kernel
set_option maxRecDepth 20000 in
theorem ggX12_valueOf_X12_occurrencesIn : GoodIn wsX12_valueOf wsX12_occurrencesIn := goodIn_r _ [6, 7, 1, 8, 9, 10, 11, 12, 13, 14, 15, 16, 17, 18, 19, 20, 21, 22, 23, 24, 25, 26, 27, 28, 29, 30, 31, 32, 33, 34, 35, 36, 37, 38, 39, 40, 41, 42, 43, 44, 45, 46, 47, 48, 49, 50, 51, 52, 53, 54, 55, 56, 57, 58, 59, 60, 61, 62, 63, 64, 65, 66, 67, 68, 69, 70, 71, 72, 73, 74, 75, 76] (by decide +kernel) (by decide +kernel)
set_option maxRecDepth 20000 in
theorem gX12_valueOf_X12_occurrencesIn : GoodIn wsX12_valueOf (wsV RX12 180 RX12 yX12_occurrencesIn wsX12_occurrencesIn) := goodIn_app (goodIn_of _ (by decide +kernel)) ggX12_valueOf_X12_occurrencesIn
theorem dX12_valueOf_0 : decode cX12_valueOf 0 = .ok (.iload_n 1, 1) := by decide +kernel
theorem dX12_valueOf_1 : decode cX12_valueOf 1 = .ok (.iconst 1, 1) := by decide +kernel
theorem dX12_valueOf_2 : decode cX12_valueOf 2 = .ok (.if_icmp .ne 13, 3) := by decide +kernel
theorem dX12_valueOf_5 : decode cX12_valueOf 5 = .ok (.aload_n 0, 1) := by decide +kernel
theorem dX12_valueOf_6 : decode cX12_valueOf 6 = .ok (.getfield 13, 3) := by decide +kernel
theorem dX12_valueOf_9 : decode cX12_valueOf 9 = .ok (.iload 6, 2) := by decide +kernel
theorem dX12_valueOf_11 : decode cX12_valueOf 11 = .ok (.iaload, 1) := by decide +kernel
theorem dX12_valueOf_12 : decode cX12_valueOf 12 = .ok (.iload_n 2, 1) := by decide +kernel
theorem dX12_valueOf_13 : decode cX12_valueOf 13 = .ok (.irem, 1) := by decide +kernel
theorem dX12_valueOf_14 : decode cX12_valueOf 14 = .ok (.ireturn, 1) := by decide +kernel
theorem dX12_valueOf_15 : decode cX12_valueOf 15 = .ok (.aload_n 0, 1) := by decide +kernel
theorem dX12_valueOf_16 : decode cX12_valueOf 16 = .ok (.aload_n 3, 1) := by decide +kernel
theorem dX12_valueOf_17 : decode cX12_valueOf 17 = .ok (.iload 4, 2) := by decide +kernel
theorem dX12_valueOf_19 : decode cX12_valueOf 19 = .ok (.iload 5, 2) := by decide +kernel
theorem dX12_valueOf_21 : decode cX12_valueOf 21 = .ok (.iload 6, 2) := by decide +kernel
theorem dX12_valueOf_23 : decode cX12_valueOf 23 = .ok (.invokevirtual 180, 3) := by decide +kernel
theorem dX12_valueOf_26 : decode cX12_valueOf 26 = .ok (.istore 7, 2) := by decide +kernel
theorem dX12_valueOf_28 : decode cX12_valueOf 28 = .ok (.iload_n 1, 1) := by decide +kernel
theorem dX12_valueOf_29 : decode cX12_valueOf 29 = .ok (.ifCond .ne 10, 3) := by decide +kernel
theorem dX12_valueOf_32 : decode cX12_valueOf 32 = .ok (.iload 7, 2) := by decide +kernel
theorem dX12_valueOf_34 : decode cX12_valueOf 34 = .ok (.iload_n 2, 1) := by decide +kernel
theorem dX12_valueOf_35 : decode cX12_valueOf 35 = .ok (.irem, 1) := by decide +kernel
theorem dX12_valueOf_36 : decode cX12_valueOf 36 = .ok (.goto 15, 3) := by decide +kernel
theorem dX12_valueOf_39 : decode cX12_valueOf 39 = .ok (.iload 7, 2) := by decide +kernel
theorem dX12_valueOf_41 : decode cX12_valueOf 41 = .ok (.iload_n 2, 1) := by decide +kernel
theorem dX12_valueOf_42 : decode cX12_valueOf 42 = .ok (.if_icmp .ge 8, 3) := by decide +kernel
theorem dX12_valueOf_45 : decode cX12_valueOf 45 = .ok (.iload 7, 2) := by decide +kernel
theorem dX12_valueOf_47 : decode cX12_valueOf 47 = .ok (.goto 4, 3) := by decide +kernel
theorem dX12_valueOf_50 : decode cX12_valueOf 50 = .ok (.iload_n 2, 1) := by decide +kernel
theorem dX12_valueOf_51 : decode cX12_valueOf 51 = .ok (.ireturn, 1) := by decide +kernel
set_option maxRecDepth 20000 in
theorem ggX12_valueOfTest_X12_valueOf : GoodIn wsX12_valueOfTest wsX12_valueOf := goodIn_r _ [9, 10, 11, 12, 13, 8, 14, 15, 16, 17, 18, 19, 20, 21, 22, 23, 24, 25, 26, 27, 28, 29, 30, 31, 32, 33, 34, 35, 36, 37, 38, 39, 40, 41, 42, 43, 44, 45, 46, 47, 48, 49, 50, 51, 52, 53, 54, 55, 56, 57, 58, 59, 60, 61, 62, 63, 64, 65, 66, 67, 68, 69, 70, 71, 72, 73, 74, 75, 76, 77, 78, 79, 80, 81, 82, 83, 84] (by decide +kernel) (by decide +kernel)
set_option maxRecDepth 20000 in
theorem gX12_valueOfTest_X12_valueOf : GoodIn wsX12_valueOfTest (wsV RX12 205 RX12 yX12_valueOf wsX12_valueOf) := goodIn_app (goodIn_of _ (by decide +kernel)) ggX12_valueOfTest_X12_valueOf
theorem dX12_valueOfTest_0 : decode cX12_valueOfTest 0 = .ok (.aload_n 0, 1) := by decide +kernel
theorem dX12_valueOfTest_1 : decode cX12_valueOfTest 1 = .ok (.aload_n 0, 1) := by decide +kernel
theorem dX12_valueOfTest_2 : decode cX12_valueOfTest 2 = .ok (.getfield 26, 3) := by decide +kernel
theorem dX12_valueOfTest_5 : decode cX12_valueOfTest 5 = .ok (.iload_n 1, 1) := by decide +kernel
theorem dX12_valueOfTest_6 : decode cX12_valueOfTest 6 = .ok (.iaload, 1) := by decide +kernel
theorem dX12_valueOfTest_7 : decode cX12_valueOfTest 7 = .ok (.aload_n 0, 1) := by decide +kernel
theorem dX12_valueOfTest_8 : decode cX12_valueOfTest 8 = .ok (.getfield 29, 3) := by decide +kernel
theorem dX12_valueOfTest_11 : decode cX12_valueOfTest 11 = .ok (.iload_n 1, 1) := by decide +kernel
theorem dX12_valueOfTest_12 : decode cX12_valueOfTest 12 = .ok (.iaload, 1) := by decide +kernel
theorem dX12_valueOfTest_13 : decode cX12_valueOfTest 13 = .ok (.aload_n 0, 1) := by decide +kernel
