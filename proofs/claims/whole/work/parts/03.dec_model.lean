theorem dX5_init_0 : decode cX5_init 0 = .ok (.aload_n 0, 1) := by decide +kernel
theorem dX5_init_1 : decode cX5_init 1 = .ok (.invokespecial 1, 3) := by decide +kernel
theorem dX5_init_4 : decode cX5_init 4 = .ok (.aload_n 0, 1) := by decide +kernel
theorem dX5_init_5 : decode cX5_init 5 = .ok (.bipush 40, 2) := by decide +kernel
theorem dX5_init_7 : decode cX5_init 7 = .ok (.newarray .int, 2) := by decide +kernel
theorem dX5_init_9 : decode cX5_init 9 = .ok (.putfield 7, 3) := by decide +kernel
theorem dX5_init_12 : decode cX5_init 12 = .ok (.aload_n 0, 1) := by decide +kernel
theorem dX5_init_13 : decode cX5_init 13 = .ok (.bipush 64, 2) := by decide +kernel
theorem dX5_init_15 : decode cX5_init 15 = .ok (.newarray .int, 2) := by decide +kernel
theorem dX5_init_17 : decode cX5_init 17 = .ok (.putfield 13, 3) := by decide +kernel
theorem dX5_init_20 : decode cX5_init 20 = .ok (.aload_n 0, 1) := by decide +kernel
theorem dX5_init_21 : decode cX5_init 21 = .ok (.bipush 8, 2) := by decide +kernel
theorem dX5_init_23 : decode cX5_init 23 = .ok (.newarray .int, 2) := by decide +kernel
theorem dX5_init_25 : decode cX5_init 25 = .ok (.putfield 16, 3) := by decide +kernel
theorem dX5_init_28 : decode cX5_init 28 = .ok (.aload_n 0, 1) := by decide +kernel
theorem dX5_init_29 : decode cX5_init 29 = .ok (.bipush 8, 2) := by decide +kernel
theorem dX5_init_31 : decode cX5_init 31 = .ok (.newarray .int, 2) := by decide +kernel
theorem dX5_init_33 : decode cX5_init 33 = .ok (.putfield 19, 3) := by decide +kernel
theorem dX5_init_36 : decode cX5_init 36 = .ok (.aload_n 0, 1) := by decide +kernel
theorem dX5_init_37 : decode cX5_init 37 = .ok (.iconst 4, 1) := by decide +kernel
theorem dX5_init_38 : decode cX5_init 38 = .ok (.newarray .int, 2) := by decide +kernel
theorem dX5_init_40 : decode cX5_init 40 = .ok (.putfield 22, 3) := by decide +kernel
theorem dX5_init_43 : decode cX5_init 43 = .ok (.aload_n 0, 1) := by decide +kernel
theorem dX5_init_44 : decode cX5_init 44 = .ok (.bipush 8, 2) := by decide +kernel
theorem dX5_init_46 : decode cX5_init 46 = .ok (.newarray .int, 2) := by decide +kernel
theorem dX5_init_48 : decode cX5_init 48 = .ok (.putfield 25, 3) := by decide +kernel
theorem dX5_init_51 : decode cX5_init 51 = .ok (.aload_n 0, 1) := by decide +kernel
theorem dX5_init_52 : decode cX5_init 52 = .ok (.bipush 64, 2) := by decide +kernel
theorem dX5_init_54 : decode cX5_init 54 = .ok (.newarray .int, 2) := by decide +kernel
theorem dX5_init_56 : decode cX5_init 56 = .ok (.putfield 28, 3) := by decide +kernel
theorem dX5_init_59 : decode cX5_init 59 = .ok (.aload_n 0, 1) := by decide +kernel
theorem dX5_init_60 : decode cX5_init 60 = .ok (.bipush 8, 2) := by decide +kernel
theorem dX5_init_62 : decode cX5_init 62 = .ok (.newarray .int, 2) := by decide +kernel
theorem dX5_init_64 : decode cX5_init 64 = .ok (.putfield 31, 3) := by decide +kernel
theorem dX5_init_67 : decode cX5_init 67 = .ok (.aload_n 0, 1) := by decide +kernel
theorem dX5_init_68 : decode cX5_init 68 = .ok (.bipush 8, 2) := by decide +kernel
theorem dX5_init_70 : decode cX5_init 70 = .ok (.newarray .int, 2) := by decide +kernel
theorem dX5_init_72 : decode cX5_init 72 = .ok (.putfield 34, 3) := by decide +kernel
theorem dX5_init_75 : decode cX5_init 75 = .ok (.aload_n 0, 1) := by decide +kernel
theorem dX5_init_76 : decode cX5_init 76 = .ok (.bipush 8, 2) := by decide +kernel
theorem dX5_init_78 : decode cX5_init 78 = .ok (.newarray .double, 2) := by decide +kernel
theorem dX5_init_80 : decode cX5_init 80 = .ok (.putfield 37, 3) := by decide +kernel
theorem dX5_init_83 : decode cX5_init 83 = .ok (.aload_n 0, 1) := by decide +kernel
theorem dX5_init_84 : decode cX5_init 84 = .ok (.bipush 8, 2) := by decide +kernel
theorem dX5_init_86 : decode cX5_init 86 = .ok (.newarray .double, 2) := by decide +kernel
theorem dX5_init_88 : decode cX5_init 88 = .ok (.putfield 41, 3) := by decide +kernel
theorem dX5_init_91 : decode cX5_init 91 = .ok (.aload_n 0, 1) := by decide +kernel
theorem dX5_init_92 : decode cX5_init 92 = .ok (.bipush 8, 2) := by decide +kernel
theorem dX5_init_94 : decode cX5_init 94 = .ok (.newarray .int, 2) := by decide +kernel
theorem dX5_init_96 : decode cX5_init 96 = .ok (.putfield 44, 3) := by decide +kernel
theorem dX5_init_99 : decode cX5_init 99 = .ok (.aload_n 0, 1) := by decide +kernel
theorem dX5_init_100 : decode cX5_init 100 = .ok (.iconst 4, 1) := by decide +kernel
theorem dX5_init_101 : decode cX5_init 101 = .ok (.newarray .int, 2) := by decide +kernel
theorem dX5_init_103 : decode cX5_init 103 = .ok (.putfield 47, 3) := by decide +kernel
theorem dX5_init_106 : decode cX5_init 106 = .ok (.aload_n 0, 1) := by decide +kernel
theorem dX5_init_107 : decode cX5_init 107 = .ok (.bipush 8, 2) := by decide +kernel
theorem dX5_init_109 : decode cX5_init 109 = .ok (.newarray .int, 2) := by decide +kernel
theorem dX5_init_111 : decode cX5_init 111 = .ok (.putfield 50, 3) := by decide +kernel
theorem dX5_init_114 : decode cX5_init 114 = .ok (.aload_n 0, 1) := by decide +kernel
theorem dX5_init_115 : decode cX5_init 115 = .ok (.bipush 64, 2) := by decide +kernel
theorem dX5_init_117 : decode cX5_init 117 = .ok (.newarray .int, 2) := by decide +kernel
theorem dX5_init_119 : decode cX5_init 119 = .ok (.putfield 53, 3) := by decide +kernel
theorem dX5_init_122 : decode cX5_init 122 = .ok (.return_, 1) := by decide +kernel
theorem dX5_within_0 : decode cX5_within 0 = .ok (.iload_n 0, 1) := by decide +kernel
theorem dX5_within_1 : decode cX5_within 1 = .ok (.iload_n 1, 1) := by decide +kernel
theorem dX5_within_2 : decode cX5_within 2 = .ok (.if_icmp .lt 12, 3) := by decide +kernel
theorem dX5_within_5 : decode cX5_within 5 = .ok (.iload_n 0, 1) := by decide +kernel
theorem dX5_within_6 : decode cX5_within 6 = .ok (.iload_n 2, 1) := by decide +kernel
theorem dX5_within_7 : decode cX5_within 7 = .ok (.if_icmp .gt 7, 3) := by decide +kernel
theorem dX5_within_10 : decode cX5_within 10 = .ok (.iconst 1, 1) := by decide +kernel
theorem dX5_within_11 : decode cX5_within 11 = .ok (.goto 4, 3) := by decide +kernel
theorem dX5_within_14 : decode cX5_within 14 = .ok (.iconst 0, 1) := by decide +kernel
theorem dX5_within_15 : decode cX5_within 15 = .ok (.ireturn, 1) := by decide +kernel
set_option maxRecDepth 20000 in
theorem ggX5_append_X5_within : GoodIn wsX5_append wsX5_within := goodIn_r _ [6] rfl (by decide +kernel)
set_option maxRecDepth 20000 in
theorem gX5_append_X5_within : GoodIn wsX5_append (va_wsS RX5 56 yX5_within wsX5_within) := goodIn_app (goodIn_of _ (by decide +kernel)) ggX5_append_X5_within
theorem dX5_append_0 : decode cX5_append 0 = .ok (.iload_n 1, 1) := by decide +kernel
theorem dX5_append_1 : decode cX5_append 1 = .ok (.bipush 32, 2) := by decide +kernel
theorem dX5_append_3 : decode cX5_append 3 = .ok (.bipush 126, 2) := by decide +kernel
theorem dX5_append_5 : decode cX5_append 5 = .ok (.invokestatic 56, 3) := by decide +kernel
theorem dX5_append_8 : decode cX5_append 8 = .ok (.ifCond .ne 5, 3) := by decide +kernel
theorem dX5_append_11 : decode cX5_append 11 = .ok (.iconst (-1), 1) := by decide +kernel
theorem dX5_append_12 : decode cX5_append 12 = .ok (.ireturn, 1) := by decide +kernel
theorem dX5_append_13 : decode cX5_append 13 = .ok (.aload_n 0, 1) := by decide +kernel
theorem dX5_append_14 : decode cX5_append 14 = .ok (.getfield 60, 3) := by decide +kernel
theorem dX5_append_17 : decode cX5_append 17 = .ok (.bipush 40, 2) := by decide +kernel
theorem dX5_append_19 : decode cX5_append 19 = .ok (.if_icmp .ne 6, 3) := by decide +kernel
theorem dX5_append_22 : decode cX5_append 22 = .ok (.bipush (-2), 2) := by decide +kernel
theorem dX5_append_24 : decode cX5_append 24 = .ok (.ireturn, 1) := by decide +kernel
theorem dX5_append_25 : decode cX5_append 25 = .ok (.aload_n 0, 1) := by decide +kernel
theorem dX5_append_26 : decode cX5_append 26 = .ok (.getfield 7, 3) := by decide +kernel
theorem dX5_append_29 : decode cX5_append 29 = .ok (.aload_n 0, 1) := by decide +kernel
theorem dX5_append_30 : decode cX5_append 30 = .ok (.getfield 60, 3) := by decide +kernel
theorem dX5_append_33 : decode cX5_append 33 = .ok (.iload_n 1, 1) := by decide +kernel
theorem dX5_append_34 : decode cX5_append 34 = .ok (.iastore, 1) := by decide +kernel
theorem dX5_append_35 : decode cX5_append 35 = .ok (.aload_n 0, 1) := by decide +kernel
theorem dX5_append_36 : decode cX5_append 36 = .ok (.dup, 1) := by decide +kernel
theorem dX5_append_37 : decode cX5_append 37 = .ok (.getfield 60, 3) := by decide +kernel
theorem dX5_append_40 : decode cX5_append 40 = .ok (.iconst 1, 1) := by decide +kernel
theorem dX5_append_41 : decode cX5_append 41 = .ok (.iadd, 1) := by decide +kernel
theorem dX5_append_42 : decode cX5_append 42 = .ok (.putfield 60, 3) := by decide +kernel
theorem dX5_append_45 : decode cX5_append 45 = .ok (.aload_n 0, 1) := by decide +kernel
theorem dX5_append_46 : decode cX5_append 46 = .ok (.getfield 60, 3) := by decide +kernel
theorem dX5_append_49 : decode cX5_append 49 = .ok (.ireturn, 1) := by decide +kernel
theorem dX5_clearInput_0 : decode cX5_clearInput 0 = .ok (.aload_n 0, 1) := by decide +kernel
theorem dX5_clearInput_1 : decode cX5_clearInput 1 = .ok (.getfield 60, 3) := by decide +kernel
theorem dX5_clearInput_4 : decode cX5_clearInput 4 = .ok (.istore_n 1, 1) := by decide +kernel
theorem dX5_clearInput_5 : decode cX5_clearInput 5 = .ok (.aload_n 0, 1) := by decide +kernel
theorem dX5_clearInput_6 : decode cX5_clearInput 6 = .ok (.iconst 0, 1) := by decide +kernel
theorem dX5_clearInput_7 : decode cX5_clearInput 7 = .ok (.putfield 60, 3) := by decide +kernel
theorem dX5_clearInput_10 : decode cX5_clearInput 10 = .ok (.iload_n 1, 1) := by decide +kernel
theorem dX5_clearInput_11 : decode cX5_clearInput 11 = .ok (.ireturn, 1) := by decide +kernel
theorem dX5_isNodeDigit_0 : decode cX5_isNodeDigit 0 = .ok (.aload_n 0, 1) := by decide +kernel
theorem dX5_isNodeDigit_1 : decode cX5_isNodeDigit 1 = .ok (.getfield 7, 3) := by decide +kernel
theorem dX5_isNodeDigit_4 : decode cX5_isNodeDigit 4 = .ok (.iload_n 1, 1) := by decide +kernel
theorem dX5_isNodeDigit_5 : decode cX5_isNodeDigit 5 = .ok (.iaload, 1) := by decide +kernel
theorem dX5_isNodeDigit_6 : decode cX5_isNodeDigit 6 = .ok (.bipush 48, 2) := by decide +kernel
theorem dX5_isNodeDigit_8 : decode cX5_isNodeDigit 8 = .ok (.if_icmp .lt 22, 3) := by decide +kernel
theorem dX5_isNodeDigit_11 : decode cX5_isNodeDigit 11 = .ok (.aload_n 0, 1) := by decide +kernel
theorem dX5_isNodeDigit_12 : decode cX5_isNodeDigit 12 = .ok (.getfield 7, 3) := by decide +kernel
theorem dX5_isNodeDigit_15 : decode cX5_isNodeDigit 15 = .ok (.iload_n 1, 1) := by decide +kernel
theorem dX5_isNodeDigit_16 : decode cX5_isNodeDigit 16 = .ok (.iaload, 1) := by decide +kernel
theorem dX5_isNodeDigit_17 : decode cX5_isNodeDigit 17 = .ok (.aload_n 0, 1) := by decide +kernel
theorem dX5_isNodeDigit_18 : decode cX5_isNodeDigit 18 = .ok (.getfield 7, 3) := by decide +kernel
theorem dX5_isNodeDigit_21 : decode cX5_isNodeDigit 21 = .ok (.iconst 0, 1) := by decide +kernel
theorem dX5_isNodeDigit_22 : decode cX5_isNodeDigit 22 = .ok (.iaload, 1) := by decide +kernel
theorem dX5_isNodeDigit_23 : decode cX5_isNodeDigit 23 = .ok (.if_icmp .ge 7, 3) := by decide +kernel
theorem dX5_isNodeDigit_26 : decode cX5_isNodeDigit 26 = .ok (.iconst 1, 1) := by decide +kernel
theorem dX5_isNodeDigit_27 : decode cX5_isNodeDigit 27 = .ok (.goto 4, 3) := by decide +kernel
theorem dX5_isNodeDigit_30 : decode cX5_isNodeDigit 30 = .ok (.iconst 0, 1) := by decide +kernel
theorem dX5_isNodeDigit_31 : decode cX5_isNodeDigit 31 = .ok (.ireturn, 1) := by decide +kernel
set_option maxRecDepth 20000 in
theorem ggX5_isSecondNode_X5_isNodeDigit : GoodIn wsX5_isSecondNode wsX5_isNodeDigit := goodIn_r _ [6, 1, 7, 8, 9, 10, 11, 12, 13, 14, 15, 16, 17, 18, 19, 20, 21, 22, 23, 24, 25, 26, 27, 28, 29] rfl (by decide +kernel)
set_option maxRecDepth 20000 in
theorem gX5_isSecondNode_X5_isNodeDigit : GoodIn wsX5_isSecondNode (wsV RX5 64 RX5 yX5_isNodeDigit wsX5_isNodeDigit) := goodIn_app (goodIn_of _ (by decide +kernel)) ggX5_isSecondNode_X5_isNodeDigit
theorem dX5_isSecondNode_0 : decode cX5_isSecondNode 0 = .ok (.aload_n 0, 1) := by decide +kernel
theorem dX5_isSecondNode_1 : decode cX5_isSecondNode 1 = .ok (.getfield 7, 3) := by decide +kernel
theorem dX5_isSecondNode_4 : decode cX5_isSecondNode 4 = .ok (.iload_n 1, 1) := by decide +kernel
theorem dX5_isSecondNode_5 : decode cX5_isSecondNode 5 = .ok (.iconst 1, 1) := by decide +kernel
theorem dX5_isSecondNode_6 : decode cX5_isSecondNode 6 = .ok (.isub, 1) := by decide +kernel
theorem dX5_isSecondNode_7 : decode cX5_isSecondNode 7 = .ok (.iaload, 1) := by decide +kernel
theorem dX5_isSecondNode_8 : decode cX5_isSecondNode 8 = .ok (.istore_n 2, 1) := by decide +kernel
theorem dX5_isSecondNode_9 : decode cX5_isSecondNode 9 = .ok (.aload_n 0, 1) := by decide +kernel
theorem dX5_isSecondNode_10 : decode cX5_isSecondNode 10 = .ok (.getfield 7, 3) := by decide +kernel
theorem dX5_isSecondNode_13 : decode cX5_isSecondNode 13 = .ok (.iload_n 1, 1) := by decide +kernel
theorem dX5_isSecondNode_14 : decode cX5_isSecondNode 14 = .ok (.iaload, 1) := by decide +kernel
theorem dX5_isSecondNode_15 : decode cX5_isSecondNode 15 = .ok (.istore_n 3, 1) := by decide +kernel
theorem dX5_isSecondNode_16 : decode cX5_isSecondNode 16 = .ok (.aload_n 0, 1) := by decide +kernel
theorem dX5_isSecondNode_17 : decode cX5_isSecondNode 17 = .ok (.iload_n 1, 1) := by decide +kernel
theorem dX5_isSecondNode_18 : decode cX5_isSecondNode 18 = .ok (.invokevirtual 64, 3) := by decide +kernel
theorem dX5_isSecondNode_21 : decode cX5_isSecondNode 21 = .ok (.ifCond .eq 12, 3) := by decide +kernel
theorem dX5_isSecondNode_24 : decode cX5_isSecondNode 24 = .ok (.iload_n 2, 1) := by decide +kernel
theorem dX5_isSecondNode_25 : decode cX5_isSecondNode 25 = .ok (.iload_n 3, 1) := by decide +kernel
theorem dX5_isSecondNode_26 : decode cX5_isSecondNode 26 = .ok (.if_icmp .eq 7, 3) := by decide +kernel
theorem dX5_isSecondNode_29 : decode cX5_isSecondNode 29 = .ok (.iconst 1, 1) := by decide +kernel
theorem dX5_isSecondNode_30 : decode cX5_isSecondNode 30 = .ok (.goto 4, 3) := by decide +kernel
theorem dX5_isSecondNode_33 : decode cX5_isSecondNode 33 = .ok (.iconst 0, 1) := by decide +kernel
theorem dX5_isSecondNode_34 : decode cX5_isSecondNode 34 = .ok (.istore 4, 2) := by decide +kernel
theorem dX5_isSecondNode_36 : decode cX5_isSecondNode 36 = .ok (.iconst 2, 1) := by decide +kernel
theorem dX5_isSecondNode_37 : decode cX5_isSecondNode 37 = .ok (.istore 5, 2) := by decide +kernel
theorem dX5_isSecondNode_39 : decode cX5_isSecondNode 39 = .ok (.iload 5, 2) := by decide +kernel
theorem dX5_isSecondNode_41 : decode cX5_isSecondNode 41 = .ok (.iconst 1, 1) := by decide +kernel
theorem dX5_isSecondNode_42 : decode cX5_isSecondNode 42 = .ok (.iadd, 1) := by decide +kernel
theorem dX5_isSecondNode_43 : decode cX5_isSecondNode 43 = .ok (.iload_n 1, 1) := by decide +kernel
theorem dX5_isSecondNode_44 : decode cX5_isSecondNode 44 = .ok (.iconst 1, 1) := by decide +kernel
theorem dX5_isSecondNode_45 : decode cX5_isSecondNode 45 = .ok (.isub, 1) := by decide +kernel
theorem dX5_isSecondNode_46 : decode cX5_isSecondNode 46 = .ok (.if_icmp .ge 81, 3) := by decide +kernel
theorem dX5_isSecondNode_49 : decode cX5_isSecondNode 49 = .ok (.aload_n 0, 1) := by decide +kernel
theorem dX5_isSecondNode_50 : decode cX5_isSecondNode 50 = .ok (.getfield 7, 3) := by decide +kernel
theorem dX5_isSecondNode_53 : decode cX5_isSecondNode 53 = .ok (.iload 5, 2) := by decide +kernel
theorem dX5_isSecondNode_55 : decode cX5_isSecondNode 55 = .ok (.iaload, 1) := by decide +kernel
theorem dX5_isSecondNode_56 : decode cX5_isSecondNode 56 = .ok (.iload_n 2, 1) := by decide +kernel
theorem dX5_isSecondNode_57 : decode cX5_isSecondNode 57 = .ok (.if_icmp .ne 16, 3) := by decide +kernel
theorem dX5_isSecondNode_60 : decode cX5_isSecondNode 60 = .ok (.aload_n 0, 1) := by decide +kernel
theorem dX5_isSecondNode_61 : decode cX5_isSecondNode 61 = .ok (.getfield 7, 3) := by decide +kernel
theorem dX5_isSecondNode_64 : decode cX5_isSecondNode 64 = .ok (.iload 5, 2) := by decide +kernel
theorem dX5_isSecondNode_66 : decode cX5_isSecondNode 66 = .ok (.iconst 1, 1) := by decide +kernel
theorem dX5_isSecondNode_67 : decode cX5_isSecondNode 67 = .ok (.iadd, 1) := by decide +kernel
theorem dX5_isSecondNode_68 : decode cX5_isSecondNode 68 = .ok (.iaload, 1) := by decide +kernel
theorem dX5_isSecondNode_69 : decode cX5_isSecondNode 69 = .ok (.iload_n 3, 1) := by decide +kernel
theorem dX5_isSecondNode_70 : decode cX5_isSecondNode 70 = .ok (.if_icmp .eq 27, 3) := by decide +kernel
theorem dX5_isSecondNode_73 : decode cX5_isSecondNode 73 = .ok (.aload_n 0, 1) := by decide +kernel
theorem dX5_isSecondNode_74 : decode cX5_isSecondNode 74 = .ok (.getfield 7, 3) := by decide +kernel
theorem dX5_isSecondNode_77 : decode cX5_isSecondNode 77 = .ok (.iload 5, 2) := by decide +kernel
theorem dX5_isSecondNode_79 : decode cX5_isSecondNode 79 = .ok (.iaload, 1) := by decide +kernel
theorem dX5_isSecondNode_80 : decode cX5_isSecondNode 80 = .ok (.iload_n 3, 1) := by decide +kernel
theorem dX5_isSecondNode_81 : decode cX5_isSecondNode 81 = .ok (.if_icmp .ne 20, 3) := by decide +kernel
theorem dX5_isSecondNode_84 : decode cX5_isSecondNode 84 = .ok (.aload_n 0, 1) := by decide +kernel
theorem dX5_isSecondNode_85 : decode cX5_isSecondNode 85 = .ok (.getfield 7, 3) := by decide +kernel
theorem dX5_isSecondNode_88 : decode cX5_isSecondNode 88 = .ok (.iload 5, 2) := by decide +kernel
theorem dX5_isSecondNode_90 : decode cX5_isSecondNode 90 = .ok (.iconst 1, 1) := by decide +kernel
theorem dX5_isSecondNode_91 : decode cX5_isSecondNode 91 = .ok (.iadd, 1) := by decide +kernel
theorem dX5_isSecondNode_92 : decode cX5_isSecondNode 92 = .ok (.iaload, 1) := by decide +kernel
theorem dX5_isSecondNode_93 : decode cX5_isSecondNode 93 = .ok (.iload_n 2, 1) := by decide +kernel
theorem dX5_isSecondNode_94 : decode cX5_isSecondNode 94 = .ok (.if_icmp .ne 7, 3) := by decide +kernel
theorem dX5_isSecondNode_97 : decode cX5_isSecondNode 97 = .ok (.iconst 1, 1) := by decide +kernel
theorem dX5_isSecondNode_98 : decode cX5_isSecondNode 98 = .ok (.goto 4, 3) := by decide +kernel
theorem dX5_isSecondNode_101 : decode cX5_isSecondNode 101 = .ok (.iconst 0, 1) := by decide +kernel
theorem dX5_isSecondNode_102 : decode cX5_isSecondNode 102 = .ok (.istore 6, 2) := by decide +kernel
theorem dX5_isSecondNode_104 : decode cX5_isSecondNode 104 = .ok (.iload 4, 2) := by decide +kernel
theorem dX5_isSecondNode_106 : decode cX5_isSecondNode 106 = .ok (.ifCond .eq 12, 3) := by decide +kernel
theorem dX5_isSecondNode_109 : decode cX5_isSecondNode 109 = .ok (.iload 6, 2) := by decide +kernel
theorem dX5_isSecondNode_111 : decode cX5_isSecondNode 111 = .ok (.ifCond .ne 7, 3) := by decide +kernel
theorem dX5_isSecondNode_114 : decode cX5_isSecondNode 114 = .ok (.iconst 1, 1) := by decide +kernel
theorem dX5_isSecondNode_115 : decode cX5_isSecondNode 115 = .ok (.goto 4, 3) := by decide +kernel
theorem dX5_isSecondNode_118 : decode cX5_isSecondNode 118 = .ok (.iconst 0, 1) := by decide +kernel
theorem dX5_isSecondNode_119 : decode cX5_isSecondNode 119 = .ok (.istore 4, 2) := by decide +kernel
theorem dX5_isSecondNode_121 : decode cX5_isSecondNode 121 = .ok (.iinc 5 3, 3) := by decide +kernel
theorem dX5_isSecondNode_124 : decode cX5_isSecondNode 124 = .ok (.goto (-85), 3) := by decide +kernel
theorem dX5_isSecondNode_127 : decode cX5_isSecondNode 127 = .ok (.iload 4, 2) := by decide +kernel
theorem dX5_isSecondNode_129 : decode cX5_isSecondNode 129 = .ok (.ireturn, 1) := by decide +kernel
set_option maxRecDepth 20000 in
theorem ggX5_isRight_X5_within : GoodIn wsX5_isRight wsX5_within := goodIn_r _ [5] rfl (by decide +kernel)
set_option maxRecDepth 20000 in
theorem gX5_isRight_X5_within : GoodIn wsX5_isRight (va_wsS RX5 56 yX5_within wsX5_within) := goodIn_app (goodIn_of _ (by decide +kernel)) ggX5_isRight_X5_within
set_option maxRecDepth 20000 in
theorem ggX5_isRight_X5_isNodeDigit : GoodIn wsX5_isRight wsX5_isNodeDigit := goodIn_r _ [9, 1, 14, 15, 16, 17, 18, 19, 20, 21, 22, 23, 24, 25, 26, 27, 28, 29, 30, 31, 32, 33, 34, 35, 36] rfl (by decide +kernel)
set_option maxRecDepth 20000 in
theorem gX5_isRight_X5_isNodeDigit : GoodIn wsX5_isRight (wsV RX5 64 RX5 yX5_isNodeDigit wsX5_isNodeDigit) := goodIn_app (goodIn_of _ (by decide +kernel)) ggX5_isRight_X5_isNodeDigit
set_option maxRecDepth 20000 in
theorem ggX5_isRight_X5_isSecondNode : GoodIn wsX5_isRight wsX5_isSecondNode := goodIn_r _ [13, 1, 6, 7, 8, 4, 9, 14, 15, 16, 17, 18, 19, 20, 21, 22, 23, 24, 25, 26, 27, 28, 29, 30, 31, 32, 33, 34, 35, 36] rfl (by decide +kernel)
set_option maxRecDepth 20000 in
theorem gX5_isRight_X5_isSecondNode : GoodIn wsX5_isRight (wsV RX5 68 RX5 yX5_isSecondNode wsX5_isSecondNode) := goodIn_app (goodIn_of _ (by decide +kernel)) ggX5_isRight_X5_isSecondNode
theorem dX5_isRight_0 : decode cX5_isRight 0 = .ok (.aload_n 0, 1) := by decide +kernel
theorem dX5_isRight_1 : decode cX5_isRight 1 = .ok (.getfield 7, 3) := by decide +kernel
theorem dX5_isRight_4 : decode cX5_isRight 4 = .ok (.iload_n 1, 1) := by decide +kernel
theorem dX5_isRight_5 : decode cX5_isRight 5 = .ok (.iaload, 1) := by decide +kernel
theorem dX5_isRight_6 : decode cX5_isRight 6 = .ok (.istore_n 2, 1) := by decide +kernel
theorem dX5_isRight_7 : decode cX5_isRight 7 = .ok (.iload_n 1, 1) := by decide +kernel
theorem dX5_isRight_8 : decode cX5_isRight 8 = .ok (.iconst 2, 1) := by decide +kernel
theorem dX5_isRight_9 : decode cX5_isRight 9 = .ok (.if_icmp .ge 30, 3) := by decide +kernel
theorem dX5_isRight_12 : decode cX5_isRight 12 = .ok (.iload_n 1, 1) := by decide +kernel
theorem dX5_isRight_13 : decode cX5_isRight 13 = .ok (.ifCond .ne 14, 3) := by decide +kernel
theorem dX5_isRight_16 : decode cX5_isRight 16 = .ok (.iload_n 2, 1) := by decide +kernel
theorem dX5_isRight_17 : decode cX5_isRight 17 = .ok (.bipush 50, 2) := by decide +kernel
theorem dX5_isRight_19 : decode cX5_isRight 19 = .ok (.bipush 56, 2) := by decide +kernel
theorem dX5_isRight_21 : decode cX5_isRight 21 = .ok (.invokestatic 56, 3) := by decide +kernel
theorem dX5_isRight_24 : decode cX5_isRight 24 = .ok (.goto 14, 3) := by decide +kernel
theorem dX5_isRight_27 : decode cX5_isRight 27 = .ok (.iload_n 2, 1) := by decide +kernel
theorem dX5_isRight_28 : decode cX5_isRight 28 = .ok (.bipush 58, 2) := by decide +kernel
theorem dX5_isRight_30 : decode cX5_isRight 30 = .ok (.if_icmp .ne 7, 3) := by decide +kernel
theorem dX5_isRight_33 : decode cX5_isRight 33 = .ok (.iconst 1, 1) := by decide +kernel
theorem dX5_isRight_34 : decode cX5_isRight 34 = .ok (.goto 4, 3) := by decide +kernel
theorem dX5_isRight_37 : decode cX5_isRight 37 = .ok (.iconst 0, 1) := by decide +kernel
theorem dX5_isRight_38 : decode cX5_isRight 38 = .ok (.ireturn, 1) := by decide +kernel
theorem dX5_isRight_39 : decode cX5_isRight 39 = .ok (.iload_n 1, 1) := by decide +kernel
theorem dX5_isRight_40 : decode cX5_isRight 40 = .ok (.iconst 3, 1) := by decide +kernel
theorem dX5_isRight_41 : decode cX5_isRight 41 = .ok (.irem, 1) := by decide +kernel
theorem dX5_isRight_42 : decode cX5_isRight 42 = .ok (.lookupswitch 38 #[(0, 32), (2, 26)], 26) := by decide +kernel
theorem dX5_isRight_68 : decode cX5_isRight 68 = .ok (.aload_n 0, 1) := by decide +kernel
theorem dX5_isRight_69 : decode cX5_isRight 69 = .ok (.iload_n 1, 1) := by decide +kernel
theorem dX5_isRight_70 : decode cX5_isRight 70 = .ok (.invokevirtual 64, 3) := by decide +kernel
theorem dX5_isRight_73 : decode cX5_isRight 73 = .ok (.ireturn, 1) := by decide +kernel
theorem dX5_isRight_74 : decode cX5_isRight 74 = .ok (.aload_n 0, 1) := by decide +kernel
theorem dX5_isRight_75 : decode cX5_isRight 75 = .ok (.iload_n 1, 1) := by decide +kernel
theorem dX5_isRight_76 : decode cX5_isRight 76 = .ok (.invokevirtual 68, 3) := by decide +kernel
theorem dX5_isRight_79 : decode cX5_isRight 79 = .ok (.ireturn, 1) := by decide +kernel
theorem dX5_isRight_80 : decode cX5_isRight 80 = .ok (.iload_n 2, 1) := by decide +kernel
theorem dX5_isRight_81 : decode cX5_isRight 81 = .ok (.bipush 44, 2) := by decide +kernel
theorem dX5_isRight_83 : decode cX5_isRight 83 = .ok (.if_icmp .ne 17, 3) := by decide +kernel
theorem dX5_isRight_86 : decode cX5_isRight 86 = .ok (.iload_n 1, 1) := by decide +kernel
theorem dX5_isRight_87 : decode cX5_isRight 87 = .ok (.iconst 1, 1) := by decide +kernel
theorem dX5_isRight_88 : decode cX5_isRight 88 = .ok (.isub, 1) := by decide +kernel
theorem dX5_isRight_89 : decode cX5_isRight 89 = .ok (.iconst 3, 1) := by decide +kernel
theorem dX5_isRight_90 : decode cX5_isRight 90 = .ok (.idiv, 1) := by decide +kernel
theorem dX5_isRight_91 : decode cX5_isRight 91 = .ok (.bipush 12, 2) := by decide +kernel
theorem dX5_isRight_93 : decode cX5_isRight 93 = .ok (.if_icmp .ge 7, 3) := by decide +kernel
theorem dX5_isRight_96 : decode cX5_isRight 96 = .ok (.iconst 1, 1) := by decide +kernel
theorem dX5_isRight_97 : decode cX5_isRight 97 = .ok (.goto 4, 3) := by decide +kernel
theorem dX5_isRight_100 : decode cX5_isRight 100 = .ok (.iconst 0, 1) := by decide +kernel
theorem dX5_isRight_101 : decode cX5_isRight 101 = .ok (.ireturn, 1) := by decide +kernel
set_option maxRecDepth 20000 in
theorem ggX5_rightLength_X5_isRight : GoodIn wsX5_rightLength wsX5_isRight := goodIn_r _ [6, 7, 8, 9, 5, 10, 11, 12, 13, 14, 15, 16, 17, 18, 19, 20, 21, 22, 23, 24, 25, 26, 27, 28, 29, 30, 31, 32, 33, 34, 35, 36, 37, 38, 39, 40, 41] rfl (by decide +kernel)
set_option maxRecDepth 20000 in
theorem gX5_rightLength_X5_isRight : GoodIn wsX5_rightLength (wsV RX5 71 RX5 yX5_isRight wsX5_isRight) := goodIn_app (goodIn_of _ (by decide +kernel)) ggX5_rightLength_X5_isRight
theorem dX5_rightLength_0 : decode cX5_rightLength 0 = .ok (.iconst 0, 1) := by decide +kernel
theorem dX5_rightLength_1 : decode cX5_rightLength 1 = .ok (.istore_n 1, 1) := by decide +kernel
theorem dX5_rightLength_2 : decode cX5_rightLength 2 = .ok (.iload_n 1, 1) := by decide +kernel
theorem dX5_rightLength_3 : decode cX5_rightLength 3 = .ok (.aload_n 0, 1) := by decide +kernel
theorem dX5_rightLength_4 : decode cX5_rightLength 4 = .ok (.getfield 60, 3) := by decide +kernel
theorem dX5_rightLength_7 : decode cX5_rightLength 7 = .ok (.if_icmp .ge 17, 3) := by decide +kernel
theorem dX5_rightLength_10 : decode cX5_rightLength 10 = .ok (.aload_n 0, 1) := by decide +kernel
theorem dX5_rightLength_11 : decode cX5_rightLength 11 = .ok (.iload_n 1, 1) := by decide +kernel
theorem dX5_rightLength_12 : decode cX5_rightLength 12 = .ok (.invokevirtual 71, 3) := by decide +kernel
theorem dX5_rightLength_15 : decode cX5_rightLength 15 = .ok (.ifCond .eq 9, 3) := by decide +kernel
theorem dX5_rightLength_18 : decode cX5_rightLength 18 = .ok (.iinc 1 1, 3) := by decide +kernel
theorem dX5_rightLength_21 : decode cX5_rightLength 21 = .ok (.goto (-19), 3) := by decide +kernel
theorem dX5_rightLength_24 : decode cX5_rightLength 24 = .ok (.iload_n 1, 1) := by decide +kernel
theorem dX5_rightLength_25 : decode cX5_rightLength 25 = .ok (.ireturn, 1) := by decide +kernel
set_option maxRecDepth 20000 in
theorem ggX5_firstError_X5_rightLength : GoodIn wsX5_firstError wsX5_rightLength := goodIn_r _ [5, 6, 7, 8, 9, 4, 10, 11, 12, 13, 14, 15, 16, 17, 18, 19, 20, 21, 22, 23, 24, 25, 26, 27, 28, 29, 30, 31, 32, 33, 34, 35, 36, 37, 38, 39, 40, 41, 42, 43, 44, 45] rfl (by decide +kernel)
set_option maxRecDepth 20000 in
theorem gX5_firstError_X5_rightLength : GoodIn wsX5_firstError (wsV RX5 74 RX5 yX5_rightLength wsX5_rightLength) := goodIn_app (goodIn_of _ (by decide +kernel)) ggX5_firstError_X5_rightLength
theorem dX5_firstError_0 : decode cX5_firstError 0 = .ok (.aload_n 0, 1) := by decide +kernel
theorem dX5_firstError_1 : decode cX5_firstError 1 = .ok (.invokevirtual 74, 3) := by decide +kernel
theorem dX5_firstError_4 : decode cX5_firstError 4 = .ok (.ireturn, 1) := by decide +kernel
theorem dX5_isConnected_0 : decode cX5_isConnected 0 = .ok (.iconst 1, 1) := by decide +kernel
theorem dX5_isConnected_1 : decode cX5_isConnected 1 = .ok (.istore_n 1, 1) := by decide +kernel
theorem dX5_isConnected_2 : decode cX5_isConnected 2 = .ok (.iconst 0, 1) := by decide +kernel
theorem dX5_isConnected_3 : decode cX5_isConnected 3 = .ok (.istore_n 2, 1) := by decide +kernel
theorem dX5_isConnected_4 : decode cX5_isConnected 4 = .ok (.iload_n 2, 1) := by decide +kernel
theorem dX5_isConnected_5 : decode cX5_isConnected 5 = .ok (.bipush 8, 2) := by decide +kernel
theorem dX5_isConnected_7 : decode cX5_isConnected 7 = .ok (.if_icmp .ge 68, 3) := by decide +kernel
theorem dX5_isConnected_10 : decode cX5_isConnected 10 = .ok (.iconst 2, 1) := by decide +kernel
theorem dX5_isConnected_11 : decode cX5_isConnected 11 = .ok (.istore_n 3, 1) := by decide +kernel
theorem dX5_isConnected_12 : decode cX5_isConnected 12 = .ok (.iload_n 3, 1) := by decide +kernel
theorem dX5_isConnected_13 : decode cX5_isConnected 13 = .ok (.aload_n 0, 1) := by decide +kernel
theorem dX5_isConnected_14 : decode cX5_isConnected 14 = .ok (.getfield 60, 3) := by decide +kernel
theorem dX5_isConnected_17 : decode cX5_isConnected 17 = .ok (.if_icmp .ge 52, 3) := by decide +kernel
theorem dX5_isConnected_20 : decode cX5_isConnected 20 = .ok (.iconst 1, 1) := by decide +kernel
theorem dX5_isConnected_21 : decode cX5_isConnected 21 = .ok (.aload_n 0, 1) := by decide +kernel
theorem dX5_isConnected_22 : decode cX5_isConnected 22 = .ok (.getfield 7, 3) := by decide +kernel
theorem dX5_isConnected_25 : decode cX5_isConnected 25 = .ok (.iload_n 3, 1) := by decide +kernel
theorem dX5_isConnected_26 : decode cX5_isConnected 26 = .ok (.iaload, 1) := by decide +kernel
theorem dX5_isConnected_27 : decode cX5_isConnected 27 = .ok (.bipush 48, 2) := by decide +kernel
theorem dX5_isConnected_29 : decode cX5_isConnected 29 = .ok (.isub, 1) := by decide +kernel
theorem dX5_isConnected_30 : decode cX5_isConnected 30 = .ok (.ishl, 1) := by decide +kernel
theorem dX5_isConnected_31 : decode cX5_isConnected 31 = .ok (.iconst 1, 1) := by decide +kernel
theorem dX5_isConnected_32 : decode cX5_isConnected 32 = .ok (.aload_n 0, 1) := by decide +kernel
theorem dX5_isConnected_33 : decode cX5_isConnected 33 = .ok (.getfield 7, 3) := by decide +kernel
theorem dX5_isConnected_36 : decode cX5_isConnected 36 = .ok (.iload_n 3, 1) := by decide +kernel
theorem dX5_isConnected_37 : decode cX5_isConnected 37 = .ok (.iconst 1, 1) := by decide +kernel
theorem dX5_isConnected_38 : decode cX5_isConnected 38 = .ok (.iadd, 1) := by decide +kernel
theorem dX5_isConnected_39 : decode cX5_isConnected 39 = .ok (.iaload, 1) := by decide +kernel
theorem dX5_isConnected_40 : decode cX5_isConnected 40 = .ok (.bipush 48, 2) := by decide +kernel
theorem dX5_isConnected_42 : decode cX5_isConnected 42 = .ok (.isub, 1) := by decide +kernel
theorem dX5_isConnected_43 : decode cX5_isConnected 43 = .ok (.ishl, 1) := by decide +kernel
theorem dX5_isConnected_44 : decode cX5_isConnected 44 = .ok (.ior, 1) := by decide +kernel
theorem dX5_isConnected_45 : decode cX5_isConnected 45 = .ok (.istore 4, 2) := by decide +kernel
theorem dX5_isConnected_47 : decode cX5_isConnected 47 = .ok (.iload_n 1, 1) := by decide +kernel
theorem dX5_isConnected_48 : decode cX5_isConnected 48 = .ok (.iload_n 1, 1) := by decide +kernel
theorem dX5_isConnected_49 : decode cX5_isConnected 49 = .ok (.iload 4, 2) := by decide +kernel
theorem dX5_isConnected_51 : decode cX5_isConnected 51 = .ok (.iand, 1) := by decide +kernel
theorem dX5_isConnected_52 : decode cX5_isConnected 52 = .ok (.ifCond .eq 8, 3) := by decide +kernel
theorem dX5_isConnected_55 : decode cX5_isConnected 55 = .ok (.iload 4, 2) := by decide +kernel
theorem dX5_isConnected_57 : decode cX5_isConnected 57 = .ok (.goto 4, 3) := by decide +kernel
theorem dX5_isConnected_60 : decode cX5_isConnected 60 = .ok (.iconst 0, 1) := by decide +kernel
theorem dX5_isConnected_61 : decode cX5_isConnected 61 = .ok (.ior, 1) := by decide +kernel
theorem dX5_isConnected_62 : decode cX5_isConnected 62 = .ok (.istore_n 1, 1) := by decide +kernel
theorem dX5_isConnected_63 : decode cX5_isConnected 63 = .ok (.iinc 3 3, 3) := by decide +kernel
theorem dX5_isConnected_66 : decode cX5_isConnected 66 = .ok (.goto (-54), 3) := by decide +kernel
theorem dX5_isConnected_69 : decode cX5_isConnected 69 = .ok (.iinc 2 1, 3) := by decide +kernel
theorem dX5_isConnected_72 : decode cX5_isConnected 72 = .ok (.goto (-68), 3) := by decide +kernel
theorem dX5_isConnected_75 : decode cX5_isConnected 75 = .ok (.iload_n 1, 1) := by decide +kernel
theorem dX5_isConnected_76 : decode cX5_isConnected 76 = .ok (.iconst 1, 1) := by decide +kernel
theorem dX5_isConnected_77 : decode cX5_isConnected 77 = .ok (.aload_n 0, 1) := by decide +kernel
theorem dX5_isConnected_78 : decode cX5_isConnected 78 = .ok (.getfield 7, 3) := by decide +kernel
theorem dX5_isConnected_81 : decode cX5_isConnected 81 = .ok (.iconst 0, 1) := by decide +kernel
theorem dX5_isConnected_82 : decode cX5_isConnected 82 = .ok (.iaload, 1) := by decide +kernel
theorem dX5_isConnected_83 : decode cX5_isConnected 83 = .ok (.bipush 48, 2) := by decide +kernel
theorem dX5_isConnected_85 : decode cX5_isConnected 85 = .ok (.isub, 1) := by decide +kernel
theorem dX5_isConnected_86 : decode cX5_isConnected 86 = .ok (.ishl, 1) := by decide +kernel
theorem dX5_isConnected_87 : decode cX5_isConnected 87 = .ok (.iconst 1, 1) := by decide +kernel
theorem dX5_isConnected_88 : decode cX5_isConnected 88 = .ok (.isub, 1) := by decide +kernel
theorem dX5_isConnected_89 : decode cX5_isConnected 89 = .ok (.if_icmp .ne 7, 3) := by decide +kernel
theorem dX5_isConnected_92 : decode cX5_isConnected 92 = .ok (.iconst 1, 1) := by decide +kernel
theorem dX5_isConnected_93 : decode cX5_isConnected 93 = .ok (.goto 4, 3) := by decide +kernel
theorem dX5_isConnected_96 : decode cX5_isConnected 96 = .ok (.iconst 0, 1) := by decide +kernel
theorem dX5_isConnected_97 : decode cX5_isConnected 97 = .ok (.ireturn, 1) := by decide +kernel
theorem dX5_join_0 : decode cX5_join 0 = .ok (.aload_n 0, 1) := by decide +kernel
theorem dX5_join_1 : decode cX5_join 1 = .ok (.getfield 13, 3) := by decide +kernel
theorem dX5_join_4 : decode cX5_join 4 = .ok (.bipush 8, 2) := by decide +kernel
theorem dX5_join_6 : decode cX5_join 6 = .ok (.iload_n 1, 1) := by decide +kernel
theorem dX5_join_7 : decode cX5_join 7 = .ok (.imul, 1) := by decide +kernel
theorem dX5_join_8 : decode cX5_join 8 = .ok (.aload_n 0, 1) := by decide +kernel
theorem dX5_join_9 : decode cX5_join 9 = .ok (.getfield 16, 3) := by decide +kernel
theorem dX5_join_12 : decode cX5_join 12 = .ok (.iload_n 1, 1) := by decide +kernel
theorem dX5_join_13 : decode cX5_join 13 = .ok (.iaload, 1) := by decide +kernel
theorem dX5_join_14 : decode cX5_join 14 = .ok (.iadd, 1) := by decide +kernel
theorem dX5_join_15 : decode cX5_join 15 = .ok (.iload_n 2, 1) := by decide +kernel
theorem dX5_join_16 : decode cX5_join 16 = .ok (.iastore, 1) := by decide +kernel
theorem dX5_join_17 : decode cX5_join 17 = .ok (.aload_n 0, 1) := by decide +kernel
theorem dX5_join_18 : decode cX5_join 18 = .ok (.getfield 16, 3) := by decide +kernel
theorem dX5_join_21 : decode cX5_join 21 = .ok (.iload_n 1, 1) := by decide +kernel
theorem dX5_join_22 : decode cX5_join 22 = .ok (.dup2, 1) := by decide +kernel
theorem dX5_join_23 : decode cX5_join 23 = .ok (.iaload, 1) := by decide +kernel
theorem dX5_join_24 : decode cX5_join 24 = .ok (.iconst 1, 1) := by decide +kernel
theorem dX5_join_25 : decode cX5_join 25 = .ok (.iadd, 1) := by decide +kernel
theorem dX5_join_26 : decode cX5_join 26 = .ok (.iastore, 1) := by decide +kernel
theorem dX5_join_27 : decode cX5_join 27 = .ok (.return_, 1) := by decide +kernel
set_option maxRecDepth 20000 in
theorem ggX5_load_X5_rightLength : GoodIn wsX5_load wsX5_rightLength := goodIn_r _ [15, 1, 16, 17, 18, 14, 19, 2, 20, 21, 22, 23, 24, 25, 26, 27, 28, 29, 30, 40, 41, 42, 43, 44, 45, 46, 47, 48, 49, 50, 51, 52, 53, 54, 55, 56, 57, 58, 59, 60, 61, 62] rfl (by decide +kernel)
set_option maxRecDepth 20000 in
theorem gX5_load_X5_rightLength : GoodIn wsX5_load (wsV RX5 74 RX5 yX5_rightLength wsX5_rightLength) := goodIn_app (goodIn_of _ (by decide +kernel)) ggX5_load_X5_rightLength
set_option maxRecDepth 20000 in
theorem ggX5_load_X5_isConnected : GoodIn wsX5_load wsX5_isConnected := goodIn_r _ [34, 1, 2, 40, 41, 42, 43, 44, 45, 46, 47, 48, 49, 50, 51, 52, 53, 54, 55, 56, 57, 58, 59, 60, 61, 62] rfl (by decide +kernel)
set_option maxRecDepth 20000 in
theorem gX5_load_X5_isConnected : GoodIn wsX5_load (wsV RX5 78 RX5 yX5_isConnected wsX5_isConnected) := goodIn_app (goodIn_of _ (by decide +kernel)) ggX5_load_X5_isConnected
set_option maxRecDepth 20000 in
theorem ggX5_load_X5_join : GoodIn wsX5_load wsX5_join := goodIn_r _ [38, 39, 6, 40, 41, 42, 43, 44, 45, 46, 47, 48, 49, 50, 51, 52, 53, 54, 55, 56, 57, 58, 59, 60, 61, 62] rfl (by decide +kernel)
set_option maxRecDepth 20000 in
theorem gX5_load_X5_join : GoodIn wsX5_load (wsV RX5 88 RX5 yX5_join wsX5_join) := goodIn_app (goodIn_of _ (by decide +kernel)) ggX5_load_X5_join
theorem dX5_load_0 : decode cX5_load 0 = .ok (.aload_n 0, 1) := by decide +kernel
theorem dX5_load_1 : decode cX5_load 1 = .ok (.getfield 60, 3) := by decide +kernel
theorem dX5_load_4 : decode cX5_load 4 = .ok (.iconst 4, 1) := by decide +kernel
theorem dX5_load_5 : decode cX5_load 5 = .ok (.if_icmp .lt 31, 3) := by decide +kernel
theorem dX5_load_8 : decode cX5_load 8 = .ok (.aload_n 0, 1) := by decide +kernel
theorem dX5_load_9 : decode cX5_load 9 = .ok (.getfield 60, 3) := by decide +kernel
theorem dX5_load_12 : decode cX5_load 12 = .ok (.iconst 3, 1) := by decide +kernel
theorem dX5_load_13 : decode cX5_load 13 = .ok (.irem, 1) := by decide +kernel
theorem dX5_load_14 : decode cX5_load 14 = .ok (.iconst 1, 1) := by decide +kernel
theorem dX5_load_15 : decode cX5_load 15 = .ok (.if_icmp .ne 21, 3) := by decide +kernel
theorem dX5_load_18 : decode cX5_load 18 = .ok (.aload_n 0, 1) := by decide +kernel
theorem dX5_load_19 : decode cX5_load 19 = .ok (.invokevirtual 74, 3) := by decide +kernel
theorem dX5_load_22 : decode cX5_load 22 = .ok (.aload_n 0, 1) := by decide +kernel
theorem dX5_load_23 : decode cX5_load 23 = .ok (.getfield 60, 3) := by decide +kernel
theorem dX5_load_26 : decode cX5_load 26 = .ok (.if_icmp .lt 10, 3) := by decide +kernel
theorem dX5_load_29 : decode cX5_load 29 = .ok (.aload_n 0, 1) := by decide +kernel
theorem dX5_load_30 : decode cX5_load 30 = .ok (.invokevirtual 78, 3) := by decide +kernel
theorem dX5_load_33 : decode cX5_load 33 = .ok (.ifCond .ne 6, 3) := by decide +kernel
theorem dX5_load_36 : decode cX5_load 36 = .ok (.bipush (-3), 2) := by decide +kernel
theorem dX5_load_38 : decode cX5_load 38 = .ok (.ireturn, 1) := by decide +kernel
theorem dX5_load_39 : decode cX5_load 39 = .ok (.aload_n 0, 1) := by decide +kernel
theorem dX5_load_40 : decode cX5_load 40 = .ok (.aload_n 0, 1) := by decide +kernel
theorem dX5_load_41 : decode cX5_load 41 = .ok (.getfield 7, 3) := by decide +kernel
theorem dX5_load_44 : decode cX5_load 44 = .ok (.iconst 0, 1) := by decide +kernel
theorem dX5_load_45 : decode cX5_load 45 = .ok (.iaload, 1) := by decide +kernel
theorem dX5_load_46 : decode cX5_load 46 = .ok (.bipush 48, 2) := by decide +kernel
theorem dX5_load_48 : decode cX5_load 48 = .ok (.isub, 1) := by decide +kernel
theorem dX5_load_49 : decode cX5_load 49 = .ok (.putfield 82, 3) := by decide +kernel
theorem dX5_load_52 : decode cX5_load 52 = .ok (.aload_n 0, 1) := by decide +kernel
theorem dX5_load_53 : decode cX5_load 53 = .ok (.aload_n 0, 1) := by decide +kernel
theorem dX5_load_54 : decode cX5_load 54 = .ok (.getfield 60, 3) := by decide +kernel
theorem dX5_load_57 : decode cX5_load 57 = .ok (.iconst 1, 1) := by decide +kernel
theorem dX5_load_58 : decode cX5_load 58 = .ok (.isub, 1) := by decide +kernel
theorem dX5_load_59 : decode cX5_load 59 = .ok (.iconst 3, 1) := by decide +kernel
theorem dX5_load_60 : decode cX5_load 60 = .ok (.idiv, 1) := by decide +kernel
theorem dX5_load_61 : decode cX5_load 61 = .ok (.putfield 85, 3) := by decide +kernel
theorem dX5_load_64 : decode cX5_load 64 = .ok (.iconst 0, 1) := by decide +kernel
theorem dX5_load_65 : decode cX5_load 65 = .ok (.istore_n 1, 1) := by decide +kernel
theorem dX5_load_66 : decode cX5_load 66 = .ok (.iload_n 1, 1) := by decide +kernel
theorem dX5_load_67 : decode cX5_load 67 = .ok (.bipush 64, 2) := by decide +kernel
theorem dX5_load_69 : decode cX5_load 69 = .ok (.if_icmp .ge 46, 3) := by decide +kernel
theorem dX5_load_72 : decode cX5_load 72 = .ok (.aload_n 0, 1) := by decide +kernel
theorem dX5_load_73 : decode cX5_load 73 = .ok (.getfield 28, 3) := by decide +kernel
theorem dX5_load_76 : decode cX5_load 76 = .ok (.iload_n 1, 1) := by decide +kernel
theorem dX5_load_77 : decode cX5_load 77 = .ok (.iconst 0, 1) := by decide +kernel
theorem dX5_load_78 : decode cX5_load 78 = .ok (.iastore, 1) := by decide +kernel
theorem dX5_load_79 : decode cX5_load 79 = .ok (.aload_n 0, 1) := by decide +kernel
theorem dX5_load_80 : decode cX5_load 80 = .ok (.getfield 16, 3) := by decide +kernel
theorem dX5_load_83 : decode cX5_load 83 = .ok (.iload_n 1, 1) := by decide +kernel
theorem dX5_load_84 : decode cX5_load 84 = .ok (.bipush 8, 2) := by decide +kernel
theorem dX5_load_86 : decode cX5_load 86 = .ok (.irem, 1) := by decide +kernel
theorem dX5_load_87 : decode cX5_load 87 = .ok (.iconst 0, 1) := by decide +kernel
theorem dX5_load_88 : decode cX5_load 88 = .ok (.iastore, 1) := by decide +kernel
theorem dX5_load_89 : decode cX5_load 89 = .ok (.aload_n 0, 1) := by decide +kernel
theorem dX5_load_90 : decode cX5_load 90 = .ok (.getfield 19, 3) := by decide +kernel
theorem dX5_load_93 : decode cX5_load 93 = .ok (.iload_n 1, 1) := by decide +kernel
theorem dX5_load_94 : decode cX5_load 94 = .ok (.bipush 8, 2) := by decide +kernel
theorem dX5_load_96 : decode cX5_load 96 = .ok (.irem, 1) := by decide +kernel
theorem dX5_load_97 : decode cX5_load 97 = .ok (.iconst 0, 1) := by decide +kernel
theorem dX5_load_98 : decode cX5_load 98 = .ok (.iastore, 1) := by decide +kernel
theorem dX5_load_99 : decode cX5_load 99 = .ok (.aload_n 0, 1) := by decide +kernel
theorem dX5_load_100 : decode cX5_load 100 = .ok (.getfield 25, 3) := by decide +kernel
theorem dX5_load_103 : decode cX5_load 103 = .ok (.iload_n 1, 1) := by decide +kernel
theorem dX5_load_104 : decode cX5_load 104 = .ok (.bipush 8, 2) := by decide +kernel
theorem dX5_load_106 : decode cX5_load 106 = .ok (.irem, 1) := by decide +kernel
theorem dX5_load_107 : decode cX5_load 107 = .ok (.iconst 0, 1) := by decide +kernel
theorem dX5_load_108 : decode cX5_load 108 = .ok (.iastore, 1) := by decide +kernel
theorem dX5_load_109 : decode cX5_load 109 = .ok (.iinc 1 1, 3) := by decide +kernel
theorem dX5_load_112 : decode cX5_load 112 = .ok (.goto (-46), 3) := by decide +kernel
theorem dX5_load_115 : decode cX5_load 115 = .ok (.iconst 2, 1) := by decide +kernel
theorem dX5_load_116 : decode cX5_load 116 = .ok (.istore_n 1, 1) := by decide +kernel
theorem dX5_load_117 : decode cX5_load 117 = .ok (.iload_n 1, 1) := by decide +kernel
theorem dX5_load_118 : decode cX5_load 118 = .ok (.aload_n 0, 1) := by decide +kernel
theorem dX5_load_119 : decode cX5_load 119 = .ok (.getfield 60, 3) := by decide +kernel
theorem dX5_load_122 : decode cX5_load 122 = .ok (.if_icmp .ge 57, 3) := by decide +kernel
theorem dX5_load_125 : decode cX5_load 125 = .ok (.aload_n 0, 1) := by decide +kernel
theorem dX5_load_126 : decode cX5_load 126 = .ok (.aload_n 0, 1) := by decide +kernel
theorem dX5_load_127 : decode cX5_load 127 = .ok (.getfield 7, 3) := by decide +kernel
theorem dX5_load_130 : decode cX5_load 130 = .ok (.iload_n 1, 1) := by decide +kernel
theorem dX5_load_131 : decode cX5_load 131 = .ok (.iaload, 1) := by decide +kernel
theorem dX5_load_132 : decode cX5_load 132 = .ok (.bipush 48, 2) := by decide +kernel
theorem dX5_load_134 : decode cX5_load 134 = .ok (.isub, 1) := by decide +kernel
theorem dX5_load_135 : decode cX5_load 135 = .ok (.aload_n 0, 1) := by decide +kernel
theorem dX5_load_136 : decode cX5_load 136 = .ok (.getfield 7, 3) := by decide +kernel
theorem dX5_load_139 : decode cX5_load 139 = .ok (.iload_n 1, 1) := by decide +kernel
theorem dX5_load_140 : decode cX5_load 140 = .ok (.iconst 1, 1) := by decide +kernel
theorem dX5_load_141 : decode cX5_load 141 = .ok (.iadd, 1) := by decide +kernel
theorem dX5_load_142 : decode cX5_load 142 = .ok (.iaload, 1) := by decide +kernel
theorem dX5_load_143 : decode cX5_load 143 = .ok (.bipush 48, 2) := by decide +kernel
theorem dX5_load_145 : decode cX5_load 145 = .ok (.isub, 1) := by decide +kernel
theorem dX5_load_146 : decode cX5_load 146 = .ok (.invokevirtual 88, 3) := by decide +kernel
theorem dX5_load_149 : decode cX5_load 149 = .ok (.aload_n 0, 1) := by decide +kernel
theorem dX5_load_150 : decode cX5_load 150 = .ok (.aload_n 0, 1) := by decide +kernel
theorem dX5_load_151 : decode cX5_load 151 = .ok (.getfield 7, 3) := by decide +kernel
theorem dX5_load_154 : decode cX5_load 154 = .ok (.iload_n 1, 1) := by decide +kernel
theorem dX5_load_155 : decode cX5_load 155 = .ok (.iconst 1, 1) := by decide +kernel
theorem dX5_load_156 : decode cX5_load 156 = .ok (.iadd, 1) := by decide +kernel
theorem dX5_load_157 : decode cX5_load 157 = .ok (.iaload, 1) := by decide +kernel
theorem dX5_load_158 : decode cX5_load 158 = .ok (.bipush 48, 2) := by decide +kernel
theorem dX5_load_160 : decode cX5_load 160 = .ok (.isub, 1) := by decide +kernel
theorem dX5_load_161 : decode cX5_load 161 = .ok (.aload_n 0, 1) := by decide +kernel
theorem dX5_load_162 : decode cX5_load 162 = .ok (.getfield 7, 3) := by decide +kernel
theorem dX5_load_165 : decode cX5_load 165 = .ok (.iload_n 1, 1) := by decide +kernel
theorem dX5_load_166 : decode cX5_load 166 = .ok (.iaload, 1) := by decide +kernel
theorem dX5_load_167 : decode cX5_load 167 = .ok (.bipush 48, 2) := by decide +kernel
theorem dX5_load_169 : decode cX5_load 169 = .ok (.isub, 1) := by decide +kernel
theorem dX5_load_170 : decode cX5_load 170 = .ok (.invokevirtual 88, 3) := by decide +kernel
theorem dX5_load_173 : decode cX5_load 173 = .ok (.iinc 1 3, 3) := by decide +kernel
theorem dX5_load_176 : decode cX5_load 176 = .ok (.goto (-59), 3) := by decide +kernel
theorem dX5_load_179 : decode cX5_load 179 = .ok (.aload_n 0, 1) := by decide +kernel
theorem dX5_load_180 : decode cX5_load 180 = .ok (.iconst 0, 1) := by decide +kernel
theorem dX5_load_181 : decode cX5_load 181 = .ok (.putfield 92, 3) := by decide +kernel
theorem dX5_load_184 : decode cX5_load 184 = .ok (.aload_n 0, 1) := by decide +kernel
theorem dX5_load_185 : decode cX5_load 185 = .ok (.iconst 0, 1) := by decide +kernel
theorem dX5_load_186 : decode cX5_load 186 = .ok (.putfield 95, 3) := by decide +kernel
theorem dX5_load_189 : decode cX5_load 189 = .ok (.aload_n 0, 1) := by decide +kernel
theorem dX5_load_190 : decode cX5_load 190 = .ok (.iconst 0, 1) := by decide +kernel
theorem dX5_load_191 : decode cX5_load 191 = .ok (.putfield 60, 3) := by decide +kernel
theorem dX5_load_194 : decode cX5_load 194 = .ok (.aload_n 0, 1) := by decide +kernel
theorem dX5_load_195 : decode cX5_load 195 = .ok (.getfield 82, 3) := by decide +kernel
theorem dX5_load_198 : decode cX5_load 198 = .ok (.ireturn, 1) := by decide +kernel
set_option maxRecDepth 20000 in
theorem ggX5_isNode_X5_within : GoodIn wsX5_isNode wsX5_within := goodIn_r _ [5] rfl (by decide +kernel)
set_option maxRecDepth 20000 in
theorem gX5_isNode_X5_within : GoodIn wsX5_isNode (va_wsS RX5 56 yX5_within wsX5_within) := goodIn_app (goodIn_of _ (by decide +kernel)) ggX5_isNode_X5_within
theorem dX5_isNode_0 : decode cX5_isNode 0 = .ok (.iload_n 1, 1) := by decide +kernel
theorem dX5_isNode_1 : decode cX5_isNode 1 = .ok (.iconst 0, 1) := by decide +kernel
theorem dX5_isNode_2 : decode cX5_isNode 2 = .ok (.aload_n 0, 1) := by decide +kernel
theorem dX5_isNode_3 : decode cX5_isNode 3 = .ok (.getfield 82, 3) := by decide +kernel
theorem dX5_isNode_6 : decode cX5_isNode 6 = .ok (.iconst 1, 1) := by decide +kernel
theorem dX5_isNode_7 : decode cX5_isNode 7 = .ok (.isub, 1) := by decide +kernel
theorem dX5_isNode_8 : decode cX5_isNode 8 = .ok (.invokestatic 56, 3) := by decide +kernel
theorem dX5_isNode_11 : decode cX5_isNode 11 = .ok (.ireturn, 1) := by decide +kernel
set_option maxRecDepth 20000 in
theorem ggX5_degree_X5_isNode : GoodIn wsX5_degree wsX5_isNode := goodIn_r _ [6, 7, 8, 9, 5, 10, 11, 12, 13, 14, 15, 16, 17, 18, 19, 20, 21, 22, 23, 24, 25, 26, 27, 28, 29, 30, 31, 32, 33] rfl (by decide +kernel)
set_option maxRecDepth 20000 in
theorem gX5_degree_X5_isNode : GoodIn wsX5_degree (wsV RX5 99 RX5 yX5_isNode wsX5_isNode) := goodIn_app (goodIn_of _ (by decide +kernel)) ggX5_degree_X5_isNode
theorem dX5_degree_0 : decode cX5_degree 0 = .ok (.aload_n 0, 1) := by decide +kernel
theorem dX5_degree_1 : decode cX5_degree 1 = .ok (.iload_n 1, 1) := by decide +kernel
theorem dX5_degree_2 : decode cX5_degree 2 = .ok (.invokevirtual 99, 3) := by decide +kernel
theorem dX5_degree_5 : decode cX5_degree 5 = .ok (.ifCond .eq 12, 3) := by decide +kernel
theorem dX5_degree_8 : decode cX5_degree 8 = .ok (.aload_n 0, 1) := by decide +kernel
theorem dX5_degree_9 : decode cX5_degree 9 = .ok (.getfield 16, 3) := by decide +kernel
theorem dX5_degree_12 : decode cX5_degree 12 = .ok (.iload_n 1, 1) := by decide +kernel
theorem dX5_degree_13 : decode cX5_degree 13 = .ok (.iaload, 1) := by decide +kernel
theorem dX5_degree_14 : decode cX5_degree 14 = .ok (.goto 5, 3) := by decide +kernel
theorem dX5_degree_17 : decode cX5_degree 17 = .ok (.bipush (-4), 2) := by decide +kernel
theorem dX5_degree_19 : decode cX5_degree 19 = .ok (.ireturn, 1) := by decide +kernel
set_option maxRecDepth 20000 in
theorem ggX5_errorOf_X5_isNode : GoodIn wsX5_errorOf wsX5_isNode := goodIn_r _ [6, 7, 8, 9, 5, 10, 11, 12, 13, 14, 15, 16, 17, 18, 19, 20, 21, 22, 23, 24, 25, 26, 27, 28, 29, 30, 31, 32, 33] rfl (by decide +kernel)
set_option maxRecDepth 20000 in
theorem gX5_errorOf_X5_isNode : GoodIn wsX5_errorOf (wsV RX5 99 RX5 yX5_isNode wsX5_isNode) := goodIn_app (goodIn_of _ (by decide +kernel)) ggX5_errorOf_X5_isNode
set_option maxRecDepth 20000 in
theorem ggX5_errorOf_X5_within : GoodIn wsX5_errorOf wsX5_within := goodIn_r _ [10] rfl (by decide +kernel)
set_option maxRecDepth 20000 in
theorem gX5_errorOf_X5_within : GoodIn wsX5_errorOf (va_wsS RX5 56 yX5_within wsX5_within) := goodIn_app (goodIn_of _ (by decide +kernel)) ggX5_errorOf_X5_within
theorem dX5_errorOf_0 : decode cX5_errorOf 0 = .ok (.aload_n 0, 1) := by decide +kernel
theorem dX5_errorOf_1 : decode cX5_errorOf 1 = .ok (.iload_n 1, 1) := by decide +kernel
theorem dX5_errorOf_2 : decode cX5_errorOf 2 = .ok (.invokevirtual 99, 3) := by decide +kernel
theorem dX5_errorOf_5 : decode cX5_errorOf 5 = .ok (.ifCond .ne 8, 3) := by decide +kernel
theorem dX5_errorOf_8 : decode cX5_errorOf 8 = .ok (.bipush (-4), 2) := by decide +kernel
theorem dX5_errorOf_10 : decode cX5_errorOf 10 = .ok (.goto 25, 3) := by decide +kernel
theorem dX5_errorOf_13 : decode cX5_errorOf 13 = .ok (.iload_n 2, 1) := by decide +kernel
theorem dX5_errorOf_14 : decode cX5_errorOf 14 = .ok (.iconst 0, 1) := by decide +kernel
theorem dX5_errorOf_15 : decode cX5_errorOf 15 = .ok (.aload_n 0, 1) := by decide +kernel
theorem dX5_errorOf_16 : decode cX5_errorOf 16 = .ok (.getfield 16, 3) := by decide +kernel
theorem dX5_errorOf_19 : decode cX5_errorOf 19 = .ok (.iload_n 1, 1) := by decide +kernel
theorem dX5_errorOf_20 : decode cX5_errorOf 20 = .ok (.iaload, 1) := by decide +kernel
theorem dX5_errorOf_21 : decode cX5_errorOf 21 = .ok (.iconst 1, 1) := by decide +kernel
theorem dX5_errorOf_22 : decode cX5_errorOf 22 = .ok (.isub, 1) := by decide +kernel
theorem dX5_errorOf_23 : decode cX5_errorOf 23 = .ok (.invokestatic 56, 3) := by decide +kernel
theorem dX5_errorOf_26 : decode cX5_errorOf 26 = .ok (.ifCond .ne 8, 3) := by decide +kernel
theorem dX5_errorOf_29 : decode cX5_errorOf 29 = .ok (.bipush (-6), 2) := by decide +kernel
theorem dX5_errorOf_31 : decode cX5_errorOf 31 = .ok (.goto 4, 3) := by decide +kernel
theorem dX5_errorOf_34 : decode cX5_errorOf 34 = .ok (.iconst 0, 1) := by decide +kernel
theorem dX5_errorOf_35 : decode cX5_errorOf 35 = .ok (.ireturn, 1) := by decide +kernel
set_option maxRecDepth 20000 in
theorem ggX5_neighbor_X5_errorOf : GoodIn wsX5_neighbor wsX5_errorOf := goodIn_r _ [6, 7, 8, 9, 10, 5, 11, 12, 13, 14, 15, 16, 17, 18, 19, 20, 21, 22, 23, 24, 25, 26, 27, 28, 29, 30, 31, 32, 33, 34, 35, 36, 37, 38] rfl (by decide +kernel)
set_option maxRecDepth 20000 in
theorem gX5_neighbor_X5_errorOf : GoodIn wsX5_neighbor (wsV RX5 102 RX5 yX5_errorOf wsX5_errorOf) := goodIn_app (goodIn_of _ (by decide +kernel)) ggX5_neighbor_X5_errorOf
theorem dX5_neighbor_0 : decode cX5_neighbor 0 = .ok (.aload_n 0, 1) := by decide +kernel
theorem dX5_neighbor_1 : decode cX5_neighbor 1 = .ok (.iload_n 1, 1) := by decide +kernel
theorem dX5_neighbor_2 : decode cX5_neighbor 2 = .ok (.iload_n 2, 1) := by decide +kernel
theorem dX5_neighbor_3 : decode cX5_neighbor 3 = .ok (.invokevirtual 102, 3) := by decide +kernel
theorem dX5_neighbor_6 : decode cX5_neighbor 6 = .ok (.istore_n 3, 1) := by decide +kernel
theorem dX5_neighbor_7 : decode cX5_neighbor 7 = .ok (.iload_n 3, 1) := by decide +kernel
theorem dX5_neighbor_8 : decode cX5_neighbor 8 = .ok (.ifCond .ge 7, 3) := by decide +kernel
theorem dX5_neighbor_11 : decode cX5_neighbor 11 = .ok (.iload_n 3, 1) := by decide +kernel
theorem dX5_neighbor_12 : decode cX5_neighbor 12 = .ok (.goto 14, 3) := by decide +kernel
theorem dX5_neighbor_15 : decode cX5_neighbor 15 = .ok (.aload_n 0, 1) := by decide +kernel
theorem dX5_neighbor_16 : decode cX5_neighbor 16 = .ok (.getfield 13, 3) := by decide +kernel
theorem dX5_neighbor_19 : decode cX5_neighbor 19 = .ok (.bipush 8, 2) := by decide +kernel
theorem dX5_neighbor_21 : decode cX5_neighbor 21 = .ok (.iload_n 1, 1) := by decide +kernel
theorem dX5_neighbor_22 : decode cX5_neighbor 22 = .ok (.imul, 1) := by decide +kernel
theorem dX5_neighbor_23 : decode cX5_neighbor 23 = .ok (.iload_n 2, 1) := by decide +kernel
theorem dX5_neighbor_24 : decode cX5_neighbor 24 = .ok (.iadd, 1) := by decide +kernel
theorem dX5_neighbor_25 : decode cX5_neighbor 25 = .ok (.iaload, 1) := by decide +kernel
theorem dX5_neighbor_26 : decode cX5_neighbor 26 = .ok (.ireturn, 1) := by decide +kernel
set_option maxRecDepth 20000 in
theorem ggX5_rotor_X5_isNode : GoodIn wsX5_rotor wsX5_isNode := goodIn_r _ [6, 7, 8, 9, 5, 10, 11, 12, 13, 14, 15, 16, 17, 18, 19, 20, 21, 22, 23, 24, 25, 26, 27, 28, 29, 30, 31, 32, 33] rfl (by decide +kernel)
set_option maxRecDepth 20000 in
theorem gX5_rotor_X5_isNode : GoodIn wsX5_rotor (wsV RX5 99 RX5 yX5_isNode wsX5_isNode) := goodIn_app (goodIn_of _ (by decide +kernel)) ggX5_rotor_X5_isNode
theorem dX5_rotor_0 : decode cX5_rotor 0 = .ok (.aload_n 0, 1) := by decide +kernel
theorem dX5_rotor_1 : decode cX5_rotor 1 = .ok (.iload_n 1, 1) := by decide +kernel
theorem dX5_rotor_2 : decode cX5_rotor 2 = .ok (.invokevirtual 99, 3) := by decide +kernel
theorem dX5_rotor_5 : decode cX5_rotor 5 = .ok (.ifCond .eq 12, 3) := by decide +kernel
theorem dX5_rotor_8 : decode cX5_rotor 8 = .ok (.aload_n 0, 1) := by decide +kernel
theorem dX5_rotor_9 : decode cX5_rotor 9 = .ok (.getfield 19, 3) := by decide +kernel
theorem dX5_rotor_12 : decode cX5_rotor 12 = .ok (.iload_n 1, 1) := by decide +kernel
theorem dX5_rotor_13 : decode cX5_rotor 13 = .ok (.iaload, 1) := by decide +kernel
theorem dX5_rotor_14 : decode cX5_rotor 14 = .ok (.goto 5, 3) := by decide +kernel
theorem dX5_rotor_17 : decode cX5_rotor 17 = .ok (.bipush (-4), 2) := by decide +kernel
theorem dX5_rotor_19 : decode cX5_rotor 19 = .ok (.ireturn, 1) := by decide +kernel
set_option maxRecDepth 20000 in
theorem ggX5_setRotor_X5_errorOf : GoodIn wsX5_setRotor wsX5_errorOf := goodIn_r _ [6, 7, 8, 9, 10, 5, 11, 12, 13, 14, 15, 16, 17, 18, 19, 20, 21, 22, 23, 24, 25, 26, 27, 28, 29, 30, 31, 32, 33, 34, 35, 36, 37, 38] rfl (by decide +kernel)
set_option maxRecDepth 20000 in
theorem gX5_setRotor_X5_errorOf : GoodIn wsX5_setRotor (wsV RX5 102 RX5 yX5_errorOf wsX5_errorOf) := goodIn_app (goodIn_of _ (by decide +kernel)) ggX5_setRotor_X5_errorOf
theorem dX5_setRotor_0 : decode cX5_setRotor 0 = .ok (.aload_n 0, 1) := by decide +kernel
theorem dX5_setRotor_1 : decode cX5_setRotor 1 = .ok (.iload_n 1, 1) := by decide +kernel
theorem dX5_setRotor_2 : decode cX5_setRotor 2 = .ok (.iload_n 2, 1) := by decide +kernel
theorem dX5_setRotor_3 : decode cX5_setRotor 3 = .ok (.invokevirtual 102, 3) := by decide +kernel
theorem dX5_setRotor_6 : decode cX5_setRotor 6 = .ok (.istore_n 3, 1) := by decide +kernel
theorem dX5_setRotor_7 : decode cX5_setRotor 7 = .ok (.iload_n 3, 1) := by decide +kernel
theorem dX5_setRotor_8 : decode cX5_setRotor 8 = .ok (.ifCond .ge 5, 3) := by decide +kernel
theorem dX5_setRotor_11 : decode cX5_setRotor 11 = .ok (.iload_n 3, 1) := by decide +kernel
theorem dX5_setRotor_12 : decode cX5_setRotor 12 = .ok (.ireturn, 1) := by decide +kernel
theorem dX5_setRotor_13 : decode cX5_setRotor 13 = .ok (.aload_n 0, 1) := by decide +kernel
theorem dX5_setRotor_14 : decode cX5_setRotor 14 = .ok (.getfield 19, 3) := by decide +kernel
theorem dX5_setRotor_17 : decode cX5_setRotor 17 = .ok (.iload_n 1, 1) := by decide +kernel
theorem dX5_setRotor_18 : decode cX5_setRotor 18 = .ok (.iaload, 1) := by decide +kernel
theorem dX5_setRotor_19 : decode cX5_setRotor 19 = .ok (.istore 4, 2) := by decide +kernel
theorem dX5_setRotor_21 : decode cX5_setRotor 21 = .ok (.aload_n 0, 1) := by decide +kernel
theorem dX5_setRotor_22 : decode cX5_setRotor 22 = .ok (.getfield 19, 3) := by decide +kernel
theorem dX5_setRotor_25 : decode cX5_setRotor 25 = .ok (.iload_n 1, 1) := by decide +kernel
theorem dX5_setRotor_26 : decode cX5_setRotor 26 = .ok (.iload_n 2, 1) := by decide +kernel
theorem dX5_setRotor_27 : decode cX5_setRotor 27 = .ok (.iastore, 1) := by decide +kernel
theorem dX5_setRotor_28 : decode cX5_setRotor 28 = .ok (.iload 4, 2) := by decide +kernel
theorem dX5_setRotor_30 : decode cX5_setRotor 30 = .ok (.ireturn, 1) := by decide +kernel
set_option maxRecDepth 20000 in
theorem ggX5_isWalker_X5_within : GoodIn wsX5_isWalker wsX5_within := goodIn_r _ [5] rfl (by decide +kernel)
set_option maxRecDepth 20000 in
theorem gX5_isWalker_X5_within : GoodIn wsX5_isWalker (va_wsS RX5 56 yX5_within wsX5_within) := goodIn_app (goodIn_of _ (by decide +kernel)) ggX5_isWalker_X5_within
theorem dX5_isWalker_0 : decode cX5_isWalker 0 = .ok (.iload_n 1, 1) := by decide +kernel
theorem dX5_isWalker_1 : decode cX5_isWalker 1 = .ok (.iconst 0, 1) := by decide +kernel
theorem dX5_isWalker_2 : decode cX5_isWalker 2 = .ok (.aload_n 0, 1) := by decide +kernel
theorem dX5_isWalker_3 : decode cX5_isWalker 3 = .ok (.getfield 92, 3) := by decide +kernel
theorem dX5_isWalker_6 : decode cX5_isWalker 6 = .ok (.iconst 1, 1) := by decide +kernel
theorem dX5_isWalker_7 : decode cX5_isWalker 7 = .ok (.isub, 1) := by decide +kernel
theorem dX5_isWalker_8 : decode cX5_isWalker 8 = .ok (.invokestatic 56, 3) := by decide +kernel
theorem dX5_isWalker_11 : decode cX5_isWalker 11 = .ok (.ireturn, 1) := by decide +kernel
set_option maxRecDepth 20000 in
theorem ggX5_addWalker_X5_isNode : GoodIn wsX5_addWalker wsX5_isNode := goodIn_r _ [7, 8, 9, 10, 6, 11, 12, 13, 14, 15, 16, 17, 18, 19, 20, 21, 22, 23, 24, 25, 26, 27, 28, 29, 30, 31, 32, 33, 34] rfl (by decide +kernel)
set_option maxRecDepth 20000 in
theorem gX5_addWalker_X5_isNode : GoodIn wsX5_addWalker (wsV RX5 99 RX5 yX5_isNode wsX5_isNode) := goodIn_app (goodIn_of _ (by decide +kernel)) ggX5_addWalker_X5_isNode
theorem dX5_addWalker_0 : decode cX5_addWalker 0 = .ok (.aload_n 0, 1) := by decide +kernel
theorem dX5_addWalker_1 : decode cX5_addWalker 1 = .ok (.iload_n 1, 1) := by decide +kernel
theorem dX5_addWalker_2 : decode cX5_addWalker 2 = .ok (.invokevirtual 99, 3) := by decide +kernel
theorem dX5_addWalker_5 : decode cX5_addWalker 5 = .ok (.ifCond .ne 6, 3) := by decide +kernel
theorem dX5_addWalker_8 : decode cX5_addWalker 8 = .ok (.bipush (-4), 2) := by decide +kernel
theorem dX5_addWalker_10 : decode cX5_addWalker 10 = .ok (.ireturn, 1) := by decide +kernel
theorem dX5_addWalker_11 : decode cX5_addWalker 11 = .ok (.aload_n 0, 1) := by decide +kernel
theorem dX5_addWalker_12 : decode cX5_addWalker 12 = .ok (.getfield 92, 3) := by decide +kernel
theorem dX5_addWalker_15 : decode cX5_addWalker 15 = .ok (.iconst 4, 1) := by decide +kernel
theorem dX5_addWalker_16 : decode cX5_addWalker 16 = .ok (.if_icmp .ne 6, 3) := by decide +kernel
theorem dX5_addWalker_19 : decode cX5_addWalker 19 = .ok (.bipush (-7), 2) := by decide +kernel
theorem dX5_addWalker_21 : decode cX5_addWalker 21 = .ok (.ireturn, 1) := by decide +kernel
theorem dX5_addWalker_22 : decode cX5_addWalker 22 = .ok (.aload_n 0, 1) := by decide +kernel
theorem dX5_addWalker_23 : decode cX5_addWalker 23 = .ok (.getfield 22, 3) := by decide +kernel
theorem dX5_addWalker_26 : decode cX5_addWalker 26 = .ok (.aload_n 0, 1) := by decide +kernel
theorem dX5_addWalker_27 : decode cX5_addWalker 27 = .ok (.getfield 92, 3) := by decide +kernel
theorem dX5_addWalker_30 : decode cX5_addWalker 30 = .ok (.iload_n 1, 1) := by decide +kernel
theorem dX5_addWalker_31 : decode cX5_addWalker 31 = .ok (.iastore, 1) := by decide +kernel
theorem dX5_addWalker_32 : decode cX5_addWalker 32 = .ok (.aload_n 0, 1) := by decide +kernel
theorem dX5_addWalker_33 : decode cX5_addWalker 33 = .ok (.dup, 1) := by decide +kernel
theorem dX5_addWalker_34 : decode cX5_addWalker 34 = .ok (.getfield 92, 3) := by decide +kernel
theorem dX5_addWalker_37 : decode cX5_addWalker 37 = .ok (.iconst 1, 1) := by decide +kernel
theorem dX5_addWalker_38 : decode cX5_addWalker 38 = .ok (.iadd, 1) := by decide +kernel
theorem dX5_addWalker_39 : decode cX5_addWalker 39 = .ok (.putfield 92, 3) := by decide +kernel
theorem dX5_addWalker_42 : decode cX5_addWalker 42 = .ok (.aload_n 0, 1) := by decide +kernel
theorem dX5_addWalker_43 : decode cX5_addWalker 43 = .ok (.getfield 92, 3) := by decide +kernel
theorem dX5_addWalker_46 : decode cX5_addWalker 46 = .ok (.iconst 1, 1) := by decide +kernel
theorem dX5_addWalker_47 : decode cX5_addWalker 47 = .ok (.isub, 1) := by decide +kernel
theorem dX5_addWalker_48 : decode cX5_addWalker 48 = .ok (.ireturn, 1) := by decide +kernel
set_option maxRecDepth 20000 in
theorem ggX5_position_X5_isWalker : GoodIn wsX5_position wsX5_isWalker := goodIn_r _ [6, 7, 8, 9, 5, 10, 11, 12, 13, 14, 15, 16, 17, 18, 19, 20, 21, 22, 23, 24, 25, 26, 27, 28, 29, 30, 31, 32, 33] rfl (by decide +kernel)
set_option maxRecDepth 20000 in
theorem gX5_position_X5_isWalker : GoodIn wsX5_position (wsV RX5 106 RX5 yX5_isWalker wsX5_isWalker) := goodIn_app (goodIn_of _ (by decide +kernel)) ggX5_position_X5_isWalker
theorem dX5_position_0 : decode cX5_position 0 = .ok (.aload_n 0, 1) := by decide +kernel
theorem dX5_position_1 : decode cX5_position 1 = .ok (.iload_n 1, 1) := by decide +kernel
theorem dX5_position_2 : decode cX5_position 2 = .ok (.invokevirtual 106, 3) := by decide +kernel
theorem dX5_position_5 : decode cX5_position 5 = .ok (.ifCond .eq 12, 3) := by decide +kernel
theorem dX5_position_8 : decode cX5_position 8 = .ok (.aload_n 0, 1) := by decide +kernel
theorem dX5_position_9 : decode cX5_position 9 = .ok (.getfield 22, 3) := by decide +kernel
theorem dX5_position_12 : decode cX5_position 12 = .ok (.iload_n 1, 1) := by decide +kernel
theorem dX5_position_13 : decode cX5_position 13 = .ok (.iaload, 1) := by decide +kernel
theorem dX5_position_14 : decode cX5_position 14 = .ok (.goto 5, 3) := by decide +kernel
theorem dX5_position_17 : decode cX5_position 17 = .ok (.bipush (-5), 2) := by decide +kernel
theorem dX5_position_19 : decode cX5_position 19 = .ok (.ireturn, 1) := by decide +kernel
theorem dX5_go_0 : decode cX5_go 0 = .ok (.aload_n 0, 1) := by decide +kernel
theorem dX5_go_1 : decode cX5_go 1 = .ok (.getfield 13, 3) := by decide +kernel
theorem dX5_go_4 : decode cX5_go 4 = .ok (.bipush 8, 2) := by decide +kernel
theorem dX5_go_6 : decode cX5_go 6 = .ok (.iload_n 1, 1) := by decide +kernel
theorem dX5_go_7 : decode cX5_go 7 = .ok (.imul, 1) := by decide +kernel
theorem dX5_go_8 : decode cX5_go 8 = .ok (.aload_n 2, 1) := by decide +kernel
theorem dX5_go_9 : decode cX5_go 9 = .ok (.iload_n 1, 1) := by decide +kernel
theorem dX5_go_10 : decode cX5_go 10 = .ok (.iaload, 1) := by decide +kernel
theorem dX5_go_11 : decode cX5_go 11 = .ok (.iadd, 1) := by decide +kernel
theorem dX5_go_12 : decode cX5_go 12 = .ok (.iaload, 1) := by decide +kernel
theorem dX5_go_13 : decode cX5_go 13 = .ok (.istore_n 3, 1) := by decide +kernel
theorem dX5_go_14 : decode cX5_go 14 = .ok (.aload_n 2, 1) := by decide +kernel
theorem dX5_go_15 : decode cX5_go 15 = .ok (.iload_n 1, 1) := by decide +kernel
theorem dX5_go_16 : decode cX5_go 16 = .ok (.aload_n 2, 1) := by decide +kernel
theorem dX5_go_17 : decode cX5_go 17 = .ok (.iload_n 1, 1) := by decide +kernel
theorem dX5_go_18 : decode cX5_go 18 = .ok (.iaload, 1) := by decide +kernel
theorem dX5_go_19 : decode cX5_go 19 = .ok (.iconst 1, 1) := by decide +kernel
theorem dX5_go_20 : decode cX5_go 20 = .ok (.iadd, 1) := by decide +kernel
theorem dX5_go_21 : decode cX5_go 21 = .ok (.aload_n 0, 1) := by decide +kernel
theorem dX5_go_22 : decode cX5_go 22 = .ok (.getfield 16, 3) := by decide +kernel
theorem dX5_go_25 : decode cX5_go 25 = .ok (.iload_n 1, 1) := by decide +kernel
theorem dX5_go_26 : decode cX5_go 26 = .ok (.iaload, 1) := by decide +kernel
theorem dX5_go_27 : decode cX5_go 27 = .ok (.irem, 1) := by decide +kernel
theorem dX5_go_28 : decode cX5_go 28 = .ok (.iastore, 1) := by decide +kernel
theorem dX5_go_29 : decode cX5_go 29 = .ok (.iload_n 3, 1) := by decide +kernel
theorem dX5_go_30 : decode cX5_go 30 = .ok (.ireturn, 1) := by decide +kernel
set_option maxRecDepth 20000 in
theorem ggX5_stepOnce_X5_go : GoodIn wsX5_stepOnce wsX5_go := goodIn_r _ [9, 10, 11, 12, 13, 14, 15, 16, 17, 18, 19, 20, 21, 22, 23, 24, 25, 26, 27, 28, 29, 30, 31, 32, 33, 34] rfl (by decide +kernel)
set_option maxRecDepth 20000 in
theorem gX5_stepOnce_X5_go : GoodIn wsX5_stepOnce (wsV RX5 109 RX5 yX5_go wsX5_go) := goodIn_app (goodIn_of _ (by decide +kernel)) ggX5_stepOnce_X5_go
theorem dX5_stepOnce_0 : decode cX5_stepOnce 0 = .ok (.aload_n 0, 1) := by decide +kernel
theorem dX5_stepOnce_1 : decode cX5_stepOnce 1 = .ok (.getfield 22, 3) := by decide +kernel
theorem dX5_stepOnce_4 : decode cX5_stepOnce 4 = .ok (.iload_n 1, 1) := by decide +kernel
theorem dX5_stepOnce_5 : decode cX5_stepOnce 5 = .ok (.iaload, 1) := by decide +kernel
theorem dX5_stepOnce_6 : decode cX5_stepOnce 6 = .ok (.istore_n 2, 1) := by decide +kernel
theorem dX5_stepOnce_7 : decode cX5_stepOnce 7 = .ok (.aload_n 0, 1) := by decide +kernel
theorem dX5_stepOnce_8 : decode cX5_stepOnce 8 = .ok (.getfield 28, 3) := by decide +kernel
theorem dX5_stepOnce_11 : decode cX5_stepOnce 11 = .ok (.bipush 8, 2) := by decide +kernel
theorem dX5_stepOnce_13 : decode cX5_stepOnce 13 = .ok (.iload_n 2, 1) := by decide +kernel
theorem dX5_stepOnce_14 : decode cX5_stepOnce 14 = .ok (.imul, 1) := by decide +kernel
theorem dX5_stepOnce_15 : decode cX5_stepOnce 15 = .ok (.aload_n 0, 1) := by decide +kernel
theorem dX5_stepOnce_16 : decode cX5_stepOnce 16 = .ok (.getfield 19, 3) := by decide +kernel
theorem dX5_stepOnce_19 : decode cX5_stepOnce 19 = .ok (.iload_n 2, 1) := by decide +kernel
theorem dX5_stepOnce_20 : decode cX5_stepOnce 20 = .ok (.iaload, 1) := by decide +kernel
theorem dX5_stepOnce_21 : decode cX5_stepOnce 21 = .ok (.iadd, 1) := by decide +kernel
theorem dX5_stepOnce_22 : decode cX5_stepOnce 22 = .ok (.dup2, 1) := by decide +kernel
theorem dX5_stepOnce_23 : decode cX5_stepOnce 23 = .ok (.iaload, 1) := by decide +kernel
theorem dX5_stepOnce_24 : decode cX5_stepOnce 24 = .ok (.iconst 1, 1) := by decide +kernel
theorem dX5_stepOnce_25 : decode cX5_stepOnce 25 = .ok (.iadd, 1) := by decide +kernel
theorem dX5_stepOnce_26 : decode cX5_stepOnce 26 = .ok (.iastore, 1) := by decide +kernel
theorem dX5_stepOnce_27 : decode cX5_stepOnce 27 = .ok (.aload_n 0, 1) := by decide +kernel
theorem dX5_stepOnce_28 : decode cX5_stepOnce 28 = .ok (.getfield 22, 3) := by decide +kernel
theorem dX5_stepOnce_31 : decode cX5_stepOnce 31 = .ok (.iload_n 1, 1) := by decide +kernel
theorem dX5_stepOnce_32 : decode cX5_stepOnce 32 = .ok (.aload_n 0, 1) := by decide +kernel
theorem dX5_stepOnce_33 : decode cX5_stepOnce 33 = .ok (.iload_n 2, 1) := by decide +kernel
theorem dX5_stepOnce_34 : decode cX5_stepOnce 34 = .ok (.aload_n 0, 1) := by decide +kernel
theorem dX5_stepOnce_35 : decode cX5_stepOnce 35 = .ok (.getfield 19, 3) := by decide +kernel
theorem dX5_stepOnce_38 : decode cX5_stepOnce 38 = .ok (.invokevirtual 109, 3) := by decide +kernel
theorem dX5_stepOnce_41 : decode cX5_stepOnce 41 = .ok (.iastore, 1) := by decide +kernel
theorem dX5_stepOnce_42 : decode cX5_stepOnce 42 = .ok (.aload_n 0, 1) := by decide +kernel
theorem dX5_stepOnce_43 : decode cX5_stepOnce 43 = .ok (.getfield 25, 3) := by decide +kernel
theorem dX5_stepOnce_46 : decode cX5_stepOnce 46 = .ok (.aload_n 0, 1) := by decide +kernel
theorem dX5_stepOnce_47 : decode cX5_stepOnce 47 = .ok (.getfield 22, 3) := by decide +kernel
theorem dX5_stepOnce_50 : decode cX5_stepOnce 50 = .ok (.iload_n 1, 1) := by decide +kernel
theorem dX5_stepOnce_51 : decode cX5_stepOnce 51 = .ok (.iaload, 1) := by decide +kernel
theorem dX5_stepOnce_52 : decode cX5_stepOnce 52 = .ok (.dup2, 1) := by decide +kernel
theorem dX5_stepOnce_53 : decode cX5_stepOnce 53 = .ok (.iaload, 1) := by decide +kernel
theorem dX5_stepOnce_54 : decode cX5_stepOnce 54 = .ok (.iconst 1, 1) := by decide +kernel
theorem dX5_stepOnce_55 : decode cX5_stepOnce 55 = .ok (.iadd, 1) := by decide +kernel
theorem dX5_stepOnce_56 : decode cX5_stepOnce 56 = .ok (.iastore, 1) := by decide +kernel
theorem dX5_stepOnce_57 : decode cX5_stepOnce 57 = .ok (.return_, 1) := by decide +kernel
set_option maxRecDepth 20000 in
theorem ggX5_step_X5_isWalker : GoodIn wsX5_step wsX5_isWalker := goodIn_r _ [6, 7, 8, 9, 5, 10, 24, 25, 26, 27, 28, 29, 30, 31, 32, 33, 34, 35, 36, 37, 38, 39, 40, 41, 42, 43, 44, 45, 46] rfl (by decide +kernel)
set_option maxRecDepth 20000 in
theorem gX5_step_X5_isWalker : GoodIn wsX5_step (wsV RX5 106 RX5 yX5_isWalker wsX5_isWalker) := goodIn_app (goodIn_of _ (by decide +kernel)) ggX5_step_X5_isWalker
set_option maxRecDepth 20000 in
theorem ggX5_step_X5_within : GoodIn wsX5_step wsX5_within := goodIn_r _ [10] rfl (by decide +kernel)
set_option maxRecDepth 20000 in
theorem gX5_step_X5_within : GoodIn wsX5_step (va_wsS RX5 56 yX5_within wsX5_within) := goodIn_app (goodIn_of _ (by decide +kernel)) ggX5_step_X5_within
set_option maxRecDepth 20000 in
theorem ggX5_step_X5_stepOnce : GoodIn wsX5_step wsX5_stepOnce := goodIn_r _ [14, 1, 15, 16, 17, 18, 19, 20, 5, 21, 22, 23, 24, 25, 26, 27, 28, 29, 30, 31, 32, 33, 34, 35, 36, 37, 38, 39, 40, 41, 42, 43, 44, 45, 46] rfl (by decide +kernel)
set_option maxRecDepth 20000 in
theorem gX5_step_X5_stepOnce : GoodIn wsX5_step (wsV RX5 113 RX5 yX5_stepOnce wsX5_stepOnce) := goodIn_app (goodIn_of _ (by decide +kernel)) ggX5_step_X5_stepOnce
theorem dX5_step_0 : decode cX5_step 0 = .ok (.aload_n 0, 1) := by decide +kernel
theorem dX5_step_1 : decode cX5_step 1 = .ok (.iload_n 1, 1) := by decide +kernel
theorem dX5_step_2 : decode cX5_step 2 = .ok (.invokevirtual 106, 3) := by decide +kernel
theorem dX5_step_5 : decode cX5_step 5 = .ok (.ifCond .ne 6, 3) := by decide +kernel
theorem dX5_step_8 : decode cX5_step 8 = .ok (.bipush (-5), 2) := by decide +kernel
theorem dX5_step_10 : decode cX5_step 10 = .ok (.ireturn, 1) := by decide +kernel
theorem dX5_step_11 : decode cX5_step 11 = .ok (.iload_n 2, 1) := by decide +kernel
theorem dX5_step_12 : decode cX5_step 12 = .ok (.iconst 1, 1) := by decide +kernel
theorem dX5_step_13 : decode cX5_step 13 = .ok (.sipush 1000, 3) := by decide +kernel
theorem dX5_step_16 : decode cX5_step 16 = .ok (.invokestatic 56, 3) := by decide +kernel
theorem dX5_step_19 : decode cX5_step 19 = .ok (.ifCond .ne 6, 3) := by decide +kernel
theorem dX5_step_22 : decode cX5_step 22 = .ok (.bipush (-6), 2) := by decide +kernel
theorem dX5_step_24 : decode cX5_step 24 = .ok (.ireturn, 1) := by decide +kernel
theorem dX5_step_25 : decode cX5_step 25 = .ok (.iconst 0, 1) := by decide +kernel
theorem dX5_step_26 : decode cX5_step 26 = .ok (.istore_n 3, 1) := by decide +kernel
theorem dX5_step_27 : decode cX5_step 27 = .ok (.iload_n 3, 1) := by decide +kernel
theorem dX5_step_28 : decode cX5_step 28 = .ok (.iload_n 2, 1) := by decide +kernel
theorem dX5_step_29 : decode cX5_step 29 = .ok (.if_icmp .ge 14, 3) := by decide +kernel
theorem dX5_step_32 : decode cX5_step 32 = .ok (.aload_n 0, 1) := by decide +kernel
theorem dX5_step_33 : decode cX5_step 33 = .ok (.iload_n 1, 1) := by decide +kernel
theorem dX5_step_34 : decode cX5_step 34 = .ok (.invokevirtual 113, 3) := by decide +kernel
theorem dX5_step_37 : decode cX5_step 37 = .ok (.iinc 3 1, 3) := by decide +kernel
theorem dX5_step_40 : decode cX5_step 40 = .ok (.goto (-13), 3) := by decide +kernel
theorem dX5_step_43 : decode cX5_step 43 = .ok (.aload_n 0, 1) := by decide +kernel
theorem dX5_step_44 : decode cX5_step 44 = .ok (.getfield 22, 3) := by decide +kernel
theorem dX5_step_47 : decode cX5_step 47 = .ok (.iload_n 1, 1) := by decide +kernel
theorem dX5_step_48 : decode cX5_step 48 = .ok (.iaload, 1) := by decide +kernel
theorem dX5_step_49 : decode cX5_step 49 = .ok (.ireturn, 1) := by decide +kernel
set_option maxRecDepth 20000 in
theorem ggX5_pass_X5_stepOnce : GoodIn wsX5_pass wsX5_stepOnce := goodIn_r _ [7, 2, 8, 9, 10, 11, 12, 13, 6, 14, 15, 16, 17, 18, 19, 20, 21, 22, 23, 24, 25, 26, 27, 28, 29, 30, 31, 32, 33, 34, 35, 36, 37, 38, 39] rfl (by decide +kernel)
set_option maxRecDepth 20000 in
theorem gX5_pass_X5_stepOnce : GoodIn wsX5_pass (wsV RX5 113 RX5 yX5_stepOnce wsX5_stepOnce) := goodIn_app (goodIn_of _ (by decide +kernel)) ggX5_pass_X5_stepOnce
theorem dX5_pass_0 : decode cX5_pass 0 = .ok (.iconst 0, 1) := by decide +kernel
theorem dX5_pass_1 : decode cX5_pass 1 = .ok (.istore_n 2, 1) := by decide +kernel
theorem dX5_pass_2 : decode cX5_pass 2 = .ok (.iconst 0, 1) := by decide +kernel
theorem dX5_pass_3 : decode cX5_pass 3 = .ok (.istore_n 3, 1) := by decide +kernel
theorem dX5_pass_4 : decode cX5_pass 4 = .ok (.iload_n 3, 1) := by decide +kernel
theorem dX5_pass_5 : decode cX5_pass 5 = .ok (.aload_n 0, 1) := by decide +kernel
theorem dX5_pass_6 : decode cX5_pass 6 = .ok (.getfield 92, 3) := by decide +kernel
theorem dX5_pass_9 : decode cX5_pass 9 = .ok (.if_icmp .ge 27, 3) := by decide +kernel
theorem dX5_pass_12 : decode cX5_pass 12 = .ok (.aload_n 0, 1) := by decide +kernel
theorem dX5_pass_13 : decode cX5_pass 13 = .ok (.getfield 22, 3) := by decide +kernel
theorem dX5_pass_16 : decode cX5_pass 16 = .ok (.iload_n 3, 1) := by decide +kernel
theorem dX5_pass_17 : decode cX5_pass 17 = .ok (.iaload, 1) := by decide +kernel
theorem dX5_pass_18 : decode cX5_pass 18 = .ok (.iload_n 1, 1) := by decide +kernel
theorem dX5_pass_19 : decode cX5_pass 19 = .ok (.if_icmp .eq 11, 3) := by decide +kernel
theorem dX5_pass_22 : decode cX5_pass 22 = .ok (.aload_n 0, 1) := by decide +kernel
theorem dX5_pass_23 : decode cX5_pass 23 = .ok (.iload_n 3, 1) := by decide +kernel
theorem dX5_pass_24 : decode cX5_pass 24 = .ok (.invokevirtual 113, 3) := by decide +kernel
theorem dX5_pass_27 : decode cX5_pass 27 = .ok (.iinc 2 1, 3) := by decide +kernel
theorem dX5_pass_30 : decode cX5_pass 30 = .ok (.iinc 3 1, 3) := by decide +kernel
theorem dX5_pass_33 : decode cX5_pass 33 = .ok (.goto (-29), 3) := by decide +kernel
theorem dX5_pass_36 : decode cX5_pass 36 = .ok (.iload_n 2, 1) := by decide +kernel
theorem dX5_pass_37 : decode cX5_pass 37 = .ok (.ireturn, 1) := by decide +kernel
set_option maxRecDepth 20000 in
theorem ggX5_absorb_X5_isNode : GoodIn wsX5_absorb wsX5_isNode := goodIn_r _ [7, 8, 9, 10, 6, 11, 29, 30, 31, 32, 33, 34, 35, 36, 37, 38, 39, 40, 41, 42, 43, 44, 45, 46, 47, 48, 49, 50, 51] rfl (by decide +kernel)
set_option maxRecDepth 20000 in
theorem gX5_absorb_X5_isNode : GoodIn wsX5_absorb (wsV RX5 99 RX5 yX5_isNode wsX5_isNode) := goodIn_app (goodIn_of _ (by decide +kernel)) ggX5_absorb_X5_isNode
set_option maxRecDepth 20000 in
theorem ggX5_absorb_X5_stepOnce : GoodIn wsX5_absorb wsX5_stepOnce := goodIn_r _ [15, 2, 16, 17, 18, 19, 20, 21, 6, 22, 23, 24, 29, 30, 31, 32, 33, 34, 35, 36, 37, 38, 39, 40, 41, 42, 43, 44, 45, 46, 47, 48, 49, 50, 51] rfl (by decide +kernel)
set_option maxRecDepth 20000 in
theorem gX5_absorb_X5_stepOnce : GoodIn wsX5_absorb (wsV RX5 113 RX5 yX5_stepOnce wsX5_stepOnce) := goodIn_app (goodIn_of _ (by decide +kernel)) ggX5_absorb_X5_stepOnce
set_option maxRecDepth 20000 in
theorem ggX5_absorb_X5_pass : GoodIn wsX5_absorb wsX5_pass := goodIn_r _ [28, 1, 2, 12, 13, 14, 6, 15, 16, 17, 18, 19, 20, 21, 22, 23, 24, 29, 30, 31, 32, 33, 34, 35, 36, 37, 38, 39, 40, 41, 42, 43, 44, 45, 46, 47, 48, 49, 50, 51] rfl (by decide +kernel)
set_option maxRecDepth 20000 in
theorem gX5_absorb_X5_pass : GoodIn wsX5_absorb (wsV RX5 117 RX5 yX5_pass wsX5_pass) := goodIn_app (goodIn_of _ (by decide +kernel)) ggX5_absorb_X5_pass
theorem dX5_absorb_0 : decode cX5_absorb 0 = .ok (.aload_n 0, 1) := by decide +kernel
theorem dX5_absorb_1 : decode cX5_absorb 1 = .ok (.iload_n 1, 1) := by decide +kernel
theorem dX5_absorb_2 : decode cX5_absorb 2 = .ok (.invokevirtual 99, 3) := by decide +kernel
theorem dX5_absorb_5 : decode cX5_absorb 5 = .ok (.ifCond .ne 6, 3) := by decide +kernel
theorem dX5_absorb_8 : decode cX5_absorb 8 = .ok (.bipush (-4), 2) := by decide +kernel
theorem dX5_absorb_10 : decode cX5_absorb 10 = .ok (.ireturn, 1) := by decide +kernel
theorem dX5_absorb_11 : decode cX5_absorb 11 = .ok (.iconst 0, 1) := by decide +kernel
theorem dX5_absorb_12 : decode cX5_absorb 12 = .ok (.istore_n 3, 1) := by decide +kernel
theorem dX5_absorb_13 : decode cX5_absorb 13 = .ok (.iconst 0, 1) := by decide +kernel
theorem dX5_absorb_14 : decode cX5_absorb 14 = .ok (.istore 4, 2) := by decide +kernel
theorem dX5_absorb_16 : decode cX5_absorb 16 = .ok (.iload 4, 2) := by decide +kernel
theorem dX5_absorb_18 : decode cX5_absorb 18 = .ok (.aload_n 0, 1) := by decide +kernel
theorem dX5_absorb_19 : decode cX5_absorb 19 = .ok (.getfield 92, 3) := by decide +kernel
theorem dX5_absorb_22 : decode cX5_absorb 22 = .ok (.if_icmp .ge 36, 3) := by decide +kernel
theorem dX5_absorb_25 : decode cX5_absorb 25 = .ok (.iload_n 2, 1) := by decide +kernel
theorem dX5_absorb_26 : decode cX5_absorb 26 = .ok (.ifCond .ne 32, 3) := by decide +kernel
theorem dX5_absorb_29 : decode cX5_absorb 29 = .ok (.aload_n 0, 1) := by decide +kernel
theorem dX5_absorb_30 : decode cX5_absorb 30 = .ok (.getfield 22, 3) := by decide +kernel
theorem dX5_absorb_33 : decode cX5_absorb 33 = .ok (.iload 4, 2) := by decide +kernel
theorem dX5_absorb_35 : decode cX5_absorb 35 = .ok (.iaload, 1) := by decide +kernel
theorem dX5_absorb_36 : decode cX5_absorb 36 = .ok (.iload_n 1, 1) := by decide +kernel
theorem dX5_absorb_37 : decode cX5_absorb 37 = .ok (.if_icmp .eq 15, 3) := by decide +kernel
theorem dX5_absorb_40 : decode cX5_absorb 40 = .ok (.aload_n 0, 1) := by decide +kernel
theorem dX5_absorb_41 : decode cX5_absorb 41 = .ok (.iload 4, 2) := by decide +kernel
theorem dX5_absorb_43 : decode cX5_absorb 43 = .ok (.invokevirtual 113, 3) := by decide +kernel
theorem dX5_absorb_46 : decode cX5_absorb 46 = .ok (.iinc 3 1, 3) := by decide +kernel
theorem dX5_absorb_49 : decode cX5_absorb 49 = .ok (.goto (-20), 3) := by decide +kernel
theorem dX5_absorb_52 : decode cX5_absorb 52 = .ok (.iinc 4 1, 3) := by decide +kernel
theorem dX5_absorb_55 : decode cX5_absorb 55 = .ok (.goto (-39), 3) := by decide +kernel
theorem dX5_absorb_58 : decode cX5_absorb 58 = .ok (.aload_n 0, 1) := by decide +kernel
theorem dX5_absorb_59 : decode cX5_absorb 59 = .ok (.iload_n 1, 1) := by decide +kernel
theorem dX5_absorb_60 : decode cX5_absorb 60 = .ok (.invokevirtual 117, 3) := by decide +kernel
theorem dX5_absorb_63 : decode cX5_absorb 63 = .ok (.istore 4, 2) := by decide +kernel
theorem dX5_absorb_65 : decode cX5_absorb 65 = .ok (.iload 4, 2) := by decide +kernel
theorem dX5_absorb_67 : decode cX5_absorb 67 = .ok (.ifCond .le 18, 3) := by decide +kernel
theorem dX5_absorb_70 : decode cX5_absorb 70 = .ok (.iload_n 3, 1) := by decide +kernel
theorem dX5_absorb_71 : decode cX5_absorb 71 = .ok (.iload 4, 2) := by decide +kernel
theorem dX5_absorb_73 : decode cX5_absorb 73 = .ok (.iadd, 1) := by decide +kernel
theorem dX5_absorb_74 : decode cX5_absorb 74 = .ok (.istore_n 3, 1) := by decide +kernel
theorem dX5_absorb_75 : decode cX5_absorb 75 = .ok (.aload_n 0, 1) := by decide +kernel
theorem dX5_absorb_76 : decode cX5_absorb 76 = .ok (.iload_n 1, 1) := by decide +kernel
theorem dX5_absorb_77 : decode cX5_absorb 77 = .ok (.invokevirtual 117, 3) := by decide +kernel
theorem dX5_absorb_80 : decode cX5_absorb 80 = .ok (.istore 4, 2) := by decide +kernel
theorem dX5_absorb_82 : decode cX5_absorb 82 = .ok (.goto (-17), 3) := by decide +kernel
theorem dX5_absorb_85 : decode cX5_absorb 85 = .ok (.iload_n 3, 1) := by decide +kernel
theorem dX5_absorb_86 : decode cX5_absorb 86 = .ok (.ireturn, 1) := by decide +kernel
set_option maxRecDepth 20000 in
theorem ggX5_arrivals_X5_isNode : GoodIn wsX5_arrivals wsX5_isNode := goodIn_r _ [6, 7, 8, 9, 5, 10, 11, 12, 13, 14, 15, 16, 17, 18, 19, 20, 21, 22, 23, 24, 25, 26, 27, 28, 29, 30, 31, 32, 33] rfl (by decide +kernel)
set_option maxRecDepth 20000 in
theorem gX5_arrivals_X5_isNode : GoodIn wsX5_arrivals (wsV RX5 99 RX5 yX5_isNode wsX5_isNode) := goodIn_app (goodIn_of _ (by decide +kernel)) ggX5_arrivals_X5_isNode
theorem dX5_arrivals_0 : decode cX5_arrivals 0 = .ok (.aload_n 0, 1) := by decide +kernel
theorem dX5_arrivals_1 : decode cX5_arrivals 1 = .ok (.iload_n 1, 1) := by decide +kernel
theorem dX5_arrivals_2 : decode cX5_arrivals 2 = .ok (.invokevirtual 99, 3) := by decide +kernel
theorem dX5_arrivals_5 : decode cX5_arrivals 5 = .ok (.ifCond .eq 12, 3) := by decide +kernel
theorem dX5_arrivals_8 : decode cX5_arrivals 8 = .ok (.aload_n 0, 1) := by decide +kernel
theorem dX5_arrivals_9 : decode cX5_arrivals 9 = .ok (.getfield 25, 3) := by decide +kernel
theorem dX5_arrivals_12 : decode cX5_arrivals 12 = .ok (.iload_n 1, 1) := by decide +kernel
theorem dX5_arrivals_13 : decode cX5_arrivals 13 = .ok (.iaload, 1) := by decide +kernel
theorem dX5_arrivals_14 : decode cX5_arrivals 14 = .ok (.goto 5, 3) := by decide +kernel
theorem dX5_arrivals_17 : decode cX5_arrivals 17 = .ok (.bipush (-4), 2) := by decide +kernel
theorem dX5_arrivals_19 : decode cX5_arrivals 19 = .ok (.ireturn, 1) := by decide +kernel
set_option maxRecDepth 20000 in
theorem ggX5_departures_X5_errorOf : GoodIn wsX5_departures wsX5_errorOf := goodIn_r _ [6, 7, 8, 9, 10, 5, 11, 12, 13, 14, 15, 16, 17, 18, 19, 20, 21, 22, 23, 24, 25, 26, 27, 28, 29, 30, 31, 32, 33, 34, 35, 36, 37, 38] rfl (by decide +kernel)
set_option maxRecDepth 20000 in
theorem gX5_departures_X5_errorOf : GoodIn wsX5_departures (wsV RX5 102 RX5 yX5_errorOf wsX5_errorOf) := goodIn_app (goodIn_of _ (by decide +kernel)) ggX5_departures_X5_errorOf
theorem dX5_departures_0 : decode cX5_departures 0 = .ok (.aload_n 0, 1) := by decide +kernel
theorem dX5_departures_1 : decode cX5_departures 1 = .ok (.iload_n 1, 1) := by decide +kernel
theorem dX5_departures_2 : decode cX5_departures 2 = .ok (.iload_n 2, 1) := by decide +kernel
theorem dX5_departures_3 : decode cX5_departures 3 = .ok (.invokevirtual 102, 3) := by decide +kernel
theorem dX5_departures_6 : decode cX5_departures 6 = .ok (.istore_n 3, 1) := by decide +kernel
theorem dX5_departures_7 : decode cX5_departures 7 = .ok (.iload_n 3, 1) := by decide +kernel
theorem dX5_departures_8 : decode cX5_departures 8 = .ok (.ifCond .ge 7, 3) := by decide +kernel
theorem dX5_departures_11 : decode cX5_departures 11 = .ok (.iload_n 3, 1) := by decide +kernel
theorem dX5_departures_12 : decode cX5_departures 12 = .ok (.goto 14, 3) := by decide +kernel
theorem dX5_departures_15 : decode cX5_departures 15 = .ok (.aload_n 0, 1) := by decide +kernel
theorem dX5_departures_16 : decode cX5_departures 16 = .ok (.getfield 28, 3) := by decide +kernel
theorem dX5_departures_19 : decode cX5_departures 19 = .ok (.bipush 8, 2) := by decide +kernel
theorem dX5_departures_21 : decode cX5_departures 21 = .ok (.iload_n 1, 1) := by decide +kernel
theorem dX5_departures_22 : decode cX5_departures 22 = .ok (.imul, 1) := by decide +kernel
theorem dX5_departures_23 : decode cX5_departures 23 = .ok (.iload_n 2, 1) := by decide +kernel
theorem dX5_departures_24 : decode cX5_departures 24 = .ok (.iadd, 1) := by decide +kernel
theorem dX5_departures_25 : decode cX5_departures 25 = .ok (.iaload, 1) := by decide +kernel
theorem dX5_departures_26 : decode cX5_departures 26 = .ok (.ireturn, 1) := by decide +kernel
theorem dX5_copyRotors_0 : decode cX5_copyRotors 0 = .ok (.iconst 0, 1) := by decide +kernel
theorem dX5_copyRotors_1 : decode cX5_copyRotors 1 = .ok (.istore_n 3, 1) := by decide +kernel
theorem dX5_copyRotors_2 : decode cX5_copyRotors 2 = .ok (.iload_n 3, 1) := by decide +kernel
theorem dX5_copyRotors_3 : decode cX5_copyRotors 3 = .ok (.bipush 8, 2) := by decide +kernel
theorem dX5_copyRotors_5 : decode cX5_copyRotors 5 = .ok (.if_icmp .ge 15, 3) := by decide +kernel
theorem dX5_copyRotors_8 : decode cX5_copyRotors 8 = .ok (.aload_n 2, 1) := by decide +kernel
theorem dX5_copyRotors_9 : decode cX5_copyRotors 9 = .ok (.iload_n 3, 1) := by decide +kernel
theorem dX5_copyRotors_10 : decode cX5_copyRotors 10 = .ok (.aload_n 1, 1) := by decide +kernel
theorem dX5_copyRotors_11 : decode cX5_copyRotors 11 = .ok (.iload_n 3, 1) := by decide +kernel
theorem dX5_copyRotors_12 : decode cX5_copyRotors 12 = .ok (.iaload, 1) := by decide +kernel
theorem dX5_copyRotors_13 : decode cX5_copyRotors 13 = .ok (.iastore, 1) := by decide +kernel
theorem dX5_copyRotors_14 : decode cX5_copyRotors 14 = .ok (.iinc 3 1, 3) := by decide +kernel
theorem dX5_copyRotors_17 : decode cX5_copyRotors 17 = .ok (.goto (-15), 3) := by decide +kernel
theorem dX5_copyRotors_20 : decode cX5_copyRotors 20 = .ok (.return_, 1) := by decide +kernel
theorem dX5_areEqual_0 : decode cX5_areEqual 0 = .ok (.iconst 1, 1) := by decide +kernel
theorem dX5_areEqual_1 : decode cX5_areEqual 1 = .ok (.istore_n 1, 1) := by decide +kernel
theorem dX5_areEqual_2 : decode cX5_areEqual 2 = .ok (.iconst 0, 1) := by decide +kernel
theorem dX5_areEqual_3 : decode cX5_areEqual 3 = .ok (.istore_n 2, 1) := by decide +kernel
theorem dX5_areEqual_4 : decode cX5_areEqual 4 = .ok (.iload_n 2, 1) := by decide +kernel
theorem dX5_areEqual_5 : decode cX5_areEqual 5 = .ok (.aload_n 0, 1) := by decide +kernel
theorem dX5_areEqual_6 : decode cX5_areEqual 6 = .ok (.getfield 82, 3) := by decide +kernel
theorem dX5_areEqual_9 : decode cX5_areEqual 9 = .ok (.if_icmp .ge 34, 3) := by decide +kernel
theorem dX5_areEqual_12 : decode cX5_areEqual 12 = .ok (.iload_n 1, 1) := by decide +kernel
theorem dX5_areEqual_13 : decode cX5_areEqual 13 = .ok (.ifCond .eq 22, 3) := by decide +kernel
theorem dX5_areEqual_16 : decode cX5_areEqual 16 = .ok (.aload_n 0, 1) := by decide +kernel
theorem dX5_areEqual_17 : decode cX5_areEqual 17 = .ok (.getfield 31, 3) := by decide +kernel
theorem dX5_areEqual_20 : decode cX5_areEqual 20 = .ok (.iload_n 2, 1) := by decide +kernel
theorem dX5_areEqual_21 : decode cX5_areEqual 21 = .ok (.iaload, 1) := by decide +kernel
theorem dX5_areEqual_22 : decode cX5_areEqual 22 = .ok (.aload_n 0, 1) := by decide +kernel
theorem dX5_areEqual_23 : decode cX5_areEqual 23 = .ok (.getfield 34, 3) := by decide +kernel
theorem dX5_areEqual_26 : decode cX5_areEqual 26 = .ok (.iload_n 2, 1) := by decide +kernel
theorem dX5_areEqual_27 : decode cX5_areEqual 27 = .ok (.iaload, 1) := by decide +kernel
theorem dX5_areEqual_28 : decode cX5_areEqual 28 = .ok (.if_icmp .ne 7, 3) := by decide +kernel
theorem dX5_areEqual_31 : decode cX5_areEqual 31 = .ok (.iconst 1, 1) := by decide +kernel
theorem dX5_areEqual_32 : decode cX5_areEqual 32 = .ok (.goto 4, 3) := by decide +kernel
theorem dX5_areEqual_35 : decode cX5_areEqual 35 = .ok (.iconst 0, 1) := by decide +kernel
theorem dX5_areEqual_36 : decode cX5_areEqual 36 = .ok (.istore_n 1, 1) := by decide +kernel
theorem dX5_areEqual_37 : decode cX5_areEqual 37 = .ok (.iinc 2 1, 3) := by decide +kernel
theorem dX5_areEqual_40 : decode cX5_areEqual 40 = .ok (.goto (-36), 3) := by decide +kernel
theorem dX5_areEqual_43 : decode cX5_areEqual 43 = .ok (.iload_n 1, 1) := by decide +kernel
theorem dX5_areEqual_44 : decode cX5_areEqual 44 = .ok (.ireturn, 1) := by decide +kernel
set_option maxRecDepth 20000 in
theorem ggX5_cycleOf_X5_copyRotors : GoodIn wsX5_cycleOf wsX5_copyRotors := goodIn_r _ [10] rfl (by decide +kernel)
set_option maxRecDepth 20000 in
theorem gX5_cycleOf_X5_copyRotors : GoodIn wsX5_cycleOf (wsV RX5 121 RX5 yX5_copyRotors wsX5_copyRotors) := goodIn_app (goodIn_of _ (by decide +kernel)) ggX5_cycleOf_X5_copyRotors
set_option maxRecDepth 20000 in
theorem ggX5_cycleOf_X5_go : GoodIn wsX5_cycleOf wsX5_go := goodIn_r _ [14, 15, 16, 22, 23, 24, 25, 26, 27, 28, 29, 30, 31, 32, 33, 34, 35, 36, 37, 38, 39, 40, 41, 42, 43, 44] rfl (by decide +kernel)
set_option maxRecDepth 20000 in
theorem gX5_cycleOf_X5_go : GoodIn wsX5_cycleOf (wsV RX5 109 RX5 yX5_go wsX5_go) := goodIn_app (goodIn_of _ (by decide +kernel)) ggX5_cycleOf_X5_go
set_option maxRecDepth 20000 in
theorem ggX5_cycleOf_X5_areEqual : GoodIn wsX5_cycleOf wsX5_areEqual := goodIn_r _ [20, 21, 2, 3, 22, 23, 24, 25, 26, 27, 28, 29, 30, 31, 32, 33, 34, 35, 36, 37, 38, 39, 40, 41, 42, 43, 44] rfl (by decide +kernel)
set_option maxRecDepth 20000 in
theorem gX5_cycleOf_X5_areEqual : GoodIn wsX5_cycleOf (wsV RX5 125 RX5 yX5_areEqual wsX5_areEqual) := goodIn_app (goodIn_of _ (by decide +kernel)) ggX5_cycleOf_X5_areEqual
theorem dX5_cycleOf_0 : decode cX5_cycleOf 0 = .ok (.aload_n 0, 1) := by decide +kernel
theorem dX5_cycleOf_1 : decode cX5_cycleOf 1 = .ok (.aload_n 0, 1) := by decide +kernel
theorem dX5_cycleOf_2 : decode cX5_cycleOf 2 = .ok (.getfield 19, 3) := by decide +kernel
theorem dX5_cycleOf_5 : decode cX5_cycleOf 5 = .ok (.aload_n 0, 1) := by decide +kernel
theorem dX5_cycleOf_6 : decode cX5_cycleOf 6 = .ok (.getfield 31, 3) := by decide +kernel
theorem dX5_cycleOf_9 : decode cX5_cycleOf 9 = .ok (.invokevirtual 121, 3) := by decide +kernel
theorem dX5_cycleOf_12 : decode cX5_cycleOf 12 = .ok (.aload_n 0, 1) := by decide +kernel
theorem dX5_cycleOf_13 : decode cX5_cycleOf 13 = .ok (.aload_n 0, 1) := by decide +kernel
theorem dX5_cycleOf_14 : decode cX5_cycleOf 14 = .ok (.getfield 19, 3) := by decide +kernel
theorem dX5_cycleOf_17 : decode cX5_cycleOf 17 = .ok (.aload_n 0, 1) := by decide +kernel
theorem dX5_cycleOf_18 : decode cX5_cycleOf 18 = .ok (.getfield 34, 3) := by decide +kernel
theorem dX5_cycleOf_21 : decode cX5_cycleOf 21 = .ok (.invokevirtual 121, 3) := by decide +kernel
theorem dX5_cycleOf_24 : decode cX5_cycleOf 24 = .ok (.aload_n 0, 1) := by decide +kernel
theorem dX5_cycleOf_25 : decode cX5_cycleOf 25 = .ok (.getfield 22, 3) := by decide +kernel
theorem dX5_cycleOf_28 : decode cX5_cycleOf 28 = .ok (.iload_n 1, 1) := by decide +kernel
theorem dX5_cycleOf_29 : decode cX5_cycleOf 29 = .ok (.iaload, 1) := by decide +kernel
theorem dX5_cycleOf_30 : decode cX5_cycleOf 30 = .ok (.istore_n 2, 1) := by decide +kernel
theorem dX5_cycleOf_31 : decode cX5_cycleOf 31 = .ok (.iload_n 2, 1) := by decide +kernel
theorem dX5_cycleOf_32 : decode cX5_cycleOf 32 = .ok (.istore_n 3, 1) := by decide +kernel
theorem dX5_cycleOf_33 : decode cX5_cycleOf 33 = .ok (.iconst 0, 1) := by decide +kernel
theorem dX5_cycleOf_34 : decode cX5_cycleOf 34 = .ok (.istore 4, 2) := by decide +kernel
theorem dX5_cycleOf_36 : decode cX5_cycleOf 36 = .ok (.iload 4, 2) := by decide +kernel
theorem dX5_cycleOf_38 : decode cX5_cycleOf 38 = .ok (.iconst 2, 1) := by decide +kernel
theorem dX5_cycleOf_39 : decode cX5_cycleOf 39 = .ok (.aload_n 0, 1) := by decide +kernel
theorem dX5_cycleOf_40 : decode cX5_cycleOf 40 = .ok (.getfield 85, 3) := by decide +kernel
theorem dX5_cycleOf_43 : decode cX5_cycleOf 43 = .ok (.imul, 1) := by decide +kernel
theorem dX5_cycleOf_44 : decode cX5_cycleOf 44 = .ok (.if_icmp .ge 19, 3) := by decide +kernel
theorem dX5_cycleOf_47 : decode cX5_cycleOf 47 = .ok (.aload_n 0, 1) := by decide +kernel
theorem dX5_cycleOf_48 : decode cX5_cycleOf 48 = .ok (.iload_n 3, 1) := by decide +kernel
theorem dX5_cycleOf_49 : decode cX5_cycleOf 49 = .ok (.aload_n 0, 1) := by decide +kernel
theorem dX5_cycleOf_50 : decode cX5_cycleOf 50 = .ok (.getfield 34, 3) := by decide +kernel
theorem dX5_cycleOf_53 : decode cX5_cycleOf 53 = .ok (.invokevirtual 109, 3) := by decide +kernel
theorem dX5_cycleOf_56 : decode cX5_cycleOf 56 = .ok (.istore_n 3, 1) := by decide +kernel
theorem dX5_cycleOf_57 : decode cX5_cycleOf 57 = .ok (.iinc 4 1, 3) := by decide +kernel
theorem dX5_cycleOf_60 : decode cX5_cycleOf 60 = .ok (.goto (-24), 3) := by decide +kernel
theorem dX5_cycleOf_63 : decode cX5_cycleOf 63 = .ok (.iconst 0, 1) := by decide +kernel
theorem dX5_cycleOf_64 : decode cX5_cycleOf 64 = .ok (.istore 4, 2) := by decide +kernel
theorem dX5_cycleOf_66 : decode cX5_cycleOf 66 = .ok (.iload_n 2, 1) := by decide +kernel
theorem dX5_cycleOf_67 : decode cX5_cycleOf 67 = .ok (.iload_n 3, 1) := by decide +kernel
theorem dX5_cycleOf_68 : decode cX5_cycleOf 68 = .ok (.if_icmp .ne 10, 3) := by decide +kernel
theorem dX5_cycleOf_71 : decode cX5_cycleOf 71 = .ok (.aload_n 0, 1) := by decide +kernel
theorem dX5_cycleOf_72 : decode cX5_cycleOf 72 = .ok (.invokevirtual 125, 3) := by decide +kernel
theorem dX5_cycleOf_75 : decode cX5_cycleOf 75 = .ok (.ifCond .ne 29, 3) := by decide +kernel
theorem dX5_cycleOf_78 : decode cX5_cycleOf 78 = .ok (.aload_n 0, 1) := by decide +kernel
theorem dX5_cycleOf_79 : decode cX5_cycleOf 79 = .ok (.iload_n 2, 1) := by decide +kernel
theorem dX5_cycleOf_80 : decode cX5_cycleOf 80 = .ok (.aload_n 0, 1) := by decide +kernel
theorem dX5_cycleOf_81 : decode cX5_cycleOf 81 = .ok (.getfield 31, 3) := by decide +kernel
theorem dX5_cycleOf_84 : decode cX5_cycleOf 84 = .ok (.invokevirtual 109, 3) := by decide +kernel
theorem dX5_cycleOf_87 : decode cX5_cycleOf 87 = .ok (.istore_n 2, 1) := by decide +kernel
theorem dX5_cycleOf_88 : decode cX5_cycleOf 88 = .ok (.aload_n 0, 1) := by decide +kernel
theorem dX5_cycleOf_89 : decode cX5_cycleOf 89 = .ok (.iload_n 3, 1) := by decide +kernel
theorem dX5_cycleOf_90 : decode cX5_cycleOf 90 = .ok (.aload_n 0, 1) := by decide +kernel
theorem dX5_cycleOf_91 : decode cX5_cycleOf 91 = .ok (.getfield 34, 3) := by decide +kernel
theorem dX5_cycleOf_94 : decode cX5_cycleOf 94 = .ok (.invokevirtual 109, 3) := by decide +kernel
theorem dX5_cycleOf_97 : decode cX5_cycleOf 97 = .ok (.istore_n 3, 1) := by decide +kernel
theorem dX5_cycleOf_98 : decode cX5_cycleOf 98 = .ok (.iinc 4 1, 3) := by decide +kernel
theorem dX5_cycleOf_101 : decode cX5_cycleOf 101 = .ok (.goto (-35), 3) := by decide +kernel
theorem dX5_cycleOf_104 : decode cX5_cycleOf 104 = .ok (.iload 4, 2) := by decide +kernel
theorem dX5_cycleOf_106 : decode cX5_cycleOf 106 = .ok (.ireturn, 1) := by decide +kernel
set_option maxRecDepth 20000 in
theorem ggX5_stepsToCycle_X5_isWalker : GoodIn wsX5_stepsToCycle wsX5_isWalker := goodIn_r _ [5, 6, 7, 8, 4, 9, 34, 35, 36, 37, 38, 39, 40, 41, 42, 43, 44, 45, 46, 47, 48, 49, 50, 51, 52, 53, 54, 55, 56] rfl (by decide +kernel)
set_option maxRecDepth 20000 in
theorem gX5_stepsToCycle_X5_isWalker : GoodIn wsX5_stepsToCycle (wsV RX5 106 RX5 yX5_isWalker wsX5_isWalker) := goodIn_app (goodIn_of _ (by decide +kernel)) ggX5_stepsToCycle_X5_isWalker
set_option maxRecDepth 20000 in
theorem ggX5_stepsToCycle_X5_cycleOf : GoodIn wsX5_stepsToCycle wsX5_cycleOf := goodIn_r _ [13, 14, 15, 16, 17, 18, 19, 20, 21, 4, 22, 23, 24, 25, 26, 27, 28, 29, 30, 31, 32, 33, 34, 35, 36, 37, 38, 39, 40, 41, 42, 43, 44, 45, 46, 47, 48, 49, 50, 51, 52, 53, 54, 55, 56] rfl (by decide +kernel)
set_option maxRecDepth 20000 in
theorem gX5_stepsToCycle_X5_cycleOf : GoodIn wsX5_stepsToCycle (wsV RX5 128 RX5 yX5_cycleOf wsX5_cycleOf) := goodIn_app (goodIn_of _ (by decide +kernel)) ggX5_stepsToCycle_X5_cycleOf
theorem dX5_stepsToCycle_0 : decode cX5_stepsToCycle 0 = .ok (.aload_n 0, 1) := by decide +kernel
theorem dX5_stepsToCycle_1 : decode cX5_stepsToCycle 1 = .ok (.iload_n 1, 1) := by decide +kernel
theorem dX5_stepsToCycle_2 : decode cX5_stepsToCycle 2 = .ok (.invokevirtual 106, 3) := by decide +kernel
theorem dX5_stepsToCycle_5 : decode cX5_stepsToCycle 5 = .ok (.ifCond .eq 11, 3) := by decide +kernel
theorem dX5_stepsToCycle_8 : decode cX5_stepsToCycle 8 = .ok (.aload_n 0, 1) := by decide +kernel
theorem dX5_stepsToCycle_9 : decode cX5_stepsToCycle 9 = .ok (.iload_n 1, 1) := by decide +kernel
theorem dX5_stepsToCycle_10 : decode cX5_stepsToCycle 10 = .ok (.invokevirtual 128, 3) := by decide +kernel
theorem dX5_stepsToCycle_13 : decode cX5_stepsToCycle 13 = .ok (.goto 5, 3) := by decide +kernel
theorem dX5_stepsToCycle_16 : decode cX5_stepsToCycle 16 = .ok (.bipush (-5), 2) := by decide +kernel
theorem dX5_stepsToCycle_18 : decode cX5_stepsToCycle 18 = .ok (.ireturn, 1) := by decide +kernel
set_option maxRecDepth 20000 in
theorem ggX5_coverFrom_X5_go : GoodIn wsX5_coverFrom wsX5_go := goodIn_r _ [7, 8, 9, 10, 11, 12, 13, 14, 15, 16, 17, 18, 19, 20, 21, 22, 23, 24, 25, 26, 27, 28, 29, 30, 31, 32] rfl (by decide +kernel)
set_option maxRecDepth 20000 in
theorem gX5_coverFrom_X5_go : GoodIn wsX5_coverFrom (wsV RX5 109 RX5 yX5_go wsX5_go) := goodIn_app (goodIn_of _ (by decide +kernel)) ggX5_coverFrom_X5_go
theorem dX5_coverFrom_0 : decode cX5_coverFrom 0 = .ok (.iload_n 1, 1) := by decide +kernel
theorem dX5_coverFrom_1 : decode cX5_coverFrom 1 = .ok (.istore_n 2, 1) := by decide +kernel
theorem dX5_coverFrom_2 : decode cX5_coverFrom 2 = .ok (.iconst 1, 1) := by decide +kernel
theorem dX5_coverFrom_3 : decode cX5_coverFrom 3 = .ok (.iload_n 2, 1) := by decide +kernel
theorem dX5_coverFrom_4 : decode cX5_coverFrom 4 = .ok (.ishl, 1) := by decide +kernel
theorem dX5_coverFrom_5 : decode cX5_coverFrom 5 = .ok (.istore_n 3, 1) := by decide +kernel
theorem dX5_coverFrom_6 : decode cX5_coverFrom 6 = .ok (.iconst 0, 1) := by decide +kernel
theorem dX5_coverFrom_7 : decode cX5_coverFrom 7 = .ok (.istore 4, 2) := by decide +kernel
theorem dX5_coverFrom_9 : decode cX5_coverFrom 9 = .ok (.iload_n 3, 1) := by decide +kernel
theorem dX5_coverFrom_10 : decode cX5_coverFrom 10 = .ok (.iconst 1, 1) := by decide +kernel
theorem dX5_coverFrom_11 : decode cX5_coverFrom 11 = .ok (.aload_n 0, 1) := by decide +kernel
theorem dX5_coverFrom_12 : decode cX5_coverFrom 12 = .ok (.getfield 82, 3) := by decide +kernel
theorem dX5_coverFrom_15 : decode cX5_coverFrom 15 = .ok (.ishl, 1) := by decide +kernel
theorem dX5_coverFrom_16 : decode cX5_coverFrom 16 = .ok (.iconst 1, 1) := by decide +kernel
theorem dX5_coverFrom_17 : decode cX5_coverFrom 17 = .ok (.isub, 1) := by decide +kernel
theorem dX5_coverFrom_18 : decode cX5_coverFrom 18 = .ok (.if_icmp .eq 25, 3) := by decide +kernel
theorem dX5_coverFrom_21 : decode cX5_coverFrom 21 = .ok (.aload_n 0, 1) := by decide +kernel
theorem dX5_coverFrom_22 : decode cX5_coverFrom 22 = .ok (.iload_n 2, 1) := by decide +kernel
theorem dX5_coverFrom_23 : decode cX5_coverFrom 23 = .ok (.aload_n 0, 1) := by decide +kernel
theorem dX5_coverFrom_24 : decode cX5_coverFrom 24 = .ok (.getfield 31, 3) := by decide +kernel
theorem dX5_coverFrom_27 : decode cX5_coverFrom 27 = .ok (.invokevirtual 109, 3) := by decide +kernel
theorem dX5_coverFrom_30 : decode cX5_coverFrom 30 = .ok (.istore_n 2, 1) := by decide +kernel
theorem dX5_coverFrom_31 : decode cX5_coverFrom 31 = .ok (.iload_n 3, 1) := by decide +kernel
theorem dX5_coverFrom_32 : decode cX5_coverFrom 32 = .ok (.iconst 1, 1) := by decide +kernel
theorem dX5_coverFrom_33 : decode cX5_coverFrom 33 = .ok (.iload_n 2, 1) := by decide +kernel
theorem dX5_coverFrom_34 : decode cX5_coverFrom 34 = .ok (.ishl, 1) := by decide +kernel
theorem dX5_coverFrom_35 : decode cX5_coverFrom 35 = .ok (.ior, 1) := by decide +kernel
theorem dX5_coverFrom_36 : decode cX5_coverFrom 36 = .ok (.istore_n 3, 1) := by decide +kernel
theorem dX5_coverFrom_37 : decode cX5_coverFrom 37 = .ok (.iinc 4 1, 3) := by decide +kernel
theorem dX5_coverFrom_40 : decode cX5_coverFrom 40 = .ok (.goto (-31), 3) := by decide +kernel
theorem dX5_coverFrom_43 : decode cX5_coverFrom 43 = .ok (.iload 4, 2) := by decide +kernel
theorem dX5_coverFrom_45 : decode cX5_coverFrom 45 = .ok (.ireturn, 1) := by decide +kernel
set_option maxRecDepth 20000 in
theorem ggX5_coverOf_X5_copyRotors : GoodIn wsX5_coverOf wsX5_copyRotors := goodIn_r _ [8] rfl (by decide +kernel)
set_option maxRecDepth 20000 in
theorem gX5_coverOf_X5_copyRotors : GoodIn wsX5_coverOf (wsV RX5 121 RX5 yX5_copyRotors wsX5_copyRotors) := goodIn_app (goodIn_of _ (by decide +kernel)) ggX5_coverOf_X5_copyRotors
set_option maxRecDepth 20000 in
theorem ggX5_coverOf_X5_coverFrom : GoodIn wsX5_coverOf wsX5_coverFrom := goodIn_r _ [12, 13, 2, 14, 15, 16, 7, 17, 18, 19, 20, 21, 22, 23, 24, 25, 26, 27, 28, 29, 30, 31, 32, 33, 34, 35, 36, 37, 38, 39, 40, 41, 42] rfl (by decide +kernel)
set_option maxRecDepth 20000 in
theorem gX5_coverOf_X5_coverFrom : GoodIn wsX5_coverOf (wsV RX5 131 RX5 yX5_coverFrom wsX5_coverFrom) := goodIn_app (goodIn_of _ (by decide +kernel)) ggX5_coverOf_X5_coverFrom
theorem dX5_coverOf_0 : decode cX5_coverOf 0 = .ok (.aload_n 0, 1) := by decide +kernel
theorem dX5_coverOf_1 : decode cX5_coverOf 1 = .ok (.aload_n 0, 1) := by decide +kernel
theorem dX5_coverOf_2 : decode cX5_coverOf 2 = .ok (.getfield 19, 3) := by decide +kernel
theorem dX5_coverOf_5 : decode cX5_coverOf 5 = .ok (.aload_n 0, 1) := by decide +kernel
theorem dX5_coverOf_6 : decode cX5_coverOf 6 = .ok (.getfield 31, 3) := by decide +kernel
theorem dX5_coverOf_9 : decode cX5_coverOf 9 = .ok (.invokevirtual 121, 3) := by decide +kernel
theorem dX5_coverOf_12 : decode cX5_coverOf 12 = .ok (.aload_n 0, 1) := by decide +kernel
theorem dX5_coverOf_13 : decode cX5_coverOf 13 = .ok (.aload_n 0, 1) := by decide +kernel
theorem dX5_coverOf_14 : decode cX5_coverOf 14 = .ok (.getfield 22, 3) := by decide +kernel
theorem dX5_coverOf_17 : decode cX5_coverOf 17 = .ok (.iload_n 1, 1) := by decide +kernel
theorem dX5_coverOf_18 : decode cX5_coverOf 18 = .ok (.iaload, 1) := by decide +kernel
theorem dX5_coverOf_19 : decode cX5_coverOf 19 = .ok (.invokevirtual 131, 3) := by decide +kernel
theorem dX5_coverOf_22 : decode cX5_coverOf 22 = .ok (.ireturn, 1) := by decide +kernel
set_option maxRecDepth 20000 in
theorem ggX5_coverTime_X5_isWalker : GoodIn wsX5_coverTime wsX5_isWalker := goodIn_r _ [5, 6, 7, 8, 4, 9, 32, 33, 34, 35, 36, 37, 38, 39, 40, 41, 42, 43, 44, 45, 46, 47, 48, 49, 50, 51, 52, 53, 54] rfl (by decide +kernel)
set_option maxRecDepth 20000 in
theorem gX5_coverTime_X5_isWalker : GoodIn wsX5_coverTime (wsV RX5 106 RX5 yX5_isWalker wsX5_isWalker) := goodIn_app (goodIn_of _ (by decide +kernel)) ggX5_coverTime_X5_isWalker
set_option maxRecDepth 20000 in
theorem ggX5_coverTime_X5_coverOf : GoodIn wsX5_coverTime wsX5_coverOf := goodIn_r _ [13, 14, 15, 16, 17, 18, 19, 4, 20, 21, 22, 23, 24, 25, 26, 27, 28, 29, 30, 31, 32, 33, 34, 35, 36, 37, 38, 39, 40, 41, 42, 43, 44, 45, 46, 47, 48, 49, 50, 51, 52, 53, 54] rfl (by decide +kernel)
set_option maxRecDepth 20000 in
theorem gX5_coverTime_X5_coverOf : GoodIn wsX5_coverTime (wsV RX5 134 RX5 yX5_coverOf wsX5_coverOf) := goodIn_app (goodIn_of _ (by decide +kernel)) ggX5_coverTime_X5_coverOf
theorem dX5_coverTime_0 : decode cX5_coverTime 0 = .ok (.aload_n 0, 1) := by decide +kernel
theorem dX5_coverTime_1 : decode cX5_coverTime 1 = .ok (.iload_n 1, 1) := by decide +kernel
theorem dX5_coverTime_2 : decode cX5_coverTime 2 = .ok (.invokevirtual 106, 3) := by decide +kernel
theorem dX5_coverTime_5 : decode cX5_coverTime 5 = .ok (.ifCond .eq 11, 3) := by decide +kernel
theorem dX5_coverTime_8 : decode cX5_coverTime 8 = .ok (.aload_n 0, 1) := by decide +kernel
theorem dX5_coverTime_9 : decode cX5_coverTime 9 = .ok (.iload_n 1, 1) := by decide +kernel
theorem dX5_coverTime_10 : decode cX5_coverTime 10 = .ok (.invokevirtual 134, 3) := by decide +kernel
theorem dX5_coverTime_13 : decode cX5_coverTime 13 = .ok (.goto 5, 3) := by decide +kernel
theorem dX5_coverTime_16 : decode cX5_coverTime 16 = .ok (.bipush (-5), 2) := by decide +kernel
theorem dX5_coverTime_18 : decode cX5_coverTime 18 = .ok (.ireturn, 1) := by decide +kernel
theorem dX5_assignments_0 : decode cX5_assignments 0 = .ok (.iconst 1, 1) := by decide +kernel
theorem dX5_assignments_1 : decode cX5_assignments 1 = .ok (.istore_n 1, 1) := by decide +kernel
theorem dX5_assignments_2 : decode cX5_assignments 2 = .ok (.iconst 0, 1) := by decide +kernel
theorem dX5_assignments_3 : decode cX5_assignments 3 = .ok (.istore_n 2, 1) := by decide +kernel
theorem dX5_assignments_4 : decode cX5_assignments 4 = .ok (.iload_n 2, 1) := by decide +kernel
theorem dX5_assignments_5 : decode cX5_assignments 5 = .ok (.aload_n 0, 1) := by decide +kernel
theorem dX5_assignments_6 : decode cX5_assignments 6 = .ok (.getfield 82, 3) := by decide +kernel
theorem dX5_assignments_9 : decode cX5_assignments 9 = .ok (.if_icmp .ge 31, 3) := by decide +kernel
theorem dX5_assignments_12 : decode cX5_assignments 12 = .ok (.iload_n 1, 1) := by decide +kernel
theorem dX5_assignments_13 : decode cX5_assignments 13 = .ok (.aload_n 0, 1) := by decide +kernel
theorem dX5_assignments_14 : decode cX5_assignments 14 = .ok (.getfield 16, 3) := by decide +kernel
theorem dX5_assignments_17 : decode cX5_assignments 17 = .ok (.iload_n 2, 1) := by decide +kernel
theorem dX5_assignments_18 : decode cX5_assignments 18 = .ok (.iaload, 1) := by decide +kernel
theorem dX5_assignments_19 : decode cX5_assignments 19 = .ok (.ifCond .ne 7, 3) := by decide +kernel
theorem dX5_assignments_22 : decode cX5_assignments 22 = .ok (.iconst 1, 1) := by decide +kernel
theorem dX5_assignments_23 : decode cX5_assignments 23 = .ok (.goto 9, 3) := by decide +kernel
theorem dX5_assignments_26 : decode cX5_assignments 26 = .ok (.aload_n 0, 1) := by decide +kernel
theorem dX5_assignments_27 : decode cX5_assignments 27 = .ok (.getfield 16, 3) := by decide +kernel
theorem dX5_assignments_30 : decode cX5_assignments 30 = .ok (.iload_n 2, 1) := by decide +kernel
theorem dX5_assignments_31 : decode cX5_assignments 31 = .ok (.iaload, 1) := by decide +kernel
theorem dX5_assignments_32 : decode cX5_assignments 32 = .ok (.imul, 1) := by decide +kernel
theorem dX5_assignments_33 : decode cX5_assignments 33 = .ok (.istore_n 1, 1) := by decide +kernel
theorem dX5_assignments_34 : decode cX5_assignments 34 = .ok (.iinc 2 1, 3) := by decide +kernel
theorem dX5_assignments_37 : decode cX5_assignments 37 = .ok (.goto (-33), 3) := by decide +kernel
theorem dX5_assignments_40 : decode cX5_assignments 40 = .ok (.iload_n 1, 1) := by decide +kernel
theorem dX5_assignments_41 : decode cX5_assignments 41 = .ok (.ireturn, 1) := by decide +kernel
theorem dX5_layAssignment_0 : decode cX5_layAssignment 0 = .ok (.iload_n 1, 1) := by decide +kernel
theorem dX5_layAssignment_1 : decode cX5_layAssignment 1 = .ok (.istore_n 2, 1) := by decide +kernel
theorem dX5_layAssignment_2 : decode cX5_layAssignment 2 = .ok (.aload_n 0, 1) := by decide +kernel
theorem dX5_layAssignment_3 : decode cX5_layAssignment 3 = .ok (.getfield 82, 3) := by decide +kernel
theorem dX5_layAssignment_6 : decode cX5_layAssignment 6 = .ok (.iconst 1, 1) := by decide +kernel
theorem dX5_layAssignment_7 : decode cX5_layAssignment 7 = .ok (.isub, 1) := by decide +kernel
theorem dX5_layAssignment_8 : decode cX5_layAssignment 8 = .ok (.istore_n 3, 1) := by decide +kernel
theorem dX5_layAssignment_9 : decode cX5_layAssignment 9 = .ok (.iload_n 3, 1) := by decide +kernel
theorem dX5_layAssignment_10 : decode cX5_layAssignment 10 = .ok (.ifCond .lt 32, 3) := by decide +kernel
theorem dX5_layAssignment_13 : decode cX5_layAssignment 13 = .ok (.aload_n 0, 1) := by decide +kernel
theorem dX5_layAssignment_14 : decode cX5_layAssignment 14 = .ok (.getfield 31, 3) := by decide +kernel
theorem dX5_layAssignment_17 : decode cX5_layAssignment 17 = .ok (.iload_n 3, 1) := by decide +kernel
theorem dX5_layAssignment_18 : decode cX5_layAssignment 18 = .ok (.iload_n 2, 1) := by decide +kernel
theorem dX5_layAssignment_19 : decode cX5_layAssignment 19 = .ok (.aload_n 0, 1) := by decide +kernel
theorem dX5_layAssignment_20 : decode cX5_layAssignment 20 = .ok (.getfield 16, 3) := by decide +kernel
theorem dX5_layAssignment_23 : decode cX5_layAssignment 23 = .ok (.iload_n 3, 1) := by decide +kernel
theorem dX5_layAssignment_24 : decode cX5_layAssignment 24 = .ok (.iaload, 1) := by decide +kernel
theorem dX5_layAssignment_25 : decode cX5_layAssignment 25 = .ok (.irem, 1) := by decide +kernel
theorem dX5_layAssignment_26 : decode cX5_layAssignment 26 = .ok (.iastore, 1) := by decide +kernel
theorem dX5_layAssignment_27 : decode cX5_layAssignment 27 = .ok (.iload_n 2, 1) := by decide +kernel
theorem dX5_layAssignment_28 : decode cX5_layAssignment 28 = .ok (.aload_n 0, 1) := by decide +kernel
theorem dX5_layAssignment_29 : decode cX5_layAssignment 29 = .ok (.getfield 16, 3) := by decide +kernel
theorem dX5_layAssignment_32 : decode cX5_layAssignment 32 = .ok (.iload_n 3, 1) := by decide +kernel
theorem dX5_layAssignment_33 : decode cX5_layAssignment 33 = .ok (.iaload, 1) := by decide +kernel
theorem dX5_layAssignment_34 : decode cX5_layAssignment 34 = .ok (.idiv, 1) := by decide +kernel
theorem dX5_layAssignment_35 : decode cX5_layAssignment 35 = .ok (.istore_n 2, 1) := by decide +kernel
theorem dX5_layAssignment_36 : decode cX5_layAssignment 36 = .ok (.iinc 3 (-1), 3) := by decide +kernel
theorem dX5_layAssignment_39 : decode cX5_layAssignment 39 = .ok (.goto (-30), 3) := by decide +kernel
theorem dX5_layAssignment_42 : decode cX5_layAssignment 42 = .ok (.return_, 1) := by decide +kernel
set_option maxRecDepth 20000 in
theorem ggX5_leastFrom_X5_assignments : GoodIn wsX5_leastFrom wsX5_assignments := goodIn_r _ [7, 8, 9, 24, 25, 26, 27, 28, 29, 30, 31, 32, 33, 34, 35, 36, 37, 38, 39, 40, 41, 42, 43, 44, 45, 46] rfl (by decide +kernel)
set_option maxRecDepth 20000 in
theorem gX5_leastFrom_X5_assignments : GoodIn wsX5_leastFrom (wsV RX5 137 RX5 yX5_assignments wsX5_assignments) := goodIn_app (goodIn_of _ (by decide +kernel)) ggX5_leastFrom_X5_assignments
set_option maxRecDepth 20000 in
theorem ggX5_leastFrom_X5_layAssignment : GoodIn wsX5_leastFrom wsX5_layAssignment := goodIn_r _ [13, 8, 14, 9, 24, 25, 26, 27, 28, 29, 30, 31, 32, 33, 34, 35, 36, 37, 38, 39, 40, 41, 42, 43, 44, 45, 46] rfl (by decide +kernel)
set_option maxRecDepth 20000 in
theorem gX5_leastFrom_X5_layAssignment : GoodIn wsX5_leastFrom (wsV RX5 141 RX5 yX5_layAssignment wsX5_layAssignment) := goodIn_app (goodIn_of _ (by decide +kernel)) ggX5_leastFrom_X5_layAssignment
set_option maxRecDepth 20000 in
theorem ggX5_leastFrom_X5_coverFrom : GoodIn wsX5_leastFrom wsX5_coverFrom := goodIn_r _ [18, 8, 14, 19, 20, 21, 6, 22, 23, 9, 24, 25, 26, 27, 28, 29, 30, 31, 32, 33, 34, 35, 36, 37, 38, 39, 40, 41, 42, 43, 44, 45, 46] rfl (by decide +kernel)
set_option maxRecDepth 20000 in
theorem gX5_leastFrom_X5_coverFrom : GoodIn wsX5_leastFrom (wsV RX5 131 RX5 yX5_coverFrom wsX5_coverFrom) := goodIn_app (goodIn_of _ (by decide +kernel)) ggX5_leastFrom_X5_coverFrom
theorem dX5_leastFrom_0 : decode cX5_leastFrom 0 = .ok (.aload_n 0, 1) := by decide +kernel
theorem dX5_leastFrom_1 : decode cX5_leastFrom 1 = .ok (.invokevirtual 137, 3) := by decide +kernel
theorem dX5_leastFrom_4 : decode cX5_leastFrom 4 = .ok (.istore_n 2, 1) := by decide +kernel
theorem dX5_leastFrom_5 : decode cX5_leastFrom 5 = .ok (.ldc 140, 2) := by decide +kernel
theorem dX5_leastFrom_7 : decode cX5_leastFrom 7 = .ok (.istore_n 3, 1) := by decide +kernel
theorem dX5_leastFrom_8 : decode cX5_leastFrom 8 = .ok (.iconst 0, 1) := by decide +kernel
theorem dX5_leastFrom_9 : decode cX5_leastFrom 9 = .ok (.istore 4, 2) := by decide +kernel
theorem dX5_leastFrom_11 : decode cX5_leastFrom 11 = .ok (.iload 4, 2) := by decide +kernel
theorem dX5_leastFrom_13 : decode cX5_leastFrom 13 = .ok (.iload_n 2, 1) := by decide +kernel
theorem dX5_leastFrom_14 : decode cX5_leastFrom 14 = .ok (.if_icmp .ge 54, 3) := by decide +kernel
theorem dX5_leastFrom_17 : decode cX5_leastFrom 17 = .ok (.aload_n 0, 1) := by decide +kernel
theorem dX5_leastFrom_18 : decode cX5_leastFrom 18 = .ok (.iload 4, 2) := by decide +kernel
theorem dX5_leastFrom_20 : decode cX5_leastFrom 20 = .ok (.invokevirtual 141, 3) := by decide +kernel
theorem dX5_leastFrom_23 : decode cX5_leastFrom 23 = .ok (.aload_n 0, 1) := by decide +kernel
theorem dX5_leastFrom_24 : decode cX5_leastFrom 24 = .ok (.iload_n 1, 1) := by decide +kernel
theorem dX5_leastFrom_25 : decode cX5_leastFrom 25 = .ok (.invokevirtual 131, 3) := by decide +kernel
theorem dX5_leastFrom_28 : decode cX5_leastFrom 28 = .ok (.istore 5, 2) := by decide +kernel
theorem dX5_leastFrom_30 : decode cX5_leastFrom 30 = .ok (.aload_n 0, 1) := by decide +kernel
theorem dX5_leastFrom_31 : decode cX5_leastFrom 31 = .ok (.iload 5, 2) := by decide +kernel
theorem dX5_leastFrom_33 : decode cX5_leastFrom 33 = .ok (.iload_n 3, 1) := by decide +kernel
theorem dX5_leastFrom_34 : decode cX5_leastFrom 34 = .ok (.if_icmp .ge 8, 3) := by decide +kernel
theorem dX5_leastFrom_37 : decode cX5_leastFrom 37 = .ok (.iload 4, 2) := by decide +kernel
theorem dX5_leastFrom_39 : decode cX5_leastFrom 39 = .ok (.goto 7, 3) := by decide +kernel
theorem dX5_leastFrom_42 : decode cX5_leastFrom 42 = .ok (.aload_n 0, 1) := by decide +kernel
theorem dX5_leastFrom_43 : decode cX5_leastFrom 43 = .ok (.getfield 144, 3) := by decide +kernel
theorem dX5_leastFrom_46 : decode cX5_leastFrom 46 = .ok (.putfield 144, 3) := by decide +kernel
theorem dX5_leastFrom_49 : decode cX5_leastFrom 49 = .ok (.iload 5, 2) := by decide +kernel
theorem dX5_leastFrom_51 : decode cX5_leastFrom 51 = .ok (.iload_n 3, 1) := by decide +kernel
theorem dX5_leastFrom_52 : decode cX5_leastFrom 52 = .ok (.if_icmp .ge 8, 3) := by decide +kernel
theorem dX5_leastFrom_55 : decode cX5_leastFrom 55 = .ok (.iload 5, 2) := by decide +kernel
theorem dX5_leastFrom_57 : decode cX5_leastFrom 57 = .ok (.goto 4, 3) := by decide +kernel
theorem dX5_leastFrom_60 : decode cX5_leastFrom 60 = .ok (.iload_n 3, 1) := by decide +kernel
theorem dX5_leastFrom_61 : decode cX5_leastFrom 61 = .ok (.istore_n 3, 1) := by decide +kernel
theorem dX5_leastFrom_62 : decode cX5_leastFrom 62 = .ok (.iinc 4 1, 3) := by decide +kernel
theorem dX5_leastFrom_65 : decode cX5_leastFrom 65 = .ok (.goto (-54), 3) := by decide +kernel
theorem dX5_leastFrom_68 : decode cX5_leastFrom 68 = .ok (.iload_n 3, 1) := by decide +kernel
theorem dX5_leastFrom_69 : decode cX5_leastFrom 69 = .ok (.ireturn, 1) := by decide +kernel
set_option maxRecDepth 20000 in
theorem ggX5_leastCoverTime_X5_isNode : GoodIn wsX5_leastCoverTime wsX5_isNode := goodIn_r _ [5, 6, 7, 8, 4, 9, 35, 36, 37, 38, 39, 40, 41, 42, 43, 44, 45, 46, 47, 48, 49, 50, 51, 52, 53, 54, 55, 56, 57] rfl (by decide +kernel)
set_option maxRecDepth 20000 in
theorem gX5_leastCoverTime_X5_isNode : GoodIn wsX5_leastCoverTime (wsV RX5 99 RX5 yX5_isNode wsX5_isNode) := goodIn_app (goodIn_of _ (by decide +kernel)) ggX5_leastCoverTime_X5_isNode
set_option maxRecDepth 20000 in
theorem ggX5_leastCoverTime_X5_assignments : GoodIn wsX5_leastCoverTime wsX5_assignments := goodIn_r _ [13, 6, 14, 35, 36, 37, 38, 39, 40, 41, 42, 43, 44, 45, 46, 47, 48, 49, 50, 51, 52, 53, 54, 55, 56, 57] rfl (by decide +kernel)
set_option maxRecDepth 20000 in
theorem gX5_leastCoverTime_X5_assignments : GoodIn wsX5_leastCoverTime (wsV RX5 137 RX5 yX5_assignments wsX5_assignments) := goodIn_app (goodIn_of _ (by decide +kernel)) ggX5_leastCoverTime_X5_assignments
set_option maxRecDepth 20000 in
theorem ggX5_leastCoverTime_X5_leastFrom : GoodIn wsX5_leastCoverTime wsX5_leastFrom := goodIn_r _ [18, 19, 20, 10, 11, 12, 4, 13, 6, 14, 21, 22, 23, 24, 25, 26, 27, 28, 29, 30, 31, 32, 33, 34, 35, 36, 37, 38, 39, 40, 41, 42, 43, 44, 45, 46, 47, 48, 49, 50, 51, 52, 53, 54, 55, 56, 57] rfl (by decide +kernel)
set_option maxRecDepth 20000 in
theorem gX5_leastCoverTime_X5_leastFrom : GoodIn wsX5_leastCoverTime (wsV RX5 147 RX5 yX5_leastFrom wsX5_leastFrom) := goodIn_app (goodIn_of _ (by decide +kernel)) ggX5_leastCoverTime_X5_leastFrom
theorem dX5_leastCoverTime_0 : decode cX5_leastCoverTime 0 = .ok (.aload_n 0, 1) := by decide +kernel
theorem dX5_leastCoverTime_1 : decode cX5_leastCoverTime 1 = .ok (.iload_n 1, 1) := by decide +kernel
theorem dX5_leastCoverTime_2 : decode cX5_leastCoverTime 2 = .ok (.invokevirtual 99, 3) := by decide +kernel
theorem dX5_leastCoverTime_5 : decode cX5_leastCoverTime 5 = .ok (.ifCond .ne 6, 3) := by decide +kernel
theorem dX5_leastCoverTime_8 : decode cX5_leastCoverTime 8 = .ok (.bipush (-4), 2) := by decide +kernel
theorem dX5_leastCoverTime_10 : decode cX5_leastCoverTime 10 = .ok (.ireturn, 1) := by decide +kernel
theorem dX5_leastCoverTime_11 : decode cX5_leastCoverTime 11 = .ok (.aload_n 0, 1) := by decide +kernel
theorem dX5_leastCoverTime_12 : decode cX5_leastCoverTime 12 = .ok (.invokevirtual 137, 3) := by decide +kernel
theorem dX5_leastCoverTime_15 : decode cX5_leastCoverTime 15 = .ok (.sipush 2000, 3) := by decide +kernel
theorem dX5_leastCoverTime_18 : decode cX5_leastCoverTime 18 = .ok (.if_icmp .le 8, 3) := by decide +kernel
theorem dX5_leastCoverTime_21 : decode cX5_leastCoverTime 21 = .ok (.bipush (-8), 2) := by decide +kernel
theorem dX5_leastCoverTime_23 : decode cX5_leastCoverTime 23 = .ok (.goto 8, 3) := by decide +kernel
theorem dX5_leastCoverTime_26 : decode cX5_leastCoverTime 26 = .ok (.aload_n 0, 1) := by decide +kernel
theorem dX5_leastCoverTime_27 : decode cX5_leastCoverTime 27 = .ok (.iload_n 1, 1) := by decide +kernel
theorem dX5_leastCoverTime_28 : decode cX5_leastCoverTime 28 = .ok (.invokevirtual 147, 3) := by decide +kernel
theorem dX5_leastCoverTime_31 : decode cX5_leastCoverTime 31 = .ok (.ireturn, 1) := by decide +kernel
set_option maxRecDepth 20000 in
theorem ggX5_bestRotor_X5_isNode : GoodIn wsX5_bestRotor wsX5_isNode := goodIn_r _ [7, 8, 9, 10, 6, 11, 35, 36, 37, 38, 39, 40, 41, 42, 43, 44, 45, 46, 47, 48, 49, 50, 51, 52, 53, 54, 55, 56, 57] rfl (by decide +kernel)
set_option maxRecDepth 20000 in
theorem gX5_bestRotor_X5_isNode : GoodIn wsX5_bestRotor (wsV RX5 99 RX5 yX5_isNode wsX5_isNode) := goodIn_app (goodIn_of _ (by decide +kernel)) ggX5_bestRotor_X5_isNode
set_option maxRecDepth 20000 in
theorem ggX5_bestRotor_X5_assignments : GoodIn wsX5_bestRotor wsX5_assignments := goodIn_r _ [15, 8, 16, 35, 36, 37, 38, 39, 40, 41, 42, 43, 44, 45, 46, 47, 48, 49, 50, 51, 52, 53, 54, 55, 56, 57] rfl (by decide +kernel)
set_option maxRecDepth 20000 in
theorem gX5_bestRotor_X5_assignments : GoodIn wsX5_bestRotor (wsV RX5 137 RX5 yX5_assignments wsX5_assignments) := goodIn_app (goodIn_of _ (by decide +kernel)) ggX5_bestRotor_X5_assignments
set_option maxRecDepth 20000 in
theorem ggX5_bestRotor_X5_leastFrom : GoodIn wsX5_bestRotor wsX5_leastFrom := goodIn_r _ [20, 21, 1, 12, 13, 14, 6, 15, 8, 16, 22, 23, 24, 25, 2, 26, 27, 28, 29, 30, 31, 32, 33, 34, 35, 36, 37, 38, 39, 40, 41, 42, 43, 44, 45, 46, 47, 48, 49, 50, 51, 52, 53, 54, 55, 56, 57] rfl (by decide +kernel)
set_option maxRecDepth 20000 in
theorem gX5_bestRotor_X5_leastFrom : GoodIn wsX5_bestRotor (wsV RX5 147 RX5 yX5_leastFrom wsX5_leastFrom) := goodIn_app (goodIn_of _ (by decide +kernel)) ggX5_bestRotor_X5_leastFrom
set_option maxRecDepth 20000 in
theorem ggX5_bestRotor_X5_layAssignment : GoodIn wsX5_bestRotor wsX5_layAssignment := goodIn_r _ [25, 8, 2, 16, 35, 36, 37, 38, 39, 40, 41, 42, 43, 44, 45, 46, 47, 48, 49, 50, 51, 52, 53, 54, 55, 56, 57] rfl (by decide +kernel)
set_option maxRecDepth 20000 in
theorem gX5_bestRotor_X5_layAssignment : GoodIn wsX5_bestRotor (wsV RX5 141 RX5 yX5_layAssignment wsX5_layAssignment) := goodIn_app (goodIn_of _ (by decide +kernel)) ggX5_bestRotor_X5_layAssignment
theorem dX5_bestRotor_0 : decode cX5_bestRotor 0 = .ok (.aload_n 0, 1) := by decide +kernel
theorem dX5_bestRotor_1 : decode cX5_bestRotor 1 = .ok (.iload_n 1, 1) := by decide +kernel
theorem dX5_bestRotor_2 : decode cX5_bestRotor 2 = .ok (.invokevirtual 99, 3) := by decide +kernel
theorem dX5_bestRotor_5 : decode cX5_bestRotor 5 = .ok (.ifCond .eq 11, 3) := by decide +kernel
theorem dX5_bestRotor_8 : decode cX5_bestRotor 8 = .ok (.aload_n 0, 1) := by decide +kernel
theorem dX5_bestRotor_9 : decode cX5_bestRotor 9 = .ok (.iload_n 2, 1) := by decide +kernel
theorem dX5_bestRotor_10 : decode cX5_bestRotor 10 = .ok (.invokevirtual 99, 3) := by decide +kernel
theorem dX5_bestRotor_13 : decode cX5_bestRotor 13 = .ok (.ifCond .ne 6, 3) := by decide +kernel
theorem dX5_bestRotor_16 : decode cX5_bestRotor 16 = .ok (.bipush (-4), 2) := by decide +kernel
theorem dX5_bestRotor_18 : decode cX5_bestRotor 18 = .ok (.ireturn, 1) := by decide +kernel
theorem dX5_bestRotor_19 : decode cX5_bestRotor 19 = .ok (.aload_n 0, 1) := by decide +kernel
theorem dX5_bestRotor_20 : decode cX5_bestRotor 20 = .ok (.invokevirtual 137, 3) := by decide +kernel
theorem dX5_bestRotor_23 : decode cX5_bestRotor 23 = .ok (.sipush 2000, 3) := by decide +kernel
theorem dX5_bestRotor_26 : decode cX5_bestRotor 26 = .ok (.if_icmp .le 6, 3) := by decide +kernel
theorem dX5_bestRotor_29 : decode cX5_bestRotor 29 = .ok (.bipush (-8), 2) := by decide +kernel
theorem dX5_bestRotor_31 : decode cX5_bestRotor 31 = .ok (.ireturn, 1) := by decide +kernel
theorem dX5_bestRotor_32 : decode cX5_bestRotor 32 = .ok (.aload_n 0, 1) := by decide +kernel
theorem dX5_bestRotor_33 : decode cX5_bestRotor 33 = .ok (.iload_n 1, 1) := by decide +kernel
theorem dX5_bestRotor_34 : decode cX5_bestRotor 34 = .ok (.invokevirtual 147, 3) := by decide +kernel
theorem dX5_bestRotor_37 : decode cX5_bestRotor 37 = .ok (.istore_n 3, 1) := by decide +kernel
theorem dX5_bestRotor_38 : decode cX5_bestRotor 38 = .ok (.aload_n 0, 1) := by decide +kernel
theorem dX5_bestRotor_39 : decode cX5_bestRotor 39 = .ok (.aload_n 0, 1) := by decide +kernel
theorem dX5_bestRotor_40 : decode cX5_bestRotor 40 = .ok (.getfield 144, 3) := by decide +kernel
theorem dX5_bestRotor_43 : decode cX5_bestRotor 43 = .ok (.invokevirtual 141, 3) := by decide +kernel
theorem dX5_bestRotor_46 : decode cX5_bestRotor 46 = .ok (.aload_n 0, 1) := by decide +kernel
theorem dX5_bestRotor_47 : decode cX5_bestRotor 47 = .ok (.getfield 31, 3) := by decide +kernel
theorem dX5_bestRotor_50 : decode cX5_bestRotor 50 = .ok (.iload_n 2, 1) := by decide +kernel
theorem dX5_bestRotor_51 : decode cX5_bestRotor 51 = .ok (.iaload, 1) := by decide +kernel
theorem dX5_bestRotor_52 : decode cX5_bestRotor 52 = .ok (.ireturn, 1) := by decide +kernel
theorem dX5_spread_0 : decode cX5_spread 0 = .ok (.iconst 0, 1) := by decide +kernel
theorem dX5_spread_1 : decode cX5_spread 1 = .ok (.istore_n 1, 1) := by decide +kernel
theorem dX5_spread_2 : decode cX5_spread 2 = .ok (.iload_n 1, 1) := by decide +kernel
theorem dX5_spread_3 : decode cX5_spread 3 = .ok (.bipush 8, 2) := by decide +kernel
theorem dX5_spread_5 : decode cX5_spread 5 = .ok (.if_icmp .ge 16, 3) := by decide +kernel
theorem dX5_spread_8 : decode cX5_spread 8 = .ok (.aload_n 0, 1) := by decide +kernel
theorem dX5_spread_9 : decode cX5_spread 9 = .ok (.getfield 41, 3) := by decide +kernel
theorem dX5_spread_12 : decode cX5_spread 12 = .ok (.iload_n 1, 1) := by decide +kernel
theorem dX5_spread_13 : decode cX5_spread 13 = .ok (.dconst 0, 1) := by decide +kernel
theorem dX5_spread_14 : decode cX5_spread 14 = .ok (.dastore, 1) := by decide +kernel
theorem dX5_spread_15 : decode cX5_spread 15 = .ok (.iinc 1 1, 3) := by decide +kernel
theorem dX5_spread_18 : decode cX5_spread 18 = .ok (.goto (-16), 3) := by decide +kernel
theorem dX5_spread_21 : decode cX5_spread 21 = .ok (.iconst 0, 1) := by decide +kernel
theorem dX5_spread_22 : decode cX5_spread 22 = .ok (.istore_n 1, 1) := by decide +kernel
theorem dX5_spread_23 : decode cX5_spread 23 = .ok (.iload_n 1, 1) := by decide +kernel
theorem dX5_spread_24 : decode cX5_spread 24 = .ok (.aload_n 0, 1) := by decide +kernel
theorem dX5_spread_25 : decode cX5_spread 25 = .ok (.getfield 82, 3) := by decide +kernel
theorem dX5_spread_28 : decode cX5_spread 28 = .ok (.if_icmp .ge 60, 3) := by decide +kernel
theorem dX5_spread_31 : decode cX5_spread 31 = .ok (.iconst 0, 1) := by decide +kernel
theorem dX5_spread_32 : decode cX5_spread 32 = .ok (.istore_n 2, 1) := by decide +kernel
theorem dX5_spread_33 : decode cX5_spread 33 = .ok (.iload_n 2, 1) := by decide +kernel
theorem dX5_spread_34 : decode cX5_spread 34 = .ok (.aload_n 0, 1) := by decide +kernel
theorem dX5_spread_35 : decode cX5_spread 35 = .ok (.getfield 16, 3) := by decide +kernel
theorem dX5_spread_38 : decode cX5_spread 38 = .ok (.iload_n 1, 1) := by decide +kernel
theorem dX5_spread_39 : decode cX5_spread 39 = .ok (.iaload, 1) := by decide +kernel
theorem dX5_spread_40 : decode cX5_spread 40 = .ok (.if_icmp .ge 42, 3) := by decide +kernel
theorem dX5_spread_43 : decode cX5_spread 43 = .ok (.aload_n 0, 1) := by decide +kernel
theorem dX5_spread_44 : decode cX5_spread 44 = .ok (.getfield 41, 3) := by decide +kernel
theorem dX5_spread_47 : decode cX5_spread 47 = .ok (.aload_n 0, 1) := by decide +kernel
theorem dX5_spread_48 : decode cX5_spread 48 = .ok (.getfield 13, 3) := by decide +kernel
theorem dX5_spread_51 : decode cX5_spread 51 = .ok (.bipush 8, 2) := by decide +kernel
theorem dX5_spread_53 : decode cX5_spread 53 = .ok (.iload_n 1, 1) := by decide +kernel
theorem dX5_spread_54 : decode cX5_spread 54 = .ok (.imul, 1) := by decide +kernel
theorem dX5_spread_55 : decode cX5_spread 55 = .ok (.iload_n 2, 1) := by decide +kernel
theorem dX5_spread_56 : decode cX5_spread 56 = .ok (.iadd, 1) := by decide +kernel
theorem dX5_spread_57 : decode cX5_spread 57 = .ok (.iaload, 1) := by decide +kernel
theorem dX5_spread_58 : decode cX5_spread 58 = .ok (.dup2, 1) := by decide +kernel
theorem dX5_spread_59 : decode cX5_spread 59 = .ok (.daload, 1) := by decide +kernel
theorem dX5_spread_60 : decode cX5_spread 60 = .ok (.aload_n 0, 1) := by decide +kernel
theorem dX5_spread_61 : decode cX5_spread 61 = .ok (.getfield 37, 3) := by decide +kernel
theorem dX5_spread_64 : decode cX5_spread 64 = .ok (.iload_n 1, 1) := by decide +kernel
theorem dX5_spread_65 : decode cX5_spread 65 = .ok (.daload, 1) := by decide +kernel
theorem dX5_spread_66 : decode cX5_spread 66 = .ok (.aload_n 0, 1) := by decide +kernel
theorem dX5_spread_67 : decode cX5_spread 67 = .ok (.getfield 16, 3) := by decide +kernel
theorem dX5_spread_70 : decode cX5_spread 70 = .ok (.iload_n 1, 1) := by decide +kernel
theorem dX5_spread_71 : decode cX5_spread 71 = .ok (.iaload, 1) := by decide +kernel
theorem dX5_spread_72 : decode cX5_spread 72 = .ok (.i2d, 1) := by decide +kernel
theorem dX5_spread_73 : decode cX5_spread 73 = .ok (.ddiv, 1) := by decide +kernel
theorem dX5_spread_74 : decode cX5_spread 74 = .ok (.dadd, 1) := by decide +kernel
theorem dX5_spread_75 : decode cX5_spread 75 = .ok (.dastore, 1) := by decide +kernel
theorem dX5_spread_76 : decode cX5_spread 76 = .ok (.iinc 2 1, 3) := by decide +kernel
theorem dX5_spread_79 : decode cX5_spread 79 = .ok (.goto (-46), 3) := by decide +kernel
theorem dX5_spread_82 : decode cX5_spread 82 = .ok (.iinc 1 1, 3) := by decide +kernel
theorem dX5_spread_85 : decode cX5_spread 85 = .ok (.goto (-62), 3) := by decide +kernel
theorem dX5_spread_88 : decode cX5_spread 88 = .ok (.iconst 0, 1) := by decide +kernel
theorem dX5_spread_89 : decode cX5_spread 89 = .ok (.istore_n 1, 1) := by decide +kernel
theorem dX5_spread_90 : decode cX5_spread 90 = .ok (.iload_n 1, 1) := by decide +kernel
theorem dX5_spread_91 : decode cX5_spread 91 = .ok (.bipush 8, 2) := by decide +kernel
theorem dX5_spread_93 : decode cX5_spread 93 = .ok (.if_icmp .ge 21, 3) := by decide +kernel
theorem dX5_spread_96 : decode cX5_spread 96 = .ok (.aload_n 0, 1) := by decide +kernel
theorem dX5_spread_97 : decode cX5_spread 97 = .ok (.getfield 37, 3) := by decide +kernel
theorem dX5_spread_100 : decode cX5_spread 100 = .ok (.iload_n 1, 1) := by decide +kernel
theorem dX5_spread_101 : decode cX5_spread 101 = .ok (.aload_n 0, 1) := by decide +kernel
theorem dX5_spread_102 : decode cX5_spread 102 = .ok (.getfield 41, 3) := by decide +kernel
theorem dX5_spread_105 : decode cX5_spread 105 = .ok (.iload_n 1, 1) := by decide +kernel
theorem dX5_spread_106 : decode cX5_spread 106 = .ok (.daload, 1) := by decide +kernel
theorem dX5_spread_107 : decode cX5_spread 107 = .ok (.dastore, 1) := by decide +kernel
theorem dX5_spread_108 : decode cX5_spread 108 = .ok (.iinc 1 1, 3) := by decide +kernel
theorem dX5_spread_111 : decode cX5_spread 111 = .ok (.goto (-21), 3) := by decide +kernel
theorem dX5_spread_114 : decode cX5_spread 114 = .ok (.return_, 1) := by decide +kernel
set_option maxRecDepth 20000 in
theorem ggX5_expected_X5_spread : GoodIn wsX5_expected wsX5_spread := goodIn_r _ [6, 7, 8, 9, 10, 1, 23, 24, 25, 26, 27, 28, 29, 30, 31, 32, 33, 34, 35, 36, 37, 38, 39, 40, 41, 42, 43, 44, 45] rfl (by decide +kernel)
set_option maxRecDepth 20000 in
theorem gX5_expected_X5_spread : GoodIn wsX5_expected (wsV RX5 150 RX5 yX5_spread wsX5_spread) := goodIn_app (goodIn_of _ (by decide +kernel)) ggX5_expected_X5_spread
set_option maxRecDepth 20000 in
theorem ggX5_expected_Jxe99ae_doubleToLongBits_ccdee : GoodIn wsX5_expected wsJxe99ae_doubleToLongBits_ccdee := goodIn_r _ [14, 15, 16, 17, 18, 19, 20, 21, 13, 22] rfl (by decide +kernel)
set_option maxRecDepth 20000 in
theorem gX5_expected_Jxe99ae_doubleToLongBits_ccdee : GoodIn wsX5_expected (va_wsS RX5 153 yJxe99ae_doubleToLongBits_ccdee wsJxe99ae_doubleToLongBits_ccdee) := goodIn_app (goodIn_of _ (by decide +kernel)) ggX5_expected_Jxe99ae_doubleToLongBits_ccdee
theorem dX5_expected_0 : decode cX5_expected 0 = .ok (.iconst 0, 1) := by decide +kernel
theorem dX5_expected_1 : decode cX5_expected 1 = .ok (.istore 4, 2) := by decide +kernel
theorem dX5_expected_3 : decode cX5_expected 3 = .ok (.iload 4, 2) := by decide +kernel
theorem dX5_expected_5 : decode cX5_expected 5 = .ok (.bipush 8, 2) := by decide +kernel
theorem dX5_expected_7 : decode cX5_expected 7 = .ok (.if_icmp .ge 27, 3) := by decide +kernel
theorem dX5_expected_10 : decode cX5_expected 10 = .ok (.aload_n 0, 1) := by decide +kernel
theorem dX5_expected_11 : decode cX5_expected 11 = .ok (.getfield 37, 3) := by decide +kernel
theorem dX5_expected_14 : decode cX5_expected 14 = .ok (.iload 4, 2) := by decide +kernel
theorem dX5_expected_16 : decode cX5_expected 16 = .ok (.iload 4, 2) := by decide +kernel
theorem dX5_expected_18 : decode cX5_expected 18 = .ok (.iload_n 1, 1) := by decide +kernel
theorem dX5_expected_19 : decode cX5_expected 19 = .ok (.if_icmp .ne 7, 3) := by decide +kernel
theorem dX5_expected_22 : decode cX5_expected 22 = .ok (.dconst 1, 1) := by decide +kernel
theorem dX5_expected_23 : decode cX5_expected 23 = .ok (.goto 4, 3) := by decide +kernel
theorem dX5_expected_26 : decode cX5_expected 26 = .ok (.dconst 0, 1) := by decide +kernel
theorem dX5_expected_27 : decode cX5_expected 27 = .ok (.dastore, 1) := by decide +kernel
theorem dX5_expected_28 : decode cX5_expected 28 = .ok (.iinc 4 1, 3) := by decide +kernel
theorem dX5_expected_31 : decode cX5_expected 31 = .ok (.goto (-28), 3) := by decide +kernel
theorem dX5_expected_34 : decode cX5_expected 34 = .ok (.dconst 0, 1) := by decide +kernel
theorem dX5_expected_35 : decode cX5_expected 35 = .ok (.dstore 4, 2) := by decide +kernel
theorem dX5_expected_37 : decode cX5_expected 37 = .ok (.iconst 0, 1) := by decide +kernel
theorem dX5_expected_38 : decode cX5_expected 38 = .ok (.istore 6, 2) := by decide +kernel
theorem dX5_expected_40 : decode cX5_expected 40 = .ok (.iload 6, 2) := by decide +kernel
theorem dX5_expected_42 : decode cX5_expected 42 = .ok (.iload_n 2, 1) := by decide +kernel
theorem dX5_expected_43 : decode cX5_expected 43 = .ok (.if_icmp .ge 24, 3) := by decide +kernel
theorem dX5_expected_46 : decode cX5_expected 46 = .ok (.aload_n 0, 1) := by decide +kernel
theorem dX5_expected_47 : decode cX5_expected 47 = .ok (.invokevirtual 150, 3) := by decide +kernel
theorem dX5_expected_50 : decode cX5_expected 50 = .ok (.dload 4, 2) := by decide +kernel
theorem dX5_expected_52 : decode cX5_expected 52 = .ok (.aload_n 0, 1) := by decide +kernel
theorem dX5_expected_53 : decode cX5_expected 53 = .ok (.getfield 37, 3) := by decide +kernel
theorem dX5_expected_56 : decode cX5_expected 56 = .ok (.iload_n 3, 1) := by decide +kernel
theorem dX5_expected_57 : decode cX5_expected 57 = .ok (.daload, 1) := by decide +kernel
theorem dX5_expected_58 : decode cX5_expected 58 = .ok (.dadd, 1) := by decide +kernel
theorem dX5_expected_59 : decode cX5_expected 59 = .ok (.dstore 4, 2) := by decide +kernel
theorem dX5_expected_61 : decode cX5_expected 61 = .ok (.iinc 6 1, 3) := by decide +kernel
theorem dX5_expected_64 : decode cX5_expected 64 = .ok (.goto (-24), 3) := by decide +kernel
theorem dX5_expected_67 : decode cX5_expected 67 = .ok (.dload 4, 2) := by decide +kernel
theorem dX5_expected_69 : decode cX5_expected 69 = .ok (.invokestatic 153, 3) := by decide +kernel
theorem dX5_expected_72 : decode cX5_expected 72 = .ok (.lreturn, 1) := by decide +kernel
set_option maxRecDepth 20000 in
theorem ggX5_expectedArrivals_X5_isNode : GoodIn wsX5_expectedArrivals wsX5_isNode := goodIn_r _ [7, 8, 9, 10, 6, 11, 36, 37, 38, 39, 40, 41, 42, 43, 44, 45, 46, 47, 48, 49, 50, 51, 52, 53, 54, 55, 56, 57, 58] rfl (by decide +kernel)
set_option maxRecDepth 20000 in
theorem gX5_expectedArrivals_X5_isNode : GoodIn wsX5_expectedArrivals (wsV RX5 99 RX5 yX5_isNode wsX5_isNode) := goodIn_app (goodIn_of _ (by decide +kernel)) ggX5_expectedArrivals_X5_isNode
set_option maxRecDepth 20000 in
theorem ggX5_expectedArrivals_X5_within : GoodIn wsX5_expectedArrivals wsX5_within := goodIn_r _ [11] rfl (by decide +kernel)
set_option maxRecDepth 20000 in
theorem gX5_expectedArrivals_X5_within : GoodIn wsX5_expectedArrivals (va_wsS RX5 56 yX5_within wsX5_within) := goodIn_app (goodIn_of _ (by decide +kernel)) ggX5_expectedArrivals_X5_within
set_option maxRecDepth 20000 in
theorem ggX5_expectedArrivals_X5_expected : GoodIn wsX5_expectedArrivals wsX5_expected := goodIn_r _ [15, 16, 17, 18, 19, 6, 20, 21, 8, 22, 23, 24, 25, 26, 27, 28, 29, 30, 31, 32, 33, 34, 35, 36, 37, 38, 39, 40, 41, 42, 43, 44, 45, 46, 47, 48, 49, 50, 51, 52, 53, 54, 55, 56, 57, 58] rfl (by decide +kernel)
set_option maxRecDepth 20000 in
theorem gX5_expectedArrivals_X5_expected : GoodIn wsX5_expectedArrivals (wsV RX5 161 RX5 yX5_expected wsX5_expected) := goodIn_app (goodIn_of _ (by decide +kernel)) ggX5_expectedArrivals_X5_expected
theorem dX5_expectedArrivals_0 : decode cX5_expectedArrivals 0 = .ok (.aload_n 0, 1) := by decide +kernel
theorem dX5_expectedArrivals_1 : decode cX5_expectedArrivals 1 = .ok (.iload_n 1, 1) := by decide +kernel
theorem dX5_expectedArrivals_2 : decode cX5_expectedArrivals 2 = .ok (.invokevirtual 99, 3) := by decide +kernel
theorem dX5_expectedArrivals_5 : decode cX5_expectedArrivals 5 = .ok (.ifCond .eq 11, 3) := by decide +kernel
theorem dX5_expectedArrivals_8 : decode cX5_expectedArrivals 8 = .ok (.aload_n 0, 1) := by decide +kernel
theorem dX5_expectedArrivals_9 : decode cX5_expectedArrivals 9 = .ok (.iload_n 3, 1) := by decide +kernel
theorem dX5_expectedArrivals_10 : decode cX5_expectedArrivals 10 = .ok (.invokevirtual 99, 3) := by decide +kernel
theorem dX5_expectedArrivals_13 : decode cX5_expectedArrivals 13 = .ok (.ifCond .ne 7, 3) := by decide +kernel
theorem dX5_expectedArrivals_16 : decode cX5_expectedArrivals 16 = .ok (.ldc2_w 159, 3) := by decide +kernel
theorem dX5_expectedArrivals_19 : decode cX5_expectedArrivals 19 = .ok (.lreturn, 1) := by decide +kernel
theorem dX5_expectedArrivals_20 : decode cX5_expectedArrivals 20 = .ok (.iload_n 2, 1) := by decide +kernel
theorem dX5_expectedArrivals_21 : decode cX5_expectedArrivals 21 = .ok (.iconst 0, 1) := by decide +kernel
theorem dX5_expectedArrivals_22 : decode cX5_expectedArrivals 22 = .ok (.bipush 50, 2) := by decide +kernel
theorem dX5_expectedArrivals_24 : decode cX5_expectedArrivals 24 = .ok (.invokestatic 56, 3) := by decide +kernel
theorem dX5_expectedArrivals_27 : decode cX5_expectedArrivals 27 = .ok (.ifCond .eq 13, 3) := by decide +kernel
theorem dX5_expectedArrivals_30 : decode cX5_expectedArrivals 30 = .ok (.aload_n 0, 1) := by decide +kernel
theorem dX5_expectedArrivals_31 : decode cX5_expectedArrivals 31 = .ok (.iload_n 1, 1) := by decide +kernel
theorem dX5_expectedArrivals_32 : decode cX5_expectedArrivals 32 = .ok (.iload_n 2, 1) := by decide +kernel
theorem dX5_expectedArrivals_33 : decode cX5_expectedArrivals 33 = .ok (.iload_n 3, 1) := by decide +kernel
theorem dX5_expectedArrivals_34 : decode cX5_expectedArrivals 34 = .ok (.invokevirtual 161, 3) := by decide +kernel
theorem dX5_expectedArrivals_37 : decode cX5_expectedArrivals 37 = .ok (.goto 6, 3) := by decide +kernel
theorem dX5_expectedArrivals_40 : decode cX5_expectedArrivals 40 = .ok (.ldc2_w 165, 3) := by decide +kernel
theorem dX5_expectedArrivals_43 : decode cX5_expectedArrivals 43 = .ok (.lreturn, 1) := by decide +kernel
set_option maxRecDepth 20000 in
theorem ggX5_snapshot_X5_copyRotors : GoodIn wsX5_snapshot wsX5_copyRotors := goodIn_r _ [17] rfl (by decide +kernel)
set_option maxRecDepth 20000 in
theorem gX5_snapshot_X5_copyRotors : GoodIn wsX5_snapshot (wsV RX5 121 RX5 yX5_copyRotors wsX5_copyRotors) := goodIn_app (goodIn_of _ (by decide +kernel)) ggX5_snapshot_X5_copyRotors
theorem dX5_snapshot_0 : decode cX5_snapshot 0 = .ok (.aload_n 0, 1) := by decide +kernel
theorem dX5_snapshot_1 : decode cX5_snapshot 1 = .ok (.getfield 82, 3) := by decide +kernel
theorem dX5_snapshot_4 : decode cX5_snapshot 4 = .ok (.ifCond .ne 6, 3) := by decide +kernel
theorem dX5_snapshot_7 : decode cX5_snapshot 7 = .ok (.bipush (-9), 2) := by decide +kernel
theorem dX5_snapshot_9 : decode cX5_snapshot 9 = .ok (.ireturn, 1) := by decide +kernel
theorem dX5_snapshot_10 : decode cX5_snapshot 10 = .ok (.aload_n 0, 1) := by decide +kernel
theorem dX5_snapshot_11 : decode cX5_snapshot 11 = .ok (.iconst 1, 1) := by decide +kernel
theorem dX5_snapshot_12 : decode cX5_snapshot 12 = .ok (.putfield 95, 3) := by decide +kernel
theorem dX5_snapshot_15 : decode cX5_snapshot 15 = .ok (.aload_n 0, 1) := by decide +kernel
theorem dX5_snapshot_16 : decode cX5_snapshot 16 = .ok (.aload_n 0, 1) := by decide +kernel
theorem dX5_snapshot_17 : decode cX5_snapshot 17 = .ok (.getfield 92, 3) := by decide +kernel
theorem dX5_snapshot_20 : decode cX5_snapshot 20 = .ok (.putfield 167, 3) := by decide +kernel
theorem dX5_snapshot_23 : decode cX5_snapshot 23 = .ok (.aload_n 0, 1) := by decide +kernel
theorem dX5_snapshot_24 : decode cX5_snapshot 24 = .ok (.aload_n 0, 1) := by decide +kernel
theorem dX5_snapshot_25 : decode cX5_snapshot 25 = .ok (.getfield 19, 3) := by decide +kernel
theorem dX5_snapshot_28 : decode cX5_snapshot 28 = .ok (.aload_n 0, 1) := by decide +kernel
theorem dX5_snapshot_29 : decode cX5_snapshot 29 = .ok (.getfield 44, 3) := by decide +kernel
theorem dX5_snapshot_32 : decode cX5_snapshot 32 = .ok (.invokevirtual 121, 3) := by decide +kernel
theorem dX5_snapshot_35 : decode cX5_snapshot 35 = .ok (.aload_n 0, 1) := by decide +kernel
theorem dX5_snapshot_36 : decode cX5_snapshot 36 = .ok (.aload_n 0, 1) := by decide +kernel
theorem dX5_snapshot_37 : decode cX5_snapshot 37 = .ok (.getfield 25, 3) := by decide +kernel
theorem dX5_snapshot_40 : decode cX5_snapshot 40 = .ok (.aload_n 0, 1) := by decide +kernel
theorem dX5_snapshot_41 : decode cX5_snapshot 41 = .ok (.getfield 50, 3) := by decide +kernel
theorem dX5_snapshot_44 : decode cX5_snapshot 44 = .ok (.invokevirtual 121, 3) := by decide +kernel
theorem dX5_snapshot_47 : decode cX5_snapshot 47 = .ok (.iconst 0, 1) := by decide +kernel
theorem dX5_snapshot_48 : decode cX5_snapshot 48 = .ok (.istore_n 1, 1) := by decide +kernel
theorem dX5_snapshot_49 : decode cX5_snapshot 49 = .ok (.iload_n 1, 1) := by decide +kernel
theorem dX5_snapshot_50 : decode cX5_snapshot 50 = .ok (.iconst 4, 1) := by decide +kernel
theorem dX5_snapshot_51 : decode cX5_snapshot 51 = .ok (.if_icmp .ge 21, 3) := by decide +kernel
theorem dX5_snapshot_54 : decode cX5_snapshot 54 = .ok (.aload_n 0, 1) := by decide +kernel
theorem dX5_snapshot_55 : decode cX5_snapshot 55 = .ok (.getfield 47, 3) := by decide +kernel
theorem dX5_snapshot_58 : decode cX5_snapshot 58 = .ok (.iload_n 1, 1) := by decide +kernel
theorem dX5_snapshot_59 : decode cX5_snapshot 59 = .ok (.aload_n 0, 1) := by decide +kernel
theorem dX5_snapshot_60 : decode cX5_snapshot 60 = .ok (.getfield 22, 3) := by decide +kernel
theorem dX5_snapshot_63 : decode cX5_snapshot 63 = .ok (.iload_n 1, 1) := by decide +kernel
theorem dX5_snapshot_64 : decode cX5_snapshot 64 = .ok (.iaload, 1) := by decide +kernel
theorem dX5_snapshot_65 : decode cX5_snapshot 65 = .ok (.iastore, 1) := by decide +kernel
theorem dX5_snapshot_66 : decode cX5_snapshot 66 = .ok (.iinc 1 1, 3) := by decide +kernel
theorem dX5_snapshot_69 : decode cX5_snapshot 69 = .ok (.goto (-20), 3) := by decide +kernel
theorem dX5_snapshot_72 : decode cX5_snapshot 72 = .ok (.iconst 0, 1) := by decide +kernel
theorem dX5_snapshot_73 : decode cX5_snapshot 73 = .ok (.istore_n 1, 1) := by decide +kernel
theorem dX5_snapshot_74 : decode cX5_snapshot 74 = .ok (.iload_n 1, 1) := by decide +kernel
theorem dX5_snapshot_75 : decode cX5_snapshot 75 = .ok (.bipush 64, 2) := by decide +kernel
theorem dX5_snapshot_77 : decode cX5_snapshot 77 = .ok (.if_icmp .ge 21, 3) := by decide +kernel
theorem dX5_snapshot_80 : decode cX5_snapshot 80 = .ok (.aload_n 0, 1) := by decide +kernel
theorem dX5_snapshot_81 : decode cX5_snapshot 81 = .ok (.getfield 53, 3) := by decide +kernel
theorem dX5_snapshot_84 : decode cX5_snapshot 84 = .ok (.iload_n 1, 1) := by decide +kernel
theorem dX5_snapshot_85 : decode cX5_snapshot 85 = .ok (.aload_n 0, 1) := by decide +kernel
theorem dX5_snapshot_86 : decode cX5_snapshot 86 = .ok (.getfield 28, 3) := by decide +kernel
theorem dX5_snapshot_89 : decode cX5_snapshot 89 = .ok (.iload_n 1, 1) := by decide +kernel
theorem dX5_snapshot_90 : decode cX5_snapshot 90 = .ok (.iaload, 1) := by decide +kernel
theorem dX5_snapshot_91 : decode cX5_snapshot 91 = .ok (.iastore, 1) := by decide +kernel
theorem dX5_snapshot_92 : decode cX5_snapshot 92 = .ok (.iinc 1 1, 3) := by decide +kernel
theorem dX5_snapshot_95 : decode cX5_snapshot 95 = .ok (.goto (-21), 3) := by decide +kernel
theorem dX5_snapshot_98 : decode cX5_snapshot 98 = .ok (.aload_n 0, 1) := by decide +kernel
theorem dX5_snapshot_99 : decode cX5_snapshot 99 = .ok (.getfield 92, 3) := by decide +kernel
theorem dX5_snapshot_102 : decode cX5_snapshot 102 = .ok (.ireturn, 1) := by decide +kernel
set_option maxRecDepth 20000 in
theorem ggX5_restore_X5_copyRotors : GoodIn wsX5_restore wsX5_copyRotors := goodIn_r _ [16] rfl (by decide +kernel)
set_option maxRecDepth 20000 in
theorem gX5_restore_X5_copyRotors : GoodIn wsX5_restore (wsV RX5 121 RX5 yX5_copyRotors wsX5_copyRotors) := goodIn_app (goodIn_of _ (by decide +kernel)) ggX5_restore_X5_copyRotors
theorem dX5_restore_0 : decode cX5_restore 0 = .ok (.aload_n 0, 1) := by decide +kernel
theorem dX5_restore_1 : decode cX5_restore 1 = .ok (.getfield 95, 3) := by decide +kernel
theorem dX5_restore_4 : decode cX5_restore 4 = .ok (.ifCond .ne 6, 3) := by decide +kernel
theorem dX5_restore_7 : decode cX5_restore 7 = .ok (.bipush (-9), 2) := by decide +kernel
theorem dX5_restore_9 : decode cX5_restore 9 = .ok (.ireturn, 1) := by decide +kernel
theorem dX5_restore_10 : decode cX5_restore 10 = .ok (.aload_n 0, 1) := by decide +kernel
theorem dX5_restore_11 : decode cX5_restore 11 = .ok (.aload_n 0, 1) := by decide +kernel
theorem dX5_restore_12 : decode cX5_restore 12 = .ok (.getfield 167, 3) := by decide +kernel
theorem dX5_restore_15 : decode cX5_restore 15 = .ok (.putfield 92, 3) := by decide +kernel
theorem dX5_restore_18 : decode cX5_restore 18 = .ok (.aload_n 0, 1) := by decide +kernel
theorem dX5_restore_19 : decode cX5_restore 19 = .ok (.aload_n 0, 1) := by decide +kernel
theorem dX5_restore_20 : decode cX5_restore 20 = .ok (.getfield 44, 3) := by decide +kernel
theorem dX5_restore_23 : decode cX5_restore 23 = .ok (.aload_n 0, 1) := by decide +kernel
theorem dX5_restore_24 : decode cX5_restore 24 = .ok (.getfield 19, 3) := by decide +kernel
theorem dX5_restore_27 : decode cX5_restore 27 = .ok (.invokevirtual 121, 3) := by decide +kernel
theorem dX5_restore_30 : decode cX5_restore 30 = .ok (.aload_n 0, 1) := by decide +kernel
theorem dX5_restore_31 : decode cX5_restore 31 = .ok (.aload_n 0, 1) := by decide +kernel
theorem dX5_restore_32 : decode cX5_restore 32 = .ok (.getfield 50, 3) := by decide +kernel
theorem dX5_restore_35 : decode cX5_restore 35 = .ok (.aload_n 0, 1) := by decide +kernel
theorem dX5_restore_36 : decode cX5_restore 36 = .ok (.getfield 25, 3) := by decide +kernel
theorem dX5_restore_39 : decode cX5_restore 39 = .ok (.invokevirtual 121, 3) := by decide +kernel
theorem dX5_restore_42 : decode cX5_restore 42 = .ok (.iconst 0, 1) := by decide +kernel
theorem dX5_restore_43 : decode cX5_restore 43 = .ok (.istore_n 1, 1) := by decide +kernel
theorem dX5_restore_44 : decode cX5_restore 44 = .ok (.iload_n 1, 1) := by decide +kernel
theorem dX5_restore_45 : decode cX5_restore 45 = .ok (.iconst 4, 1) := by decide +kernel
theorem dX5_restore_46 : decode cX5_restore 46 = .ok (.if_icmp .ge 21, 3) := by decide +kernel
theorem dX5_restore_49 : decode cX5_restore 49 = .ok (.aload_n 0, 1) := by decide +kernel
theorem dX5_restore_50 : decode cX5_restore 50 = .ok (.getfield 22, 3) := by decide +kernel
theorem dX5_restore_53 : decode cX5_restore 53 = .ok (.iload_n 1, 1) := by decide +kernel
theorem dX5_restore_54 : decode cX5_restore 54 = .ok (.aload_n 0, 1) := by decide +kernel
theorem dX5_restore_55 : decode cX5_restore 55 = .ok (.getfield 47, 3) := by decide +kernel
theorem dX5_restore_58 : decode cX5_restore 58 = .ok (.iload_n 1, 1) := by decide +kernel
theorem dX5_restore_59 : decode cX5_restore 59 = .ok (.iaload, 1) := by decide +kernel
theorem dX5_restore_60 : decode cX5_restore 60 = .ok (.iastore, 1) := by decide +kernel
theorem dX5_restore_61 : decode cX5_restore 61 = .ok (.iinc 1 1, 3) := by decide +kernel
theorem dX5_restore_64 : decode cX5_restore 64 = .ok (.goto (-20), 3) := by decide +kernel
theorem dX5_restore_67 : decode cX5_restore 67 = .ok (.iconst 0, 1) := by decide +kernel
theorem dX5_restore_68 : decode cX5_restore 68 = .ok (.istore_n 1, 1) := by decide +kernel
theorem dX5_restore_69 : decode cX5_restore 69 = .ok (.iload_n 1, 1) := by decide +kernel
theorem dX5_restore_70 : decode cX5_restore 70 = .ok (.bipush 64, 2) := by decide +kernel
theorem dX5_restore_72 : decode cX5_restore 72 = .ok (.if_icmp .ge 21, 3) := by decide +kernel
theorem dX5_restore_75 : decode cX5_restore 75 = .ok (.aload_n 0, 1) := by decide +kernel
theorem dX5_restore_76 : decode cX5_restore 76 = .ok (.getfield 28, 3) := by decide +kernel
theorem dX5_restore_79 : decode cX5_restore 79 = .ok (.iload_n 1, 1) := by decide +kernel
theorem dX5_restore_80 : decode cX5_restore 80 = .ok (.aload_n 0, 1) := by decide +kernel
theorem dX5_restore_81 : decode cX5_restore 81 = .ok (.getfield 53, 3) := by decide +kernel
theorem dX5_restore_84 : decode cX5_restore 84 = .ok (.iload_n 1, 1) := by decide +kernel
theorem dX5_restore_85 : decode cX5_restore 85 = .ok (.iaload, 1) := by decide +kernel
theorem dX5_restore_86 : decode cX5_restore 86 = .ok (.iastore, 1) := by decide +kernel
theorem dX5_restore_87 : decode cX5_restore 87 = .ok (.iinc 1 1, 3) := by decide +kernel
theorem dX5_restore_90 : decode cX5_restore 90 = .ok (.goto (-21), 3) := by decide +kernel
theorem dX5_restore_93 : decode cX5_restore 93 = .ok (.aload_n 0, 1) := by decide +kernel
theorem dX5_restore_94 : decode cX5_restore 94 = .ok (.getfield 92, 3) := by decide +kernel
theorem dX5_restore_97 : decode cX5_restore 97 = .ok (.ireturn, 1) := by decide +kernel
theorem dX5_walkerCount_0 : decode cX5_walkerCount 0 = .ok (.aload_n 0, 1) := by decide +kernel
theorem dX5_walkerCount_1 : decode cX5_walkerCount 1 = .ok (.getfield 92, 3) := by decide +kernel
theorem dX5_walkerCount_4 : decode cX5_walkerCount 4 = .ok (.ireturn, 1) := by decide +kernel
theorem dX5_linkCount_0 : decode cX5_linkCount 0 = .ok (.aload_n 0, 1) := by decide +kernel
theorem dX5_linkCount_1 : decode cX5_linkCount 1 = .ok (.getfield 85, 3) := by decide +kernel
theorem dX5_linkCount_4 : decode cX5_linkCount 4 = .ok (.ireturn, 1) := by decide +kernel
theorem dX5_mix_0 : decode cX5_mix 0 = .ok (.aload_n 0, 1) := by decide +kernel
theorem dX5_mix_1 : decode cX5_mix 1 = .ok (.ldc2_w 170, 3) := by decide +kernel
theorem dX5_mix_4 : decode cX5_mix 4 = .ok (.aload_n 0, 1) := by decide +kernel
theorem dX5_mix_5 : decode cX5_mix 5 = .ok (.getfield 172, 3) := by decide +kernel
theorem dX5_mix_8 : decode cX5_mix 8 = .ok (.lmul, 1) := by decide +kernel
theorem dX5_mix_9 : decode cX5_mix 9 = .ok (.lload_n 1, 1) := by decide +kernel
theorem dX5_mix_10 : decode cX5_mix 10 = .ok (.ladd, 1) := by decide +kernel
theorem dX5_mix_11 : decode cX5_mix 11 = .ok (.putfield 172, 3) := by decide +kernel
theorem dX5_mix_14 : decode cX5_mix 14 = .ok (.return_, 1) := by decide +kernel
set_option maxRecDepth 20000 in
theorem ggX5_mixNode_X5_mix : GoodIn wsX5_mixNode wsX5_mix := goodIn_r _ [10, 11, 12, 13, 14, 15, 16, 17, 18, 19, 20, 21, 22, 23, 24, 25, 26, 27, 28, 29, 30, 31, 32, 33, 34, 35] rfl (by decide +kernel)
set_option maxRecDepth 20000 in
theorem gX5_mixNode_X5_mix : GoodIn wsX5_mixNode (wsV RX5 176 RX5 yX5_mix wsX5_mix) := goodIn_app (goodIn_of _ (by decide +kernel)) ggX5_mixNode_X5_mix
theorem dX5_mixNode_0 : decode cX5_mixNode 0 = .ok (.aload_n 0, 1) := by decide +kernel
theorem dX5_mixNode_1 : decode cX5_mixNode 1 = .ok (.aload_n 0, 1) := by decide +kernel
theorem dX5_mixNode_2 : decode cX5_mixNode 2 = .ok (.getfield 16, 3) := by decide +kernel
theorem dX5_mixNode_5 : decode cX5_mixNode 5 = .ok (.iload_n 1, 1) := by decide +kernel
theorem dX5_mixNode_6 : decode cX5_mixNode 6 = .ok (.iaload, 1) := by decide +kernel
theorem dX5_mixNode_7 : decode cX5_mixNode 7 = .ok (.i2l, 1) := by decide +kernel
theorem dX5_mixNode_8 : decode cX5_mixNode 8 = .ok (.invokevirtual 176, 3) := by decide +kernel
theorem dX5_mixNode_11 : decode cX5_mixNode 11 = .ok (.aload_n 0, 1) := by decide +kernel
theorem dX5_mixNode_12 : decode cX5_mixNode 12 = .ok (.aload_n 0, 1) := by decide +kernel
theorem dX5_mixNode_13 : decode cX5_mixNode 13 = .ok (.getfield 19, 3) := by decide +kernel
theorem dX5_mixNode_16 : decode cX5_mixNode 16 = .ok (.iload_n 1, 1) := by decide +kernel
theorem dX5_mixNode_17 : decode cX5_mixNode 17 = .ok (.iaload, 1) := by decide +kernel
theorem dX5_mixNode_18 : decode cX5_mixNode 18 = .ok (.i2l, 1) := by decide +kernel
theorem dX5_mixNode_19 : decode cX5_mixNode 19 = .ok (.invokevirtual 176, 3) := by decide +kernel
theorem dX5_mixNode_22 : decode cX5_mixNode 22 = .ok (.aload_n 0, 1) := by decide +kernel
theorem dX5_mixNode_23 : decode cX5_mixNode 23 = .ok (.aload_n 0, 1) := by decide +kernel
theorem dX5_mixNode_24 : decode cX5_mixNode 24 = .ok (.getfield 25, 3) := by decide +kernel
theorem dX5_mixNode_27 : decode cX5_mixNode 27 = .ok (.iload_n 1, 1) := by decide +kernel
theorem dX5_mixNode_28 : decode cX5_mixNode 28 = .ok (.iaload, 1) := by decide +kernel
theorem dX5_mixNode_29 : decode cX5_mixNode 29 = .ok (.i2l, 1) := by decide +kernel
theorem dX5_mixNode_30 : decode cX5_mixNode 30 = .ok (.invokevirtual 176, 3) := by decide +kernel
theorem dX5_mixNode_33 : decode cX5_mixNode 33 = .ok (.iconst 0, 1) := by decide +kernel
theorem dX5_mixNode_34 : decode cX5_mixNode 34 = .ok (.istore_n 2, 1) := by decide +kernel
theorem dX5_mixNode_35 : decode cX5_mixNode 35 = .ok (.iload_n 2, 1) := by decide +kernel
theorem dX5_mixNode_36 : decode cX5_mixNode 36 = .ok (.aload_n 0, 1) := by decide +kernel
theorem dX5_mixNode_37 : decode cX5_mixNode 37 = .ok (.getfield 16, 3) := by decide +kernel
theorem dX5_mixNode_40 : decode cX5_mixNode 40 = .ok (.iload_n 1, 1) := by decide +kernel
theorem dX5_mixNode_41 : decode cX5_mixNode 41 = .ok (.iaload, 1) := by decide +kernel
theorem dX5_mixNode_42 : decode cX5_mixNode 42 = .ok (.if_icmp .ge 41, 3) := by decide +kernel
theorem dX5_mixNode_45 : decode cX5_mixNode 45 = .ok (.aload_n 0, 1) := by decide +kernel
theorem dX5_mixNode_46 : decode cX5_mixNode 46 = .ok (.aload_n 0, 1) := by decide +kernel
theorem dX5_mixNode_47 : decode cX5_mixNode 47 = .ok (.getfield 13, 3) := by decide +kernel
theorem dX5_mixNode_50 : decode cX5_mixNode 50 = .ok (.bipush 8, 2) := by decide +kernel
theorem dX5_mixNode_52 : decode cX5_mixNode 52 = .ok (.iload_n 1, 1) := by decide +kernel
theorem dX5_mixNode_53 : decode cX5_mixNode 53 = .ok (.imul, 1) := by decide +kernel
theorem dX5_mixNode_54 : decode cX5_mixNode 54 = .ok (.iload_n 2, 1) := by decide +kernel
theorem dX5_mixNode_55 : decode cX5_mixNode 55 = .ok (.iadd, 1) := by decide +kernel
theorem dX5_mixNode_56 : decode cX5_mixNode 56 = .ok (.iaload, 1) := by decide +kernel
theorem dX5_mixNode_57 : decode cX5_mixNode 57 = .ok (.i2l, 1) := by decide +kernel
theorem dX5_mixNode_58 : decode cX5_mixNode 58 = .ok (.invokevirtual 176, 3) := by decide +kernel
theorem dX5_mixNode_61 : decode cX5_mixNode 61 = .ok (.aload_n 0, 1) := by decide +kernel
theorem dX5_mixNode_62 : decode cX5_mixNode 62 = .ok (.aload_n 0, 1) := by decide +kernel
theorem dX5_mixNode_63 : decode cX5_mixNode 63 = .ok (.getfield 28, 3) := by decide +kernel
theorem dX5_mixNode_66 : decode cX5_mixNode 66 = .ok (.bipush 8, 2) := by decide +kernel
theorem dX5_mixNode_68 : decode cX5_mixNode 68 = .ok (.iload_n 1, 1) := by decide +kernel
theorem dX5_mixNode_69 : decode cX5_mixNode 69 = .ok (.imul, 1) := by decide +kernel
theorem dX5_mixNode_70 : decode cX5_mixNode 70 = .ok (.iload_n 2, 1) := by decide +kernel
theorem dX5_mixNode_71 : decode cX5_mixNode 71 = .ok (.iadd, 1) := by decide +kernel
theorem dX5_mixNode_72 : decode cX5_mixNode 72 = .ok (.iaload, 1) := by decide +kernel
theorem dX5_mixNode_73 : decode cX5_mixNode 73 = .ok (.i2l, 1) := by decide +kernel
theorem dX5_mixNode_74 : decode cX5_mixNode 74 = .ok (.invokevirtual 176, 3) := by decide +kernel
theorem dX5_mixNode_77 : decode cX5_mixNode 77 = .ok (.iinc 2 1, 3) := by decide +kernel
theorem dX5_mixNode_80 : decode cX5_mixNode 80 = .ok (.goto (-45), 3) := by decide +kernel
theorem dX5_mixNode_83 : decode cX5_mixNode 83 = .ok (.return_, 1) := by decide +kernel
set_option maxRecDepth 20000 in
theorem ggX5_digest_X5_mix : GoodIn wsX5_digest wsX5_mix := goodIn_r _ [13, 14, 2, 86, 87, 88, 89, 90, 91, 92, 93, 94, 95, 96, 97, 98, 99, 100, 101, 102, 103, 104, 105, 106, 107, 108] rfl (by decide +kernel)
set_option maxRecDepth 20000 in
theorem gX5_digest_X5_mix : GoodIn wsX5_digest (wsV RX5 176 RX5 yX5_mix wsX5_mix) := goodIn_app (goodIn_of _ (by decide +kernel)) ggX5_digest_X5_mix
set_option maxRecDepth 20000 in
theorem ggX5_digest_X5_mixNode : GoodIn wsX5_digest wsX5_mixNode := goodIn_r _ [18, 19, 20, 21, 22, 23, 9, 10, 11, 12, 13, 14, 2, 86, 87, 88, 89, 90, 91, 92, 93, 94, 95, 96, 97, 98, 99, 100, 101, 102, 103, 104, 105, 106, 107, 108] rfl (by decide +kernel)
set_option maxRecDepth 20000 in
theorem gX5_digest_X5_mixNode : GoodIn wsX5_digest (wsV RX5 182 RX5 yX5_mixNode wsX5_mixNode) := goodIn_app (goodIn_of _ (by decide +kernel)) ggX5_digest_X5_mixNode
set_option maxRecDepth 20000 in
theorem ggX5_digest_X5_cycleOf : GoodIn wsX5_digest wsX5_cycleOf := goodIn_r _ [27, 20, 28, 29, 6, 4, 30, 31, 32, 12, 33, 34, 35, 36, 37, 22, 19, 38, 39, 40, 41, 3, 86, 87, 88, 89, 90, 91, 92, 93, 94, 95, 96, 97, 98, 99, 100, 101, 102, 103, 104, 105, 106, 107, 108] rfl (by decide +kernel)
set_option maxRecDepth 20000 in
theorem gX5_digest_X5_cycleOf : GoodIn wsX5_digest (wsV RX5 128 RX5 yX5_cycleOf wsX5_cycleOf) := goodIn_app (goodIn_of _ (by decide +kernel)) ggX5_digest_X5_cycleOf
set_option maxRecDepth 20000 in
theorem ggX5_digest_X5_coverOf : GoodIn wsX5_digest wsX5_coverOf := goodIn_r _ [45, 20, 28, 6, 30, 31, 32, 12, 33, 46, 47, 48, 49, 3, 34, 35, 36, 37, 22, 19, 86, 87, 88, 89, 90, 91, 92, 93, 94, 95, 96, 97, 98, 99, 100, 101, 102, 103, 104, 105, 106, 107, 108] rfl (by decide +kernel)
set_option maxRecDepth 20000 in
theorem gX5_digest_X5_coverOf : GoodIn wsX5_digest (wsV RX5 134 RX5 yX5_coverOf wsX5_coverOf) := goodIn_app (goodIn_of _ (by decide +kernel)) ggX5_digest_X5_coverOf
set_option maxRecDepth 20000 in
theorem ggX5_digest_X5_assignments : GoodIn wsX5_digest wsX5_assignments := goodIn_r _ [53, 3, 19, 86, 87, 88, 89, 90, 91, 92, 93, 94, 95, 96, 97, 98, 99, 100, 101, 102, 103, 104, 105, 106, 107, 108] rfl (by decide +kernel)
set_option maxRecDepth 20000 in
theorem gX5_digest_X5_assignments : GoodIn wsX5_digest (wsV RX5 137 RX5 yX5_assignments wsX5_assignments) := goodIn_app (goodIn_of _ (by decide +kernel)) ggX5_digest_X5_assignments
set_option maxRecDepth 20000 in
theorem ggX5_digest_X5_leastFrom : GoodIn wsX5_digest wsX5_leastFrom := goodIn_r _ [57, 58, 59, 50, 51, 52, 12, 53, 3, 19, 60, 61, 62, 63, 28, 46, 47, 48, 49, 34, 35, 36, 37, 22, 86, 87, 88, 89, 90, 91, 92, 93, 94, 95, 96, 97, 98, 99, 100, 101, 102, 103, 104, 105, 106, 107, 108] rfl (by decide +kernel)
set_option maxRecDepth 20000 in
theorem gX5_digest_X5_leastFrom : GoodIn wsX5_digest (wsV RX5 147 RX5 yX5_leastFrom wsX5_leastFrom) := goodIn_app (goodIn_of _ (by decide +kernel)) ggX5_digest_X5_leastFrom
set_option maxRecDepth 20000 in
theorem ggX5_digest_X5_expected : GoodIn wsX5_digest wsX5_expected := goodIn_r _ [67, 68, 69, 70, 71, 12, 72, 73, 3, 19, 22, 74, 75, 76, 77, 78, 79, 80, 81, 82, 83, 84, 85, 86, 87, 88, 89, 90, 91, 92, 93, 94, 95, 96, 97, 98, 99, 100, 101, 102, 103, 104, 105, 106, 107, 108] rfl (by decide +kernel)
set_option maxRecDepth 20000 in
theorem gX5_digest_X5_expected : GoodIn wsX5_digest (wsV RX5 161 RX5 yX5_expected wsX5_expected) := goodIn_app (goodIn_of _ (by decide +kernel)) ggX5_digest_X5_expected
theorem dX5_digest_0 : decode cX5_digest 0 = .ok (.aload_n 0, 1) := by decide +kernel
theorem dX5_digest_1 : decode cX5_digest 1 = .ok (.ldc2_w 180, 3) := by decide +kernel
theorem dX5_digest_4 : decode cX5_digest 4 = .ok (.putfield 172, 3) := by decide +kernel
theorem dX5_digest_7 : decode cX5_digest 7 = .ok (.aload_n 0, 1) := by decide +kernel
theorem dX5_digest_8 : decode cX5_digest 8 = .ok (.aload_n 0, 1) := by decide +kernel
theorem dX5_digest_9 : decode cX5_digest 9 = .ok (.getfield 82, 3) := by decide +kernel
theorem dX5_digest_12 : decode cX5_digest 12 = .ok (.i2l, 1) := by decide +kernel
theorem dX5_digest_13 : decode cX5_digest 13 = .ok (.invokevirtual 176, 3) := by decide +kernel
theorem dX5_digest_16 : decode cX5_digest 16 = .ok (.aload_n 0, 1) := by decide +kernel
theorem dX5_digest_17 : decode cX5_digest 17 = .ok (.aload_n 0, 1) := by decide +kernel
theorem dX5_digest_18 : decode cX5_digest 18 = .ok (.getfield 85, 3) := by decide +kernel
theorem dX5_digest_21 : decode cX5_digest 21 = .ok (.i2l, 1) := by decide +kernel
theorem dX5_digest_22 : decode cX5_digest 22 = .ok (.invokevirtual 176, 3) := by decide +kernel
theorem dX5_digest_25 : decode cX5_digest 25 = .ok (.iconst 0, 1) := by decide +kernel
theorem dX5_digest_26 : decode cX5_digest 26 = .ok (.istore_n 1, 1) := by decide +kernel
theorem dX5_digest_27 : decode cX5_digest 27 = .ok (.iload_n 1, 1) := by decide +kernel
theorem dX5_digest_28 : decode cX5_digest 28 = .ok (.aload_n 0, 1) := by decide +kernel
theorem dX5_digest_29 : decode cX5_digest 29 = .ok (.getfield 82, 3) := by decide +kernel
theorem dX5_digest_32 : decode cX5_digest 32 = .ok (.if_icmp .ge 14, 3) := by decide +kernel
theorem dX5_digest_35 : decode cX5_digest 35 = .ok (.aload_n 0, 1) := by decide +kernel
theorem dX5_digest_36 : decode cX5_digest 36 = .ok (.iload_n 1, 1) := by decide +kernel
theorem dX5_digest_37 : decode cX5_digest 37 = .ok (.invokevirtual 182, 3) := by decide +kernel
theorem dX5_digest_40 : decode cX5_digest 40 = .ok (.iinc 1 1, 3) := by decide +kernel
theorem dX5_digest_43 : decode cX5_digest 43 = .ok (.goto (-16), 3) := by decide +kernel
theorem dX5_digest_46 : decode cX5_digest 46 = .ok (.aload_n 0, 1) := by decide +kernel
theorem dX5_digest_47 : decode cX5_digest 47 = .ok (.aload_n 0, 1) := by decide +kernel
theorem dX5_digest_48 : decode cX5_digest 48 = .ok (.getfield 92, 3) := by decide +kernel
theorem dX5_digest_51 : decode cX5_digest 51 = .ok (.i2l, 1) := by decide +kernel
theorem dX5_digest_52 : decode cX5_digest 52 = .ok (.invokevirtual 176, 3) := by decide +kernel
theorem dX5_digest_55 : decode cX5_digest 55 = .ok (.iconst 0, 1) := by decide +kernel
theorem dX5_digest_56 : decode cX5_digest 56 = .ok (.istore_n 1, 1) := by decide +kernel
theorem dX5_digest_57 : decode cX5_digest 57 = .ok (.iload_n 1, 1) := by decide +kernel
theorem dX5_digest_58 : decode cX5_digest 58 = .ok (.aload_n 0, 1) := by decide +kernel
theorem dX5_digest_59 : decode cX5_digest 59 = .ok (.getfield 92, 3) := by decide +kernel
theorem dX5_digest_62 : decode cX5_digest 62 = .ok (.if_icmp .ge 40, 3) := by decide +kernel
theorem dX5_digest_65 : decode cX5_digest 65 = .ok (.aload_n 0, 1) := by decide +kernel
theorem dX5_digest_66 : decode cX5_digest 66 = .ok (.aload_n 0, 1) := by decide +kernel
theorem dX5_digest_67 : decode cX5_digest 67 = .ok (.getfield 22, 3) := by decide +kernel
theorem dX5_digest_70 : decode cX5_digest 70 = .ok (.iload_n 1, 1) := by decide +kernel
theorem dX5_digest_71 : decode cX5_digest 71 = .ok (.iaload, 1) := by decide +kernel
theorem dX5_digest_72 : decode cX5_digest 72 = .ok (.i2l, 1) := by decide +kernel
theorem dX5_digest_73 : decode cX5_digest 73 = .ok (.invokevirtual 176, 3) := by decide +kernel
theorem dX5_digest_76 : decode cX5_digest 76 = .ok (.aload_n 0, 1) := by decide +kernel
theorem dX5_digest_77 : decode cX5_digest 77 = .ok (.aload_n 0, 1) := by decide +kernel
theorem dX5_digest_78 : decode cX5_digest 78 = .ok (.iload_n 1, 1) := by decide +kernel
theorem dX5_digest_79 : decode cX5_digest 79 = .ok (.invokevirtual 128, 3) := by decide +kernel
theorem dX5_digest_82 : decode cX5_digest 82 = .ok (.i2l, 1) := by decide +kernel
theorem dX5_digest_83 : decode cX5_digest 83 = .ok (.invokevirtual 176, 3) := by decide +kernel
theorem dX5_digest_86 : decode cX5_digest 86 = .ok (.aload_n 0, 1) := by decide +kernel
theorem dX5_digest_87 : decode cX5_digest 87 = .ok (.aload_n 0, 1) := by decide +kernel
theorem dX5_digest_88 : decode cX5_digest 88 = .ok (.iload_n 1, 1) := by decide +kernel
theorem dX5_digest_89 : decode cX5_digest 89 = .ok (.invokevirtual 134, 3) := by decide +kernel
theorem dX5_digest_92 : decode cX5_digest 92 = .ok (.i2l, 1) := by decide +kernel
theorem dX5_digest_93 : decode cX5_digest 93 = .ok (.invokevirtual 176, 3) := by decide +kernel
theorem dX5_digest_96 : decode cX5_digest 96 = .ok (.iinc 1 1, 3) := by decide +kernel
theorem dX5_digest_99 : decode cX5_digest 99 = .ok (.goto (-42), 3) := by decide +kernel
theorem dX5_digest_102 : decode cX5_digest 102 = .ok (.aload_n 0, 1) := by decide +kernel
theorem dX5_digest_103 : decode cX5_digest 103 = .ok (.getfield 82, 3) := by decide +kernel
theorem dX5_digest_106 : decode cX5_digest 106 = .ok (.ifCond .le 23, 3) := by decide +kernel
theorem dX5_digest_109 : decode cX5_digest 109 = .ok (.aload_n 0, 1) := by decide +kernel
theorem dX5_digest_110 : decode cX5_digest 110 = .ok (.invokevirtual 137, 3) := by decide +kernel
theorem dX5_digest_113 : decode cX5_digest 113 = .ok (.sipush 2000, 3) := by decide +kernel
theorem dX5_digest_116 : decode cX5_digest 116 = .ok (.if_icmp .gt 13, 3) := by decide +kernel
theorem dX5_digest_119 : decode cX5_digest 119 = .ok (.aload_n 0, 1) := by decide +kernel
theorem dX5_digest_120 : decode cX5_digest 120 = .ok (.aload_n 0, 1) := by decide +kernel
theorem dX5_digest_121 : decode cX5_digest 121 = .ok (.iconst 0, 1) := by decide +kernel
theorem dX5_digest_122 : decode cX5_digest 122 = .ok (.invokevirtual 147, 3) := by decide +kernel
theorem dX5_digest_125 : decode cX5_digest 125 = .ok (.i2l, 1) := by decide +kernel
theorem dX5_digest_126 : decode cX5_digest 126 = .ok (.invokevirtual 176, 3) := by decide +kernel
theorem dX5_digest_129 : decode cX5_digest 129 = .ok (.aload_n 0, 1) := by decide +kernel
theorem dX5_digest_130 : decode cX5_digest 130 = .ok (.getfield 82, 3) := by decide +kernel
theorem dX5_digest_133 : decode cX5_digest 133 = .ok (.ifCond .le 15, 3) := by decide +kernel
theorem dX5_digest_136 : decode cX5_digest 136 = .ok (.aload_n 0, 1) := by decide +kernel
theorem dX5_digest_137 : decode cX5_digest 137 = .ok (.aload_n 0, 1) := by decide +kernel
theorem dX5_digest_138 : decode cX5_digest 138 = .ok (.iconst 0, 1) := by decide +kernel
theorem dX5_digest_139 : decode cX5_digest 139 = .ok (.bipush 7, 2) := by decide +kernel
theorem dX5_digest_141 : decode cX5_digest 141 = .ok (.iconst 1, 1) := by decide +kernel
theorem dX5_digest_142 : decode cX5_digest 142 = .ok (.invokevirtual 161, 3) := by decide +kernel
theorem dX5_digest_145 : decode cX5_digest 145 = .ok (.invokevirtual 176, 3) := by decide +kernel
theorem dX5_digest_148 : decode cX5_digest 148 = .ok (.aload_n 0, 1) := by decide +kernel
theorem dX5_digest_149 : decode cX5_digest 149 = .ok (.aload_n 0, 1) := by decide +kernel
theorem dX5_digest_150 : decode cX5_digest 150 = .ok (.getfield 60, 3) := by decide +kernel
theorem dX5_digest_153 : decode cX5_digest 153 = .ok (.i2l, 1) := by decide +kernel
theorem dX5_digest_154 : decode cX5_digest 154 = .ok (.invokevirtual 176, 3) := by decide +kernel
theorem dX5_digest_157 : decode cX5_digest 157 = .ok (.iconst 0, 1) := by decide +kernel
theorem dX5_digest_158 : decode cX5_digest 158 = .ok (.istore_n 1, 1) := by decide +kernel
theorem dX5_digest_159 : decode cX5_digest 159 = .ok (.iload_n 1, 1) := by decide +kernel
theorem dX5_digest_160 : decode cX5_digest 160 = .ok (.aload_n 0, 1) := by decide +kernel
theorem dX5_digest_161 : decode cX5_digest 161 = .ok (.getfield 60, 3) := by decide +kernel
theorem dX5_digest_164 : decode cX5_digest 164 = .ok (.if_icmp .ge 20, 3) := by decide +kernel
theorem dX5_digest_167 : decode cX5_digest 167 = .ok (.aload_n 0, 1) := by decide +kernel
theorem dX5_digest_168 : decode cX5_digest 168 = .ok (.aload_n 0, 1) := by decide +kernel
theorem dX5_digest_169 : decode cX5_digest 169 = .ok (.getfield 7, 3) := by decide +kernel
theorem dX5_digest_172 : decode cX5_digest 172 = .ok (.iload_n 1, 1) := by decide +kernel
theorem dX5_digest_173 : decode cX5_digest 173 = .ok (.iaload, 1) := by decide +kernel
theorem dX5_digest_174 : decode cX5_digest 174 = .ok (.i2l, 1) := by decide +kernel
theorem dX5_digest_175 : decode cX5_digest 175 = .ok (.invokevirtual 176, 3) := by decide +kernel
theorem dX5_digest_178 : decode cX5_digest 178 = .ok (.iinc 1 1, 3) := by decide +kernel
theorem dX5_digest_181 : decode cX5_digest 181 = .ok (.goto (-22), 3) := by decide +kernel
theorem dX5_digest_184 : decode cX5_digest 184 = .ok (.aload_n 0, 1) := by decide +kernel
theorem dX5_digest_185 : decode cX5_digest 185 = .ok (.getfield 172, 3) := by decide +kernel
theorem dX5_digest_188 : decode cX5_digest 188 = .ok (.lreturn, 1) := by decide +kernel
theorem dJxe99ae_isNaN_b9ae7_0 : decode cJxe99ae_isNaN_b9ae7 0 = .ok (.dload_n 0, 1) := by decide +kernel
theorem dJxe99ae_isNaN_b9ae7_1 : decode cJxe99ae_isNaN_b9ae7 1 = .ok (.dload_n 0, 1) := by decide +kernel
theorem dJxe99ae_isNaN_b9ae7_2 : decode cJxe99ae_isNaN_b9ae7 2 = .ok (.dcmp .l, 1) := by decide +kernel
theorem dJxe99ae_isNaN_b9ae7_3 : decode cJxe99ae_isNaN_b9ae7 3 = .ok (.ifCond .eq 7, 3) := by decide +kernel
theorem dJxe99ae_isNaN_b9ae7_6 : decode cJxe99ae_isNaN_b9ae7 6 = .ok (.iconst 1, 1) := by decide +kernel
theorem dJxe99ae_isNaN_b9ae7_7 : decode cJxe99ae_isNaN_b9ae7 7 = .ok (.goto 4, 3) := by decide +kernel
theorem dJxe99ae_isNaN_b9ae7_10 : decode cJxe99ae_isNaN_b9ae7 10 = .ok (.iconst 0, 1) := by decide +kernel
theorem dJxe99ae_isNaN_b9ae7_11 : decode cJxe99ae_isNaN_b9ae7 11 = .ok (.ireturn, 1) := by decide +kernel
set_option maxRecDepth 20000 in
theorem ggJxe99ae_doubleToLongBits_ccdee_Jxe99ae_isNaN_b9ae7 : GoodIn wsJxe99ae_doubleToLongBits_ccdee wsJxe99ae_isNaN_b9ae7 := goodIn_r _ [9] rfl (by decide +kernel)
set_option maxRecDepth 20000 in
theorem gJxe99ae_doubleToLongBits_ccdee_Jxe99ae_isNaN_b9ae7 : GoodIn wsJxe99ae_doubleToLongBits_ccdee (va_wsS RJxe99ae 122 yJxe99ae_isNaN_b9ae7 wsJxe99ae_isNaN_b9ae7) := goodIn_app (goodIn_of _ (by decide +kernel)) ggJxe99ae_doubleToLongBits_ccdee_Jxe99ae_isNaN_b9ae7
theorem dJxe99ae_doubleToLongBits_ccdee_0 : decode cJxe99ae_doubleToLongBits_ccdee 0 = .ok (.dload_n 0, 1) := by decide +kernel
theorem dJxe99ae_doubleToLongBits_ccdee_1 : decode cJxe99ae_doubleToLongBits_ccdee 1 = .ok (.invokestatic 122, 3) := by decide +kernel
theorem dJxe99ae_doubleToLongBits_ccdee_4 : decode cJxe99ae_doubleToLongBits_ccdee 4 = .ok (.ifCond .ne 8, 3) := by decide +kernel
theorem dJxe99ae_doubleToLongBits_ccdee_7 : decode cJxe99ae_doubleToLongBits_ccdee 7 = .ok (.dload_n 0, 1) := by decide +kernel
theorem dJxe99ae_doubleToLongBits_ccdee_8 : decode cJxe99ae_doubleToLongBits_ccdee 8 = .ok (.invokestatic 134, 3) := by decide +kernel
theorem dJxe99ae_doubleToLongBits_ccdee_11 : decode cJxe99ae_doubleToLongBits_ccdee 11 = .ok (.lreturn, 1) := by decide +kernel
theorem dJxe99ae_doubleToLongBits_ccdee_12 : decode cJxe99ae_doubleToLongBits_ccdee 12 = .ok (.ldc2_w 137, 3) := by decide +kernel
theorem dJxe99ae_doubleToLongBits_ccdee_15 : decode cJxe99ae_doubleToLongBits_ccdee 15 = .ok (.lreturn, 1) := by decide +kernel
