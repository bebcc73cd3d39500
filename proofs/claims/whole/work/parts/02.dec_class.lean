theorem dX0_init_0 : decode cX0_init 0 = .ok (.aload_n 0, 1) := by decide +kernel
theorem dX0_init_1 : decode cX0_init 1 = .ok (.invokespecial 3, 3) := by decide +kernel
theorem dX0_init_4 : decode cX0_init 4 = .ok (.aload_n 0, 1) := by decide +kernel
theorem dX0_init_5 : decode cX0_init 5 = .ok (.bipush 8, 2) := by decide +kernel
theorem dX0_init_7 : decode cX0_init 7 = .ok (.newarray .int, 2) := by decide +kernel
theorem dX0_init_9 : decode cX0_init 9 = .ok (.putfield 9, 3) := by decide +kernel
theorem dX0_init_12 : decode cX0_init 12 = .ok (.aload_n 0, 1) := by decide +kernel
theorem dX0_init_13 : decode cX0_init 13 = .ok (.bipush 56, 2) := by decide +kernel
theorem dX0_init_15 : decode cX0_init 15 = .ok (.newarray .int, 2) := by decide +kernel
theorem dX0_init_17 : decode cX0_init 17 = .ok (.putfield 15, 3) := by decide +kernel
theorem dX0_init_20 : decode cX0_init 20 = .ok (.aload_n 0, 1) := by decide +kernel
theorem dX0_init_21 : decode cX0_init 21 = .ok (.iconst 0, 1) := by decide +kernel
theorem dX0_init_22 : decode cX0_init 22 = .ok (.putfield 18, 3) := by decide +kernel
theorem dX0_init_25 : decode cX0_init 25 = .ok (.aload_n 0, 1) := by decide +kernel
theorem dX0_init_26 : decode cX0_init 26 = .ok (.iconst 0, 1) := by decide +kernel
theorem dX0_init_27 : decode cX0_init 27 = .ok (.putfield 22, 3) := by decide +kernel
theorem dX0_init_30 : decode cX0_init 30 = .ok (.return_, 1) := by decide +kernel
theorem dX0_slot_0 : decode cX0_slot 0 = .ok (.iload_n 0, 1) := by decide +kernel
theorem dX0_slot_1 : decode cX0_slot 1 = .ok (.bipush 7, 2) := by decide +kernel
theorem dX0_slot_3 : decode cX0_slot 3 = .ok (.imul, 1) := by decide +kernel
theorem dX0_slot_4 : decode cX0_slot 4 = .ok (.iload_n 1, 1) := by decide +kernel
theorem dX0_slot_5 : decode cX0_slot 5 = .ok (.iadd, 1) := by decide +kernel
theorem dX0_slot_6 : decode cX0_slot 6 = .ok (.ireturn, 1) := by decide +kernel
set_option maxRecDepth 20000 in
theorem ggX0_build_X1_nodes : GoodIn wsX0_build wsX1_nodes := goodIn_r _ [8, 9, 36, 37] rfl (by decide +kernel)
set_option maxRecDepth 20000 in
theorem gX0_build_X1_nodes : GoodIn wsX0_build (wsV RX0 25 RX1 yX1_nodes wsX1_nodes) := goodIn_app (goodIn_of _ (by decide +kernel)) ggX0_build_X1_nodes
set_option maxRecDepth 20000 in
theorem ggX0_build_X1_links : GoodIn wsX0_build wsX1_links := goodIn_r _ [13, 14, 36, 37] rfl (by decide +kernel)
set_option maxRecDepth 20000 in
theorem gX0_build_X1_links : GoodIn wsX0_build (wsV RX0 30 RX1 yX1_links wsX1_links) := goodIn_app (goodIn_of _ (by decide +kernel)) ggX0_build_X1_links
set_option maxRecDepth 20000 in
theorem ggX0_build_X1_firstNode : GoodIn wsX0_build wsX1_firstNode := goodIn_r _ [18, 9, 36, 37] rfl (by decide +kernel)
set_option maxRecDepth 20000 in
theorem gX0_build_X1_firstNode : GoodIn wsX0_build (wsV RX0 32 RX1 yX1_firstNode wsX1_firstNode) := goodIn_app (goodIn_of _ (by decide +kernel)) ggX0_build_X1_firstNode
set_option maxRecDepth 20000 in
theorem ggX0_build_X1_secondNode : GoodIn wsX0_build wsX1_secondNode := goodIn_r _ [22, 9, 36, 37] rfl (by decide +kernel)
set_option maxRecDepth 20000 in
theorem gX0_build_X1_secondNode : GoodIn wsX0_build (wsV RX0 36 RX1 yX1_secondNode wsX1_secondNode) := goodIn_app (goodIn_of _ (by decide +kernel)) ggX0_build_X1_secondNode
set_option maxRecDepth 20000 in
theorem ggX0_build_X0_addNeighbor : GoodIn wsX0_build wsX0_addNeighbor := goodIn_r _ [27, 28, 3, 29, 30, 26, 31, 32, 33, 34, 35] rfl (by decide +kernel)
set_option maxRecDepth 20000 in
theorem gX0_build_X0_addNeighbor : GoodIn wsX0_build (wsV RX0 39 RX0 yX0_addNeighbor wsX0_addNeighbor) := goodIn_app (goodIn_of _ (by decide +kernel)) ggX0_build_X0_addNeighbor
theorem dX0_build_0 : decode cX0_build 0 = .ok (.aload_n 0, 1) := by decide +kernel
theorem dX0_build_1 : decode cX0_build 1 = .ok (.aload_n 1, 1) := by decide +kernel
theorem dX0_build_2 : decode cX0_build 2 = .ok (.invokevirtual 25, 3) := by decide +kernel
theorem dX0_build_5 : decode cX0_build 5 = .ok (.putfield 18, 3) := by decide +kernel
theorem dX0_build_8 : decode cX0_build 8 = .ok (.aload_n 0, 1) := by decide +kernel
theorem dX0_build_9 : decode cX0_build 9 = .ok (.aload_n 1, 1) := by decide +kernel
theorem dX0_build_10 : decode cX0_build 10 = .ok (.invokevirtual 30, 3) := by decide +kernel
theorem dX0_build_13 : decode cX0_build 13 = .ok (.putfield 22, 3) := by decide +kernel
theorem dX0_build_16 : decode cX0_build 16 = .ok (.iconst 0, 1) := by decide +kernel
theorem dX0_build_17 : decode cX0_build 17 = .ok (.istore_n 2, 1) := by decide +kernel
theorem dX0_build_18 : decode cX0_build 18 = .ok (.iload_n 2, 1) := by decide +kernel
theorem dX0_build_19 : decode cX0_build 19 = .ok (.bipush 8, 2) := by decide +kernel
theorem dX0_build_21 : decode cX0_build 21 = .ok (.if_icmp .ge 16, 3) := by decide +kernel
theorem dX0_build_24 : decode cX0_build 24 = .ok (.aload_n 0, 1) := by decide +kernel
theorem dX0_build_25 : decode cX0_build 25 = .ok (.getfield 9, 3) := by decide +kernel
theorem dX0_build_28 : decode cX0_build 28 = .ok (.iload_n 2, 1) := by decide +kernel
theorem dX0_build_29 : decode cX0_build 29 = .ok (.iconst 0, 1) := by decide +kernel
theorem dX0_build_30 : decode cX0_build 30 = .ok (.iastore, 1) := by decide +kernel
theorem dX0_build_31 : decode cX0_build 31 = .ok (.iinc 2 1, 3) := by decide +kernel
theorem dX0_build_34 : decode cX0_build 34 = .ok (.goto (-16), 3) := by decide +kernel
theorem dX0_build_37 : decode cX0_build 37 = .ok (.iconst 0, 1) := by decide +kernel
theorem dX0_build_38 : decode cX0_build 38 = .ok (.istore_n 2, 1) := by decide +kernel
theorem dX0_build_39 : decode cX0_build 39 = .ok (.iload_n 2, 1) := by decide +kernel
theorem dX0_build_40 : decode cX0_build 40 = .ok (.aload_n 0, 1) := by decide +kernel
theorem dX0_build_41 : decode cX0_build 41 = .ok (.getfield 22, 3) := by decide +kernel
theorem dX0_build_44 : decode cX0_build 44 = .ok (.if_icmp .ge 36, 3) := by decide +kernel
theorem dX0_build_47 : decode cX0_build 47 = .ok (.aload_n 1, 1) := by decide +kernel
theorem dX0_build_48 : decode cX0_build 48 = .ok (.iload_n 2, 1) := by decide +kernel
theorem dX0_build_49 : decode cX0_build 49 = .ok (.invokevirtual 32, 3) := by decide +kernel
theorem dX0_build_52 : decode cX0_build 52 = .ok (.istore_n 3, 1) := by decide +kernel
theorem dX0_build_53 : decode cX0_build 53 = .ok (.aload_n 1, 1) := by decide +kernel
theorem dX0_build_54 : decode cX0_build 54 = .ok (.iload_n 2, 1) := by decide +kernel
theorem dX0_build_55 : decode cX0_build 55 = .ok (.invokevirtual 36, 3) := by decide +kernel
theorem dX0_build_58 : decode cX0_build 58 = .ok (.istore 4, 2) := by decide +kernel
theorem dX0_build_60 : decode cX0_build 60 = .ok (.aload_n 0, 1) := by decide +kernel
theorem dX0_build_61 : decode cX0_build 61 = .ok (.iload_n 3, 1) := by decide +kernel
theorem dX0_build_62 : decode cX0_build 62 = .ok (.iload 4, 2) := by decide +kernel
theorem dX0_build_64 : decode cX0_build 64 = .ok (.invokevirtual 39, 3) := by decide +kernel
theorem dX0_build_67 : decode cX0_build 67 = .ok (.aload_n 0, 1) := by decide +kernel
theorem dX0_build_68 : decode cX0_build 68 = .ok (.iload 4, 2) := by decide +kernel
theorem dX0_build_70 : decode cX0_build 70 = .ok (.iload_n 3, 1) := by decide +kernel
theorem dX0_build_71 : decode cX0_build 71 = .ok (.invokevirtual 39, 3) := by decide +kernel
theorem dX0_build_74 : decode cX0_build 74 = .ok (.iinc 2 1, 3) := by decide +kernel
theorem dX0_build_77 : decode cX0_build 77 = .ok (.goto (-38), 3) := by decide +kernel
theorem dX0_build_80 : decode cX0_build 80 = .ok (.return_, 1) := by decide +kernel
theorem dX0_hasNode_0 : decode cX0_hasNode 0 = .ok (.iload_n 1, 1) := by decide +kernel
theorem dX0_hasNode_1 : decode cX0_hasNode 1 = .ok (.ifCond .lt 15, 3) := by decide +kernel
theorem dX0_hasNode_4 : decode cX0_hasNode 4 = .ok (.iload_n 1, 1) := by decide +kernel
theorem dX0_hasNode_5 : decode cX0_hasNode 5 = .ok (.aload_n 0, 1) := by decide +kernel
theorem dX0_hasNode_6 : decode cX0_hasNode 6 = .ok (.getfield 18, 3) := by decide +kernel
theorem dX0_hasNode_9 : decode cX0_hasNode 9 = .ok (.if_icmp .ge 7, 3) := by decide +kernel
theorem dX0_hasNode_12 : decode cX0_hasNode 12 = .ok (.iconst 1, 1) := by decide +kernel
theorem dX0_hasNode_13 : decode cX0_hasNode 13 = .ok (.goto 4, 3) := by decide +kernel
theorem dX0_hasNode_16 : decode cX0_hasNode 16 = .ok (.iconst 0, 1) := by decide +kernel
theorem dX0_hasNode_17 : decode cX0_hasNode 17 = .ok (.ireturn, 1) := by decide +kernel
set_option maxRecDepth 20000 in
theorem ggX0_neighborError_X0_hasNode : GoodIn wsX0_neighborError wsX0_hasNode := goodIn_r _ [6, 7, 8, 9, 10, 11] rfl (by decide +kernel)
set_option maxRecDepth 20000 in
theorem gX0_neighborError_X0_hasNode : GoodIn wsX0_neighborError (wsV RX0 43 RX0 yX0_hasNode wsX0_hasNode) := goodIn_app (goodIn_of _ (by decide +kernel)) ggX0_neighborError_X0_hasNode
theorem dX0_neighborError_0 : decode cX0_neighborError 0 = .ok (.aload_n 0, 1) := by decide +kernel
theorem dX0_neighborError_1 : decode cX0_neighborError 1 = .ok (.iload_n 1, 1) := by decide +kernel
theorem dX0_neighborError_2 : decode cX0_neighborError 2 = .ok (.invokevirtual 43, 3) := by decide +kernel
theorem dX0_neighborError_5 : decode cX0_neighborError 5 = .ok (.ifCond .ne 6, 3) := by decide +kernel
theorem dX0_neighborError_8 : decode cX0_neighborError 8 = .ok (.bipush (-4), 2) := by decide +kernel
theorem dX0_neighborError_10 : decode cX0_neighborError 10 = .ok (.ireturn, 1) := by decide +kernel
theorem dX0_neighborError_11 : decode cX0_neighborError 11 = .ok (.iload_n 2, 1) := by decide +kernel
theorem dX0_neighborError_12 : decode cX0_neighborError 12 = .ok (.ifCond .lt 17, 3) := by decide +kernel
theorem dX0_neighborError_15 : decode cX0_neighborError 15 = .ok (.iload_n 2, 1) := by decide +kernel
theorem dX0_neighborError_16 : decode cX0_neighborError 16 = .ok (.aload_n 0, 1) := by decide +kernel
theorem dX0_neighborError_17 : decode cX0_neighborError 17 = .ok (.getfield 9, 3) := by decide +kernel
theorem dX0_neighborError_20 : decode cX0_neighborError 20 = .ok (.iload_n 1, 1) := by decide +kernel
theorem dX0_neighborError_21 : decode cX0_neighborError 21 = .ok (.iaload, 1) := by decide +kernel
theorem dX0_neighborError_22 : decode cX0_neighborError 22 = .ok (.if_icmp .ge 7, 3) := by decide +kernel
theorem dX0_neighborError_25 : decode cX0_neighborError 25 = .ok (.iconst 0, 1) := by decide +kernel
theorem dX0_neighborError_26 : decode cX0_neighborError 26 = .ok (.goto 5, 3) := by decide +kernel
theorem dX0_neighborError_29 : decode cX0_neighborError 29 = .ok (.bipush (-6), 2) := by decide +kernel
theorem dX0_neighborError_31 : decode cX0_neighborError 31 = .ok (.ireturn, 1) := by decide +kernel
theorem dX0_rotorAfter_0 : decode cX0_rotorAfter 0 = .ok (.iload_n 2, 1) := by decide +kernel
theorem dX0_rotorAfter_1 : decode cX0_rotorAfter 1 = .ok (.iconst 1, 1) := by decide +kernel
theorem dX0_rotorAfter_2 : decode cX0_rotorAfter 2 = .ok (.iadd, 1) := by decide +kernel
theorem dX0_rotorAfter_3 : decode cX0_rotorAfter 3 = .ok (.istore_n 3, 1) := by decide +kernel
theorem dX0_rotorAfter_4 : decode cX0_rotorAfter 4 = .ok (.iload_n 3, 1) := by decide +kernel
theorem dX0_rotorAfter_5 : decode cX0_rotorAfter 5 = .ok (.aload_n 0, 1) := by decide +kernel
theorem dX0_rotorAfter_6 : decode cX0_rotorAfter 6 = .ok (.getfield 9, 3) := by decide +kernel
theorem dX0_rotorAfter_9 : decode cX0_rotorAfter 9 = .ok (.iload_n 1, 1) := by decide +kernel
theorem dX0_rotorAfter_10 : decode cX0_rotorAfter 10 = .ok (.iaload, 1) := by decide +kernel
theorem dX0_rotorAfter_11 : decode cX0_rotorAfter 11 = .ok (.if_icmp .ne 7, 3) := by decide +kernel
theorem dX0_rotorAfter_14 : decode cX0_rotorAfter 14 = .ok (.iconst 0, 1) := by decide +kernel
theorem dX0_rotorAfter_15 : decode cX0_rotorAfter 15 = .ok (.goto 4, 3) := by decide +kernel
theorem dX0_rotorAfter_18 : decode cX0_rotorAfter 18 = .ok (.iload_n 3, 1) := by decide +kernel
theorem dX0_rotorAfter_19 : decode cX0_rotorAfter 19 = .ok (.ireturn, 1) := by decide +kernel
theorem dX0_assignments_0 : decode cX0_assignments 0 = .ok (.iconst 1, 1) := by decide +kernel
theorem dX0_assignments_1 : decode cX0_assignments 1 = .ok (.istore_n 1, 1) := by decide +kernel
theorem dX0_assignments_2 : decode cX0_assignments 2 = .ok (.iconst 0, 1) := by decide +kernel
theorem dX0_assignments_3 : decode cX0_assignments 3 = .ok (.istore_n 2, 1) := by decide +kernel
theorem dX0_assignments_4 : decode cX0_assignments 4 = .ok (.iload_n 2, 1) := by decide +kernel
theorem dX0_assignments_5 : decode cX0_assignments 5 = .ok (.aload_n 0, 1) := by decide +kernel
theorem dX0_assignments_6 : decode cX0_assignments 6 = .ok (.getfield 18, 3) := by decide +kernel
theorem dX0_assignments_9 : decode cX0_assignments 9 = .ok (.if_icmp .ge 18, 3) := by decide +kernel
theorem dX0_assignments_12 : decode cX0_assignments 12 = .ok (.iload_n 1, 1) := by decide +kernel
theorem dX0_assignments_13 : decode cX0_assignments 13 = .ok (.aload_n 0, 1) := by decide +kernel
theorem dX0_assignments_14 : decode cX0_assignments 14 = .ok (.getfield 9, 3) := by decide +kernel
theorem dX0_assignments_17 : decode cX0_assignments 17 = .ok (.iload_n 2, 1) := by decide +kernel
theorem dX0_assignments_18 : decode cX0_assignments 18 = .ok (.iaload, 1) := by decide +kernel
theorem dX0_assignments_19 : decode cX0_assignments 19 = .ok (.imul, 1) := by decide +kernel
theorem dX0_assignments_20 : decode cX0_assignments 20 = .ok (.istore_n 1, 1) := by decide +kernel
theorem dX0_assignments_21 : decode cX0_assignments 21 = .ok (.iinc 2 1, 3) := by decide +kernel
theorem dX0_assignments_24 : decode cX0_assignments 24 = .ok (.goto (-20), 3) := by decide +kernel
theorem dX0_assignments_27 : decode cX0_assignments 27 = .ok (.iload_n 1, 1) := by decide +kernel
theorem dX0_assignments_28 : decode cX0_assignments 28 = .ok (.ireturn, 1) := by decide +kernel
set_option maxRecDepth 20000 in
theorem ggX0_addNeighbor_X0_slot : GoodIn wsX0_addNeighbor wsX0_slot := goodIn_r _ [6] rfl (by decide +kernel)
set_option maxRecDepth 20000 in
theorem gX0_addNeighbor_X0_slot : GoodIn wsX0_addNeighbor (va_wsS RX0 47 yX0_slot wsX0_slot) := goodIn_app (goodIn_of _ (by decide +kernel)) ggX0_addNeighbor_X0_slot
theorem dX0_addNeighbor_0 : decode cX0_addNeighbor 0 = .ok (.aload_n 0, 1) := by decide +kernel
theorem dX0_addNeighbor_1 : decode cX0_addNeighbor 1 = .ok (.getfield 15, 3) := by decide +kernel
theorem dX0_addNeighbor_4 : decode cX0_addNeighbor 4 = .ok (.iload_n 1, 1) := by decide +kernel
theorem dX0_addNeighbor_5 : decode cX0_addNeighbor 5 = .ok (.aload_n 0, 1) := by decide +kernel
theorem dX0_addNeighbor_6 : decode cX0_addNeighbor 6 = .ok (.getfield 9, 3) := by decide +kernel
theorem dX0_addNeighbor_9 : decode cX0_addNeighbor 9 = .ok (.iload_n 1, 1) := by decide +kernel
theorem dX0_addNeighbor_10 : decode cX0_addNeighbor 10 = .ok (.iaload, 1) := by decide +kernel
theorem dX0_addNeighbor_11 : decode cX0_addNeighbor 11 = .ok (.invokestatic 47, 3) := by decide +kernel
theorem dX0_addNeighbor_14 : decode cX0_addNeighbor 14 = .ok (.iload_n 2, 1) := by decide +kernel
theorem dX0_addNeighbor_15 : decode cX0_addNeighbor 15 = .ok (.iastore, 1) := by decide +kernel
theorem dX0_addNeighbor_16 : decode cX0_addNeighbor 16 = .ok (.aload_n 0, 1) := by decide +kernel
theorem dX0_addNeighbor_17 : decode cX0_addNeighbor 17 = .ok (.getfield 9, 3) := by decide +kernel
theorem dX0_addNeighbor_20 : decode cX0_addNeighbor 20 = .ok (.iload_n 1, 1) := by decide +kernel
theorem dX0_addNeighbor_21 : decode cX0_addNeighbor 21 = .ok (.dup2, 1) := by decide +kernel
theorem dX0_addNeighbor_22 : decode cX0_addNeighbor 22 = .ok (.iaload, 1) := by decide +kernel
theorem dX0_addNeighbor_23 : decode cX0_addNeighbor 23 = .ok (.iconst 1, 1) := by decide +kernel
theorem dX0_addNeighbor_24 : decode cX0_addNeighbor 24 = .ok (.iadd, 1) := by decide +kernel
theorem dX0_addNeighbor_25 : decode cX0_addNeighbor 25 = .ok (.iastore, 1) := by decide +kernel
theorem dX0_addNeighbor_26 : decode cX0_addNeighbor 26 = .ok (.return_, 1) := by decide +kernel
theorem dX1_init_0 : decode cX1_init 0 = .ok (.aload_n 0, 1) := by decide +kernel
theorem dX1_init_1 : decode cX1_init 1 = .ok (.invokespecial 5, 3) := by decide +kernel
theorem dX1_init_4 : decode cX1_init 4 = .ok (.aload_n 0, 1) := by decide +kernel
theorem dX1_init_5 : decode cX1_init 5 = .ok (.bipush 40, 2) := by decide +kernel
theorem dX1_init_7 : decode cX1_init 7 = .ok (.newarray .int, 2) := by decide +kernel
theorem dX1_init_9 : decode cX1_init 9 = .ok (.putfield 11, 3) := by decide +kernel
theorem dX1_init_12 : decode cX1_init 12 = .ok (.aload_n 0, 1) := by decide +kernel
theorem dX1_init_13 : decode cX1_init 13 = .ok (.iconst 0, 1) := by decide +kernel
theorem dX1_init_14 : decode cX1_init 14 = .ok (.putfield 15, 3) := by decide +kernel
theorem dX1_init_17 : decode cX1_init 17 = .ok (.return_, 1) := by decide +kernel
set_option maxRecDepth 20000 in
theorem ggX1_firstBrokenIndex_X1_keepsRules : GoodIn wsX1_firstBrokenIndex wsX1_keepsRules := goodIn_r _ [6, 7, 8, 9, 5, 10, 11, 12, 13, 14, 15, 16, 17, 18, 19, 20] rfl (by decide +kernel)
set_option maxRecDepth 20000 in
theorem gX1_firstBrokenIndex_X1_keepsRules : GoodIn wsX1_firstBrokenIndex (wsV RX1 19 RX1 yX1_keepsRules wsX1_keepsRules) := goodIn_app (goodIn_of _ (by decide +kernel)) ggX1_firstBrokenIndex_X1_keepsRules
theorem dX1_firstBrokenIndex_0 : decode cX1_firstBrokenIndex 0 = .ok (.iconst 0, 1) := by decide +kernel
theorem dX1_firstBrokenIndex_1 : decode cX1_firstBrokenIndex 1 = .ok (.istore_n 1, 1) := by decide +kernel
theorem dX1_firstBrokenIndex_2 : decode cX1_firstBrokenIndex 2 = .ok (.iload_n 1, 1) := by decide +kernel
theorem dX1_firstBrokenIndex_3 : decode cX1_firstBrokenIndex 3 = .ok (.aload_n 0, 1) := by decide +kernel
theorem dX1_firstBrokenIndex_4 : decode cX1_firstBrokenIndex 4 = .ok (.getfield 15, 3) := by decide +kernel
theorem dX1_firstBrokenIndex_7 : decode cX1_firstBrokenIndex 7 = .ok (.if_icmp .ge 17, 3) := by decide +kernel
theorem dX1_firstBrokenIndex_10 : decode cX1_firstBrokenIndex 10 = .ok (.aload_n 0, 1) := by decide +kernel
theorem dX1_firstBrokenIndex_11 : decode cX1_firstBrokenIndex 11 = .ok (.iload_n 1, 1) := by decide +kernel
theorem dX1_firstBrokenIndex_12 : decode cX1_firstBrokenIndex 12 = .ok (.invokevirtual 19, 3) := by decide +kernel
theorem dX1_firstBrokenIndex_15 : decode cX1_firstBrokenIndex 15 = .ok (.ifCond .eq 9, 3) := by decide +kernel
theorem dX1_firstBrokenIndex_18 : decode cX1_firstBrokenIndex 18 = .ok (.iinc 1 1, 3) := by decide +kernel
theorem dX1_firstBrokenIndex_21 : decode cX1_firstBrokenIndex 21 = .ok (.goto (-19), 3) := by decide +kernel
theorem dX1_firstBrokenIndex_24 : decode cX1_firstBrokenIndex 24 = .ok (.iload_n 1, 1) := by decide +kernel
theorem dX1_firstBrokenIndex_25 : decode cX1_firstBrokenIndex 25 = .ok (.ireturn, 1) := by decide +kernel
set_option maxRecDepth 20000 in
theorem ggX1_isComplete_X1_placeInGroup : GoodIn wsX1_isComplete wsX1_placeInGroup := goodIn_r _ [5] rfl (by decide +kernel)
set_option maxRecDepth 20000 in
theorem gX1_isComplete_X1_placeInGroup : GoodIn wsX1_isComplete (va_wsS RX1 23 yX1_placeInGroup wsX1_placeInGroup) := goodIn_app (goodIn_of _ (by decide +kernel)) ggX1_isComplete_X1_placeInGroup
set_option maxRecDepth 20000 in
theorem ggX1_isComplete_X1_firstBrokenIndex : GoodIn wsX1_isComplete wsX1_firstBrokenIndex := goodIn_r _ [9, 1, 10, 11, 12, 4, 13, 14, 2, 3, 5, 15, 16, 17, 18, 19, 20, 21, 22, 23, 24] rfl (by decide +kernel)
set_option maxRecDepth 20000 in
theorem gX1_isComplete_X1_firstBrokenIndex : GoodIn wsX1_isComplete (wsV RX1 27 RX1 yX1_firstBrokenIndex wsX1_firstBrokenIndex) := goodIn_app (goodIn_of _ (by decide +kernel)) ggX1_isComplete_X1_firstBrokenIndex
theorem dX1_isComplete_0 : decode cX1_isComplete 0 = .ok (.aload_n 0, 1) := by decide +kernel
theorem dX1_isComplete_1 : decode cX1_isComplete 1 = .ok (.getfield 15, 3) := by decide +kernel
theorem dX1_isComplete_4 : decode cX1_isComplete 4 = .ok (.iconst 2, 1) := by decide +kernel
theorem dX1_isComplete_5 : decode cX1_isComplete 5 = .ok (.if_icmp .le 31, 3) := by decide +kernel
theorem dX1_isComplete_8 : decode cX1_isComplete 8 = .ok (.aload_n 0, 1) := by decide +kernel
theorem dX1_isComplete_9 : decode cX1_isComplete 9 = .ok (.getfield 15, 3) := by decide +kernel
theorem dX1_isComplete_12 : decode cX1_isComplete 12 = .ok (.iconst 1, 1) := by decide +kernel
theorem dX1_isComplete_13 : decode cX1_isComplete 13 = .ok (.isub, 1) := by decide +kernel
theorem dX1_isComplete_14 : decode cX1_isComplete 14 = .ok (.invokestatic 23, 3) := by decide +kernel
theorem dX1_isComplete_17 : decode cX1_isComplete 17 = .ok (.iconst 1, 1) := by decide +kernel
theorem dX1_isComplete_18 : decode cX1_isComplete 18 = .ok (.if_icmp .ne 18, 3) := by decide +kernel
theorem dX1_isComplete_21 : decode cX1_isComplete 21 = .ok (.aload_n 0, 1) := by decide +kernel
theorem dX1_isComplete_22 : decode cX1_isComplete 22 = .ok (.invokevirtual 27, 3) := by decide +kernel
theorem dX1_isComplete_25 : decode cX1_isComplete 25 = .ok (.aload_n 0, 1) := by decide +kernel
theorem dX1_isComplete_26 : decode cX1_isComplete 26 = .ok (.getfield 15, 3) := by decide +kernel
theorem dX1_isComplete_29 : decode cX1_isComplete 29 = .ok (.if_icmp .ne 7, 3) := by decide +kernel
theorem dX1_isComplete_32 : decode cX1_isComplete 32 = .ok (.iconst 1, 1) := by decide +kernel
theorem dX1_isComplete_33 : decode cX1_isComplete 33 = .ok (.goto 4, 3) := by decide +kernel
theorem dX1_isComplete_36 : decode cX1_isComplete 36 = .ok (.iconst 0, 1) := by decide +kernel
theorem dX1_isComplete_37 : decode cX1_isComplete 37 = .ok (.ireturn, 1) := by decide +kernel
set_option maxRecDepth 20000 in
theorem ggX1_isConnected_X1_nodes : GoodIn wsX1_isConnected wsX1_nodes := goodIn_r _ [5, 6, 20, 21] rfl (by decide +kernel)
set_option maxRecDepth 20000 in
theorem gX1_isConnected_X1_nodes : GoodIn wsX1_isConnected (wsV RX1 31 RX1 yX1_nodes wsX1_nodes) := goodIn_app (goodIn_of _ (by decide +kernel)) ggX1_isConnected_X1_nodes
set_option maxRecDepth 20000 in
theorem ggX1_isConnected_X1_links : GoodIn wsX1_isConnected wsX1_links := goodIn_r _ [10, 11, 20, 21] rfl (by decide +kernel)
set_option maxRecDepth 20000 in
theorem gX1_isConnected_X1_links : GoodIn wsX1_isConnected (wsV RX1 34 RX1 yX1_links wsX1_links) := goodIn_app (goodIn_of _ (by decide +kernel)) ggX1_isConnected_X1_links
set_option maxRecDepth 20000 in
theorem ggX1_isConnected_X1_firstNode : GoodIn wsX1_isConnected wsX1_firstNode := goodIn_r _ [15, 6, 20, 21] rfl (by decide +kernel)
set_option maxRecDepth 20000 in
theorem gX1_isConnected_X1_firstNode : GoodIn wsX1_isConnected (wsV RX1 37 RX1 yX1_firstNode wsX1_firstNode) := goodIn_app (goodIn_of _ (by decide +kernel)) ggX1_isConnected_X1_firstNode
set_option maxRecDepth 20000 in
theorem ggX1_isConnected_X1_secondNode : GoodIn wsX1_isConnected wsX1_secondNode := goodIn_r _ [19, 6, 20, 21] rfl (by decide +kernel)
set_option maxRecDepth 20000 in
theorem gX1_isConnected_X1_secondNode : GoodIn wsX1_isConnected (wsV RX1 40 RX1 yX1_secondNode wsX1_secondNode) := goodIn_app (goodIn_of _ (by decide +kernel)) ggX1_isConnected_X1_secondNode
theorem dX1_isConnected_0 : decode cX1_isConnected 0 = .ok (.iconst 1, 1) := by decide +kernel
theorem dX1_isConnected_1 : decode cX1_isConnected 1 = .ok (.istore_n 1, 1) := by decide +kernel
theorem dX1_isConnected_2 : decode cX1_isConnected 2 = .ok (.iconst 1, 1) := by decide +kernel
theorem dX1_isConnected_3 : decode cX1_isConnected 3 = .ok (.istore_n 2, 1) := by decide +kernel
theorem dX1_isConnected_4 : decode cX1_isConnected 4 = .ok (.iload_n 2, 1) := by decide +kernel
theorem dX1_isConnected_5 : decode cX1_isConnected 5 = .ok (.aload_n 0, 1) := by decide +kernel
theorem dX1_isConnected_6 : decode cX1_isConnected 6 = .ok (.invokevirtual 31, 3) := by decide +kernel
theorem dX1_isConnected_9 : decode cX1_isConnected 9 = .ok (.if_icmp .ge 54, 3) := by decide +kernel
theorem dX1_isConnected_12 : decode cX1_isConnected 12 = .ok (.iconst 0, 1) := by decide +kernel
theorem dX1_isConnected_13 : decode cX1_isConnected 13 = .ok (.istore_n 3, 1) := by decide +kernel
theorem dX1_isConnected_14 : decode cX1_isConnected 14 = .ok (.iload_n 3, 1) := by decide +kernel
theorem dX1_isConnected_15 : decode cX1_isConnected 15 = .ok (.aload_n 0, 1) := by decide +kernel
theorem dX1_isConnected_16 : decode cX1_isConnected 16 = .ok (.invokevirtual 34, 3) := by decide +kernel
theorem dX1_isConnected_19 : decode cX1_isConnected 19 = .ok (.if_icmp .ge 38, 3) := by decide +kernel
theorem dX1_isConnected_22 : decode cX1_isConnected 22 = .ok (.iconst 1, 1) := by decide +kernel
theorem dX1_isConnected_23 : decode cX1_isConnected 23 = .ok (.aload_n 0, 1) := by decide +kernel
theorem dX1_isConnected_24 : decode cX1_isConnected 24 = .ok (.iload_n 3, 1) := by decide +kernel
theorem dX1_isConnected_25 : decode cX1_isConnected 25 = .ok (.invokevirtual 37, 3) := by decide +kernel
theorem dX1_isConnected_28 : decode cX1_isConnected 28 = .ok (.ishl, 1) := by decide +kernel
theorem dX1_isConnected_29 : decode cX1_isConnected 29 = .ok (.iconst 1, 1) := by decide +kernel
theorem dX1_isConnected_30 : decode cX1_isConnected 30 = .ok (.aload_n 0, 1) := by decide +kernel
theorem dX1_isConnected_31 : decode cX1_isConnected 31 = .ok (.iload_n 3, 1) := by decide +kernel
theorem dX1_isConnected_32 : decode cX1_isConnected 32 = .ok (.invokevirtual 40, 3) := by decide +kernel
theorem dX1_isConnected_35 : decode cX1_isConnected 35 = .ok (.ishl, 1) := by decide +kernel
theorem dX1_isConnected_36 : decode cX1_isConnected 36 = .ok (.ior, 1) := by decide +kernel
theorem dX1_isConnected_37 : decode cX1_isConnected 37 = .ok (.istore 4, 2) := by decide +kernel
theorem dX1_isConnected_39 : decode cX1_isConnected 39 = .ok (.iload_n 1, 1) := by decide +kernel
theorem dX1_isConnected_40 : decode cX1_isConnected 40 = .ok (.iload 4, 2) := by decide +kernel
theorem dX1_isConnected_42 : decode cX1_isConnected 42 = .ok (.iand, 1) := by decide +kernel
theorem dX1_isConnected_43 : decode cX1_isConnected 43 = .ok (.ifCond .eq 8, 3) := by decide +kernel
theorem dX1_isConnected_46 : decode cX1_isConnected 46 = .ok (.iload_n 1, 1) := by decide +kernel
theorem dX1_isConnected_47 : decode cX1_isConnected 47 = .ok (.iload 4, 2) := by decide +kernel
theorem dX1_isConnected_49 : decode cX1_isConnected 49 = .ok (.ior, 1) := by decide +kernel
theorem dX1_isConnected_50 : decode cX1_isConnected 50 = .ok (.istore_n 1, 1) := by decide +kernel
theorem dX1_isConnected_51 : decode cX1_isConnected 51 = .ok (.iinc 3 1, 3) := by decide +kernel
theorem dX1_isConnected_54 : decode cX1_isConnected 54 = .ok (.goto (-40), 3) := by decide +kernel
theorem dX1_isConnected_57 : decode cX1_isConnected 57 = .ok (.iinc 2 1, 3) := by decide +kernel
theorem dX1_isConnected_60 : decode cX1_isConnected 60 = .ok (.goto (-56), 3) := by decide +kernel
theorem dX1_isConnected_63 : decode cX1_isConnected 63 = .ok (.iload_n 1, 1) := by decide +kernel
theorem dX1_isConnected_64 : decode cX1_isConnected 64 = .ok (.iconst 1, 1) := by decide +kernel
theorem dX1_isConnected_65 : decode cX1_isConnected 65 = .ok (.aload_n 0, 1) := by decide +kernel
theorem dX1_isConnected_66 : decode cX1_isConnected 66 = .ok (.invokevirtual 31, 3) := by decide +kernel
theorem dX1_isConnected_69 : decode cX1_isConnected 69 = .ok (.ishl, 1) := by decide +kernel
theorem dX1_isConnected_70 : decode cX1_isConnected 70 = .ok (.iconst 1, 1) := by decide +kernel
theorem dX1_isConnected_71 : decode cX1_isConnected 71 = .ok (.isub, 1) := by decide +kernel
theorem dX1_isConnected_72 : decode cX1_isConnected 72 = .ok (.if_icmp .ne 7, 3) := by decide +kernel
theorem dX1_isConnected_75 : decode cX1_isConnected 75 = .ok (.iconst 1, 1) := by decide +kernel
theorem dX1_isConnected_76 : decode cX1_isConnected 76 = .ok (.goto 4, 3) := by decide +kernel
theorem dX1_isConnected_79 : decode cX1_isConnected 79 = .ok (.iconst 0, 1) := by decide +kernel
theorem dX1_isConnected_80 : decode cX1_isConnected 80 = .ok (.ireturn, 1) := by decide +kernel
theorem dX1_nodes_0 : decode cX1_nodes 0 = .ok (.aload_n 0, 1) := by decide +kernel
theorem dX1_nodes_1 : decode cX1_nodes 1 = .ok (.getfield 11, 3) := by decide +kernel
theorem dX1_nodes_4 : decode cX1_nodes 4 = .ok (.iconst 0, 1) := by decide +kernel
theorem dX1_nodes_5 : decode cX1_nodes 5 = .ok (.iaload, 1) := by decide +kernel
theorem dX1_nodes_6 : decode cX1_nodes 6 = .ok (.bipush 48, 2) := by decide +kernel
theorem dX1_nodes_8 : decode cX1_nodes 8 = .ok (.isub, 1) := by decide +kernel
theorem dX1_nodes_9 : decode cX1_nodes 9 = .ok (.ireturn, 1) := by decide +kernel
theorem dX1_links_0 : decode cX1_links 0 = .ok (.aload_n 0, 1) := by decide +kernel
theorem dX1_links_1 : decode cX1_links 1 = .ok (.getfield 15, 3) := by decide +kernel
theorem dX1_links_4 : decode cX1_links 4 = .ok (.iconst 1, 1) := by decide +kernel
theorem dX1_links_5 : decode cX1_links 5 = .ok (.isub, 1) := by decide +kernel
theorem dX1_links_6 : decode cX1_links 6 = .ok (.iconst 3, 1) := by decide +kernel
theorem dX1_links_7 : decode cX1_links 7 = .ok (.idiv, 1) := by decide +kernel
theorem dX1_links_8 : decode cX1_links 8 = .ok (.ireturn, 1) := by decide +kernel
theorem dX1_firstNode_0 : decode cX1_firstNode 0 = .ok (.aload_n 0, 1) := by decide +kernel
theorem dX1_firstNode_1 : decode cX1_firstNode 1 = .ok (.getfield 11, 3) := by decide +kernel
theorem dX1_firstNode_4 : decode cX1_firstNode 4 = .ok (.iconst 2, 1) := by decide +kernel
theorem dX1_firstNode_5 : decode cX1_firstNode 5 = .ok (.iconst 3, 1) := by decide +kernel
theorem dX1_firstNode_6 : decode cX1_firstNode 6 = .ok (.iload_n 1, 1) := by decide +kernel
theorem dX1_firstNode_7 : decode cX1_firstNode 7 = .ok (.imul, 1) := by decide +kernel
theorem dX1_firstNode_8 : decode cX1_firstNode 8 = .ok (.iadd, 1) := by decide +kernel
theorem dX1_firstNode_9 : decode cX1_firstNode 9 = .ok (.iaload, 1) := by decide +kernel
theorem dX1_firstNode_10 : decode cX1_firstNode 10 = .ok (.bipush 48, 2) := by decide +kernel
theorem dX1_firstNode_12 : decode cX1_firstNode 12 = .ok (.isub, 1) := by decide +kernel
theorem dX1_firstNode_13 : decode cX1_firstNode 13 = .ok (.ireturn, 1) := by decide +kernel
theorem dX1_secondNode_0 : decode cX1_secondNode 0 = .ok (.aload_n 0, 1) := by decide +kernel
theorem dX1_secondNode_1 : decode cX1_secondNode 1 = .ok (.getfield 11, 3) := by decide +kernel
theorem dX1_secondNode_4 : decode cX1_secondNode 4 = .ok (.iconst 2, 1) := by decide +kernel
theorem dX1_secondNode_5 : decode cX1_secondNode 5 = .ok (.iconst 3, 1) := by decide +kernel
theorem dX1_secondNode_6 : decode cX1_secondNode 6 = .ok (.iload_n 1, 1) := by decide +kernel
theorem dX1_secondNode_7 : decode cX1_secondNode 7 = .ok (.imul, 1) := by decide +kernel
theorem dX1_secondNode_8 : decode cX1_secondNode 8 = .ok (.iadd, 1) := by decide +kernel
theorem dX1_secondNode_9 : decode cX1_secondNode 9 = .ok (.iconst 1, 1) := by decide +kernel
theorem dX1_secondNode_10 : decode cX1_secondNode 10 = .ok (.iadd, 1) := by decide +kernel
theorem dX1_secondNode_11 : decode cX1_secondNode 11 = .ok (.iaload, 1) := by decide +kernel
theorem dX1_secondNode_12 : decode cX1_secondNode 12 = .ok (.bipush 48, 2) := by decide +kernel
theorem dX1_secondNode_14 : decode cX1_secondNode 14 = .ok (.isub, 1) := by decide +kernel
theorem dX1_secondNode_15 : decode cX1_secondNode 15 = .ok (.ireturn, 1) := by decide +kernel
set_option maxRecDepth 20000 in
theorem ggX1_keepsRules_X1_placeInGroup : GoodIn wsX1_keepsRules wsX1_placeInGroup := goodIn_r _ [5] rfl (by decide +kernel)
set_option maxRecDepth 20000 in
theorem gX1_keepsRules_X1_placeInGroup : GoodIn wsX1_keepsRules (va_wsS RX1 23 yX1_placeInGroup wsX1_placeInGroup) := goodIn_app (goodIn_of _ (by decide +kernel)) ggX1_keepsRules_X1_placeInGroup
set_option maxRecDepth 20000 in
theorem ggX1_keepsRules_X1_isNode : GoodIn wsX1_keepsRules wsX1_isNode := goodIn_r _ [9, 1, 14, 15] rfl (by decide +kernel)
set_option maxRecDepth 20000 in
theorem gX1_keepsRules_X1_isNode : GoodIn wsX1_keepsRules (wsV RX1 43 RX1 yX1_isNode wsX1_isNode) := goodIn_app (goodIn_of _ (by decide +kernel)) ggX1_keepsRules_X1_isNode
set_option maxRecDepth 20000 in
theorem ggX1_keepsRules_X1_isNewLink : GoodIn wsX1_keepsRules wsX1_isNewLink := goodIn_r _ [13, 1, 14, 15] rfl (by decide +kernel)
set_option maxRecDepth 20000 in
theorem gX1_keepsRules_X1_isNewLink : GoodIn wsX1_keepsRules (wsV RX1 46 RX1 yX1_isNewLink wsX1_isNewLink) := goodIn_app (goodIn_of _ (by decide +kernel)) ggX1_keepsRules_X1_isNewLink
theorem dX1_keepsRules_0 : decode cX1_keepsRules 0 = .ok (.aload_n 0, 1) := by decide +kernel
theorem dX1_keepsRules_1 : decode cX1_keepsRules 1 = .ok (.getfield 11, 3) := by decide +kernel
theorem dX1_keepsRules_4 : decode cX1_keepsRules 4 = .ok (.iload_n 1, 1) := by decide +kernel
theorem dX1_keepsRules_5 : decode cX1_keepsRules 5 = .ok (.iaload, 1) := by decide +kernel
theorem dX1_keepsRules_6 : decode cX1_keepsRules 6 = .ok (.istore_n 2, 1) := by decide +kernel
theorem dX1_keepsRules_7 : decode cX1_keepsRules 7 = .ok (.iload_n 1, 1) := by decide +kernel
theorem dX1_keepsRules_8 : decode cX1_keepsRules 8 = .ok (.ifCond .ne 21, 3) := by decide +kernel
theorem dX1_keepsRules_11 : decode cX1_keepsRules 11 = .ok (.iload_n 2, 1) := by decide +kernel
theorem dX1_keepsRules_12 : decode cX1_keepsRules 12 = .ok (.bipush 50, 2) := by decide +kernel
theorem dX1_keepsRules_14 : decode cX1_keepsRules 14 = .ok (.if_icmp .lt 13, 3) := by decide +kernel
theorem dX1_keepsRules_17 : decode cX1_keepsRules 17 = .ok (.iload_n 2, 1) := by decide +kernel
theorem dX1_keepsRules_18 : decode cX1_keepsRules 18 = .ok (.bipush 56, 2) := by decide +kernel
theorem dX1_keepsRules_20 : decode cX1_keepsRules 20 = .ok (.if_icmp .gt 7, 3) := by decide +kernel
theorem dX1_keepsRules_23 : decode cX1_keepsRules 23 = .ok (.iconst 1, 1) := by decide +kernel
theorem dX1_keepsRules_24 : decode cX1_keepsRules 24 = .ok (.goto 4, 3) := by decide +kernel
theorem dX1_keepsRules_27 : decode cX1_keepsRules 27 = .ok (.iconst 0, 1) := by decide +kernel
theorem dX1_keepsRules_28 : decode cX1_keepsRules 28 = .ok (.ireturn, 1) := by decide +kernel
theorem dX1_keepsRules_29 : decode cX1_keepsRules 29 = .ok (.iload_n 1, 1) := by decide +kernel
theorem dX1_keepsRules_30 : decode cX1_keepsRules 30 = .ok (.iconst 1, 1) := by decide +kernel
theorem dX1_keepsRules_31 : decode cX1_keepsRules 31 = .ok (.if_icmp .ne 15, 3) := by decide +kernel
theorem dX1_keepsRules_34 : decode cX1_keepsRules 34 = .ok (.iload_n 2, 1) := by decide +kernel
theorem dX1_keepsRules_35 : decode cX1_keepsRules 35 = .ok (.bipush 58, 2) := by decide +kernel
theorem dX1_keepsRules_37 : decode cX1_keepsRules 37 = .ok (.if_icmp .ne 7, 3) := by decide +kernel
theorem dX1_keepsRules_40 : decode cX1_keepsRules 40 = .ok (.iconst 1, 1) := by decide +kernel
theorem dX1_keepsRules_41 : decode cX1_keepsRules 41 = .ok (.goto 4, 3) := by decide +kernel
theorem dX1_keepsRules_44 : decode cX1_keepsRules 44 = .ok (.iconst 0, 1) := by decide +kernel
theorem dX1_keepsRules_45 : decode cX1_keepsRules 45 = .ok (.ireturn, 1) := by decide +kernel
theorem dX1_keepsRules_46 : decode cX1_keepsRules 46 = .ok (.iload_n 1, 1) := by decide +kernel
theorem dX1_keepsRules_47 : decode cX1_keepsRules 47 = .ok (.invokestatic 23, 3) := by decide +kernel
theorem dX1_keepsRules_50 : decode cX1_keepsRules 50 = .ok (.istore_n 3, 1) := by decide +kernel
theorem dX1_keepsRules_51 : decode cX1_keepsRules 51 = .ok (.iload_n 3, 1) := by decide +kernel
theorem dX1_keepsRules_52 : decode cX1_keepsRules 52 = .ok (.ifCond .ne 9, 3) := by decide +kernel
theorem dX1_keepsRules_55 : decode cX1_keepsRules 55 = .ok (.aload_n 0, 1) := by decide +kernel
theorem dX1_keepsRules_56 : decode cX1_keepsRules 56 = .ok (.iload_n 2, 1) := by decide +kernel
theorem dX1_keepsRules_57 : decode cX1_keepsRules 57 = .ok (.invokevirtual 43, 3) := by decide +kernel
theorem dX1_keepsRules_60 : decode cX1_keepsRules 60 = .ok (.ireturn, 1) := by decide +kernel
theorem dX1_keepsRules_61 : decode cX1_keepsRules 61 = .ok (.iload_n 3, 1) := by decide +kernel
theorem dX1_keepsRules_62 : decode cX1_keepsRules 62 = .ok (.iconst 1, 1) := by decide +kernel
theorem dX1_keepsRules_63 : decode cX1_keepsRules 63 = .ok (.if_icmp .ne 37, 3) := by decide +kernel
theorem dX1_keepsRules_66 : decode cX1_keepsRules 66 = .ok (.aload_n 0, 1) := by decide +kernel
theorem dX1_keepsRules_67 : decode cX1_keepsRules 67 = .ok (.iload_n 2, 1) := by decide +kernel
theorem dX1_keepsRules_68 : decode cX1_keepsRules 68 = .ok (.invokevirtual 43, 3) := by decide +kernel
theorem dX1_keepsRules_71 : decode cX1_keepsRules 71 = .ok (.ifCond .eq 27, 3) := by decide +kernel
theorem dX1_keepsRules_74 : decode cX1_keepsRules 74 = .ok (.iload_n 2, 1) := by decide +kernel
theorem dX1_keepsRules_75 : decode cX1_keepsRules 75 = .ok (.aload_n 0, 1) := by decide +kernel
theorem dX1_keepsRules_76 : decode cX1_keepsRules 76 = .ok (.getfield 11, 3) := by decide +kernel
theorem dX1_keepsRules_79 : decode cX1_keepsRules 79 = .ok (.iload_n 1, 1) := by decide +kernel
theorem dX1_keepsRules_80 : decode cX1_keepsRules 80 = .ok (.iconst 1, 1) := by decide +kernel
theorem dX1_keepsRules_81 : decode cX1_keepsRules 81 = .ok (.isub, 1) := by decide +kernel
theorem dX1_keepsRules_82 : decode cX1_keepsRules 82 = .ok (.iaload, 1) := by decide +kernel
theorem dX1_keepsRules_83 : decode cX1_keepsRules 83 = .ok (.if_icmp .eq 15, 3) := by decide +kernel
theorem dX1_keepsRules_86 : decode cX1_keepsRules 86 = .ok (.aload_n 0, 1) := by decide +kernel
theorem dX1_keepsRules_87 : decode cX1_keepsRules 87 = .ok (.iload_n 1, 1) := by decide +kernel
theorem dX1_keepsRules_88 : decode cX1_keepsRules 88 = .ok (.invokevirtual 46, 3) := by decide +kernel
theorem dX1_keepsRules_91 : decode cX1_keepsRules 91 = .ok (.ifCond .eq 7, 3) := by decide +kernel
theorem dX1_keepsRules_94 : decode cX1_keepsRules 94 = .ok (.iconst 1, 1) := by decide +kernel
theorem dX1_keepsRules_95 : decode cX1_keepsRules 95 = .ok (.goto 4, 3) := by decide +kernel
theorem dX1_keepsRules_98 : decode cX1_keepsRules 98 = .ok (.iconst 0, 1) := by decide +kernel
theorem dX1_keepsRules_99 : decode cX1_keepsRules 99 = .ok (.ireturn, 1) := by decide +kernel
theorem dX1_keepsRules_100 : decode cX1_keepsRules 100 = .ok (.iload_n 2, 1) := by decide +kernel
theorem dX1_keepsRules_101 : decode cX1_keepsRules 101 = .ok (.bipush 44, 2) := by decide +kernel
theorem dX1_keepsRules_103 : decode cX1_keepsRules 103 = .ok (.if_icmp .ne 13, 3) := by decide +kernel
theorem dX1_keepsRules_106 : decode cX1_keepsRules 106 = .ok (.iload_n 1, 1) := by decide +kernel
theorem dX1_keepsRules_107 : decode cX1_keepsRules 107 = .ok (.bipush 34, 2) := by decide +kernel
theorem dX1_keepsRules_109 : decode cX1_keepsRules 109 = .ok (.if_icmp .gt 7, 3) := by decide +kernel
theorem dX1_keepsRules_112 : decode cX1_keepsRules 112 = .ok (.iconst 1, 1) := by decide +kernel
theorem dX1_keepsRules_113 : decode cX1_keepsRules 113 = .ok (.goto 4, 3) := by decide +kernel
theorem dX1_keepsRules_116 : decode cX1_keepsRules 116 = .ok (.iconst 0, 1) := by decide +kernel
theorem dX1_keepsRules_117 : decode cX1_keepsRules 117 = .ok (.ireturn, 1) := by decide +kernel
theorem dX1_placeInGroup_0 : decode cX1_placeInGroup 0 = .ok (.iload_n 0, 1) := by decide +kernel
theorem dX1_placeInGroup_1 : decode cX1_placeInGroup 1 = .ok (.iconst 2, 1) := by decide +kernel
theorem dX1_placeInGroup_2 : decode cX1_placeInGroup 2 = .ok (.isub, 1) := by decide +kernel
theorem dX1_placeInGroup_3 : decode cX1_placeInGroup 3 = .ok (.iconst 3, 1) := by decide +kernel
theorem dX1_placeInGroup_4 : decode cX1_placeInGroup 4 = .ok (.irem, 1) := by decide +kernel
theorem dX1_placeInGroup_5 : decode cX1_placeInGroup 5 = .ok (.ireturn, 1) := by decide +kernel
theorem dX1_isNode_0 : decode cX1_isNode 0 = .ok (.iload_n 1, 1) := by decide +kernel
theorem dX1_isNode_1 : decode cX1_isNode 1 = .ok (.bipush 48, 2) := by decide +kernel
theorem dX1_isNode_3 : decode cX1_isNode 3 = .ok (.if_icmp .lt 17, 3) := by decide +kernel
theorem dX1_isNode_6 : decode cX1_isNode 6 = .ok (.iload_n 1, 1) := by decide +kernel
theorem dX1_isNode_7 : decode cX1_isNode 7 = .ok (.aload_n 0, 1) := by decide +kernel
theorem dX1_isNode_8 : decode cX1_isNode 8 = .ok (.getfield 11, 3) := by decide +kernel
theorem dX1_isNode_11 : decode cX1_isNode 11 = .ok (.iconst 0, 1) := by decide +kernel
theorem dX1_isNode_12 : decode cX1_isNode 12 = .ok (.iaload, 1) := by decide +kernel
theorem dX1_isNode_13 : decode cX1_isNode 13 = .ok (.if_icmp .ge 7, 3) := by decide +kernel
theorem dX1_isNode_16 : decode cX1_isNode 16 = .ok (.iconst 1, 1) := by decide +kernel
theorem dX1_isNode_17 : decode cX1_isNode 17 = .ok (.goto 4, 3) := by decide +kernel
theorem dX1_isNode_20 : decode cX1_isNode 20 = .ok (.iconst 0, 1) := by decide +kernel
theorem dX1_isNode_21 : decode cX1_isNode 21 = .ok (.ireturn, 1) := by decide +kernel
theorem dX1_isNewLink_0 : decode cX1_isNewLink 0 = .ok (.aload_n 0, 1) := by decide +kernel
theorem dX1_isNewLink_1 : decode cX1_isNewLink 1 = .ok (.getfield 11, 3) := by decide +kernel
theorem dX1_isNewLink_4 : decode cX1_isNewLink 4 = .ok (.iload_n 1, 1) := by decide +kernel
theorem dX1_isNewLink_5 : decode cX1_isNewLink 5 = .ok (.iconst 1, 1) := by decide +kernel
theorem dX1_isNewLink_6 : decode cX1_isNewLink 6 = .ok (.isub, 1) := by decide +kernel
theorem dX1_isNewLink_7 : decode cX1_isNewLink 7 = .ok (.iaload, 1) := by decide +kernel
theorem dX1_isNewLink_8 : decode cX1_isNewLink 8 = .ok (.istore_n 2, 1) := by decide +kernel
theorem dX1_isNewLink_9 : decode cX1_isNewLink 9 = .ok (.aload_n 0, 1) := by decide +kernel
theorem dX1_isNewLink_10 : decode cX1_isNewLink 10 = .ok (.getfield 11, 3) := by decide +kernel
theorem dX1_isNewLink_13 : decode cX1_isNewLink 13 = .ok (.iload_n 1, 1) := by decide +kernel
theorem dX1_isNewLink_14 : decode cX1_isNewLink 14 = .ok (.iaload, 1) := by decide +kernel
theorem dX1_isNewLink_15 : decode cX1_isNewLink 15 = .ok (.istore_n 3, 1) := by decide +kernel
theorem dX1_isNewLink_16 : decode cX1_isNewLink 16 = .ok (.iconst 2, 1) := by decide +kernel
theorem dX1_isNewLink_17 : decode cX1_isNewLink 17 = .ok (.istore 4, 2) := by decide +kernel
theorem dX1_isNewLink_19 : decode cX1_isNewLink 19 = .ok (.iload 4, 2) := by decide +kernel
theorem dX1_isNewLink_21 : decode cX1_isNewLink 21 = .ok (.iload_n 1, 1) := by decide +kernel
theorem dX1_isNewLink_22 : decode cX1_isNewLink 22 = .ok (.iconst 1, 1) := by decide +kernel
theorem dX1_isNewLink_23 : decode cX1_isNewLink 23 = .ok (.isub, 1) := by decide +kernel
theorem dX1_isNewLink_24 : decode cX1_isNewLink 24 = .ok (.if_icmp .ge 83, 3) := by decide +kernel
theorem dX1_isNewLink_27 : decode cX1_isNewLink 27 = .ok (.aload_n 0, 1) := by decide +kernel
theorem dX1_isNewLink_28 : decode cX1_isNewLink 28 = .ok (.getfield 11, 3) := by decide +kernel
theorem dX1_isNewLink_31 : decode cX1_isNewLink 31 = .ok (.iload 4, 2) := by decide +kernel
theorem dX1_isNewLink_33 : decode cX1_isNewLink 33 = .ok (.iaload, 1) := by decide +kernel
theorem dX1_isNewLink_34 : decode cX1_isNewLink 34 = .ok (.iload_n 2, 1) := by decide +kernel
theorem dX1_isNewLink_35 : decode cX1_isNewLink 35 = .ok (.if_icmp .ne 20, 3) := by decide +kernel
theorem dX1_isNewLink_38 : decode cX1_isNewLink 38 = .ok (.aload_n 0, 1) := by decide +kernel
theorem dX1_isNewLink_39 : decode cX1_isNewLink 39 = .ok (.getfield 11, 3) := by decide +kernel
theorem dX1_isNewLink_42 : decode cX1_isNewLink 42 = .ok (.iload 4, 2) := by decide +kernel
theorem dX1_isNewLink_44 : decode cX1_isNewLink 44 = .ok (.iconst 1, 1) := by decide +kernel
theorem dX1_isNewLink_45 : decode cX1_isNewLink 45 = .ok (.iadd, 1) := by decide +kernel
theorem dX1_isNewLink_46 : decode cX1_isNewLink 46 = .ok (.iaload, 1) := by decide +kernel
theorem dX1_isNewLink_47 : decode cX1_isNewLink 47 = .ok (.iload_n 3, 1) := by decide +kernel
theorem dX1_isNewLink_48 : decode cX1_isNewLink 48 = .ok (.if_icmp .ne 7, 3) := by decide +kernel
theorem dX1_isNewLink_51 : decode cX1_isNewLink 51 = .ok (.iconst 1, 1) := by decide +kernel
theorem dX1_isNewLink_52 : decode cX1_isNewLink 52 = .ok (.goto 4, 3) := by decide +kernel
theorem dX1_isNewLink_55 : decode cX1_isNewLink 55 = .ok (.iconst 0, 1) := by decide +kernel
theorem dX1_isNewLink_56 : decode cX1_isNewLink 56 = .ok (.istore 5, 2) := by decide +kernel
theorem dX1_isNewLink_58 : decode cX1_isNewLink 58 = .ok (.aload_n 0, 1) := by decide +kernel
theorem dX1_isNewLink_59 : decode cX1_isNewLink 59 = .ok (.getfield 11, 3) := by decide +kernel
theorem dX1_isNewLink_62 : decode cX1_isNewLink 62 = .ok (.iload 4, 2) := by decide +kernel
theorem dX1_isNewLink_64 : decode cX1_isNewLink 64 = .ok (.iaload, 1) := by decide +kernel
theorem dX1_isNewLink_65 : decode cX1_isNewLink 65 = .ok (.iload_n 3, 1) := by decide +kernel
theorem dX1_isNewLink_66 : decode cX1_isNewLink 66 = .ok (.if_icmp .ne 20, 3) := by decide +kernel
theorem dX1_isNewLink_69 : decode cX1_isNewLink 69 = .ok (.aload_n 0, 1) := by decide +kernel
theorem dX1_isNewLink_70 : decode cX1_isNewLink 70 = .ok (.getfield 11, 3) := by decide +kernel
theorem dX1_isNewLink_73 : decode cX1_isNewLink 73 = .ok (.iload 4, 2) := by decide +kernel
theorem dX1_isNewLink_75 : decode cX1_isNewLink 75 = .ok (.iconst 1, 1) := by decide +kernel
theorem dX1_isNewLink_76 : decode cX1_isNewLink 76 = .ok (.iadd, 1) := by decide +kernel
theorem dX1_isNewLink_77 : decode cX1_isNewLink 77 = .ok (.iaload, 1) := by decide +kernel
theorem dX1_isNewLink_78 : decode cX1_isNewLink 78 = .ok (.iload_n 2, 1) := by decide +kernel
theorem dX1_isNewLink_79 : decode cX1_isNewLink 79 = .ok (.if_icmp .ne 7, 3) := by decide +kernel
theorem dX1_isNewLink_82 : decode cX1_isNewLink 82 = .ok (.iconst 1, 1) := by decide +kernel
theorem dX1_isNewLink_83 : decode cX1_isNewLink 83 = .ok (.goto 4, 3) := by decide +kernel
theorem dX1_isNewLink_86 : decode cX1_isNewLink 86 = .ok (.iconst 0, 1) := by decide +kernel
theorem dX1_isNewLink_87 : decode cX1_isNewLink 87 = .ok (.istore 6, 2) := by decide +kernel
theorem dX1_isNewLink_89 : decode cX1_isNewLink 89 = .ok (.iload 5, 2) := by decide +kernel
theorem dX1_isNewLink_91 : decode cX1_isNewLink 91 = .ok (.ifCond .ne 8, 3) := by decide +kernel
theorem dX1_isNewLink_94 : decode cX1_isNewLink 94 = .ok (.iload 6, 2) := by decide +kernel
theorem dX1_isNewLink_96 : decode cX1_isNewLink 96 = .ok (.ifCond .eq 5, 3) := by decide +kernel
theorem dX1_isNewLink_99 : decode cX1_isNewLink 99 = .ok (.iconst 0, 1) := by decide +kernel
theorem dX1_isNewLink_100 : decode cX1_isNewLink 100 = .ok (.ireturn, 1) := by decide +kernel
theorem dX1_isNewLink_101 : decode cX1_isNewLink 101 = .ok (.iinc 4 3, 3) := by decide +kernel
theorem dX1_isNewLink_104 : decode cX1_isNewLink 104 = .ok (.goto (-85), 3) := by decide +kernel
theorem dX1_isNewLink_107 : decode cX1_isNewLink 107 = .ok (.iconst 1, 1) := by decide +kernel
theorem dX1_isNewLink_108 : decode cX1_isNewLink 108 = .ok (.ireturn, 1) := by decide +kernel
theorem dX2_init_0 : decode cX2_init 0 = .ok (.aload_n 0, 1) := by decide +kernel
theorem dX2_init_1 : decode cX2_init 1 = .ok (.invokespecial 3, 3) := by decide +kernel
theorem dX2_init_4 : decode cX2_init 4 = .ok (.aload_n 0, 1) := by decide +kernel
theorem dX2_init_5 : decode cX2_init 5 = .ok (.bipush 8, 2) := by decide +kernel
theorem dX2_init_7 : decode cX2_init 7 = .ok (.newarray .int, 2) := by decide +kernel
theorem dX2_init_9 : decode cX2_init 9 = .ok (.putfield 9, 3) := by decide +kernel
theorem dX2_init_12 : decode cX2_init 12 = .ok (.aload_n 0, 1) := by decide +kernel
theorem dX2_init_13 : decode cX2_init 13 = .ok (.iconst 0, 1) := by decide +kernel
theorem dX2_init_14 : decode cX2_init 14 = .ok (.putfield 15, 3) := by decide +kernel
theorem dX2_init_17 : decode cX2_init 17 = .ok (.return_, 1) := by decide +kernel
theorem dX2_start_0 : decode cX2_start 0 = .ok (.aload_n 0, 1) := by decide +kernel
theorem dX2_start_1 : decode cX2_start 1 = .ok (.iload_n 1, 1) := by decide +kernel
theorem dX2_start_2 : decode cX2_start 2 = .ok (.putfield 15, 3) := by decide +kernel
theorem dX2_start_5 : decode cX2_start 5 = .ok (.aload_n 2, 1) := by decide +kernel
theorem dX2_start_6 : decode cX2_start 6 = .ok (.iconst 0, 1) := by decide +kernel
theorem dX2_start_7 : decode cX2_start 7 = .ok (.aload_n 0, 1) := by decide +kernel
theorem dX2_start_8 : decode cX2_start 8 = .ok (.getfield 9, 3) := by decide +kernel
theorem dX2_start_11 : decode cX2_start 11 = .ok (.iconst 0, 1) := by decide +kernel
theorem dX2_start_12 : decode cX2_start 12 = .ok (.bipush 8, 2) := by decide +kernel
theorem dX2_start_14 : decode cX2_start 14 = .ok (.invokestatic 19, 3) := by decide +kernel
theorem dX2_start_17 : decode cX2_start 17 = .ok (.return_, 1) := by decide +kernel
set_option maxRecDepth 20000 in
theorem ggX2_move_X0_slot : GoodIn wsX2_move wsX0_slot := goodIn_r _ [7] rfl (by decide +kernel)
set_option maxRecDepth 20000 in
theorem gX2_move_X0_slot : GoodIn wsX2_move (va_wsS RX2 30 yX0_slot wsX0_slot) := goodIn_app (goodIn_of _ (by decide +kernel)) ggX2_move_X0_slot
set_option maxRecDepth 20000 in
theorem ggX2_move_X0_rotorAfter : GoodIn wsX2_move wsX0_rotorAfter := goodIn_r _ [11, 12, 15, 16, 17, 18] rfl (by decide +kernel)
set_option maxRecDepth 20000 in
theorem gX2_move_X0_rotorAfter : GoodIn wsX2_move (wsV RX2 34 RX0 yX0_rotorAfter wsX0_rotorAfter) := goodIn_app (goodIn_of _ (by decide +kernel)) ggX2_move_X0_rotorAfter
theorem dX2_move_0 : decode cX2_move 0 = .ok (.aload_n 0, 1) := by decide +kernel
theorem dX2_move_1 : decode cX2_move 1 = .ok (.getfield 15, 3) := by decide +kernel
theorem dX2_move_4 : decode cX2_move 4 = .ok (.istore_n 2, 1) := by decide +kernel
theorem dX2_move_5 : decode cX2_move 5 = .ok (.aload_n 0, 1) := by decide +kernel
theorem dX2_move_6 : decode cX2_move 6 = .ok (.aload_n 1, 1) := by decide +kernel
theorem dX2_move_7 : decode cX2_move 7 = .ok (.getfield 25, 3) := by decide +kernel
theorem dX2_move_10 : decode cX2_move 10 = .ok (.iload_n 2, 1) := by decide +kernel
theorem dX2_move_11 : decode cX2_move 11 = .ok (.aload_n 0, 1) := by decide +kernel
theorem dX2_move_12 : decode cX2_move 12 = .ok (.getfield 9, 3) := by decide +kernel
theorem dX2_move_15 : decode cX2_move 15 = .ok (.iload_n 2, 1) := by decide +kernel
theorem dX2_move_16 : decode cX2_move 16 = .ok (.iaload, 1) := by decide +kernel
theorem dX2_move_17 : decode cX2_move 17 = .ok (.invokestatic 30, 3) := by decide +kernel
theorem dX2_move_20 : decode cX2_move 20 = .ok (.iaload, 1) := by decide +kernel
theorem dX2_move_21 : decode cX2_move 21 = .ok (.putfield 15, 3) := by decide +kernel
theorem dX2_move_24 : decode cX2_move 24 = .ok (.aload_n 0, 1) := by decide +kernel
theorem dX2_move_25 : decode cX2_move 25 = .ok (.getfield 9, 3) := by decide +kernel
theorem dX2_move_28 : decode cX2_move 28 = .ok (.iload_n 2, 1) := by decide +kernel
theorem dX2_move_29 : decode cX2_move 29 = .ok (.aload_n 1, 1) := by decide +kernel
theorem dX2_move_30 : decode cX2_move 30 = .ok (.iload_n 2, 1) := by decide +kernel
theorem dX2_move_31 : decode cX2_move 31 = .ok (.aload_n 0, 1) := by decide +kernel
theorem dX2_move_32 : decode cX2_move 32 = .ok (.getfield 9, 3) := by decide +kernel
theorem dX2_move_35 : decode cX2_move 35 = .ok (.iload_n 2, 1) := by decide +kernel
theorem dX2_move_36 : decode cX2_move 36 = .ok (.iaload, 1) := by decide +kernel
theorem dX2_move_37 : decode cX2_move 37 = .ok (.invokevirtual 34, 3) := by decide +kernel
theorem dX2_move_40 : decode cX2_move 40 = .ok (.iastore, 1) := by decide +kernel
theorem dX2_move_41 : decode cX2_move 41 = .ok (.return_, 1) := by decide +kernel
theorem dX2_isSameAs_0 : decode cX2_isSameAs 0 = .ok (.aload_n 0, 1) := by decide +kernel
theorem dX2_isSameAs_1 : decode cX2_isSameAs 1 = .ok (.getfield 15, 3) := by decide +kernel
theorem dX2_isSameAs_4 : decode cX2_isSameAs 4 = .ok (.aload_n 1, 1) := by decide +kernel
theorem dX2_isSameAs_5 : decode cX2_isSameAs 5 = .ok (.getfield 15, 3) := by decide +kernel
theorem dX2_isSameAs_8 : decode cX2_isSameAs 8 = .ok (.if_icmp .eq 5, 3) := by decide +kernel
theorem dX2_isSameAs_11 : decode cX2_isSameAs 11 = .ok (.iconst 0, 1) := by decide +kernel
theorem dX2_isSameAs_12 : decode cX2_isSameAs 12 = .ok (.ireturn, 1) := by decide +kernel
theorem dX2_isSameAs_13 : decode cX2_isSameAs 13 = .ok (.iconst 0, 1) := by decide +kernel
theorem dX2_isSameAs_14 : decode cX2_isSameAs 14 = .ok (.istore_n 3, 1) := by decide +kernel
theorem dX2_isSameAs_15 : decode cX2_isSameAs 15 = .ok (.iload_n 3, 1) := by decide +kernel
theorem dX2_isSameAs_16 : decode cX2_isSameAs 16 = .ok (.iload_n 2, 1) := by decide +kernel
theorem dX2_isSameAs_17 : decode cX2_isSameAs 17 = .ok (.if_icmp .ge 26, 3) := by decide +kernel
theorem dX2_isSameAs_20 : decode cX2_isSameAs 20 = .ok (.aload_n 0, 1) := by decide +kernel
theorem dX2_isSameAs_21 : decode cX2_isSameAs 21 = .ok (.getfield 9, 3) := by decide +kernel
theorem dX2_isSameAs_24 : decode cX2_isSameAs 24 = .ok (.iload_n 3, 1) := by decide +kernel
theorem dX2_isSameAs_25 : decode cX2_isSameAs 25 = .ok (.iaload, 1) := by decide +kernel
theorem dX2_isSameAs_26 : decode cX2_isSameAs 26 = .ok (.aload_n 1, 1) := by decide +kernel
theorem dX2_isSameAs_27 : decode cX2_isSameAs 27 = .ok (.getfield 9, 3) := by decide +kernel
theorem dX2_isSameAs_30 : decode cX2_isSameAs 30 = .ok (.iload_n 3, 1) := by decide +kernel
theorem dX2_isSameAs_31 : decode cX2_isSameAs 31 = .ok (.iaload, 1) := by decide +kernel
theorem dX2_isSameAs_32 : decode cX2_isSameAs 32 = .ok (.if_icmp .eq 5, 3) := by decide +kernel
theorem dX2_isSameAs_35 : decode cX2_isSameAs 35 = .ok (.iconst 0, 1) := by decide +kernel
theorem dX2_isSameAs_36 : decode cX2_isSameAs 36 = .ok (.ireturn, 1) := by decide +kernel
theorem dX2_isSameAs_37 : decode cX2_isSameAs 37 = .ok (.iinc 3 1, 3) := by decide +kernel
theorem dX2_isSameAs_40 : decode cX2_isSameAs 40 = .ok (.goto (-25), 3) := by decide +kernel
theorem dX2_isSameAs_43 : decode cX2_isSameAs 43 = .ok (.iconst 1, 1) := by decide +kernel
theorem dX2_isSameAs_44 : decode cX2_isSameAs 44 = .ok (.ireturn, 1) := by decide +kernel
theorem dX3_init_0 : decode cX3_init 0 = .ok (.aload_n 0, 1) := by decide +kernel
theorem dX3_init_1 : decode cX3_init 1 = .ok (.invokespecial 3, 3) := by decide +kernel
theorem dX3_init_4 : decode cX3_init 4 = .ok (.aload_n 0, 1) := by decide +kernel
theorem dX3_init_5 : decode cX3_init 5 = .ok (.bipush 8, 2) := by decide +kernel
theorem dX3_init_7 : decode cX3_init 7 = .ok (.newarray .int, 2) := by decide +kernel
theorem dX3_init_9 : decode cX3_init 9 = .ok (.putfield 9, 3) := by decide +kernel
theorem dX3_init_12 : decode cX3_init 12 = .ok (.aload_n 0, 1) := by decide +kernel
theorem dX3_init_13 : decode cX3_init 13 = .ok (.bipush 8, 2) := by decide +kernel
theorem dX3_init_15 : decode cX3_init 15 = .ok (.newarray .int, 2) := by decide +kernel
theorem dX3_init_17 : decode cX3_init 17 = .ok (.putfield 15, 3) := by decide +kernel
theorem dX3_init_20 : decode cX3_init 20 = .ok (.aload_n 0, 1) := by decide +kernel
theorem dX3_init_21 : decode cX3_init 21 = .ok (.bipush 56, 2) := by decide +kernel
theorem dX3_init_23 : decode cX3_init 23 = .ok (.newarray .int, 2) := by decide +kernel
theorem dX3_init_25 : decode cX3_init 25 = .ok (.putfield 18, 3) := by decide +kernel
theorem dX3_init_28 : decode cX3_init 28 = .ok (.aload_n 0, 1) := by decide +kernel
theorem dX3_init_29 : decode cX3_init 29 = .ok (.iconst 4, 1) := by decide +kernel
theorem dX3_init_30 : decode cX3_init 30 = .ok (.newarray .int, 2) := by decide +kernel
theorem dX3_init_32 : decode cX3_init 32 = .ok (.putfield 21, 3) := by decide +kernel
theorem dX3_init_35 : decode cX3_init 35 = .ok (.aload_n 0, 1) := by decide +kernel
theorem dX3_init_36 : decode cX3_init 36 = .ok (.iconst 0, 1) := by decide +kernel
theorem dX3_init_37 : decode cX3_init 37 = .ok (.putfield 24, 3) := by decide +kernel
theorem dX3_init_40 : decode cX3_init 40 = .ok (.return_, 1) := by decide +kernel
theorem dX3_reset_0 : decode cX3_reset 0 = .ok (.iconst 0, 1) := by decide +kernel
theorem dX3_reset_1 : decode cX3_reset 1 = .ok (.istore_n 1, 1) := by decide +kernel
theorem dX3_reset_2 : decode cX3_reset 2 = .ok (.iload_n 1, 1) := by decide +kernel
theorem dX3_reset_3 : decode cX3_reset 3 = .ok (.bipush 8, 2) := by decide +kernel
theorem dX3_reset_5 : decode cX3_reset 5 = .ok (.if_icmp .ge 23, 3) := by decide +kernel
theorem dX3_reset_8 : decode cX3_reset 8 = .ok (.aload_n 0, 1) := by decide +kernel
theorem dX3_reset_9 : decode cX3_reset 9 = .ok (.getfield 9, 3) := by decide +kernel
theorem dX3_reset_12 : decode cX3_reset 12 = .ok (.iload_n 1, 1) := by decide +kernel
theorem dX3_reset_13 : decode cX3_reset 13 = .ok (.iconst 0, 1) := by decide +kernel
theorem dX3_reset_14 : decode cX3_reset 14 = .ok (.iastore, 1) := by decide +kernel
theorem dX3_reset_15 : decode cX3_reset 15 = .ok (.aload_n 0, 1) := by decide +kernel
theorem dX3_reset_16 : decode cX3_reset 16 = .ok (.getfield 15, 3) := by decide +kernel
theorem dX3_reset_19 : decode cX3_reset 19 = .ok (.iload_n 1, 1) := by decide +kernel
theorem dX3_reset_20 : decode cX3_reset 20 = .ok (.iconst 0, 1) := by decide +kernel
theorem dX3_reset_21 : decode cX3_reset 21 = .ok (.iastore, 1) := by decide +kernel
theorem dX3_reset_22 : decode cX3_reset 22 = .ok (.iinc 1 1, 3) := by decide +kernel
theorem dX3_reset_25 : decode cX3_reset 25 = .ok (.goto (-23), 3) := by decide +kernel
theorem dX3_reset_28 : decode cX3_reset 28 = .ok (.iconst 0, 1) := by decide +kernel
theorem dX3_reset_29 : decode cX3_reset 29 = .ok (.istore_n 1, 1) := by decide +kernel
theorem dX3_reset_30 : decode cX3_reset 30 = .ok (.iload_n 1, 1) := by decide +kernel
theorem dX3_reset_31 : decode cX3_reset 31 = .ok (.bipush 56, 2) := by decide +kernel
theorem dX3_reset_33 : decode cX3_reset 33 = .ok (.if_icmp .ge 16, 3) := by decide +kernel
theorem dX3_reset_36 : decode cX3_reset 36 = .ok (.aload_n 0, 1) := by decide +kernel
theorem dX3_reset_37 : decode cX3_reset 37 = .ok (.getfield 18, 3) := by decide +kernel
theorem dX3_reset_40 : decode cX3_reset 40 = .ok (.iload_n 1, 1) := by decide +kernel
theorem dX3_reset_41 : decode cX3_reset 41 = .ok (.iconst 0, 1) := by decide +kernel
theorem dX3_reset_42 : decode cX3_reset 42 = .ok (.iastore, 1) := by decide +kernel
theorem dX3_reset_43 : decode cX3_reset 43 = .ok (.iinc 1 1, 3) := by decide +kernel
theorem dX3_reset_46 : decode cX3_reset 46 = .ok (.goto (-16), 3) := by decide +kernel
theorem dX3_reset_49 : decode cX3_reset 49 = .ok (.aload_n 0, 1) := by decide +kernel
theorem dX3_reset_50 : decode cX3_reset 50 = .ok (.iconst 0, 1) := by decide +kernel
theorem dX3_reset_51 : decode cX3_reset 51 = .ok (.putfield 24, 3) := by decide +kernel
theorem dX3_reset_54 : decode cX3_reset 54 = .ok (.return_, 1) := by decide +kernel
theorem dX3_copyFrom_0 : decode cX3_copyFrom 0 = .ok (.aload_n 1, 1) := by decide +kernel
theorem dX3_copyFrom_1 : decode cX3_copyFrom 1 = .ok (.getfield 9, 3) := by decide +kernel
theorem dX3_copyFrom_4 : decode cX3_copyFrom 4 = .ok (.iconst 0, 1) := by decide +kernel
theorem dX3_copyFrom_5 : decode cX3_copyFrom 5 = .ok (.aload_n 0, 1) := by decide +kernel
theorem dX3_copyFrom_6 : decode cX3_copyFrom 6 = .ok (.getfield 9, 3) := by decide +kernel
theorem dX3_copyFrom_9 : decode cX3_copyFrom 9 = .ok (.iconst 0, 1) := by decide +kernel
theorem dX3_copyFrom_10 : decode cX3_copyFrom 10 = .ok (.bipush 8, 2) := by decide +kernel
theorem dX3_copyFrom_12 : decode cX3_copyFrom 12 = .ok (.invokestatic 28, 3) := by decide +kernel
theorem dX3_copyFrom_15 : decode cX3_copyFrom 15 = .ok (.aload_n 1, 1) := by decide +kernel
theorem dX3_copyFrom_16 : decode cX3_copyFrom 16 = .ok (.getfield 15, 3) := by decide +kernel
theorem dX3_copyFrom_19 : decode cX3_copyFrom 19 = .ok (.iconst 0, 1) := by decide +kernel
theorem dX3_copyFrom_20 : decode cX3_copyFrom 20 = .ok (.aload_n 0, 1) := by decide +kernel
theorem dX3_copyFrom_21 : decode cX3_copyFrom 21 = .ok (.getfield 15, 3) := by decide +kernel
theorem dX3_copyFrom_24 : decode cX3_copyFrom 24 = .ok (.iconst 0, 1) := by decide +kernel
theorem dX3_copyFrom_25 : decode cX3_copyFrom 25 = .ok (.bipush 8, 2) := by decide +kernel
theorem dX3_copyFrom_27 : decode cX3_copyFrom 27 = .ok (.invokestatic 28, 3) := by decide +kernel
theorem dX3_copyFrom_30 : decode cX3_copyFrom 30 = .ok (.aload_n 1, 1) := by decide +kernel
theorem dX3_copyFrom_31 : decode cX3_copyFrom 31 = .ok (.getfield 18, 3) := by decide +kernel
theorem dX3_copyFrom_34 : decode cX3_copyFrom 34 = .ok (.iconst 0, 1) := by decide +kernel
theorem dX3_copyFrom_35 : decode cX3_copyFrom 35 = .ok (.aload_n 0, 1) := by decide +kernel
theorem dX3_copyFrom_36 : decode cX3_copyFrom 36 = .ok (.getfield 18, 3) := by decide +kernel
theorem dX3_copyFrom_39 : decode cX3_copyFrom 39 = .ok (.iconst 0, 1) := by decide +kernel
theorem dX3_copyFrom_40 : decode cX3_copyFrom 40 = .ok (.bipush 56, 2) := by decide +kernel
theorem dX3_copyFrom_42 : decode cX3_copyFrom 42 = .ok (.invokestatic 28, 3) := by decide +kernel
theorem dX3_copyFrom_45 : decode cX3_copyFrom 45 = .ok (.aload_n 1, 1) := by decide +kernel
theorem dX3_copyFrom_46 : decode cX3_copyFrom 46 = .ok (.getfield 21, 3) := by decide +kernel
theorem dX3_copyFrom_49 : decode cX3_copyFrom 49 = .ok (.iconst 0, 1) := by decide +kernel
theorem dX3_copyFrom_50 : decode cX3_copyFrom 50 = .ok (.aload_n 0, 1) := by decide +kernel
theorem dX3_copyFrom_51 : decode cX3_copyFrom 51 = .ok (.getfield 21, 3) := by decide +kernel
theorem dX3_copyFrom_54 : decode cX3_copyFrom 54 = .ok (.iconst 0, 1) := by decide +kernel
theorem dX3_copyFrom_55 : decode cX3_copyFrom 55 = .ok (.iconst 4, 1) := by decide +kernel
theorem dX3_copyFrom_56 : decode cX3_copyFrom 56 = .ok (.invokestatic 28, 3) := by decide +kernel
theorem dX3_copyFrom_59 : decode cX3_copyFrom 59 = .ok (.aload_n 0, 1) := by decide +kernel
theorem dX3_copyFrom_60 : decode cX3_copyFrom 60 = .ok (.aload_n 1, 1) := by decide +kernel
theorem dX3_copyFrom_61 : decode cX3_copyFrom 61 = .ok (.getfield 24, 3) := by decide +kernel
theorem dX3_copyFrom_64 : decode cX3_copyFrom 64 = .ok (.putfield 24, 3) := by decide +kernel
theorem dX3_copyFrom_67 : decode cX3_copyFrom 67 = .ok (.return_, 1) := by decide +kernel
theorem dX3_hasWalker_0 : decode cX3_hasWalker 0 = .ok (.iload_n 1, 1) := by decide +kernel
theorem dX3_hasWalker_1 : decode cX3_hasWalker 1 = .ok (.ifCond .lt 15, 3) := by decide +kernel
theorem dX3_hasWalker_4 : decode cX3_hasWalker 4 = .ok (.iload_n 1, 1) := by decide +kernel
theorem dX3_hasWalker_5 : decode cX3_hasWalker 5 = .ok (.aload_n 0, 1) := by decide +kernel
theorem dX3_hasWalker_6 : decode cX3_hasWalker 6 = .ok (.getfield 24, 3) := by decide +kernel
theorem dX3_hasWalker_9 : decode cX3_hasWalker 9 = .ok (.if_icmp .ge 7, 3) := by decide +kernel
theorem dX3_hasWalker_12 : decode cX3_hasWalker 12 = .ok (.iconst 1, 1) := by decide +kernel
theorem dX3_hasWalker_13 : decode cX3_hasWalker 13 = .ok (.goto 4, 3) := by decide +kernel
theorem dX3_hasWalker_16 : decode cX3_hasWalker 16 = .ok (.iconst 0, 1) := by decide +kernel
theorem dX3_hasWalker_17 : decode cX3_hasWalker 17 = .ok (.ireturn, 1) := by decide +kernel
set_option maxRecDepth 20000 in
theorem ggX3_move_X0_slot : GoodIn wsX3_move wsX0_slot := goodIn_r _ [9] rfl (by decide +kernel)
set_option maxRecDepth 20000 in
theorem gX3_move_X0_slot : GoodIn wsX3_move (va_wsS RX3 34 yX0_slot wsX0_slot) := goodIn_app (goodIn_of _ (by decide +kernel)) ggX3_move_X0_slot
set_option maxRecDepth 20000 in
theorem ggX3_move_X0_rotorAfter : GoodIn wsX3_move wsX0_rotorAfter := goodIn_r _ [13, 14, 20, 21, 22, 23] rfl (by decide +kernel)
set_option maxRecDepth 20000 in
theorem gX3_move_X0_rotorAfter : GoodIn wsX3_move (wsV RX3 43 RX0 yX0_rotorAfter wsX0_rotorAfter) := goodIn_app (goodIn_of _ (by decide +kernel)) ggX3_move_X0_rotorAfter
theorem dX3_move_0 : decode cX3_move 0 = .ok (.aload_n 0, 1) := by decide +kernel
theorem dX3_move_1 : decode cX3_move 1 = .ok (.getfield 21, 3) := by decide +kernel
theorem dX3_move_4 : decode cX3_move 4 = .ok (.iload_n 1, 1) := by decide +kernel
theorem dX3_move_5 : decode cX3_move 5 = .ok (.iaload, 1) := by decide +kernel
theorem dX3_move_6 : decode cX3_move 6 = .ok (.istore_n 3, 1) := by decide +kernel
theorem dX3_move_7 : decode cX3_move 7 = .ok (.iload_n 3, 1) := by decide +kernel
theorem dX3_move_8 : decode cX3_move 8 = .ok (.aload_n 0, 1) := by decide +kernel
theorem dX3_move_9 : decode cX3_move 9 = .ok (.getfield 9, 3) := by decide +kernel
theorem dX3_move_12 : decode cX3_move 12 = .ok (.iload_n 3, 1) := by decide +kernel
theorem dX3_move_13 : decode cX3_move 13 = .ok (.iaload, 1) := by decide +kernel
theorem dX3_move_14 : decode cX3_move 14 = .ok (.invokestatic 34, 3) := by decide +kernel
theorem dX3_move_17 : decode cX3_move 17 = .ok (.istore 4, 2) := by decide +kernel
theorem dX3_move_19 : decode cX3_move 19 = .ok (.aload_n 2, 1) := by decide +kernel
theorem dX3_move_20 : decode cX3_move 20 = .ok (.getfield 40, 3) := by decide +kernel
theorem dX3_move_23 : decode cX3_move 23 = .ok (.iload 4, 2) := by decide +kernel
theorem dX3_move_25 : decode cX3_move 25 = .ok (.iaload, 1) := by decide +kernel
theorem dX3_move_26 : decode cX3_move 26 = .ok (.istore 5, 2) := by decide +kernel
theorem dX3_move_28 : decode cX3_move 28 = .ok (.aload_n 0, 1) := by decide +kernel
theorem dX3_move_29 : decode cX3_move 29 = .ok (.getfield 18, 3) := by decide +kernel
theorem dX3_move_32 : decode cX3_move 32 = .ok (.iload 4, 2) := by decide +kernel
theorem dX3_move_34 : decode cX3_move 34 = .ok (.dup2, 1) := by decide +kernel
theorem dX3_move_35 : decode cX3_move 35 = .ok (.iaload, 1) := by decide +kernel
theorem dX3_move_36 : decode cX3_move 36 = .ok (.iconst 1, 1) := by decide +kernel
theorem dX3_move_37 : decode cX3_move 37 = .ok (.iadd, 1) := by decide +kernel
theorem dX3_move_38 : decode cX3_move 38 = .ok (.iastore, 1) := by decide +kernel
theorem dX3_move_39 : decode cX3_move 39 = .ok (.aload_n 0, 1) := by decide +kernel
theorem dX3_move_40 : decode cX3_move 40 = .ok (.getfield 15, 3) := by decide +kernel
theorem dX3_move_43 : decode cX3_move 43 = .ok (.iload 5, 2) := by decide +kernel
theorem dX3_move_45 : decode cX3_move 45 = .ok (.dup2, 1) := by decide +kernel
theorem dX3_move_46 : decode cX3_move 46 = .ok (.iaload, 1) := by decide +kernel
theorem dX3_move_47 : decode cX3_move 47 = .ok (.iconst 1, 1) := by decide +kernel
theorem dX3_move_48 : decode cX3_move 48 = .ok (.iadd, 1) := by decide +kernel
theorem dX3_move_49 : decode cX3_move 49 = .ok (.iastore, 1) := by decide +kernel
theorem dX3_move_50 : decode cX3_move 50 = .ok (.aload_n 0, 1) := by decide +kernel
theorem dX3_move_51 : decode cX3_move 51 = .ok (.getfield 9, 3) := by decide +kernel
theorem dX3_move_54 : decode cX3_move 54 = .ok (.iload_n 3, 1) := by decide +kernel
theorem dX3_move_55 : decode cX3_move 55 = .ok (.aload_n 2, 1) := by decide +kernel
theorem dX3_move_56 : decode cX3_move 56 = .ok (.iload_n 3, 1) := by decide +kernel
theorem dX3_move_57 : decode cX3_move 57 = .ok (.aload_n 0, 1) := by decide +kernel
theorem dX3_move_58 : decode cX3_move 58 = .ok (.getfield 9, 3) := by decide +kernel
theorem dX3_move_61 : decode cX3_move 61 = .ok (.iload_n 3, 1) := by decide +kernel
theorem dX3_move_62 : decode cX3_move 62 = .ok (.iaload, 1) := by decide +kernel
theorem dX3_move_63 : decode cX3_move 63 = .ok (.invokevirtual 43, 3) := by decide +kernel
theorem dX3_move_66 : decode cX3_move 66 = .ok (.iastore, 1) := by decide +kernel
theorem dX3_move_67 : decode cX3_move 67 = .ok (.aload_n 0, 1) := by decide +kernel
theorem dX3_move_68 : decode cX3_move 68 = .ok (.getfield 21, 3) := by decide +kernel
theorem dX3_move_71 : decode cX3_move 71 = .ok (.iload_n 1, 1) := by decide +kernel
theorem dX3_move_72 : decode cX3_move 72 = .ok (.iload 5, 2) := by decide +kernel
theorem dX3_move_74 : decode cX3_move 74 = .ok (.iastore, 1) := by decide +kernel
theorem dX3_move_75 : decode cX3_move 75 = .ok (.return_, 1) := by decide +kernel
set_option maxRecDepth 20000 in
theorem ggX4_init_X1_init : GoodIn wsX4_init wsX1_init := goodIn_r _ [30, 31, 2, 3, 23, 32, 33, 54, 55] rfl (by decide +kernel)
set_option maxRecDepth 20000 in
theorem gX4_init_X1_init_n11 : GoodIn wsX4_init (wsX1_init) := ggX4_init_X1_init
set_option maxRecDepth 20000 in
theorem ggX4_init_X0_init : GoodIn wsX4_init wsX0_init := goodIn_r _ [35, 36, 2, 3, 23, 37, 38, 39, 40, 67, 68, 69, 70] rfl (by decide +kernel)
set_option maxRecDepth 20000 in
theorem gX4_init_X0_init_n18 : GoodIn wsX4_init (wsX0_init) := ggX4_init_X0_init
set_option maxRecDepth 20000 in
theorem ggX4_init_X3_init : GoodIn wsX4_init wsX3_init := goodIn_r _ [42, 43, 2, 3, 23, 44, 45, 46, 47, 48, 71, 72, 73, 74, 75] rfl (by decide +kernel)
set_option maxRecDepth 20000 in
theorem gX4_init_X3_init_n25 : GoodIn wsX4_init (wsX3_init) := ggX4_init_X3_init
set_option maxRecDepth 20000 in
theorem ggX4_init_X2_init : GoodIn wsX4_init wsX2_init := goodIn_r _ [50, 51, 2, 3, 23, 52, 53, 76, 77] rfl (by decide +kernel)
set_option maxRecDepth 20000 in
theorem gX4_init_X2_init_n39 : GoodIn wsX4_init (wsX2_init) := ggX4_init_X2_init
theorem dX4_init_0 : decode cX4_init 0 = .ok (.aload_n 0, 1) := by decide +kernel
theorem dX4_init_1 : decode cX4_init 1 = .ok (.invokespecial 3, 3) := by decide +kernel
theorem dX4_init_4 : decode cX4_init 4 = .ok (.aload_n 0, 1) := by decide +kernel
theorem dX4_init_5 : decode cX4_init 5 = .ok (.new 9, 3) := by decide +kernel
theorem dX4_init_8 : decode cX4_init 8 = .ok (.dup, 1) := by decide +kernel
theorem dX4_init_9 : decode cX4_init 9 = .ok (.invokespecial 11, 3) := by decide +kernel
theorem dX4_init_12 : decode cX4_init 12 = .ok (.putfield 12, 3) := by decide +kernel
theorem dX4_init_15 : decode cX4_init 15 = .ok (.aload_n 0, 1) := by decide +kernel
theorem dX4_init_16 : decode cX4_init 16 = .ok (.new 16, 3) := by decide +kernel
theorem dX4_init_19 : decode cX4_init 19 = .ok (.dup, 1) := by decide +kernel
theorem dX4_init_20 : decode cX4_init 20 = .ok (.invokespecial 18, 3) := by decide +kernel
theorem dX4_init_23 : decode cX4_init 23 = .ok (.putfield 19, 3) := by decide +kernel
theorem dX4_init_26 : decode cX4_init 26 = .ok (.aload_n 0, 1) := by decide +kernel
theorem dX4_init_27 : decode cX4_init 27 = .ok (.new 23, 3) := by decide +kernel
theorem dX4_init_30 : decode cX4_init 30 = .ok (.dup, 1) := by decide +kernel
theorem dX4_init_31 : decode cX4_init 31 = .ok (.invokespecial 25, 3) := by decide +kernel
theorem dX4_init_34 : decode cX4_init 34 = .ok (.putfield 26, 3) := by decide +kernel
theorem dX4_init_37 : decode cX4_init 37 = .ok (.aload_n 0, 1) := by decide +kernel
theorem dX4_init_38 : decode cX4_init 38 = .ok (.new 23, 3) := by decide +kernel
theorem dX4_init_41 : decode cX4_init 41 = .ok (.dup, 1) := by decide +kernel
theorem dX4_init_42 : decode cX4_init 42 = .ok (.invokespecial 25, 3) := by decide +kernel
theorem dX4_init_45 : decode cX4_init 45 = .ok (.putfield 30, 3) := by decide +kernel
theorem dX4_init_48 : decode cX4_init 48 = .ok (.aload_n 0, 1) := by decide +kernel
theorem dX4_init_49 : decode cX4_init 49 = .ok (.iconst 0, 1) := by decide +kernel
theorem dX4_init_50 : decode cX4_init 50 = .ok (.putfield 33, 3) := by decide +kernel
theorem dX4_init_53 : decode cX4_init 53 = .ok (.aload_n 0, 1) := by decide +kernel
theorem dX4_init_54 : decode cX4_init 54 = .ok (.new 37, 3) := by decide +kernel
theorem dX4_init_57 : decode cX4_init 57 = .ok (.dup, 1) := by decide +kernel
theorem dX4_init_58 : decode cX4_init 58 = .ok (.invokespecial 39, 3) := by decide +kernel
theorem dX4_init_61 : decode cX4_init 61 = .ok (.putfield 40, 3) := by decide +kernel
theorem dX4_init_64 : decode cX4_init 64 = .ok (.aload_n 0, 1) := by decide +kernel
theorem dX4_init_65 : decode cX4_init 65 = .ok (.new 37, 3) := by decide +kernel
theorem dX4_init_68 : decode cX4_init 68 = .ok (.dup, 1) := by decide +kernel
theorem dX4_init_69 : decode cX4_init 69 = .ok (.invokespecial 39, 3) := by decide +kernel
theorem dX4_init_72 : decode cX4_init 72 = .ok (.putfield 44, 3) := by decide +kernel
theorem dX4_init_75 : decode cX4_init 75 = .ok (.aload_n 0, 1) := by decide +kernel
theorem dX4_init_76 : decode cX4_init 76 = .ok (.bipush 8, 2) := by decide +kernel
theorem dX4_init_78 : decode cX4_init 78 = .ok (.newarray .int, 2) := by decide +kernel
theorem dX4_init_80 : decode cX4_init 80 = .ok (.putfield 47, 3) := by decide +kernel
theorem dX4_init_83 : decode cX4_init 83 = .ok (.aload_n 0, 1) := by decide +kernel
theorem dX4_init_84 : decode cX4_init 84 = .ok (.bipush 8, 2) := by decide +kernel
theorem dX4_init_86 : decode cX4_init 86 = .ok (.newarray .int, 2) := by decide +kernel
theorem dX4_init_88 : decode cX4_init 88 = .ok (.putfield 51, 3) := by decide +kernel
theorem dX4_init_91 : decode cX4_init 91 = .ok (.aload_n 0, 1) := by decide +kernel
theorem dX4_init_92 : decode cX4_init 92 = .ok (.bipush 8, 2) := by decide +kernel
theorem dX4_init_94 : decode cX4_init 94 = .ok (.newarray .double, 2) := by decide +kernel
theorem dX4_init_96 : decode cX4_init 96 = .ok (.putfield 54, 3) := by decide +kernel
theorem dX4_init_99 : decode cX4_init 99 = .ok (.aload_n 0, 1) := by decide +kernel
theorem dX4_init_100 : decode cX4_init 100 = .ok (.bipush 8, 2) := by decide +kernel
theorem dX4_init_102 : decode cX4_init 102 = .ok (.newarray .double, 2) := by decide +kernel
theorem dX4_init_104 : decode cX4_init 104 = .ok (.putfield 58, 3) := by decide +kernel
theorem dX4_init_107 : decode cX4_init 107 = .ok (.return_, 1) := by decide +kernel
theorem dX4_append_0 : decode cX4_append 0 = .ok (.iload_n 1, 1) := by decide +kernel
theorem dX4_append_1 : decode cX4_append 1 = .ok (.bipush 32, 2) := by decide +kernel
theorem dX4_append_3 : decode cX4_append 3 = .ok (.if_icmp .lt 9, 3) := by decide +kernel
theorem dX4_append_6 : decode cX4_append 6 = .ok (.iload_n 1, 1) := by decide +kernel
theorem dX4_append_7 : decode cX4_append 7 = .ok (.bipush 126, 2) := by decide +kernel
theorem dX4_append_9 : decode cX4_append 9 = .ok (.if_icmp .le 5, 3) := by decide +kernel
theorem dX4_append_12 : decode cX4_append 12 = .ok (.iconst (-1), 1) := by decide +kernel
theorem dX4_append_13 : decode cX4_append 13 = .ok (.ireturn, 1) := by decide +kernel
theorem dX4_append_14 : decode cX4_append 14 = .ok (.aload_n 0, 1) := by decide +kernel
theorem dX4_append_15 : decode cX4_append 15 = .ok (.getfield 12, 3) := by decide +kernel
theorem dX4_append_18 : decode cX4_append 18 = .ok (.getfield 61, 3) := by decide +kernel
theorem dX4_append_21 : decode cX4_append 21 = .ok (.bipush 40, 2) := by decide +kernel
theorem dX4_append_23 : decode cX4_append 23 = .ok (.if_icmp .lt 6, 3) := by decide +kernel
theorem dX4_append_26 : decode cX4_append 26 = .ok (.bipush (-2), 2) := by decide +kernel
theorem dX4_append_28 : decode cX4_append 28 = .ok (.ireturn, 1) := by decide +kernel
theorem dX4_append_29 : decode cX4_append 29 = .ok (.aload_n 0, 1) := by decide +kernel
theorem dX4_append_30 : decode cX4_append 30 = .ok (.getfield 12, 3) := by decide +kernel
theorem dX4_append_33 : decode cX4_append 33 = .ok (.getfield 65, 3) := by decide +kernel
theorem dX4_append_36 : decode cX4_append 36 = .ok (.aload_n 0, 1) := by decide +kernel
theorem dX4_append_37 : decode cX4_append 37 = .ok (.getfield 12, 3) := by decide +kernel
theorem dX4_append_40 : decode cX4_append 40 = .ok (.getfield 61, 3) := by decide +kernel
theorem dX4_append_43 : decode cX4_append 43 = .ok (.iload_n 1, 1) := by decide +kernel
theorem dX4_append_44 : decode cX4_append 44 = .ok (.iastore, 1) := by decide +kernel
theorem dX4_append_45 : decode cX4_append 45 = .ok (.aload_n 0, 1) := by decide +kernel
theorem dX4_append_46 : decode cX4_append 46 = .ok (.getfield 12, 3) := by decide +kernel
theorem dX4_append_49 : decode cX4_append 49 = .ok (.dup, 1) := by decide +kernel
theorem dX4_append_50 : decode cX4_append 50 = .ok (.getfield 61, 3) := by decide +kernel
theorem dX4_append_53 : decode cX4_append 53 = .ok (.iconst 1, 1) := by decide +kernel
theorem dX4_append_54 : decode cX4_append 54 = .ok (.iadd, 1) := by decide +kernel
theorem dX4_append_55 : decode cX4_append 55 = .ok (.putfield 61, 3) := by decide +kernel
theorem dX4_append_58 : decode cX4_append 58 = .ok (.aload_n 0, 1) := by decide +kernel
theorem dX4_append_59 : decode cX4_append 59 = .ok (.getfield 12, 3) := by decide +kernel
theorem dX4_append_62 : decode cX4_append 62 = .ok (.getfield 61, 3) := by decide +kernel
theorem dX4_append_65 : decode cX4_append 65 = .ok (.ireturn, 1) := by decide +kernel
theorem dX4_clearInput_0 : decode cX4_clearInput 0 = .ok (.aload_n 0, 1) := by decide +kernel
theorem dX4_clearInput_1 : decode cX4_clearInput 1 = .ok (.getfield 12, 3) := by decide +kernel
theorem dX4_clearInput_4 : decode cX4_clearInput 4 = .ok (.getfield 61, 3) := by decide +kernel
theorem dX4_clearInput_7 : decode cX4_clearInput 7 = .ok (.istore_n 1, 1) := by decide +kernel
theorem dX4_clearInput_8 : decode cX4_clearInput 8 = .ok (.aload_n 0, 1) := by decide +kernel
theorem dX4_clearInput_9 : decode cX4_clearInput 9 = .ok (.getfield 12, 3) := by decide +kernel
theorem dX4_clearInput_12 : decode cX4_clearInput 12 = .ok (.iconst 0, 1) := by decide +kernel
theorem dX4_clearInput_13 : decode cX4_clearInput 13 = .ok (.putfield 61, 3) := by decide +kernel
theorem dX4_clearInput_16 : decode cX4_clearInput 16 = .ok (.iload_n 1, 1) := by decide +kernel
theorem dX4_clearInput_17 : decode cX4_clearInput 17 = .ok (.ireturn, 1) := by decide +kernel
set_option maxRecDepth 20000 in
theorem ggX4_firstError_X1_firstBrokenIndex : GoodIn wsX4_firstError wsX1_firstBrokenIndex := goodIn_r _ [6, 7, 8, 9, 10, 5, 11, 12, 13, 14, 15, 16, 17, 18, 19, 20, 21, 22, 23, 35, 36] rfl (by decide +kernel)
set_option maxRecDepth 20000 in
theorem gX4_firstError_X1_firstBrokenIndex : GoodIn wsX4_firstError (wsV RX4 68 RX1 yX1_firstBrokenIndex wsX1_firstBrokenIndex) := goodIn_app (goodIn_of _ (by decide +kernel)) ggX4_firstError_X1_firstBrokenIndex
theorem dX4_firstError_0 : decode cX4_firstError 0 = .ok (.aload_n 0, 1) := by decide +kernel
theorem dX4_firstError_1 : decode cX4_firstError 1 = .ok (.getfield 12, 3) := by decide +kernel
theorem dX4_firstError_4 : decode cX4_firstError 4 = .ok (.invokevirtual 68, 3) := by decide +kernel
theorem dX4_firstError_7 : decode cX4_firstError 7 = .ok (.ireturn, 1) := by decide +kernel
set_option maxRecDepth 20000 in
theorem ggX4_load_X1_isComplete : GoodIn wsX4_load wsX1_isComplete := goodIn_r _ [11, 12, 13, 14, 10, 15, 16, 17, 18, 19, 20, 21, 22, 23, 24, 25, 26, 27, 28, 29, 30, 31, 32, 93, 94] rfl (by decide +kernel)
set_option maxRecDepth 20000 in
theorem gX4_load_X1_isComplete : GoodIn wsX4_load (wsV RX4 72 RX1 yX1_isComplete wsX1_isComplete) := goodIn_app (goodIn_of _ (by decide +kernel)) ggX4_load_X1_isComplete
set_option maxRecDepth 20000 in
theorem ggX4_load_X1_isConnected : GoodIn wsX4_load wsX1_isConnected := goodIn_r _ [36, 37, 38, 39, 10, 40, 24, 41, 42, 43, 44, 12, 45, 46, 47, 48, 49, 50, 51, 52, 93, 94] rfl (by decide +kernel)
set_option maxRecDepth 20000 in
theorem gX4_load_X1_isConnected : GoodIn wsX4_load (wsV RX4 76 RX1 yX1_isConnected wsX1_isConnected) := goodIn_app (goodIn_of _ (by decide +kernel)) ggX4_load_X1_isConnected
set_option maxRecDepth 20000 in
theorem ggX4_load_X0_build : GoodIn wsX4_load wsX0_build := goodIn_r _ [57, 58, 59, 60, 61, 38, 39, 10, 40, 24, 62, 42, 43, 44, 12, 63, 46, 47, 48, 64, 50, 51, 52, 65, 66, 67, 56, 68, 69, 70, 71, 72, 95, 96, 97, 98, 93, 94] rfl (by decide +kernel)
set_option maxRecDepth 20000 in
theorem gX4_load_X0_build : GoodIn wsX4_load (wsV RX4 79 RX0 yX0_build wsX0_build) := goodIn_app (goodIn_of _ (by decide +kernel)) ggX4_load_X0_build
set_option maxRecDepth 20000 in
theorem ggX4_load_X3_reset : GoodIn wsX4_load wsX3_reset := goodIn_r _ [77, 78, 79, 80, 81, 99, 100, 101, 102, 103] rfl (by decide +kernel)
set_option maxRecDepth 20000 in
theorem gX4_load_X3_reset : GoodIn wsX4_load (wsV RX4 83 RX3 yX3_reset wsX3_reset) := goodIn_app (goodIn_of _ (by decide +kernel)) ggX4_load_X3_reset
theorem dX4_load_0 : decode cX4_load 0 = .ok (.aload_n 0, 1) := by decide +kernel
theorem dX4_load_1 : decode cX4_load 1 = .ok (.getfield 12, 3) := by decide +kernel
theorem dX4_load_4 : decode cX4_load 4 = .ok (.invokevirtual 72, 3) := by decide +kernel
theorem dX4_load_7 : decode cX4_load 7 = .ok (.ifCond .eq 13, 3) := by decide +kernel
theorem dX4_load_10 : decode cX4_load 10 = .ok (.aload_n 0, 1) := by decide +kernel
theorem dX4_load_11 : decode cX4_load 11 = .ok (.getfield 12, 3) := by decide +kernel
theorem dX4_load_14 : decode cX4_load 14 = .ok (.invokevirtual 76, 3) := by decide +kernel
theorem dX4_load_17 : decode cX4_load 17 = .ok (.ifCond .ne 6, 3) := by decide +kernel
theorem dX4_load_20 : decode cX4_load 20 = .ok (.bipush (-3), 2) := by decide +kernel
theorem dX4_load_22 : decode cX4_load 22 = .ok (.ireturn, 1) := by decide +kernel
theorem dX4_load_23 : decode cX4_load 23 = .ok (.aload_n 0, 1) := by decide +kernel
theorem dX4_load_24 : decode cX4_load 24 = .ok (.getfield 19, 3) := by decide +kernel
theorem dX4_load_27 : decode cX4_load 27 = .ok (.aload_n 0, 1) := by decide +kernel
theorem dX4_load_28 : decode cX4_load 28 = .ok (.getfield 12, 3) := by decide +kernel
theorem dX4_load_31 : decode cX4_load 31 = .ok (.invokevirtual 79, 3) := by decide +kernel
theorem dX4_load_34 : decode cX4_load 34 = .ok (.aload_n 0, 1) := by decide +kernel
theorem dX4_load_35 : decode cX4_load 35 = .ok (.getfield 26, 3) := by decide +kernel
theorem dX4_load_38 : decode cX4_load 38 = .ok (.invokevirtual 83, 3) := by decide +kernel
theorem dX4_load_41 : decode cX4_load 41 = .ok (.aload_n 0, 1) := by decide +kernel
theorem dX4_load_42 : decode cX4_load 42 = .ok (.iconst 0, 1) := by decide +kernel
theorem dX4_load_43 : decode cX4_load 43 = .ok (.putfield 33, 3) := by decide +kernel
theorem dX4_load_46 : decode cX4_load 46 = .ok (.aload_n 0, 1) := by decide +kernel
theorem dX4_load_47 : decode cX4_load 47 = .ok (.getfield 12, 3) := by decide +kernel
theorem dX4_load_50 : decode cX4_load 50 = .ok (.iconst 0, 1) := by decide +kernel
theorem dX4_load_51 : decode cX4_load 51 = .ok (.putfield 61, 3) := by decide +kernel
theorem dX4_load_54 : decode cX4_load 54 = .ok (.aload_n 0, 1) := by decide +kernel
theorem dX4_load_55 : decode cX4_load 55 = .ok (.getfield 19, 3) := by decide +kernel
theorem dX4_load_58 : decode cX4_load 58 = .ok (.getfield 86, 3) := by decide +kernel
theorem dX4_load_61 : decode cX4_load 61 = .ok (.ireturn, 1) := by decide +kernel
set_option maxRecDepth 20000 in
theorem ggX4_degree_X0_hasNode : GoodIn wsX4_degree wsX0_hasNode := goodIn_r _ [7, 8, 20, 21, 22, 23] rfl (by decide +kernel)
set_option maxRecDepth 20000 in
theorem gX4_degree_X0_hasNode : GoodIn wsX4_degree (wsV RX4 89 RX0 yX0_hasNode wsX0_hasNode) := goodIn_app (goodIn_of _ (by decide +kernel)) ggX4_degree_X0_hasNode
theorem dX4_degree_0 : decode cX4_degree 0 = .ok (.aload_n 0, 1) := by decide +kernel
theorem dX4_degree_1 : decode cX4_degree 1 = .ok (.getfield 19, 3) := by decide +kernel
theorem dX4_degree_4 : decode cX4_degree 4 = .ok (.iload_n 1, 1) := by decide +kernel
theorem dX4_degree_5 : decode cX4_degree 5 = .ok (.invokevirtual 89, 3) := by decide +kernel
theorem dX4_degree_8 : decode cX4_degree 8 = .ok (.ifCond .ne 6, 3) := by decide +kernel
theorem dX4_degree_11 : decode cX4_degree 11 = .ok (.bipush (-4), 2) := by decide +kernel
theorem dX4_degree_13 : decode cX4_degree 13 = .ok (.ireturn, 1) := by decide +kernel
theorem dX4_degree_14 : decode cX4_degree 14 = .ok (.aload_n 0, 1) := by decide +kernel
theorem dX4_degree_15 : decode cX4_degree 15 = .ok (.getfield 19, 3) := by decide +kernel
theorem dX4_degree_18 : decode cX4_degree 18 = .ok (.getfield 93, 3) := by decide +kernel
theorem dX4_degree_21 : decode cX4_degree 21 = .ok (.iload_n 1, 1) := by decide +kernel
theorem dX4_degree_22 : decode cX4_degree 22 = .ok (.iaload, 1) := by decide +kernel
theorem dX4_degree_23 : decode cX4_degree 23 = .ok (.ireturn, 1) := by decide +kernel
set_option maxRecDepth 20000 in
theorem ggX4_neighbor_X0_neighborError : GoodIn wsX4_neighbor wsX0_neighborError := goodIn_r _ [7, 8, 9, 10, 11, 6, 12, 13, 28, 29, 30, 31] rfl (by decide +kernel)
set_option maxRecDepth 20000 in
theorem gX4_neighbor_X0_neighborError : GoodIn wsX4_neighbor (wsV RX4 96 RX0 yX0_neighborError wsX0_neighborError) := goodIn_app (goodIn_of _ (by decide +kernel)) ggX4_neighbor_X0_neighborError
set_option maxRecDepth 20000 in
theorem ggX4_neighbor_X0_slot : GoodIn wsX4_neighbor wsX0_slot := goodIn_r _ [16] rfl (by decide +kernel)
set_option maxRecDepth 20000 in
theorem gX4_neighbor_X0_slot : GoodIn wsX4_neighbor (va_wsS RX4 103 yX0_slot wsX0_slot) := goodIn_app (goodIn_of _ (by decide +kernel)) ggX4_neighbor_X0_slot
theorem dX4_neighbor_0 : decode cX4_neighbor 0 = .ok (.aload_n 0, 1) := by decide +kernel
theorem dX4_neighbor_1 : decode cX4_neighbor 1 = .ok (.getfield 19, 3) := by decide +kernel
theorem dX4_neighbor_4 : decode cX4_neighbor 4 = .ok (.iload_n 1, 1) := by decide +kernel
theorem dX4_neighbor_5 : decode cX4_neighbor 5 = .ok (.iload_n 2, 1) := by decide +kernel
theorem dX4_neighbor_6 : decode cX4_neighbor 6 = .ok (.invokevirtual 96, 3) := by decide +kernel
theorem dX4_neighbor_9 : decode cX4_neighbor 9 = .ok (.istore_n 3, 1) := by decide +kernel
theorem dX4_neighbor_10 : decode cX4_neighbor 10 = .ok (.iload_n 3, 1) := by decide +kernel
theorem dX4_neighbor_11 : decode cX4_neighbor 11 = .ok (.ifCond .eq 5, 3) := by decide +kernel
theorem dX4_neighbor_14 : decode cX4_neighbor 14 = .ok (.iload_n 3, 1) := by decide +kernel
theorem dX4_neighbor_15 : decode cX4_neighbor 15 = .ok (.ireturn, 1) := by decide +kernel
theorem dX4_neighbor_16 : decode cX4_neighbor 16 = .ok (.aload_n 0, 1) := by decide +kernel
theorem dX4_neighbor_17 : decode cX4_neighbor 17 = .ok (.getfield 19, 3) := by decide +kernel
theorem dX4_neighbor_20 : decode cX4_neighbor 20 = .ok (.getfield 100, 3) := by decide +kernel
theorem dX4_neighbor_23 : decode cX4_neighbor 23 = .ok (.iload_n 1, 1) := by decide +kernel
theorem dX4_neighbor_24 : decode cX4_neighbor 24 = .ok (.iload_n 2, 1) := by decide +kernel
theorem dX4_neighbor_25 : decode cX4_neighbor 25 = .ok (.invokestatic 103, 3) := by decide +kernel
theorem dX4_neighbor_28 : decode cX4_neighbor 28 = .ok (.iaload, 1) := by decide +kernel
theorem dX4_neighbor_29 : decode cX4_neighbor 29 = .ok (.ireturn, 1) := by decide +kernel
set_option maxRecDepth 20000 in
theorem ggX4_rotor_X0_hasNode : GoodIn wsX4_rotor wsX0_hasNode := goodIn_r _ [8, 9, 26, 27, 28, 29] rfl (by decide +kernel)
set_option maxRecDepth 20000 in
theorem gX4_rotor_X0_hasNode : GoodIn wsX4_rotor (wsV RX4 89 RX0 yX0_hasNode wsX0_hasNode) := goodIn_app (goodIn_of _ (by decide +kernel)) ggX4_rotor_X0_hasNode
theorem dX4_rotor_0 : decode cX4_rotor 0 = .ok (.aload_n 0, 1) := by decide +kernel
theorem dX4_rotor_1 : decode cX4_rotor 1 = .ok (.getfield 19, 3) := by decide +kernel
theorem dX4_rotor_4 : decode cX4_rotor 4 = .ok (.iload_n 1, 1) := by decide +kernel
theorem dX4_rotor_5 : decode cX4_rotor 5 = .ok (.invokevirtual 89, 3) := by decide +kernel
theorem dX4_rotor_8 : decode cX4_rotor 8 = .ok (.ifCond .ne 6, 3) := by decide +kernel
theorem dX4_rotor_11 : decode cX4_rotor 11 = .ok (.bipush (-4), 2) := by decide +kernel
theorem dX4_rotor_13 : decode cX4_rotor 13 = .ok (.ireturn, 1) := by decide +kernel
theorem dX4_rotor_14 : decode cX4_rotor 14 = .ok (.aload_n 0, 1) := by decide +kernel
theorem dX4_rotor_15 : decode cX4_rotor 15 = .ok (.getfield 26, 3) := by decide +kernel
theorem dX4_rotor_18 : decode cX4_rotor 18 = .ok (.getfield 106, 3) := by decide +kernel
theorem dX4_rotor_21 : decode cX4_rotor 21 = .ok (.iload_n 1, 1) := by decide +kernel
theorem dX4_rotor_22 : decode cX4_rotor 22 = .ok (.iaload, 1) := by decide +kernel
theorem dX4_rotor_23 : decode cX4_rotor 23 = .ok (.ireturn, 1) := by decide +kernel
set_option maxRecDepth 20000 in
theorem ggX4_setRotor_X0_neighborError : GoodIn wsX4_setRotor wsX0_neighborError := goodIn_r _ [8, 9, 10, 11, 12, 7, 13, 14, 31, 32, 33, 34] rfl (by decide +kernel)
set_option maxRecDepth 20000 in
theorem gX4_setRotor_X0_neighborError : GoodIn wsX4_setRotor (wsV RX4 96 RX0 yX0_neighborError wsX0_neighborError) := goodIn_app (goodIn_of _ (by decide +kernel)) ggX4_setRotor_X0_neighborError
theorem dX4_setRotor_0 : decode cX4_setRotor 0 = .ok (.aload_n 0, 1) := by decide +kernel
theorem dX4_setRotor_1 : decode cX4_setRotor 1 = .ok (.getfield 19, 3) := by decide +kernel
theorem dX4_setRotor_4 : decode cX4_setRotor 4 = .ok (.iload_n 1, 1) := by decide +kernel
theorem dX4_setRotor_5 : decode cX4_setRotor 5 = .ok (.iload_n 2, 1) := by decide +kernel
theorem dX4_setRotor_6 : decode cX4_setRotor 6 = .ok (.invokevirtual 96, 3) := by decide +kernel
theorem dX4_setRotor_9 : decode cX4_setRotor 9 = .ok (.istore_n 3, 1) := by decide +kernel
theorem dX4_setRotor_10 : decode cX4_setRotor 10 = .ok (.iload_n 3, 1) := by decide +kernel
theorem dX4_setRotor_11 : decode cX4_setRotor 11 = .ok (.ifCond .eq 5, 3) := by decide +kernel
theorem dX4_setRotor_14 : decode cX4_setRotor 14 = .ok (.iload_n 3, 1) := by decide +kernel
theorem dX4_setRotor_15 : decode cX4_setRotor 15 = .ok (.ireturn, 1) := by decide +kernel
theorem dX4_setRotor_16 : decode cX4_setRotor 16 = .ok (.aload_n 0, 1) := by decide +kernel
theorem dX4_setRotor_17 : decode cX4_setRotor 17 = .ok (.getfield 26, 3) := by decide +kernel
theorem dX4_setRotor_20 : decode cX4_setRotor 20 = .ok (.getfield 106, 3) := by decide +kernel
theorem dX4_setRotor_23 : decode cX4_setRotor 23 = .ok (.iload_n 1, 1) := by decide +kernel
theorem dX4_setRotor_24 : decode cX4_setRotor 24 = .ok (.iaload, 1) := by decide +kernel
theorem dX4_setRotor_25 : decode cX4_setRotor 25 = .ok (.istore 4, 2) := by decide +kernel
theorem dX4_setRotor_27 : decode cX4_setRotor 27 = .ok (.aload_n 0, 1) := by decide +kernel
theorem dX4_setRotor_28 : decode cX4_setRotor 28 = .ok (.getfield 26, 3) := by decide +kernel
theorem dX4_setRotor_31 : decode cX4_setRotor 31 = .ok (.getfield 106, 3) := by decide +kernel
theorem dX4_setRotor_34 : decode cX4_setRotor 34 = .ok (.iload_n 1, 1) := by decide +kernel
theorem dX4_setRotor_35 : decode cX4_setRotor 35 = .ok (.iload_n 2, 1) := by decide +kernel
theorem dX4_setRotor_36 : decode cX4_setRotor 36 = .ok (.iastore, 1) := by decide +kernel
theorem dX4_setRotor_37 : decode cX4_setRotor 37 = .ok (.iload 4, 2) := by decide +kernel
theorem dX4_setRotor_39 : decode cX4_setRotor 39 = .ok (.ireturn, 1) := by decide +kernel
set_option maxRecDepth 20000 in
theorem ggX4_addWalker_X0_hasNode : GoodIn wsX4_addWalker wsX0_hasNode := goodIn_r _ [9, 10, 27, 28, 29, 30] rfl (by decide +kernel)
set_option maxRecDepth 20000 in
theorem gX4_addWalker_X0_hasNode : GoodIn wsX4_addWalker (wsV RX4 89 RX0 yX0_hasNode wsX0_hasNode) := goodIn_app (goodIn_of _ (by decide +kernel)) ggX4_addWalker_X0_hasNode
theorem dX4_addWalker_0 : decode cX4_addWalker 0 = .ok (.aload_n 0, 1) := by decide +kernel
theorem dX4_addWalker_1 : decode cX4_addWalker 1 = .ok (.getfield 19, 3) := by decide +kernel
theorem dX4_addWalker_4 : decode cX4_addWalker 4 = .ok (.iload_n 1, 1) := by decide +kernel
theorem dX4_addWalker_5 : decode cX4_addWalker 5 = .ok (.invokevirtual 89, 3) := by decide +kernel
theorem dX4_addWalker_8 : decode cX4_addWalker 8 = .ok (.ifCond .ne 6, 3) := by decide +kernel
theorem dX4_addWalker_11 : decode cX4_addWalker 11 = .ok (.bipush (-4), 2) := by decide +kernel
theorem dX4_addWalker_13 : decode cX4_addWalker 13 = .ok (.ireturn, 1) := by decide +kernel
theorem dX4_addWalker_14 : decode cX4_addWalker 14 = .ok (.aload_n 0, 1) := by decide +kernel
theorem dX4_addWalker_15 : decode cX4_addWalker 15 = .ok (.getfield 26, 3) := by decide +kernel
theorem dX4_addWalker_18 : decode cX4_addWalker 18 = .ok (.getfield 109, 3) := by decide +kernel
theorem dX4_addWalker_21 : decode cX4_addWalker 21 = .ok (.iconst 4, 1) := by decide +kernel
theorem dX4_addWalker_22 : decode cX4_addWalker 22 = .ok (.if_icmp .lt 6, 3) := by decide +kernel
theorem dX4_addWalker_25 : decode cX4_addWalker 25 = .ok (.bipush (-7), 2) := by decide +kernel
theorem dX4_addWalker_27 : decode cX4_addWalker 27 = .ok (.ireturn, 1) := by decide +kernel
theorem dX4_addWalker_28 : decode cX4_addWalker 28 = .ok (.aload_n 0, 1) := by decide +kernel
theorem dX4_addWalker_29 : decode cX4_addWalker 29 = .ok (.getfield 26, 3) := by decide +kernel
theorem dX4_addWalker_32 : decode cX4_addWalker 32 = .ok (.getfield 109, 3) := by decide +kernel
theorem dX4_addWalker_35 : decode cX4_addWalker 35 = .ok (.istore_n 2, 1) := by decide +kernel
theorem dX4_addWalker_36 : decode cX4_addWalker 36 = .ok (.aload_n 0, 1) := by decide +kernel
theorem dX4_addWalker_37 : decode cX4_addWalker 37 = .ok (.getfield 26, 3) := by decide +kernel
theorem dX4_addWalker_40 : decode cX4_addWalker 40 = .ok (.getfield 112, 3) := by decide +kernel
theorem dX4_addWalker_43 : decode cX4_addWalker 43 = .ok (.iload_n 2, 1) := by decide +kernel
theorem dX4_addWalker_44 : decode cX4_addWalker 44 = .ok (.iload_n 1, 1) := by decide +kernel
theorem dX4_addWalker_45 : decode cX4_addWalker 45 = .ok (.iastore, 1) := by decide +kernel
theorem dX4_addWalker_46 : decode cX4_addWalker 46 = .ok (.aload_n 0, 1) := by decide +kernel
theorem dX4_addWalker_47 : decode cX4_addWalker 47 = .ok (.getfield 26, 3) := by decide +kernel
theorem dX4_addWalker_50 : decode cX4_addWalker 50 = .ok (.dup, 1) := by decide +kernel
theorem dX4_addWalker_51 : decode cX4_addWalker 51 = .ok (.getfield 109, 3) := by decide +kernel
theorem dX4_addWalker_54 : decode cX4_addWalker 54 = .ok (.iconst 1, 1) := by decide +kernel
theorem dX4_addWalker_55 : decode cX4_addWalker 55 = .ok (.iadd, 1) := by decide +kernel
theorem dX4_addWalker_56 : decode cX4_addWalker 56 = .ok (.putfield 109, 3) := by decide +kernel
theorem dX4_addWalker_59 : decode cX4_addWalker 59 = .ok (.iload_n 2, 1) := by decide +kernel
theorem dX4_addWalker_60 : decode cX4_addWalker 60 = .ok (.ireturn, 1) := by decide +kernel
set_option maxRecDepth 20000 in
theorem ggX4_position_X3_hasWalker : GoodIn wsX4_position wsX3_hasWalker := goodIn_r _ [7, 8, 20, 21, 22, 23, 24] rfl (by decide +kernel)
set_option maxRecDepth 20000 in
theorem gX4_position_X3_hasWalker : GoodIn wsX4_position (wsV RX4 115 RX3 yX3_hasWalker wsX3_hasWalker) := goodIn_app (goodIn_of _ (by decide +kernel)) ggX4_position_X3_hasWalker
theorem dX4_position_0 : decode cX4_position 0 = .ok (.aload_n 0, 1) := by decide +kernel
theorem dX4_position_1 : decode cX4_position 1 = .ok (.getfield 26, 3) := by decide +kernel
theorem dX4_position_4 : decode cX4_position 4 = .ok (.iload_n 1, 1) := by decide +kernel
theorem dX4_position_5 : decode cX4_position 5 = .ok (.invokevirtual 115, 3) := by decide +kernel
theorem dX4_position_8 : decode cX4_position 8 = .ok (.ifCond .ne 6, 3) := by decide +kernel
theorem dX4_position_11 : decode cX4_position 11 = .ok (.bipush (-5), 2) := by decide +kernel
theorem dX4_position_13 : decode cX4_position 13 = .ok (.ireturn, 1) := by decide +kernel
theorem dX4_position_14 : decode cX4_position 14 = .ok (.aload_n 0, 1) := by decide +kernel
theorem dX4_position_15 : decode cX4_position 15 = .ok (.getfield 26, 3) := by decide +kernel
theorem dX4_position_18 : decode cX4_position 18 = .ok (.getfield 112, 3) := by decide +kernel
theorem dX4_position_21 : decode cX4_position 21 = .ok (.iload_n 1, 1) := by decide +kernel
theorem dX4_position_22 : decode cX4_position 22 = .ok (.iaload, 1) := by decide +kernel
theorem dX4_position_23 : decode cX4_position 23 = .ok (.ireturn, 1) := by decide +kernel
set_option maxRecDepth 20000 in
theorem ggX4_step_X3_hasWalker : GoodIn wsX4_step wsX3_hasWalker := goodIn_r _ [8, 9, 39, 40, 41, 42, 43] rfl (by decide +kernel)
set_option maxRecDepth 20000 in
theorem gX4_step_X3_hasWalker : GoodIn wsX4_step (wsV RX4 115 RX3 yX3_hasWalker wsX3_hasWalker) := goodIn_app (goodIn_of _ (by decide +kernel)) ggX4_step_X3_hasWalker
set_option maxRecDepth 20000 in
theorem ggX4_step_X3_move : GoodIn wsX4_step wsX3_move := goodIn_r _ [13, 14, 15, 16, 17, 18, 19, 20, 21, 22, 23, 24, 25, 26, 27, 39, 40, 41, 42, 43, 44, 45, 46, 47] rfl (by decide +kernel)
set_option maxRecDepth 20000 in
theorem gX4_step_X3_move : GoodIn wsX4_step (wsV RX4 118 RX3 yX3_move wsX3_move) := goodIn_app (goodIn_of _ (by decide +kernel)) ggX4_step_X3_move
theorem dX4_step_0 : decode cX4_step 0 = .ok (.aload_n 0, 1) := by decide +kernel
theorem dX4_step_1 : decode cX4_step 1 = .ok (.getfield 26, 3) := by decide +kernel
theorem dX4_step_4 : decode cX4_step 4 = .ok (.iload_n 1, 1) := by decide +kernel
theorem dX4_step_5 : decode cX4_step 5 = .ok (.invokevirtual 115, 3) := by decide +kernel
theorem dX4_step_8 : decode cX4_step 8 = .ok (.ifCond .ne 6, 3) := by decide +kernel
theorem dX4_step_11 : decode cX4_step 11 = .ok (.bipush (-5), 2) := by decide +kernel
theorem dX4_step_13 : decode cX4_step 13 = .ok (.ireturn, 1) := by decide +kernel
theorem dX4_step_14 : decode cX4_step 14 = .ok (.iload_n 2, 1) := by decide +kernel
theorem dX4_step_15 : decode cX4_step 15 = .ok (.iconst 1, 1) := by decide +kernel
theorem dX4_step_16 : decode cX4_step 16 = .ok (.if_icmp .lt 10, 3) := by decide +kernel
theorem dX4_step_19 : decode cX4_step 19 = .ok (.iload_n 2, 1) := by decide +kernel
theorem dX4_step_20 : decode cX4_step 20 = .ok (.sipush 1000, 3) := by decide +kernel
theorem dX4_step_23 : decode cX4_step 23 = .ok (.if_icmp .le 6, 3) := by decide +kernel
theorem dX4_step_26 : decode cX4_step 26 = .ok (.bipush (-6), 2) := by decide +kernel
theorem dX4_step_28 : decode cX4_step 28 = .ok (.ireturn, 1) := by decide +kernel
theorem dX4_step_29 : decode cX4_step 29 = .ok (.iconst 0, 1) := by decide +kernel
theorem dX4_step_30 : decode cX4_step 30 = .ok (.istore_n 3, 1) := by decide +kernel
theorem dX4_step_31 : decode cX4_step 31 = .ok (.iload_n 3, 1) := by decide +kernel
theorem dX4_step_32 : decode cX4_step 32 = .ok (.iload_n 2, 1) := by decide +kernel
theorem dX4_step_33 : decode cX4_step 33 = .ok (.if_icmp .ge 21, 3) := by decide +kernel
theorem dX4_step_36 : decode cX4_step 36 = .ok (.aload_n 0, 1) := by decide +kernel
theorem dX4_step_37 : decode cX4_step 37 = .ok (.getfield 26, 3) := by decide +kernel
theorem dX4_step_40 : decode cX4_step 40 = .ok (.iload_n 1, 1) := by decide +kernel
theorem dX4_step_41 : decode cX4_step 41 = .ok (.aload_n 0, 1) := by decide +kernel
theorem dX4_step_42 : decode cX4_step 42 = .ok (.getfield 19, 3) := by decide +kernel
theorem dX4_step_45 : decode cX4_step 45 = .ok (.invokevirtual 118, 3) := by decide +kernel
theorem dX4_step_48 : decode cX4_step 48 = .ok (.iinc 3 1, 3) := by decide +kernel
theorem dX4_step_51 : decode cX4_step 51 = .ok (.goto (-20), 3) := by decide +kernel
theorem dX4_step_54 : decode cX4_step 54 = .ok (.aload_n 0, 1) := by decide +kernel
theorem dX4_step_55 : decode cX4_step 55 = .ok (.getfield 26, 3) := by decide +kernel
theorem dX4_step_58 : decode cX4_step 58 = .ok (.getfield 112, 3) := by decide +kernel
theorem dX4_step_61 : decode cX4_step 61 = .ok (.iload_n 1, 1) := by decide +kernel
theorem dX4_step_62 : decode cX4_step 62 = .ok (.iaload, 1) := by decide +kernel
theorem dX4_step_63 : decode cX4_step 63 = .ok (.ireturn, 1) := by decide +kernel
set_option maxRecDepth 20000 in
theorem ggX4_absorb_X0_hasNode : GoodIn wsX4_absorb wsX0_hasNode := goodIn_r _ [6, 7, 54, 55, 56, 57] rfl (by decide +kernel)
set_option maxRecDepth 20000 in
theorem gX4_absorb_X0_hasNode : GoodIn wsX4_absorb (wsV RX4 89 RX0 yX0_hasNode wsX0_hasNode) := goodIn_app (goodIn_of _ (by decide +kernel)) ggX4_absorb_X0_hasNode
set_option maxRecDepth 20000 in
theorem ggX4_absorb_X4_absorbInTurns : GoodIn wsX4_absorb wsX4_absorbInTurns := goodIn_r _ [12, 13, 14, 15, 16, 11, 17, 18, 19, 20, 1, 21, 22, 23, 24, 25, 26, 27, 28, 29, 30, 31, 32, 5, 33, 34, 35, 36, 37, 38, 43, 44, 45, 46, 47, 48, 49, 50, 51, 52, 53, 58, 59, 60, 61, 62, 54, 55, 56, 57] rfl (by decide +kernel)
set_option maxRecDepth 20000 in
theorem gX4_absorb_X4_absorbInTurns : GoodIn wsX4_absorb (wsV RX4 122 RX4 yX4_absorbInTurns wsX4_absorbInTurns) := goodIn_app (goodIn_of _ (by decide +kernel)) ggX4_absorb_X4_absorbInTurns
set_option maxRecDepth 20000 in
theorem ggX4_absorb_X4_absorbOneByOne : GoodIn wsX4_absorb wsX4_absorbOneByOne := goodIn_r _ [42, 18, 19, 20, 13, 1, 21, 22, 23, 24, 25, 26, 27, 28, 29, 30, 31, 32, 5, 33, 34, 35, 36, 37, 38, 43, 44, 45, 46, 47, 48, 49, 50, 51, 52, 53, 58, 59, 60, 61, 62, 54, 55, 56, 57] rfl (by decide +kernel)
set_option maxRecDepth 20000 in
theorem gX4_absorb_X4_absorbOneByOne : GoodIn wsX4_absorb (wsV RX4 126 RX4 yX4_absorbOneByOne wsX4_absorbOneByOne) := goodIn_app (goodIn_of _ (by decide +kernel)) ggX4_absorb_X4_absorbOneByOne
theorem dX4_absorb_0 : decode cX4_absorb 0 = .ok (.aload_n 0, 1) := by decide +kernel
theorem dX4_absorb_1 : decode cX4_absorb 1 = .ok (.getfield 19, 3) := by decide +kernel
theorem dX4_absorb_4 : decode cX4_absorb 4 = .ok (.iload_n 1, 1) := by decide +kernel
theorem dX4_absorb_5 : decode cX4_absorb 5 = .ok (.invokevirtual 89, 3) := by decide +kernel
theorem dX4_absorb_8 : decode cX4_absorb 8 = .ok (.ifCond .ne 6, 3) := by decide +kernel
theorem dX4_absorb_11 : decode cX4_absorb 11 = .ok (.bipush (-4), 2) := by decide +kernel
theorem dX4_absorb_13 : decode cX4_absorb 13 = .ok (.ireturn, 1) := by decide +kernel
theorem dX4_absorb_14 : decode cX4_absorb 14 = .ok (.iload_n 2, 1) := by decide +kernel
theorem dX4_absorb_15 : decode cX4_absorb 15 = .ok (.ifCond .eq 11, 3) := by decide +kernel
theorem dX4_absorb_18 : decode cX4_absorb 18 = .ok (.aload_n 0, 1) := by decide +kernel
theorem dX4_absorb_19 : decode cX4_absorb 19 = .ok (.iload_n 1, 1) := by decide +kernel
theorem dX4_absorb_20 : decode cX4_absorb 20 = .ok (.invokevirtual 122, 3) := by decide +kernel
theorem dX4_absorb_23 : decode cX4_absorb 23 = .ok (.goto 8, 3) := by decide +kernel
theorem dX4_absorb_26 : decode cX4_absorb 26 = .ok (.aload_n 0, 1) := by decide +kernel
theorem dX4_absorb_27 : decode cX4_absorb 27 = .ok (.iload_n 1, 1) := by decide +kernel
theorem dX4_absorb_28 : decode cX4_absorb 28 = .ok (.invokevirtual 126, 3) := by decide +kernel
theorem dX4_absorb_31 : decode cX4_absorb 31 = .ok (.ireturn, 1) := by decide +kernel
set_option maxRecDepth 20000 in
theorem ggX4_arrivals_X0_hasNode : GoodIn wsX4_arrivals wsX0_hasNode := goodIn_r _ [8, 9, 26, 27, 28, 29] rfl (by decide +kernel)
set_option maxRecDepth 20000 in
theorem gX4_arrivals_X0_hasNode : GoodIn wsX4_arrivals (wsV RX4 89 RX0 yX0_hasNode wsX0_hasNode) := goodIn_app (goodIn_of _ (by decide +kernel)) ggX4_arrivals_X0_hasNode
theorem dX4_arrivals_0 : decode cX4_arrivals 0 = .ok (.aload_n 0, 1) := by decide +kernel
theorem dX4_arrivals_1 : decode cX4_arrivals 1 = .ok (.getfield 19, 3) := by decide +kernel
theorem dX4_arrivals_4 : decode cX4_arrivals 4 = .ok (.iload_n 1, 1) := by decide +kernel
theorem dX4_arrivals_5 : decode cX4_arrivals 5 = .ok (.invokevirtual 89, 3) := by decide +kernel
theorem dX4_arrivals_8 : decode cX4_arrivals 8 = .ok (.ifCond .ne 6, 3) := by decide +kernel
theorem dX4_arrivals_11 : decode cX4_arrivals 11 = .ok (.bipush (-4), 2) := by decide +kernel
theorem dX4_arrivals_13 : decode cX4_arrivals 13 = .ok (.ireturn, 1) := by decide +kernel
theorem dX4_arrivals_14 : decode cX4_arrivals 14 = .ok (.aload_n 0, 1) := by decide +kernel
theorem dX4_arrivals_15 : decode cX4_arrivals 15 = .ok (.getfield 26, 3) := by decide +kernel
theorem dX4_arrivals_18 : decode cX4_arrivals 18 = .ok (.getfield 129, 3) := by decide +kernel
theorem dX4_arrivals_21 : decode cX4_arrivals 21 = .ok (.iload_n 1, 1) := by decide +kernel
theorem dX4_arrivals_22 : decode cX4_arrivals 22 = .ok (.iaload, 1) := by decide +kernel
theorem dX4_arrivals_23 : decode cX4_arrivals 23 = .ok (.ireturn, 1) := by decide +kernel
set_option maxRecDepth 20000 in
theorem ggX4_departures_X0_neighborError : GoodIn wsX4_departures wsX0_neighborError := goodIn_r _ [8, 9, 10, 11, 12, 7, 13, 14, 34, 35, 36, 37] rfl (by decide +kernel)
set_option maxRecDepth 20000 in
theorem gX4_departures_X0_neighborError : GoodIn wsX4_departures (wsV RX4 96 RX0 yX0_neighborError wsX0_neighborError) := goodIn_app (goodIn_of _ (by decide +kernel)) ggX4_departures_X0_neighborError
set_option maxRecDepth 20000 in
theorem ggX4_departures_X0_slot : GoodIn wsX4_departures wsX0_slot := goodIn_r _ [17] rfl (by decide +kernel)
set_option maxRecDepth 20000 in
theorem gX4_departures_X0_slot : GoodIn wsX4_departures (va_wsS RX4 103 yX0_slot wsX0_slot) := goodIn_app (goodIn_of _ (by decide +kernel)) ggX4_departures_X0_slot
theorem dX4_departures_0 : decode cX4_departures 0 = .ok (.aload_n 0, 1) := by decide +kernel
theorem dX4_departures_1 : decode cX4_departures 1 = .ok (.getfield 19, 3) := by decide +kernel
theorem dX4_departures_4 : decode cX4_departures 4 = .ok (.iload_n 1, 1) := by decide +kernel
theorem dX4_departures_5 : decode cX4_departures 5 = .ok (.iload_n 2, 1) := by decide +kernel
theorem dX4_departures_6 : decode cX4_departures 6 = .ok (.invokevirtual 96, 3) := by decide +kernel
theorem dX4_departures_9 : decode cX4_departures 9 = .ok (.istore_n 3, 1) := by decide +kernel
theorem dX4_departures_10 : decode cX4_departures 10 = .ok (.iload_n 3, 1) := by decide +kernel
theorem dX4_departures_11 : decode cX4_departures 11 = .ok (.ifCond .eq 5, 3) := by decide +kernel
theorem dX4_departures_14 : decode cX4_departures 14 = .ok (.iload_n 3, 1) := by decide +kernel
theorem dX4_departures_15 : decode cX4_departures 15 = .ok (.ireturn, 1) := by decide +kernel
theorem dX4_departures_16 : decode cX4_departures 16 = .ok (.aload_n 0, 1) := by decide +kernel
theorem dX4_departures_17 : decode cX4_departures 17 = .ok (.getfield 26, 3) := by decide +kernel
theorem dX4_departures_20 : decode cX4_departures 20 = .ok (.getfield 132, 3) := by decide +kernel
theorem dX4_departures_23 : decode cX4_departures 23 = .ok (.iload_n 1, 1) := by decide +kernel
theorem dX4_departures_24 : decode cX4_departures 24 = .ok (.iload_n 2, 1) := by decide +kernel
theorem dX4_departures_25 : decode cX4_departures 25 = .ok (.invokestatic 103, 3) := by decide +kernel
theorem dX4_departures_28 : decode cX4_departures 28 = .ok (.iaload, 1) := by decide +kernel
theorem dX4_departures_29 : decode cX4_departures 29 = .ok (.ireturn, 1) := by decide +kernel
set_option maxRecDepth 20000 in
theorem ggX4_stepsToCycle_X3_hasWalker : GoodIn wsX4_stepsToCycle wsX3_hasWalker := goodIn_r _ [14, 15, 60, 61, 62, 63, 64] rfl (by decide +kernel)
set_option maxRecDepth 20000 in
theorem gX4_stepsToCycle_X3_hasWalker : GoodIn wsX4_stepsToCycle (wsV RX4 115 RX3 yX3_hasWalker wsX3_hasWalker) := goodIn_app (goodIn_of _ (by decide +kernel)) ggX4_stepsToCycle_X3_hasWalker
set_option maxRecDepth 20000 in
theorem ggX4_stepsToCycle_X2_start : GoodIn wsX4_stepsToCycle wsX2_start := goodIn_r _ [20, 21, 22, 23, 24, 25, 26, 65, 66] rfl (by decide +kernel)
set_option maxRecDepth 20000 in
theorem gX4_stepsToCycle_X2_start : GoodIn wsX4_stepsToCycle (wsV RX4 138 RX2 yX2_start wsX2_start) := goodIn_app (goodIn_of _ (by decide +kernel)) ggX4_stepsToCycle_X2_start
set_option maxRecDepth 20000 in
theorem ggX4_stepsToCycle_X2_move : GoodIn wsX4_stepsToCycle wsX2_move := goodIn_r _ [30, 21, 31, 22, 32, 33, 34, 35, 36, 37, 38, 39, 40, 65, 66, 56, 57, 58, 59] rfl (by decide +kernel)
set_option maxRecDepth 20000 in
theorem gX4_stepsToCycle_X2_move : GoodIn wsX4_stepsToCycle (wsV RX4 142 RX2 yX2_move wsX2_move) := goodIn_app (goodIn_of _ (by decide +kernel)) ggX4_stepsToCycle_X2_move
set_option maxRecDepth 20000 in
theorem ggX4_stepsToCycle_X2_isSameAs : GoodIn wsX4_stepsToCycle wsX2_isSameAs := goodIn_r _ [44, 21, 22, 65, 66] rfl (by decide +kernel)
set_option maxRecDepth 20000 in
theorem gX4_stepsToCycle_X2_isSameAs : GoodIn wsX4_stepsToCycle (wsV RX4 146 RX2 yX2_isSameAs wsX2_isSameAs) := goodIn_app (goodIn_of _ (by decide +kernel)) ggX4_stepsToCycle_X2_isSameAs
theorem dX4_stepsToCycle_0 : decode cX4_stepsToCycle 0 = .ok (.aload_n 0, 1) := by decide +kernel
theorem dX4_stepsToCycle_1 : decode cX4_stepsToCycle 1 = .ok (.getfield 26, 3) := by decide +kernel
theorem dX4_stepsToCycle_4 : decode cX4_stepsToCycle 4 = .ok (.iload_n 1, 1) := by decide +kernel
theorem dX4_stepsToCycle_5 : decode cX4_stepsToCycle 5 = .ok (.invokevirtual 115, 3) := by decide +kernel
theorem dX4_stepsToCycle_8 : decode cX4_stepsToCycle 8 = .ok (.ifCond .ne 6, 3) := by decide +kernel
theorem dX4_stepsToCycle_11 : decode cX4_stepsToCycle 11 = .ok (.bipush (-5), 2) := by decide +kernel
theorem dX4_stepsToCycle_13 : decode cX4_stepsToCycle 13 = .ok (.ireturn, 1) := by decide +kernel
theorem dX4_stepsToCycle_14 : decode cX4_stepsToCycle 14 = .ok (.iconst 2, 1) := by decide +kernel
theorem dX4_stepsToCycle_15 : decode cX4_stepsToCycle 15 = .ok (.aload_n 0, 1) := by decide +kernel
theorem dX4_stepsToCycle_16 : decode cX4_stepsToCycle 16 = .ok (.getfield 19, 3) := by decide +kernel
theorem dX4_stepsToCycle_19 : decode cX4_stepsToCycle 19 = .ok (.getfield 135, 3) := by decide +kernel
theorem dX4_stepsToCycle_22 : decode cX4_stepsToCycle 22 = .ok (.imul, 1) := by decide +kernel
theorem dX4_stepsToCycle_23 : decode cX4_stepsToCycle 23 = .ok (.istore_n 2, 1) := by decide +kernel
theorem dX4_stepsToCycle_24 : decode cX4_stepsToCycle 24 = .ok (.aload_n 0, 1) := by decide +kernel
theorem dX4_stepsToCycle_25 : decode cX4_stepsToCycle 25 = .ok (.getfield 40, 3) := by decide +kernel
theorem dX4_stepsToCycle_28 : decode cX4_stepsToCycle 28 = .ok (.aload_n 0, 1) := by decide +kernel
theorem dX4_stepsToCycle_29 : decode cX4_stepsToCycle 29 = .ok (.getfield 26, 3) := by decide +kernel
theorem dX4_stepsToCycle_32 : decode cX4_stepsToCycle 32 = .ok (.getfield 112, 3) := by decide +kernel
theorem dX4_stepsToCycle_35 : decode cX4_stepsToCycle 35 = .ok (.iload_n 1, 1) := by decide +kernel
theorem dX4_stepsToCycle_36 : decode cX4_stepsToCycle 36 = .ok (.iaload, 1) := by decide +kernel
theorem dX4_stepsToCycle_37 : decode cX4_stepsToCycle 37 = .ok (.aload_n 0, 1) := by decide +kernel
theorem dX4_stepsToCycle_38 : decode cX4_stepsToCycle 38 = .ok (.getfield 26, 3) := by decide +kernel
theorem dX4_stepsToCycle_41 : decode cX4_stepsToCycle 41 = .ok (.getfield 106, 3) := by decide +kernel
theorem dX4_stepsToCycle_44 : decode cX4_stepsToCycle 44 = .ok (.invokevirtual 138, 3) := by decide +kernel
theorem dX4_stepsToCycle_47 : decode cX4_stepsToCycle 47 = .ok (.aload_n 0, 1) := by decide +kernel
theorem dX4_stepsToCycle_48 : decode cX4_stepsToCycle 48 = .ok (.getfield 44, 3) := by decide +kernel
theorem dX4_stepsToCycle_51 : decode cX4_stepsToCycle 51 = .ok (.aload_n 0, 1) := by decide +kernel
theorem dX4_stepsToCycle_52 : decode cX4_stepsToCycle 52 = .ok (.getfield 26, 3) := by decide +kernel
theorem dX4_stepsToCycle_55 : decode cX4_stepsToCycle 55 = .ok (.getfield 112, 3) := by decide +kernel
theorem dX4_stepsToCycle_58 : decode cX4_stepsToCycle 58 = .ok (.iload_n 1, 1) := by decide +kernel
theorem dX4_stepsToCycle_59 : decode cX4_stepsToCycle 59 = .ok (.iaload, 1) := by decide +kernel
theorem dX4_stepsToCycle_60 : decode cX4_stepsToCycle 60 = .ok (.aload_n 0, 1) := by decide +kernel
theorem dX4_stepsToCycle_61 : decode cX4_stepsToCycle 61 = .ok (.getfield 26, 3) := by decide +kernel
theorem dX4_stepsToCycle_64 : decode cX4_stepsToCycle 64 = .ok (.getfield 106, 3) := by decide +kernel
theorem dX4_stepsToCycle_67 : decode cX4_stepsToCycle 67 = .ok (.invokevirtual 138, 3) := by decide +kernel
theorem dX4_stepsToCycle_70 : decode cX4_stepsToCycle 70 = .ok (.iconst 0, 1) := by decide +kernel
theorem dX4_stepsToCycle_71 : decode cX4_stepsToCycle 71 = .ok (.istore_n 3, 1) := by decide +kernel
theorem dX4_stepsToCycle_72 : decode cX4_stepsToCycle 72 = .ok (.iload_n 3, 1) := by decide +kernel
theorem dX4_stepsToCycle_73 : decode cX4_stepsToCycle 73 = .ok (.iload_n 2, 1) := by decide +kernel
theorem dX4_stepsToCycle_74 : decode cX4_stepsToCycle 74 = .ok (.if_icmp .ge 20, 3) := by decide +kernel
theorem dX4_stepsToCycle_77 : decode cX4_stepsToCycle 77 = .ok (.aload_n 0, 1) := by decide +kernel
theorem dX4_stepsToCycle_78 : decode cX4_stepsToCycle 78 = .ok (.getfield 44, 3) := by decide +kernel
theorem dX4_stepsToCycle_81 : decode cX4_stepsToCycle 81 = .ok (.aload_n 0, 1) := by decide +kernel
theorem dX4_stepsToCycle_82 : decode cX4_stepsToCycle 82 = .ok (.getfield 19, 3) := by decide +kernel
theorem dX4_stepsToCycle_85 : decode cX4_stepsToCycle 85 = .ok (.invokevirtual 142, 3) := by decide +kernel
theorem dX4_stepsToCycle_88 : decode cX4_stepsToCycle 88 = .ok (.iinc 3 1, 3) := by decide +kernel
theorem dX4_stepsToCycle_91 : decode cX4_stepsToCycle 91 = .ok (.goto (-19), 3) := by decide +kernel
theorem dX4_stepsToCycle_94 : decode cX4_stepsToCycle 94 = .ok (.iconst 0, 1) := by decide +kernel
theorem dX4_stepsToCycle_95 : decode cX4_stepsToCycle 95 = .ok (.istore_n 3, 1) := by decide +kernel
theorem dX4_stepsToCycle_96 : decode cX4_stepsToCycle 96 = .ok (.iload_n 3, 1) := by decide +kernel
theorem dX4_stepsToCycle_97 : decode cX4_stepsToCycle 97 = .ok (.ldc 145, 2) := by decide +kernel
theorem dX4_stepsToCycle_99 : decode cX4_stepsToCycle 99 = .ok (.if_icmp .ge 52, 3) := by decide +kernel
theorem dX4_stepsToCycle_102 : decode cX4_stepsToCycle 102 = .ok (.aload_n 0, 1) := by decide +kernel
theorem dX4_stepsToCycle_103 : decode cX4_stepsToCycle 103 = .ok (.getfield 40, 3) := by decide +kernel
theorem dX4_stepsToCycle_106 : decode cX4_stepsToCycle 106 = .ok (.aload_n 0, 1) := by decide +kernel
theorem dX4_stepsToCycle_107 : decode cX4_stepsToCycle 107 = .ok (.getfield 44, 3) := by decide +kernel
theorem dX4_stepsToCycle_110 : decode cX4_stepsToCycle 110 = .ok (.aload_n 0, 1) := by decide +kernel
theorem dX4_stepsToCycle_111 : decode cX4_stepsToCycle 111 = .ok (.getfield 19, 3) := by decide +kernel
theorem dX4_stepsToCycle_114 : decode cX4_stepsToCycle 114 = .ok (.getfield 86, 3) := by decide +kernel
theorem dX4_stepsToCycle_117 : decode cX4_stepsToCycle 117 = .ok (.invokevirtual 146, 3) := by decide +kernel
theorem dX4_stepsToCycle_120 : decode cX4_stepsToCycle 120 = .ok (.ifCond .ne 31, 3) := by decide +kernel
theorem dX4_stepsToCycle_123 : decode cX4_stepsToCycle 123 = .ok (.aload_n 0, 1) := by decide +kernel
theorem dX4_stepsToCycle_124 : decode cX4_stepsToCycle 124 = .ok (.getfield 40, 3) := by decide +kernel
theorem dX4_stepsToCycle_127 : decode cX4_stepsToCycle 127 = .ok (.aload_n 0, 1) := by decide +kernel
theorem dX4_stepsToCycle_128 : decode cX4_stepsToCycle 128 = .ok (.getfield 19, 3) := by decide +kernel
theorem dX4_stepsToCycle_131 : decode cX4_stepsToCycle 131 = .ok (.invokevirtual 142, 3) := by decide +kernel
theorem dX4_stepsToCycle_134 : decode cX4_stepsToCycle 134 = .ok (.aload_n 0, 1) := by decide +kernel
theorem dX4_stepsToCycle_135 : decode cX4_stepsToCycle 135 = .ok (.getfield 44, 3) := by decide +kernel
theorem dX4_stepsToCycle_138 : decode cX4_stepsToCycle 138 = .ok (.aload_n 0, 1) := by decide +kernel
theorem dX4_stepsToCycle_139 : decode cX4_stepsToCycle 139 = .ok (.getfield 19, 3) := by decide +kernel
theorem dX4_stepsToCycle_142 : decode cX4_stepsToCycle 142 = .ok (.invokevirtual 142, 3) := by decide +kernel
theorem dX4_stepsToCycle_145 : decode cX4_stepsToCycle 145 = .ok (.iinc 3 1, 3) := by decide +kernel
theorem dX4_stepsToCycle_148 : decode cX4_stepsToCycle 148 = .ok (.goto (-52), 3) := by decide +kernel
theorem dX4_stepsToCycle_151 : decode cX4_stepsToCycle 151 = .ok (.iload_n 3, 1) := by decide +kernel
theorem dX4_stepsToCycle_152 : decode cX4_stepsToCycle 152 = .ok (.ireturn, 1) := by decide +kernel
set_option maxRecDepth 20000 in
theorem ggX4_coverTime_X3_hasWalker : GoodIn wsX4_coverTime wsX3_hasWalker := goodIn_r _ [9, 10, 56, 57, 58, 59, 60] rfl (by decide +kernel)
set_option maxRecDepth 20000 in
theorem gX4_coverTime_X3_hasWalker : GoodIn wsX4_coverTime (wsV RX4 115 RX3 yX3_hasWalker wsX3_hasWalker) := goodIn_app (goodIn_of _ (by decide +kernel)) ggX4_coverTime_X3_hasWalker
set_option maxRecDepth 20000 in
theorem ggX4_coverTime_X4_coverTimeBelow : GoodIn wsX4_coverTime wsX4_coverTimeBelow := goodIn_r _ [15, 16, 17, 18, 19, 20, 21, 22, 23, 24, 25, 26, 27, 28, 29, 30, 31, 32, 33, 34, 35, 36, 37, 38, 39, 40, 41, 42, 43, 44, 45, 46, 47, 48, 49, 50, 51, 52, 53, 54, 55, 61, 62, 63, 64, 65, 66] rfl (by decide +kernel)
set_option maxRecDepth 20000 in
theorem gX4_coverTime_X4_coverTimeBelow : GoodIn wsX4_coverTime (wsV RX4 150 RX4 yX4_coverTimeBelow wsX4_coverTimeBelow) := goodIn_app (goodIn_of _ (by decide +kernel)) ggX4_coverTime_X4_coverTimeBelow
theorem dX4_coverTime_0 : decode cX4_coverTime 0 = .ok (.aload_n 0, 1) := by decide +kernel
theorem dX4_coverTime_1 : decode cX4_coverTime 1 = .ok (.getfield 26, 3) := by decide +kernel
theorem dX4_coverTime_4 : decode cX4_coverTime 4 = .ok (.iload_n 1, 1) := by decide +kernel
theorem dX4_coverTime_5 : decode cX4_coverTime 5 = .ok (.invokevirtual 115, 3) := by decide +kernel
theorem dX4_coverTime_8 : decode cX4_coverTime 8 = .ok (.ifCond .ne 6, 3) := by decide +kernel
theorem dX4_coverTime_11 : decode cX4_coverTime 11 = .ok (.bipush (-5), 2) := by decide +kernel
theorem dX4_coverTime_13 : decode cX4_coverTime 13 = .ok (.ireturn, 1) := by decide +kernel
theorem dX4_coverTime_14 : decode cX4_coverTime 14 = .ok (.aload_n 0, 1) := by decide +kernel
theorem dX4_coverTime_15 : decode cX4_coverTime 15 = .ok (.ldc 145, 2) := by decide +kernel
theorem dX4_coverTime_17 : decode cX4_coverTime 17 = .ok (.aload_n 0, 1) := by decide +kernel
theorem dX4_coverTime_18 : decode cX4_coverTime 18 = .ok (.getfield 26, 3) := by decide +kernel
theorem dX4_coverTime_21 : decode cX4_coverTime 21 = .ok (.getfield 112, 3) := by decide +kernel
theorem dX4_coverTime_24 : decode cX4_coverTime 24 = .ok (.iload_n 1, 1) := by decide +kernel
theorem dX4_coverTime_25 : decode cX4_coverTime 25 = .ok (.iaload, 1) := by decide +kernel
theorem dX4_coverTime_26 : decode cX4_coverTime 26 = .ok (.aload_n 0, 1) := by decide +kernel
theorem dX4_coverTime_27 : decode cX4_coverTime 27 = .ok (.getfield 26, 3) := by decide +kernel
theorem dX4_coverTime_30 : decode cX4_coverTime 30 = .ok (.getfield 106, 3) := by decide +kernel
theorem dX4_coverTime_33 : decode cX4_coverTime 33 = .ok (.invokevirtual 150, 3) := by decide +kernel
theorem dX4_coverTime_36 : decode cX4_coverTime 36 = .ok (.ireturn, 1) := by decide +kernel
set_option maxRecDepth 20000 in
theorem ggX4_leastCoverTime_X0_hasNode : GoodIn wsX4_leastCoverTime wsX0_hasNode := goodIn_r _ [6, 7, 68, 69, 70, 71] rfl (by decide +kernel)
set_option maxRecDepth 20000 in
theorem gX4_leastCoverTime_X0_hasNode : GoodIn wsX4_leastCoverTime (wsV RX4 89 RX0 yX0_hasNode wsX0_hasNode) := goodIn_app (goodIn_of _ (by decide +kernel)) ggX4_leastCoverTime_X0_hasNode
set_option maxRecDepth 20000 in
theorem ggX4_leastCoverTime_X0_assignments : GoodIn wsX4_leastCoverTime wsX0_assignments := goodIn_r _ [11, 7, 12, 68, 69, 70, 71] rfl (by decide +kernel)
set_option maxRecDepth 20000 in
theorem gX4_leastCoverTime_X0_assignments : GoodIn wsX4_leastCoverTime (wsV RX4 154 RX0 yX0_assignments wsX0_assignments) := goodIn_app (goodIn_of _ (by decide +kernel)) ggX4_leastCoverTime_X0_assignments
set_option maxRecDepth 20000 in
theorem ggX4_leastCoverTime_X4_searchAssignments : GoodIn wsX4_leastCoverTime wsX4_searchAssignments := goodIn_r _ [17, 1, 18, 19, 20, 21, 22, 23, 24, 25, 8, 9, 10, 5, 11, 7, 12, 26, 27, 28, 16, 29, 30, 31, 32, 33, 34, 35, 36, 37, 38, 39, 40, 41, 42, 43, 44, 45, 46, 47, 48, 49, 50, 51, 52, 53, 54, 55, 56, 57, 58, 59, 60, 61, 62, 63, 64, 65, 66, 67, 68, 69, 70, 71, 72, 73] rfl (by decide +kernel)
set_option maxRecDepth 20000 in
theorem gX4_leastCoverTime_X4_searchAssignments : GoodIn wsX4_leastCoverTime (wsV RX4 157 RX4 yX4_searchAssignments wsX4_searchAssignments) := goodIn_app (goodIn_of _ (by decide +kernel)) ggX4_leastCoverTime_X4_searchAssignments
theorem dX4_leastCoverTime_0 : decode cX4_leastCoverTime 0 = .ok (.aload_n 0, 1) := by decide +kernel
theorem dX4_leastCoverTime_1 : decode cX4_leastCoverTime 1 = .ok (.getfield 19, 3) := by decide +kernel
theorem dX4_leastCoverTime_4 : decode cX4_leastCoverTime 4 = .ok (.iload_n 1, 1) := by decide +kernel
theorem dX4_leastCoverTime_5 : decode cX4_leastCoverTime 5 = .ok (.invokevirtual 89, 3) := by decide +kernel
theorem dX4_leastCoverTime_8 : decode cX4_leastCoverTime 8 = .ok (.ifCond .ne 6, 3) := by decide +kernel
theorem dX4_leastCoverTime_11 : decode cX4_leastCoverTime 11 = .ok (.bipush (-4), 2) := by decide +kernel
theorem dX4_leastCoverTime_13 : decode cX4_leastCoverTime 13 = .ok (.ireturn, 1) := by decide +kernel
theorem dX4_leastCoverTime_14 : decode cX4_leastCoverTime 14 = .ok (.aload_n 0, 1) := by decide +kernel
theorem dX4_leastCoverTime_15 : decode cX4_leastCoverTime 15 = .ok (.getfield 19, 3) := by decide +kernel
theorem dX4_leastCoverTime_18 : decode cX4_leastCoverTime 18 = .ok (.invokevirtual 154, 3) := by decide +kernel
theorem dX4_leastCoverTime_21 : decode cX4_leastCoverTime 21 = .ok (.sipush 2000, 3) := by decide +kernel
theorem dX4_leastCoverTime_24 : decode cX4_leastCoverTime 24 = .ok (.if_icmp .le 6, 3) := by decide +kernel
theorem dX4_leastCoverTime_27 : decode cX4_leastCoverTime 27 = .ok (.bipush (-8), 2) := by decide +kernel
theorem dX4_leastCoverTime_29 : decode cX4_leastCoverTime 29 = .ok (.ireturn, 1) := by decide +kernel
theorem dX4_leastCoverTime_30 : decode cX4_leastCoverTime 30 = .ok (.aload_n 0, 1) := by decide +kernel
theorem dX4_leastCoverTime_31 : decode cX4_leastCoverTime 31 = .ok (.iload_n 1, 1) := by decide +kernel
theorem dX4_leastCoverTime_32 : decode cX4_leastCoverTime 32 = .ok (.invokevirtual 157, 3) := by decide +kernel
theorem dX4_leastCoverTime_35 : decode cX4_leastCoverTime 35 = .ok (.ireturn, 1) := by decide +kernel
set_option maxRecDepth 20000 in
theorem ggX4_bestRotor_X0_hasNode : GoodIn wsX4_bestRotor wsX0_hasNode := goodIn_r _ [7, 8, 68, 69, 70, 71] rfl (by decide +kernel)
set_option maxRecDepth 20000 in
theorem gX4_bestRotor_X0_hasNode : GoodIn wsX4_bestRotor (wsV RX4 89 RX0 yX0_hasNode wsX0_hasNode) := goodIn_app (goodIn_of _ (by decide +kernel)) ggX4_bestRotor_X0_hasNode
set_option maxRecDepth 20000 in
theorem ggX4_bestRotor_X0_assignments : GoodIn wsX4_bestRotor wsX0_assignments := goodIn_r _ [12, 8, 13, 68, 69, 70, 71] rfl (by decide +kernel)
set_option maxRecDepth 20000 in
theorem gX4_bestRotor_X0_assignments : GoodIn wsX4_bestRotor (wsV RX4 154 RX0 yX0_assignments wsX0_assignments) := goodIn_app (goodIn_of _ (by decide +kernel)) ggX4_bestRotor_X0_assignments
set_option maxRecDepth 20000 in
theorem ggX4_bestRotor_X4_searchAssignments : GoodIn wsX4_bestRotor wsX4_searchAssignments := goodIn_r _ [18, 1, 19, 20, 21, 2, 22, 23, 24, 25, 9, 10, 11, 6, 12, 8, 13, 26, 27, 28, 17, 29, 30, 31, 32, 33, 34, 35, 36, 37, 38, 39, 40, 41, 42, 43, 44, 45, 46, 47, 48, 49, 50, 51, 52, 53, 54, 55, 56, 57, 58, 59, 60, 61, 62, 63, 64, 65, 66, 67, 68, 69, 70, 71, 72, 73] rfl (by decide +kernel)
set_option maxRecDepth 20000 in
theorem gX4_bestRotor_X4_searchAssignments : GoodIn wsX4_bestRotor (wsV RX4 157 RX4 yX4_searchAssignments wsX4_searchAssignments) := goodIn_app (goodIn_of _ (by decide +kernel)) ggX4_bestRotor_X4_searchAssignments
theorem dX4_bestRotor_0 : decode cX4_bestRotor 0 = .ok (.aload_n 0, 1) := by decide +kernel
theorem dX4_bestRotor_1 : decode cX4_bestRotor 1 = .ok (.getfield 19, 3) := by decide +kernel
theorem dX4_bestRotor_4 : decode cX4_bestRotor 4 = .ok (.iload_n 1, 1) := by decide +kernel
theorem dX4_bestRotor_5 : decode cX4_bestRotor 5 = .ok (.invokevirtual 89, 3) := by decide +kernel
theorem dX4_bestRotor_8 : decode cX4_bestRotor 8 = .ok (.ifCond .eq 14, 3) := by decide +kernel
theorem dX4_bestRotor_11 : decode cX4_bestRotor 11 = .ok (.aload_n 0, 1) := by decide +kernel
theorem dX4_bestRotor_12 : decode cX4_bestRotor 12 = .ok (.getfield 19, 3) := by decide +kernel
theorem dX4_bestRotor_15 : decode cX4_bestRotor 15 = .ok (.iload_n 2, 1) := by decide +kernel
theorem dX4_bestRotor_16 : decode cX4_bestRotor 16 = .ok (.invokevirtual 89, 3) := by decide +kernel
theorem dX4_bestRotor_19 : decode cX4_bestRotor 19 = .ok (.ifCond .ne 6, 3) := by decide +kernel
theorem dX4_bestRotor_22 : decode cX4_bestRotor 22 = .ok (.bipush (-4), 2) := by decide +kernel
theorem dX4_bestRotor_24 : decode cX4_bestRotor 24 = .ok (.ireturn, 1) := by decide +kernel
theorem dX4_bestRotor_25 : decode cX4_bestRotor 25 = .ok (.aload_n 0, 1) := by decide +kernel
theorem dX4_bestRotor_26 : decode cX4_bestRotor 26 = .ok (.getfield 19, 3) := by decide +kernel
theorem dX4_bestRotor_29 : decode cX4_bestRotor 29 = .ok (.invokevirtual 154, 3) := by decide +kernel
theorem dX4_bestRotor_32 : decode cX4_bestRotor 32 = .ok (.sipush 2000, 3) := by decide +kernel
theorem dX4_bestRotor_35 : decode cX4_bestRotor 35 = .ok (.if_icmp .le 6, 3) := by decide +kernel
theorem dX4_bestRotor_38 : decode cX4_bestRotor 38 = .ok (.bipush (-8), 2) := by decide +kernel
theorem dX4_bestRotor_40 : decode cX4_bestRotor 40 = .ok (.ireturn, 1) := by decide +kernel
theorem dX4_bestRotor_41 : decode cX4_bestRotor 41 = .ok (.aload_n 0, 1) := by decide +kernel
theorem dX4_bestRotor_42 : decode cX4_bestRotor 42 = .ok (.iload_n 1, 1) := by decide +kernel
theorem dX4_bestRotor_43 : decode cX4_bestRotor 43 = .ok (.invokevirtual 157, 3) := by decide +kernel
theorem dX4_bestRotor_46 : decode cX4_bestRotor 46 = .ok (.pop, 1) := by decide +kernel
theorem dX4_bestRotor_47 : decode cX4_bestRotor 47 = .ok (.aload_n 0, 1) := by decide +kernel
theorem dX4_bestRotor_48 : decode cX4_bestRotor 48 = .ok (.getfield 51, 3) := by decide +kernel
theorem dX4_bestRotor_51 : decode cX4_bestRotor 51 = .ok (.iload_n 2, 1) := by decide +kernel
theorem dX4_bestRotor_52 : decode cX4_bestRotor 52 = .ok (.iaload, 1) := by decide +kernel
theorem dX4_bestRotor_53 : decode cX4_bestRotor 53 = .ok (.ireturn, 1) := by decide +kernel
set_option maxRecDepth 20000 in
theorem ggX4_expectedArrivals_X0_hasNode : GoodIn wsX4_expectedArrivals wsX0_hasNode := goodIn_r _ [10, 11, 40, 41, 42, 43] rfl (by decide +kernel)
set_option maxRecDepth 20000 in
theorem gX4_expectedArrivals_X0_hasNode : GoodIn wsX4_expectedArrivals (wsV RX4 89 RX0 yX0_hasNode wsX0_hasNode) := goodIn_app (goodIn_of _ (by decide +kernel)) ggX4_expectedArrivals_X0_hasNode
set_option maxRecDepth 20000 in
theorem ggX4_expectedArrivals_X4_spreadChances : GoodIn wsX4_expectedArrivals wsX4_spreadChances := goodIn_r _ [16, 1, 4, 17, 18, 19, 5, 20, 21, 9, 22, 29, 30, 31, 32, 33, 34, 35, 36, 37, 38, 39, 40, 41, 42, 43] rfl (by decide +kernel)
set_option maxRecDepth 20000 in
theorem gX4_expectedArrivals_X4_spreadChances : GoodIn wsX4_expectedArrivals (wsV RX4 164 RX4 yX4_spreadChances wsX4_spreadChances) := goodIn_app (goodIn_of _ (by decide +kernel)) ggX4_expectedArrivals_X4_spreadChances
set_option maxRecDepth 20000 in
theorem ggX4_expectedArrivals_X4_bitsOf : GoodIn wsX4_expectedArrivals wsX4_bitsOf := goodIn_r _ [25, 26, 27, 28] rfl (by decide +kernel)
set_option maxRecDepth 20000 in
theorem gX4_expectedArrivals_X4_bitsOf : GoodIn wsX4_expectedArrivals (va_wsS RX4 167 yX4_bitsOf wsX4_bitsOf) := goodIn_app (goodIn_of _ (by decide +kernel)) ggX4_expectedArrivals_X4_bitsOf
theorem dX4_expectedArrivals_0 : decode cX4_expectedArrivals 0 = .ok (.aload_n 0, 1) := by decide +kernel
theorem dX4_expectedArrivals_1 : decode cX4_expectedArrivals 1 = .ok (.getfield 19, 3) := by decide +kernel
theorem dX4_expectedArrivals_4 : decode cX4_expectedArrivals 4 = .ok (.iload_n 1, 1) := by decide +kernel
theorem dX4_expectedArrivals_5 : decode cX4_expectedArrivals 5 = .ok (.invokevirtual 89, 3) := by decide +kernel
theorem dX4_expectedArrivals_8 : decode cX4_expectedArrivals 8 = .ok (.ifCond .eq 14, 3) := by decide +kernel
theorem dX4_expectedArrivals_11 : decode cX4_expectedArrivals 11 = .ok (.aload_n 0, 1) := by decide +kernel
theorem dX4_expectedArrivals_12 : decode cX4_expectedArrivals 12 = .ok (.getfield 19, 3) := by decide +kernel
theorem dX4_expectedArrivals_15 : decode cX4_expectedArrivals 15 = .ok (.iload_n 3, 1) := by decide +kernel
theorem dX4_expectedArrivals_16 : decode cX4_expectedArrivals 16 = .ok (.invokevirtual 89, 3) := by decide +kernel
theorem dX4_expectedArrivals_19 : decode cX4_expectedArrivals 19 = .ok (.ifCond .ne 7, 3) := by decide +kernel
theorem dX4_expectedArrivals_22 : decode cX4_expectedArrivals 22 = .ok (.ldc2_w 160, 3) := by decide +kernel
theorem dX4_expectedArrivals_25 : decode cX4_expectedArrivals 25 = .ok (.lreturn, 1) := by decide +kernel
theorem dX4_expectedArrivals_26 : decode cX4_expectedArrivals 26 = .ok (.iload_n 2, 1) := by decide +kernel
theorem dX4_expectedArrivals_27 : decode cX4_expectedArrivals 27 = .ok (.ifCond .lt 9, 3) := by decide +kernel
theorem dX4_expectedArrivals_30 : decode cX4_expectedArrivals 30 = .ok (.iload_n 2, 1) := by decide +kernel
theorem dX4_expectedArrivals_31 : decode cX4_expectedArrivals 31 = .ok (.bipush 50, 2) := by decide +kernel
theorem dX4_expectedArrivals_33 : decode cX4_expectedArrivals 33 = .ok (.if_icmp .le 7, 3) := by decide +kernel
theorem dX4_expectedArrivals_36 : decode cX4_expectedArrivals 36 = .ok (.ldc2_w 162, 3) := by decide +kernel
theorem dX4_expectedArrivals_39 : decode cX4_expectedArrivals 39 = .ok (.lreturn, 1) := by decide +kernel
theorem dX4_expectedArrivals_40 : decode cX4_expectedArrivals 40 = .ok (.iconst 0, 1) := by decide +kernel
theorem dX4_expectedArrivals_41 : decode cX4_expectedArrivals 41 = .ok (.istore 4, 2) := by decide +kernel
theorem dX4_expectedArrivals_43 : decode cX4_expectedArrivals 43 = .ok (.iload 4, 2) := by decide +kernel
theorem dX4_expectedArrivals_45 : decode cX4_expectedArrivals 45 = .ok (.aload_n 0, 1) := by decide +kernel
theorem dX4_expectedArrivals_46 : decode cX4_expectedArrivals 46 = .ok (.getfield 19, 3) := by decide +kernel
theorem dX4_expectedArrivals_49 : decode cX4_expectedArrivals 49 = .ok (.getfield 86, 3) := by decide +kernel
theorem dX4_expectedArrivals_52 : decode cX4_expectedArrivals 52 = .ok (.if_icmp .ge 27, 3) := by decide +kernel
theorem dX4_expectedArrivals_55 : decode cX4_expectedArrivals 55 = .ok (.aload_n 0, 1) := by decide +kernel
theorem dX4_expectedArrivals_56 : decode cX4_expectedArrivals 56 = .ok (.getfield 54, 3) := by decide +kernel
theorem dX4_expectedArrivals_59 : decode cX4_expectedArrivals 59 = .ok (.iload 4, 2) := by decide +kernel
theorem dX4_expectedArrivals_61 : decode cX4_expectedArrivals 61 = .ok (.iload 4, 2) := by decide +kernel
theorem dX4_expectedArrivals_63 : decode cX4_expectedArrivals 63 = .ok (.iload_n 1, 1) := by decide +kernel
theorem dX4_expectedArrivals_64 : decode cX4_expectedArrivals 64 = .ok (.if_icmp .ne 7, 3) := by decide +kernel
theorem dX4_expectedArrivals_67 : decode cX4_expectedArrivals 67 = .ok (.dconst 1, 1) := by decide +kernel
theorem dX4_expectedArrivals_68 : decode cX4_expectedArrivals 68 = .ok (.goto 4, 3) := by decide +kernel
theorem dX4_expectedArrivals_71 : decode cX4_expectedArrivals 71 = .ok (.dconst 0, 1) := by decide +kernel
theorem dX4_expectedArrivals_72 : decode cX4_expectedArrivals 72 = .ok (.dastore, 1) := by decide +kernel
theorem dX4_expectedArrivals_73 : decode cX4_expectedArrivals 73 = .ok (.iinc 4 1, 3) := by decide +kernel
theorem dX4_expectedArrivals_76 : decode cX4_expectedArrivals 76 = .ok (.goto (-33), 3) := by decide +kernel
theorem dX4_expectedArrivals_79 : decode cX4_expectedArrivals 79 = .ok (.dconst 0, 1) := by decide +kernel
theorem dX4_expectedArrivals_80 : decode cX4_expectedArrivals 80 = .ok (.dstore 4, 2) := by decide +kernel
theorem dX4_expectedArrivals_82 : decode cX4_expectedArrivals 82 = .ok (.iconst 0, 1) := by decide +kernel
theorem dX4_expectedArrivals_83 : decode cX4_expectedArrivals 83 = .ok (.istore 6, 2) := by decide +kernel
theorem dX4_expectedArrivals_85 : decode cX4_expectedArrivals 85 = .ok (.iload 6, 2) := by decide +kernel
theorem dX4_expectedArrivals_87 : decode cX4_expectedArrivals 87 = .ok (.iload_n 2, 1) := by decide +kernel
theorem dX4_expectedArrivals_88 : decode cX4_expectedArrivals 88 = .ok (.if_icmp .ge 24, 3) := by decide +kernel
theorem dX4_expectedArrivals_91 : decode cX4_expectedArrivals 91 = .ok (.aload_n 0, 1) := by decide +kernel
theorem dX4_expectedArrivals_92 : decode cX4_expectedArrivals 92 = .ok (.invokevirtual 164, 3) := by decide +kernel
theorem dX4_expectedArrivals_95 : decode cX4_expectedArrivals 95 = .ok (.dload 4, 2) := by decide +kernel
theorem dX4_expectedArrivals_97 : decode cX4_expectedArrivals 97 = .ok (.aload_n 0, 1) := by decide +kernel
theorem dX4_expectedArrivals_98 : decode cX4_expectedArrivals 98 = .ok (.getfield 54, 3) := by decide +kernel
theorem dX4_expectedArrivals_101 : decode cX4_expectedArrivals 101 = .ok (.iload_n 3, 1) := by decide +kernel
theorem dX4_expectedArrivals_102 : decode cX4_expectedArrivals 102 = .ok (.daload, 1) := by decide +kernel
theorem dX4_expectedArrivals_103 : decode cX4_expectedArrivals 103 = .ok (.dadd, 1) := by decide +kernel
theorem dX4_expectedArrivals_104 : decode cX4_expectedArrivals 104 = .ok (.dstore 4, 2) := by decide +kernel
theorem dX4_expectedArrivals_106 : decode cX4_expectedArrivals 106 = .ok (.iinc 6 1, 3) := by decide +kernel
theorem dX4_expectedArrivals_109 : decode cX4_expectedArrivals 109 = .ok (.goto (-24), 3) := by decide +kernel
theorem dX4_expectedArrivals_112 : decode cX4_expectedArrivals 112 = .ok (.dload 4, 2) := by decide +kernel
theorem dX4_expectedArrivals_114 : decode cX4_expectedArrivals 114 = .ok (.invokestatic 167, 3) := by decide +kernel
theorem dX4_expectedArrivals_117 : decode cX4_expectedArrivals 117 = .ok (.lreturn, 1) := by decide +kernel
set_option maxRecDepth 20000 in
theorem ggX4_snapshot_X3_copyFrom : GoodIn wsX4_snapshot wsX3_copyFrom := goodIn_r _ [11, 12, 13, 14, 15, 16, 17, 18, 19, 20, 36, 37, 38, 39, 40] rfl (by decide +kernel)
set_option maxRecDepth 20000 in
theorem gX4_snapshot_X3_copyFrom : GoodIn wsX4_snapshot (wsV RX4 171 RX3 yX3_copyFrom wsX3_copyFrom) := goodIn_app (goodIn_of _ (by decide +kernel)) ggX4_snapshot_X3_copyFrom
theorem dX4_snapshot_0 : decode cX4_snapshot 0 = .ok (.aload_n 0, 1) := by decide +kernel
theorem dX4_snapshot_1 : decode cX4_snapshot 1 = .ok (.getfield 19, 3) := by decide +kernel
theorem dX4_snapshot_4 : decode cX4_snapshot 4 = .ok (.getfield 86, 3) := by decide +kernel
theorem dX4_snapshot_7 : decode cX4_snapshot 7 = .ok (.ifCond .ne 6, 3) := by decide +kernel
theorem dX4_snapshot_10 : decode cX4_snapshot 10 = .ok (.bipush (-9), 2) := by decide +kernel
theorem dX4_snapshot_12 : decode cX4_snapshot 12 = .ok (.ireturn, 1) := by decide +kernel
theorem dX4_snapshot_13 : decode cX4_snapshot 13 = .ok (.aload_n 0, 1) := by decide +kernel
theorem dX4_snapshot_14 : decode cX4_snapshot 14 = .ok (.getfield 30, 3) := by decide +kernel
theorem dX4_snapshot_17 : decode cX4_snapshot 17 = .ok (.aload_n 0, 1) := by decide +kernel
theorem dX4_snapshot_18 : decode cX4_snapshot 18 = .ok (.getfield 26, 3) := by decide +kernel
theorem dX4_snapshot_21 : decode cX4_snapshot 21 = .ok (.invokevirtual 171, 3) := by decide +kernel
theorem dX4_snapshot_24 : decode cX4_snapshot 24 = .ok (.aload_n 0, 1) := by decide +kernel
theorem dX4_snapshot_25 : decode cX4_snapshot 25 = .ok (.iconst 1, 1) := by decide +kernel
theorem dX4_snapshot_26 : decode cX4_snapshot 26 = .ok (.putfield 33, 3) := by decide +kernel
theorem dX4_snapshot_29 : decode cX4_snapshot 29 = .ok (.aload_n 0, 1) := by decide +kernel
theorem dX4_snapshot_30 : decode cX4_snapshot 30 = .ok (.getfield 26, 3) := by decide +kernel
theorem dX4_snapshot_33 : decode cX4_snapshot 33 = .ok (.getfield 109, 3) := by decide +kernel
theorem dX4_snapshot_36 : decode cX4_snapshot 36 = .ok (.ireturn, 1) := by decide +kernel
set_option maxRecDepth 20000 in
theorem ggX4_restore_X3_copyFrom : GoodIn wsX4_restore wsX3_copyFrom := goodIn_r _ [9, 10, 11, 12, 13, 14, 15, 16, 17, 18, 30, 31, 32, 33, 34] rfl (by decide +kernel)
set_option maxRecDepth 20000 in
theorem gX4_restore_X3_copyFrom : GoodIn wsX4_restore (wsV RX4 171 RX3 yX3_copyFrom wsX3_copyFrom) := goodIn_app (goodIn_of _ (by decide +kernel)) ggX4_restore_X3_copyFrom
theorem dX4_restore_0 : decode cX4_restore 0 = .ok (.aload_n 0, 1) := by decide +kernel
theorem dX4_restore_1 : decode cX4_restore 1 = .ok (.getfield 33, 3) := by decide +kernel
theorem dX4_restore_4 : decode cX4_restore 4 = .ok (.ifCond .ne 6, 3) := by decide +kernel
theorem dX4_restore_7 : decode cX4_restore 7 = .ok (.bipush (-9), 2) := by decide +kernel
theorem dX4_restore_9 : decode cX4_restore 9 = .ok (.ireturn, 1) := by decide +kernel
theorem dX4_restore_10 : decode cX4_restore 10 = .ok (.aload_n 0, 1) := by decide +kernel
theorem dX4_restore_11 : decode cX4_restore 11 = .ok (.getfield 26, 3) := by decide +kernel
theorem dX4_restore_14 : decode cX4_restore 14 = .ok (.aload_n 0, 1) := by decide +kernel
theorem dX4_restore_15 : decode cX4_restore 15 = .ok (.getfield 30, 3) := by decide +kernel
theorem dX4_restore_18 : decode cX4_restore 18 = .ok (.invokevirtual 171, 3) := by decide +kernel
theorem dX4_restore_21 : decode cX4_restore 21 = .ok (.aload_n 0, 1) := by decide +kernel
theorem dX4_restore_22 : decode cX4_restore 22 = .ok (.getfield 26, 3) := by decide +kernel
theorem dX4_restore_25 : decode cX4_restore 25 = .ok (.getfield 109, 3) := by decide +kernel
theorem dX4_restore_28 : decode cX4_restore 28 = .ok (.ireturn, 1) := by decide +kernel
theorem dX4_walkerCount_0 : decode cX4_walkerCount 0 = .ok (.aload_n 0, 1) := by decide +kernel
theorem dX4_walkerCount_1 : decode cX4_walkerCount 1 = .ok (.getfield 26, 3) := by decide +kernel
theorem dX4_walkerCount_4 : decode cX4_walkerCount 4 = .ok (.getfield 109, 3) := by decide +kernel
theorem dX4_walkerCount_7 : decode cX4_walkerCount 7 = .ok (.ireturn, 1) := by decide +kernel
theorem dX4_linkCount_0 : decode cX4_linkCount 0 = .ok (.aload_n 0, 1) := by decide +kernel
theorem dX4_linkCount_1 : decode cX4_linkCount 1 = .ok (.getfield 19, 3) := by decide +kernel
theorem dX4_linkCount_4 : decode cX4_linkCount 4 = .ok (.getfield 135, 3) := by decide +kernel
theorem dX4_linkCount_7 : decode cX4_linkCount 7 = .ok (.ireturn, 1) := by decide +kernel
set_option maxRecDepth 20000 in
theorem ggX4_digest_X4_hashed : GoodIn wsX4_digest wsX4_hashed := goodIn_r _ [11, 12] rfl (by decide +kernel)
set_option maxRecDepth 20000 in
theorem gX4_digest_X4_hashed : GoodIn wsX4_digest (va_wsS RX4 177 yX4_hashed wsX4_hashed) := goodIn_app (goodIn_of _ (by decide +kernel)) ggX4_digest_X4_hashed
set_option maxRecDepth 20000 in
theorem ggX4_digest_X4_hashedNode : GoodIn wsX4_digest wsX4_hashedNode := goodIn_r _ [16, 2, 17, 5, 18, 19, 20, 21, 8, 9, 10, 11, 12, 22, 23, 24, 25, 124, 125, 126, 127, 128, 129, 130, 131, 132, 133, 134, 135, 136, 137, 138, 139, 140, 141, 142, 143] rfl (by decide +kernel)
set_option maxRecDepth 20000 in
theorem gX4_digest_X4_hashedNode : GoodIn wsX4_digest (wsV RX4 181 RX4 yX4_hashedNode wsX4_hashedNode) := goodIn_app (goodIn_of _ (by decide +kernel)) ggX4_digest_X4_hashedNode
set_option maxRecDepth 20000 in
theorem ggX4_digest_X4_stepsToCycle : GoodIn wsX4_digest wsX4_stepsToCycle := goodIn_r _ [29, 5, 2, 4, 30, 7, 18, 31, 32, 3, 33, 34, 35, 36, 37, 38, 39, 40, 41, 42, 43, 44, 45, 46, 47, 48, 49, 50, 51, 52, 53, 54, 55, 23, 24, 25, 56, 57, 58, 59, 60, 61, 62, 63, 64, 124, 125, 126, 127, 128, 129, 130, 131, 132, 133, 134, 135, 136, 137, 138, 139, 140, 141, 142, 143, 144, 145] rfl (by decide +kernel)
set_option maxRecDepth 20000 in
theorem gX4_digest_X4_stepsToCycle : GoodIn wsX4_digest (wsV RX4 185 RX4 yX4_stepsToCycle wsX4_stepsToCycle) := goodIn_app (goodIn_of _ (by decide +kernel)) ggX4_digest_X4_stepsToCycle
set_option maxRecDepth 20000 in
theorem ggX4_digest_X4_coverTime : GoodIn wsX4_digest wsX4_coverTime := goodIn_r _ [68, 5, 32, 7, 18, 33, 34, 35, 36, 37, 38, 69, 70, 71, 10, 72, 30, 2, 3, 73, 39, 40, 41, 42, 43, 44, 45, 46, 47, 48, 49, 50, 51, 52, 53, 54, 55, 23, 24, 25, 56, 57, 58, 59, 60, 124, 125, 126, 127, 128, 129, 130, 131, 132, 133, 134, 139, 140, 141, 142, 143, 135, 136, 137, 138, 144, 145] rfl (by decide +kernel)
set_option maxRecDepth 20000 in
theorem gX4_digest_X4_coverTime : GoodIn wsX4_digest (wsV RX4 188 RX4 yX4_coverTime wsX4_coverTime) := goodIn_app (goodIn_of _ (by decide +kernel)) ggX4_digest_X4_coverTime
set_option maxRecDepth 20000 in
theorem ggX4_digest_X4_hashedAnalysis : GoodIn wsX4_digest wsX4_hashedAnalysis := goodIn_r _ [77, 2, 78, 79, 80, 24, 81, 82, 60, 83, 84, 85, 10, 86, 3, 87, 32, 88, 89, 47, 48, 49, 69, 70, 71, 72, 30, 73, 39, 40, 41, 42, 43, 44, 45, 46, 50, 51, 52, 53, 54, 55, 23, 25, 56, 57, 58, 59, 90, 91, 92, 93, 94, 8, 9, 11, 12, 95, 96, 97, 98, 99, 100, 101, 102, 103, 104, 105, 106, 107, 108, 109, 110, 17, 20, 22, 111, 112, 113, 114, 115, 116, 124, 125, 126, 127, 128, 129, 130, 131, 132, 133, 134, 135, 136, 137, 138, 144, 145] rfl (by decide +kernel)
set_option maxRecDepth 20000 in
theorem gX4_digest_X4_hashedAnalysis : GoodIn wsX4_digest (wsV RX4 191 RX4 yX4_hashedAnalysis wsX4_hashedAnalysis) := goodIn_app (goodIn_of _ (by decide +kernel)) ggX4_digest_X4_hashedAnalysis
set_option maxRecDepth 20000 in
theorem ggX4_digest_X4_hashedInput : GoodIn wsX4_digest wsX4_hashedInput := goodIn_r _ [120, 121, 122, 123, 8, 9, 10, 11, 12, 124, 125, 126, 127, 128, 129, 130, 131, 132, 133, 134, 146, 147] rfl (by decide +kernel)
set_option maxRecDepth 20000 in
theorem gX4_digest_X4_hashedInput : GoodIn wsX4_digest (wsV RX4 195 RX4 yX4_hashedInput wsX4_hashedInput) := goodIn_app (goodIn_of _ (by decide +kernel)) ggX4_digest_X4_hashedInput
theorem dX4_digest_0 : decode cX4_digest 0 = .ok (.ldc2_w 175, 3) := by decide +kernel
theorem dX4_digest_3 : decode cX4_digest 3 = .ok (.aload_n 0, 1) := by decide +kernel
theorem dX4_digest_4 : decode cX4_digest 4 = .ok (.getfield 19, 3) := by decide +kernel
theorem dX4_digest_7 : decode cX4_digest 7 = .ok (.getfield 86, 3) := by decide +kernel
theorem dX4_digest_10 : decode cX4_digest 10 = .ok (.i2l, 1) := by decide +kernel
theorem dX4_digest_11 : decode cX4_digest 11 = .ok (.invokestatic 177, 3) := by decide +kernel
theorem dX4_digest_14 : decode cX4_digest 14 = .ok (.lstore_n 1, 1) := by decide +kernel
theorem dX4_digest_15 : decode cX4_digest 15 = .ok (.lload_n 1, 1) := by decide +kernel
theorem dX4_digest_16 : decode cX4_digest 16 = .ok (.aload_n 0, 1) := by decide +kernel
theorem dX4_digest_17 : decode cX4_digest 17 = .ok (.getfield 19, 3) := by decide +kernel
theorem dX4_digest_20 : decode cX4_digest 20 = .ok (.getfield 135, 3) := by decide +kernel
theorem dX4_digest_23 : decode cX4_digest 23 = .ok (.i2l, 1) := by decide +kernel
theorem dX4_digest_24 : decode cX4_digest 24 = .ok (.invokestatic 177, 3) := by decide +kernel
theorem dX4_digest_27 : decode cX4_digest 27 = .ok (.lstore_n 1, 1) := by decide +kernel
theorem dX4_digest_28 : decode cX4_digest 28 = .ok (.iconst 0, 1) := by decide +kernel
theorem dX4_digest_29 : decode cX4_digest 29 = .ok (.istore_n 3, 1) := by decide +kernel
theorem dX4_digest_30 : decode cX4_digest 30 = .ok (.iload_n 3, 1) := by decide +kernel
theorem dX4_digest_31 : decode cX4_digest 31 = .ok (.aload_n 0, 1) := by decide +kernel
theorem dX4_digest_32 : decode cX4_digest 32 = .ok (.getfield 19, 3) := by decide +kernel
theorem dX4_digest_35 : decode cX4_digest 35 = .ok (.getfield 86, 3) := by decide +kernel
theorem dX4_digest_38 : decode cX4_digest 38 = .ok (.if_icmp .ge 16, 3) := by decide +kernel
theorem dX4_digest_41 : decode cX4_digest 41 = .ok (.aload_n 0, 1) := by decide +kernel
theorem dX4_digest_42 : decode cX4_digest 42 = .ok (.lload_n 1, 1) := by decide +kernel
theorem dX4_digest_43 : decode cX4_digest 43 = .ok (.iload_n 3, 1) := by decide +kernel
theorem dX4_digest_44 : decode cX4_digest 44 = .ok (.invokevirtual 181, 3) := by decide +kernel
theorem dX4_digest_47 : decode cX4_digest 47 = .ok (.lstore_n 1, 1) := by decide +kernel
theorem dX4_digest_48 : decode cX4_digest 48 = .ok (.iinc 3 1, 3) := by decide +kernel
theorem dX4_digest_51 : decode cX4_digest 51 = .ok (.goto (-21), 3) := by decide +kernel
theorem dX4_digest_54 : decode cX4_digest 54 = .ok (.lload_n 1, 1) := by decide +kernel
theorem dX4_digest_55 : decode cX4_digest 55 = .ok (.aload_n 0, 1) := by decide +kernel
theorem dX4_digest_56 : decode cX4_digest 56 = .ok (.getfield 26, 3) := by decide +kernel
theorem dX4_digest_59 : decode cX4_digest 59 = .ok (.getfield 109, 3) := by decide +kernel
theorem dX4_digest_62 : decode cX4_digest 62 = .ok (.i2l, 1) := by decide +kernel
theorem dX4_digest_63 : decode cX4_digest 63 = .ok (.invokestatic 177, 3) := by decide +kernel
theorem dX4_digest_66 : decode cX4_digest 66 = .ok (.lstore_n 1, 1) := by decide +kernel
theorem dX4_digest_67 : decode cX4_digest 67 = .ok (.iconst 0, 1) := by decide +kernel
theorem dX4_digest_68 : decode cX4_digest 68 = .ok (.istore_n 3, 1) := by decide +kernel
theorem dX4_digest_69 : decode cX4_digest 69 = .ok (.iload_n 3, 1) := by decide +kernel
theorem dX4_digest_70 : decode cX4_digest 70 = .ok (.aload_n 0, 1) := by decide +kernel
theorem dX4_digest_71 : decode cX4_digest 71 = .ok (.getfield 26, 3) := by decide +kernel
theorem dX4_digest_74 : decode cX4_digest 74 = .ok (.getfield 109, 3) := by decide +kernel
theorem dX4_digest_77 : decode cX4_digest 77 = .ok (.if_icmp .ge 46, 3) := by decide +kernel
theorem dX4_digest_80 : decode cX4_digest 80 = .ok (.lload_n 1, 1) := by decide +kernel
theorem dX4_digest_81 : decode cX4_digest 81 = .ok (.aload_n 0, 1) := by decide +kernel
theorem dX4_digest_82 : decode cX4_digest 82 = .ok (.getfield 26, 3) := by decide +kernel
theorem dX4_digest_85 : decode cX4_digest 85 = .ok (.getfield 112, 3) := by decide +kernel
theorem dX4_digest_88 : decode cX4_digest 88 = .ok (.iload_n 3, 1) := by decide +kernel
theorem dX4_digest_89 : decode cX4_digest 89 = .ok (.iaload, 1) := by decide +kernel
theorem dX4_digest_90 : decode cX4_digest 90 = .ok (.i2l, 1) := by decide +kernel
theorem dX4_digest_91 : decode cX4_digest 91 = .ok (.invokestatic 177, 3) := by decide +kernel
theorem dX4_digest_94 : decode cX4_digest 94 = .ok (.lstore_n 1, 1) := by decide +kernel
theorem dX4_digest_95 : decode cX4_digest 95 = .ok (.lload_n 1, 1) := by decide +kernel
theorem dX4_digest_96 : decode cX4_digest 96 = .ok (.aload_n 0, 1) := by decide +kernel
theorem dX4_digest_97 : decode cX4_digest 97 = .ok (.iload_n 3, 1) := by decide +kernel
theorem dX4_digest_98 : decode cX4_digest 98 = .ok (.invokevirtual 185, 3) := by decide +kernel
theorem dX4_digest_101 : decode cX4_digest 101 = .ok (.i2l, 1) := by decide +kernel
theorem dX4_digest_102 : decode cX4_digest 102 = .ok (.invokestatic 177, 3) := by decide +kernel
theorem dX4_digest_105 : decode cX4_digest 105 = .ok (.lstore_n 1, 1) := by decide +kernel
theorem dX4_digest_106 : decode cX4_digest 106 = .ok (.lload_n 1, 1) := by decide +kernel
theorem dX4_digest_107 : decode cX4_digest 107 = .ok (.aload_n 0, 1) := by decide +kernel
theorem dX4_digest_108 : decode cX4_digest 108 = .ok (.iload_n 3, 1) := by decide +kernel
theorem dX4_digest_109 : decode cX4_digest 109 = .ok (.invokevirtual 188, 3) := by decide +kernel
theorem dX4_digest_112 : decode cX4_digest 112 = .ok (.i2l, 1) := by decide +kernel
theorem dX4_digest_113 : decode cX4_digest 113 = .ok (.invokestatic 177, 3) := by decide +kernel
theorem dX4_digest_116 : decode cX4_digest 116 = .ok (.lstore_n 1, 1) := by decide +kernel
theorem dX4_digest_117 : decode cX4_digest 117 = .ok (.iinc 3 1, 3) := by decide +kernel
theorem dX4_digest_120 : decode cX4_digest 120 = .ok (.goto (-51), 3) := by decide +kernel
theorem dX4_digest_123 : decode cX4_digest 123 = .ok (.aload_n 0, 1) := by decide +kernel
theorem dX4_digest_124 : decode cX4_digest 124 = .ok (.getfield 19, 3) := by decide +kernel
theorem dX4_digest_127 : decode cX4_digest 127 = .ok (.getfield 86, 3) := by decide +kernel
theorem dX4_digest_130 : decode cX4_digest 130 = .ok (.ifCond .le 9, 3) := by decide +kernel
theorem dX4_digest_133 : decode cX4_digest 133 = .ok (.aload_n 0, 1) := by decide +kernel
theorem dX4_digest_134 : decode cX4_digest 134 = .ok (.lload_n 1, 1) := by decide +kernel
theorem dX4_digest_135 : decode cX4_digest 135 = .ok (.invokevirtual 191, 3) := by decide +kernel
theorem dX4_digest_138 : decode cX4_digest 138 = .ok (.lstore_n 1, 1) := by decide +kernel
theorem dX4_digest_139 : decode cX4_digest 139 = .ok (.aload_n 0, 1) := by decide +kernel
theorem dX4_digest_140 : decode cX4_digest 140 = .ok (.lload_n 1, 1) := by decide +kernel
theorem dX4_digest_141 : decode cX4_digest 141 = .ok (.invokevirtual 195, 3) := by decide +kernel
theorem dX4_digest_144 : decode cX4_digest 144 = .ok (.lreturn, 1) := by decide +kernel
set_option maxRecDepth 20000 in
theorem ggX4_absorbOneByOne_X3_move : GoodIn wsX4_absorbOneByOne wsX3_move := goodIn_r _ [10, 11, 12, 13, 14, 15, 16, 17, 18, 19, 20, 21, 22, 23, 24, 36, 37, 38, 39, 40, 41, 42, 43, 44] rfl (by decide +kernel)
set_option maxRecDepth 20000 in
theorem gX4_absorbOneByOne_X3_move : GoodIn wsX4_absorbOneByOne (wsV RX4 118 RX3 yX3_move wsX3_move) := goodIn_app (goodIn_of _ (by decide +kernel)) ggX4_absorbOneByOne_X3_move
theorem dX4_absorbOneByOne_0 : decode cX4_absorbOneByOne 0 = .ok (.iconst 0, 1) := by decide +kernel
theorem dX4_absorbOneByOne_1 : decode cX4_absorbOneByOne 1 = .ok (.istore_n 2, 1) := by decide +kernel
theorem dX4_absorbOneByOne_2 : decode cX4_absorbOneByOne 2 = .ok (.iconst 0, 1) := by decide +kernel
theorem dX4_absorbOneByOne_3 : decode cX4_absorbOneByOne 3 = .ok (.istore_n 3, 1) := by decide +kernel
theorem dX4_absorbOneByOne_4 : decode cX4_absorbOneByOne 4 = .ok (.iload_n 3, 1) := by decide +kernel
theorem dX4_absorbOneByOne_5 : decode cX4_absorbOneByOne 5 = .ok (.aload_n 0, 1) := by decide +kernel
theorem dX4_absorbOneByOne_6 : decode cX4_absorbOneByOne 6 = .ok (.getfield 26, 3) := by decide +kernel
theorem dX4_absorbOneByOne_9 : decode cX4_absorbOneByOne 9 = .ok (.getfield 109, 3) := by decide +kernel
theorem dX4_absorbOneByOne_12 : decode cX4_absorbOneByOne 12 = .ok (.if_icmp .ge 46, 3) := by decide +kernel
theorem dX4_absorbOneByOne_15 : decode cX4_absorbOneByOne 15 = .ok (.aload_n 0, 1) := by decide +kernel
theorem dX4_absorbOneByOne_16 : decode cX4_absorbOneByOne 16 = .ok (.getfield 26, 3) := by decide +kernel
theorem dX4_absorbOneByOne_19 : decode cX4_absorbOneByOne 19 = .ok (.getfield 112, 3) := by decide +kernel
theorem dX4_absorbOneByOne_22 : decode cX4_absorbOneByOne 22 = .ok (.iload_n 3, 1) := by decide +kernel
theorem dX4_absorbOneByOne_23 : decode cX4_absorbOneByOne 23 = .ok (.iaload, 1) := by decide +kernel
theorem dX4_absorbOneByOne_24 : decode cX4_absorbOneByOne 24 = .ok (.iload_n 1, 1) := by decide +kernel
theorem dX4_absorbOneByOne_25 : decode cX4_absorbOneByOne 25 = .ok (.if_icmp .eq 27, 3) := by decide +kernel
theorem dX4_absorbOneByOne_28 : decode cX4_absorbOneByOne 28 = .ok (.iload_n 2, 1) := by decide +kernel
theorem dX4_absorbOneByOne_29 : decode cX4_absorbOneByOne 29 = .ok (.ldc 145, 2) := by decide +kernel
theorem dX4_absorbOneByOne_31 : decode cX4_absorbOneByOne 31 = .ok (.if_icmp .ge 21, 3) := by decide +kernel
theorem dX4_absorbOneByOne_34 : decode cX4_absorbOneByOne 34 = .ok (.aload_n 0, 1) := by decide +kernel
theorem dX4_absorbOneByOne_35 : decode cX4_absorbOneByOne 35 = .ok (.getfield 26, 3) := by decide +kernel
theorem dX4_absorbOneByOne_38 : decode cX4_absorbOneByOne 38 = .ok (.iload_n 3, 1) := by decide +kernel
theorem dX4_absorbOneByOne_39 : decode cX4_absorbOneByOne 39 = .ok (.aload_n 0, 1) := by decide +kernel
theorem dX4_absorbOneByOne_40 : decode cX4_absorbOneByOne 40 = .ok (.getfield 19, 3) := by decide +kernel
theorem dX4_absorbOneByOne_43 : decode cX4_absorbOneByOne 43 = .ok (.invokevirtual 118, 3) := by decide +kernel
theorem dX4_absorbOneByOne_46 : decode cX4_absorbOneByOne 46 = .ok (.iinc 2 1, 3) := by decide +kernel
theorem dX4_absorbOneByOne_49 : decode cX4_absorbOneByOne 49 = .ok (.goto (-34), 3) := by decide +kernel
theorem dX4_absorbOneByOne_52 : decode cX4_absorbOneByOne 52 = .ok (.iinc 3 1, 3) := by decide +kernel
theorem dX4_absorbOneByOne_55 : decode cX4_absorbOneByOne 55 = .ok (.goto (-51), 3) := by decide +kernel
theorem dX4_absorbOneByOne_58 : decode cX4_absorbOneByOne 58 = .ok (.iload_n 2, 1) := by decide +kernel
theorem dX4_absorbOneByOne_59 : decode cX4_absorbOneByOne 59 = .ok (.ireturn, 1) := by decide +kernel
set_option maxRecDepth 20000 in
theorem ggX4_absorbInTurns_X4_makePass : GoodIn wsX4_absorbInTurns wsX4_makePass := goodIn_r _ [6, 7, 8, 9, 10, 11, 12, 13, 14, 15, 16, 17, 18, 19, 20, 21, 22, 23, 24, 25, 26, 27, 28, 29, 30, 31, 32, 33, 34, 35, 36, 37, 38, 39, 40, 41, 42, 43, 44, 45, 46, 47, 48, 49] rfl (by decide +kernel)
set_option maxRecDepth 20000 in
theorem gX4_absorbInTurns_X4_makePass : GoodIn wsX4_absorbInTurns (wsV RX4 198 RX4 yX4_makePass wsX4_makePass) := goodIn_app (goodIn_of _ (by decide +kernel)) ggX4_absorbInTurns_X4_makePass
theorem dX4_absorbInTurns_0 : decode cX4_absorbInTurns 0 = .ok (.iconst 0, 1) := by decide +kernel
theorem dX4_absorbInTurns_1 : decode cX4_absorbInTurns 1 = .ok (.istore_n 2, 1) := by decide +kernel
theorem dX4_absorbInTurns_2 : decode cX4_absorbInTurns 2 = .ok (.iconst 0, 1) := by decide +kernel
theorem dX4_absorbInTurns_3 : decode cX4_absorbInTurns 3 = .ok (.istore_n 3, 1) := by decide +kernel
theorem dX4_absorbInTurns_4 : decode cX4_absorbInTurns 4 = .ok (.iload_n 3, 1) := by decide +kernel
theorem dX4_absorbInTurns_5 : decode cX4_absorbInTurns 5 = .ok (.ldc 145, 2) := by decide +kernel
theorem dX4_absorbInTurns_7 : decode cX4_absorbInTurns 7 = .ok (.if_icmp .ge 28, 3) := by decide +kernel
theorem dX4_absorbInTurns_10 : decode cX4_absorbInTurns 10 = .ok (.aload_n 0, 1) := by decide +kernel
theorem dX4_absorbInTurns_11 : decode cX4_absorbInTurns 11 = .ok (.iload_n 1, 1) := by decide +kernel
theorem dX4_absorbInTurns_12 : decode cX4_absorbInTurns 12 = .ok (.invokevirtual 198, 3) := by decide +kernel
theorem dX4_absorbInTurns_15 : decode cX4_absorbInTurns 15 = .ok (.istore 4, 2) := by decide +kernel
theorem dX4_absorbInTurns_17 : decode cX4_absorbInTurns 17 = .ok (.iload 4, 2) := by decide +kernel
theorem dX4_absorbInTurns_19 : decode cX4_absorbInTurns 19 = .ok (.ifCond .ne 5, 3) := by decide +kernel
theorem dX4_absorbInTurns_22 : decode cX4_absorbInTurns 22 = .ok (.iload_n 2, 1) := by decide +kernel
theorem dX4_absorbInTurns_23 : decode cX4_absorbInTurns 23 = .ok (.ireturn, 1) := by decide +kernel
theorem dX4_absorbInTurns_24 : decode cX4_absorbInTurns 24 = .ok (.iload_n 2, 1) := by decide +kernel
theorem dX4_absorbInTurns_25 : decode cX4_absorbInTurns 25 = .ok (.iload 4, 2) := by decide +kernel
theorem dX4_absorbInTurns_27 : decode cX4_absorbInTurns 27 = .ok (.iadd, 1) := by decide +kernel
theorem dX4_absorbInTurns_28 : decode cX4_absorbInTurns 28 = .ok (.istore_n 2, 1) := by decide +kernel
theorem dX4_absorbInTurns_29 : decode cX4_absorbInTurns 29 = .ok (.iinc 3 1, 3) := by decide +kernel
theorem dX4_absorbInTurns_32 : decode cX4_absorbInTurns 32 = .ok (.goto (-28), 3) := by decide +kernel
theorem dX4_absorbInTurns_35 : decode cX4_absorbInTurns 35 = .ok (.iload_n 2, 1) := by decide +kernel
theorem dX4_absorbInTurns_36 : decode cX4_absorbInTurns 36 = .ok (.ireturn, 1) := by decide +kernel
set_option maxRecDepth 20000 in
theorem ggX4_makePass_X3_move : GoodIn wsX4_makePass wsX3_move := goodIn_r _ [9, 10, 11, 12, 13, 14, 15, 16, 17, 18, 19, 20, 21, 22, 23, 35, 36, 37, 38, 39, 40, 41, 42, 43] rfl (by decide +kernel)
set_option maxRecDepth 20000 in
theorem gX4_makePass_X3_move : GoodIn wsX4_makePass (wsV RX4 118 RX3 yX3_move wsX3_move) := goodIn_app (goodIn_of _ (by decide +kernel)) ggX4_makePass_X3_move
theorem dX4_makePass_0 : decode cX4_makePass 0 = .ok (.iconst 0, 1) := by decide +kernel
theorem dX4_makePass_1 : decode cX4_makePass 1 = .ok (.istore_n 2, 1) := by decide +kernel
theorem dX4_makePass_2 : decode cX4_makePass 2 = .ok (.iconst 0, 1) := by decide +kernel
theorem dX4_makePass_3 : decode cX4_makePass 3 = .ok (.istore_n 3, 1) := by decide +kernel
theorem dX4_makePass_4 : decode cX4_makePass 4 = .ok (.iload_n 3, 1) := by decide +kernel
theorem dX4_makePass_5 : decode cX4_makePass 5 = .ok (.aload_n 0, 1) := by decide +kernel
theorem dX4_makePass_6 : decode cX4_makePass 6 = .ok (.getfield 26, 3) := by decide +kernel
theorem dX4_makePass_9 : decode cX4_makePass 9 = .ok (.getfield 109, 3) := by decide +kernel
theorem dX4_makePass_12 : decode cX4_makePass 12 = .ok (.if_icmp .ge 37, 3) := by decide +kernel
theorem dX4_makePass_15 : decode cX4_makePass 15 = .ok (.aload_n 0, 1) := by decide +kernel
theorem dX4_makePass_16 : decode cX4_makePass 16 = .ok (.getfield 26, 3) := by decide +kernel
theorem dX4_makePass_19 : decode cX4_makePass 19 = .ok (.getfield 112, 3) := by decide +kernel
theorem dX4_makePass_22 : decode cX4_makePass 22 = .ok (.iload_n 3, 1) := by decide +kernel
theorem dX4_makePass_23 : decode cX4_makePass 23 = .ok (.iaload, 1) := by decide +kernel
theorem dX4_makePass_24 : decode cX4_makePass 24 = .ok (.iload_n 1, 1) := by decide +kernel
theorem dX4_makePass_25 : decode cX4_makePass 25 = .ok (.if_icmp .eq 18, 3) := by decide +kernel
theorem dX4_makePass_28 : decode cX4_makePass 28 = .ok (.aload_n 0, 1) := by decide +kernel
theorem dX4_makePass_29 : decode cX4_makePass 29 = .ok (.getfield 26, 3) := by decide +kernel
theorem dX4_makePass_32 : decode cX4_makePass 32 = .ok (.iload_n 3, 1) := by decide +kernel
theorem dX4_makePass_33 : decode cX4_makePass 33 = .ok (.aload_n 0, 1) := by decide +kernel
theorem dX4_makePass_34 : decode cX4_makePass 34 = .ok (.getfield 19, 3) := by decide +kernel
theorem dX4_makePass_37 : decode cX4_makePass 37 = .ok (.invokevirtual 118, 3) := by decide +kernel
theorem dX4_makePass_40 : decode cX4_makePass 40 = .ok (.iinc 2 1, 3) := by decide +kernel
theorem dX4_makePass_43 : decode cX4_makePass 43 = .ok (.iinc 3 1, 3) := by decide +kernel
theorem dX4_makePass_46 : decode cX4_makePass 46 = .ok (.goto (-42), 3) := by decide +kernel
theorem dX4_makePass_49 : decode cX4_makePass 49 = .ok (.iload_n 2, 1) := by decide +kernel
theorem dX4_makePass_50 : decode cX4_makePass 50 = .ok (.ireturn, 1) := by decide +kernel
set_option maxRecDepth 20000 in
theorem ggX4_coverTimeBelow_X2_start : GoodIn wsX4_coverTimeBelow wsX2_start := goodIn_r _ [9, 10, 11, 12, 13, 14, 15, 45, 46] rfl (by decide +kernel)
set_option maxRecDepth 20000 in
theorem gX4_coverTimeBelow_X2_start : GoodIn wsX4_coverTimeBelow (wsV RX4 138 RX2 yX2_start wsX2_start) := goodIn_app (goodIn_of _ (by decide +kernel)) ggX4_coverTimeBelow_X2_start
set_option maxRecDepth 20000 in
theorem ggX4_coverTimeBelow_X2_move : GoodIn wsX4_coverTimeBelow wsX2_move := goodIn_r _ [19, 10, 20, 11, 21, 22, 23, 24, 25, 26, 27, 28, 29, 45, 46, 41, 42, 43, 44] rfl (by decide +kernel)
set_option maxRecDepth 20000 in
theorem gX4_coverTimeBelow_X2_move : GoodIn wsX4_coverTimeBelow (wsV RX4 142 RX2 yX2_move wsX2_move) := goodIn_app (goodIn_of _ (by decide +kernel)) ggX4_coverTimeBelow_X2_move
theorem dX4_coverTimeBelow_0 : decode cX4_coverTimeBelow 0 = .ok (.aload_n 0, 1) := by decide +kernel
theorem dX4_coverTimeBelow_1 : decode cX4_coverTimeBelow 1 = .ok (.getfield 40, 3) := by decide +kernel
theorem dX4_coverTimeBelow_4 : decode cX4_coverTimeBelow 4 = .ok (.iload_n 2, 1) := by decide +kernel
theorem dX4_coverTimeBelow_5 : decode cX4_coverTimeBelow 5 = .ok (.aload_n 3, 1) := by decide +kernel
theorem dX4_coverTimeBelow_6 : decode cX4_coverTimeBelow 6 = .ok (.invokevirtual 138, 3) := by decide +kernel
theorem dX4_coverTimeBelow_9 : decode cX4_coverTimeBelow 9 = .ok (.iconst 1, 1) := by decide +kernel
theorem dX4_coverTimeBelow_10 : decode cX4_coverTimeBelow 10 = .ok (.aload_n 0, 1) := by decide +kernel
theorem dX4_coverTimeBelow_11 : decode cX4_coverTimeBelow 11 = .ok (.getfield 19, 3) := by decide +kernel
theorem dX4_coverTimeBelow_14 : decode cX4_coverTimeBelow 14 = .ok (.getfield 86, 3) := by decide +kernel
theorem dX4_coverTimeBelow_17 : decode cX4_coverTimeBelow 17 = .ok (.ishl, 1) := by decide +kernel
theorem dX4_coverTimeBelow_18 : decode cX4_coverTimeBelow 18 = .ok (.iconst 1, 1) := by decide +kernel
theorem dX4_coverTimeBelow_19 : decode cX4_coverTimeBelow 19 = .ok (.isub, 1) := by decide +kernel
theorem dX4_coverTimeBelow_20 : decode cX4_coverTimeBelow 20 = .ok (.istore 4, 2) := by decide +kernel
theorem dX4_coverTimeBelow_22 : decode cX4_coverTimeBelow 22 = .ok (.iconst 1, 1) := by decide +kernel
theorem dX4_coverTimeBelow_23 : decode cX4_coverTimeBelow 23 = .ok (.iload_n 2, 1) := by decide +kernel
theorem dX4_coverTimeBelow_24 : decode cX4_coverTimeBelow 24 = .ok (.ishl, 1) := by decide +kernel
theorem dX4_coverTimeBelow_25 : decode cX4_coverTimeBelow 25 = .ok (.istore 5, 2) := by decide +kernel
theorem dX4_coverTimeBelow_27 : decode cX4_coverTimeBelow 27 = .ok (.iconst 0, 1) := by decide +kernel
theorem dX4_coverTimeBelow_28 : decode cX4_coverTimeBelow 28 = .ok (.istore 6, 2) := by decide +kernel
theorem dX4_coverTimeBelow_30 : decode cX4_coverTimeBelow 30 = .ok (.iload 5, 2) := by decide +kernel
theorem dX4_coverTimeBelow_32 : decode cX4_coverTimeBelow 32 = .ok (.iload 4, 2) := by decide +kernel
theorem dX4_coverTimeBelow_34 : decode cX4_coverTimeBelow 34 = .ok (.if_icmp .eq 40, 3) := by decide +kernel
theorem dX4_coverTimeBelow_37 : decode cX4_coverTimeBelow 37 = .ok (.iload 6, 2) := by decide +kernel
theorem dX4_coverTimeBelow_39 : decode cX4_coverTimeBelow 39 = .ok (.iload_n 1, 1) := by decide +kernel
theorem dX4_coverTimeBelow_40 : decode cX4_coverTimeBelow 40 = .ok (.if_icmp .ge 34, 3) := by decide +kernel
theorem dX4_coverTimeBelow_43 : decode cX4_coverTimeBelow 43 = .ok (.aload_n 0, 1) := by decide +kernel
theorem dX4_coverTimeBelow_44 : decode cX4_coverTimeBelow 44 = .ok (.getfield 40, 3) := by decide +kernel
theorem dX4_coverTimeBelow_47 : decode cX4_coverTimeBelow 47 = .ok (.aload_n 0, 1) := by decide +kernel
theorem dX4_coverTimeBelow_48 : decode cX4_coverTimeBelow 48 = .ok (.getfield 19, 3) := by decide +kernel
theorem dX4_coverTimeBelow_51 : decode cX4_coverTimeBelow 51 = .ok (.invokevirtual 142, 3) := by decide +kernel
theorem dX4_coverTimeBelow_54 : decode cX4_coverTimeBelow 54 = .ok (.iload 5, 2) := by decide +kernel
theorem dX4_coverTimeBelow_56 : decode cX4_coverTimeBelow 56 = .ok (.iconst 1, 1) := by decide +kernel
theorem dX4_coverTimeBelow_57 : decode cX4_coverTimeBelow 57 = .ok (.aload_n 0, 1) := by decide +kernel
theorem dX4_coverTimeBelow_58 : decode cX4_coverTimeBelow 58 = .ok (.getfield 40, 3) := by decide +kernel
theorem dX4_coverTimeBelow_61 : decode cX4_coverTimeBelow 61 = .ok (.getfield 201, 3) := by decide +kernel
theorem dX4_coverTimeBelow_64 : decode cX4_coverTimeBelow 64 = .ok (.ishl, 1) := by decide +kernel
theorem dX4_coverTimeBelow_65 : decode cX4_coverTimeBelow 65 = .ok (.ior, 1) := by decide +kernel
theorem dX4_coverTimeBelow_66 : decode cX4_coverTimeBelow 66 = .ok (.istore 5, 2) := by decide +kernel
theorem dX4_coverTimeBelow_68 : decode cX4_coverTimeBelow 68 = .ok (.iinc 6 1, 3) := by decide +kernel
theorem dX4_coverTimeBelow_71 : decode cX4_coverTimeBelow 71 = .ok (.goto (-41), 3) := by decide +kernel
theorem dX4_coverTimeBelow_74 : decode cX4_coverTimeBelow 74 = .ok (.iload 6, 2) := by decide +kernel
theorem dX4_coverTimeBelow_76 : decode cX4_coverTimeBelow 76 = .ok (.ireturn, 1) := by decide +kernel
set_option maxRecDepth 20000 in
theorem ggX4_searchAssignments_X0_assignments : GoodIn wsX4_searchAssignments wsX0_assignments := goodIn_r _ [14, 15, 16, 60, 61, 62, 63] rfl (by decide +kernel)
set_option maxRecDepth 20000 in
theorem gX4_searchAssignments_X0_assignments : GoodIn wsX4_searchAssignments (wsV RX4 154 RX0 yX0_assignments wsX0_assignments) := goodIn_app (goodIn_of _ (by decide +kernel)) ggX4_searchAssignments_X0_assignments
set_option maxRecDepth 20000 in
theorem ggX4_searchAssignments_X4_coverTimeBelow : GoodIn wsX4_searchAssignments wsX4_coverTimeBelow := goodIn_r _ [21, 22, 1, 2, 23, 24, 25, 26, 27, 28, 29, 30, 31, 7, 8, 9, 32, 33, 34, 35, 36, 37, 38, 13, 39, 40, 41, 42, 43, 16, 49, 50, 51, 52, 53, 54, 55, 56, 57, 58, 59, 60, 61, 62, 63, 64, 65] rfl (by decide +kernel)
set_option maxRecDepth 20000 in
theorem gX4_searchAssignments_X4_coverTimeBelow : GoodIn wsX4_searchAssignments (wsV RX4 150 RX4 yX4_coverTimeBelow wsX4_coverTimeBelow) := goodIn_app (goodIn_of _ (by decide +kernel)) ggX4_searchAssignments_X4_coverTimeBelow
set_option maxRecDepth 20000 in
theorem ggX4_searchAssignments_X4_turnTrialRotors : GoodIn wsX4_searchAssignments wsX4_turnTrialRotors := goodIn_r _ [47, 1, 2, 3, 48, 41, 42, 13, 43, 16, 49, 50, 51, 52, 53, 54, 55, 56, 57, 58, 59, 60, 61, 62, 63] rfl (by decide +kernel)
set_option maxRecDepth 20000 in
theorem gX4_searchAssignments_X4_turnTrialRotors : GoodIn wsX4_searchAssignments (wsV RX4 210 RX4 yX4_turnTrialRotors wsX4_turnTrialRotors) := goodIn_app (goodIn_of _ (by decide +kernel)) ggX4_searchAssignments_X4_turnTrialRotors
theorem dX4_searchAssignments_0 : decode cX4_searchAssignments 0 = .ok (.iconst 0, 1) := by decide +kernel
theorem dX4_searchAssignments_1 : decode cX4_searchAssignments 1 = .ok (.istore_n 2, 1) := by decide +kernel
theorem dX4_searchAssignments_2 : decode cX4_searchAssignments 2 = .ok (.iload_n 2, 1) := by decide +kernel
theorem dX4_searchAssignments_3 : decode cX4_searchAssignments 3 = .ok (.aload_n 0, 1) := by decide +kernel
theorem dX4_searchAssignments_4 : decode cX4_searchAssignments 4 = .ok (.getfield 19, 3) := by decide +kernel
theorem dX4_searchAssignments_7 : decode cX4_searchAssignments 7 = .ok (.getfield 86, 3) := by decide +kernel
theorem dX4_searchAssignments_10 : decode cX4_searchAssignments 10 = .ok (.if_icmp .ge 16, 3) := by decide +kernel
theorem dX4_searchAssignments_13 : decode cX4_searchAssignments 13 = .ok (.aload_n 0, 1) := by decide +kernel
theorem dX4_searchAssignments_14 : decode cX4_searchAssignments 14 = .ok (.getfield 47, 3) := by decide +kernel
theorem dX4_searchAssignments_17 : decode cX4_searchAssignments 17 = .ok (.iload_n 2, 1) := by decide +kernel
theorem dX4_searchAssignments_18 : decode cX4_searchAssignments 18 = .ok (.iconst 0, 1) := by decide +kernel
theorem dX4_searchAssignments_19 : decode cX4_searchAssignments 19 = .ok (.iastore, 1) := by decide +kernel
theorem dX4_searchAssignments_20 : decode cX4_searchAssignments 20 = .ok (.iinc 2 1, 3) := by decide +kernel
theorem dX4_searchAssignments_23 : decode cX4_searchAssignments 23 = .ok (.goto (-21), 3) := by decide +kernel
theorem dX4_searchAssignments_26 : decode cX4_searchAssignments 26 = .ok (.aload_n 0, 1) := by decide +kernel
theorem dX4_searchAssignments_27 : decode cX4_searchAssignments 27 = .ok (.getfield 19, 3) := by decide +kernel
theorem dX4_searchAssignments_30 : decode cX4_searchAssignments 30 = .ok (.invokevirtual 154, 3) := by decide +kernel
theorem dX4_searchAssignments_33 : decode cX4_searchAssignments 33 = .ok (.istore_n 2, 1) := by decide +kernel
theorem dX4_searchAssignments_34 : decode cX4_searchAssignments 34 = .ok (.aload_n 0, 1) := by decide +kernel
theorem dX4_searchAssignments_35 : decode cX4_searchAssignments 35 = .ok (.getfield 19, 3) := by decide +kernel
theorem dX4_searchAssignments_38 : decode cX4_searchAssignments 38 = .ok (.getfield 86, 3) := by decide +kernel
theorem dX4_searchAssignments_41 : decode cX4_searchAssignments 41 = .ok (.iconst 1, 1) := by decide +kernel
theorem dX4_searchAssignments_42 : decode cX4_searchAssignments 42 = .ok (.isub, 1) := by decide +kernel
theorem dX4_searchAssignments_43 : decode cX4_searchAssignments 43 = .ok (.istore_n 3, 1) := by decide +kernel
theorem dX4_searchAssignments_44 : decode cX4_searchAssignments 44 = .ok (.ldc 145, 2) := by decide +kernel
theorem dX4_searchAssignments_46 : decode cX4_searchAssignments 46 = .ok (.istore 4, 2) := by decide +kernel
theorem dX4_searchAssignments_48 : decode cX4_searchAssignments 48 = .ok (.iconst 0, 1) := by decide +kernel
theorem dX4_searchAssignments_49 : decode cX4_searchAssignments 49 = .ok (.istore 5, 2) := by decide +kernel
theorem dX4_searchAssignments_51 : decode cX4_searchAssignments 51 = .ok (.iload 5, 2) := by decide +kernel
theorem dX4_searchAssignments_53 : decode cX4_searchAssignments 53 = .ok (.iload_n 2, 1) := by decide +kernel
theorem dX4_searchAssignments_54 : decode cX4_searchAssignments 54 = .ok (.if_icmp .ge 58, 3) := by decide +kernel
theorem dX4_searchAssignments_57 : decode cX4_searchAssignments 57 = .ok (.iload 4, 2) := by decide +kernel
theorem dX4_searchAssignments_59 : decode cX4_searchAssignments 59 = .ok (.iload_n 3, 1) := by decide +kernel
theorem dX4_searchAssignments_60 : decode cX4_searchAssignments 60 = .ok (.if_icmp .le 52, 3) := by decide +kernel
theorem dX4_searchAssignments_63 : decode cX4_searchAssignments 63 = .ok (.aload_n 0, 1) := by decide +kernel
theorem dX4_searchAssignments_64 : decode cX4_searchAssignments 64 = .ok (.iload 4, 2) := by decide +kernel
theorem dX4_searchAssignments_66 : decode cX4_searchAssignments 66 = .ok (.iload_n 1, 1) := by decide +kernel
theorem dX4_searchAssignments_67 : decode cX4_searchAssignments 67 = .ok (.aload_n 0, 1) := by decide +kernel
theorem dX4_searchAssignments_68 : decode cX4_searchAssignments 68 = .ok (.getfield 47, 3) := by decide +kernel
theorem dX4_searchAssignments_71 : decode cX4_searchAssignments 71 = .ok (.invokevirtual 150, 3) := by decide +kernel
theorem dX4_searchAssignments_74 : decode cX4_searchAssignments 74 = .ok (.istore 6, 2) := by decide +kernel
theorem dX4_searchAssignments_76 : decode cX4_searchAssignments 76 = .ok (.iload 6, 2) := by decide +kernel
theorem dX4_searchAssignments_78 : decode cX4_searchAssignments 78 = .ok (.iload 4, 2) := by decide +kernel
theorem dX4_searchAssignments_80 : decode cX4_searchAssignments 80 = .ok (.if_icmp .ge 22, 3) := by decide +kernel
theorem dX4_searchAssignments_83 : decode cX4_searchAssignments 83 = .ok (.iload 6, 2) := by decide +kernel
theorem dX4_searchAssignments_85 : decode cX4_searchAssignments 85 = .ok (.istore 4, 2) := by decide +kernel
theorem dX4_searchAssignments_87 : decode cX4_searchAssignments 87 = .ok (.aload_n 0, 1) := by decide +kernel
theorem dX4_searchAssignments_88 : decode cX4_searchAssignments 88 = .ok (.getfield 47, 3) := by decide +kernel
theorem dX4_searchAssignments_91 : decode cX4_searchAssignments 91 = .ok (.iconst 0, 1) := by decide +kernel
theorem dX4_searchAssignments_92 : decode cX4_searchAssignments 92 = .ok (.aload_n 0, 1) := by decide +kernel
theorem dX4_searchAssignments_93 : decode cX4_searchAssignments 93 = .ok (.getfield 51, 3) := by decide +kernel
theorem dX4_searchAssignments_96 : decode cX4_searchAssignments 96 = .ok (.iconst 0, 1) := by decide +kernel
theorem dX4_searchAssignments_97 : decode cX4_searchAssignments 97 = .ok (.bipush 8, 2) := by decide +kernel
theorem dX4_searchAssignments_99 : decode cX4_searchAssignments 99 = .ok (.invokestatic 204, 3) := by decide +kernel
theorem dX4_searchAssignments_102 : decode cX4_searchAssignments 102 = .ok (.aload_n 0, 1) := by decide +kernel
theorem dX4_searchAssignments_103 : decode cX4_searchAssignments 103 = .ok (.invokevirtual 210, 3) := by decide +kernel
theorem dX4_searchAssignments_106 : decode cX4_searchAssignments 106 = .ok (.iinc 5 1, 3) := by decide +kernel
theorem dX4_searchAssignments_109 : decode cX4_searchAssignments 109 = .ok (.goto (-58), 3) := by decide +kernel
theorem dX4_searchAssignments_112 : decode cX4_searchAssignments 112 = .ok (.iload 4, 2) := by decide +kernel
theorem dX4_searchAssignments_114 : decode cX4_searchAssignments 114 = .ok (.ireturn, 1) := by decide +kernel
set_option maxRecDepth 20000 in
theorem ggX4_turnTrialRotors_X0_rotorAfter : GoodIn wsX4_turnTrialRotors wsX0_rotorAfter := goodIn_r _ [8, 9, 21, 22, 23, 24] rfl (by decide +kernel)
set_option maxRecDepth 20000 in
theorem gX4_turnTrialRotors_X0_rotorAfter : GoodIn wsX4_turnTrialRotors (wsV RX4 213 RX0 yX0_rotorAfter wsX0_rotorAfter) := goodIn_app (goodIn_of _ (by decide +kernel)) ggX4_turnTrialRotors_X0_rotorAfter
theorem dX4_turnTrialRotors_0 : decode cX4_turnTrialRotors 0 = .ok (.aload_n 0, 1) := by decide +kernel
theorem dX4_turnTrialRotors_1 : decode cX4_turnTrialRotors 1 = .ok (.getfield 19, 3) := by decide +kernel
theorem dX4_turnTrialRotors_4 : decode cX4_turnTrialRotors 4 = .ok (.getfield 86, 3) := by decide +kernel
theorem dX4_turnTrialRotors_7 : decode cX4_turnTrialRotors 7 = .ok (.iconst 1, 1) := by decide +kernel
theorem dX4_turnTrialRotors_8 : decode cX4_turnTrialRotors 8 = .ok (.isub, 1) := by decide +kernel
theorem dX4_turnTrialRotors_9 : decode cX4_turnTrialRotors 9 = .ok (.istore_n 1, 1) := by decide +kernel
theorem dX4_turnTrialRotors_10 : decode cX4_turnTrialRotors 10 = .ok (.iload_n 1, 1) := by decide +kernel
theorem dX4_turnTrialRotors_11 : decode cX4_turnTrialRotors 11 = .ok (.ifCond .lt 39, 3) := by decide +kernel
theorem dX4_turnTrialRotors_14 : decode cX4_turnTrialRotors 14 = .ok (.aload_n 0, 1) := by decide +kernel
theorem dX4_turnTrialRotors_15 : decode cX4_turnTrialRotors 15 = .ok (.getfield 47, 3) := by decide +kernel
theorem dX4_turnTrialRotors_18 : decode cX4_turnTrialRotors 18 = .ok (.iload_n 1, 1) := by decide +kernel
theorem dX4_turnTrialRotors_19 : decode cX4_turnTrialRotors 19 = .ok (.aload_n 0, 1) := by decide +kernel
theorem dX4_turnTrialRotors_20 : decode cX4_turnTrialRotors 20 = .ok (.getfield 19, 3) := by decide +kernel
theorem dX4_turnTrialRotors_23 : decode cX4_turnTrialRotors 23 = .ok (.iload_n 1, 1) := by decide +kernel
theorem dX4_turnTrialRotors_24 : decode cX4_turnTrialRotors 24 = .ok (.aload_n 0, 1) := by decide +kernel
theorem dX4_turnTrialRotors_25 : decode cX4_turnTrialRotors 25 = .ok (.getfield 47, 3) := by decide +kernel
theorem dX4_turnTrialRotors_28 : decode cX4_turnTrialRotors 28 = .ok (.iload_n 1, 1) := by decide +kernel
theorem dX4_turnTrialRotors_29 : decode cX4_turnTrialRotors 29 = .ok (.iaload, 1) := by decide +kernel
theorem dX4_turnTrialRotors_30 : decode cX4_turnTrialRotors 30 = .ok (.invokevirtual 213, 3) := by decide +kernel
theorem dX4_turnTrialRotors_33 : decode cX4_turnTrialRotors 33 = .ok (.iastore, 1) := by decide +kernel
theorem dX4_turnTrialRotors_34 : decode cX4_turnTrialRotors 34 = .ok (.aload_n 0, 1) := by decide +kernel
theorem dX4_turnTrialRotors_35 : decode cX4_turnTrialRotors 35 = .ok (.getfield 47, 3) := by decide +kernel
theorem dX4_turnTrialRotors_38 : decode cX4_turnTrialRotors 38 = .ok (.iload_n 1, 1) := by decide +kernel
theorem dX4_turnTrialRotors_39 : decode cX4_turnTrialRotors 39 = .ok (.iaload, 1) := by decide +kernel
theorem dX4_turnTrialRotors_40 : decode cX4_turnTrialRotors 40 = .ok (.ifCond .eq 4, 3) := by decide +kernel
theorem dX4_turnTrialRotors_43 : decode cX4_turnTrialRotors 43 = .ok (.return_, 1) := by decide +kernel
theorem dX4_turnTrialRotors_44 : decode cX4_turnTrialRotors 44 = .ok (.iinc 1 (-1), 3) := by decide +kernel
theorem dX4_turnTrialRotors_47 : decode cX4_turnTrialRotors 47 = .ok (.goto (-37), 3) := by decide +kernel
theorem dX4_turnTrialRotors_50 : decode cX4_turnTrialRotors 50 = .ok (.return_, 1) := by decide +kernel
set_option maxRecDepth 20000 in
theorem ggX4_spreadChances_X0_slot : GoodIn wsX4_spreadChances wsX0_slot := goodIn_r _ [10] rfl (by decide +kernel)
set_option maxRecDepth 20000 in
theorem gX4_spreadChances_X0_slot : GoodIn wsX4_spreadChances (va_wsS RX4 103 yX0_slot wsX0_slot) := goodIn_app (goodIn_of _ (by decide +kernel)) ggX4_spreadChances_X0_slot
theorem dX4_spreadChances_0 : decode cX4_spreadChances 0 = .ok (.iconst 0, 1) := by decide +kernel
theorem dX4_spreadChances_1 : decode cX4_spreadChances 1 = .ok (.istore_n 1, 1) := by decide +kernel
theorem dX4_spreadChances_2 : decode cX4_spreadChances 2 = .ok (.iload_n 1, 1) := by decide +kernel
theorem dX4_spreadChances_3 : decode cX4_spreadChances 3 = .ok (.aload_n 0, 1) := by decide +kernel
theorem dX4_spreadChances_4 : decode cX4_spreadChances 4 = .ok (.getfield 19, 3) := by decide +kernel
theorem dX4_spreadChances_7 : decode cX4_spreadChances 7 = .ok (.getfield 86, 3) := by decide +kernel
theorem dX4_spreadChances_10 : decode cX4_spreadChances 10 = .ok (.if_icmp .ge 16, 3) := by decide +kernel
theorem dX4_spreadChances_13 : decode cX4_spreadChances 13 = .ok (.aload_n 0, 1) := by decide +kernel
theorem dX4_spreadChances_14 : decode cX4_spreadChances 14 = .ok (.getfield 58, 3) := by decide +kernel
theorem dX4_spreadChances_17 : decode cX4_spreadChances 17 = .ok (.iload_n 1, 1) := by decide +kernel
theorem dX4_spreadChances_18 : decode cX4_spreadChances 18 = .ok (.dconst 0, 1) := by decide +kernel
theorem dX4_spreadChances_19 : decode cX4_spreadChances 19 = .ok (.dastore, 1) := by decide +kernel
theorem dX4_spreadChances_20 : decode cX4_spreadChances 20 = .ok (.iinc 1 1, 3) := by decide +kernel
theorem dX4_spreadChances_23 : decode cX4_spreadChances 23 = .ok (.goto (-21), 3) := by decide +kernel
theorem dX4_spreadChances_26 : decode cX4_spreadChances 26 = .ok (.iconst 0, 1) := by decide +kernel
theorem dX4_spreadChances_27 : decode cX4_spreadChances 27 = .ok (.istore_n 1, 1) := by decide +kernel
theorem dX4_spreadChances_28 : decode cX4_spreadChances 28 = .ok (.iload_n 1, 1) := by decide +kernel
theorem dX4_spreadChances_29 : decode cX4_spreadChances 29 = .ok (.aload_n 0, 1) := by decide +kernel
theorem dX4_spreadChances_30 : decode cX4_spreadChances 30 = .ok (.getfield 19, 3) := by decide +kernel
theorem dX4_spreadChances_33 : decode cX4_spreadChances 33 = .ok (.getfield 86, 3) := by decide +kernel
theorem dX4_spreadChances_36 : decode cX4_spreadChances 36 = .ok (.if_icmp .ge 70, 3) := by decide +kernel
theorem dX4_spreadChances_39 : decode cX4_spreadChances 39 = .ok (.iconst 0, 1) := by decide +kernel
theorem dX4_spreadChances_40 : decode cX4_spreadChances 40 = .ok (.istore_n 2, 1) := by decide +kernel
theorem dX4_spreadChances_41 : decode cX4_spreadChances 41 = .ok (.iload_n 2, 1) := by decide +kernel
theorem dX4_spreadChances_42 : decode cX4_spreadChances 42 = .ok (.aload_n 0, 1) := by decide +kernel
theorem dX4_spreadChances_43 : decode cX4_spreadChances 43 = .ok (.getfield 19, 3) := by decide +kernel
theorem dX4_spreadChances_46 : decode cX4_spreadChances 46 = .ok (.getfield 93, 3) := by decide +kernel
theorem dX4_spreadChances_49 : decode cX4_spreadChances 49 = .ok (.iload_n 1, 1) := by decide +kernel
theorem dX4_spreadChances_50 : decode cX4_spreadChances 50 = .ok (.iaload, 1) := by decide +kernel
theorem dX4_spreadChances_51 : decode cX4_spreadChances 51 = .ok (.if_icmp .ge 49, 3) := by decide +kernel
theorem dX4_spreadChances_54 : decode cX4_spreadChances 54 = .ok (.aload_n 0, 1) := by decide +kernel
theorem dX4_spreadChances_55 : decode cX4_spreadChances 55 = .ok (.getfield 19, 3) := by decide +kernel
theorem dX4_spreadChances_58 : decode cX4_spreadChances 58 = .ok (.getfield 100, 3) := by decide +kernel
theorem dX4_spreadChances_61 : decode cX4_spreadChances 61 = .ok (.iload_n 1, 1) := by decide +kernel
theorem dX4_spreadChances_62 : decode cX4_spreadChances 62 = .ok (.iload_n 2, 1) := by decide +kernel
theorem dX4_spreadChances_63 : decode cX4_spreadChances 63 = .ok (.invokestatic 103, 3) := by decide +kernel
theorem dX4_spreadChances_66 : decode cX4_spreadChances 66 = .ok (.iaload, 1) := by decide +kernel
theorem dX4_spreadChances_67 : decode cX4_spreadChances 67 = .ok (.istore_n 3, 1) := by decide +kernel
theorem dX4_spreadChances_68 : decode cX4_spreadChances 68 = .ok (.aload_n 0, 1) := by decide +kernel
theorem dX4_spreadChances_69 : decode cX4_spreadChances 69 = .ok (.getfield 58, 3) := by decide +kernel
theorem dX4_spreadChances_72 : decode cX4_spreadChances 72 = .ok (.iload_n 3, 1) := by decide +kernel
theorem dX4_spreadChances_73 : decode cX4_spreadChances 73 = .ok (.dup2, 1) := by decide +kernel
theorem dX4_spreadChances_74 : decode cX4_spreadChances 74 = .ok (.daload, 1) := by decide +kernel
theorem dX4_spreadChances_75 : decode cX4_spreadChances 75 = .ok (.aload_n 0, 1) := by decide +kernel
theorem dX4_spreadChances_76 : decode cX4_spreadChances 76 = .ok (.getfield 54, 3) := by decide +kernel
theorem dX4_spreadChances_79 : decode cX4_spreadChances 79 = .ok (.iload_n 1, 1) := by decide +kernel
theorem dX4_spreadChances_80 : decode cX4_spreadChances 80 = .ok (.daload, 1) := by decide +kernel
theorem dX4_spreadChances_81 : decode cX4_spreadChances 81 = .ok (.aload_n 0, 1) := by decide +kernel
theorem dX4_spreadChances_82 : decode cX4_spreadChances 82 = .ok (.getfield 19, 3) := by decide +kernel
theorem dX4_spreadChances_85 : decode cX4_spreadChances 85 = .ok (.getfield 93, 3) := by decide +kernel
theorem dX4_spreadChances_88 : decode cX4_spreadChances 88 = .ok (.iload_n 1, 1) := by decide +kernel
theorem dX4_spreadChances_89 : decode cX4_spreadChances 89 = .ok (.iaload, 1) := by decide +kernel
theorem dX4_spreadChances_90 : decode cX4_spreadChances 90 = .ok (.i2d, 1) := by decide +kernel
theorem dX4_spreadChances_91 : decode cX4_spreadChances 91 = .ok (.ddiv, 1) := by decide +kernel
theorem dX4_spreadChances_92 : decode cX4_spreadChances 92 = .ok (.dadd, 1) := by decide +kernel
theorem dX4_spreadChances_93 : decode cX4_spreadChances 93 = .ok (.dastore, 1) := by decide +kernel
theorem dX4_spreadChances_94 : decode cX4_spreadChances 94 = .ok (.iinc 2 1, 3) := by decide +kernel
theorem dX4_spreadChances_97 : decode cX4_spreadChances 97 = .ok (.goto (-56), 3) := by decide +kernel
theorem dX4_spreadChances_100 : decode cX4_spreadChances 100 = .ok (.iinc 1 1, 3) := by decide +kernel
theorem dX4_spreadChances_103 : decode cX4_spreadChances 103 = .ok (.goto (-75), 3) := by decide +kernel
theorem dX4_spreadChances_106 : decode cX4_spreadChances 106 = .ok (.iconst 0, 1) := by decide +kernel
theorem dX4_spreadChances_107 : decode cX4_spreadChances 107 = .ok (.istore_n 1, 1) := by decide +kernel
theorem dX4_spreadChances_108 : decode cX4_spreadChances 108 = .ok (.iload_n 1, 1) := by decide +kernel
theorem dX4_spreadChances_109 : decode cX4_spreadChances 109 = .ok (.aload_n 0, 1) := by decide +kernel
theorem dX4_spreadChances_110 : decode cX4_spreadChances 110 = .ok (.getfield 19, 3) := by decide +kernel
theorem dX4_spreadChances_113 : decode cX4_spreadChances 113 = .ok (.getfield 86, 3) := by decide +kernel
theorem dX4_spreadChances_116 : decode cX4_spreadChances 116 = .ok (.if_icmp .ge 21, 3) := by decide +kernel
theorem dX4_spreadChances_119 : decode cX4_spreadChances 119 = .ok (.aload_n 0, 1) := by decide +kernel
theorem dX4_spreadChances_120 : decode cX4_spreadChances 120 = .ok (.getfield 54, 3) := by decide +kernel
theorem dX4_spreadChances_123 : decode cX4_spreadChances 123 = .ok (.iload_n 1, 1) := by decide +kernel
theorem dX4_spreadChances_124 : decode cX4_spreadChances 124 = .ok (.aload_n 0, 1) := by decide +kernel
theorem dX4_spreadChances_125 : decode cX4_spreadChances 125 = .ok (.getfield 58, 3) := by decide +kernel
theorem dX4_spreadChances_128 : decode cX4_spreadChances 128 = .ok (.iload_n 1, 1) := by decide +kernel
theorem dX4_spreadChances_129 : decode cX4_spreadChances 129 = .ok (.daload, 1) := by decide +kernel
theorem dX4_spreadChances_130 : decode cX4_spreadChances 130 = .ok (.dastore, 1) := by decide +kernel
theorem dX4_spreadChances_131 : decode cX4_spreadChances 131 = .ok (.iinc 1 1, 3) := by decide +kernel
theorem dX4_spreadChances_134 : decode cX4_spreadChances 134 = .ok (.goto (-26), 3) := by decide +kernel
theorem dX4_spreadChances_137 : decode cX4_spreadChances 137 = .ok (.return_, 1) := by decide +kernel
theorem dX4_bitsOf_0 : decode cX4_bitsOf 0 = .ok (.dload_n 0, 1) := by decide +kernel
theorem dX4_bitsOf_1 : decode cX4_bitsOf 1 = .ok (.dconst 0, 1) := by decide +kernel
theorem dX4_bitsOf_2 : decode cX4_bitsOf 2 = .ok (.dcmp .g, 1) := by decide +kernel
theorem dX4_bitsOf_3 : decode cX4_bitsOf 3 = .ok (.ifCond .gt 5, 3) := by decide +kernel
theorem dX4_bitsOf_6 : decode cX4_bitsOf 6 = .ok (.lconst 0, 1) := by decide +kernel
theorem dX4_bitsOf_7 : decode cX4_bitsOf 7 = .ok (.lreturn, 1) := by decide +kernel
theorem dX4_bitsOf_8 : decode cX4_bitsOf 8 = .ok (.dload_n 0, 1) := by decide +kernel
theorem dX4_bitsOf_9 : decode cX4_bitsOf 9 = .ok (.dstore_n 2, 1) := by decide +kernel
theorem dX4_bitsOf_10 : decode cX4_bitsOf 10 = .ok (.iconst 0, 1) := by decide +kernel
theorem dX4_bitsOf_11 : decode cX4_bitsOf 11 = .ok (.istore 4, 2) := by decide +kernel
theorem dX4_bitsOf_13 : decode cX4_bitsOf 13 = .ok (.dload_n 2, 1) := by decide +kernel
theorem dX4_bitsOf_14 : decode cX4_bitsOf 14 = .ok (.ldc2_w 216, 3) := by decide +kernel
theorem dX4_bitsOf_17 : decode cX4_bitsOf 17 = .ok (.dcmp .l, 1) := by decide +kernel
theorem dX4_bitsOf_18 : decode cX4_bitsOf 18 = .ok (.ifCond .lt 23, 3) := by decide +kernel
theorem dX4_bitsOf_21 : decode cX4_bitsOf 21 = .ok (.iload 4, 2) := by decide +kernel
theorem dX4_bitsOf_23 : decode cX4_bitsOf 23 = .ok (.sipush 1023, 3) := by decide +kernel
theorem dX4_bitsOf_26 : decode cX4_bitsOf 26 = .ok (.if_icmp .ge 15, 3) := by decide +kernel
theorem dX4_bitsOf_29 : decode cX4_bitsOf 29 = .ok (.dload_n 2, 1) := by decide +kernel
theorem dX4_bitsOf_30 : decode cX4_bitsOf 30 = .ok (.ldc2_w 216, 3) := by decide +kernel
theorem dX4_bitsOf_33 : decode cX4_bitsOf 33 = .ok (.ddiv, 1) := by decide +kernel
theorem dX4_bitsOf_34 : decode cX4_bitsOf 34 = .ok (.dstore_n 2, 1) := by decide +kernel
theorem dX4_bitsOf_35 : decode cX4_bitsOf 35 = .ok (.iinc 4 1, 3) := by decide +kernel
theorem dX4_bitsOf_38 : decode cX4_bitsOf 38 = .ok (.goto (-25), 3) := by decide +kernel
theorem dX4_bitsOf_41 : decode cX4_bitsOf 41 = .ok (.dload_n 2, 1) := by decide +kernel
theorem dX4_bitsOf_42 : decode cX4_bitsOf 42 = .ok (.dconst 1, 1) := by decide +kernel
theorem dX4_bitsOf_43 : decode cX4_bitsOf 43 = .ok (.dcmp .g, 1) := by decide +kernel
theorem dX4_bitsOf_44 : decode cX4_bitsOf 44 = .ok (.ifCond .ge 23, 3) := by decide +kernel
theorem dX4_bitsOf_47 : decode cX4_bitsOf 47 = .ok (.iload 4, 2) := by decide +kernel
theorem dX4_bitsOf_49 : decode cX4_bitsOf 49 = .ok (.sipush (-1022), 3) := by decide +kernel
theorem dX4_bitsOf_52 : decode cX4_bitsOf 52 = .ok (.if_icmp .le 15, 3) := by decide +kernel
theorem dX4_bitsOf_55 : decode cX4_bitsOf 55 = .ok (.dload_n 2, 1) := by decide +kernel
theorem dX4_bitsOf_56 : decode cX4_bitsOf 56 = .ok (.ldc2_w 216, 3) := by decide +kernel
theorem dX4_bitsOf_59 : decode cX4_bitsOf 59 = .ok (.dmul, 1) := by decide +kernel
theorem dX4_bitsOf_60 : decode cX4_bitsOf 60 = .ok (.dstore_n 2, 1) := by decide +kernel
theorem dX4_bitsOf_61 : decode cX4_bitsOf 61 = .ok (.iinc 4 (-1), 3) := by decide +kernel
theorem dX4_bitsOf_64 : decode cX4_bitsOf 64 = .ok (.goto (-23), 3) := by decide +kernel
theorem dX4_bitsOf_67 : decode cX4_bitsOf 67 = .ok (.dload_n 2, 1) := by decide +kernel
theorem dX4_bitsOf_68 : decode cX4_bitsOf 68 = .ok (.dconst 1, 1) := by decide +kernel
theorem dX4_bitsOf_69 : decode cX4_bitsOf 69 = .ok (.dsub, 1) := by decide +kernel
theorem dX4_bitsOf_70 : decode cX4_bitsOf 70 = .ok (.ldc2_w 218, 3) := by decide +kernel
theorem dX4_bitsOf_73 : decode cX4_bitsOf 73 = .ok (.dmul, 1) := by decide +kernel
theorem dX4_bitsOf_74 : decode cX4_bitsOf 74 = .ok (.d2l, 1) := by decide +kernel
theorem dX4_bitsOf_75 : decode cX4_bitsOf 75 = .ok (.lstore 5, 2) := by decide +kernel
theorem dX4_bitsOf_77 : decode cX4_bitsOf 77 = .ok (.iload 4, 2) := by decide +kernel
theorem dX4_bitsOf_79 : decode cX4_bitsOf 79 = .ok (.sipush 1023, 3) := by decide +kernel
theorem dX4_bitsOf_82 : decode cX4_bitsOf 82 = .ok (.iadd, 1) := by decide +kernel
theorem dX4_bitsOf_83 : decode cX4_bitsOf 83 = .ok (.i2l, 1) := by decide +kernel
theorem dX4_bitsOf_84 : decode cX4_bitsOf 84 = .ok (.ldc2_w 220, 3) := by decide +kernel
theorem dX4_bitsOf_87 : decode cX4_bitsOf 87 = .ok (.lmul, 1) := by decide +kernel
theorem dX4_bitsOf_88 : decode cX4_bitsOf 88 = .ok (.lload 5, 2) := by decide +kernel
theorem dX4_bitsOf_90 : decode cX4_bitsOf 90 = .ok (.ladd, 1) := by decide +kernel
theorem dX4_bitsOf_91 : decode cX4_bitsOf 91 = .ok (.lreturn, 1) := by decide +kernel
theorem dX4_hashed_0 : decode cX4_hashed 0 = .ok (.ldc2_w 222, 3) := by decide +kernel
theorem dX4_hashed_3 : decode cX4_hashed 3 = .ok (.lload_n 0, 1) := by decide +kernel
theorem dX4_hashed_4 : decode cX4_hashed 4 = .ok (.lmul, 1) := by decide +kernel
theorem dX4_hashed_5 : decode cX4_hashed 5 = .ok (.lload_n 2, 1) := by decide +kernel
theorem dX4_hashed_6 : decode cX4_hashed 6 = .ok (.ladd, 1) := by decide +kernel
theorem dX4_hashed_7 : decode cX4_hashed 7 = .ok (.lreturn, 1) := by decide +kernel
set_option maxRecDepth 20000 in
theorem ggX4_hashedNode_X4_hashed : GoodIn wsX4_hashedNode wsX4_hashed := goodIn_r _ [11, 12] rfl (by decide +kernel)
set_option maxRecDepth 20000 in
theorem gX4_hashedNode_X4_hashed : GoodIn wsX4_hashedNode (va_wsS RX4 177 yX4_hashed wsX4_hashed) := goodIn_app (goodIn_of _ (by decide +kernel)) ggX4_hashedNode_X4_hashed
set_option maxRecDepth 20000 in
theorem ggX4_hashedNode_X0_slot : GoodIn wsX4_hashedNode wsX0_slot := goodIn_r _ [16] rfl (by decide +kernel)
set_option maxRecDepth 20000 in
theorem gX4_hashedNode_X0_slot : GoodIn wsX4_hashedNode (va_wsS RX4 103 yX0_slot wsX0_slot) := goodIn_app (goodIn_of _ (by decide +kernel)) ggX4_hashedNode_X0_slot
theorem dX4_hashedNode_0 : decode cX4_hashedNode 0 = .ok (.lload_n 1, 1) := by decide +kernel
theorem dX4_hashedNode_1 : decode cX4_hashedNode 1 = .ok (.aload_n 0, 1) := by decide +kernel
theorem dX4_hashedNode_2 : decode cX4_hashedNode 2 = .ok (.getfield 19, 3) := by decide +kernel
theorem dX4_hashedNode_5 : decode cX4_hashedNode 5 = .ok (.getfield 93, 3) := by decide +kernel
theorem dX4_hashedNode_8 : decode cX4_hashedNode 8 = .ok (.iload_n 3, 1) := by decide +kernel
theorem dX4_hashedNode_9 : decode cX4_hashedNode 9 = .ok (.iaload, 1) := by decide +kernel
theorem dX4_hashedNode_10 : decode cX4_hashedNode 10 = .ok (.i2l, 1) := by decide +kernel
theorem dX4_hashedNode_11 : decode cX4_hashedNode 11 = .ok (.invokestatic 177, 3) := by decide +kernel
theorem dX4_hashedNode_14 : decode cX4_hashedNode 14 = .ok (.lstore 4, 2) := by decide +kernel
theorem dX4_hashedNode_16 : decode cX4_hashedNode 16 = .ok (.lload 4, 2) := by decide +kernel
theorem dX4_hashedNode_18 : decode cX4_hashedNode 18 = .ok (.aload_n 0, 1) := by decide +kernel
theorem dX4_hashedNode_19 : decode cX4_hashedNode 19 = .ok (.getfield 26, 3) := by decide +kernel
theorem dX4_hashedNode_22 : decode cX4_hashedNode 22 = .ok (.getfield 106, 3) := by decide +kernel
theorem dX4_hashedNode_25 : decode cX4_hashedNode 25 = .ok (.iload_n 3, 1) := by decide +kernel
theorem dX4_hashedNode_26 : decode cX4_hashedNode 26 = .ok (.iaload, 1) := by decide +kernel
theorem dX4_hashedNode_27 : decode cX4_hashedNode 27 = .ok (.i2l, 1) := by decide +kernel
theorem dX4_hashedNode_28 : decode cX4_hashedNode 28 = .ok (.invokestatic 177, 3) := by decide +kernel
theorem dX4_hashedNode_31 : decode cX4_hashedNode 31 = .ok (.lstore 4, 2) := by decide +kernel
theorem dX4_hashedNode_33 : decode cX4_hashedNode 33 = .ok (.lload 4, 2) := by decide +kernel
theorem dX4_hashedNode_35 : decode cX4_hashedNode 35 = .ok (.aload_n 0, 1) := by decide +kernel
theorem dX4_hashedNode_36 : decode cX4_hashedNode 36 = .ok (.getfield 26, 3) := by decide +kernel
theorem dX4_hashedNode_39 : decode cX4_hashedNode 39 = .ok (.getfield 129, 3) := by decide +kernel
theorem dX4_hashedNode_42 : decode cX4_hashedNode 42 = .ok (.iload_n 3, 1) := by decide +kernel
theorem dX4_hashedNode_43 : decode cX4_hashedNode 43 = .ok (.iaload, 1) := by decide +kernel
theorem dX4_hashedNode_44 : decode cX4_hashedNode 44 = .ok (.i2l, 1) := by decide +kernel
theorem dX4_hashedNode_45 : decode cX4_hashedNode 45 = .ok (.invokestatic 177, 3) := by decide +kernel
theorem dX4_hashedNode_48 : decode cX4_hashedNode 48 = .ok (.lstore 4, 2) := by decide +kernel
theorem dX4_hashedNode_50 : decode cX4_hashedNode 50 = .ok (.iconst 0, 1) := by decide +kernel
theorem dX4_hashedNode_51 : decode cX4_hashedNode 51 = .ok (.istore 6, 2) := by decide +kernel
theorem dX4_hashedNode_53 : decode cX4_hashedNode 53 = .ok (.iload 6, 2) := by decide +kernel
theorem dX4_hashedNode_55 : decode cX4_hashedNode 55 = .ok (.aload_n 0, 1) := by decide +kernel
theorem dX4_hashedNode_56 : decode cX4_hashedNode 56 = .ok (.getfield 19, 3) := by decide +kernel
theorem dX4_hashedNode_59 : decode cX4_hashedNode 59 = .ok (.getfield 93, 3) := by decide +kernel
theorem dX4_hashedNode_62 : decode cX4_hashedNode 62 = .ok (.iload_n 3, 1) := by decide +kernel
theorem dX4_hashedNode_63 : decode cX4_hashedNode 63 = .ok (.iaload, 1) := by decide +kernel
theorem dX4_hashedNode_64 : decode cX4_hashedNode 64 = .ok (.if_icmp .ge 53, 3) := by decide +kernel
theorem dX4_hashedNode_67 : decode cX4_hashedNode 67 = .ok (.iload_n 3, 1) := by decide +kernel
theorem dX4_hashedNode_68 : decode cX4_hashedNode 68 = .ok (.iload 6, 2) := by decide +kernel
theorem dX4_hashedNode_70 : decode cX4_hashedNode 70 = .ok (.invokestatic 103, 3) := by decide +kernel
theorem dX4_hashedNode_73 : decode cX4_hashedNode 73 = .ok (.istore 7, 2) := by decide +kernel
theorem dX4_hashedNode_75 : decode cX4_hashedNode 75 = .ok (.lload 4, 2) := by decide +kernel
theorem dX4_hashedNode_77 : decode cX4_hashedNode 77 = .ok (.aload_n 0, 1) := by decide +kernel
theorem dX4_hashedNode_78 : decode cX4_hashedNode 78 = .ok (.getfield 19, 3) := by decide +kernel
theorem dX4_hashedNode_81 : decode cX4_hashedNode 81 = .ok (.getfield 100, 3) := by decide +kernel
theorem dX4_hashedNode_84 : decode cX4_hashedNode 84 = .ok (.iload 7, 2) := by decide +kernel
theorem dX4_hashedNode_86 : decode cX4_hashedNode 86 = .ok (.iaload, 1) := by decide +kernel
theorem dX4_hashedNode_87 : decode cX4_hashedNode 87 = .ok (.i2l, 1) := by decide +kernel
theorem dX4_hashedNode_88 : decode cX4_hashedNode 88 = .ok (.invokestatic 177, 3) := by decide +kernel
theorem dX4_hashedNode_91 : decode cX4_hashedNode 91 = .ok (.lstore 4, 2) := by decide +kernel
theorem dX4_hashedNode_93 : decode cX4_hashedNode 93 = .ok (.lload 4, 2) := by decide +kernel
theorem dX4_hashedNode_95 : decode cX4_hashedNode 95 = .ok (.aload_n 0, 1) := by decide +kernel
theorem dX4_hashedNode_96 : decode cX4_hashedNode 96 = .ok (.getfield 26, 3) := by decide +kernel
theorem dX4_hashedNode_99 : decode cX4_hashedNode 99 = .ok (.getfield 132, 3) := by decide +kernel
theorem dX4_hashedNode_102 : decode cX4_hashedNode 102 = .ok (.iload 7, 2) := by decide +kernel
theorem dX4_hashedNode_104 : decode cX4_hashedNode 104 = .ok (.iaload, 1) := by decide +kernel
theorem dX4_hashedNode_105 : decode cX4_hashedNode 105 = .ok (.i2l, 1) := by decide +kernel
theorem dX4_hashedNode_106 : decode cX4_hashedNode 106 = .ok (.invokestatic 177, 3) := by decide +kernel
theorem dX4_hashedNode_109 : decode cX4_hashedNode 109 = .ok (.lstore 4, 2) := by decide +kernel
theorem dX4_hashedNode_111 : decode cX4_hashedNode 111 = .ok (.iinc 6 1, 3) := by decide +kernel
theorem dX4_hashedNode_114 : decode cX4_hashedNode 114 = .ok (.goto (-61), 3) := by decide +kernel
theorem dX4_hashedNode_117 : decode cX4_hashedNode 117 = .ok (.lload 4, 2) := by decide +kernel
theorem dX4_hashedNode_119 : decode cX4_hashedNode 119 = .ok (.lreturn, 1) := by decide +kernel
set_option maxRecDepth 20000 in
theorem ggX4_hashedAnalysis_X0_assignments : GoodIn wsX4_hashedAnalysis wsX0_assignments := goodIn_r _ [6, 7, 8, 93, 94, 95, 96] rfl (by decide +kernel)
set_option maxRecDepth 20000 in
theorem gX4_hashedAnalysis_X0_assignments : GoodIn wsX4_hashedAnalysis (wsV RX4 154 RX0 yX0_assignments wsX0_assignments) := goodIn_app (goodIn_of _ (by decide +kernel)) ggX4_hashedAnalysis_X0_assignments
set_option maxRecDepth 20000 in
theorem ggX4_hashedAnalysis_X4_searchAssignments : GoodIn wsX4_hashedAnalysis wsX4_searchAssignments := goodIn_r _ [13, 1, 14, 15, 16, 17, 18, 19, 20, 21, 2, 3, 4, 5, 6, 7, 8, 22, 23, 24, 12, 25, 26, 27, 28, 29, 30, 31, 32, 33, 34, 35, 36, 37, 38, 39, 40, 41, 42, 43, 44, 45, 46, 47, 48, 49, 50, 51, 52, 82, 83, 84, 85, 86, 87, 88, 89, 90, 91, 92, 93, 94, 95, 96, 97, 98] rfl (by decide +kernel)
set_option maxRecDepth 20000 in
theorem gX4_hashedAnalysis_X4_searchAssignments : GoodIn wsX4_hashedAnalysis (wsV RX4 157 RX4 yX4_searchAssignments wsX4_searchAssignments) := goodIn_app (goodIn_of _ (by decide +kernel)) ggX4_hashedAnalysis_X4_searchAssignments
set_option maxRecDepth 20000 in
theorem ggX4_hashedAnalysis_X4_hashed : GoodIn wsX4_hashedAnalysis wsX4_hashed := goodIn_r _ [55, 56] rfl (by decide +kernel)
set_option maxRecDepth 20000 in
theorem gX4_hashedAnalysis_X4_hashed : GoodIn wsX4_hashedAnalysis (va_wsS RX4 177 yX4_hashed wsX4_hashed) := goodIn_app (goodIn_of _ (by decide +kernel)) ggX4_hashedAnalysis_X4_hashed
set_option maxRecDepth 20000 in
theorem ggX4_hashedAnalysis_X4_expectedArrivals : GoodIn wsX4_hashedAnalysis wsX4_expectedArrivals := goodIn_r _ [60, 1, 61, 62, 14, 63, 64, 65, 66, 5, 67, 7, 68, 69, 70, 12, 71, 72, 73, 74, 75, 42, 43, 76, 77, 78, 79, 80, 81, 82, 83, 84, 85, 86, 87, 88, 89, 90, 91, 92, 93, 94, 95, 96] rfl (by decide +kernel)
set_option maxRecDepth 20000 in
theorem gX4_hashedAnalysis_X4_expectedArrivals : GoodIn wsX4_hashedAnalysis (wsV RX4 224 RX4 yX4_expectedArrivals wsX4_expectedArrivals) := goodIn_app (goodIn_of _ (by decide +kernel)) ggX4_hashedAnalysis_X4_expectedArrivals
theorem dX4_hashedAnalysis_0 : decode cX4_hashedAnalysis 0 = .ok (.lload_n 1, 1) := by decide +kernel
theorem dX4_hashedAnalysis_1 : decode cX4_hashedAnalysis 1 = .ok (.lstore_n 3, 1) := by decide +kernel
theorem dX4_hashedAnalysis_2 : decode cX4_hashedAnalysis 2 = .ok (.aload_n 0, 1) := by decide +kernel
theorem dX4_hashedAnalysis_3 : decode cX4_hashedAnalysis 3 = .ok (.getfield 19, 3) := by decide +kernel
theorem dX4_hashedAnalysis_6 : decode cX4_hashedAnalysis 6 = .ok (.invokevirtual 154, 3) := by decide +kernel
theorem dX4_hashedAnalysis_9 : decode cX4_hashedAnalysis 9 = .ok (.sipush 2000, 3) := by decide +kernel
theorem dX4_hashedAnalysis_12 : decode cX4_hashedAnalysis 12 = .ok (.if_icmp .gt 14, 3) := by decide +kernel
theorem dX4_hashedAnalysis_15 : decode cX4_hashedAnalysis 15 = .ok (.lload_n 3, 1) := by decide +kernel
theorem dX4_hashedAnalysis_16 : decode cX4_hashedAnalysis 16 = .ok (.aload_n 0, 1) := by decide +kernel
theorem dX4_hashedAnalysis_17 : decode cX4_hashedAnalysis 17 = .ok (.iconst 0, 1) := by decide +kernel
theorem dX4_hashedAnalysis_18 : decode cX4_hashedAnalysis 18 = .ok (.invokevirtual 157, 3) := by decide +kernel
theorem dX4_hashedAnalysis_21 : decode cX4_hashedAnalysis 21 = .ok (.i2l, 1) := by decide +kernel
theorem dX4_hashedAnalysis_22 : decode cX4_hashedAnalysis 22 = .ok (.invokestatic 177, 3) := by decide +kernel
theorem dX4_hashedAnalysis_25 : decode cX4_hashedAnalysis 25 = .ok (.lstore_n 3, 1) := by decide +kernel
theorem dX4_hashedAnalysis_26 : decode cX4_hashedAnalysis 26 = .ok (.lload_n 3, 1) := by decide +kernel
theorem dX4_hashedAnalysis_27 : decode cX4_hashedAnalysis 27 = .ok (.aload_n 0, 1) := by decide +kernel
theorem dX4_hashedAnalysis_28 : decode cX4_hashedAnalysis 28 = .ok (.iconst 0, 1) := by decide +kernel
theorem dX4_hashedAnalysis_29 : decode cX4_hashedAnalysis 29 = .ok (.bipush 7, 2) := by decide +kernel
theorem dX4_hashedAnalysis_31 : decode cX4_hashedAnalysis 31 = .ok (.iconst 1, 1) := by decide +kernel
theorem dX4_hashedAnalysis_32 : decode cX4_hashedAnalysis 32 = .ok (.invokevirtual 224, 3) := by decide +kernel
theorem dX4_hashedAnalysis_35 : decode cX4_hashedAnalysis 35 = .ok (.invokestatic 177, 3) := by decide +kernel
theorem dX4_hashedAnalysis_38 : decode cX4_hashedAnalysis 38 = .ok (.lreturn, 1) := by decide +kernel
set_option maxRecDepth 20000 in
theorem ggX4_hashedInput_X4_hashed : GoodIn wsX4_hashedInput wsX4_hashed := goodIn_r _ [7, 8] rfl (by decide +kernel)
set_option maxRecDepth 20000 in
theorem gX4_hashedInput_X4_hashed : GoodIn wsX4_hashedInput (va_wsS RX4 177 yX4_hashed wsX4_hashed) := goodIn_app (goodIn_of _ (by decide +kernel)) ggX4_hashedInput_X4_hashed
theorem dX4_hashedInput_0 : decode cX4_hashedInput 0 = .ok (.lload_n 1, 1) := by decide +kernel
theorem dX4_hashedInput_1 : decode cX4_hashedInput 1 = .ok (.aload_n 0, 1) := by decide +kernel
theorem dX4_hashedInput_2 : decode cX4_hashedInput 2 = .ok (.getfield 12, 3) := by decide +kernel
theorem dX4_hashedInput_5 : decode cX4_hashedInput 5 = .ok (.getfield 61, 3) := by decide +kernel
theorem dX4_hashedInput_8 : decode cX4_hashedInput 8 = .ok (.i2l, 1) := by decide +kernel
theorem dX4_hashedInput_9 : decode cX4_hashedInput 9 = .ok (.invokestatic 177, 3) := by decide +kernel
theorem dX4_hashedInput_12 : decode cX4_hashedInput 12 = .ok (.lstore_n 3, 1) := by decide +kernel
theorem dX4_hashedInput_13 : decode cX4_hashedInput 13 = .ok (.iconst 0, 1) := by decide +kernel
theorem dX4_hashedInput_14 : decode cX4_hashedInput 14 = .ok (.istore 5, 2) := by decide +kernel
theorem dX4_hashedInput_16 : decode cX4_hashedInput 16 = .ok (.iload 5, 2) := by decide +kernel
theorem dX4_hashedInput_18 : decode cX4_hashedInput 18 = .ok (.aload_n 0, 1) := by decide +kernel
theorem dX4_hashedInput_19 : decode cX4_hashedInput 19 = .ok (.getfield 12, 3) := by decide +kernel
theorem dX4_hashedInput_22 : decode cX4_hashedInput 22 = .ok (.getfield 61, 3) := by decide +kernel
theorem dX4_hashedInput_25 : decode cX4_hashedInput 25 = .ok (.if_icmp .ge 25, 3) := by decide +kernel
theorem dX4_hashedInput_28 : decode cX4_hashedInput 28 = .ok (.lload_n 3, 1) := by decide +kernel
theorem dX4_hashedInput_29 : decode cX4_hashedInput 29 = .ok (.aload_n 0, 1) := by decide +kernel
theorem dX4_hashedInput_30 : decode cX4_hashedInput 30 = .ok (.getfield 12, 3) := by decide +kernel
theorem dX4_hashedInput_33 : decode cX4_hashedInput 33 = .ok (.getfield 65, 3) := by decide +kernel
theorem dX4_hashedInput_36 : decode cX4_hashedInput 36 = .ok (.iload 5, 2) := by decide +kernel
theorem dX4_hashedInput_38 : decode cX4_hashedInput 38 = .ok (.iaload, 1) := by decide +kernel
theorem dX4_hashedInput_39 : decode cX4_hashedInput 39 = .ok (.i2l, 1) := by decide +kernel
theorem dX4_hashedInput_40 : decode cX4_hashedInput 40 = .ok (.invokestatic 177, 3) := by decide +kernel
theorem dX4_hashedInput_43 : decode cX4_hashedInput 43 = .ok (.lstore_n 3, 1) := by decide +kernel
theorem dX4_hashedInput_44 : decode cX4_hashedInput 44 = .ok (.iinc 5 1, 3) := by decide +kernel
theorem dX4_hashedInput_47 : decode cX4_hashedInput 47 = .ok (.goto (-31), 3) := by decide +kernel
theorem dX4_hashedInput_50 : decode cX4_hashedInput 50 = .ok (.lload_n 3, 1) := by decide +kernel
theorem dX4_hashedInput_51 : decode cX4_hashedInput 51 = .ok (.lreturn, 1) := by decide +kernel
