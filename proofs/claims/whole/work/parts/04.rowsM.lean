theorem dX4_init_0 : decode cX4_init 0 = .ok (.aload_n 0, 1) := by decide +kernel
theorem dX4_init_1 : decode cX4_init 1 = .ok (.invokespecial 1, 3) := by decide +kernel
theorem dX4_init_4 : decode cX4_init 4 = .ok (.aload_n 0, 1) := by decide +kernel
theorem dX4_init_5 : decode cX4_init 5 = .ok (.iconst 4, 1) := by decide +kernel
theorem dX4_init_6 : decode cX4_init 6 = .ok (.putfield 7, 3) := by decide +kernel
theorem dX4_init_9 : decode cX4_init 9 = .ok (.aload_n 0, 1) := by decide +kernel
theorem dX4_init_10 : decode cX4_init 10 = .ok (.bipush 12, 2) := by decide +kernel
theorem dX4_init_12 : decode cX4_init 12 = .ok (.newarray .int, 2) := by decide +kernel
theorem dX4_init_14 : decode cX4_init 14 = .ok (.putfield 13, 3) := by decide +kernel
theorem dX4_init_17 : decode cX4_init 17 = .ok (.aload_n 0, 1) := by decide +kernel
theorem dX4_init_18 : decode cX4_init 18 = .ok (.bipush 12, 2) := by decide +kernel
theorem dX4_init_20 : decode cX4_init 20 = .ok (.newarray .int, 2) := by decide +kernel
theorem dX4_init_22 : decode cX4_init 22 = .ok (.putfield 17, 3) := by decide +kernel
theorem dX4_init_25 : decode cX4_init 25 = .ok (.aload_n 0, 1) := by decide +kernel
theorem dX4_init_26 : decode cX4_init 26 = .ok (.bipush 12, 2) := by decide +kernel
theorem dX4_init_28 : decode cX4_init 28 = .ok (.newarray .int, 2) := by decide +kernel
theorem dX4_init_30 : decode cX4_init 30 = .ok (.putfield 20, 3) := by decide +kernel
theorem dX4_init_33 : decode cX4_init 33 = .ok (.aload_n 0, 1) := by decide +kernel
theorem dX4_init_34 : decode cX4_init 34 = .ok (.bipush 12, 2) := by decide +kernel
theorem dX4_init_36 : decode cX4_init 36 = .ok (.newarray .int, 2) := by decide +kernel
theorem dX4_init_38 : decode cX4_init 38 = .ok (.putfield 23, 3) := by decide +kernel
theorem dX4_init_41 : decode cX4_init 41 = .ok (.aload_n 0, 1) := by decide +kernel
theorem dX4_init_42 : decode cX4_init 42 = .ok (.bipush 12, 2) := by decide +kernel
theorem dX4_init_44 : decode cX4_init 44 = .ok (.newarray .int, 2) := by decide +kernel
theorem dX4_init_46 : decode cX4_init 46 = .ok (.putfield 26, 3) := by decide +kernel
theorem dX4_init_49 : decode cX4_init 49 = .ok (.aload_n 0, 1) := by decide +kernel
theorem dX4_init_50 : decode cX4_init 50 = .ok (.bipush 7, 2) := by decide +kernel
theorem dX4_init_52 : decode cX4_init 52 = .ok (.newarray .int, 2) := by decide +kernel
theorem dX4_init_54 : decode cX4_init 54 = .ok (.putfield 29, 3) := by decide +kernel
theorem dX4_init_57 : decode cX4_init 57 = .ok (.aload_n 0, 1) := by decide +kernel
theorem dX4_init_58 : decode cX4_init 58 = .ok (.bipush 49, 2) := by decide +kernel
theorem dX4_init_60 : decode cX4_init 60 = .ok (.newarray .int, 2) := by decide +kernel
theorem dX4_init_62 : decode cX4_init 62 = .ok (.putfield 32, 3) := by decide +kernel
theorem dX4_init_65 : decode cX4_init 65 = .ok (.aload_n 0, 1) := by decide +kernel
theorem dX4_init_66 : decode cX4_init 66 = .ok (.bipush 49, 2) := by decide +kernel
theorem dX4_init_68 : decode cX4_init 68 = .ok (.newarray .int, 2) := by decide +kernel
theorem dX4_init_70 : decode cX4_init 70 = .ok (.putfield 35, 3) := by decide +kernel
theorem dX4_init_73 : decode cX4_init 73 = .ok (.return_, 1) := by decide +kernel
theorem dX4_in_0 : decode cX4_in 0 = .ok (.iload_n 0, 1) := by decide +kernel
theorem dX4_in_1 : decode cX4_in 1 = .ok (.iload_n 1, 1) := by decide +kernel
theorem dX4_in_2 : decode cX4_in 2 = .ok (.if_icmp .lt 12, 3) := by decide +kernel
theorem dX4_in_5 : decode cX4_in 5 = .ok (.iload_n 0, 1) := by decide +kernel
theorem dX4_in_6 : decode cX4_in 6 = .ok (.iload_n 2, 1) := by decide +kernel
theorem dX4_in_7 : decode cX4_in 7 = .ok (.if_icmp .gt 7, 3) := by decide +kernel
theorem dX4_in_10 : decode cX4_in 10 = .ok (.iconst 1, 1) := by decide +kernel
theorem dX4_in_11 : decode cX4_in 11 = .ok (.goto 4, 3) := by decide +kernel
theorem dX4_in_14 : decode cX4_in 14 = .ok (.iconst 0, 1) := by decide +kernel
theorem dX4_in_15 : decode cX4_in 15 = .ok (.ireturn, 1) := by decide +kernel
set_option maxRecDepth 20000 in
theorem ggX4_isNode_X4_in : GoodIn wsX4_isNode wsX4_in := goodIn_r _ [5] (by decide +kernel) (by decide +kernel)
set_option maxRecDepth 20000 in
theorem gX4_isNode_X4_in : GoodIn wsX4_isNode (va_wsS RX4 38 yX4_in wsX4_in) := goodIn_app (goodIn_of _ (by decide +kernel)) ggX4_isNode_X4_in
theorem dX4_isNode_0 : decode cX4_isNode 0 = .ok (.iload_n 1, 1) := by decide +kernel
theorem dX4_isNode_1 : decode cX4_isNode 1 = .ok (.iconst 0, 1) := by decide +kernel
theorem dX4_isNode_2 : decode cX4_isNode 2 = .ok (.aload_n 0, 1) := by decide +kernel
theorem dX4_isNode_3 : decode cX4_isNode 3 = .ok (.getfield 7, 3) := by decide +kernel
theorem dX4_isNode_6 : decode cX4_isNode 6 = .ok (.iconst 1, 1) := by decide +kernel
theorem dX4_isNode_7 : decode cX4_isNode 7 = .ok (.isub, 1) := by decide +kernel
theorem dX4_isNode_8 : decode cX4_isNode 8 = .ok (.invokestatic 38, 3) := by decide +kernel
theorem dX4_isNode_11 : decode cX4_isNode 11 = .ok (.ireturn, 1) := by decide +kernel
set_option maxRecDepth 20000 in
theorem ggX4_isLine_X4_in : GoodIn wsX4_isLine wsX4_in := goodIn_r _ [5] (by decide +kernel) (by decide +kernel)
set_option maxRecDepth 20000 in
theorem gX4_isLine_X4_in : GoodIn wsX4_isLine (va_wsS RX4 38 yX4_in wsX4_in) := goodIn_app (goodIn_of _ (by decide +kernel)) ggX4_isLine_X4_in
theorem dX4_isLine_0 : decode cX4_isLine 0 = .ok (.iload_n 1, 1) := by decide +kernel
theorem dX4_isLine_1 : decode cX4_isLine 1 = .ok (.iconst 0, 1) := by decide +kernel
theorem dX4_isLine_2 : decode cX4_isLine 2 = .ok (.aload_n 0, 1) := by decide +kernel
theorem dX4_isLine_3 : decode cX4_isLine 3 = .ok (.getfield 42, 3) := by decide +kernel
theorem dX4_isLine_6 : decode cX4_isLine 6 = .ok (.iconst 1, 1) := by decide +kernel
theorem dX4_isLine_7 : decode cX4_isLine 7 = .ok (.isub, 1) := by decide +kernel
theorem dX4_isLine_8 : decode cX4_isLine 8 = .ok (.invokestatic 38, 3) := by decide +kernel
theorem dX4_isLine_11 : decode cX4_isLine 11 = .ok (.ireturn, 1) := by decide +kernel
set_option maxRecDepth 20000 in
theorem ggX4_nodes_X4_in : GoodIn wsX4_nodes wsX4_in := goodIn_r _ [6] (by decide +kernel) (by decide +kernel)
set_option maxRecDepth 20000 in
theorem gX4_nodes_X4_in : GoodIn wsX4_nodes (va_wsS RX4 38 yX4_in wsX4_in) := goodIn_app (goodIn_of _ (by decide +kernel)) ggX4_nodes_X4_in
theorem dX4_nodes_0 : decode cX4_nodes 0 = .ok (.iload_n 1, 1) := by decide +kernel
theorem dX4_nodes_1 : decode cX4_nodes 1 = .ok (.iconst 2, 1) := by decide +kernel
theorem dX4_nodes_2 : decode cX4_nodes 2 = .ok (.bipush 7, 2) := by decide +kernel
theorem dX4_nodes_4 : decode cX4_nodes 4 = .ok (.invokestatic 38, 3) := by decide +kernel
theorem dX4_nodes_7 : decode cX4_nodes 7 = .ok (.ifCond .ne 6, 3) := by decide +kernel
theorem dX4_nodes_10 : decode cX4_nodes 10 = .ok (.bipush (-3), 2) := by decide +kernel
theorem dX4_nodes_12 : decode cX4_nodes 12 = .ok (.ireturn, 1) := by decide +kernel
theorem dX4_nodes_13 : decode cX4_nodes 13 = .ok (.aload_n 0, 1) := by decide +kernel
theorem dX4_nodes_14 : decode cX4_nodes 14 = .ok (.iload_n 1, 1) := by decide +kernel
theorem dX4_nodes_15 : decode cX4_nodes 15 = .ok (.putfield 7, 3) := by decide +kernel
theorem dX4_nodes_18 : decode cX4_nodes 18 = .ok (.aload_n 0, 1) := by decide +kernel
theorem dX4_nodes_19 : decode cX4_nodes 19 = .ok (.iconst 0, 1) := by decide +kernel
theorem dX4_nodes_20 : decode cX4_nodes 20 = .ok (.putfield 42, 3) := by decide +kernel
theorem dX4_nodes_23 : decode cX4_nodes 23 = .ok (.iconst 1, 1) := by decide +kernel
theorem dX4_nodes_24 : decode cX4_nodes 24 = .ok (.ireturn, 1) := by decide +kernel
set_option maxRecDepth 20000 in
theorem ggX4_line_X4_isNode : GoodIn wsX4_line wsX4_isNode := goodIn_r _ [10, 11, 12, 13, 9, 14, 15, 16, 17, 18, 19, 20, 21, 22, 23, 24, 25, 26] (by decide +kernel) (by decide +kernel)
set_option maxRecDepth 20000 in
theorem gX4_line_X4_isNode : GoodIn wsX4_line (wsV RX4 45 RX4 yX4_isNode wsX4_isNode) := goodIn_app (goodIn_of _ (by decide +kernel)) ggX4_line_X4_isNode
set_option maxRecDepth 20000 in
theorem ggX4_line_X4_in : GoodIn wsX4_line wsX4_in := goodIn_r _ [14] (by decide +kernel) (by decide +kernel)
set_option maxRecDepth 20000 in
theorem gX4_line_X4_in : GoodIn wsX4_line (va_wsS RX4 38 yX4_in wsX4_in) := goodIn_app (goodIn_of _ (by decide +kernel)) ggX4_line_X4_in
theorem dX4_line_0 : decode cX4_line 0 = .ok (.aload_n 0, 1) := by decide +kernel
theorem dX4_line_1 : decode cX4_line 1 = .ok (.iload_n 1, 1) := by decide +kernel
theorem dX4_line_2 : decode cX4_line 2 = .ok (.invokevirtual 45, 3) := by decide +kernel
theorem dX4_line_5 : decode cX4_line 5 = .ok (.ifCond .eq 11, 3) := by decide +kernel
theorem dX4_line_8 : decode cX4_line 8 = .ok (.aload_n 0, 1) := by decide +kernel
theorem dX4_line_9 : decode cX4_line 9 = .ok (.iload_n 2, 1) := by decide +kernel
theorem dX4_line_10 : decode cX4_line 10 = .ok (.invokevirtual 45, 3) := by decide +kernel
theorem dX4_line_13 : decode cX4_line 13 = .ok (.ifCond .ne 6, 3) := by decide +kernel
theorem dX4_line_16 : decode cX4_line 16 = .ok (.bipush (-2), 2) := by decide +kernel
theorem dX4_line_18 : decode cX4_line 18 = .ok (.ireturn, 1) := by decide +kernel
theorem dX4_line_19 : decode cX4_line 19 = .ok (.iload_n 1, 1) := by decide +kernel
theorem dX4_line_20 : decode cX4_line 20 = .ok (.iload_n 2, 1) := by decide +kernel
theorem dX4_line_21 : decode cX4_line 21 = .ok (.if_icmp .eq 13, 3) := by decide +kernel
theorem dX4_line_24 : decode cX4_line 24 = .ok (.iload_n 3, 1) := by decide +kernel
theorem dX4_line_25 : decode cX4_line 25 = .ok (.iconst 1, 1) := by decide +kernel
theorem dX4_line_26 : decode cX4_line 26 = .ok (.bipush 9, 2) := by decide +kernel
theorem dX4_line_28 : decode cX4_line 28 = .ok (.invokestatic 38, 3) := by decide +kernel
theorem dX4_line_31 : decode cX4_line 31 = .ok (.ifCond .ne 6, 3) := by decide +kernel
theorem dX4_line_34 : decode cX4_line 34 = .ok (.bipush (-3), 2) := by decide +kernel
theorem dX4_line_36 : decode cX4_line 36 = .ok (.ireturn, 1) := by decide +kernel
theorem dX4_line_37 : decode cX4_line 37 = .ok (.aload_n 0, 1) := by decide +kernel
theorem dX4_line_38 : decode cX4_line 38 = .ok (.getfield 42, 3) := by decide +kernel
theorem dX4_line_41 : decode cX4_line 41 = .ok (.bipush 12, 2) := by decide +kernel
theorem dX4_line_43 : decode cX4_line 43 = .ok (.if_icmp .ne 6, 3) := by decide +kernel
theorem dX4_line_46 : decode cX4_line 46 = .ok (.bipush (-5), 2) := by decide +kernel
theorem dX4_line_48 : decode cX4_line 48 = .ok (.ireturn, 1) := by decide +kernel
theorem dX4_line_49 : decode cX4_line 49 = .ok (.aload_n 0, 1) := by decide +kernel
theorem dX4_line_50 : decode cX4_line 50 = .ok (.getfield 13, 3) := by decide +kernel
theorem dX4_line_53 : decode cX4_line 53 = .ok (.aload_n 0, 1) := by decide +kernel
theorem dX4_line_54 : decode cX4_line 54 = .ok (.getfield 42, 3) := by decide +kernel
theorem dX4_line_57 : decode cX4_line 57 = .ok (.iload_n 1, 1) := by decide +kernel
theorem dX4_line_58 : decode cX4_line 58 = .ok (.iload_n 2, 1) := by decide +kernel
theorem dX4_line_59 : decode cX4_line 59 = .ok (.if_icmp .ge 7, 3) := by decide +kernel
theorem dX4_line_62 : decode cX4_line 62 = .ok (.iload_n 1, 1) := by decide +kernel
theorem dX4_line_63 : decode cX4_line 63 = .ok (.goto 4, 3) := by decide +kernel
theorem dX4_line_66 : decode cX4_line 66 = .ok (.iload_n 2, 1) := by decide +kernel
theorem dX4_line_67 : decode cX4_line 67 = .ok (.iastore, 1) := by decide +kernel
theorem dX4_line_68 : decode cX4_line 68 = .ok (.aload_n 0, 1) := by decide +kernel
theorem dX4_line_69 : decode cX4_line 69 = .ok (.getfield 17, 3) := by decide +kernel
theorem dX4_line_72 : decode cX4_line 72 = .ok (.aload_n 0, 1) := by decide +kernel
theorem dX4_line_73 : decode cX4_line 73 = .ok (.getfield 42, 3) := by decide +kernel
theorem dX4_line_76 : decode cX4_line 76 = .ok (.iload_n 1, 1) := by decide +kernel
theorem dX4_line_77 : decode cX4_line 77 = .ok (.iload_n 2, 1) := by decide +kernel
theorem dX4_line_78 : decode cX4_line 78 = .ok (.if_icmp .ge 7, 3) := by decide +kernel
theorem dX4_line_81 : decode cX4_line 81 = .ok (.iload_n 2, 1) := by decide +kernel
theorem dX4_line_82 : decode cX4_line 82 = .ok (.goto 4, 3) := by decide +kernel
theorem dX4_line_85 : decode cX4_line 85 = .ok (.iload_n 1, 1) := by decide +kernel
theorem dX4_line_86 : decode cX4_line 86 = .ok (.iastore, 1) := by decide +kernel
theorem dX4_line_87 : decode cX4_line 87 = .ok (.aload_n 0, 1) := by decide +kernel
theorem dX4_line_88 : decode cX4_line 88 = .ok (.getfield 20, 3) := by decide +kernel
theorem dX4_line_91 : decode cX4_line 91 = .ok (.aload_n 0, 1) := by decide +kernel
theorem dX4_line_92 : decode cX4_line 92 = .ok (.getfield 42, 3) := by decide +kernel
theorem dX4_line_95 : decode cX4_line 95 = .ok (.iload_n 3, 1) := by decide +kernel
theorem dX4_line_96 : decode cX4_line 96 = .ok (.iastore, 1) := by decide +kernel
theorem dX4_line_97 : decode cX4_line 97 = .ok (.aload_n 0, 1) := by decide +kernel
theorem dX4_line_98 : decode cX4_line 98 = .ok (.getfield 23, 3) := by decide +kernel
theorem dX4_line_101 : decode cX4_line 101 = .ok (.aload_n 0, 1) := by decide +kernel
theorem dX4_line_102 : decode cX4_line 102 = .ok (.getfield 42, 3) := by decide +kernel
theorem dX4_line_105 : decode cX4_line 105 = .ok (.iload_n 3, 1) := by decide +kernel
theorem dX4_line_106 : decode cX4_line 106 = .ok (.iastore, 1) := by decide +kernel
theorem dX4_line_107 : decode cX4_line 107 = .ok (.aload_n 0, 1) := by decide +kernel
theorem dX4_line_108 : decode cX4_line 108 = .ok (.dup, 1) := by decide +kernel
theorem dX4_line_109 : decode cX4_line 109 = .ok (.getfield 42, 3) := by decide +kernel
theorem dX4_line_112 : decode cX4_line 112 = .ok (.iconst 1, 1) := by decide +kernel
theorem dX4_line_113 : decode cX4_line 113 = .ok (.iadd, 1) := by decide +kernel
theorem dX4_line_114 : decode cX4_line 114 = .ok (.putfield 42, 3) := by decide +kernel
theorem dX4_line_117 : decode cX4_line 117 = .ok (.aload_n 0, 1) := by decide +kernel
theorem dX4_line_118 : decode cX4_line 118 = .ok (.getfield 42, 3) := by decide +kernel
theorem dX4_line_121 : decode cX4_line 121 = .ok (.iconst 1, 1) := by decide +kernel
theorem dX4_line_122 : decode cX4_line 122 = .ok (.isub, 1) := by decide +kernel
theorem dX4_line_123 : decode cX4_line 123 = .ok (.ireturn, 1) := by decide +kernel
set_option maxRecDepth 20000 in
theorem ggX4_drop_X4_isLine : GoodIn wsX4_drop wsX4_isLine := goodIn_r _ [10, 1, 11, 12, 9, 13, 14, 15, 16, 17, 18, 19, 20, 21, 22, 23, 24, 25] (by decide +kernel) (by decide +kernel)
set_option maxRecDepth 20000 in
theorem gX4_drop_X4_isLine : GoodIn wsX4_drop (wsV RX4 49 RX4 yX4_isLine wsX4_isLine) := goodIn_app (goodIn_of _ (by decide +kernel)) ggX4_drop_X4_isLine
theorem dX4_drop_0 : decode cX4_drop 0 = .ok (.aload_n 0, 1) := by decide +kernel
theorem dX4_drop_1 : decode cX4_drop 1 = .ok (.iload_n 1, 1) := by decide +kernel
theorem dX4_drop_2 : decode cX4_drop 2 = .ok (.invokevirtual 49, 3) := by decide +kernel
theorem dX4_drop_5 : decode cX4_drop 5 = .ok (.ifCond .ne 6, 3) := by decide +kernel
theorem dX4_drop_8 : decode cX4_drop 8 = .ok (.bipush (-2), 2) := by decide +kernel
theorem dX4_drop_10 : decode cX4_drop 10 = .ok (.ireturn, 1) := by decide +kernel
theorem dX4_drop_11 : decode cX4_drop 11 = .ok (.aload_n 0, 1) := by decide +kernel
theorem dX4_drop_12 : decode cX4_drop 12 = .ok (.dup, 1) := by decide +kernel
theorem dX4_drop_13 : decode cX4_drop 13 = .ok (.getfield 42, 3) := by decide +kernel
theorem dX4_drop_16 : decode cX4_drop 16 = .ok (.iconst 1, 1) := by decide +kernel
theorem dX4_drop_17 : decode cX4_drop 17 = .ok (.isub, 1) := by decide +kernel
theorem dX4_drop_18 : decode cX4_drop 18 = .ok (.putfield 42, 3) := by decide +kernel
theorem dX4_drop_21 : decode cX4_drop 21 = .ok (.iload_n 1, 1) := by decide +kernel
theorem dX4_drop_22 : decode cX4_drop 22 = .ok (.istore_n 2, 1) := by decide +kernel
theorem dX4_drop_23 : decode cX4_drop 23 = .ok (.iload_n 2, 1) := by decide +kernel
theorem dX4_drop_24 : decode cX4_drop 24 = .ok (.aload_n 0, 1) := by decide +kernel
theorem dX4_drop_25 : decode cX4_drop 25 = .ok (.getfield 42, 3) := by decide +kernel
theorem dX4_drop_28 : decode cX4_drop 28 = .ok (.if_icmp .ge 65, 3) := by decide +kernel
theorem dX4_drop_31 : decode cX4_drop 31 = .ok (.aload_n 0, 1) := by decide +kernel
theorem dX4_drop_32 : decode cX4_drop 32 = .ok (.getfield 13, 3) := by decide +kernel
theorem dX4_drop_35 : decode cX4_drop 35 = .ok (.iload_n 2, 1) := by decide +kernel
theorem dX4_drop_36 : decode cX4_drop 36 = .ok (.aload_n 0, 1) := by decide +kernel
theorem dX4_drop_37 : decode cX4_drop 37 = .ok (.getfield 13, 3) := by decide +kernel
theorem dX4_drop_40 : decode cX4_drop 40 = .ok (.iload_n 2, 1) := by decide +kernel
theorem dX4_drop_41 : decode cX4_drop 41 = .ok (.iconst 1, 1) := by decide +kernel
theorem dX4_drop_42 : decode cX4_drop 42 = .ok (.iadd, 1) := by decide +kernel
theorem dX4_drop_43 : decode cX4_drop 43 = .ok (.iaload, 1) := by decide +kernel
theorem dX4_drop_44 : decode cX4_drop 44 = .ok (.iastore, 1) := by decide +kernel
theorem dX4_drop_45 : decode cX4_drop 45 = .ok (.aload_n 0, 1) := by decide +kernel
theorem dX4_drop_46 : decode cX4_drop 46 = .ok (.getfield 17, 3) := by decide +kernel
theorem dX4_drop_49 : decode cX4_drop 49 = .ok (.iload_n 2, 1) := by decide +kernel
theorem dX4_drop_50 : decode cX4_drop 50 = .ok (.aload_n 0, 1) := by decide +kernel
theorem dX4_drop_51 : decode cX4_drop 51 = .ok (.getfield 17, 3) := by decide +kernel
theorem dX4_drop_54 : decode cX4_drop 54 = .ok (.iload_n 2, 1) := by decide +kernel
theorem dX4_drop_55 : decode cX4_drop 55 = .ok (.iconst 1, 1) := by decide +kernel
theorem dX4_drop_56 : decode cX4_drop 56 = .ok (.iadd, 1) := by decide +kernel
theorem dX4_drop_57 : decode cX4_drop 57 = .ok (.iaload, 1) := by decide +kernel
theorem dX4_drop_58 : decode cX4_drop 58 = .ok (.iastore, 1) := by decide +kernel
theorem dX4_drop_59 : decode cX4_drop 59 = .ok (.aload_n 0, 1) := by decide +kernel
theorem dX4_drop_60 : decode cX4_drop 60 = .ok (.getfield 20, 3) := by decide +kernel
theorem dX4_drop_63 : decode cX4_drop 63 = .ok (.iload_n 2, 1) := by decide +kernel
theorem dX4_drop_64 : decode cX4_drop 64 = .ok (.aload_n 0, 1) := by decide +kernel
theorem dX4_drop_65 : decode cX4_drop 65 = .ok (.getfield 20, 3) := by decide +kernel
theorem dX4_drop_68 : decode cX4_drop 68 = .ok (.iload_n 2, 1) := by decide +kernel
theorem dX4_drop_69 : decode cX4_drop 69 = .ok (.iconst 1, 1) := by decide +kernel
theorem dX4_drop_70 : decode cX4_drop 70 = .ok (.iadd, 1) := by decide +kernel
theorem dX4_drop_71 : decode cX4_drop 71 = .ok (.iaload, 1) := by decide +kernel
theorem dX4_drop_72 : decode cX4_drop 72 = .ok (.iastore, 1) := by decide +kernel
theorem dX4_drop_73 : decode cX4_drop 73 = .ok (.aload_n 0, 1) := by decide +kernel
theorem dX4_drop_74 : decode cX4_drop 74 = .ok (.getfield 23, 3) := by decide +kernel
theorem dX4_drop_77 : decode cX4_drop 77 = .ok (.iload_n 2, 1) := by decide +kernel
theorem dX4_drop_78 : decode cX4_drop 78 = .ok (.aload_n 0, 1) := by decide +kernel
theorem dX4_drop_79 : decode cX4_drop 79 = .ok (.getfield 23, 3) := by decide +kernel
theorem dX4_drop_82 : decode cX4_drop 82 = .ok (.iload_n 2, 1) := by decide +kernel
theorem dX4_drop_83 : decode cX4_drop 83 = .ok (.iconst 1, 1) := by decide +kernel
theorem dX4_drop_84 : decode cX4_drop 84 = .ok (.iadd, 1) := by decide +kernel
theorem dX4_drop_85 : decode cX4_drop 85 = .ok (.iaload, 1) := by decide +kernel
theorem dX4_drop_86 : decode cX4_drop 86 = .ok (.iastore, 1) := by decide +kernel
theorem dX4_drop_87 : decode cX4_drop 87 = .ok (.iinc 2 1, 3) := by decide +kernel
theorem dX4_drop_90 : decode cX4_drop 90 = .ok (.goto (-67), 3) := by decide +kernel
theorem dX4_drop_93 : decode cX4_drop 93 = .ok (.iconst 1, 1) := by decide +kernel
theorem dX4_drop_94 : decode cX4_drop 94 = .ok (.ireturn, 1) := by decide +kernel
set_option maxRecDepth 20000 in
theorem ggX4_keep_X4_isLine : GoodIn wsX4_keep wsX4_isLine := goodIn_r _ [6, 7, 8, 9, 5, 10, 11, 12, 13, 14, 15, 16, 17, 18, 19, 20, 21, 22] (by decide +kernel) (by decide +kernel)
set_option maxRecDepth 20000 in
theorem gX4_keep_X4_isLine : GoodIn wsX4_keep (wsV RX4 49 RX4 yX4_isLine wsX4_isLine) := goodIn_app (goodIn_of _ (by decide +kernel)) ggX4_keep_X4_isLine
set_option maxRecDepth 20000 in
theorem ggX4_keep_X4_in : GoodIn wsX4_keep wsX4_in := goodIn_r _ [10] (by decide +kernel) (by decide +kernel)
set_option maxRecDepth 20000 in
theorem gX4_keep_X4_in : GoodIn wsX4_keep (va_wsS RX4 38 yX4_in wsX4_in) := goodIn_app (goodIn_of _ (by decide +kernel)) ggX4_keep_X4_in
theorem dX4_keep_0 : decode cX4_keep 0 = .ok (.aload_n 0, 1) := by decide +kernel
theorem dX4_keep_1 : decode cX4_keep 1 = .ok (.iload_n 1, 1) := by decide +kernel
theorem dX4_keep_2 : decode cX4_keep 2 = .ok (.invokevirtual 49, 3) := by decide +kernel
theorem dX4_keep_5 : decode cX4_keep 5 = .ok (.ifCond .ne 6, 3) := by decide +kernel
theorem dX4_keep_8 : decode cX4_keep 8 = .ok (.bipush (-2), 2) := by decide +kernel
theorem dX4_keep_10 : decode cX4_keep 10 = .ok (.ireturn, 1) := by decide +kernel
theorem dX4_keep_11 : decode cX4_keep 11 = .ok (.iload_n 2, 1) := by decide +kernel
theorem dX4_keep_12 : decode cX4_keep 12 = .ok (.iconst 0, 1) := by decide +kernel
theorem dX4_keep_13 : decode cX4_keep 13 = .ok (.bipush 60, 2) := by decide +kernel
theorem dX4_keep_15 : decode cX4_keep 15 = .ok (.invokestatic 38, 3) := by decide +kernel
theorem dX4_keep_18 : decode cX4_keep 18 = .ok (.ifCond .ne 6, 3) := by decide +kernel
theorem dX4_keep_21 : decode cX4_keep 21 = .ok (.bipush (-3), 2) := by decide +kernel
theorem dX4_keep_23 : decode cX4_keep 23 = .ok (.ireturn, 1) := by decide +kernel
theorem dX4_keep_24 : decode cX4_keep 24 = .ok (.aload_n 0, 1) := by decide +kernel
theorem dX4_keep_25 : decode cX4_keep 25 = .ok (.getfield 23, 3) := by decide +kernel
theorem dX4_keep_28 : decode cX4_keep 28 = .ok (.iload_n 1, 1) := by decide +kernel
theorem dX4_keep_29 : decode cX4_keep 29 = .ok (.iaload, 1) := by decide +kernel
theorem dX4_keep_30 : decode cX4_keep 30 = .ok (.istore_n 3, 1) := by decide +kernel
theorem dX4_keep_31 : decode cX4_keep 31 = .ok (.aload_n 0, 1) := by decide +kernel
theorem dX4_keep_32 : decode cX4_keep 32 = .ok (.getfield 23, 3) := by decide +kernel
theorem dX4_keep_35 : decode cX4_keep 35 = .ok (.iload_n 1, 1) := by decide +kernel
theorem dX4_keep_36 : decode cX4_keep 36 = .ok (.iload_n 2, 1) := by decide +kernel
theorem dX4_keep_37 : decode cX4_keep 37 = .ok (.iastore, 1) := by decide +kernel
theorem dX4_keep_38 : decode cX4_keep 38 = .ok (.iload_n 3, 1) := by decide +kernel
theorem dX4_keep_39 : decode cX4_keep 39 = .ok (.ireturn, 1) := by decide +kernel
set_option maxRecDepth 20000 in
theorem ggX4_at_X4_isLine : GoodIn wsX4_at wsX4_isLine := goodIn_r _ [10, 11, 12, 13, 9, 14, 29, 30, 31, 32, 33, 34, 35, 36, 37, 38, 39, 40] (by decide +kernel) (by decide +kernel)
set_option maxRecDepth 20000 in
theorem gX4_at_X4_isLine : GoodIn wsX4_at (wsV RX4 49 RX4 yX4_isLine wsX4_isLine) := goodIn_app (goodIn_of _ (by decide +kernel)) ggX4_at_X4_isLine
set_option maxRecDepth 20000 in
theorem ggX4_at_X4_findForests : GoodIn wsX4_at wsX4_findForests := goodIn_r _ [18, 11, 1, 19, 20, 21, 9, 22, 23, 24, 25, 26, 27, 2, 3, 28, 29, 30, 31, 32, 33, 34, 35, 36, 37, 38, 39, 40] (by decide +kernel) (by decide +kernel)
set_option maxRecDepth 20000 in
theorem gX4_at_X4_findForests : GoodIn wsX4_at (wsV RX4 52 RX4 yX4_findForests wsX4_findForests) := goodIn_app (goodIn_of _ (by decide +kernel)) ggX4_at_X4_findForests
theorem dX4_at_0 : decode cX4_at 0 = .ok (.aload_n 0, 1) := by decide +kernel
theorem dX4_at_1 : decode cX4_at 1 = .ok (.iload_n 1, 1) := by decide +kernel
theorem dX4_at_2 : decode cX4_at 2 = .ok (.invokevirtual 49, 3) := by decide +kernel
theorem dX4_at_5 : decode cX4_at 5 = .ok (.ifCond .ne 6, 3) := by decide +kernel
theorem dX4_at_8 : decode cX4_at 8 = .ok (.bipush (-2), 2) := by decide +kernel
theorem dX4_at_10 : decode cX4_at 10 = .ok (.ireturn, 1) := by decide +kernel
theorem dX4_at_11 : decode cX4_at 11 = .ok (.iload_n 2, 1) := by decide +kernel
theorem dX4_at_12 : decode cX4_at 12 = .ok (.iconst 4, 1) := by decide +kernel
theorem dX4_at_13 : decode cX4_at 13 = .ok (.if_icmp .ne 15, 3) := by decide +kernel
theorem dX4_at_16 : decode cX4_at 16 = .ok (.aload_n 0, 1) := by decide +kernel
theorem dX4_at_17 : decode cX4_at 17 = .ok (.invokevirtual 52, 3) := by decide +kernel
theorem dX4_at_20 : decode cX4_at 20 = .ok (.pop, 1) := by decide +kernel
theorem dX4_at_21 : decode cX4_at 21 = .ok (.aload_n 0, 1) := by decide +kernel
theorem dX4_at_22 : decode cX4_at 22 = .ok (.getfield 26, 3) := by decide +kernel
theorem dX4_at_25 : decode cX4_at 25 = .ok (.iload_n 1, 1) := by decide +kernel
theorem dX4_at_26 : decode cX4_at 26 = .ok (.iaload, 1) := by decide +kernel
theorem dX4_at_27 : decode cX4_at 27 = .ok (.ireturn, 1) := by decide +kernel
theorem dX4_at_28 : decode cX4_at 28 = .ok (.iload_n 2, 1) := by decide +kernel
theorem dX4_at_29 : decode cX4_at 29 = .ok (.ifCond .ne 12, 3) := by decide +kernel
theorem dX4_at_32 : decode cX4_at 32 = .ok (.aload_n 0, 1) := by decide +kernel
theorem dX4_at_33 : decode cX4_at 33 = .ok (.getfield 13, 3) := by decide +kernel
theorem dX4_at_36 : decode cX4_at 36 = .ok (.iload_n 1, 1) := by decide +kernel
theorem dX4_at_37 : decode cX4_at 37 = .ok (.iaload, 1) := by decide +kernel
theorem dX4_at_38 : decode cX4_at 38 = .ok (.goto 47, 3) := by decide +kernel
theorem dX4_at_41 : decode cX4_at 41 = .ok (.iload_n 2, 1) := by decide +kernel
theorem dX4_at_42 : decode cX4_at 42 = .ok (.iconst 1, 1) := by decide +kernel
theorem dX4_at_43 : decode cX4_at 43 = .ok (.if_icmp .ne 12, 3) := by decide +kernel
theorem dX4_at_46 : decode cX4_at 46 = .ok (.aload_n 0, 1) := by decide +kernel
theorem dX4_at_47 : decode cX4_at 47 = .ok (.getfield 17, 3) := by decide +kernel
theorem dX4_at_50 : decode cX4_at 50 = .ok (.iload_n 1, 1) := by decide +kernel
theorem dX4_at_51 : decode cX4_at 51 = .ok (.iaload, 1) := by decide +kernel
theorem dX4_at_52 : decode cX4_at 52 = .ok (.goto 33, 3) := by decide +kernel
theorem dX4_at_55 : decode cX4_at 55 = .ok (.iload_n 2, 1) := by decide +kernel
theorem dX4_at_56 : decode cX4_at 56 = .ok (.iconst 2, 1) := by decide +kernel
theorem dX4_at_57 : decode cX4_at 57 = .ok (.if_icmp .ne 12, 3) := by decide +kernel
theorem dX4_at_60 : decode cX4_at 60 = .ok (.aload_n 0, 1) := by decide +kernel
theorem dX4_at_61 : decode cX4_at 61 = .ok (.getfield 20, 3) := by decide +kernel
theorem dX4_at_64 : decode cX4_at 64 = .ok (.iload_n 1, 1) := by decide +kernel
theorem dX4_at_65 : decode cX4_at 65 = .ok (.iaload, 1) := by decide +kernel
theorem dX4_at_66 : decode cX4_at 66 = .ok (.goto 19, 3) := by decide +kernel
theorem dX4_at_69 : decode cX4_at 69 = .ok (.iload_n 2, 1) := by decide +kernel
theorem dX4_at_70 : decode cX4_at 70 = .ok (.iconst 3, 1) := by decide +kernel
theorem dX4_at_71 : decode cX4_at 71 = .ok (.if_icmp .ne 12, 3) := by decide +kernel
theorem dX4_at_74 : decode cX4_at 74 = .ok (.aload_n 0, 1) := by decide +kernel
theorem dX4_at_75 : decode cX4_at 75 = .ok (.getfield 23, 3) := by decide +kernel
theorem dX4_at_78 : decode cX4_at 78 = .ok (.iload_n 1, 1) := by decide +kernel
theorem dX4_at_79 : decode cX4_at 79 = .ok (.iaload, 1) := by decide +kernel
theorem dX4_at_80 : decode cX4_at 80 = .ok (.goto 5, 3) := by decide +kernel
theorem dX4_at_83 : decode cX4_at 83 = .ok (.bipush (-3), 2) := by decide +kernel
theorem dX4_at_85 : decode cX4_at 85 = .ok (.ireturn, 1) := by decide +kernel
theorem dX4_cutOf_0 : decode cX4_cutOf 0 = .ok (.iconst 0, 1) := by decide +kernel
theorem dX4_cutOf_1 : decode cX4_cutOf 1 = .ok (.istore_n 3, 1) := by decide +kernel
theorem dX4_cutOf_2 : decode cX4_cutOf 2 = .ok (.iconst 0, 1) := by decide +kernel
theorem dX4_cutOf_3 : decode cX4_cutOf 3 = .ok (.istore 4, 2) := by decide +kernel
theorem dX4_cutOf_5 : decode cX4_cutOf 5 = .ok (.iload 4, 2) := by decide +kernel
theorem dX4_cutOf_7 : decode cX4_cutOf 7 = .ok (.aload_n 0, 1) := by decide +kernel
theorem dX4_cutOf_8 : decode cX4_cutOf 8 = .ok (.getfield 42, 3) := by decide +kernel
theorem dX4_cutOf_11 : decode cX4_cutOf 11 = .ok (.if_icmp .ge 74, 3) := by decide +kernel
theorem dX4_cutOf_14 : decode cX4_cutOf 14 = .ok (.iload_n 1, 1) := by decide +kernel
theorem dX4_cutOf_15 : decode cX4_cutOf 15 = .ok (.aload_n 0, 1) := by decide +kernel
theorem dX4_cutOf_16 : decode cX4_cutOf 16 = .ok (.getfield 13, 3) := by decide +kernel
theorem dX4_cutOf_19 : decode cX4_cutOf 19 = .ok (.iload 4, 2) := by decide +kernel
theorem dX4_cutOf_21 : decode cX4_cutOf 21 = .ok (.iaload, 1) := by decide +kernel
theorem dX4_cutOf_22 : decode cX4_cutOf 22 = .ok (.ishr, 1) := by decide +kernel
theorem dX4_cutOf_23 : decode cX4_cutOf 23 = .ok (.iconst 1, 1) := by decide +kernel
theorem dX4_cutOf_24 : decode cX4_cutOf 24 = .ok (.iand, 1) := by decide +kernel
theorem dX4_cutOf_25 : decode cX4_cutOf 25 = .ok (.iload_n 1, 1) := by decide +kernel
theorem dX4_cutOf_26 : decode cX4_cutOf 26 = .ok (.aload_n 0, 1) := by decide +kernel
theorem dX4_cutOf_27 : decode cX4_cutOf 27 = .ok (.getfield 17, 3) := by decide +kernel
theorem dX4_cutOf_30 : decode cX4_cutOf 30 = .ok (.iload 4, 2) := by decide +kernel
theorem dX4_cutOf_32 : decode cX4_cutOf 32 = .ok (.iaload, 1) := by decide +kernel
theorem dX4_cutOf_33 : decode cX4_cutOf 33 = .ok (.ishr, 1) := by decide +kernel
theorem dX4_cutOf_34 : decode cX4_cutOf 34 = .ok (.iconst 1, 1) := by decide +kernel
theorem dX4_cutOf_35 : decode cX4_cutOf 35 = .ok (.iand, 1) := by decide +kernel
theorem dX4_cutOf_36 : decode cX4_cutOf 36 = .ok (.if_icmp .eq 7, 3) := by decide +kernel
theorem dX4_cutOf_39 : decode cX4_cutOf 39 = .ok (.iconst 1, 1) := by decide +kernel
theorem dX4_cutOf_40 : decode cX4_cutOf 40 = .ok (.goto 4, 3) := by decide +kernel
theorem dX4_cutOf_43 : decode cX4_cutOf 43 = .ok (.iconst 0, 1) := by decide +kernel
theorem dX4_cutOf_44 : decode cX4_cutOf 44 = .ok (.istore 5, 2) := by decide +kernel
theorem dX4_cutOf_46 : decode cX4_cutOf 46 = .ok (.iload_n 3, 1) := by decide +kernel
theorem dX4_cutOf_47 : decode cX4_cutOf 47 = .ok (.iload 5, 2) := by decide +kernel
theorem dX4_cutOf_49 : decode cX4_cutOf 49 = .ok (.ifCond .ne 7, 3) := by decide +kernel
theorem dX4_cutOf_52 : decode cX4_cutOf 52 = .ok (.iconst 0, 1) := by decide +kernel
theorem dX4_cutOf_53 : decode cX4_cutOf 53 = .ok (.goto 24, 3) := by decide +kernel
theorem dX4_cutOf_56 : decode cX4_cutOf 56 = .ok (.iload_n 2, 1) := by decide +kernel
theorem dX4_cutOf_57 : decode cX4_cutOf 57 = .ok (.ifCond .ne 13, 3) := by decide +kernel
theorem dX4_cutOf_60 : decode cX4_cutOf 60 = .ok (.aload_n 0, 1) := by decide +kernel
theorem dX4_cutOf_61 : decode cX4_cutOf 61 = .ok (.getfield 20, 3) := by decide +kernel
theorem dX4_cutOf_64 : decode cX4_cutOf 64 = .ok (.iload 4, 2) := by decide +kernel
theorem dX4_cutOf_66 : decode cX4_cutOf 66 = .ok (.iaload, 1) := by decide +kernel
theorem dX4_cutOf_67 : decode cX4_cutOf 67 = .ok (.goto 10, 3) := by decide +kernel
theorem dX4_cutOf_70 : decode cX4_cutOf 70 = .ok (.aload_n 0, 1) := by decide +kernel
theorem dX4_cutOf_71 : decode cX4_cutOf 71 = .ok (.getfield 23, 3) := by decide +kernel
theorem dX4_cutOf_74 : decode cX4_cutOf 74 = .ok (.iload 4, 2) := by decide +kernel
theorem dX4_cutOf_76 : decode cX4_cutOf 76 = .ok (.iaload, 1) := by decide +kernel
theorem dX4_cutOf_77 : decode cX4_cutOf 77 = .ok (.iadd, 1) := by decide +kernel
theorem dX4_cutOf_78 : decode cX4_cutOf 78 = .ok (.istore_n 3, 1) := by decide +kernel
theorem dX4_cutOf_79 : decode cX4_cutOf 79 = .ok (.iinc 4 1, 3) := by decide +kernel
theorem dX4_cutOf_82 : decode cX4_cutOf 82 = .ok (.goto (-77), 3) := by decide +kernel
theorem dX4_cutOf_85 : decode cX4_cutOf 85 = .ok (.iload_n 3, 1) := by decide +kernel
theorem dX4_cutOf_86 : decode cX4_cutOf 86 = .ok (.ireturn, 1) := by decide +kernel
set_option maxRecDepth 20000 in
theorem ggX4_isSide_X4_in : GoodIn wsX4_isSide wsX4_in := goodIn_r _ [5] (by decide +kernel) (by decide +kernel)
set_option maxRecDepth 20000 in
theorem gX4_isSide_X4_in : GoodIn wsX4_isSide (va_wsS RX4 38 yX4_in wsX4_in) := goodIn_app (goodIn_of _ (by decide +kernel)) ggX4_isSide_X4_in
theorem dX4_isSide_0 : decode cX4_isSide 0 = .ok (.iload_n 1, 1) := by decide +kernel
theorem dX4_isSide_1 : decode cX4_isSide 1 = .ok (.iconst 1, 1) := by decide +kernel
theorem dX4_isSide_2 : decode cX4_isSide 2 = .ok (.iconst 1, 1) := by decide +kernel
theorem dX4_isSide_3 : decode cX4_isSide 3 = .ok (.aload_n 0, 1) := by decide +kernel
theorem dX4_isSide_4 : decode cX4_isSide 4 = .ok (.getfield 7, 3) := by decide +kernel
theorem dX4_isSide_7 : decode cX4_isSide 7 = .ok (.ishl, 1) := by decide +kernel
theorem dX4_isSide_8 : decode cX4_isSide 8 = .ok (.iconst 2, 1) := by decide +kernel
theorem dX4_isSide_9 : decode cX4_isSide 9 = .ok (.isub, 1) := by decide +kernel
theorem dX4_isSide_10 : decode cX4_isSide 10 = .ok (.invokestatic 38, 3) := by decide +kernel
theorem dX4_isSide_13 : decode cX4_isSide 13 = .ok (.ifCond .eq 14, 3) := by decide +kernel
theorem dX4_isSide_16 : decode cX4_isSide 16 = .ok (.iload_n 1, 1) := by decide +kernel
theorem dX4_isSide_17 : decode cX4_isSide 17 = .ok (.iconst 2, 1) := by decide +kernel
theorem dX4_isSide_18 : decode cX4_isSide 18 = .ok (.irem, 1) := by decide +kernel
theorem dX4_isSide_19 : decode cX4_isSide 19 = .ok (.iconst 1, 1) := by decide +kernel
theorem dX4_isSide_20 : decode cX4_isSide 20 = .ok (.if_icmp .ne 7, 3) := by decide +kernel
theorem dX4_isSide_23 : decode cX4_isSide 23 = .ok (.iconst 1, 1) := by decide +kernel
theorem dX4_isSide_24 : decode cX4_isSide 24 = .ok (.goto 4, 3) := by decide +kernel
theorem dX4_isSide_27 : decode cX4_isSide 27 = .ok (.iconst 0, 1) := by decide +kernel
theorem dX4_isSide_28 : decode cX4_isSide 28 = .ok (.ireturn, 1) := by decide +kernel
set_option maxRecDepth 20000 in
theorem ggX4_cut_X4_isSide : GoodIn wsX4_cut wsX4_isSide := goodIn_r _ [5, 6, 7, 8, 4, 9, 19, 20, 21, 22, 23, 24, 25, 26, 27, 28, 29, 30] (by decide +kernel) (by decide +kernel)
set_option maxRecDepth 20000 in
theorem gX4_cut_X4_isSide : GoodIn wsX4_cut (wsV RX4 56 RX4 yX4_isSide wsX4_isSide) := goodIn_app (goodIn_of _ (by decide +kernel)) ggX4_cut_X4_isSide
set_option maxRecDepth 20000 in
theorem ggX4_cut_X4_in : GoodIn wsX4_cut wsX4_in := goodIn_r _ [9] (by decide +kernel) (by decide +kernel)
set_option maxRecDepth 20000 in
theorem gX4_cut_X4_in : GoodIn wsX4_cut (va_wsS RX4 38 yX4_in wsX4_in) := goodIn_app (goodIn_of _ (by decide +kernel)) ggX4_cut_X4_in
set_option maxRecDepth 20000 in
theorem ggX4_cut_X4_cutOf : GoodIn wsX4_cut wsX4_cutOf := goodIn_r _ [13, 14, 15, 16, 17, 18, 19, 20, 21, 22, 23, 24, 25, 26, 27, 28, 29, 30] (by decide +kernel) (by decide +kernel)
set_option maxRecDepth 20000 in
theorem gX4_cut_X4_cutOf : GoodIn wsX4_cut (wsV RX4 59 RX4 yX4_cutOf wsX4_cutOf) := goodIn_app (goodIn_of _ (by decide +kernel)) ggX4_cut_X4_cutOf
theorem dX4_cut_0 : decode cX4_cut 0 = .ok (.aload_n 0, 1) := by decide +kernel
theorem dX4_cut_1 : decode cX4_cut 1 = .ok (.iload_n 1, 1) := by decide +kernel
theorem dX4_cut_2 : decode cX4_cut 2 = .ok (.invokevirtual 56, 3) := by decide +kernel
theorem dX4_cut_5 : decode cX4_cut 5 = .ok (.ifCond .eq 21, 3) := by decide +kernel
theorem dX4_cut_8 : decode cX4_cut 8 = .ok (.iload_n 2, 1) := by decide +kernel
theorem dX4_cut_9 : decode cX4_cut 9 = .ok (.iconst 0, 1) := by decide +kernel
theorem dX4_cut_10 : decode cX4_cut 10 = .ok (.iconst 1, 1) := by decide +kernel
theorem dX4_cut_11 : decode cX4_cut 11 = .ok (.invokestatic 38, 3) := by decide +kernel
theorem dX4_cut_14 : decode cX4_cut 14 = .ok (.ifCond .eq 12, 3) := by decide +kernel
theorem dX4_cut_17 : decode cX4_cut 17 = .ok (.aload_n 0, 1) := by decide +kernel
theorem dX4_cut_18 : decode cX4_cut 18 = .ok (.iload_n 1, 1) := by decide +kernel
theorem dX4_cut_19 : decode cX4_cut 19 = .ok (.iload_n 2, 1) := by decide +kernel
theorem dX4_cut_20 : decode cX4_cut 20 = .ok (.invokevirtual 59, 3) := by decide +kernel
theorem dX4_cut_23 : decode cX4_cut 23 = .ok (.goto 5, 3) := by decide +kernel
theorem dX4_cut_26 : decode cX4_cut 26 = .ok (.bipush (-3), 2) := by decide +kernel
theorem dX4_cut_28 : decode cX4_cut 28 = .ok (.ireturn, 1) := by decide +kernel
set_option maxRecDepth 20000 in
theorem ggX4_worst_X4_in : GoodIn wsX4_worst wsX4_in := goodIn_r _ [5] (by decide +kernel) (by decide +kernel)
set_option maxRecDepth 20000 in
theorem gX4_worst_X4_in : GoodIn wsX4_worst (va_wsS RX4 38 yX4_in wsX4_in) := goodIn_app (goodIn_of _ (by decide +kernel)) ggX4_worst_X4_in
set_option maxRecDepth 20000 in
theorem ggX4_worst_X4_cutOf : GoodIn wsX4_worst wsX4_cutOf := goodIn_r _ [9, 10, 11, 12, 13, 14, 15, 16, 17, 18, 19, 20, 21, 22, 23, 24, 25, 26] (by decide +kernel) (by decide +kernel)
set_option maxRecDepth 20000 in
theorem gX4_worst_X4_cutOf : GoodIn wsX4_worst (wsV RX4 59 RX4 yX4_cutOf wsX4_cutOf) := goodIn_app (goodIn_of _ (by decide +kernel)) ggX4_worst_X4_cutOf
theorem dX4_worst_0 : decode cX4_worst 0 = .ok (.iload_n 1, 1) := by decide +kernel
theorem dX4_worst_1 : decode cX4_worst 1 = .ok (.iconst 0, 1) := by decide +kernel
theorem dX4_worst_2 : decode cX4_worst 2 = .ok (.iconst 1, 1) := by decide +kernel
theorem dX4_worst_3 : decode cX4_worst 3 = .ok (.invokestatic 38, 3) := by decide +kernel
theorem dX4_worst_6 : decode cX4_worst 6 = .ok (.ifCond .ne 6, 3) := by decide +kernel
theorem dX4_worst_9 : decode cX4_worst 9 = .ok (.bipush (-3), 2) := by decide +kernel
theorem dX4_worst_11 : decode cX4_worst 11 = .ok (.ireturn, 1) := by decide +kernel
theorem dX4_worst_12 : decode cX4_worst 12 = .ok (.iconst (-1), 1) := by decide +kernel
theorem dX4_worst_13 : decode cX4_worst 13 = .ok (.istore_n 2, 1) := by decide +kernel
theorem dX4_worst_14 : decode cX4_worst 14 = .ok (.iconst 1, 1) := by decide +kernel
theorem dX4_worst_15 : decode cX4_worst 15 = .ok (.istore_n 3, 1) := by decide +kernel
theorem dX4_worst_16 : decode cX4_worst 16 = .ok (.iload_n 3, 1) := by decide +kernel
theorem dX4_worst_17 : decode cX4_worst 17 = .ok (.iconst 1, 1) := by decide +kernel
theorem dX4_worst_18 : decode cX4_worst 18 = .ok (.aload_n 0, 1) := by decide +kernel
theorem dX4_worst_19 : decode cX4_worst 19 = .ok (.getfield 7, 3) := by decide +kernel
theorem dX4_worst_22 : decode cX4_worst 22 = .ok (.ishl, 1) := by decide +kernel
theorem dX4_worst_23 : decode cX4_worst 23 = .ok (.iconst 1, 1) := by decide +kernel
theorem dX4_worst_24 : decode cX4_worst 24 = .ok (.isub, 1) := by decide +kernel
theorem dX4_worst_25 : decode cX4_worst 25 = .ok (.if_icmp .ge 86, 3) := by decide +kernel
theorem dX4_worst_28 : decode cX4_worst 28 = .ok (.aload_n 0, 1) := by decide +kernel
theorem dX4_worst_29 : decode cX4_worst 29 = .ok (.iload_n 3, 1) := by decide +kernel
theorem dX4_worst_30 : decode cX4_worst 30 = .ok (.iconst 0, 1) := by decide +kernel
theorem dX4_worst_31 : decode cX4_worst 31 = .ok (.invokevirtual 59, 3) := by decide +kernel
theorem dX4_worst_34 : decode cX4_worst 34 = .ok (.ifCond .le 71, 3) := by decide +kernel
theorem dX4_worst_37 : decode cX4_worst 37 = .ok (.iload_n 2, 1) := by decide +kernel
theorem dX4_worst_38 : decode cX4_worst 38 = .ok (.iconst (-1), 1) := by decide +kernel
theorem dX4_worst_39 : decode cX4_worst 39 = .ok (.if_icmp .ne 7, 3) := by decide +kernel
theorem dX4_worst_42 : decode cX4_worst 42 = .ok (.iconst 0, 1) := by decide +kernel
theorem dX4_worst_43 : decode cX4_worst 43 = .ok (.goto 30, 3) := by decide +kernel
theorem dX4_worst_46 : decode cX4_worst 46 = .ok (.aload_n 0, 1) := by decide +kernel
theorem dX4_worst_47 : decode cX4_worst 47 = .ok (.iload_n 3, 1) := by decide +kernel
theorem dX4_worst_48 : decode cX4_worst 48 = .ok (.iconst 1, 1) := by decide +kernel
theorem dX4_worst_49 : decode cX4_worst 49 = .ok (.invokevirtual 59, 3) := by decide +kernel
theorem dX4_worst_52 : decode cX4_worst 52 = .ok (.aload_n 0, 1) := by decide +kernel
theorem dX4_worst_53 : decode cX4_worst 53 = .ok (.iload_n 2, 1) := by decide +kernel
theorem dX4_worst_54 : decode cX4_worst 54 = .ok (.iconst 0, 1) := by decide +kernel
theorem dX4_worst_55 : decode cX4_worst 55 = .ok (.invokevirtual 59, 3) := by decide +kernel
theorem dX4_worst_58 : decode cX4_worst 58 = .ok (.imul, 1) := by decide +kernel
theorem dX4_worst_59 : decode cX4_worst 59 = .ok (.aload_n 0, 1) := by decide +kernel
theorem dX4_worst_60 : decode cX4_worst 60 = .ok (.iload_n 2, 1) := by decide +kernel
theorem dX4_worst_61 : decode cX4_worst 61 = .ok (.iconst 1, 1) := by decide +kernel
theorem dX4_worst_62 : decode cX4_worst 62 = .ok (.invokevirtual 59, 3) := by decide +kernel
theorem dX4_worst_65 : decode cX4_worst 65 = .ok (.aload_n 0, 1) := by decide +kernel
theorem dX4_worst_66 : decode cX4_worst 66 = .ok (.iload_n 3, 1) := by decide +kernel
theorem dX4_worst_67 : decode cX4_worst 67 = .ok (.iconst 0, 1) := by decide +kernel
theorem dX4_worst_68 : decode cX4_worst 68 = .ok (.invokevirtual 59, 3) := by decide +kernel
theorem dX4_worst_71 : decode cX4_worst 71 = .ok (.imul, 1) := by decide +kernel
theorem dX4_worst_72 : decode cX4_worst 72 = .ok (.isub, 1) := by decide +kernel
theorem dX4_worst_73 : decode cX4_worst 73 = .ok (.istore 4, 2) := by decide +kernel
theorem dX4_worst_75 : decode cX4_worst 75 = .ok (.iload_n 2, 1) := by decide +kernel
theorem dX4_worst_76 : decode cX4_worst 76 = .ok (.iconst (-1), 1) := by decide +kernel
theorem dX4_worst_77 : decode cX4_worst 77 = .ok (.if_icmp .eq 22, 3) := by decide +kernel
theorem dX4_worst_80 : decode cX4_worst 80 = .ok (.iload_n 1, 1) := by decide +kernel
theorem dX4_worst_81 : decode cX4_worst 81 = .ok (.ifCond .ne 8, 3) := by decide +kernel
theorem dX4_worst_84 : decode cX4_worst 84 = .ok (.iload 4, 2) := by decide +kernel
theorem dX4_worst_86 : decode cX4_worst 86 = .ok (.ifCond .lt 13, 3) := by decide +kernel
theorem dX4_worst_89 : decode cX4_worst 89 = .ok (.iload_n 1, 1) := by decide +kernel
theorem dX4_worst_90 : decode cX4_worst 90 = .ok (.iconst 1, 1) := by decide +kernel
theorem dX4_worst_91 : decode cX4_worst 91 = .ok (.if_icmp .ne 12, 3) := by decide +kernel
theorem dX4_worst_94 : decode cX4_worst 94 = .ok (.iload 4, 2) := by decide +kernel
theorem dX4_worst_96 : decode cX4_worst 96 = .ok (.ifCond .le 7, 3) := by decide +kernel
theorem dX4_worst_99 : decode cX4_worst 99 = .ok (.iload_n 3, 1) := by decide +kernel
theorem dX4_worst_100 : decode cX4_worst 100 = .ok (.goto 4, 3) := by decide +kernel
theorem dX4_worst_103 : decode cX4_worst 103 = .ok (.iload_n 2, 1) := by decide +kernel
theorem dX4_worst_104 : decode cX4_worst 104 = .ok (.istore_n 2, 1) := by decide +kernel
theorem dX4_worst_105 : decode cX4_worst 105 = .ok (.iinc 3 2, 3) := by decide +kernel
theorem dX4_worst_108 : decode cX4_worst 108 = .ok (.goto (-92), 3) := by decide +kernel
theorem dX4_worst_111 : decode cX4_worst 111 = .ok (.iload_n 2, 1) := by decide +kernel
theorem dX4_worst_112 : decode cX4_worst 112 = .ok (.ireturn, 1) := by decide +kernel
set_option maxRecDepth 20000 in
theorem ggX4_promise_X4_in : GoodIn wsX4_promise wsX4_in := goodIn_r _ [5] (by decide +kernel) (by decide +kernel)
set_option maxRecDepth 20000 in
theorem gX4_promise_X4_in : GoodIn wsX4_promise (va_wsS RX4 38 yX4_in wsX4_in) := goodIn_app (goodIn_of _ (by decide +kernel)) ggX4_promise_X4_in
set_option maxRecDepth 20000 in
theorem ggX4_promise_X4_cutOf : GoodIn wsX4_promise wsX4_cutOf := goodIn_r _ [9, 10, 11, 12, 13, 14, 15, 16, 17, 18, 19, 20, 21, 22, 23, 24, 25, 26] (by decide +kernel) (by decide +kernel)
set_option maxRecDepth 20000 in
theorem gX4_promise_X4_cutOf : GoodIn wsX4_promise (wsV RX4 59 RX4 yX4_cutOf wsX4_cutOf) := goodIn_app (goodIn_of _ (by decide +kernel)) ggX4_promise_X4_cutOf
theorem dX4_promise_0 : decode cX4_promise 0 = .ok (.iload_n 2, 1) := by decide +kernel
theorem dX4_promise_1 : decode cX4_promise 1 = .ok (.iconst 1, 1) := by decide +kernel
theorem dX4_promise_2 : decode cX4_promise 2 = .ok (.bipush 20, 2) := by decide +kernel
theorem dX4_promise_4 : decode cX4_promise 4 = .ok (.invokestatic 38, 3) := by decide +kernel
theorem dX4_promise_7 : decode cX4_promise 7 = .ok (.ifCond .eq 12, 3) := by decide +kernel
theorem dX4_promise_10 : decode cX4_promise 10 = .ok (.iload_n 1, 1) := by decide +kernel
theorem dX4_promise_11 : decode cX4_promise 11 = .ok (.iconst 1, 1) := by decide +kernel
theorem dX4_promise_12 : decode cX4_promise 12 = .ok (.iload_n 2, 1) := by decide +kernel
theorem dX4_promise_13 : decode cX4_promise 13 = .ok (.invokestatic 38, 3) := by decide +kernel
theorem dX4_promise_16 : decode cX4_promise 16 = .ok (.ifCond .ne 6, 3) := by decide +kernel
theorem dX4_promise_19 : decode cX4_promise 19 = .ok (.bipush (-3), 2) := by decide +kernel
theorem dX4_promise_21 : decode cX4_promise 21 = .ok (.ireturn, 1) := by decide +kernel
theorem dX4_promise_22 : decode cX4_promise 22 = .ok (.iconst 1, 1) := by decide +kernel
theorem dX4_promise_23 : decode cX4_promise 23 = .ok (.istore_n 3, 1) := by decide +kernel
theorem dX4_promise_24 : decode cX4_promise 24 = .ok (.iconst 1, 1) := by decide +kernel
theorem dX4_promise_25 : decode cX4_promise 25 = .ok (.istore 4, 2) := by decide +kernel
theorem dX4_promise_27 : decode cX4_promise 27 = .ok (.iload 4, 2) := by decide +kernel
theorem dX4_promise_29 : decode cX4_promise 29 = .ok (.iconst 1, 1) := by decide +kernel
theorem dX4_promise_30 : decode cX4_promise 30 = .ok (.aload_n 0, 1) := by decide +kernel
theorem dX4_promise_31 : decode cX4_promise 31 = .ok (.getfield 7, 3) := by decide +kernel
theorem dX4_promise_34 : decode cX4_promise 34 = .ok (.ishl, 1) := by decide +kernel
theorem dX4_promise_35 : decode cX4_promise 35 = .ok (.iconst 1, 1) := by decide +kernel
theorem dX4_promise_36 : decode cX4_promise 36 = .ok (.isub, 1) := by decide +kernel
theorem dX4_promise_37 : decode cX4_promise 37 = .ok (.if_icmp .ge 62, 3) := by decide +kernel
theorem dX4_promise_40 : decode cX4_promise 40 = .ok (.iload_n 2, 1) := by decide +kernel
theorem dX4_promise_41 : decode cX4_promise 41 = .ok (.aload_n 0, 1) := by decide +kernel
theorem dX4_promise_42 : decode cX4_promise 42 = .ok (.iload 4, 2) := by decide +kernel
theorem dX4_promise_44 : decode cX4_promise 44 = .ok (.iconst 1, 1) := by decide +kernel
theorem dX4_promise_45 : decode cX4_promise 45 = .ok (.invokevirtual 59, 3) := by decide +kernel
theorem dX4_promise_48 : decode cX4_promise 48 = .ok (.imul, 1) := by decide +kernel
theorem dX4_promise_49 : decode cX4_promise 49 = .ok (.istore 5, 2) := by decide +kernel
theorem dX4_promise_51 : decode cX4_promise 51 = .ok (.iload_n 3, 1) := by decide +kernel
theorem dX4_promise_52 : decode cX4_promise 52 = .ok (.ifCond .eq 39, 3) := by decide +kernel
theorem dX4_promise_55 : decode cX4_promise 55 = .ok (.iload 5, 2) := by decide +kernel
theorem dX4_promise_57 : decode cX4_promise 57 = .ok (.iload_n 2, 1) := by decide +kernel
theorem dX4_promise_58 : decode cX4_promise 58 = .ok (.iload_n 1, 1) := by decide +kernel
theorem dX4_promise_59 : decode cX4_promise 59 = .ok (.isub, 1) := by decide +kernel
theorem dX4_promise_60 : decode cX4_promise 60 = .ok (.aload_n 0, 1) := by decide +kernel
theorem dX4_promise_61 : decode cX4_promise 61 = .ok (.iload 4, 2) := by decide +kernel
theorem dX4_promise_63 : decode cX4_promise 63 = .ok (.iconst 0, 1) := by decide +kernel
theorem dX4_promise_64 : decode cX4_promise 64 = .ok (.invokevirtual 59, 3) := by decide +kernel
theorem dX4_promise_67 : decode cX4_promise 67 = .ok (.imul, 1) := by decide +kernel
theorem dX4_promise_68 : decode cX4_promise 68 = .ok (.if_icmp .lt 23, 3) := by decide +kernel
theorem dX4_promise_71 : decode cX4_promise 71 = .ok (.iload 5, 2) := by decide +kernel
theorem dX4_promise_73 : decode cX4_promise 73 = .ok (.iload_n 2, 1) := by decide +kernel
theorem dX4_promise_74 : decode cX4_promise 74 = .ok (.iload_n 1, 1) := by decide +kernel
theorem dX4_promise_75 : decode cX4_promise 75 = .ok (.iadd, 1) := by decide +kernel
theorem dX4_promise_76 : decode cX4_promise 76 = .ok (.aload_n 0, 1) := by decide +kernel
theorem dX4_promise_77 : decode cX4_promise 77 = .ok (.iload 4, 2) := by decide +kernel
theorem dX4_promise_79 : decode cX4_promise 79 = .ok (.iconst 0, 1) := by decide +kernel
theorem dX4_promise_80 : decode cX4_promise 80 = .ok (.invokevirtual 59, 3) := by decide +kernel
theorem dX4_promise_83 : decode cX4_promise 83 = .ok (.imul, 1) := by decide +kernel
theorem dX4_promise_84 : decode cX4_promise 84 = .ok (.if_icmp .gt 7, 3) := by decide +kernel
theorem dX4_promise_87 : decode cX4_promise 87 = .ok (.iconst 1, 1) := by decide +kernel
theorem dX4_promise_88 : decode cX4_promise 88 = .ok (.goto 4, 3) := by decide +kernel
theorem dX4_promise_91 : decode cX4_promise 91 = .ok (.iconst 0, 1) := by decide +kernel
theorem dX4_promise_92 : decode cX4_promise 92 = .ok (.istore_n 3, 1) := by decide +kernel
theorem dX4_promise_93 : decode cX4_promise 93 = .ok (.iinc 4 2, 3) := by decide +kernel
theorem dX4_promise_96 : decode cX4_promise 96 = .ok (.goto (-69), 3) := by decide +kernel
theorem dX4_promise_99 : decode cX4_promise 99 = .ok (.iload_n 3, 1) := by decide +kernel
theorem dX4_promise_100 : decode cX4_promise 100 = .ok (.ifCond .eq 7, 3) := by decide +kernel
theorem dX4_promise_103 : decode cX4_promise 103 = .ok (.iconst 1, 1) := by decide +kernel
theorem dX4_promise_104 : decode cX4_promise 104 = .ok (.goto 4, 3) := by decide +kernel
theorem dX4_promise_107 : decode cX4_promise 107 = .ok (.iconst 0, 1) := by decide +kernel
theorem dX4_promise_108 : decode cX4_promise 108 = .ok (.ireturn, 1) := by decide +kernel
theorem dX4_apart_0 : decode cX4_apart 0 = .ok (.iconst 0, 1) := by decide +kernel
theorem dX4_apart_1 : decode cX4_apart 1 = .ok (.istore_n 1, 1) := by decide +kernel
theorem dX4_apart_2 : decode cX4_apart 2 = .ok (.iload_n 1, 1) := by decide +kernel
theorem dX4_apart_3 : decode cX4_apart 3 = .ok (.bipush 7, 2) := by decide +kernel
theorem dX4_apart_5 : decode cX4_apart 5 = .ok (.if_icmp .ge 16, 3) := by decide +kernel
theorem dX4_apart_8 : decode cX4_apart 8 = .ok (.aload_n 0, 1) := by decide +kernel
theorem dX4_apart_9 : decode cX4_apart 9 = .ok (.getfield 29, 3) := by decide +kernel
theorem dX4_apart_12 : decode cX4_apart 12 = .ok (.iload_n 1, 1) := by decide +kernel
theorem dX4_apart_13 : decode cX4_apart 13 = .ok (.iload_n 1, 1) := by decide +kernel
theorem dX4_apart_14 : decode cX4_apart 14 = .ok (.iastore, 1) := by decide +kernel
theorem dX4_apart_15 : decode cX4_apart 15 = .ok (.iinc 1 1, 3) := by decide +kernel
theorem dX4_apart_18 : decode cX4_apart 18 = .ok (.goto (-16), 3) := by decide +kernel
theorem dX4_apart_21 : decode cX4_apart 21 = .ok (.return_, 1) := by decide +kernel
theorem dX4_join_0 : decode cX4_join 0 = .ok (.aload_n 0, 1) := by decide +kernel
theorem dX4_join_1 : decode cX4_join 1 = .ok (.getfield 29, 3) := by decide +kernel
theorem dX4_join_4 : decode cX4_join 4 = .ok (.aload_n 0, 1) := by decide +kernel
theorem dX4_join_5 : decode cX4_join 5 = .ok (.getfield 13, 3) := by decide +kernel
theorem dX4_join_8 : decode cX4_join 8 = .ok (.iload_n 1, 1) := by decide +kernel
theorem dX4_join_9 : decode cX4_join 9 = .ok (.iaload, 1) := by decide +kernel
theorem dX4_join_10 : decode cX4_join 10 = .ok (.iaload, 1) := by decide +kernel
theorem dX4_join_11 : decode cX4_join 11 = .ok (.istore_n 2, 1) := by decide +kernel
theorem dX4_join_12 : decode cX4_join 12 = .ok (.aload_n 0, 1) := by decide +kernel
theorem dX4_join_13 : decode cX4_join 13 = .ok (.getfield 29, 3) := by decide +kernel
theorem dX4_join_16 : decode cX4_join 16 = .ok (.aload_n 0, 1) := by decide +kernel
theorem dX4_join_17 : decode cX4_join 17 = .ok (.getfield 17, 3) := by decide +kernel
theorem dX4_join_20 : decode cX4_join 20 = .ok (.iload_n 1, 1) := by decide +kernel
theorem dX4_join_21 : decode cX4_join 21 = .ok (.iaload, 1) := by decide +kernel
theorem dX4_join_22 : decode cX4_join 22 = .ok (.iaload, 1) := by decide +kernel
theorem dX4_join_23 : decode cX4_join 23 = .ok (.istore_n 3, 1) := by decide +kernel
theorem dX4_join_24 : decode cX4_join 24 = .ok (.iconst 0, 1) := by decide +kernel
theorem dX4_join_25 : decode cX4_join 25 = .ok (.istore 4, 2) := by decide +kernel
theorem dX4_join_27 : decode cX4_join 27 = .ok (.iload 4, 2) := by decide +kernel
theorem dX4_join_29 : decode cX4_join 29 = .ok (.aload_n 0, 1) := by decide +kernel
theorem dX4_join_30 : decode cX4_join 30 = .ok (.getfield 7, 3) := by decide +kernel
theorem dX4_join_33 : decode cX4_join 33 = .ok (.if_icmp .ge 43, 3) := by decide +kernel
theorem dX4_join_36 : decode cX4_join 36 = .ok (.iload_n 2, 1) := by decide +kernel
theorem dX4_join_37 : decode cX4_join 37 = .ok (.iload_n 3, 1) := by decide +kernel
theorem dX4_join_38 : decode cX4_join 38 = .ok (.if_icmp .eq 38, 3) := by decide +kernel
theorem dX4_join_41 : decode cX4_join 41 = .ok (.aload_n 0, 1) := by decide +kernel
theorem dX4_join_42 : decode cX4_join 42 = .ok (.getfield 29, 3) := by decide +kernel
theorem dX4_join_45 : decode cX4_join 45 = .ok (.iload 4, 2) := by decide +kernel
theorem dX4_join_47 : decode cX4_join 47 = .ok (.aload_n 0, 1) := by decide +kernel
theorem dX4_join_48 : decode cX4_join 48 = .ok (.getfield 29, 3) := by decide +kernel
theorem dX4_join_51 : decode cX4_join 51 = .ok (.iload 4, 2) := by decide +kernel
theorem dX4_join_53 : decode cX4_join 53 = .ok (.iaload, 1) := by decide +kernel
theorem dX4_join_54 : decode cX4_join 54 = .ok (.iload_n 3, 1) := by decide +kernel
theorem dX4_join_55 : decode cX4_join 55 = .ok (.if_icmp .ne 7, 3) := by decide +kernel
theorem dX4_join_58 : decode cX4_join 58 = .ok (.iload_n 2, 1) := by decide +kernel
theorem dX4_join_59 : decode cX4_join 59 = .ok (.goto 10, 3) := by decide +kernel
theorem dX4_join_62 : decode cX4_join 62 = .ok (.aload_n 0, 1) := by decide +kernel
theorem dX4_join_63 : decode cX4_join 63 = .ok (.getfield 29, 3) := by decide +kernel
theorem dX4_join_66 : decode cX4_join 66 = .ok (.iload 4, 2) := by decide +kernel
theorem dX4_join_68 : decode cX4_join 68 = .ok (.iaload, 1) := by decide +kernel
theorem dX4_join_69 : decode cX4_join 69 = .ok (.iastore, 1) := by decide +kernel
theorem dX4_join_70 : decode cX4_join 70 = .ok (.iinc 4 1, 3) := by decide +kernel
theorem dX4_join_73 : decode cX4_join 73 = .ok (.goto (-46), 3) := by decide +kernel
theorem dX4_join_76 : decode cX4_join 76 = .ok (.iload_n 2, 1) := by decide +kernel
theorem dX4_join_77 : decode cX4_join 77 = .ok (.iload_n 3, 1) := by decide +kernel
theorem dX4_join_78 : decode cX4_join 78 = .ok (.if_icmp .eq 7, 3) := by decide +kernel
theorem dX4_join_81 : decode cX4_join 81 = .ok (.iconst 1, 1) := by decide +kernel
theorem dX4_join_82 : decode cX4_join 82 = .ok (.goto 4, 3) := by decide +kernel
theorem dX4_join_85 : decode cX4_join 85 = .ok (.iconst 0, 1) := by decide +kernel
theorem dX4_join_86 : decode cX4_join 86 = .ok (.ireturn, 1) := by decide +kernel
set_option maxRecDepth 20000 in
theorem ggX4_findForests_X4_apart : GoodIn wsX4_findForests wsX4_apart := goodIn_r _ [7, 8, 16, 17, 18, 19, 20, 21, 22, 23, 24, 25, 26, 27] (by decide +kernel) (by decide +kernel)
set_option maxRecDepth 20000 in
theorem gX4_findForests_X4_apart : GoodIn wsX4_findForests (wsV RX4 63 RX4 yX4_apart wsX4_apart) := goodIn_app (goodIn_of _ (by decide +kernel)) ggX4_findForests_X4_apart
set_option maxRecDepth 20000 in
theorem ggX4_findForests_X4_join : GoodIn wsX4_findForests wsX4_join := goodIn_r _ [12, 8, 13, 14, 15, 16, 17, 18, 19, 20, 21, 22, 23, 24, 25, 26, 27] (by decide +kernel) (by decide +kernel)
set_option maxRecDepth 20000 in
theorem gX4_findForests_X4_join : GoodIn wsX4_findForests (wsV RX4 66 RX4 yX4_join wsX4_join) := goodIn_app (goodIn_of _ (by decide +kernel)) ggX4_findForests_X4_join
theorem dX4_findForests_0 : decode cX4_findForests 0 = .ok (.iconst 0, 1) := by decide +kernel
theorem dX4_findForests_1 : decode cX4_findForests 1 = .ok (.istore_n 1, 1) := by decide +kernel
theorem dX4_findForests_2 : decode cX4_findForests 2 = .ok (.iload_n 1, 1) := by decide +kernel
theorem dX4_findForests_3 : decode cX4_findForests 3 = .ok (.aload_n 0, 1) := by decide +kernel
theorem dX4_findForests_4 : decode cX4_findForests 4 = .ok (.getfield 42, 3) := by decide +kernel
theorem dX4_findForests_7 : decode cX4_findForests 7 = .ok (.if_icmp .ge 16, 3) := by decide +kernel
theorem dX4_findForests_10 : decode cX4_findForests 10 = .ok (.aload_n 0, 1) := by decide +kernel
theorem dX4_findForests_11 : decode cX4_findForests 11 = .ok (.getfield 26, 3) := by decide +kernel
theorem dX4_findForests_14 : decode cX4_findForests 14 = .ok (.iload_n 1, 1) := by decide +kernel
theorem dX4_findForests_15 : decode cX4_findForests 15 = .ok (.iconst 0, 1) := by decide +kernel
theorem dX4_findForests_16 : decode cX4_findForests 16 = .ok (.iastore, 1) := by decide +kernel
theorem dX4_findForests_17 : decode cX4_findForests 17 = .ok (.iinc 1 1, 3) := by decide +kernel
theorem dX4_findForests_20 : decode cX4_findForests 20 = .ok (.goto (-18), 3) := by decide +kernel
theorem dX4_findForests_23 : decode cX4_findForests 23 = .ok (.aload_n 0, 1) := by decide +kernel
theorem dX4_findForests_24 : decode cX4_findForests 24 = .ok (.getfield 42, 3) := by decide +kernel
theorem dX4_findForests_27 : decode cX4_findForests 27 = .ok (.istore_n 1, 1) := by decide +kernel
theorem dX4_findForests_28 : decode cX4_findForests 28 = .ok (.iconst 0, 1) := by decide +kernel
theorem dX4_findForests_29 : decode cX4_findForests 29 = .ok (.istore_n 2, 1) := by decide +kernel
theorem dX4_findForests_30 : decode cX4_findForests 30 = .ok (.iload_n 1, 1) := by decide +kernel
theorem dX4_findForests_31 : decode cX4_findForests 31 = .ok (.ifCond .le 56, 3) := by decide +kernel
theorem dX4_findForests_34 : decode cX4_findForests 34 = .ok (.iinc 2 1, 3) := by decide +kernel
theorem dX4_findForests_37 : decode cX4_findForests 37 = .ok (.aload_n 0, 1) := by decide +kernel
theorem dX4_findForests_38 : decode cX4_findForests 38 = .ok (.invokevirtual 63, 3) := by decide +kernel
theorem dX4_findForests_41 : decode cX4_findForests 41 = .ok (.iconst 0, 1) := by decide +kernel
theorem dX4_findForests_42 : decode cX4_findForests 42 = .ok (.istore_n 3, 1) := by decide +kernel
theorem dX4_findForests_43 : decode cX4_findForests 43 = .ok (.iload_n 3, 1) := by decide +kernel
theorem dX4_findForests_44 : decode cX4_findForests 44 = .ok (.aload_n 0, 1) := by decide +kernel
theorem dX4_findForests_45 : decode cX4_findForests 45 = .ok (.getfield 42, 3) := by decide +kernel
theorem dX4_findForests_48 : decode cX4_findForests 48 = .ok (.if_icmp .ge 36, 3) := by decide +kernel
theorem dX4_findForests_51 : decode cX4_findForests 51 = .ok (.aload_n 0, 1) := by decide +kernel
theorem dX4_findForests_52 : decode cX4_findForests 52 = .ok (.getfield 26, 3) := by decide +kernel
theorem dX4_findForests_55 : decode cX4_findForests 55 = .ok (.iload_n 3, 1) := by decide +kernel
theorem dX4_findForests_56 : decode cX4_findForests 56 = .ok (.iaload, 1) := by decide +kernel
theorem dX4_findForests_57 : decode cX4_findForests 57 = .ok (.ifCond .ne 21, 3) := by decide +kernel
theorem dX4_findForests_60 : decode cX4_findForests 60 = .ok (.aload_n 0, 1) := by decide +kernel
theorem dX4_findForests_61 : decode cX4_findForests 61 = .ok (.iload_n 3, 1) := by decide +kernel
theorem dX4_findForests_62 : decode cX4_findForests 62 = .ok (.invokevirtual 66, 3) := by decide +kernel
theorem dX4_findForests_65 : decode cX4_findForests 65 = .ok (.ifCond .eq 13, 3) := by decide +kernel
theorem dX4_findForests_68 : decode cX4_findForests 68 = .ok (.aload_n 0, 1) := by decide +kernel
theorem dX4_findForests_69 : decode cX4_findForests 69 = .ok (.getfield 26, 3) := by decide +kernel
theorem dX4_findForests_72 : decode cX4_findForests 72 = .ok (.iload_n 3, 1) := by decide +kernel
theorem dX4_findForests_73 : decode cX4_findForests 73 = .ok (.iload_n 2, 1) := by decide +kernel
theorem dX4_findForests_74 : decode cX4_findForests 74 = .ok (.iastore, 1) := by decide +kernel
theorem dX4_findForests_75 : decode cX4_findForests 75 = .ok (.iinc 1 (-1), 3) := by decide +kernel
theorem dX4_findForests_78 : decode cX4_findForests 78 = .ok (.iinc 3 1, 3) := by decide +kernel
theorem dX4_findForests_81 : decode cX4_findForests 81 = .ok (.goto (-38), 3) := by decide +kernel
theorem dX4_findForests_84 : decode cX4_findForests 84 = .ok (.goto (-54), 3) := by decide +kernel
theorem dX4_findForests_87 : decode cX4_findForests 87 = .ok (.iload_n 2, 1) := by decide +kernel
theorem dX4_findForests_88 : decode cX4_findForests 88 = .ok (.ireturn, 1) := by decide +kernel
set_option maxRecDepth 20000 in
theorem ggX4_forests_X4_findForests : GoodIn wsX4_forests wsX4_findForests := goodIn_r _ [5, 6, 7, 8, 9, 10, 4, 11, 12, 13, 14, 15, 16, 17, 18, 19, 20, 21, 22, 23, 24, 25, 26, 27, 28, 29, 30, 31] (by decide +kernel) (by decide +kernel)
set_option maxRecDepth 20000 in
theorem gX4_forests_X4_findForests : GoodIn wsX4_forests (wsV RX4 52 RX4 yX4_findForests wsX4_findForests) := goodIn_app (goodIn_of _ (by decide +kernel)) ggX4_forests_X4_findForests
theorem dX4_forests_0 : decode cX4_forests 0 = .ok (.aload_n 0, 1) := by decide +kernel
theorem dX4_forests_1 : decode cX4_forests 1 = .ok (.invokevirtual 52, 3) := by decide +kernel
theorem dX4_forests_4 : decode cX4_forests 4 = .ok (.ireturn, 1) := by decide +kernel
theorem dX4_keptMany_0 : decode cX4_keptMany 0 = .ok (.iconst 0, 1) := by decide +kernel
theorem dX4_keptMany_1 : decode cX4_keptMany 1 = .ok (.istore_n 1, 1) := by decide +kernel
theorem dX4_keptMany_2 : decode cX4_keptMany 2 = .ok (.iconst 0, 1) := by decide +kernel
theorem dX4_keptMany_3 : decode cX4_keptMany 3 = .ok (.istore_n 2, 1) := by decide +kernel
theorem dX4_keptMany_4 : decode cX4_keptMany 4 = .ok (.iload_n 2, 1) := by decide +kernel
theorem dX4_keptMany_5 : decode cX4_keptMany 5 = .ok (.aload_n 0, 1) := by decide +kernel
theorem dX4_keptMany_6 : decode cX4_keptMany 6 = .ok (.getfield 42, 3) := by decide +kernel
theorem dX4_keptMany_9 : decode cX4_keptMany 9 = .ok (.if_icmp .ge 26, 3) := by decide +kernel
theorem dX4_keptMany_12 : decode cX4_keptMany 12 = .ok (.iload_n 1, 1) := by decide +kernel
theorem dX4_keptMany_13 : decode cX4_keptMany 13 = .ok (.aload_n 0, 1) := by decide +kernel
theorem dX4_keptMany_14 : decode cX4_keptMany 14 = .ok (.getfield 23, 3) := by decide +kernel
theorem dX4_keptMany_17 : decode cX4_keptMany 17 = .ok (.iload_n 2, 1) := by decide +kernel
theorem dX4_keptMany_18 : decode cX4_keptMany 18 = .ok (.iaload, 1) := by decide +kernel
theorem dX4_keptMany_19 : decode cX4_keptMany 19 = .ok (.ifCond .le 7, 3) := by decide +kernel
theorem dX4_keptMany_22 : decode cX4_keptMany 22 = .ok (.iconst 1, 1) := by decide +kernel
theorem dX4_keptMany_23 : decode cX4_keptMany 23 = .ok (.goto 4, 3) := by decide +kernel
theorem dX4_keptMany_26 : decode cX4_keptMany 26 = .ok (.iconst 0, 1) := by decide +kernel
theorem dX4_keptMany_27 : decode cX4_keptMany 27 = .ok (.iadd, 1) := by decide +kernel
theorem dX4_keptMany_28 : decode cX4_keptMany 28 = .ok (.istore_n 1, 1) := by decide +kernel
theorem dX4_keptMany_29 : decode cX4_keptMany 29 = .ok (.iinc 2 1, 3) := by decide +kernel
theorem dX4_keptMany_32 : decode cX4_keptMany 32 = .ok (.goto (-28), 3) := by decide +kernel
theorem dX4_keptMany_35 : decode cX4_keptMany 35 = .ok (.iload_n 1, 1) := by decide +kernel
theorem dX4_keptMany_36 : decode cX4_keptMany 36 = .ok (.ireturn, 1) := by decide +kernel
set_option maxRecDepth 20000 in
theorem ggX4_peel_X4_in : GoodIn wsX4_peel wsX4_in := goodIn_r _ [8] (by decide +kernel) (by decide +kernel)
set_option maxRecDepth 20000 in
theorem gX4_peel_X4_in : GoodIn wsX4_peel (va_wsS RX4 38 yX4_in wsX4_in) := goodIn_app (goodIn_of _ (by decide +kernel)) ggX4_peel_X4_in
set_option maxRecDepth 20000 in
theorem ggX4_peel_X4_findForests : GoodIn wsX4_peel wsX4_findForests := goodIn_r _ [12, 1, 3, 13, 14, 15, 7, 16, 17, 18, 19, 20, 21, 22, 23, 24, 29, 30, 31, 32, 33, 34, 35, 36, 37, 38, 39, 40] (by decide +kernel) (by decide +kernel)
set_option maxRecDepth 20000 in
theorem gX4_peel_X4_findForests : GoodIn wsX4_peel (wsV RX4 52 RX4 yX4_findForests wsX4_findForests) := goodIn_app (goodIn_of _ (by decide +kernel)) ggX4_peel_X4_findForests
set_option maxRecDepth 20000 in
theorem ggX4_peel_X4_keptMany : GoodIn wsX4_peel wsX4_keptMany := goodIn_r _ [28, 1, 2, 29, 30, 31, 32, 33, 34, 35, 36, 37, 38, 39, 40] (by decide +kernel) (by decide +kernel)
set_option maxRecDepth 20000 in
theorem gX4_peel_X4_keptMany : GoodIn wsX4_peel (wsV RX4 69 RX4 yX4_keptMany wsX4_keptMany) := goodIn_app (goodIn_of _ (by decide +kernel)) ggX4_peel_X4_keptMany
theorem dX4_peel_0 : decode cX4_peel 0 = .ok (.iload_n 1, 1) := by decide +kernel
theorem dX4_peel_1 : decode cX4_peel 1 = .ok (.iconst 0, 1) := by decide +kernel
theorem dX4_peel_2 : decode cX4_peel 2 = .ok (.bipush 12, 2) := by decide +kernel
theorem dX4_peel_4 : decode cX4_peel 4 = .ok (.invokestatic 38, 3) := by decide +kernel
theorem dX4_peel_7 : decode cX4_peel 7 = .ok (.ifCond .ne 6, 3) := by decide +kernel
theorem dX4_peel_10 : decode cX4_peel 10 = .ok (.bipush (-3), 2) := by decide +kernel
theorem dX4_peel_12 : decode cX4_peel 12 = .ok (.ireturn, 1) := by decide +kernel
theorem dX4_peel_13 : decode cX4_peel 13 = .ok (.aload_n 0, 1) := by decide +kernel
theorem dX4_peel_14 : decode cX4_peel 14 = .ok (.invokevirtual 52, 3) := by decide +kernel
theorem dX4_peel_17 : decode cX4_peel 17 = .ok (.pop, 1) := by decide +kernel
theorem dX4_peel_18 : decode cX4_peel 18 = .ok (.iconst 0, 1) := by decide +kernel
theorem dX4_peel_19 : decode cX4_peel 19 = .ok (.istore_n 2, 1) := by decide +kernel
theorem dX4_peel_20 : decode cX4_peel 20 = .ok (.iload_n 2, 1) := by decide +kernel
theorem dX4_peel_21 : decode cX4_peel 21 = .ok (.aload_n 0, 1) := by decide +kernel
theorem dX4_peel_22 : decode cX4_peel 22 = .ok (.getfield 42, 3) := by decide +kernel
theorem dX4_peel_25 : decode cX4_peel 25 = .ok (.if_icmp .ge 35, 3) := by decide +kernel
theorem dX4_peel_28 : decode cX4_peel 28 = .ok (.aload_n 0, 1) := by decide +kernel
theorem dX4_peel_29 : decode cX4_peel 29 = .ok (.getfield 23, 3) := by decide +kernel
theorem dX4_peel_32 : decode cX4_peel 32 = .ok (.iload_n 2, 1) := by decide +kernel
theorem dX4_peel_33 : decode cX4_peel 33 = .ok (.aload_n 0, 1) := by decide +kernel
theorem dX4_peel_34 : decode cX4_peel 34 = .ok (.getfield 26, 3) := by decide +kernel
theorem dX4_peel_37 : decode cX4_peel 37 = .ok (.iload_n 2, 1) := by decide +kernel
theorem dX4_peel_38 : decode cX4_peel 38 = .ok (.iaload, 1) := by decide +kernel
theorem dX4_peel_39 : decode cX4_peel 39 = .ok (.iload_n 1, 1) := by decide +kernel
theorem dX4_peel_40 : decode cX4_peel 40 = .ok (.if_icmp .gt 12, 3) := by decide +kernel
theorem dX4_peel_43 : decode cX4_peel 43 = .ok (.aload_n 0, 1) := by decide +kernel
theorem dX4_peel_44 : decode cX4_peel 44 = .ok (.getfield 20, 3) := by decide +kernel
theorem dX4_peel_47 : decode cX4_peel 47 = .ok (.iload_n 2, 1) := by decide +kernel
theorem dX4_peel_48 : decode cX4_peel 48 = .ok (.iaload, 1) := by decide +kernel
theorem dX4_peel_49 : decode cX4_peel 49 = .ok (.goto 4, 3) := by decide +kernel
theorem dX4_peel_52 : decode cX4_peel 52 = .ok (.iconst 0, 1) := by decide +kernel
theorem dX4_peel_53 : decode cX4_peel 53 = .ok (.iastore, 1) := by decide +kernel
theorem dX4_peel_54 : decode cX4_peel 54 = .ok (.iinc 2 1, 3) := by decide +kernel
theorem dX4_peel_57 : decode cX4_peel 57 = .ok (.goto (-37), 3) := by decide +kernel
theorem dX4_peel_60 : decode cX4_peel 60 = .ok (.aload_n 0, 1) := by decide +kernel
theorem dX4_peel_61 : decode cX4_peel 61 = .ok (.invokevirtual 69, 3) := by decide +kernel
theorem dX4_peel_64 : decode cX4_peel 64 = .ok (.ireturn, 1) := by decide +kernel
theorem dX4_findFar_0 : decode cX4_findFar 0 = .ok (.iconst 0, 1) := by decide +kernel
theorem dX4_findFar_1 : decode cX4_findFar 1 = .ok (.istore_n 3, 1) := by decide +kernel
theorem dX4_findFar_2 : decode cX4_findFar 2 = .ok (.iload_n 3, 1) := by decide +kernel
theorem dX4_findFar_3 : decode cX4_findFar 3 = .ok (.aload_n 0, 1) := by decide +kernel
theorem dX4_findFar_4 : decode cX4_findFar 4 = .ok (.getfield 7, 3) := by decide +kernel
theorem dX4_findFar_7 : decode cX4_findFar 7 = .ok (.if_icmp .ge 49, 3) := by decide +kernel
theorem dX4_findFar_10 : decode cX4_findFar 10 = .ok (.iconst 0, 1) := by decide +kernel
theorem dX4_findFar_11 : decode cX4_findFar 11 = .ok (.istore 4, 2) := by decide +kernel
theorem dX4_findFar_13 : decode cX4_findFar 13 = .ok (.iload 4, 2) := by decide +kernel
theorem dX4_findFar_15 : decode cX4_findFar 15 = .ok (.aload_n 0, 1) := by decide +kernel
theorem dX4_findFar_16 : decode cX4_findFar 16 = .ok (.getfield 7, 3) := by decide +kernel
theorem dX4_findFar_19 : decode cX4_findFar 19 = .ok (.if_icmp .ge 31, 3) := by decide +kernel
theorem dX4_findFar_22 : decode cX4_findFar 22 = .ok (.aload_n 2, 1) := by decide +kernel
theorem dX4_findFar_23 : decode cX4_findFar 23 = .ok (.bipush 7, 2) := by decide +kernel
theorem dX4_findFar_25 : decode cX4_findFar 25 = .ok (.iload_n 3, 1) := by decide +kernel
theorem dX4_findFar_26 : decode cX4_findFar 26 = .ok (.imul, 1) := by decide +kernel
theorem dX4_findFar_27 : decode cX4_findFar 27 = .ok (.iload 4, 2) := by decide +kernel
theorem dX4_findFar_29 : decode cX4_findFar 29 = .ok (.iadd, 1) := by decide +kernel
theorem dX4_findFar_30 : decode cX4_findFar 30 = .ok (.iload_n 3, 1) := by decide +kernel
theorem dX4_findFar_31 : decode cX4_findFar 31 = .ok (.iload 4, 2) := by decide +kernel
theorem dX4_findFar_33 : decode cX4_findFar 33 = .ok (.if_icmp .ne 7, 3) := by decide +kernel
theorem dX4_findFar_36 : decode cX4_findFar 36 = .ok (.iconst 0, 1) := by decide +kernel
theorem dX4_findFar_37 : decode cX4_findFar 37 = .ok (.goto 6, 3) := by decide +kernel
theorem dX4_findFar_40 : decode cX4_findFar 40 = .ok (.sipush 10000, 3) := by decide +kernel
theorem dX4_findFar_43 : decode cX4_findFar 43 = .ok (.iastore, 1) := by decide +kernel
theorem dX4_findFar_44 : decode cX4_findFar 44 = .ok (.iinc 4 1, 3) := by decide +kernel
theorem dX4_findFar_47 : decode cX4_findFar 47 = .ok (.goto (-34), 3) := by decide +kernel
theorem dX4_findFar_50 : decode cX4_findFar 50 = .ok (.iinc 3 1, 3) := by decide +kernel
theorem dX4_findFar_53 : decode cX4_findFar 53 = .ok (.goto (-51), 3) := by decide +kernel
theorem dX4_findFar_56 : decode cX4_findFar 56 = .ok (.iconst 0, 1) := by decide +kernel
theorem dX4_findFar_57 : decode cX4_findFar 57 = .ok (.istore_n 3, 1) := by decide +kernel
theorem dX4_findFar_58 : decode cX4_findFar 58 = .ok (.iload_n 3, 1) := by decide +kernel
theorem dX4_findFar_59 : decode cX4_findFar 59 = .ok (.aload_n 0, 1) := by decide +kernel
theorem dX4_findFar_60 : decode cX4_findFar 60 = .ok (.getfield 42, 3) := by decide +kernel
theorem dX4_findFar_63 : decode cX4_findFar 63 = .ok (.if_icmp .ge 93, 3) := by decide +kernel
theorem dX4_findFar_66 : decode cX4_findFar 66 = .ok (.iload_n 1, 1) := by decide +kernel
theorem dX4_findFar_67 : decode cX4_findFar 67 = .ok (.iload_n 3, 1) := by decide +kernel
theorem dX4_findFar_68 : decode cX4_findFar 68 = .ok (.ishr, 1) := by decide +kernel
theorem dX4_findFar_69 : decode cX4_findFar 69 = .ok (.iconst 1, 1) := by decide +kernel
theorem dX4_findFar_70 : decode cX4_findFar 70 = .ok (.iand, 1) := by decide +kernel
theorem dX4_findFar_71 : decode cX4_findFar 71 = .ok (.iconst 1, 1) := by decide +kernel
theorem dX4_findFar_72 : decode cX4_findFar 72 = .ok (.if_icmp .ne 78, 3) := by decide +kernel
theorem dX4_findFar_75 : decode cX4_findFar 75 = .ok (.aload_n 0, 1) := by decide +kernel
theorem dX4_findFar_76 : decode cX4_findFar 76 = .ok (.getfield 20, 3) := by decide +kernel
theorem dX4_findFar_79 : decode cX4_findFar 79 = .ok (.iload_n 3, 1) := by decide +kernel
theorem dX4_findFar_80 : decode cX4_findFar 80 = .ok (.iaload, 1) := by decide +kernel
theorem dX4_findFar_81 : decode cX4_findFar 81 = .ok (.aload_n 2, 1) := by decide +kernel
theorem dX4_findFar_82 : decode cX4_findFar 82 = .ok (.bipush 7, 2) := by decide +kernel
theorem dX4_findFar_84 : decode cX4_findFar 84 = .ok (.aload_n 0, 1) := by decide +kernel
theorem dX4_findFar_85 : decode cX4_findFar 85 = .ok (.getfield 13, 3) := by decide +kernel
theorem dX4_findFar_88 : decode cX4_findFar 88 = .ok (.iload_n 3, 1) := by decide +kernel
theorem dX4_findFar_89 : decode cX4_findFar 89 = .ok (.iaload, 1) := by decide +kernel
theorem dX4_findFar_90 : decode cX4_findFar 90 = .ok (.imul, 1) := by decide +kernel
theorem dX4_findFar_91 : decode cX4_findFar 91 = .ok (.aload_n 0, 1) := by decide +kernel
theorem dX4_findFar_92 : decode cX4_findFar 92 = .ok (.getfield 17, 3) := by decide +kernel
theorem dX4_findFar_95 : decode cX4_findFar 95 = .ok (.iload_n 3, 1) := by decide +kernel
theorem dX4_findFar_96 : decode cX4_findFar 96 = .ok (.iaload, 1) := by decide +kernel
theorem dX4_findFar_97 : decode cX4_findFar 97 = .ok (.iadd, 1) := by decide +kernel
theorem dX4_findFar_98 : decode cX4_findFar 98 = .ok (.iaload, 1) := by decide +kernel
theorem dX4_findFar_99 : decode cX4_findFar 99 = .ok (.if_icmp .ge 51, 3) := by decide +kernel
theorem dX4_findFar_102 : decode cX4_findFar 102 = .ok (.aload_n 2, 1) := by decide +kernel
theorem dX4_findFar_103 : decode cX4_findFar 103 = .ok (.bipush 7, 2) := by decide +kernel
theorem dX4_findFar_105 : decode cX4_findFar 105 = .ok (.aload_n 0, 1) := by decide +kernel
theorem dX4_findFar_106 : decode cX4_findFar 106 = .ok (.getfield 13, 3) := by decide +kernel
theorem dX4_findFar_109 : decode cX4_findFar 109 = .ok (.iload_n 3, 1) := by decide +kernel
theorem dX4_findFar_110 : decode cX4_findFar 110 = .ok (.iaload, 1) := by decide +kernel
theorem dX4_findFar_111 : decode cX4_findFar 111 = .ok (.imul, 1) := by decide +kernel
theorem dX4_findFar_112 : decode cX4_findFar 112 = .ok (.aload_n 0, 1) := by decide +kernel
theorem dX4_findFar_113 : decode cX4_findFar 113 = .ok (.getfield 17, 3) := by decide +kernel
theorem dX4_findFar_116 : decode cX4_findFar 116 = .ok (.iload_n 3, 1) := by decide +kernel
theorem dX4_findFar_117 : decode cX4_findFar 117 = .ok (.iaload, 1) := by decide +kernel
theorem dX4_findFar_118 : decode cX4_findFar 118 = .ok (.iadd, 1) := by decide +kernel
theorem dX4_findFar_119 : decode cX4_findFar 119 = .ok (.aload_n 0, 1) := by decide +kernel
theorem dX4_findFar_120 : decode cX4_findFar 120 = .ok (.getfield 20, 3) := by decide +kernel
theorem dX4_findFar_123 : decode cX4_findFar 123 = .ok (.iload_n 3, 1) := by decide +kernel
theorem dX4_findFar_124 : decode cX4_findFar 124 = .ok (.iaload, 1) := by decide +kernel
theorem dX4_findFar_125 : decode cX4_findFar 125 = .ok (.iastore, 1) := by decide +kernel
theorem dX4_findFar_126 : decode cX4_findFar 126 = .ok (.aload_n 2, 1) := by decide +kernel
theorem dX4_findFar_127 : decode cX4_findFar 127 = .ok (.bipush 7, 2) := by decide +kernel
theorem dX4_findFar_129 : decode cX4_findFar 129 = .ok (.aload_n 0, 1) := by decide +kernel
theorem dX4_findFar_130 : decode cX4_findFar 130 = .ok (.getfield 17, 3) := by decide +kernel
theorem dX4_findFar_133 : decode cX4_findFar 133 = .ok (.iload_n 3, 1) := by decide +kernel
theorem dX4_findFar_134 : decode cX4_findFar 134 = .ok (.iaload, 1) := by decide +kernel
theorem dX4_findFar_135 : decode cX4_findFar 135 = .ok (.imul, 1) := by decide +kernel
theorem dX4_findFar_136 : decode cX4_findFar 136 = .ok (.aload_n 0, 1) := by decide +kernel
theorem dX4_findFar_137 : decode cX4_findFar 137 = .ok (.getfield 13, 3) := by decide +kernel
theorem dX4_findFar_140 : decode cX4_findFar 140 = .ok (.iload_n 3, 1) := by decide +kernel
theorem dX4_findFar_141 : decode cX4_findFar 141 = .ok (.iaload, 1) := by decide +kernel
theorem dX4_findFar_142 : decode cX4_findFar 142 = .ok (.iadd, 1) := by decide +kernel
theorem dX4_findFar_143 : decode cX4_findFar 143 = .ok (.aload_n 0, 1) := by decide +kernel
theorem dX4_findFar_144 : decode cX4_findFar 144 = .ok (.getfield 20, 3) := by decide +kernel
theorem dX4_findFar_147 : decode cX4_findFar 147 = .ok (.iload_n 3, 1) := by decide +kernel
theorem dX4_findFar_148 : decode cX4_findFar 148 = .ok (.iaload, 1) := by decide +kernel
theorem dX4_findFar_149 : decode cX4_findFar 149 = .ok (.iastore, 1) := by decide +kernel
theorem dX4_findFar_150 : decode cX4_findFar 150 = .ok (.iinc 3 1, 3) := by decide +kernel
theorem dX4_findFar_153 : decode cX4_findFar 153 = .ok (.goto (-95), 3) := by decide +kernel
theorem dX4_findFar_156 : decode cX4_findFar 156 = .ok (.iconst 0, 1) := by decide +kernel
theorem dX4_findFar_157 : decode cX4_findFar 157 = .ok (.istore_n 3, 1) := by decide +kernel
theorem dX4_findFar_158 : decode cX4_findFar 158 = .ok (.iload_n 3, 1) := by decide +kernel
theorem dX4_findFar_159 : decode cX4_findFar 159 = .ok (.aload_n 0, 1) := by decide +kernel
theorem dX4_findFar_160 : decode cX4_findFar 160 = .ok (.getfield 7, 3) := by decide +kernel
theorem dX4_findFar_163 : decode cX4_findFar 163 = .ok (.if_icmp .ge 106, 3) := by decide +kernel
theorem dX4_findFar_166 : decode cX4_findFar 166 = .ok (.iconst 0, 1) := by decide +kernel
theorem dX4_findFar_167 : decode cX4_findFar 167 = .ok (.istore 4, 2) := by decide +kernel
theorem dX4_findFar_169 : decode cX4_findFar 169 = .ok (.iload 4, 2) := by decide +kernel
theorem dX4_findFar_171 : decode cX4_findFar 171 = .ok (.aload_n 0, 1) := by decide +kernel
theorem dX4_findFar_172 : decode cX4_findFar 172 = .ok (.getfield 7, 3) := by decide +kernel
theorem dX4_findFar_175 : decode cX4_findFar 175 = .ok (.if_icmp .ge 88, 3) := by decide +kernel
theorem dX4_findFar_178 : decode cX4_findFar 178 = .ok (.iconst 0, 1) := by decide +kernel
theorem dX4_findFar_179 : decode cX4_findFar 179 = .ok (.istore 5, 2) := by decide +kernel
theorem dX4_findFar_181 : decode cX4_findFar 181 = .ok (.iload 5, 2) := by decide +kernel
theorem dX4_findFar_183 : decode cX4_findFar 183 = .ok (.aload_n 0, 1) := by decide +kernel
theorem dX4_findFar_184 : decode cX4_findFar 184 = .ok (.getfield 7, 3) := by decide +kernel
theorem dX4_findFar_187 : decode cX4_findFar 187 = .ok (.if_icmp .ge 70, 3) := by decide +kernel
theorem dX4_findFar_190 : decode cX4_findFar 190 = .ok (.aload_n 2, 1) := by decide +kernel
theorem dX4_findFar_191 : decode cX4_findFar 191 = .ok (.bipush 7, 2) := by decide +kernel
theorem dX4_findFar_193 : decode cX4_findFar 193 = .ok (.iload 4, 2) := by decide +kernel
theorem dX4_findFar_195 : decode cX4_findFar 195 = .ok (.imul, 1) := by decide +kernel
theorem dX4_findFar_196 : decode cX4_findFar 196 = .ok (.iload_n 3, 1) := by decide +kernel
theorem dX4_findFar_197 : decode cX4_findFar 197 = .ok (.iadd, 1) := by decide +kernel
theorem dX4_findFar_198 : decode cX4_findFar 198 = .ok (.iaload, 1) := by decide +kernel
theorem dX4_findFar_199 : decode cX4_findFar 199 = .ok (.aload_n 2, 1) := by decide +kernel
theorem dX4_findFar_200 : decode cX4_findFar 200 = .ok (.bipush 7, 2) := by decide +kernel
theorem dX4_findFar_202 : decode cX4_findFar 202 = .ok (.iload_n 3, 1) := by decide +kernel
theorem dX4_findFar_203 : decode cX4_findFar 203 = .ok (.imul, 1) := by decide +kernel
theorem dX4_findFar_204 : decode cX4_findFar 204 = .ok (.iload 5, 2) := by decide +kernel
theorem dX4_findFar_206 : decode cX4_findFar 206 = .ok (.iadd, 1) := by decide +kernel
theorem dX4_findFar_207 : decode cX4_findFar 207 = .ok (.iaload, 1) := by decide +kernel
theorem dX4_findFar_208 : decode cX4_findFar 208 = .ok (.iadd, 1) := by decide +kernel
theorem dX4_findFar_209 : decode cX4_findFar 209 = .ok (.istore 6, 2) := by decide +kernel
theorem dX4_findFar_211 : decode cX4_findFar 211 = .ok (.aload_n 2, 1) := by decide +kernel
theorem dX4_findFar_212 : decode cX4_findFar 212 = .ok (.bipush 7, 2) := by decide +kernel
theorem dX4_findFar_214 : decode cX4_findFar 214 = .ok (.iload 4, 2) := by decide +kernel
theorem dX4_findFar_216 : decode cX4_findFar 216 = .ok (.imul, 1) := by decide +kernel
theorem dX4_findFar_217 : decode cX4_findFar 217 = .ok (.iload 5, 2) := by decide +kernel
theorem dX4_findFar_219 : decode cX4_findFar 219 = .ok (.iadd, 1) := by decide +kernel
theorem dX4_findFar_220 : decode cX4_findFar 220 = .ok (.iload 6, 2) := by decide +kernel
theorem dX4_findFar_222 : decode cX4_findFar 222 = .ok (.aload_n 2, 1) := by decide +kernel
theorem dX4_findFar_223 : decode cX4_findFar 223 = .ok (.bipush 7, 2) := by decide +kernel
theorem dX4_findFar_225 : decode cX4_findFar 225 = .ok (.iload 4, 2) := by decide +kernel
theorem dX4_findFar_227 : decode cX4_findFar 227 = .ok (.imul, 1) := by decide +kernel
theorem dX4_findFar_228 : decode cX4_findFar 228 = .ok (.iload 5, 2) := by decide +kernel
theorem dX4_findFar_230 : decode cX4_findFar 230 = .ok (.iadd, 1) := by decide +kernel
theorem dX4_findFar_231 : decode cX4_findFar 231 = .ok (.iaload, 1) := by decide +kernel
theorem dX4_findFar_232 : decode cX4_findFar 232 = .ok (.if_icmp .ge 8, 3) := by decide +kernel
theorem dX4_findFar_235 : decode cX4_findFar 235 = .ok (.iload 6, 2) := by decide +kernel
theorem dX4_findFar_237 : decode cX4_findFar 237 = .ok (.goto 13, 3) := by decide +kernel
theorem dX4_findFar_240 : decode cX4_findFar 240 = .ok (.aload_n 2, 1) := by decide +kernel
theorem dX4_findFar_241 : decode cX4_findFar 241 = .ok (.bipush 7, 2) := by decide +kernel
theorem dX4_findFar_243 : decode cX4_findFar 243 = .ok (.iload 4, 2) := by decide +kernel
theorem dX4_findFar_245 : decode cX4_findFar 245 = .ok (.imul, 1) := by decide +kernel
theorem dX4_findFar_246 : decode cX4_findFar 246 = .ok (.iload 5, 2) := by decide +kernel
theorem dX4_findFar_248 : decode cX4_findFar 248 = .ok (.iadd, 1) := by decide +kernel
theorem dX4_findFar_249 : decode cX4_findFar 249 = .ok (.iaload, 1) := by decide +kernel
theorem dX4_findFar_250 : decode cX4_findFar 250 = .ok (.iastore, 1) := by decide +kernel
theorem dX4_findFar_251 : decode cX4_findFar 251 = .ok (.iinc 5 1, 3) := by decide +kernel
theorem dX4_findFar_254 : decode cX4_findFar 254 = .ok (.goto (-73), 3) := by decide +kernel
theorem dX4_findFar_257 : decode cX4_findFar 257 = .ok (.iinc 4 1, 3) := by decide +kernel
theorem dX4_findFar_260 : decode cX4_findFar 260 = .ok (.goto (-91), 3) := by decide +kernel
theorem dX4_findFar_263 : decode cX4_findFar 263 = .ok (.iinc 3 1, 3) := by decide +kernel
theorem dX4_findFar_266 : decode cX4_findFar 266 = .ok (.goto (-108), 3) := by decide +kernel
theorem dX4_findFar_269 : decode cX4_findFar 269 = .ok (.return_, 1) := by decide +kernel
theorem dX4_keptSet_0 : decode cX4_keptSet 0 = .ok (.iconst 0, 1) := by decide +kernel
theorem dX4_keptSet_1 : decode cX4_keptSet 1 = .ok (.istore_n 1, 1) := by decide +kernel
theorem dX4_keptSet_2 : decode cX4_keptSet 2 = .ok (.iconst 0, 1) := by decide +kernel
theorem dX4_keptSet_3 : decode cX4_keptSet 3 = .ok (.istore_n 2, 1) := by decide +kernel
theorem dX4_keptSet_4 : decode cX4_keptSet 4 = .ok (.iload_n 2, 1) := by decide +kernel
theorem dX4_keptSet_5 : decode cX4_keptSet 5 = .ok (.aload_n 0, 1) := by decide +kernel
theorem dX4_keptSet_6 : decode cX4_keptSet 6 = .ok (.getfield 42, 3) := by decide +kernel
theorem dX4_keptSet_9 : decode cX4_keptSet 9 = .ok (.if_icmp .ge 28, 3) := by decide +kernel
theorem dX4_keptSet_12 : decode cX4_keptSet 12 = .ok (.iload_n 1, 1) := by decide +kernel
theorem dX4_keptSet_13 : decode cX4_keptSet 13 = .ok (.aload_n 0, 1) := by decide +kernel
theorem dX4_keptSet_14 : decode cX4_keptSet 14 = .ok (.getfield 23, 3) := by decide +kernel
theorem dX4_keptSet_17 : decode cX4_keptSet 17 = .ok (.iload_n 2, 1) := by decide +kernel
theorem dX4_keptSet_18 : decode cX4_keptSet 18 = .ok (.iaload, 1) := by decide +kernel
theorem dX4_keptSet_19 : decode cX4_keptSet 19 = .ok (.ifCond .le 9, 3) := by decide +kernel
theorem dX4_keptSet_22 : decode cX4_keptSet 22 = .ok (.iconst 1, 1) := by decide +kernel
theorem dX4_keptSet_23 : decode cX4_keptSet 23 = .ok (.iload_n 2, 1) := by decide +kernel
theorem dX4_keptSet_24 : decode cX4_keptSet 24 = .ok (.ishl, 1) := by decide +kernel
theorem dX4_keptSet_25 : decode cX4_keptSet 25 = .ok (.goto 4, 3) := by decide +kernel
theorem dX4_keptSet_28 : decode cX4_keptSet 28 = .ok (.iconst 0, 1) := by decide +kernel
theorem dX4_keptSet_29 : decode cX4_keptSet 29 = .ok (.ior, 1) := by decide +kernel
theorem dX4_keptSet_30 : decode cX4_keptSet 30 = .ok (.istore_n 1, 1) := by decide +kernel
theorem dX4_keptSet_31 : decode cX4_keptSet 31 = .ok (.iinc 2 1, 3) := by decide +kernel
theorem dX4_keptSet_34 : decode cX4_keptSet 34 = .ok (.goto (-30), 3) := by decide +kernel
theorem dX4_keptSet_37 : decode cX4_keptSet 37 = .ok (.iload_n 1, 1) := by decide +kernel
theorem dX4_keptSet_38 : decode cX4_keptSet 38 = .ok (.ireturn, 1) := by decide +kernel
set_option maxRecDepth 20000 in
theorem ggX4_greedy_X4_in : GoodIn wsX4_greedy wsX4_in := goodIn_r _ [10] (by decide +kernel) (by decide +kernel)
set_option maxRecDepth 20000 in
theorem gX4_greedy_X4_in : GoodIn wsX4_greedy (va_wsS RX4 38 yX4_in wsX4_in) := goodIn_app (goodIn_of _ (by decide +kernel)) ggX4_greedy_X4_in
set_option maxRecDepth 20000 in
theorem ggX4_greedy_X4_findFar : GoodIn wsX4_greedy wsX4_findFar := goodIn_r _ [14, 15, 1, 2, 4, 5, 20, 21, 22, 23, 24, 25, 26, 27, 28, 29, 30, 31] (by decide +kernel) (by decide +kernel)
set_option maxRecDepth 20000 in
theorem gX4_greedy_X4_findFar : GoodIn wsX4_greedy (wsV RX4 72 RX4 yX4_findFar wsX4_findFar) := goodIn_app (goodIn_of _ (by decide +kernel)) ggX4_greedy_X4_findFar
set_option maxRecDepth 20000 in
theorem ggX4_greedy_X4_keptMany : GoodIn wsX4_greedy wsX4_keptMany := goodIn_r _ [19, 1, 6, 20, 21, 22, 23, 24, 25, 26, 27, 28, 29, 30, 31] (by decide +kernel) (by decide +kernel)
set_option maxRecDepth 20000 in
theorem gX4_greedy_X4_keptMany : GoodIn wsX4_greedy (wsV RX4 69 RX4 yX4_keptMany wsX4_keptMany) := goodIn_app (goodIn_of _ (by decide +kernel)) ggX4_greedy_X4_keptMany
theorem dX4_greedy_0 : decode cX4_greedy 0 = .ok (.iload_n 1, 1) := by decide +kernel
theorem dX4_greedy_1 : decode cX4_greedy 1 = .ok (.iconst 1, 1) := by decide +kernel
theorem dX4_greedy_2 : decode cX4_greedy 2 = .ok (.bipush 9, 2) := by decide +kernel
theorem dX4_greedy_4 : decode cX4_greedy 4 = .ok (.invokestatic 38, 3) := by decide +kernel
theorem dX4_greedy_7 : decode cX4_greedy 7 = .ok (.ifCond .ne 6, 3) := by decide +kernel
theorem dX4_greedy_10 : decode cX4_greedy 10 = .ok (.bipush (-3), 2) := by decide +kernel
theorem dX4_greedy_12 : decode cX4_greedy 12 = .ok (.ireturn, 1) := by decide +kernel
theorem dX4_greedy_13 : decode cX4_greedy 13 = .ok (.iconst 0, 1) := by decide +kernel
theorem dX4_greedy_14 : decode cX4_greedy 14 = .ok (.istore_n 2, 1) := by decide +kernel
theorem dX4_greedy_15 : decode cX4_greedy 15 = .ok (.iconst 1, 1) := by decide +kernel
theorem dX4_greedy_16 : decode cX4_greedy 16 = .ok (.istore_n 3, 1) := by decide +kernel
theorem dX4_greedy_17 : decode cX4_greedy 17 = .ok (.iload_n 3, 1) := by decide +kernel
theorem dX4_greedy_18 : decode cX4_greedy 18 = .ok (.bipush 10, 2) := by decide +kernel
theorem dX4_greedy_20 : decode cX4_greedy 20 = .ok (.if_icmp .ge 87, 3) := by decide +kernel
theorem dX4_greedy_23 : decode cX4_greedy 23 = .ok (.iconst 0, 1) := by decide +kernel
theorem dX4_greedy_24 : decode cX4_greedy 24 = .ok (.istore 4, 2) := by decide +kernel
theorem dX4_greedy_26 : decode cX4_greedy 26 = .ok (.iload 4, 2) := by decide +kernel
theorem dX4_greedy_28 : decode cX4_greedy 28 = .ok (.aload_n 0, 1) := by decide +kernel
theorem dX4_greedy_29 : decode cX4_greedy 29 = .ok (.getfield 42, 3) := by decide +kernel
theorem dX4_greedy_32 : decode cX4_greedy 32 = .ok (.if_icmp .ge 69, 3) := by decide +kernel
theorem dX4_greedy_35 : decode cX4_greedy 35 = .ok (.aload_n 0, 1) := by decide +kernel
theorem dX4_greedy_36 : decode cX4_greedy 36 = .ok (.getfield 20, 3) := by decide +kernel
theorem dX4_greedy_39 : decode cX4_greedy 39 = .ok (.iload 4, 2) := by decide +kernel
theorem dX4_greedy_41 : decode cX4_greedy 41 = .ok (.iaload, 1) := by decide +kernel
theorem dX4_greedy_42 : decode cX4_greedy 42 = .ok (.iload_n 3, 1) := by decide +kernel
theorem dX4_greedy_43 : decode cX4_greedy 43 = .ok (.if_icmp .ne 52, 3) := by decide +kernel
theorem dX4_greedy_46 : decode cX4_greedy 46 = .ok (.aload_n 0, 1) := by decide +kernel
theorem dX4_greedy_47 : decode cX4_greedy 47 = .ok (.iload_n 2, 1) := by decide +kernel
theorem dX4_greedy_48 : decode cX4_greedy 48 = .ok (.aload_n 0, 1) := by decide +kernel
theorem dX4_greedy_49 : decode cX4_greedy 49 = .ok (.getfield 35, 3) := by decide +kernel
theorem dX4_greedy_52 : decode cX4_greedy 52 = .ok (.invokevirtual 72, 3) := by decide +kernel
theorem dX4_greedy_55 : decode cX4_greedy 55 = .ok (.iload_n 2, 1) := by decide +kernel
theorem dX4_greedy_56 : decode cX4_greedy 56 = .ok (.aload_n 0, 1) := by decide +kernel
theorem dX4_greedy_57 : decode cX4_greedy 57 = .ok (.getfield 35, 3) := by decide +kernel
theorem dX4_greedy_60 : decode cX4_greedy 60 = .ok (.bipush 7, 2) := by decide +kernel
theorem dX4_greedy_62 : decode cX4_greedy 62 = .ok (.aload_n 0, 1) := by decide +kernel
theorem dX4_greedy_63 : decode cX4_greedy 63 = .ok (.getfield 13, 3) := by decide +kernel
theorem dX4_greedy_66 : decode cX4_greedy 66 = .ok (.iload 4, 2) := by decide +kernel
theorem dX4_greedy_68 : decode cX4_greedy 68 = .ok (.iaload, 1) := by decide +kernel
theorem dX4_greedy_69 : decode cX4_greedy 69 = .ok (.imul, 1) := by decide +kernel
theorem dX4_greedy_70 : decode cX4_greedy 70 = .ok (.aload_n 0, 1) := by decide +kernel
theorem dX4_greedy_71 : decode cX4_greedy 71 = .ok (.getfield 17, 3) := by decide +kernel
theorem dX4_greedy_74 : decode cX4_greedy 74 = .ok (.iload 4, 2) := by decide +kernel
theorem dX4_greedy_76 : decode cX4_greedy 76 = .ok (.iaload, 1) := by decide +kernel
theorem dX4_greedy_77 : decode cX4_greedy 77 = .ok (.iadd, 1) := by decide +kernel
theorem dX4_greedy_78 : decode cX4_greedy 78 = .ok (.iaload, 1) := by decide +kernel
theorem dX4_greedy_79 : decode cX4_greedy 79 = .ok (.iload_n 1, 1) := by decide +kernel
theorem dX4_greedy_80 : decode cX4_greedy 80 = .ok (.iload_n 3, 1) := by decide +kernel
theorem dX4_greedy_81 : decode cX4_greedy 81 = .ok (.imul, 1) := by decide +kernel
theorem dX4_greedy_82 : decode cX4_greedy 82 = .ok (.if_icmp .le 10, 3) := by decide +kernel
theorem dX4_greedy_85 : decode cX4_greedy 85 = .ok (.iconst 1, 1) := by decide +kernel
theorem dX4_greedy_86 : decode cX4_greedy 86 = .ok (.iload 4, 2) := by decide +kernel
theorem dX4_greedy_88 : decode cX4_greedy 88 = .ok (.ishl, 1) := by decide +kernel
theorem dX4_greedy_89 : decode cX4_greedy 89 = .ok (.goto 4, 3) := by decide +kernel
theorem dX4_greedy_92 : decode cX4_greedy 92 = .ok (.iconst 0, 1) := by decide +kernel
theorem dX4_greedy_93 : decode cX4_greedy 93 = .ok (.ior, 1) := by decide +kernel
theorem dX4_greedy_94 : decode cX4_greedy 94 = .ok (.istore_n 2, 1) := by decide +kernel
theorem dX4_greedy_95 : decode cX4_greedy 95 = .ok (.iinc 4 1, 3) := by decide +kernel
theorem dX4_greedy_98 : decode cX4_greedy 98 = .ok (.goto (-72), 3) := by decide +kernel
theorem dX4_greedy_101 : decode cX4_greedy 101 = .ok (.iinc 3 1, 3) := by decide +kernel
theorem dX4_greedy_104 : decode cX4_greedy 104 = .ok (.goto (-87), 3) := by decide +kernel
theorem dX4_greedy_107 : decode cX4_greedy 107 = .ok (.iconst 0, 1) := by decide +kernel
theorem dX4_greedy_108 : decode cX4_greedy 108 = .ok (.istore_n 3, 1) := by decide +kernel
theorem dX4_greedy_109 : decode cX4_greedy 109 = .ok (.iload_n 3, 1) := by decide +kernel
theorem dX4_greedy_110 : decode cX4_greedy 110 = .ok (.aload_n 0, 1) := by decide +kernel
theorem dX4_greedy_111 : decode cX4_greedy 111 = .ok (.getfield 42, 3) := by decide +kernel
theorem dX4_greedy_114 : decode cX4_greedy 114 = .ok (.if_icmp .ge 34, 3) := by decide +kernel
theorem dX4_greedy_117 : decode cX4_greedy 117 = .ok (.aload_n 0, 1) := by decide +kernel
theorem dX4_greedy_118 : decode cX4_greedy 118 = .ok (.getfield 23, 3) := by decide +kernel
theorem dX4_greedy_121 : decode cX4_greedy 121 = .ok (.iload_n 3, 1) := by decide +kernel
theorem dX4_greedy_122 : decode cX4_greedy 122 = .ok (.iload_n 2, 1) := by decide +kernel
theorem dX4_greedy_123 : decode cX4_greedy 123 = .ok (.iload_n 3, 1) := by decide +kernel
theorem dX4_greedy_124 : decode cX4_greedy 124 = .ok (.ishr, 1) := by decide +kernel
theorem dX4_greedy_125 : decode cX4_greedy 125 = .ok (.iconst 1, 1) := by decide +kernel
theorem dX4_greedy_126 : decode cX4_greedy 126 = .ok (.iand, 1) := by decide +kernel
theorem dX4_greedy_127 : decode cX4_greedy 127 = .ok (.iconst 1, 1) := by decide +kernel
theorem dX4_greedy_128 : decode cX4_greedy 128 = .ok (.if_icmp .ne 12, 3) := by decide +kernel
theorem dX4_greedy_131 : decode cX4_greedy 131 = .ok (.aload_n 0, 1) := by decide +kernel
theorem dX4_greedy_132 : decode cX4_greedy 132 = .ok (.getfield 20, 3) := by decide +kernel
theorem dX4_greedy_135 : decode cX4_greedy 135 = .ok (.iload_n 3, 1) := by decide +kernel
theorem dX4_greedy_136 : decode cX4_greedy 136 = .ok (.iaload, 1) := by decide +kernel
theorem dX4_greedy_137 : decode cX4_greedy 137 = .ok (.goto 4, 3) := by decide +kernel
theorem dX4_greedy_140 : decode cX4_greedy 140 = .ok (.iconst 0, 1) := by decide +kernel
theorem dX4_greedy_141 : decode cX4_greedy 141 = .ok (.iastore, 1) := by decide +kernel
theorem dX4_greedy_142 : decode cX4_greedy 142 = .ok (.iinc 3 1, 3) := by decide +kernel
theorem dX4_greedy_145 : decode cX4_greedy 145 = .ok (.goto (-36), 3) := by decide +kernel
theorem dX4_greedy_148 : decode cX4_greedy 148 = .ok (.aload_n 0, 1) := by decide +kernel
theorem dX4_greedy_149 : decode cX4_greedy 149 = .ok (.invokevirtual 69, 3) := by decide +kernel
theorem dX4_greedy_152 : decode cX4_greedy 152 = .ok (.ireturn, 1) := by decide +kernel
theorem dX4_many_0 : decode cX4_many 0 = .ok (.iconst 0, 1) := by decide +kernel
theorem dX4_many_1 : decode cX4_many 1 = .ok (.istore_n 1, 1) := by decide +kernel
theorem dX4_many_2 : decode cX4_many 2 = .ok (.iconst 0, 1) := by decide +kernel
theorem dX4_many_3 : decode cX4_many 3 = .ok (.istore_n 2, 1) := by decide +kernel
theorem dX4_many_4 : decode cX4_many 4 = .ok (.iload_n 2, 1) := by decide +kernel
theorem dX4_many_5 : decode cX4_many 5 = .ok (.bipush 12, 2) := by decide +kernel
theorem dX4_many_7 : decode cX4_many 7 = .ok (.if_icmp .ge 17, 3) := by decide +kernel
theorem dX4_many_10 : decode cX4_many 10 = .ok (.iload_n 1, 1) := by decide +kernel
theorem dX4_many_11 : decode cX4_many 11 = .ok (.iload_n 0, 1) := by decide +kernel
theorem dX4_many_12 : decode cX4_many 12 = .ok (.iload_n 2, 1) := by decide +kernel
theorem dX4_many_13 : decode cX4_many 13 = .ok (.ishr, 1) := by decide +kernel
theorem dX4_many_14 : decode cX4_many 14 = .ok (.iconst 1, 1) := by decide +kernel
theorem dX4_many_15 : decode cX4_many 15 = .ok (.iand, 1) := by decide +kernel
theorem dX4_many_16 : decode cX4_many 16 = .ok (.iadd, 1) := by decide +kernel
theorem dX4_many_17 : decode cX4_many 17 = .ok (.istore_n 1, 1) := by decide +kernel
theorem dX4_many_18 : decode cX4_many 18 = .ok (.iinc 2 1, 3) := by decide +kernel
theorem dX4_many_21 : decode cX4_many 21 = .ok (.goto (-17), 3) := by decide +kernel
theorem dX4_many_24 : decode cX4_many 24 = .ok (.iload_n 1, 1) := by decide +kernel
theorem dX4_many_25 : decode cX4_many 25 = .ok (.ireturn, 1) := by decide +kernel
set_option maxRecDepth 20000 in
theorem ggX4_isWithin_X4_findFar : GoodIn wsX4_isWithin wsX4_findFar := goodIn_r _ [8, 2, 9, 10, 11, 12, 13, 14, 15, 16, 17, 18, 19, 20, 21, 22, 23, 24] (by decide +kernel) (by decide +kernel)
set_option maxRecDepth 20000 in
theorem gX4_isWithin_X4_findFar : GoodIn wsX4_isWithin (wsV RX4 72 RX4 yX4_findFar wsX4_findFar) := goodIn_app (goodIn_of _ (by decide +kernel)) ggX4_isWithin_X4_findFar
theorem dX4_isWithin_0 : decode cX4_isWithin 0 = .ok (.aload_n 0, 1) := by decide +kernel
theorem dX4_isWithin_1 : decode cX4_isWithin 1 = .ok (.iload_n 1, 1) := by decide +kernel
theorem dX4_isWithin_2 : decode cX4_isWithin 2 = .ok (.aload_n 0, 1) := by decide +kernel
theorem dX4_isWithin_3 : decode cX4_isWithin 3 = .ok (.getfield 35, 3) := by decide +kernel
theorem dX4_isWithin_6 : decode cX4_isWithin 6 = .ok (.invokevirtual 72, 3) := by decide +kernel
theorem dX4_isWithin_9 : decode cX4_isWithin 9 = .ok (.iconst 1, 1) := by decide +kernel
theorem dX4_isWithin_10 : decode cX4_isWithin 10 = .ok (.istore_n 3, 1) := by decide +kernel
theorem dX4_isWithin_11 : decode cX4_isWithin 11 = .ok (.iconst 0, 1) := by decide +kernel
theorem dX4_isWithin_12 : decode cX4_isWithin 12 = .ok (.istore 4, 2) := by decide +kernel
theorem dX4_isWithin_14 : decode cX4_isWithin 14 = .ok (.iload 4, 2) := by decide +kernel
theorem dX4_isWithin_16 : decode cX4_isWithin 16 = .ok (.bipush 49, 2) := by decide +kernel
theorem dX4_isWithin_18 : decode cX4_isWithin 18 = .ok (.if_icmp .ge 75, 3) := by decide +kernel
theorem dX4_isWithin_21 : decode cX4_isWithin 21 = .ok (.iload_n 3, 1) := by decide +kernel
theorem dX4_isWithin_22 : decode cX4_isWithin 22 = .ok (.ifCond .eq 63, 3) := by decide +kernel
theorem dX4_isWithin_25 : decode cX4_isWithin 25 = .ok (.iload 4, 2) := by decide +kernel
theorem dX4_isWithin_27 : decode cX4_isWithin 27 = .ok (.bipush 7, 2) := by decide +kernel
theorem dX4_isWithin_29 : decode cX4_isWithin 29 = .ok (.idiv, 1) := by decide +kernel
theorem dX4_isWithin_30 : decode cX4_isWithin 30 = .ok (.aload_n 0, 1) := by decide +kernel
theorem dX4_isWithin_31 : decode cX4_isWithin 31 = .ok (.getfield 7, 3) := by decide +kernel
theorem dX4_isWithin_34 : decode cX4_isWithin 34 = .ok (.if_icmp .ge 47, 3) := by decide +kernel
theorem dX4_isWithin_37 : decode cX4_isWithin 37 = .ok (.iload 4, 2) := by decide +kernel
theorem dX4_isWithin_39 : decode cX4_isWithin 39 = .ok (.bipush 7, 2) := by decide +kernel
theorem dX4_isWithin_41 : decode cX4_isWithin 41 = .ok (.irem, 1) := by decide +kernel
theorem dX4_isWithin_42 : decode cX4_isWithin 42 = .ok (.aload_n 0, 1) := by decide +kernel
theorem dX4_isWithin_43 : decode cX4_isWithin 43 = .ok (.getfield 7, 3) := by decide +kernel
theorem dX4_isWithin_46 : decode cX4_isWithin 46 = .ok (.if_icmp .ge 35, 3) := by decide +kernel
theorem dX4_isWithin_49 : decode cX4_isWithin 49 = .ok (.aload_n 0, 1) := by decide +kernel
theorem dX4_isWithin_50 : decode cX4_isWithin 50 = .ok (.getfield 32, 3) := by decide +kernel
theorem dX4_isWithin_53 : decode cX4_isWithin 53 = .ok (.iload 4, 2) := by decide +kernel
theorem dX4_isWithin_55 : decode cX4_isWithin 55 = .ok (.iaload, 1) := by decide +kernel
theorem dX4_isWithin_56 : decode cX4_isWithin 56 = .ok (.sipush 10000, 3) := by decide +kernel
theorem dX4_isWithin_59 : decode cX4_isWithin 59 = .ok (.if_icmp .ge 22, 3) := by decide +kernel
theorem dX4_isWithin_62 : decode cX4_isWithin 62 = .ok (.aload_n 0, 1) := by decide +kernel
theorem dX4_isWithin_63 : decode cX4_isWithin 63 = .ok (.getfield 35, 3) := by decide +kernel
theorem dX4_isWithin_66 : decode cX4_isWithin 66 = .ok (.iload 4, 2) := by decide +kernel
theorem dX4_isWithin_68 : decode cX4_isWithin 68 = .ok (.iaload, 1) := by decide +kernel
theorem dX4_isWithin_69 : decode cX4_isWithin 69 = .ok (.iload_n 2, 1) := by decide +kernel
theorem dX4_isWithin_70 : decode cX4_isWithin 70 = .ok (.aload_n 0, 1) := by decide +kernel
theorem dX4_isWithin_71 : decode cX4_isWithin 71 = .ok (.getfield 32, 3) := by decide +kernel
theorem dX4_isWithin_74 : decode cX4_isWithin 74 = .ok (.iload 4, 2) := by decide +kernel
theorem dX4_isWithin_76 : decode cX4_isWithin 76 = .ok (.iaload, 1) := by decide +kernel
theorem dX4_isWithin_77 : decode cX4_isWithin 77 = .ok (.imul, 1) := by decide +kernel
theorem dX4_isWithin_78 : decode cX4_isWithin 78 = .ok (.if_icmp .gt 7, 3) := by decide +kernel
theorem dX4_isWithin_81 : decode cX4_isWithin 81 = .ok (.iconst 1, 1) := by decide +kernel
theorem dX4_isWithin_82 : decode cX4_isWithin 82 = .ok (.goto 4, 3) := by decide +kernel
theorem dX4_isWithin_85 : decode cX4_isWithin 85 = .ok (.iconst 0, 1) := by decide +kernel
theorem dX4_isWithin_86 : decode cX4_isWithin 86 = .ok (.istore_n 3, 1) := by decide +kernel
theorem dX4_isWithin_87 : decode cX4_isWithin 87 = .ok (.iinc 4 1, 3) := by decide +kernel
theorem dX4_isWithin_90 : decode cX4_isWithin 90 = .ok (.goto (-76), 3) := by decide +kernel
theorem dX4_isWithin_93 : decode cX4_isWithin 93 = .ok (.iload_n 3, 1) := by decide +kernel
theorem dX4_isWithin_94 : decode cX4_isWithin 94 = .ok (.ireturn, 1) := by decide +kernel
set_option maxRecDepth 20000 in
theorem ggX4_fewestBy_X4_findFar : GoodIn wsX4_fewestBy wsX4_findFar := goodIn_r _ [7, 8, 1, 9, 10, 11, 20, 21, 22, 23, 24, 25, 26, 27, 28, 29, 30, 31] (by decide +kernel) (by decide +kernel)
set_option maxRecDepth 20000 in
theorem gX4_fewestBy_X4_findFar : GoodIn wsX4_fewestBy (wsV RX4 72 RX4 yX4_findFar wsX4_findFar) := goodIn_app (goodIn_of _ (by decide +kernel)) ggX4_fewestBy_X4_findFar
set_option maxRecDepth 20000 in
theorem ggX4_fewestBy_X4_many : GoodIn wsX4_fewestBy wsX4_many := goodIn_r _ [14] (by decide +kernel) (by decide +kernel)
set_option maxRecDepth 20000 in
theorem gX4_fewestBy_X4_many : GoodIn wsX4_fewestBy (va_wsS RX4 76 yX4_many wsX4_many) := goodIn_app (goodIn_of _ (by decide +kernel)) ggX4_fewestBy_X4_many
set_option maxRecDepth 20000 in
theorem ggX4_fewestBy_X4_isWithin : GoodIn wsX4_fewestBy wsX4_isWithin := goodIn_r _ [18, 19, 8, 2, 3, 4, 5, 6, 7, 1, 9, 10, 11, 20, 21, 22, 23, 24, 25, 26, 27, 28, 29, 30, 31] (by decide +kernel) (by decide +kernel)
set_option maxRecDepth 20000 in
theorem gX4_fewestBy_X4_isWithin : GoodIn wsX4_fewestBy (wsV RX4 80 RX4 yX4_isWithin wsX4_isWithin) := goodIn_app (goodIn_of _ (by decide +kernel)) ggX4_fewestBy_X4_isWithin
theorem dX4_fewestBy_0 : decode cX4_fewestBy 0 = .ok (.aload_n 0, 1) := by decide +kernel
theorem dX4_fewestBy_1 : decode cX4_fewestBy 1 = .ok (.iconst 1, 1) := by decide +kernel
theorem dX4_fewestBy_2 : decode cX4_fewestBy 2 = .ok (.aload_n 0, 1) := by decide +kernel
theorem dX4_fewestBy_3 : decode cX4_fewestBy 3 = .ok (.getfield 42, 3) := by decide +kernel
theorem dX4_fewestBy_6 : decode cX4_fewestBy 6 = .ok (.ishl, 1) := by decide +kernel
theorem dX4_fewestBy_7 : decode cX4_fewestBy 7 = .ok (.iconst 1, 1) := by decide +kernel
theorem dX4_fewestBy_8 : decode cX4_fewestBy 8 = .ok (.isub, 1) := by decide +kernel
theorem dX4_fewestBy_9 : decode cX4_fewestBy 9 = .ok (.aload_n 0, 1) := by decide +kernel
theorem dX4_fewestBy_10 : decode cX4_fewestBy 10 = .ok (.getfield 32, 3) := by decide +kernel
theorem dX4_fewestBy_13 : decode cX4_fewestBy 13 = .ok (.invokevirtual 72, 3) := by decide +kernel
theorem dX4_fewestBy_16 : decode cX4_fewestBy 16 = .ok (.iconst 1, 1) := by decide +kernel
theorem dX4_fewestBy_17 : decode cX4_fewestBy 17 = .ok (.aload_n 0, 1) := by decide +kernel
theorem dX4_fewestBy_18 : decode cX4_fewestBy 18 = .ok (.getfield 42, 3) := by decide +kernel
theorem dX4_fewestBy_21 : decode cX4_fewestBy 21 = .ok (.ishl, 1) := by decide +kernel
theorem dX4_fewestBy_22 : decode cX4_fewestBy 22 = .ok (.iconst 1, 1) := by decide +kernel
theorem dX4_fewestBy_23 : decode cX4_fewestBy 23 = .ok (.isub, 1) := by decide +kernel
theorem dX4_fewestBy_24 : decode cX4_fewestBy 24 = .ok (.istore_n 2, 1) := by decide +kernel
theorem dX4_fewestBy_25 : decode cX4_fewestBy 25 = .ok (.iconst 0, 1) := by decide +kernel
theorem dX4_fewestBy_26 : decode cX4_fewestBy 26 = .ok (.istore_n 3, 1) := by decide +kernel
theorem dX4_fewestBy_27 : decode cX4_fewestBy 27 = .ok (.iload_n 3, 1) := by decide +kernel
theorem dX4_fewestBy_28 : decode cX4_fewestBy 28 = .ok (.iconst 1, 1) := by decide +kernel
theorem dX4_fewestBy_29 : decode cX4_fewestBy 29 = .ok (.aload_n 0, 1) := by decide +kernel
theorem dX4_fewestBy_30 : decode cX4_fewestBy 30 = .ok (.getfield 42, 3) := by decide +kernel
theorem dX4_fewestBy_33 : decode cX4_fewestBy 33 = .ok (.ishl, 1) := by decide +kernel
theorem dX4_fewestBy_34 : decode cX4_fewestBy 34 = .ok (.if_icmp .ge 31, 3) := by decide +kernel
theorem dX4_fewestBy_37 : decode cX4_fewestBy 37 = .ok (.iload_n 3, 1) := by decide +kernel
theorem dX4_fewestBy_38 : decode cX4_fewestBy 38 = .ok (.invokestatic 76, 3) := by decide +kernel
theorem dX4_fewestBy_41 : decode cX4_fewestBy 41 = .ok (.iload_n 2, 1) := by decide +kernel
theorem dX4_fewestBy_42 : decode cX4_fewestBy 42 = .ok (.invokestatic 76, 3) := by decide +kernel
theorem dX4_fewestBy_45 : decode cX4_fewestBy 45 = .ok (.if_icmp .ge 14, 3) := by decide +kernel
theorem dX4_fewestBy_48 : decode cX4_fewestBy 48 = .ok (.aload_n 0, 1) := by decide +kernel
theorem dX4_fewestBy_49 : decode cX4_fewestBy 49 = .ok (.iload_n 3, 1) := by decide +kernel
theorem dX4_fewestBy_50 : decode cX4_fewestBy 50 = .ok (.iload_n 1, 1) := by decide +kernel
theorem dX4_fewestBy_51 : decode cX4_fewestBy 51 = .ok (.invokevirtual 80, 3) := by decide +kernel
theorem dX4_fewestBy_54 : decode cX4_fewestBy 54 = .ok (.ifCond .eq 5, 3) := by decide +kernel
theorem dX4_fewestBy_57 : decode cX4_fewestBy 57 = .ok (.iload_n 3, 1) := by decide +kernel
theorem dX4_fewestBy_58 : decode cX4_fewestBy 58 = .ok (.istore_n 2, 1) := by decide +kernel
theorem dX4_fewestBy_59 : decode cX4_fewestBy 59 = .ok (.iinc 3 1, 3) := by decide +kernel
theorem dX4_fewestBy_62 : decode cX4_fewestBy 62 = .ok (.goto (-35), 3) := by decide +kernel
theorem dX4_fewestBy_65 : decode cX4_fewestBy 65 = .ok (.iconst 0, 1) := by decide +kernel
theorem dX4_fewestBy_66 : decode cX4_fewestBy 66 = .ok (.istore_n 3, 1) := by decide +kernel
theorem dX4_fewestBy_67 : decode cX4_fewestBy 67 = .ok (.iload_n 3, 1) := by decide +kernel
theorem dX4_fewestBy_68 : decode cX4_fewestBy 68 = .ok (.iload_n 2, 1) := by decide +kernel
theorem dX4_fewestBy_69 : decode cX4_fewestBy 69 = .ok (.if_icmp .ge 31, 3) := by decide +kernel
theorem dX4_fewestBy_72 : decode cX4_fewestBy 72 = .ok (.iload_n 3, 1) := by decide +kernel
theorem dX4_fewestBy_73 : decode cX4_fewestBy 73 = .ok (.invokestatic 76, 3) := by decide +kernel
theorem dX4_fewestBy_76 : decode cX4_fewestBy 76 = .ok (.iload_n 2, 1) := by decide +kernel
theorem dX4_fewestBy_77 : decode cX4_fewestBy 77 = .ok (.invokestatic 76, 3) := by decide +kernel
theorem dX4_fewestBy_80 : decode cX4_fewestBy 80 = .ok (.if_icmp .ne 14, 3) := by decide +kernel
theorem dX4_fewestBy_83 : decode cX4_fewestBy 83 = .ok (.aload_n 0, 1) := by decide +kernel
theorem dX4_fewestBy_84 : decode cX4_fewestBy 84 = .ok (.iload_n 3, 1) := by decide +kernel
theorem dX4_fewestBy_85 : decode cX4_fewestBy 85 = .ok (.iload_n 1, 1) := by decide +kernel
theorem dX4_fewestBy_86 : decode cX4_fewestBy 86 = .ok (.invokevirtual 80, 3) := by decide +kernel
theorem dX4_fewestBy_89 : decode cX4_fewestBy 89 = .ok (.ifCond .eq 5, 3) := by decide +kernel
theorem dX4_fewestBy_92 : decode cX4_fewestBy 92 = .ok (.iload_n 3, 1) := by decide +kernel
theorem dX4_fewestBy_93 : decode cX4_fewestBy 93 = .ok (.ireturn, 1) := by decide +kernel
theorem dX4_fewestBy_94 : decode cX4_fewestBy 94 = .ok (.iinc 3 1, 3) := by decide +kernel
theorem dX4_fewestBy_97 : decode cX4_fewestBy 97 = .ok (.goto (-30), 3) := by decide +kernel
theorem dX4_fewestBy_100 : decode cX4_fewestBy 100 = .ok (.iload_n 2, 1) := by decide +kernel
theorem dX4_fewestBy_101 : decode cX4_fewestBy 101 = .ok (.ireturn, 1) := by decide +kernel
set_option maxRecDepth 20000 in
theorem ggX4_fewest_X4_in : GoodIn wsX4_fewest wsX4_in := goodIn_r _ [4] (by decide +kernel) (by decide +kernel)
set_option maxRecDepth 20000 in
theorem gX4_fewest_X4_in : GoodIn wsX4_fewest (va_wsS RX4 38 yX4_in wsX4_in) := goodIn_app (goodIn_of _ (by decide +kernel)) ggX4_fewest_X4_in
set_option maxRecDepth 20000 in
theorem ggX4_fewest_X4_fewestBy : GoodIn wsX4_fewest wsX4_fewestBy := goodIn_r _ [8, 9, 10, 11, 12, 13, 3, 14, 15, 16, 17, 18, 19, 20, 21, 22, 23, 24, 25, 26, 27, 28, 29, 30, 31, 32, 33, 34, 35, 36, 37, 38] (by decide +kernel) (by decide +kernel)
set_option maxRecDepth 20000 in
theorem gX4_fewest_X4_fewestBy : GoodIn wsX4_fewest (wsV RX4 84 RX4 yX4_fewestBy wsX4_fewestBy) := goodIn_app (goodIn_of _ (by decide +kernel)) ggX4_fewest_X4_fewestBy
set_option maxRecDepth 20000 in
theorem ggX4_fewest_X4_many : GoodIn wsX4_fewest wsX4_many := goodIn_r _ [21] (by decide +kernel) (by decide +kernel)
set_option maxRecDepth 20000 in
theorem gX4_fewest_X4_many : GoodIn wsX4_fewest (va_wsS RX4 76 yX4_many wsX4_many) := goodIn_app (goodIn_of _ (by decide +kernel)) ggX4_fewest_X4_many
theorem dX4_fewest_0 : decode cX4_fewest 0 = .ok (.iload_n 1, 1) := by decide +kernel
theorem dX4_fewest_1 : decode cX4_fewest 1 = .ok (.iconst 1, 1) := by decide +kernel
theorem dX4_fewest_2 : decode cX4_fewest 2 = .ok (.bipush 9, 2) := by decide +kernel
theorem dX4_fewest_4 : decode cX4_fewest 4 = .ok (.invokestatic 38, 3) := by decide +kernel
theorem dX4_fewest_7 : decode cX4_fewest 7 = .ok (.ifCond .eq 12, 3) := by decide +kernel
theorem dX4_fewest_10 : decode cX4_fewest 10 = .ok (.iload_n 2, 1) := by decide +kernel
theorem dX4_fewest_11 : decode cX4_fewest 11 = .ok (.iconst 0, 1) := by decide +kernel
theorem dX4_fewest_12 : decode cX4_fewest 12 = .ok (.iconst 1, 1) := by decide +kernel
theorem dX4_fewest_13 : decode cX4_fewest 13 = .ok (.invokestatic 38, 3) := by decide +kernel
theorem dX4_fewest_16 : decode cX4_fewest 16 = .ok (.ifCond .ne 6, 3) := by decide +kernel
theorem dX4_fewest_19 : decode cX4_fewest 19 = .ok (.bipush (-3), 2) := by decide +kernel
theorem dX4_fewest_21 : decode cX4_fewest 21 = .ok (.ireturn, 1) := by decide +kernel
theorem dX4_fewest_22 : decode cX4_fewest 22 = .ok (.aload_n 0, 1) := by decide +kernel
theorem dX4_fewest_23 : decode cX4_fewest 23 = .ok (.iload_n 1, 1) := by decide +kernel
theorem dX4_fewest_24 : decode cX4_fewest 24 = .ok (.invokevirtual 84, 3) := by decide +kernel
theorem dX4_fewest_27 : decode cX4_fewest 27 = .ok (.istore_n 3, 1) := by decide +kernel
theorem dX4_fewest_28 : decode cX4_fewest 28 = .ok (.iload_n 2, 1) := by decide +kernel
theorem dX4_fewest_29 : decode cX4_fewest 29 = .ok (.ifCond .ne 10, 3) := by decide +kernel
theorem dX4_fewest_32 : decode cX4_fewest 32 = .ok (.iload_n 3, 1) := by decide +kernel
theorem dX4_fewest_33 : decode cX4_fewest 33 = .ok (.invokestatic 76, 3) := by decide +kernel
theorem dX4_fewest_36 : decode cX4_fewest 36 = .ok (.goto 4, 3) := by decide +kernel
theorem dX4_fewest_39 : decode cX4_fewest 39 = .ok (.iload_n 3, 1) := by decide +kernel
theorem dX4_fewest_40 : decode cX4_fewest 40 = .ok (.ireturn, 1) := by decide +kernel
set_option maxRecDepth 20000 in
theorem ggX4_thin_X4_in : GoodIn wsX4_thin wsX4_in := goodIn_r _ [7] (by decide +kernel) (by decide +kernel)
set_option maxRecDepth 20000 in
theorem gX4_thin_X4_in : GoodIn wsX4_thin (va_wsS RX4 38 yX4_in wsX4_in) := goodIn_app (goodIn_of _ (by decide +kernel)) ggX4_thin_X4_in
set_option maxRecDepth 20000 in
theorem ggX4_thin_X4_fewestBy : GoodIn wsX4_thin wsX4_fewestBy := goodIn_r _ [11, 1, 12, 13, 14, 15, 6, 16, 17, 3, 18, 19, 20, 21, 22, 23, 24, 25, 26, 27, 28, 29, 30, 31, 32, 33, 34, 35, 36, 37, 38, 39] (by decide +kernel) (by decide +kernel)
set_option maxRecDepth 20000 in
theorem gX4_thin_X4_fewestBy : GoodIn wsX4_thin (wsV RX4 84 RX4 yX4_fewestBy wsX4_fewestBy) := goodIn_app (goodIn_of _ (by decide +kernel)) ggX4_thin_X4_fewestBy
set_option maxRecDepth 20000 in
theorem ggX4_thin_X4_many : GoodIn wsX4_thin wsX4_many := goodIn_r _ [22] (by decide +kernel) (by decide +kernel)
set_option maxRecDepth 20000 in
theorem gX4_thin_X4_many : GoodIn wsX4_thin (va_wsS RX4 76 yX4_many wsX4_many) := goodIn_app (goodIn_of _ (by decide +kernel)) ggX4_thin_X4_many
theorem dX4_thin_0 : decode cX4_thin 0 = .ok (.iload_n 1, 1) := by decide +kernel
theorem dX4_thin_1 : decode cX4_thin 1 = .ok (.iconst 1, 1) := by decide +kernel
theorem dX4_thin_2 : decode cX4_thin 2 = .ok (.bipush 9, 2) := by decide +kernel
theorem dX4_thin_4 : decode cX4_thin 4 = .ok (.invokestatic 38, 3) := by decide +kernel
theorem dX4_thin_7 : decode cX4_thin 7 = .ok (.ifCond .ne 6, 3) := by decide +kernel
theorem dX4_thin_10 : decode cX4_thin 10 = .ok (.bipush (-3), 2) := by decide +kernel
theorem dX4_thin_12 : decode cX4_thin 12 = .ok (.ireturn, 1) := by decide +kernel
theorem dX4_thin_13 : decode cX4_thin 13 = .ok (.aload_n 0, 1) := by decide +kernel
theorem dX4_thin_14 : decode cX4_thin 14 = .ok (.iload_n 1, 1) := by decide +kernel
theorem dX4_thin_15 : decode cX4_thin 15 = .ok (.invokevirtual 84, 3) := by decide +kernel
theorem dX4_thin_18 : decode cX4_thin 18 = .ok (.istore_n 2, 1) := by decide +kernel
theorem dX4_thin_19 : decode cX4_thin 19 = .ok (.iconst 0, 1) := by decide +kernel
theorem dX4_thin_20 : decode cX4_thin 20 = .ok (.istore_n 3, 1) := by decide +kernel
theorem dX4_thin_21 : decode cX4_thin 21 = .ok (.iload_n 3, 1) := by decide +kernel
theorem dX4_thin_22 : decode cX4_thin 22 = .ok (.aload_n 0, 1) := by decide +kernel
theorem dX4_thin_23 : decode cX4_thin 23 = .ok (.getfield 42, 3) := by decide +kernel
theorem dX4_thin_26 : decode cX4_thin 26 = .ok (.if_icmp .ge 34, 3) := by decide +kernel
theorem dX4_thin_29 : decode cX4_thin 29 = .ok (.aload_n 0, 1) := by decide +kernel
theorem dX4_thin_30 : decode cX4_thin 30 = .ok (.getfield 23, 3) := by decide +kernel
theorem dX4_thin_33 : decode cX4_thin 33 = .ok (.iload_n 3, 1) := by decide +kernel
theorem dX4_thin_34 : decode cX4_thin 34 = .ok (.iload_n 2, 1) := by decide +kernel
theorem dX4_thin_35 : decode cX4_thin 35 = .ok (.iload_n 3, 1) := by decide +kernel
theorem dX4_thin_36 : decode cX4_thin 36 = .ok (.ishr, 1) := by decide +kernel
theorem dX4_thin_37 : decode cX4_thin 37 = .ok (.iconst 1, 1) := by decide +kernel
theorem dX4_thin_38 : decode cX4_thin 38 = .ok (.iand, 1) := by decide +kernel
theorem dX4_thin_39 : decode cX4_thin 39 = .ok (.iconst 1, 1) := by decide +kernel
theorem dX4_thin_40 : decode cX4_thin 40 = .ok (.if_icmp .ne 12, 3) := by decide +kernel
theorem dX4_thin_43 : decode cX4_thin 43 = .ok (.aload_n 0, 1) := by decide +kernel
theorem dX4_thin_44 : decode cX4_thin 44 = .ok (.getfield 20, 3) := by decide +kernel
theorem dX4_thin_47 : decode cX4_thin 47 = .ok (.iload_n 3, 1) := by decide +kernel
theorem dX4_thin_48 : decode cX4_thin 48 = .ok (.iaload, 1) := by decide +kernel
theorem dX4_thin_49 : decode cX4_thin 49 = .ok (.goto 4, 3) := by decide +kernel
theorem dX4_thin_52 : decode cX4_thin 52 = .ok (.iconst 0, 1) := by decide +kernel
theorem dX4_thin_53 : decode cX4_thin 53 = .ok (.iastore, 1) := by decide +kernel
theorem dX4_thin_54 : decode cX4_thin 54 = .ok (.iinc 3 1, 3) := by decide +kernel
theorem dX4_thin_57 : decode cX4_thin 57 = .ok (.goto (-36), 3) := by decide +kernel
theorem dX4_thin_60 : decode cX4_thin 60 = .ok (.iload_n 2, 1) := by decide +kernel
theorem dX4_thin_61 : decode cX4_thin 61 = .ok (.invokestatic 76, 3) := by decide +kernel
theorem dX4_thin_64 : decode cX4_thin 64 = .ok (.ireturn, 1) := by decide +kernel
set_option maxRecDepth 20000 in
theorem ggX4_far_X4_isNode : GoodIn wsX4_far wsX4_isNode := goodIn_r _ [7, 8, 9, 10, 6, 11, 24, 25, 26, 27, 28, 29, 30, 31, 32, 33, 34, 35] (by decide +kernel) (by decide +kernel)
set_option maxRecDepth 20000 in
theorem gX4_far_X4_isNode : GoodIn wsX4_far (wsV RX4 45 RX4 yX4_isNode wsX4_isNode) := goodIn_app (goodIn_of _ (by decide +kernel)) ggX4_far_X4_isNode
set_option maxRecDepth 20000 in
theorem ggX4_far_X4_in : GoodIn wsX4_far wsX4_in := goodIn_r _ [11] (by decide +kernel) (by decide +kernel)
set_option maxRecDepth 20000 in
theorem gX4_far_X4_in : GoodIn wsX4_far (va_wsS RX4 38 yX4_in wsX4_in) := goodIn_app (goodIn_of _ (by decide +kernel)) ggX4_far_X4_in
set_option maxRecDepth 20000 in
theorem ggX4_far_X4_keptSet : GoodIn wsX4_far wsX4_keptSet := goodIn_r _ [15, 1, 16, 24, 25, 26, 27, 28, 29, 30, 31, 32, 33, 34, 35] (by decide +kernel) (by decide +kernel)
set_option maxRecDepth 20000 in
theorem gX4_far_X4_keptSet : GoodIn wsX4_far (wsV RX4 87 RX4 yX4_keptSet wsX4_keptSet) := goodIn_app (goodIn_of _ (by decide +kernel)) ggX4_far_X4_keptSet
set_option maxRecDepth 20000 in
theorem ggX4_far_X4_findFar : GoodIn wsX4_far wsX4_findFar := goodIn_r _ [20, 8, 1, 21, 22, 23, 24, 25, 26, 27, 28, 29, 30, 31, 32, 33, 34, 35] (by decide +kernel) (by decide +kernel)
set_option maxRecDepth 20000 in
theorem gX4_far_X4_findFar : GoodIn wsX4_far (wsV RX4 72 RX4 yX4_findFar wsX4_findFar) := goodIn_app (goodIn_of _ (by decide +kernel)) ggX4_far_X4_findFar
theorem dX4_far_0 : decode cX4_far 0 = .ok (.aload_n 0, 1) := by decide +kernel
theorem dX4_far_1 : decode cX4_far 1 = .ok (.iload_n 1, 1) := by decide +kernel
theorem dX4_far_2 : decode cX4_far 2 = .ok (.invokevirtual 45, 3) := by decide +kernel
theorem dX4_far_5 : decode cX4_far 5 = .ok (.ifCond .eq 11, 3) := by decide +kernel
theorem dX4_far_8 : decode cX4_far 8 = .ok (.aload_n 0, 1) := by decide +kernel
theorem dX4_far_9 : decode cX4_far 9 = .ok (.iload_n 2, 1) := by decide +kernel
theorem dX4_far_10 : decode cX4_far 10 = .ok (.invokevirtual 45, 3) := by decide +kernel
theorem dX4_far_13 : decode cX4_far 13 = .ok (.ifCond .ne 6, 3) := by decide +kernel
theorem dX4_far_16 : decode cX4_far 16 = .ok (.bipush (-2), 2) := by decide +kernel
theorem dX4_far_18 : decode cX4_far 18 = .ok (.ireturn, 1) := by decide +kernel
theorem dX4_far_19 : decode cX4_far 19 = .ok (.iload_n 3, 1) := by decide +kernel
theorem dX4_far_20 : decode cX4_far 20 = .ok (.iconst 0, 1) := by decide +kernel
theorem dX4_far_21 : decode cX4_far 21 = .ok (.iconst 1, 1) := by decide +kernel
theorem dX4_far_22 : decode cX4_far 22 = .ok (.invokestatic 38, 3) := by decide +kernel
theorem dX4_far_25 : decode cX4_far 25 = .ok (.ifCond .ne 6, 3) := by decide +kernel
theorem dX4_far_28 : decode cX4_far 28 = .ok (.bipush (-3), 2) := by decide +kernel
theorem dX4_far_30 : decode cX4_far 30 = .ok (.ireturn, 1) := by decide +kernel
theorem dX4_far_31 : decode cX4_far 31 = .ok (.aload_n 0, 1) := by decide +kernel
theorem dX4_far_32 : decode cX4_far 32 = .ok (.iload_n 3, 1) := by decide +kernel
theorem dX4_far_33 : decode cX4_far 33 = .ok (.ifCond .ne 14, 3) := by decide +kernel
theorem dX4_far_36 : decode cX4_far 36 = .ok (.iconst 1, 1) := by decide +kernel
theorem dX4_far_37 : decode cX4_far 37 = .ok (.aload_n 0, 1) := by decide +kernel
theorem dX4_far_38 : decode cX4_far 38 = .ok (.getfield 42, 3) := by decide +kernel
theorem dX4_far_41 : decode cX4_far 41 = .ok (.ishl, 1) := by decide +kernel
theorem dX4_far_42 : decode cX4_far 42 = .ok (.iconst 1, 1) := by decide +kernel
theorem dX4_far_43 : decode cX4_far 43 = .ok (.isub, 1) := by decide +kernel
theorem dX4_far_44 : decode cX4_far 44 = .ok (.goto 7, 3) := by decide +kernel
theorem dX4_far_47 : decode cX4_far 47 = .ok (.aload_n 0, 1) := by decide +kernel
theorem dX4_far_48 : decode cX4_far 48 = .ok (.invokevirtual 87, 3) := by decide +kernel
theorem dX4_far_51 : decode cX4_far 51 = .ok (.aload_n 0, 1) := by decide +kernel
theorem dX4_far_52 : decode cX4_far 52 = .ok (.getfield 32, 3) := by decide +kernel
theorem dX4_far_55 : decode cX4_far 55 = .ok (.invokevirtual 72, 3) := by decide +kernel
theorem dX4_far_58 : decode cX4_far 58 = .ok (.aload_n 0, 1) := by decide +kernel
theorem dX4_far_59 : decode cX4_far 59 = .ok (.getfield 32, 3) := by decide +kernel
theorem dX4_far_62 : decode cX4_far 62 = .ok (.bipush 7, 2) := by decide +kernel
theorem dX4_far_64 : decode cX4_far 64 = .ok (.iload_n 1, 1) := by decide +kernel
theorem dX4_far_65 : decode cX4_far 65 = .ok (.imul, 1) := by decide +kernel
theorem dX4_far_66 : decode cX4_far 66 = .ok (.iload_n 2, 1) := by decide +kernel
theorem dX4_far_67 : decode cX4_far 67 = .ok (.iadd, 1) := by decide +kernel
theorem dX4_far_68 : decode cX4_far 68 = .ok (.iaload, 1) := by decide +kernel
theorem dX4_far_69 : decode cX4_far 69 = .ok (.sipush 10000, 3) := by decide +kernel
theorem dX4_far_72 : decode cX4_far 72 = .ok (.if_icmp .lt 7, 3) := by decide +kernel
theorem dX4_far_75 : decode cX4_far 75 = .ok (.iconst (-1), 1) := by decide +kernel
theorem dX4_far_76 : decode cX4_far 76 = .ok (.goto 14, 3) := by decide +kernel
theorem dX4_far_79 : decode cX4_far 79 = .ok (.aload_n 0, 1) := by decide +kernel
theorem dX4_far_80 : decode cX4_far 80 = .ok (.getfield 32, 3) := by decide +kernel
theorem dX4_far_83 : decode cX4_far 83 = .ok (.bipush 7, 2) := by decide +kernel
theorem dX4_far_85 : decode cX4_far 85 = .ok (.iload_n 1, 1) := by decide +kernel
theorem dX4_far_86 : decode cX4_far 86 = .ok (.imul, 1) := by decide +kernel
theorem dX4_far_87 : decode cX4_far 87 = .ok (.iload_n 2, 1) := by decide +kernel
theorem dX4_far_88 : decode cX4_far 88 = .ok (.iadd, 1) := by decide +kernel
theorem dX4_far_89 : decode cX4_far 89 = .ok (.iaload, 1) := by decide +kernel
theorem dX4_far_90 : decode cX4_far 90 = .ok (.ireturn, 1) := by decide +kernel
set_option maxRecDepth 20000 in
theorem ggX4_stretch_X4_in : GoodIn wsX4_stretch wsX4_in := goodIn_r _ [8] (by decide +kernel) (by decide +kernel)
set_option maxRecDepth 20000 in
theorem gX4_stretch_X4_in : GoodIn wsX4_stretch (va_wsS RX4 38 yX4_in wsX4_in) := goodIn_app (goodIn_of _ (by decide +kernel)) ggX4_stretch_X4_in
set_option maxRecDepth 20000 in
theorem ggX4_stretch_X4_findFar : GoodIn wsX4_stretch wsX4_findFar := goodIn_r _ [12, 4, 1, 13, 14, 15, 24, 25, 26, 27, 28, 29, 30, 31, 32, 33, 34, 35] (by decide +kernel) (by decide +kernel)
set_option maxRecDepth 20000 in
theorem gX4_stretch_X4_findFar : GoodIn wsX4_stretch (wsV RX4 72 RX4 yX4_findFar wsX4_findFar) := goodIn_app (goodIn_of _ (by decide +kernel)) ggX4_stretch_X4_findFar
set_option maxRecDepth 20000 in
theorem ggX4_stretch_X4_keptSet : GoodIn wsX4_stretch wsX4_keptSet := goodIn_r _ [19, 1, 20, 24, 25, 26, 27, 28, 29, 30, 31, 32, 33, 34, 35] (by decide +kernel) (by decide +kernel)
set_option maxRecDepth 20000 in
theorem gX4_stretch_X4_keptSet : GoodIn wsX4_stretch (wsV RX4 87 RX4 yX4_keptSet wsX4_keptSet) := goodIn_app (goodIn_of _ (by decide +kernel)) ggX4_stretch_X4_keptSet
set_option maxRecDepth 20000 in
theorem ggX4_stretch_X4_common : GoodIn wsX4_stretch wsX4_common := goodIn_r _ [23] (by decide +kernel) (by decide +kernel)
set_option maxRecDepth 20000 in
theorem gX4_stretch_X4_common : GoodIn wsX4_stretch (va_wsS RX4 90 yX4_common wsX4_common) := goodIn_app (goodIn_of _ (by decide +kernel)) ggX4_stretch_X4_common
theorem dX4_stretch_0 : decode cX4_stretch 0 = .ok (.iload_n 1, 1) := by decide +kernel
theorem dX4_stretch_1 : decode cX4_stretch 1 = .ok (.iconst 0, 1) := by decide +kernel
theorem dX4_stretch_2 : decode cX4_stretch 2 = .ok (.iconst 1, 1) := by decide +kernel
theorem dX4_stretch_3 : decode cX4_stretch 3 = .ok (.invokestatic 38, 3) := by decide +kernel
theorem dX4_stretch_6 : decode cX4_stretch 6 = .ok (.ifCond .ne 6, 3) := by decide +kernel
theorem dX4_stretch_9 : decode cX4_stretch 9 = .ok (.bipush (-3), 2) := by decide +kernel
theorem dX4_stretch_11 : decode cX4_stretch 11 = .ok (.ireturn, 1) := by decide +kernel
theorem dX4_stretch_12 : decode cX4_stretch 12 = .ok (.aload_n 0, 1) := by decide +kernel
theorem dX4_stretch_13 : decode cX4_stretch 13 = .ok (.iconst 1, 1) := by decide +kernel
theorem dX4_stretch_14 : decode cX4_stretch 14 = .ok (.aload_n 0, 1) := by decide +kernel
theorem dX4_stretch_15 : decode cX4_stretch 15 = .ok (.getfield 42, 3) := by decide +kernel
theorem dX4_stretch_18 : decode cX4_stretch 18 = .ok (.ishl, 1) := by decide +kernel
theorem dX4_stretch_19 : decode cX4_stretch 19 = .ok (.iconst 1, 1) := by decide +kernel
theorem dX4_stretch_20 : decode cX4_stretch 20 = .ok (.isub, 1) := by decide +kernel
theorem dX4_stretch_21 : decode cX4_stretch 21 = .ok (.aload_n 0, 1) := by decide +kernel
theorem dX4_stretch_22 : decode cX4_stretch 22 = .ok (.getfield 32, 3) := by decide +kernel
theorem dX4_stretch_25 : decode cX4_stretch 25 = .ok (.invokevirtual 72, 3) := by decide +kernel
theorem dX4_stretch_28 : decode cX4_stretch 28 = .ok (.aload_n 0, 1) := by decide +kernel
theorem dX4_stretch_29 : decode cX4_stretch 29 = .ok (.aload_n 0, 1) := by decide +kernel
theorem dX4_stretch_30 : decode cX4_stretch 30 = .ok (.invokevirtual 87, 3) := by decide +kernel
theorem dX4_stretch_33 : decode cX4_stretch 33 = .ok (.aload_n 0, 1) := by decide +kernel
theorem dX4_stretch_34 : decode cX4_stretch 34 = .ok (.getfield 35, 3) := by decide +kernel
theorem dX4_stretch_37 : decode cX4_stretch 37 = .ok (.invokevirtual 72, 3) := by decide +kernel
theorem dX4_stretch_40 : decode cX4_stretch 40 = .ok (.iconst 0, 1) := by decide +kernel
theorem dX4_stretch_41 : decode cX4_stretch 41 = .ok (.istore_n 2, 1) := by decide +kernel
theorem dX4_stretch_42 : decode cX4_stretch 42 = .ok (.iconst 1, 1) := by decide +kernel
theorem dX4_stretch_43 : decode cX4_stretch 43 = .ok (.istore_n 3, 1) := by decide +kernel
theorem dX4_stretch_44 : decode cX4_stretch 44 = .ok (.iconst 0, 1) := by decide +kernel
theorem dX4_stretch_45 : decode cX4_stretch 45 = .ok (.istore 4, 2) := by decide +kernel
theorem dX4_stretch_47 : decode cX4_stretch 47 = .ok (.iload 4, 2) := by decide +kernel
theorem dX4_stretch_49 : decode cX4_stretch 49 = .ok (.aload_n 0, 1) := by decide +kernel
theorem dX4_stretch_50 : decode cX4_stretch 50 = .ok (.getfield 7, 3) := by decide +kernel
theorem dX4_stretch_53 : decode cX4_stretch 53 = .ok (.if_icmp .ge 98, 3) := by decide +kernel
theorem dX4_stretch_56 : decode cX4_stretch 56 = .ok (.iconst 0, 1) := by decide +kernel
theorem dX4_stretch_57 : decode cX4_stretch 57 = .ok (.istore 5, 2) := by decide +kernel
theorem dX4_stretch_59 : decode cX4_stretch 59 = .ok (.iload 5, 2) := by decide +kernel
theorem dX4_stretch_61 : decode cX4_stretch 61 = .ok (.iload 4, 2) := by decide +kernel
theorem dX4_stretch_63 : decode cX4_stretch 63 = .ok (.if_icmp .ge 82, 3) := by decide +kernel
theorem dX4_stretch_66 : decode cX4_stretch 66 = .ok (.aload_n 0, 1) := by decide +kernel
theorem dX4_stretch_67 : decode cX4_stretch 67 = .ok (.getfield 32, 3) := by decide +kernel
theorem dX4_stretch_70 : decode cX4_stretch 70 = .ok (.bipush 7, 2) := by decide +kernel
theorem dX4_stretch_72 : decode cX4_stretch 72 = .ok (.iload 4, 2) := by decide +kernel
theorem dX4_stretch_74 : decode cX4_stretch 74 = .ok (.imul, 1) := by decide +kernel
theorem dX4_stretch_75 : decode cX4_stretch 75 = .ok (.iload 5, 2) := by decide +kernel
theorem dX4_stretch_77 : decode cX4_stretch 77 = .ok (.iadd, 1) := by decide +kernel
theorem dX4_stretch_78 : decode cX4_stretch 78 = .ok (.iaload, 1) := by decide +kernel
theorem dX4_stretch_79 : decode cX4_stretch 79 = .ok (.istore 6, 2) := by decide +kernel
theorem dX4_stretch_81 : decode cX4_stretch 81 = .ok (.aload_n 0, 1) := by decide +kernel
theorem dX4_stretch_82 : decode cX4_stretch 82 = .ok (.getfield 35, 3) := by decide +kernel
theorem dX4_stretch_85 : decode cX4_stretch 85 = .ok (.bipush 7, 2) := by decide +kernel
theorem dX4_stretch_87 : decode cX4_stretch 87 = .ok (.iload 4, 2) := by decide +kernel
theorem dX4_stretch_89 : decode cX4_stretch 89 = .ok (.imul, 1) := by decide +kernel
theorem dX4_stretch_90 : decode cX4_stretch 90 = .ok (.iload 5, 2) := by decide +kernel
theorem dX4_stretch_92 : decode cX4_stretch 92 = .ok (.iadd, 1) := by decide +kernel
theorem dX4_stretch_93 : decode cX4_stretch 93 = .ok (.iaload, 1) := by decide +kernel
theorem dX4_stretch_94 : decode cX4_stretch 94 = .ok (.istore 7, 2) := by decide +kernel
theorem dX4_stretch_96 : decode cX4_stretch 96 = .ok (.iload 6, 2) := by decide +kernel
theorem dX4_stretch_98 : decode cX4_stretch 98 = .ok (.sipush 10000, 3) := by decide +kernel
theorem dX4_stretch_101 : decode cX4_stretch 101 = .ok (.if_icmp .ge 13, 3) := by decide +kernel
theorem dX4_stretch_104 : decode cX4_stretch 104 = .ok (.iload 7, 2) := by decide +kernel
theorem dX4_stretch_106 : decode cX4_stretch 106 = .ok (.sipush 10000, 3) := by decide +kernel
theorem dX4_stretch_109 : decode cX4_stretch 109 = .ok (.if_icmp .lt 5, 3) := by decide +kernel
theorem dX4_stretch_112 : decode cX4_stretch 112 = .ok (.iconst (-1), 1) := by decide +kernel
theorem dX4_stretch_113 : decode cX4_stretch 113 = .ok (.ireturn, 1) := by decide +kernel
theorem dX4_stretch_114 : decode cX4_stretch 114 = .ok (.iload 6, 2) := by decide +kernel
theorem dX4_stretch_116 : decode cX4_stretch 116 = .ok (.sipush 10000, 3) := by decide +kernel
theorem dX4_stretch_119 : decode cX4_stretch 119 = .ok (.if_icmp .ge 20, 3) := by decide +kernel
theorem dX4_stretch_122 : decode cX4_stretch 122 = .ok (.iload 7, 2) := by decide +kernel
theorem dX4_stretch_124 : decode cX4_stretch 124 = .ok (.iload_n 3, 1) := by decide +kernel
theorem dX4_stretch_125 : decode cX4_stretch 125 = .ok (.imul, 1) := by decide +kernel
theorem dX4_stretch_126 : decode cX4_stretch 126 = .ok (.iload_n 2, 1) := by decide +kernel
theorem dX4_stretch_127 : decode cX4_stretch 127 = .ok (.iload 6, 2) := by decide +kernel
theorem dX4_stretch_129 : decode cX4_stretch 129 = .ok (.imul, 1) := by decide +kernel
theorem dX4_stretch_130 : decode cX4_stretch 130 = .ok (.if_icmp .le 9, 3) := by decide +kernel
theorem dX4_stretch_133 : decode cX4_stretch 133 = .ok (.iload 7, 2) := by decide +kernel
theorem dX4_stretch_135 : decode cX4_stretch 135 = .ok (.istore_n 2, 1) := by decide +kernel
theorem dX4_stretch_136 : decode cX4_stretch 136 = .ok (.iload 6, 2) := by decide +kernel
theorem dX4_stretch_138 : decode cX4_stretch 138 = .ok (.istore_n 3, 1) := by decide +kernel
theorem dX4_stretch_139 : decode cX4_stretch 139 = .ok (.iinc 5 1, 3) := by decide +kernel
theorem dX4_stretch_142 : decode cX4_stretch 142 = .ok (.goto (-83), 3) := by decide +kernel
theorem dX4_stretch_145 : decode cX4_stretch 145 = .ok (.iinc 4 1, 3) := by decide +kernel
theorem dX4_stretch_148 : decode cX4_stretch 148 = .ok (.goto (-101), 3) := by decide +kernel
theorem dX4_stretch_151 : decode cX4_stretch 151 = .ok (.iload_n 2, 1) := by decide +kernel
theorem dX4_stretch_152 : decode cX4_stretch 152 = .ok (.ifCond .ne 5, 3) := by decide +kernel
theorem dX4_stretch_155 : decode cX4_stretch 155 = .ok (.iconst (-1), 1) := by decide +kernel
theorem dX4_stretch_156 : decode cX4_stretch 156 = .ok (.ireturn, 1) := by decide +kernel
theorem dX4_stretch_157 : decode cX4_stretch 157 = .ok (.iload_n 2, 1) := by decide +kernel
theorem dX4_stretch_158 : decode cX4_stretch 158 = .ok (.i2l, 1) := by decide +kernel
theorem dX4_stretch_159 : decode cX4_stretch 159 = .ok (.iload_n 3, 1) := by decide +kernel
theorem dX4_stretch_160 : decode cX4_stretch 160 = .ok (.i2l, 1) := by decide +kernel
theorem dX4_stretch_161 : decode cX4_stretch 161 = .ok (.invokestatic 90, 3) := by decide +kernel
theorem dX4_stretch_164 : decode cX4_stretch 164 = .ok (.l2i, 1) := by decide +kernel
theorem dX4_stretch_165 : decode cX4_stretch 165 = .ok (.istore 4, 2) := by decide +kernel
theorem dX4_stretch_167 : decode cX4_stretch 167 = .ok (.iload_n 1, 1) := by decide +kernel
theorem dX4_stretch_168 : decode cX4_stretch 168 = .ok (.ifCond .ne 10, 3) := by decide +kernel
theorem dX4_stretch_171 : decode cX4_stretch 171 = .ok (.iload_n 2, 1) := by decide +kernel
theorem dX4_stretch_172 : decode cX4_stretch 172 = .ok (.iload 4, 2) := by decide +kernel
theorem dX4_stretch_174 : decode cX4_stretch 174 = .ok (.idiv, 1) := by decide +kernel
theorem dX4_stretch_175 : decode cX4_stretch 175 = .ok (.goto 7, 3) := by decide +kernel
theorem dX4_stretch_178 : decode cX4_stretch 178 = .ok (.iload_n 3, 1) := by decide +kernel
theorem dX4_stretch_179 : decode cX4_stretch 179 = .ok (.iload 4, 2) := by decide +kernel
theorem dX4_stretch_181 : decode cX4_stretch 181 = .ok (.idiv, 1) := by decide +kernel
theorem dX4_stretch_182 : decode cX4_stretch 182 = .ok (.ireturn, 1) := by decide +kernel
theorem dX4_common_0 : decode cX4_common 0 = .ok (.lload_n 0, 1) := by decide +kernel
theorem dX4_common_1 : decode cX4_common 1 = .ok (.lstore 4, 2) := by decide +kernel
theorem dX4_common_3 : decode cX4_common 3 = .ok (.lload_n 2, 1) := by decide +kernel
theorem dX4_common_4 : decode cX4_common 4 = .ok (.lstore 6, 2) := by decide +kernel
theorem dX4_common_6 : decode cX4_common 6 = .ok (.lload 6, 2) := by decide +kernel
theorem dX4_common_8 : decode cX4_common 8 = .ok (.lconst 0, 1) := by decide +kernel
theorem dX4_common_9 : decode cX4_common 9 = .ok (.lcmp, 1) := by decide +kernel
theorem dX4_common_10 : decode cX4_common 10 = .ok (.ifCond .eq 21, 3) := by decide +kernel
theorem dX4_common_13 : decode cX4_common 13 = .ok (.lload 4, 2) := by decide +kernel
theorem dX4_common_15 : decode cX4_common 15 = .ok (.lload 6, 2) := by decide +kernel
theorem dX4_common_17 : decode cX4_common 17 = .ok (.lrem, 1) := by decide +kernel
theorem dX4_common_18 : decode cX4_common 18 = .ok (.lstore 8, 2) := by decide +kernel
theorem dX4_common_20 : decode cX4_common 20 = .ok (.lload 6, 2) := by decide +kernel
theorem dX4_common_22 : decode cX4_common 22 = .ok (.lstore 4, 2) := by decide +kernel
theorem dX4_common_24 : decode cX4_common 24 = .ok (.lload 8, 2) := by decide +kernel
theorem dX4_common_26 : decode cX4_common 26 = .ok (.lstore 6, 2) := by decide +kernel
theorem dX4_common_28 : decode cX4_common 28 = .ok (.goto (-22), 3) := by decide +kernel
theorem dX4_common_31 : decode cX4_common 31 = .ok (.lload 4, 2) := by decide +kernel
theorem dX4_common_33 : decode cX4_common 33 = .ok (.lreturn, 1) := by decide +kernel
set_option maxRecDepth 20000 in
theorem ggX4_products_X4_many : GoodIn wsX4_products wsX4_many := goodIn_r _ [8] (by decide +kernel) (by decide +kernel)
set_option maxRecDepth 20000 in
theorem gX4_products_X4_many : GoodIn wsX4_products (va_wsS RX4 76 yX4_many wsX4_many) := goodIn_app (goodIn_of _ (by decide +kernel)) ggX4_products_X4_many
set_option maxRecDepth 20000 in
theorem ggX4_products_X4_apart : GoodIn wsX4_products wsX4_apart := goodIn_r _ [12, 4, 20, 21, 22, 23, 24, 25, 26, 27, 28, 29, 30, 31] (by decide +kernel) (by decide +kernel)
set_option maxRecDepth 20000 in
theorem gX4_products_X4_apart : GoodIn wsX4_products (wsV RX4 63 RX4 yX4_apart wsX4_apart) := goodIn_app (goodIn_of _ (by decide +kernel)) ggX4_products_X4_apart
set_option maxRecDepth 20000 in
theorem ggX4_products_X4_join : GoodIn wsX4_products wsX4_join := goodIn_r _ [16, 4, 17, 18, 19, 20, 21, 22, 23, 24, 25, 26, 27, 28, 29, 30, 31] (by decide +kernel) (by decide +kernel)
set_option maxRecDepth 20000 in
theorem gX4_products_X4_join : GoodIn wsX4_products (wsV RX4 66 RX4 yX4_join wsX4_join) := goodIn_app (goodIn_of _ (by decide +kernel)) ggX4_products_X4_join
theorem dX4_products_0 : decode cX4_products 0 = .ok (.lconst 0, 1) := by decide +kernel
theorem dX4_products_1 : decode cX4_products 1 = .ok (.lstore 5, 2) := by decide +kernel
theorem dX4_products_3 : decode cX4_products 3 = .ok (.iconst 0, 1) := by decide +kernel
theorem dX4_products_4 : decode cX4_products 4 = .ok (.istore 7, 2) := by decide +kernel
theorem dX4_products_6 : decode cX4_products 6 = .ok (.iload 7, 2) := by decide +kernel
theorem dX4_products_8 : decode cX4_products 8 = .ok (.iconst 1, 1) := by decide +kernel
theorem dX4_products_9 : decode cX4_products 9 = .ok (.aload_n 0, 1) := by decide +kernel
theorem dX4_products_10 : decode cX4_products 10 = .ok (.getfield 42, 3) := by decide +kernel
theorem dX4_products_13 : decode cX4_products 13 = .ok (.ishl, 1) := by decide +kernel
theorem dX4_products_14 : decode cX4_products 14 = .ok (.if_icmp .ge 134, 3) := by decide +kernel
theorem dX4_products_17 : decode cX4_products 17 = .ok (.iload 7, 2) := by decide +kernel
theorem dX4_products_19 : decode cX4_products 19 = .ok (.invokestatic 76, 3) := by decide +kernel
theorem dX4_products_22 : decode cX4_products 22 = .ok (.iload_n 1, 1) := by decide +kernel
theorem dX4_products_23 : decode cX4_products 23 = .ok (.if_icmp .ne 119, 3) := by decide +kernel
theorem dX4_products_26 : decode cX4_products 26 = .ok (.lconst 1, 1) := by decide +kernel
theorem dX4_products_27 : decode cX4_products 27 = .ok (.lstore 8, 2) := by decide +kernel
theorem dX4_products_29 : decode cX4_products 29 = .ok (.aload_n 0, 1) := by decide +kernel
theorem dX4_products_30 : decode cX4_products 30 = .ok (.invokevirtual 63, 3) := by decide +kernel
theorem dX4_products_33 : decode cX4_products 33 = .ok (.iconst 0, 1) := by decide +kernel
theorem dX4_products_34 : decode cX4_products 34 = .ok (.istore 10, 2) := by decide +kernel
theorem dX4_products_36 : decode cX4_products 36 = .ok (.iload 10, 2) := by decide +kernel
theorem dX4_products_38 : decode cX4_products 38 = .ok (.aload_n 0, 1) := by decide +kernel
theorem dX4_products_39 : decode cX4_products 39 = .ok (.getfield 42, 3) := by decide +kernel
theorem dX4_products_42 : decode cX4_products 42 = .ok (.if_icmp .ge 67, 3) := by decide +kernel
theorem dX4_products_45 : decode cX4_products 45 = .ok (.lload 8, 2) := by decide +kernel
theorem dX4_products_47 : decode cX4_products 47 = .ok (.lconst 0, 1) := by decide +kernel
theorem dX4_products_48 : decode cX4_products 48 = .ok (.lcmp, 1) := by decide +kernel
theorem dX4_products_49 : decode cX4_products 49 = .ok (.ifCond .le 60, 3) := by decide +kernel
theorem dX4_products_52 : decode cX4_products 52 = .ok (.iload 7, 2) := by decide +kernel
theorem dX4_products_54 : decode cX4_products 54 = .ok (.iload 10, 2) := by decide +kernel
theorem dX4_products_56 : decode cX4_products 56 = .ok (.ishr, 1) := by decide +kernel
theorem dX4_products_57 : decode cX4_products 57 = .ok (.iconst 1, 1) := by decide +kernel
theorem dX4_products_58 : decode cX4_products 58 = .ok (.iand, 1) := by decide +kernel
theorem dX4_products_59 : decode cX4_products 59 = .ok (.iconst 1, 1) := by decide +kernel
theorem dX4_products_60 : decode cX4_products 60 = .ok (.if_icmp .ne 43, 3) := by decide +kernel
theorem dX4_products_63 : decode cX4_products 63 = .ok (.aload_n 0, 1) := by decide +kernel
theorem dX4_products_64 : decode cX4_products 64 = .ok (.iload 10, 2) := by decide +kernel
theorem dX4_products_66 : decode cX4_products 66 = .ok (.invokevirtual 66, 3) := by decide +kernel
theorem dX4_products_69 : decode cX4_products 69 = .ok (.ifCond .eq 31, 3) := by decide +kernel
theorem dX4_products_72 : decode cX4_products 72 = .ok (.lload 8, 2) := by decide +kernel
theorem dX4_products_74 : decode cX4_products 74 = .ok (.iload_n 2, 1) := by decide +kernel
theorem dX4_products_75 : decode cX4_products 75 = .ok (.ifCond .ne 13, 3) := by decide +kernel
theorem dX4_products_78 : decode cX4_products 78 = .ok (.aload_n 0, 1) := by decide +kernel
theorem dX4_products_79 : decode cX4_products 79 = .ok (.getfield 20, 3) := by decide +kernel
theorem dX4_products_82 : decode cX4_products 82 = .ok (.iload 10, 2) := by decide +kernel
theorem dX4_products_84 : decode cX4_products 84 = .ok (.iaload, 1) := by decide +kernel
theorem dX4_products_85 : decode cX4_products 85 = .ok (.goto 10, 3) := by decide +kernel
theorem dX4_products_88 : decode cX4_products 88 = .ok (.aload_n 0, 1) := by decide +kernel
theorem dX4_products_89 : decode cX4_products 89 = .ok (.getfield 23, 3) := by decide +kernel
theorem dX4_products_92 : decode cX4_products 92 = .ok (.iload 10, 2) := by decide +kernel
theorem dX4_products_94 : decode cX4_products 94 = .ok (.iaload, 1) := by decide +kernel
theorem dX4_products_95 : decode cX4_products 95 = .ok (.i2l, 1) := by decide +kernel
theorem dX4_products_96 : decode cX4_products 96 = .ok (.lmul, 1) := by decide +kernel
theorem dX4_products_97 : decode cX4_products 97 = .ok (.goto 4, 3) := by decide +kernel
theorem dX4_products_100 : decode cX4_products 100 = .ok (.lconst 0, 1) := by decide +kernel
theorem dX4_products_101 : decode cX4_products 101 = .ok (.lstore 8, 2) := by decide +kernel
theorem dX4_products_103 : decode cX4_products 103 = .ok (.iinc 10 1, 3) := by decide +kernel
theorem dX4_products_106 : decode cX4_products 106 = .ok (.goto (-70), 3) := by decide +kernel
theorem dX4_products_109 : decode cX4_products 109 = .ok (.lload 5, 2) := by decide +kernel
theorem dX4_products_111 : decode cX4_products 111 = .ok (.iload_n 3, 1) := by decide +kernel
theorem dX4_products_112 : decode cX4_products 112 = .ok (.iload 4, 2) := by decide +kernel
theorem dX4_products_114 : decode cX4_products 114 = .ok (.if_icmp .eq 19, 3) := by decide +kernel
theorem dX4_products_117 : decode cX4_products 117 = .ok (.aload_n 0, 1) := by decide +kernel
theorem dX4_products_118 : decode cX4_products 118 = .ok (.getfield 29, 3) := by decide +kernel
theorem dX4_products_121 : decode cX4_products 121 = .ok (.iload_n 3, 1) := by decide +kernel
theorem dX4_products_122 : decode cX4_products 122 = .ok (.iaload, 1) := by decide +kernel
theorem dX4_products_123 : decode cX4_products 123 = .ok (.aload_n 0, 1) := by decide +kernel
theorem dX4_products_124 : decode cX4_products 124 = .ok (.getfield 29, 3) := by decide +kernel
theorem dX4_products_127 : decode cX4_products 127 = .ok (.iload 4, 2) := by decide +kernel
theorem dX4_products_129 : decode cX4_products 129 = .ok (.iaload, 1) := by decide +kernel
theorem dX4_products_130 : decode cX4_products 130 = .ok (.if_icmp .eq 8, 3) := by decide +kernel
theorem dX4_products_133 : decode cX4_products 133 = .ok (.lload 8, 2) := by decide +kernel
theorem dX4_products_135 : decode cX4_products 135 = .ok (.goto 4, 3) := by decide +kernel
theorem dX4_products_138 : decode cX4_products 138 = .ok (.lconst 0, 1) := by decide +kernel
theorem dX4_products_139 : decode cX4_products 139 = .ok (.ladd, 1) := by decide +kernel
theorem dX4_products_140 : decode cX4_products 140 = .ok (.lstore 5, 2) := by decide +kernel
theorem dX4_products_142 : decode cX4_products 142 = .ok (.iinc 7 1, 3) := by decide +kernel
theorem dX4_products_145 : decode cX4_products 145 = .ok (.goto (-139), 3) := by decide +kernel
theorem dX4_products_148 : decode cX4_products 148 = .ok (.lload 5, 2) := by decide +kernel
theorem dX4_products_150 : decode cX4_products 150 = .ok (.lreturn, 1) := by decide +kernel
set_option maxRecDepth 20000 in
theorem ggX4_trees_X4_in : GoodIn wsX4_trees wsX4_in := goodIn_r _ [6] (by decide +kernel) (by decide +kernel)
set_option maxRecDepth 20000 in
theorem gX4_trees_X4_in : GoodIn wsX4_trees (va_wsS RX4 38 yX4_in wsX4_in) := goodIn_app (goodIn_of _ (by decide +kernel)) ggX4_trees_X4_in
set_option maxRecDepth 20000 in
theorem ggX4_trees_X4_products : GoodIn wsX4_trees wsX4_products := goodIn_r _ [10, 11, 12, 13, 14, 15, 16, 5, 17, 18, 19, 20, 21, 22, 23, 24, 25, 26, 27, 1, 28, 29, 30, 31, 32, 33, 34, 35, 36, 37, 38, 39] (by decide +kernel) (by decide +kernel)
set_option maxRecDepth 20000 in
theorem gX4_trees_X4_products : GoodIn wsX4_trees (wsV RX4 94 RX4 yX4_products wsX4_products) := goodIn_app (goodIn_of _ (by decide +kernel)) ggX4_trees_X4_products
theorem dX4_trees_0 : decode cX4_trees 0 = .ok (.iload_n 1, 1) := by decide +kernel
theorem dX4_trees_1 : decode cX4_trees 1 = .ok (.iconst 0, 1) := by decide +kernel
theorem dX4_trees_2 : decode cX4_trees 2 = .ok (.iconst 1, 1) := by decide +kernel
theorem dX4_trees_3 : decode cX4_trees 3 = .ok (.invokestatic 38, 3) := by decide +kernel
theorem dX4_trees_6 : decode cX4_trees 6 = .ok (.ifCond .eq 19, 3) := by decide +kernel
theorem dX4_trees_9 : decode cX4_trees 9 = .ok (.aload_n 0, 1) := by decide +kernel
theorem dX4_trees_10 : decode cX4_trees 10 = .ok (.aload_n 0, 1) := by decide +kernel
theorem dX4_trees_11 : decode cX4_trees 11 = .ok (.getfield 7, 3) := by decide +kernel
theorem dX4_trees_14 : decode cX4_trees 14 = .ok (.iconst 1, 1) := by decide +kernel
theorem dX4_trees_15 : decode cX4_trees 15 = .ok (.isub, 1) := by decide +kernel
theorem dX4_trees_16 : decode cX4_trees 16 = .ok (.iload_n 1, 1) := by decide +kernel
theorem dX4_trees_17 : decode cX4_trees 17 = .ok (.iconst 0, 1) := by decide +kernel
theorem dX4_trees_18 : decode cX4_trees 18 = .ok (.iconst 0, 1) := by decide +kernel
theorem dX4_trees_19 : decode cX4_trees 19 = .ok (.invokevirtual 94, 3) := by decide +kernel
theorem dX4_trees_22 : decode cX4_trees 22 = .ok (.goto 6, 3) := by decide +kernel
theorem dX4_trees_25 : decode cX4_trees 25 = .ok (.ldc2_w 98, 3) := by decide +kernel
theorem dX4_trees_28 : decode cX4_trees 28 = .ok (.lreturn, 1) := by decide +kernel
set_option maxRecDepth 20000 in
theorem ggX4_hasResistance_X4_products : GoodIn wsX4_hasResistance wsX4_products := goodIn_r _ [8, 9, 10, 11, 12, 13, 14, 7, 15, 16, 17, 18, 19, 20, 21, 22, 23, 24, 25, 1, 29, 30, 31, 32, 33, 34, 35, 36, 37, 38, 39, 40] (by decide +kernel) (by decide +kernel)
set_option maxRecDepth 20000 in
theorem gX4_hasResistance_X4_products : GoodIn wsX4_hasResistance (wsV RX4 94 RX4 yX4_products wsX4_products) := goodIn_app (goodIn_of _ (by decide +kernel)) ggX4_hasResistance_X4_products
set_option maxRecDepth 20000 in
theorem ggX4_hasResistance_X4_common : GoodIn wsX4_hasResistance wsX4_common := goodIn_r _ [28] (by decide +kernel) (by decide +kernel)
set_option maxRecDepth 20000 in
theorem gX4_hasResistance_X4_common : GoodIn wsX4_hasResistance (va_wsS RX4 90 yX4_common wsX4_common) := goodIn_app (goodIn_of _ (by decide +kernel)) ggX4_hasResistance_X4_common
theorem dX4_hasResistance_0 : decode cX4_hasResistance 0 = .ok (.aload_n 0, 1) := by decide +kernel
theorem dX4_hasResistance_1 : decode cX4_hasResistance 1 = .ok (.aload_n 0, 1) := by decide +kernel
theorem dX4_hasResistance_2 : decode cX4_hasResistance 2 = .ok (.aload_n 0, 1) := by decide +kernel
theorem dX4_hasResistance_3 : decode cX4_hasResistance 3 = .ok (.getfield 7, 3) := by decide +kernel
theorem dX4_hasResistance_6 : decode cX4_hasResistance 6 = .ok (.iconst 1, 1) := by decide +kernel
theorem dX4_hasResistance_7 : decode cX4_hasResistance 7 = .ok (.isub, 1) := by decide +kernel
theorem dX4_hasResistance_8 : decode cX4_hasResistance 8 = .ok (.iload_n 3, 1) := by decide +kernel
theorem dX4_hasResistance_9 : decode cX4_hasResistance 9 = .ok (.iconst 0, 1) := by decide +kernel
theorem dX4_hasResistance_10 : decode cX4_hasResistance 10 = .ok (.iconst 0, 1) := by decide +kernel
theorem dX4_hasResistance_11 : decode cX4_hasResistance 11 = .ok (.invokevirtual 94, 3) := by decide +kernel
theorem dX4_hasResistance_14 : decode cX4_hasResistance 14 = .ok (.putfield 100, 3) := by decide +kernel
theorem dX4_hasResistance_17 : decode cX4_hasResistance 17 = .ok (.aload_n 0, 1) := by decide +kernel
theorem dX4_hasResistance_18 : decode cX4_hasResistance 18 = .ok (.getfield 100, 3) := by decide +kernel
theorem dX4_hasResistance_21 : decode cX4_hasResistance 21 = .ok (.lconst 0, 1) := by decide +kernel
theorem dX4_hasResistance_22 : decode cX4_hasResistance 22 = .ok (.lcmp, 1) := by decide +kernel
theorem dX4_hasResistance_23 : decode cX4_hasResistance 23 = .ok (.ifCond .ne 5, 3) := by decide +kernel
theorem dX4_hasResistance_26 : decode cX4_hasResistance 26 = .ok (.iconst 0, 1) := by decide +kernel
theorem dX4_hasResistance_27 : decode cX4_hasResistance 27 = .ok (.ireturn, 1) := by decide +kernel
theorem dX4_hasResistance_28 : decode cX4_hasResistance 28 = .ok (.aload_n 0, 1) := by decide +kernel
theorem dX4_hasResistance_29 : decode cX4_hasResistance 29 = .ok (.lload 4, 2) := by decide +kernel
theorem dX4_hasResistance_31 : decode cX4_hasResistance 31 = .ok (.aload_n 0, 1) := by decide +kernel
theorem dX4_hasResistance_32 : decode cX4_hasResistance 32 = .ok (.aload_n 0, 1) := by decide +kernel
theorem dX4_hasResistance_33 : decode cX4_hasResistance 33 = .ok (.getfield 7, 3) := by decide +kernel
theorem dX4_hasResistance_36 : decode cX4_hasResistance 36 = .ok (.iconst 2, 1) := by decide +kernel
theorem dX4_hasResistance_37 : decode cX4_hasResistance 37 = .ok (.isub, 1) := by decide +kernel
theorem dX4_hasResistance_38 : decode cX4_hasResistance 38 = .ok (.iload_n 3, 1) := by decide +kernel
theorem dX4_hasResistance_39 : decode cX4_hasResistance 39 = .ok (.iload_n 1, 1) := by decide +kernel
theorem dX4_hasResistance_40 : decode cX4_hasResistance 40 = .ok (.iload_n 2, 1) := by decide +kernel
theorem dX4_hasResistance_41 : decode cX4_hasResistance 41 = .ok (.invokevirtual 94, 3) := by decide +kernel
theorem dX4_hasResistance_44 : decode cX4_hasResistance 44 = .ok (.lmul, 1) := by decide +kernel
theorem dX4_hasResistance_45 : decode cX4_hasResistance 45 = .ok (.putfield 104, 3) := by decide +kernel
theorem dX4_hasResistance_48 : decode cX4_hasResistance 48 = .ok (.aload_n 0, 1) := by decide +kernel
theorem dX4_hasResistance_49 : decode cX4_hasResistance 49 = .ok (.getfield 104, 3) := by decide +kernel
theorem dX4_hasResistance_52 : decode cX4_hasResistance 52 = .ok (.aload_n 0, 1) := by decide +kernel
theorem dX4_hasResistance_53 : decode cX4_hasResistance 53 = .ok (.getfield 100, 3) := by decide +kernel
theorem dX4_hasResistance_56 : decode cX4_hasResistance 56 = .ok (.invokestatic 90, 3) := by decide +kernel
theorem dX4_hasResistance_59 : decode cX4_hasResistance 59 = .ok (.lstore 6, 2) := by decide +kernel
theorem dX4_hasResistance_61 : decode cX4_hasResistance 61 = .ok (.aload_n 0, 1) := by decide +kernel
theorem dX4_hasResistance_62 : decode cX4_hasResistance 62 = .ok (.aload_n 0, 1) := by decide +kernel
theorem dX4_hasResistance_63 : decode cX4_hasResistance 63 = .ok (.getfield 104, 3) := by decide +kernel
theorem dX4_hasResistance_66 : decode cX4_hasResistance 66 = .ok (.lload 6, 2) := by decide +kernel
theorem dX4_hasResistance_68 : decode cX4_hasResistance 68 = .ok (.ldiv, 1) := by decide +kernel
theorem dX4_hasResistance_69 : decode cX4_hasResistance 69 = .ok (.putfield 104, 3) := by decide +kernel
theorem dX4_hasResistance_72 : decode cX4_hasResistance 72 = .ok (.aload_n 0, 1) := by decide +kernel
theorem dX4_hasResistance_73 : decode cX4_hasResistance 73 = .ok (.aload_n 0, 1) := by decide +kernel
theorem dX4_hasResistance_74 : decode cX4_hasResistance 74 = .ok (.getfield 100, 3) := by decide +kernel
theorem dX4_hasResistance_77 : decode cX4_hasResistance 77 = .ok (.lload 6, 2) := by decide +kernel
theorem dX4_hasResistance_79 : decode cX4_hasResistance 79 = .ok (.ldiv, 1) := by decide +kernel
theorem dX4_hasResistance_80 : decode cX4_hasResistance 80 = .ok (.putfield 100, 3) := by decide +kernel
theorem dX4_hasResistance_83 : decode cX4_hasResistance 83 = .ok (.iconst 1, 1) := by decide +kernel
theorem dX4_hasResistance_84 : decode cX4_hasResistance 84 = .ok (.ireturn, 1) := by decide +kernel
set_option maxRecDepth 20000 in
theorem ggX4_resistance_X4_isNode : GoodIn wsX4_resistance wsX4_isNode := goodIn_r _ [10, 11, 12, 13, 9, 14, 43, 44, 45, 46, 47, 48, 49, 50, 51, 52, 53, 54] (by decide +kernel) (by decide +kernel)
set_option maxRecDepth 20000 in
theorem gX4_resistance_X4_isNode : GoodIn wsX4_resistance (wsV RX4 45 RX4 yX4_isNode wsX4_isNode) := goodIn_app (goodIn_of _ (by decide +kernel)) ggX4_resistance_X4_isNode
set_option maxRecDepth 20000 in
theorem ggX4_resistance_X4_in : GoodIn wsX4_resistance wsX4_in := goodIn_r _ [14] (by decide +kernel) (by decide +kernel)
set_option maxRecDepth 20000 in
theorem gX4_resistance_X4_in : GoodIn wsX4_resistance (va_wsS RX4 38 yX4_in wsX4_in) := goodIn_app (goodIn_of _ (by decide +kernel)) ggX4_resistance_X4_in
set_option maxRecDepth 20000 in
theorem ggX4_resistance_X4_hasResistance : GoodIn wsX4_resistance wsX4_hasResistance := goodIn_r _ [18, 11, 5, 4, 19, 20, 21, 9, 22, 23, 24, 25, 26, 27, 28, 29, 30, 31, 32, 33, 34, 35, 36, 37, 38, 39, 40, 41, 42, 43, 44, 45, 46, 47, 48, 49, 50, 51, 52, 53, 54] (by decide +kernel) (by decide +kernel)
set_option maxRecDepth 20000 in
theorem gX4_resistance_X4_hasResistance : GoodIn wsX4_resistance (wsV RX4 109 RX4 yX4_hasResistance wsX4_hasResistance) := goodIn_app (goodIn_of _ (by decide +kernel)) ggX4_resistance_X4_hasResistance
theorem dX4_resistance_0 : decode cX4_resistance 0 = .ok (.aload_n 0, 1) := by decide +kernel
theorem dX4_resistance_1 : decode cX4_resistance 1 = .ok (.iload_n 1, 1) := by decide +kernel
theorem dX4_resistance_2 : decode cX4_resistance 2 = .ok (.invokevirtual 45, 3) := by decide +kernel
theorem dX4_resistance_5 : decode cX4_resistance 5 = .ok (.ifCond .eq 11, 3) := by decide +kernel
theorem dX4_resistance_8 : decode cX4_resistance 8 = .ok (.aload_n 0, 1) := by decide +kernel
theorem dX4_resistance_9 : decode cX4_resistance 9 = .ok (.iload_n 2, 1) := by decide +kernel
theorem dX4_resistance_10 : decode cX4_resistance 10 = .ok (.invokevirtual 45, 3) := by decide +kernel
theorem dX4_resistance_13 : decode cX4_resistance 13 = .ok (.ifCond .ne 7, 3) := by decide +kernel
theorem dX4_resistance_16 : decode cX4_resistance 16 = .ok (.ldc2_w 107, 3) := by decide +kernel
theorem dX4_resistance_19 : decode cX4_resistance 19 = .ok (.lreturn, 1) := by decide +kernel
theorem dX4_resistance_20 : decode cX4_resistance 20 = .ok (.iload_n 1, 1) := by decide +kernel
theorem dX4_resistance_21 : decode cX4_resistance 21 = .ok (.iload_n 2, 1) := by decide +kernel
theorem dX4_resistance_22 : decode cX4_resistance 22 = .ok (.if_icmp .eq 22, 3) := by decide +kernel
theorem dX4_resistance_25 : decode cX4_resistance 25 = .ok (.iload_n 3, 1) := by decide +kernel
theorem dX4_resistance_26 : decode cX4_resistance 26 = .ok (.iconst 0, 1) := by decide +kernel
theorem dX4_resistance_27 : decode cX4_resistance 27 = .ok (.iconst 1, 1) := by decide +kernel
theorem dX4_resistance_28 : decode cX4_resistance 28 = .ok (.invokestatic 38, 3) := by decide +kernel
theorem dX4_resistance_31 : decode cX4_resistance 31 = .ok (.ifCond .eq 13, 3) := by decide +kernel
theorem dX4_resistance_34 : decode cX4_resistance 34 = .ok (.iload 4, 2) := by decide +kernel
theorem dX4_resistance_36 : decode cX4_resistance 36 = .ok (.iconst 0, 1) := by decide +kernel
theorem dX4_resistance_37 : decode cX4_resistance 37 = .ok (.iconst 1, 1) := by decide +kernel
theorem dX4_resistance_38 : decode cX4_resistance 38 = .ok (.invokestatic 38, 3) := by decide +kernel
theorem dX4_resistance_41 : decode cX4_resistance 41 = .ok (.ifCond .ne 7, 3) := by decide +kernel
theorem dX4_resistance_44 : decode cX4_resistance 44 = .ok (.ldc2_w 98, 3) := by decide +kernel
theorem dX4_resistance_47 : decode cX4_resistance 47 = .ok (.lreturn, 1) := by decide +kernel
theorem dX4_resistance_48 : decode cX4_resistance 48 = .ok (.aload_n 0, 1) := by decide +kernel
theorem dX4_resistance_49 : decode cX4_resistance 49 = .ok (.iload_n 1, 1) := by decide +kernel
theorem dX4_resistance_50 : decode cX4_resistance 50 = .ok (.iload_n 2, 1) := by decide +kernel
theorem dX4_resistance_51 : decode cX4_resistance 51 = .ok (.iload_n 3, 1) := by decide +kernel
theorem dX4_resistance_52 : decode cX4_resistance 52 = .ok (.lconst 1, 1) := by decide +kernel
theorem dX4_resistance_53 : decode cX4_resistance 53 = .ok (.invokevirtual 109, 3) := by decide +kernel
theorem dX4_resistance_56 : decode cX4_resistance 56 = .ok (.ifCond .ne 9, 3) := by decide +kernel
theorem dX4_resistance_59 : decode cX4_resistance 59 = .ok (.ldc2_w 113, 3) := by decide +kernel
theorem dX4_resistance_62 : decode cX4_resistance 62 = .ok (.goto 19, 3) := by decide +kernel
theorem dX4_resistance_65 : decode cX4_resistance 65 = .ok (.iload 4, 2) := by decide +kernel
theorem dX4_resistance_67 : decode cX4_resistance 67 = .ok (.ifCond .ne 10, 3) := by decide +kernel
theorem dX4_resistance_70 : decode cX4_resistance 70 = .ok (.aload_n 0, 1) := by decide +kernel
theorem dX4_resistance_71 : decode cX4_resistance 71 = .ok (.getfield 104, 3) := by decide +kernel
theorem dX4_resistance_74 : decode cX4_resistance 74 = .ok (.goto 7, 3) := by decide +kernel
theorem dX4_resistance_77 : decode cX4_resistance 77 = .ok (.aload_n 0, 1) := by decide +kernel
theorem dX4_resistance_78 : decode cX4_resistance 78 = .ok (.getfield 100, 3) := by decide +kernel
theorem dX4_resistance_81 : decode cX4_resistance 81 = .ok (.lreturn, 1) := by decide +kernel
set_option maxRecDepth 20000 in
theorem ggX4_load_X4_isLine : GoodIn wsX4_load wsX4_isLine := goodIn_r _ [13, 14, 15, 16, 12, 17, 43, 44, 45, 46, 47, 48, 49, 50, 51, 52, 53, 54] (by decide +kernel) (by decide +kernel)
set_option maxRecDepth 20000 in
theorem gX4_load_X4_isLine : GoodIn wsX4_load (wsV RX4 49 RX4 yX4_isLine wsX4_isLine) := goodIn_app (goodIn_of _ (by decide +kernel)) ggX4_load_X4_isLine
set_option maxRecDepth 20000 in
theorem ggX4_load_X4_in : GoodIn wsX4_load wsX4_in := goodIn_r _ [17] (by decide +kernel) (by decide +kernel)
set_option maxRecDepth 20000 in
theorem gX4_load_X4_in : GoodIn wsX4_load (va_wsS RX4 38 yX4_in wsX4_in) := goodIn_app (goodIn_of _ (by decide +kernel)) ggX4_load_X4_in
set_option maxRecDepth 20000 in
theorem ggX4_load_X4_hasResistance : GoodIn wsX4_load wsX4_hasResistance := goodIn_r _ [21, 22, 8, 7, 23, 24, 25, 12, 26, 14, 5, 27, 28, 29, 30, 31, 32, 33, 34, 35, 36, 37, 38, 39, 3, 4, 40, 41, 42, 43, 44, 45, 46, 47, 48, 49, 50, 51, 52, 53, 54] (by decide +kernel) (by decide +kernel)
set_option maxRecDepth 20000 in
theorem gX4_load_X4_hasResistance : GoodIn wsX4_load (wsV RX4 109 RX4 yX4_hasResistance wsX4_hasResistance) := goodIn_app (goodIn_of _ (by decide +kernel)) ggX4_load_X4_hasResistance
theorem dX4_load_0 : decode cX4_load 0 = .ok (.aload_n 0, 1) := by decide +kernel
theorem dX4_load_1 : decode cX4_load 1 = .ok (.iload_n 1, 1) := by decide +kernel
theorem dX4_load_2 : decode cX4_load 2 = .ok (.invokevirtual 49, 3) := by decide +kernel
theorem dX4_load_5 : decode cX4_load 5 = .ok (.ifCond .ne 7, 3) := by decide +kernel
theorem dX4_load_8 : decode cX4_load 8 = .ok (.ldc2_w 107, 3) := by decide +kernel
theorem dX4_load_11 : decode cX4_load 11 = .ok (.lreturn, 1) := by decide +kernel
theorem dX4_load_12 : decode cX4_load 12 = .ok (.iload_n 2, 1) := by decide +kernel
theorem dX4_load_13 : decode cX4_load 13 = .ok (.iconst 0, 1) := by decide +kernel
theorem dX4_load_14 : decode cX4_load 14 = .ok (.iconst 1, 1) := by decide +kernel
theorem dX4_load_15 : decode cX4_load 15 = .ok (.invokestatic 38, 3) := by decide +kernel
theorem dX4_load_18 : decode cX4_load 18 = .ok (.ifCond .ne 7, 3) := by decide +kernel
theorem dX4_load_21 : decode cX4_load 21 = .ok (.ldc2_w 98, 3) := by decide +kernel
theorem dX4_load_24 : decode cX4_load 24 = .ok (.lreturn, 1) := by decide +kernel
theorem dX4_load_25 : decode cX4_load 25 = .ok (.aload_n 0, 1) := by decide +kernel
theorem dX4_load_26 : decode cX4_load 26 = .ok (.aload_n 0, 1) := by decide +kernel
theorem dX4_load_27 : decode cX4_load 27 = .ok (.getfield 13, 3) := by decide +kernel
theorem dX4_load_30 : decode cX4_load 30 = .ok (.iload_n 1, 1) := by decide +kernel
theorem dX4_load_31 : decode cX4_load 31 = .ok (.iaload, 1) := by decide +kernel
theorem dX4_load_32 : decode cX4_load 32 = .ok (.aload_n 0, 1) := by decide +kernel
theorem dX4_load_33 : decode cX4_load 33 = .ok (.getfield 17, 3) := by decide +kernel
theorem dX4_load_36 : decode cX4_load 36 = .ok (.iload_n 1, 1) := by decide +kernel
theorem dX4_load_37 : decode cX4_load 37 = .ok (.iaload, 1) := by decide +kernel
theorem dX4_load_38 : decode cX4_load 38 = .ok (.iconst 0, 1) := by decide +kernel
theorem dX4_load_39 : decode cX4_load 39 = .ok (.aload_n 0, 1) := by decide +kernel
theorem dX4_load_40 : decode cX4_load 40 = .ok (.getfield 20, 3) := by decide +kernel
theorem dX4_load_43 : decode cX4_load 43 = .ok (.iload_n 1, 1) := by decide +kernel
theorem dX4_load_44 : decode cX4_load 44 = .ok (.iaload, 1) := by decide +kernel
theorem dX4_load_45 : decode cX4_load 45 = .ok (.i2l, 1) := by decide +kernel
theorem dX4_load_46 : decode cX4_load 46 = .ok (.invokevirtual 109, 3) := by decide +kernel
theorem dX4_load_49 : decode cX4_load 49 = .ok (.ifCond .ne 9, 3) := by decide +kernel
theorem dX4_load_52 : decode cX4_load 52 = .ok (.ldc2_w 113, 3) := by decide +kernel
theorem dX4_load_55 : decode cX4_load 55 = .ok (.goto 18, 3) := by decide +kernel
theorem dX4_load_58 : decode cX4_load 58 = .ok (.iload_n 2, 1) := by decide +kernel
theorem dX4_load_59 : decode cX4_load 59 = .ok (.ifCond .ne 10, 3) := by decide +kernel
theorem dX4_load_62 : decode cX4_load 62 = .ok (.aload_n 0, 1) := by decide +kernel
theorem dX4_load_63 : decode cX4_load 63 = .ok (.getfield 104, 3) := by decide +kernel
theorem dX4_load_66 : decode cX4_load 66 = .ok (.goto 7, 3) := by decide +kernel
theorem dX4_load_69 : decode cX4_load 69 = .ok (.aload_n 0, 1) := by decide +kernel
theorem dX4_load_70 : decode cX4_load 70 = .ok (.getfield 100, 3) := by decide +kernel
theorem dX4_load_73 : decode cX4_load 73 = .ok (.lreturn, 1) := by decide +kernel
set_option maxRecDepth 20000 in
theorem ggX4_count_X4_keptMany : GoodIn wsX4_count wsX4_keptMany := goodIn_r _ [9, 2, 4, 10, 11, 12, 13, 14, 15, 16, 17, 18, 19, 20, 21] (by decide +kernel) (by decide +kernel)
set_option maxRecDepth 20000 in
theorem gX4_count_X4_keptMany : GoodIn wsX4_count (wsV RX4 69 RX4 yX4_keptMany wsX4_keptMany) := goodIn_app (goodIn_of _ (by decide +kernel)) ggX4_count_X4_keptMany
theorem dX4_count_0 : decode cX4_count 0 = .ok (.iconst 0, 1) := by decide +kernel
theorem dX4_count_1 : decode cX4_count 1 = .ok (.istore_n 2, 1) := by decide +kernel
theorem dX4_count_2 : decode cX4_count 2 = .ok (.iload_n 1, 1) := by decide +kernel
theorem dX4_count_3 : decode cX4_count 3 = .ok (.tableswitch 102 0 4 #[33, 38, 43, 48, 75], 33) := by decide +kernel
theorem dX4_count_36 : decode cX4_count 36 = .ok (.aload_n 0, 1) := by decide +kernel
theorem dX4_count_37 : decode cX4_count 37 = .ok (.getfield 7, 3) := by decide +kernel
theorem dX4_count_40 : decode cX4_count 40 = .ok (.ireturn, 1) := by decide +kernel
theorem dX4_count_41 : decode cX4_count 41 = .ok (.aload_n 0, 1) := by decide +kernel
theorem dX4_count_42 : decode cX4_count 42 = .ok (.getfield 42, 3) := by decide +kernel
theorem dX4_count_45 : decode cX4_count 45 = .ok (.ireturn, 1) := by decide +kernel
theorem dX4_count_46 : decode cX4_count 46 = .ok (.aload_n 0, 1) := by decide +kernel
theorem dX4_count_47 : decode cX4_count 47 = .ok (.invokevirtual 69, 3) := by decide +kernel
theorem dX4_count_50 : decode cX4_count 50 = .ok (.ireturn, 1) := by decide +kernel
theorem dX4_count_51 : decode cX4_count 51 = .ok (.iconst 0, 1) := by decide +kernel
theorem dX4_count_52 : decode cX4_count 52 = .ok (.istore_n 3, 1) := by decide +kernel
theorem dX4_count_53 : decode cX4_count 53 = .ok (.iload_n 3, 1) := by decide +kernel
theorem dX4_count_54 : decode cX4_count 54 = .ok (.aload_n 0, 1) := by decide +kernel
theorem dX4_count_55 : decode cX4_count 55 = .ok (.getfield 42, 3) := by decide +kernel
theorem dX4_count_58 : decode cX4_count 58 = .ok (.if_icmp .ge 18, 3) := by decide +kernel
theorem dX4_count_61 : decode cX4_count 61 = .ok (.iload_n 2, 1) := by decide +kernel
theorem dX4_count_62 : decode cX4_count 62 = .ok (.aload_n 0, 1) := by decide +kernel
theorem dX4_count_63 : decode cX4_count 63 = .ok (.getfield 20, 3) := by decide +kernel
theorem dX4_count_66 : decode cX4_count 66 = .ok (.iload_n 3, 1) := by decide +kernel
theorem dX4_count_67 : decode cX4_count 67 = .ok (.iaload, 1) := by decide +kernel
theorem dX4_count_68 : decode cX4_count 68 = .ok (.iadd, 1) := by decide +kernel
theorem dX4_count_69 : decode cX4_count 69 = .ok (.istore_n 2, 1) := by decide +kernel
theorem dX4_count_70 : decode cX4_count 70 = .ok (.iinc 3 1, 3) := by decide +kernel
theorem dX4_count_73 : decode cX4_count 73 = .ok (.goto (-20), 3) := by decide +kernel
theorem dX4_count_76 : decode cX4_count 76 = .ok (.iload_n 2, 1) := by decide +kernel
theorem dX4_count_77 : decode cX4_count 77 = .ok (.ireturn, 1) := by decide +kernel
theorem dX4_count_78 : decode cX4_count 78 = .ok (.iconst 0, 1) := by decide +kernel
theorem dX4_count_79 : decode cX4_count 79 = .ok (.istore_n 3, 1) := by decide +kernel
theorem dX4_count_80 : decode cX4_count 80 = .ok (.iload_n 3, 1) := by decide +kernel
theorem dX4_count_81 : decode cX4_count 81 = .ok (.aload_n 0, 1) := by decide +kernel
theorem dX4_count_82 : decode cX4_count 82 = .ok (.getfield 42, 3) := by decide +kernel
theorem dX4_count_85 : decode cX4_count 85 = .ok (.if_icmp .ge 18, 3) := by decide +kernel
theorem dX4_count_88 : decode cX4_count 88 = .ok (.iload_n 2, 1) := by decide +kernel
theorem dX4_count_89 : decode cX4_count 89 = .ok (.aload_n 0, 1) := by decide +kernel
theorem dX4_count_90 : decode cX4_count 90 = .ok (.getfield 23, 3) := by decide +kernel
theorem dX4_count_93 : decode cX4_count 93 = .ok (.iload_n 3, 1) := by decide +kernel
theorem dX4_count_94 : decode cX4_count 94 = .ok (.iaload, 1) := by decide +kernel
theorem dX4_count_95 : decode cX4_count 95 = .ok (.iadd, 1) := by decide +kernel
theorem dX4_count_96 : decode cX4_count 96 = .ok (.istore_n 2, 1) := by decide +kernel
theorem dX4_count_97 : decode cX4_count 97 = .ok (.iinc 3 1, 3) := by decide +kernel
theorem dX4_count_100 : decode cX4_count 100 = .ok (.goto (-20), 3) := by decide +kernel
theorem dX4_count_103 : decode cX4_count 103 = .ok (.iload_n 2, 1) := by decide +kernel
theorem dX4_count_104 : decode cX4_count 104 = .ok (.ireturn, 1) := by decide +kernel
theorem dX4_count_105 : decode cX4_count 105 = .ok (.bipush (-3), 2) := by decide +kernel
theorem dX4_count_107 : decode cX4_count 107 = .ok (.ireturn, 1) := by decide +kernel
