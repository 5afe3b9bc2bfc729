theorem dX0_init_0 : decode cX0_init 0 = .ok (.aload_n 0, 1) := by decide +kernel
theorem dX0_init_1 : decode cX0_init 1 = .ok (.invokespecial 3, 3) := by decide +kernel
theorem dX0_init_4 : decode cX0_init 4 = .ok (.aload_n 0, 1) := by decide +kernel
theorem dX0_init_5 : decode cX0_init 5 = .ok (.bipush 49, 2) := by decide +kernel
theorem dX0_init_7 : decode cX0_init 7 = .ok (.newarray .int, 2) := by decide +kernel
theorem dX0_init_9 : decode cX0_init 9 = .ok (.putfield 9, 3) := by decide +kernel
theorem dX0_init_12 : decode cX0_init 12 = .ok (.aload_n 0, 1) := by decide +kernel
theorem dX0_init_13 : decode cX0_init 13 = .ok (.iconst 0, 1) := by decide +kernel
theorem dX0_init_14 : decode cX0_init 14 = .ok (.putfield 15, 3) := by decide +kernel
theorem dX0_init_17 : decode cX0_init 17 = .ok (.return_, 1) := by decide +kernel
set_option maxRecDepth 20000 in
theorem ggX0_clear_J7_fill_53178 : GoodIn wsX0_clear wsJ7_fill_53178 := goodIn_r _ [11] (by decide +kernel) (by decide +kernel)
set_option maxRecDepth 20000 in
theorem gX0_clear_J7_fill_53178 : GoodIn wsX0_clear (va_wsS RX0 26 yJ7_fill_53178 wsJ7_fill_53178) := goodIn_app (goodIn_of _ (by decide +kernel)) ggX0_clear_J7_fill_53178
theorem dX0_clear_0 : decode cX0_clear 0 = .ok (.aload_n 0, 1) := by decide +kernel
theorem dX0_clear_1 : decode cX0_clear 1 = .ok (.iload_n 1, 1) := by decide +kernel
theorem dX0_clear_2 : decode cX0_clear 2 = .ok (.bipush 7, 2) := by decide +kernel
theorem dX0_clear_4 : decode cX0_clear 4 = .ok (.invokestatic 19, 3) := by decide +kernel
theorem dX0_clear_7 : decode cX0_clear 7 = .ok (.putfield 15, 3) := by decide +kernel
theorem dX0_clear_10 : decode cX0_clear 10 = .ok (.aload_n 0, 1) := by decide +kernel
theorem dX0_clear_11 : decode cX0_clear 11 = .ok (.getfield 9, 3) := by decide +kernel
theorem dX0_clear_14 : decode cX0_clear 14 = .ok (.ldc 25, 2) := by decide +kernel
theorem dX0_clear_16 : decode cX0_clear 16 = .ok (.invokestatic 26, 3) := by decide +kernel
theorem dX0_clear_19 : decode cX0_clear 19 = .ok (.iconst 0, 1) := by decide +kernel
theorem dX0_clear_20 : decode cX0_clear 20 = .ok (.istore_n 2, 1) := by decide +kernel
theorem dX0_clear_21 : decode cX0_clear 21 = .ok (.iload_n 2, 1) := by decide +kernel
theorem dX0_clear_22 : decode cX0_clear 22 = .ok (.aload_n 0, 1) := by decide +kernel
theorem dX0_clear_23 : decode cX0_clear 23 = .ok (.getfield 15, 3) := by decide +kernel
theorem dX0_clear_26 : decode cX0_clear 26 = .ok (.if_icmp .ge 21, 3) := by decide +kernel
theorem dX0_clear_29 : decode cX0_clear 29 = .ok (.aload_n 0, 1) := by decide +kernel
theorem dX0_clear_30 : decode cX0_clear 30 = .ok (.getfield 9, 3) := by decide +kernel
theorem dX0_clear_33 : decode cX0_clear 33 = .ok (.iload_n 2, 1) := by decide +kernel
theorem dX0_clear_34 : decode cX0_clear 34 = .ok (.bipush 7, 2) := by decide +kernel
theorem dX0_clear_36 : decode cX0_clear 36 = .ok (.imul, 1) := by decide +kernel
theorem dX0_clear_37 : decode cX0_clear 37 = .ok (.iload_n 2, 1) := by decide +kernel
theorem dX0_clear_38 : decode cX0_clear 38 = .ok (.iadd, 1) := by decide +kernel
theorem dX0_clear_39 : decode cX0_clear 39 = .ok (.iconst 0, 1) := by decide +kernel
theorem dX0_clear_40 : decode cX0_clear 40 = .ok (.iastore, 1) := by decide +kernel
theorem dX0_clear_41 : decode cX0_clear 41 = .ok (.iinc 2 1, 3) := by decide +kernel
theorem dX0_clear_44 : decode cX0_clear 44 = .ok (.goto (-23), 3) := by decide +kernel
theorem dX0_clear_47 : decode cX0_clear 47 = .ok (.return_, 1) := by decide +kernel
theorem dX0_between_0 : decode cX0_between 0 = .ok (.aload_n 0, 1) := by decide +kernel
theorem dX0_between_1 : decode cX0_between 1 = .ok (.getfield 9, 3) := by decide +kernel
theorem dX0_between_4 : decode cX0_between 4 = .ok (.iload_n 1, 1) := by decide +kernel
theorem dX0_between_5 : decode cX0_between 5 = .ok (.bipush 7, 2) := by decide +kernel
theorem dX0_between_7 : decode cX0_between 7 = .ok (.imul, 1) := by decide +kernel
theorem dX0_between_8 : decode cX0_between 8 = .ok (.iload_n 2, 1) := by decide +kernel
theorem dX0_between_9 : decode cX0_between 9 = .ok (.iadd, 1) := by decide +kernel
theorem dX0_between_10 : decode cX0_between 10 = .ok (.iaload, 1) := by decide +kernel
theorem dX0_between_11 : decode cX0_between 11 = .ok (.ireturn, 1) := by decide +kernel
set_option maxRecDepth 20000 in
theorem ggX0_add_X0_between : GoodIn wsX0_add wsX0_between := goodIn_r _ [11, 2, 12, 13] (by decide +kernel) (by decide +kernel)
set_option maxRecDepth 20000 in
theorem gX0_add_X0_between : GoodIn wsX0_add (wsV RX0 32 RX0 yX0_between wsX0_between) := goodIn_app (goodIn_of _ (by decide +kernel)) ggX0_add_X0_between
theorem dX0_add_0 : decode cX0_add 0 = .ok (.aload_n 0, 1) := by decide +kernel
theorem dX0_add_1 : decode cX0_add 1 = .ok (.iload_n 1, 1) := by decide +kernel
theorem dX0_add_2 : decode cX0_add 2 = .ok (.iload_n 2, 1) := by decide +kernel
theorem dX0_add_3 : decode cX0_add 3 = .ok (.invokevirtual 32, 3) := by decide +kernel
theorem dX0_add_6 : decode cX0_add 6 = .ok (.iload_n 3, 1) := by decide +kernel
theorem dX0_add_7 : decode cX0_add 7 = .ok (.if_icmp .gt 4, 3) := by decide +kernel
theorem dX0_add_10 : decode cX0_add 10 = .ok (.return_, 1) := by decide +kernel
theorem dX0_add_11 : decode cX0_add 11 = .ok (.iload_n 1, 1) := by decide +kernel
theorem dX0_add_12 : decode cX0_add 12 = .ok (.bipush 7, 2) := by decide +kernel
theorem dX0_add_14 : decode cX0_add 14 = .ok (.imul, 1) := by decide +kernel
theorem dX0_add_15 : decode cX0_add 15 = .ok (.istore 4, 2) := by decide +kernel
theorem dX0_add_17 : decode cX0_add 17 = .ok (.iload_n 2, 1) := by decide +kernel
theorem dX0_add_18 : decode cX0_add 18 = .ok (.bipush 7, 2) := by decide +kernel
theorem dX0_add_20 : decode cX0_add 20 = .ok (.imul, 1) := by decide +kernel
theorem dX0_add_21 : decode cX0_add 21 = .ok (.istore 5, 2) := by decide +kernel
theorem dX0_add_23 : decode cX0_add 23 = .ok (.iconst 0, 1) := by decide +kernel
theorem dX0_add_24 : decode cX0_add 24 = .ok (.istore 6, 2) := by decide +kernel
theorem dX0_add_26 : decode cX0_add 26 = .ok (.iload 6, 2) := by decide +kernel
theorem dX0_add_28 : decode cX0_add 28 = .ok (.aload_n 0, 1) := by decide +kernel
theorem dX0_add_29 : decode cX0_add 29 = .ok (.getfield 15, 3) := by decide +kernel
theorem dX0_add_32 : decode cX0_add 32 = .ok (.bipush 7, 2) := by decide +kernel
theorem dX0_add_34 : decode cX0_add 34 = .ok (.imul, 1) := by decide +kernel
theorem dX0_add_35 : decode cX0_add 35 = .ok (.if_icmp .ge 109, 3) := by decide +kernel
theorem dX0_add_38 : decode cX0_add 38 = .ok (.aload_n 0, 1) := by decide +kernel
theorem dX0_add_39 : decode cX0_add 39 = .ok (.getfield 9, 3) := by decide +kernel
theorem dX0_add_42 : decode cX0_add 42 = .ok (.iload 6, 2) := by decide +kernel
theorem dX0_add_44 : decode cX0_add 44 = .ok (.iload_n 1, 1) := by decide +kernel
theorem dX0_add_45 : decode cX0_add 45 = .ok (.iadd, 1) := by decide +kernel
theorem dX0_add_46 : decode cX0_add 46 = .ok (.iaload, 1) := by decide +kernel
theorem dX0_add_47 : decode cX0_add 47 = .ok (.iload_n 3, 1) := by decide +kernel
theorem dX0_add_48 : decode cX0_add 48 = .ok (.iadd, 1) := by decide +kernel
theorem dX0_add_49 : decode cX0_add 49 = .ok (.istore 7, 2) := by decide +kernel
theorem dX0_add_51 : decode cX0_add 51 = .ok (.aload_n 0, 1) := by decide +kernel
theorem dX0_add_52 : decode cX0_add 52 = .ok (.getfield 9, 3) := by decide +kernel
theorem dX0_add_55 : decode cX0_add 55 = .ok (.iload 6, 2) := by decide +kernel
theorem dX0_add_57 : decode cX0_add 57 = .ok (.iload_n 2, 1) := by decide +kernel
theorem dX0_add_58 : decode cX0_add 58 = .ok (.iadd, 1) := by decide +kernel
theorem dX0_add_59 : decode cX0_add 59 = .ok (.iaload, 1) := by decide +kernel
theorem dX0_add_60 : decode cX0_add 60 = .ok (.iload_n 3, 1) := by decide +kernel
theorem dX0_add_61 : decode cX0_add 61 = .ok (.iadd, 1) := by decide +kernel
theorem dX0_add_62 : decode cX0_add 62 = .ok (.istore 8, 2) := by decide +kernel
theorem dX0_add_64 : decode cX0_add 64 = .ok (.iconst 0, 1) := by decide +kernel
theorem dX0_add_65 : decode cX0_add 65 = .ok (.istore 9, 2) := by decide +kernel
theorem dX0_add_67 : decode cX0_add 67 = .ok (.iload 9, 2) := by decide +kernel
theorem dX0_add_69 : decode cX0_add 69 = .ok (.aload_n 0, 1) := by decide +kernel
theorem dX0_add_70 : decode cX0_add 70 = .ok (.getfield 15, 3) := by decide +kernel
theorem dX0_add_73 : decode cX0_add 73 = .ok (.if_icmp .ge 65, 3) := by decide +kernel
theorem dX0_add_76 : decode cX0_add 76 = .ok (.iload 7, 2) := by decide +kernel
theorem dX0_add_78 : decode cX0_add 78 = .ok (.aload_n 0, 1) := by decide +kernel
theorem dX0_add_79 : decode cX0_add 79 = .ok (.getfield 9, 3) := by decide +kernel
theorem dX0_add_82 : decode cX0_add 82 = .ok (.iload 5, 2) := by decide +kernel
theorem dX0_add_84 : decode cX0_add 84 = .ok (.iload 9, 2) := by decide +kernel
theorem dX0_add_86 : decode cX0_add 86 = .ok (.iadd, 1) := by decide +kernel
theorem dX0_add_87 : decode cX0_add 87 = .ok (.iaload, 1) := by decide +kernel
theorem dX0_add_88 : decode cX0_add 88 = .ok (.iadd, 1) := by decide +kernel
theorem dX0_add_89 : decode cX0_add 89 = .ok (.iload 8, 2) := by decide +kernel
theorem dX0_add_91 : decode cX0_add 91 = .ok (.aload_n 0, 1) := by decide +kernel
theorem dX0_add_92 : decode cX0_add 92 = .ok (.getfield 9, 3) := by decide +kernel
theorem dX0_add_95 : decode cX0_add 95 = .ok (.iload 4, 2) := by decide +kernel
theorem dX0_add_97 : decode cX0_add 97 = .ok (.iload 9, 2) := by decide +kernel
theorem dX0_add_99 : decode cX0_add 99 = .ok (.iadd, 1) := by decide +kernel
theorem dX0_add_100 : decode cX0_add 100 = .ok (.iaload, 1) := by decide +kernel
theorem dX0_add_101 : decode cX0_add 101 = .ok (.iadd, 1) := by decide +kernel
theorem dX0_add_102 : decode cX0_add 102 = .ok (.invokestatic 19, 3) := by decide +kernel
theorem dX0_add_105 : decode cX0_add 105 = .ok (.istore 10, 2) := by decide +kernel
theorem dX0_add_107 : decode cX0_add 107 = .ok (.aload_n 0, 1) := by decide +kernel
theorem dX0_add_108 : decode cX0_add 108 = .ok (.getfield 9, 3) := by decide +kernel
theorem dX0_add_111 : decode cX0_add 111 = .ok (.iload 6, 2) := by decide +kernel
theorem dX0_add_113 : decode cX0_add 113 = .ok (.iload 9, 2) := by decide +kernel
theorem dX0_add_115 : decode cX0_add 115 = .ok (.iadd, 1) := by decide +kernel
theorem dX0_add_116 : decode cX0_add 116 = .ok (.aload_n 0, 1) := by decide +kernel
theorem dX0_add_117 : decode cX0_add 117 = .ok (.getfield 9, 3) := by decide +kernel
theorem dX0_add_120 : decode cX0_add 120 = .ok (.iload 6, 2) := by decide +kernel
theorem dX0_add_122 : decode cX0_add 122 = .ok (.iload 9, 2) := by decide +kernel
theorem dX0_add_124 : decode cX0_add 124 = .ok (.iadd, 1) := by decide +kernel
theorem dX0_add_125 : decode cX0_add 125 = .ok (.iaload, 1) := by decide +kernel
theorem dX0_add_126 : decode cX0_add 126 = .ok (.iload 10, 2) := by decide +kernel
theorem dX0_add_128 : decode cX0_add 128 = .ok (.invokestatic 19, 3) := by decide +kernel
theorem dX0_add_131 : decode cX0_add 131 = .ok (.iastore, 1) := by decide +kernel
theorem dX0_add_132 : decode cX0_add 132 = .ok (.iinc 9 1, 3) := by decide +kernel
theorem dX0_add_135 : decode cX0_add 135 = .ok (.goto (-68), 3) := by decide +kernel
theorem dX0_add_138 : decode cX0_add 138 = .ok (.iinc 6 7, 3) := by decide +kernel
theorem dX0_add_141 : decode cX0_add 141 = .ok (.goto (-115), 3) := by decide +kernel
theorem dX0_add_144 : decode cX0_add 144 = .ok (.return_, 1) := by decide +kernel
theorem dX1_init_0 : decode cX1_init 0 = .ok (.aload_n 0, 1) := by decide +kernel
theorem dX1_init_1 : decode cX1_init 1 = .ok (.invokespecial 3, 3) := by decide +kernel
theorem dX1_init_4 : decode cX1_init 4 = .ok (.aload_n 0, 1) := by decide +kernel
theorem dX1_init_5 : decode cX1_init 5 = .ok (.bipush 49, 2) := by decide +kernel
theorem dX1_init_7 : decode cX1_init 7 = .ok (.newarray .long, 2) := by decide +kernel
theorem dX1_init_9 : decode cX1_init 9 = .ok (.putfield 9, 3) := by decide +kernel
theorem dX1_init_12 : decode cX1_init 12 = .ok (.aload_n 0, 1) := by decide +kernel
theorem dX1_init_13 : decode cX1_init 13 = .ok (.bipush 7, 2) := by decide +kernel
theorem dX1_init_15 : decode cX1_init 15 = .ok (.newarray .int, 2) := by decide +kernel
theorem dX1_init_17 : decode cX1_init 17 = .ok (.putfield 15, 3) := by decide +kernel
theorem dX1_init_20 : decode cX1_init 20 = .ok (.aload_n 0, 1) := by decide +kernel
theorem dX1_init_21 : decode cX1_init 21 = .ok (.sipush 128, 3) := by decide +kernel
theorem dX1_init_24 : decode cX1_init 24 = .ok (.newarray .long, 2) := by decide +kernel
theorem dX1_init_26 : decode cX1_init 26 = .ok (.putfield 19, 3) := by decide +kernel
theorem dX1_init_29 : decode cX1_init 29 = .ok (.aload_n 0, 1) := by decide +kernel
theorem dX1_init_30 : decode cX1_init 30 = .ok (.iconst 0, 1) := by decide +kernel
theorem dX1_init_31 : decode cX1_init 31 = .ok (.putfield 22, 3) := by decide +kernel
theorem dX1_init_34 : decode cX1_init 34 = .ok (.return_, 1) := by decide +kernel
set_option maxRecDepth 20000 in
theorem ggX1_clear_J7_fill_d0a16 : GoodIn wsX1_clear wsJ7_fill_d0a16 := goodIn_r _ [10] (by decide +kernel) (by decide +kernel)
set_option maxRecDepth 20000 in
theorem gX1_clear_J7_fill_d0a16 : GoodIn wsX1_clear (va_wsS RX1 32 yJ7_fill_d0a16 wsJ7_fill_d0a16) := goodIn_app (goodIn_of _ (by decide +kernel)) ggX1_clear_J7_fill_d0a16
theorem dX1_clear_0 : decode cX1_clear 0 = .ok (.aload_n 0, 1) := by decide +kernel
theorem dX1_clear_1 : decode cX1_clear 1 = .ok (.iload_n 1, 1) := by decide +kernel
theorem dX1_clear_2 : decode cX1_clear 2 = .ok (.bipush 7, 2) := by decide +kernel
theorem dX1_clear_4 : decode cX1_clear 4 = .ok (.invokestatic 26, 3) := by decide +kernel
theorem dX1_clear_7 : decode cX1_clear 7 = .ok (.putfield 22, 3) := by decide +kernel
theorem dX1_clear_10 : decode cX1_clear 10 = .ok (.aload_n 0, 1) := by decide +kernel
theorem dX1_clear_11 : decode cX1_clear 11 = .ok (.getfield 9, 3) := by decide +kernel
theorem dX1_clear_14 : decode cX1_clear 14 = .ok (.lconst 0, 1) := by decide +kernel
theorem dX1_clear_15 : decode cX1_clear 15 = .ok (.invokestatic 32, 3) := by decide +kernel
theorem dX1_clear_18 : decode cX1_clear 18 = .ok (.return_, 1) := by decide +kernel
theorem dX1_add_0 : decode cX1_add 0 = .ok (.aload_n 0, 1) := by decide +kernel
theorem dX1_add_1 : decode cX1_add 1 = .ok (.getfield 9, 3) := by decide +kernel
theorem dX1_add_4 : decode cX1_add 4 = .ok (.iload_n 1, 1) := by decide +kernel
theorem dX1_add_5 : decode cX1_add 5 = .ok (.bipush 7, 2) := by decide +kernel
theorem dX1_add_7 : decode cX1_add 7 = .ok (.imul, 1) := by decide +kernel
theorem dX1_add_8 : decode cX1_add 8 = .ok (.iload_n 1, 1) := by decide +kernel
theorem dX1_add_9 : decode cX1_add 9 = .ok (.iadd, 1) := by decide +kernel
theorem dX1_add_10 : decode cX1_add 10 = .ok (.dup2, 1) := by decide +kernel
theorem dX1_add_11 : decode cX1_add 11 = .ok (.laload, 1) := by decide +kernel
theorem dX1_add_12 : decode cX1_add 12 = .ok (.iload_n 3, 1) := by decide +kernel
theorem dX1_add_13 : decode cX1_add 13 = .ok (.i2l, 1) := by decide +kernel
theorem dX1_add_14 : decode cX1_add 14 = .ok (.ladd, 1) := by decide +kernel
theorem dX1_add_15 : decode cX1_add 15 = .ok (.lastore, 1) := by decide +kernel
theorem dX1_add_16 : decode cX1_add 16 = .ok (.aload_n 0, 1) := by decide +kernel
theorem dX1_add_17 : decode cX1_add 17 = .ok (.getfield 9, 3) := by decide +kernel
theorem dX1_add_20 : decode cX1_add 20 = .ok (.iload_n 2, 1) := by decide +kernel
theorem dX1_add_21 : decode cX1_add 21 = .ok (.bipush 7, 2) := by decide +kernel
theorem dX1_add_23 : decode cX1_add 23 = .ok (.imul, 1) := by decide +kernel
theorem dX1_add_24 : decode cX1_add 24 = .ok (.iload_n 2, 1) := by decide +kernel
theorem dX1_add_25 : decode cX1_add 25 = .ok (.iadd, 1) := by decide +kernel
theorem dX1_add_26 : decode cX1_add 26 = .ok (.dup2, 1) := by decide +kernel
theorem dX1_add_27 : decode cX1_add 27 = .ok (.laload, 1) := by decide +kernel
theorem dX1_add_28 : decode cX1_add 28 = .ok (.iload_n 3, 1) := by decide +kernel
theorem dX1_add_29 : decode cX1_add 29 = .ok (.i2l, 1) := by decide +kernel
theorem dX1_add_30 : decode cX1_add 30 = .ok (.ladd, 1) := by decide +kernel
theorem dX1_add_31 : decode cX1_add 31 = .ok (.lastore, 1) := by decide +kernel
theorem dX1_add_32 : decode cX1_add 32 = .ok (.aload_n 0, 1) := by decide +kernel
theorem dX1_add_33 : decode cX1_add 33 = .ok (.getfield 9, 3) := by decide +kernel
theorem dX1_add_36 : decode cX1_add 36 = .ok (.iload_n 1, 1) := by decide +kernel
theorem dX1_add_37 : decode cX1_add 37 = .ok (.bipush 7, 2) := by decide +kernel
theorem dX1_add_39 : decode cX1_add 39 = .ok (.imul, 1) := by decide +kernel
theorem dX1_add_40 : decode cX1_add 40 = .ok (.iload_n 2, 1) := by decide +kernel
theorem dX1_add_41 : decode cX1_add 41 = .ok (.iadd, 1) := by decide +kernel
theorem dX1_add_42 : decode cX1_add 42 = .ok (.dup2, 1) := by decide +kernel
theorem dX1_add_43 : decode cX1_add 43 = .ok (.laload, 1) := by decide +kernel
theorem dX1_add_44 : decode cX1_add 44 = .ok (.iload_n 3, 1) := by decide +kernel
theorem dX1_add_45 : decode cX1_add 45 = .ok (.i2l, 1) := by decide +kernel
theorem dX1_add_46 : decode cX1_add 46 = .ok (.lsub, 1) := by decide +kernel
theorem dX1_add_47 : decode cX1_add 47 = .ok (.lastore, 1) := by decide +kernel
theorem dX1_add_48 : decode cX1_add 48 = .ok (.aload_n 0, 1) := by decide +kernel
theorem dX1_add_49 : decode cX1_add 49 = .ok (.getfield 9, 3) := by decide +kernel
theorem dX1_add_52 : decode cX1_add 52 = .ok (.iload_n 2, 1) := by decide +kernel
theorem dX1_add_53 : decode cX1_add 53 = .ok (.bipush 7, 2) := by decide +kernel
theorem dX1_add_55 : decode cX1_add 55 = .ok (.imul, 1) := by decide +kernel
theorem dX1_add_56 : decode cX1_add 56 = .ok (.iload_n 1, 1) := by decide +kernel
theorem dX1_add_57 : decode cX1_add 57 = .ok (.iadd, 1) := by decide +kernel
theorem dX1_add_58 : decode cX1_add 58 = .ok (.dup2, 1) := by decide +kernel
theorem dX1_add_59 : decode cX1_add 59 = .ok (.laload, 1) := by decide +kernel
theorem dX1_add_60 : decode cX1_add 60 = .ok (.iload_n 3, 1) := by decide +kernel
theorem dX1_add_61 : decode cX1_add 61 = .ok (.i2l, 1) := by decide +kernel
theorem dX1_add_62 : decode cX1_add 62 = .ok (.lsub, 1) := by decide +kernel
theorem dX1_add_63 : decode cX1_add 63 = .ok (.lastore, 1) := by decide +kernel
theorem dX1_add_64 : decode cX1_add 64 = .ok (.return_, 1) := by decide +kernel
set_option maxRecDepth 20000 in
theorem ggX1_without_X1_choose : GoodIn wsX1_without wsX1_choose := goodIn_r _ [6, 7, 8, 9, 10, 11, 24, 25, 26, 27] (by decide +kernel) (by decide +kernel)
set_option maxRecDepth 20000 in
theorem gX1_without_X1_choose : GoodIn wsX1_without (wsV RX1 38 RX1 yX1_choose wsX1_choose) := goodIn_app (goodIn_of _ (by decide +kernel)) ggX1_without_X1_choose
set_option maxRecDepth 20000 in
theorem ggX1_without_X1_alongLastRow : GoodIn wsX1_without wsX1_alongLastRow := goodIn_r _ [15, 8, 16, 1, 17, 18, 19, 20, 21, 22, 23, 9, 10, 11, 24, 25, 26, 27] (by decide +kernel) (by decide +kernel)
set_option maxRecDepth 20000 in
theorem gX1_without_X1_alongLastRow : GoodIn wsX1_without (wsV RX1 42 RX1 yX1_alongLastRow wsX1_alongLastRow) := goodIn_app (goodIn_of _ (by decide +kernel)) ggX1_without_X1_alongLastRow
theorem dX1_without_0 : decode cX1_without 0 = .ok (.aload_n 0, 1) := by decide +kernel
theorem dX1_without_1 : decode cX1_without 1 = .ok (.iload_n 1, 1) := by decide +kernel
theorem dX1_without_2 : decode cX1_without 2 = .ok (.invokevirtual 38, 3) := by decide +kernel
theorem dX1_without_5 : decode cX1_without 5 = .ok (.istore_n 2, 1) := by decide +kernel
theorem dX1_without_6 : decode cX1_without 6 = .ok (.iconst 1, 1) := by decide +kernel
theorem dX1_without_7 : decode cX1_without 7 = .ok (.iload_n 2, 1) := by decide +kernel
theorem dX1_without_8 : decode cX1_without 8 = .ok (.ishl, 1) := by decide +kernel
theorem dX1_without_9 : decode cX1_without 9 = .ok (.iconst 1, 1) := by decide +kernel
theorem dX1_without_10 : decode cX1_without 10 = .ok (.isub, 1) := by decide +kernel
theorem dX1_without_11 : decode cX1_without 11 = .ok (.istore_n 3, 1) := by decide +kernel
theorem dX1_without_12 : decode cX1_without 12 = .ok (.aload_n 0, 1) := by decide +kernel
theorem dX1_without_13 : decode cX1_without 13 = .ok (.getfield 19, 3) := by decide +kernel
theorem dX1_without_16 : decode cX1_without 16 = .ok (.iconst 0, 1) := by decide +kernel
theorem dX1_without_17 : decode cX1_without 17 = .ok (.lconst 1, 1) := by decide +kernel
theorem dX1_without_18 : decode cX1_without 18 = .ok (.lastore, 1) := by decide +kernel
theorem dX1_without_19 : decode cX1_without 19 = .ok (.iconst 1, 1) := by decide +kernel
theorem dX1_without_20 : decode cX1_without 20 = .ok (.istore 4, 2) := by decide +kernel
theorem dX1_without_22 : decode cX1_without 22 = .ok (.iload 4, 2) := by decide +kernel
theorem dX1_without_24 : decode cX1_without 24 = .ok (.iload_n 3, 1) := by decide +kernel
theorem dX1_without_25 : decode cX1_without 25 = .ok (.if_icmp .gt 23, 3) := by decide +kernel
theorem dX1_without_28 : decode cX1_without 28 = .ok (.aload_n 0, 1) := by decide +kernel
theorem dX1_without_29 : decode cX1_without 29 = .ok (.getfield 19, 3) := by decide +kernel
theorem dX1_without_32 : decode cX1_without 32 = .ok (.iload 4, 2) := by decide +kernel
theorem dX1_without_34 : decode cX1_without 34 = .ok (.aload_n 0, 1) := by decide +kernel
theorem dX1_without_35 : decode cX1_without 35 = .ok (.iload 4, 2) := by decide +kernel
theorem dX1_without_37 : decode cX1_without 37 = .ok (.iload_n 2, 1) := by decide +kernel
theorem dX1_without_38 : decode cX1_without 38 = .ok (.invokevirtual 42, 3) := by decide +kernel
theorem dX1_without_41 : decode cX1_without 41 = .ok (.lastore, 1) := by decide +kernel
theorem dX1_without_42 : decode cX1_without 42 = .ok (.iinc 4 1, 3) := by decide +kernel
theorem dX1_without_45 : decode cX1_without 45 = .ok (.goto (-23), 3) := by decide +kernel
theorem dX1_without_48 : decode cX1_without 48 = .ok (.aload_n 0, 1) := by decide +kernel
theorem dX1_without_49 : decode cX1_without 49 = .ok (.getfield 19, 3) := by decide +kernel
theorem dX1_without_52 : decode cX1_without 52 = .ok (.iload_n 3, 1) := by decide +kernel
theorem dX1_without_53 : decode cX1_without 53 = .ok (.laload, 1) := by decide +kernel
theorem dX1_without_54 : decode cX1_without 54 = .ok (.lreturn, 1) := by decide +kernel
set_option maxRecDepth 20000 in
theorem ggX1_choose_X3_isIn : GoodIn wsX1_choose wsX3_isIn := goodIn_r _ [5] (by decide +kernel) (by decide +kernel)
set_option maxRecDepth 20000 in
theorem gX1_choose_X3_isIn_n46 : GoodIn wsX1_choose (wsX3_isIn) := ggX1_choose_X3_isIn
theorem dX1_choose_0 : decode cX1_choose 0 = .ok (.iconst 0, 1) := by decide +kernel
theorem dX1_choose_1 : decode cX1_choose 1 = .ok (.istore_n 2, 1) := by decide +kernel
theorem dX1_choose_2 : decode cX1_choose 2 = .ok (.iconst 0, 1) := by decide +kernel
theorem dX1_choose_3 : decode cX1_choose 3 = .ok (.istore_n 3, 1) := by decide +kernel
theorem dX1_choose_4 : decode cX1_choose 4 = .ok (.iload_n 3, 1) := by decide +kernel
theorem dX1_choose_5 : decode cX1_choose 5 = .ok (.aload_n 0, 1) := by decide +kernel
theorem dX1_choose_6 : decode cX1_choose 6 = .ok (.getfield 22, 3) := by decide +kernel
theorem dX1_choose_9 : decode cX1_choose 9 = .ok (.if_icmp .ge 27, 3) := by decide +kernel
theorem dX1_choose_12 : decode cX1_choose 12 = .ok (.iload_n 1, 1) := by decide +kernel
theorem dX1_choose_13 : decode cX1_choose 13 = .ok (.iload_n 3, 1) := by decide +kernel
theorem dX1_choose_14 : decode cX1_choose 14 = .ok (.invokestatic 46, 3) := by decide +kernel
theorem dX1_choose_17 : decode cX1_choose 17 = .ok (.ifCond .ne 13, 3) := by decide +kernel
theorem dX1_choose_20 : decode cX1_choose 20 = .ok (.aload_n 0, 1) := by decide +kernel
theorem dX1_choose_21 : decode cX1_choose 21 = .ok (.getfield 15, 3) := by decide +kernel
theorem dX1_choose_24 : decode cX1_choose 24 = .ok (.iload_n 2, 1) := by decide +kernel
theorem dX1_choose_25 : decode cX1_choose 25 = .ok (.iload_n 3, 1) := by decide +kernel
theorem dX1_choose_26 : decode cX1_choose 26 = .ok (.iastore, 1) := by decide +kernel
theorem dX1_choose_27 : decode cX1_choose 27 = .ok (.iinc 2 1, 3) := by decide +kernel
theorem dX1_choose_30 : decode cX1_choose 30 = .ok (.iinc 3 1, 3) := by decide +kernel
theorem dX1_choose_33 : decode cX1_choose 33 = .ok (.goto (-29), 3) := by decide +kernel
theorem dX1_choose_36 : decode cX1_choose 36 = .ok (.iload_n 2, 1) := by decide +kernel
theorem dX1_choose_37 : decode cX1_choose 37 = .ok (.ireturn, 1) := by decide +kernel
set_option maxRecDepth 20000 in
theorem ggX1_alongLastRow_J6_bitCount_0f7a4 : GoodIn wsX1_alongLastRow wsJ6_bitCount_0f7a4 := goodIn_r _ [7, 8, 9, 10] (by decide +kernel) (by decide +kernel)
set_option maxRecDepth 20000 in
theorem gX1_alongLastRow_J6_bitCount_0f7a4 : GoodIn wsX1_alongLastRow (va_wsS RX1 50 yJ6_bitCount_0f7a4 wsJ6_bitCount_0f7a4) := goodIn_app (goodIn_of _ (by decide +kernel)) ggX1_alongLastRow_J6_bitCount_0f7a4
set_option maxRecDepth 20000 in
theorem ggX1_alongLastRow_X3_isIn : GoodIn wsX1_alongLastRow wsX3_isIn := goodIn_r _ [13] (by decide +kernel) (by decide +kernel)
set_option maxRecDepth 20000 in
theorem gX1_alongLastRow_X3_isIn_n46 : GoodIn wsX1_alongLastRow (wsX3_isIn) := ggX1_alongLastRow_X3_isIn
theorem dX1_alongLastRow_0 : decode cX1_alongLastRow 0 = .ok (.aload_n 0, 1) := by decide +kernel
theorem dX1_alongLastRow_1 : decode cX1_alongLastRow 1 = .ok (.getfield 15, 3) := by decide +kernel
theorem dX1_alongLastRow_4 : decode cX1_alongLastRow 4 = .ok (.iload_n 1, 1) := by decide +kernel
theorem dX1_alongLastRow_5 : decode cX1_alongLastRow 5 = .ok (.invokestatic 50, 3) := by decide +kernel
theorem dX1_alongLastRow_8 : decode cX1_alongLastRow 8 = .ok (.iconst 1, 1) := by decide +kernel
theorem dX1_alongLastRow_9 : decode cX1_alongLastRow 9 = .ok (.isub, 1) := by decide +kernel
theorem dX1_alongLastRow_10 : decode cX1_alongLastRow 10 = .ok (.iaload, 1) := by decide +kernel
theorem dX1_alongLastRow_11 : decode cX1_alongLastRow 11 = .ok (.bipush 7, 2) := by decide +kernel
theorem dX1_alongLastRow_13 : decode cX1_alongLastRow 13 = .ok (.imul, 1) := by decide +kernel
theorem dX1_alongLastRow_14 : decode cX1_alongLastRow 14 = .ok (.istore_n 3, 1) := by decide +kernel
theorem dX1_alongLastRow_15 : decode cX1_alongLastRow 15 = .ok (.lconst 0, 1) := by decide +kernel
theorem dX1_alongLastRow_16 : decode cX1_alongLastRow 16 = .ok (.lstore 4, 2) := by decide +kernel
theorem dX1_alongLastRow_18 : decode cX1_alongLastRow 18 = .ok (.lconst 1, 1) := by decide +kernel
theorem dX1_alongLastRow_19 : decode cX1_alongLastRow 19 = .ok (.lstore 6, 2) := by decide +kernel
theorem dX1_alongLastRow_21 : decode cX1_alongLastRow 21 = .ok (.iload_n 2, 1) := by decide +kernel
theorem dX1_alongLastRow_22 : decode cX1_alongLastRow 22 = .ok (.iconst 1, 1) := by decide +kernel
theorem dX1_alongLastRow_23 : decode cX1_alongLastRow 23 = .ok (.isub, 1) := by decide +kernel
theorem dX1_alongLastRow_24 : decode cX1_alongLastRow 24 = .ok (.istore 8, 2) := by decide +kernel
theorem dX1_alongLastRow_26 : decode cX1_alongLastRow 26 = .ok (.iload 8, 2) := by decide +kernel
theorem dX1_alongLastRow_28 : decode cX1_alongLastRow 28 = .ok (.ifCond .lt 59, 3) := by decide +kernel
theorem dX1_alongLastRow_31 : decode cX1_alongLastRow 31 = .ok (.iload_n 1, 1) := by decide +kernel
theorem dX1_alongLastRow_32 : decode cX1_alongLastRow 32 = .ok (.iload 8, 2) := by decide +kernel
theorem dX1_alongLastRow_34 : decode cX1_alongLastRow 34 = .ok (.invokestatic 46, 3) := by decide +kernel
theorem dX1_alongLastRow_37 : decode cX1_alongLastRow 37 = .ok (.ifCond .eq 44, 3) := by decide +kernel
theorem dX1_alongLastRow_40 : decode cX1_alongLastRow 40 = .ok (.lload 4, 2) := by decide +kernel
theorem dX1_alongLastRow_42 : decode cX1_alongLastRow 42 = .ok (.lload 6, 2) := by decide +kernel
theorem dX1_alongLastRow_44 : decode cX1_alongLastRow 44 = .ok (.aload_n 0, 1) := by decide +kernel
theorem dX1_alongLastRow_45 : decode cX1_alongLastRow 45 = .ok (.getfield 9, 3) := by decide +kernel
theorem dX1_alongLastRow_48 : decode cX1_alongLastRow 48 = .ok (.iload_n 3, 1) := by decide +kernel
theorem dX1_alongLastRow_49 : decode cX1_alongLastRow 49 = .ok (.aload_n 0, 1) := by decide +kernel
theorem dX1_alongLastRow_50 : decode cX1_alongLastRow 50 = .ok (.getfield 15, 3) := by decide +kernel
theorem dX1_alongLastRow_53 : decode cX1_alongLastRow 53 = .ok (.iload 8, 2) := by decide +kernel
theorem dX1_alongLastRow_55 : decode cX1_alongLastRow 55 = .ok (.iaload, 1) := by decide +kernel
theorem dX1_alongLastRow_56 : decode cX1_alongLastRow 56 = .ok (.iadd, 1) := by decide +kernel
theorem dX1_alongLastRow_57 : decode cX1_alongLastRow 57 = .ok (.laload, 1) := by decide +kernel
theorem dX1_alongLastRow_58 : decode cX1_alongLastRow 58 = .ok (.lmul, 1) := by decide +kernel
theorem dX1_alongLastRow_59 : decode cX1_alongLastRow 59 = .ok (.aload_n 0, 1) := by decide +kernel
theorem dX1_alongLastRow_60 : decode cX1_alongLastRow 60 = .ok (.getfield 19, 3) := by decide +kernel
theorem dX1_alongLastRow_63 : decode cX1_alongLastRow 63 = .ok (.iload_n 1, 1) := by decide +kernel
theorem dX1_alongLastRow_64 : decode cX1_alongLastRow 64 = .ok (.iconst 1, 1) := by decide +kernel
theorem dX1_alongLastRow_65 : decode cX1_alongLastRow 65 = .ok (.iload 8, 2) := by decide +kernel
theorem dX1_alongLastRow_67 : decode cX1_alongLastRow 67 = .ok (.ishl, 1) := by decide +kernel
theorem dX1_alongLastRow_68 : decode cX1_alongLastRow 68 = .ok (.iconst (-1), 1) := by decide +kernel
theorem dX1_alongLastRow_69 : decode cX1_alongLastRow 69 = .ok (.ixor, 1) := by decide +kernel
theorem dX1_alongLastRow_70 : decode cX1_alongLastRow 70 = .ok (.iand, 1) := by decide +kernel
theorem dX1_alongLastRow_71 : decode cX1_alongLastRow 71 = .ok (.laload, 1) := by decide +kernel
theorem dX1_alongLastRow_72 : decode cX1_alongLastRow 72 = .ok (.lmul, 1) := by decide +kernel
theorem dX1_alongLastRow_73 : decode cX1_alongLastRow 73 = .ok (.ladd, 1) := by decide +kernel
theorem dX1_alongLastRow_74 : decode cX1_alongLastRow 74 = .ok (.lstore 4, 2) := by decide +kernel
theorem dX1_alongLastRow_76 : decode cX1_alongLastRow 76 = .ok (.lload 6, 2) := by decide +kernel
theorem dX1_alongLastRow_78 : decode cX1_alongLastRow 78 = .ok (.lneg, 1) := by decide +kernel
theorem dX1_alongLastRow_79 : decode cX1_alongLastRow 79 = .ok (.lstore 6, 2) := by decide +kernel
theorem dX1_alongLastRow_81 : decode cX1_alongLastRow 81 = .ok (.iinc 8 (-1), 3) := by decide +kernel
theorem dX1_alongLastRow_84 : decode cX1_alongLastRow 84 = .ok (.goto (-58), 3) := by decide +kernel
theorem dX1_alongLastRow_87 : decode cX1_alongLastRow 87 = .ok (.lload 4, 2) := by decide +kernel
theorem dX1_alongLastRow_89 : decode cX1_alongLastRow 89 = .ok (.lreturn, 1) := by decide +kernel
theorem dX2_init_0 : decode cX2_init 0 = .ok (.aload_n 0, 1) := by decide +kernel
theorem dX2_init_1 : decode cX2_init 1 = .ok (.invokespecial 3, 3) := by decide +kernel
theorem dX2_init_4 : decode cX2_init 4 = .ok (.aload_n 0, 1) := by decide +kernel
theorem dX2_init_5 : decode cX2_init 5 = .ok (.bipush 7, 2) := by decide +kernel
theorem dX2_init_7 : decode cX2_init 7 = .ok (.newarray .int, 2) := by decide +kernel
theorem dX2_init_9 : decode cX2_init 9 = .ok (.putfield 9, 3) := by decide +kernel
theorem dX2_init_12 : decode cX2_init 12 = .ok (.return_, 1) := by decide +kernel
theorem dX2_clear_0 : decode cX2_clear 0 = .ok (.iconst 0, 1) := by decide +kernel
theorem dX2_clear_1 : decode cX2_clear 1 = .ok (.istore_n 1, 1) := by decide +kernel
theorem dX2_clear_2 : decode cX2_clear 2 = .ok (.iload_n 1, 1) := by decide +kernel
theorem dX2_clear_3 : decode cX2_clear 3 = .ok (.bipush 7, 2) := by decide +kernel
theorem dX2_clear_5 : decode cX2_clear 5 = .ok (.if_icmp .ge 16, 3) := by decide +kernel
theorem dX2_clear_8 : decode cX2_clear 8 = .ok (.aload_n 0, 1) := by decide +kernel
theorem dX2_clear_9 : decode cX2_clear 9 = .ok (.getfield 9, 3) := by decide +kernel
theorem dX2_clear_12 : decode cX2_clear 12 = .ok (.iload_n 1, 1) := by decide +kernel
theorem dX2_clear_13 : decode cX2_clear 13 = .ok (.iload_n 1, 1) := by decide +kernel
theorem dX2_clear_14 : decode cX2_clear 14 = .ok (.iastore, 1) := by decide +kernel
theorem dX2_clear_15 : decode cX2_clear 15 = .ok (.iinc 1 1, 3) := by decide +kernel
theorem dX2_clear_18 : decode cX2_clear 18 = .ok (.goto (-16), 3) := by decide +kernel
theorem dX2_clear_21 : decode cX2_clear 21 = .ok (.return_, 1) := by decide +kernel
theorem dX2_join_0 : decode cX2_join 0 = .ok (.aload_n 0, 1) := by decide +kernel
theorem dX2_join_1 : decode cX2_join 1 = .ok (.getfield 9, 3) := by decide +kernel
theorem dX2_join_4 : decode cX2_join 4 = .ok (.iload_n 1, 1) := by decide +kernel
theorem dX2_join_5 : decode cX2_join 5 = .ok (.iaload, 1) := by decide +kernel
theorem dX2_join_6 : decode cX2_join 6 = .ok (.istore_n 3, 1) := by decide +kernel
theorem dX2_join_7 : decode cX2_join 7 = .ok (.aload_n 0, 1) := by decide +kernel
theorem dX2_join_8 : decode cX2_join 8 = .ok (.getfield 9, 3) := by decide +kernel
theorem dX2_join_11 : decode cX2_join 11 = .ok (.iload_n 2, 1) := by decide +kernel
theorem dX2_join_12 : decode cX2_join 12 = .ok (.iaload, 1) := by decide +kernel
theorem dX2_join_13 : decode cX2_join 13 = .ok (.istore 4, 2) := by decide +kernel
theorem dX2_join_15 : decode cX2_join 15 = .ok (.iload_n 3, 1) := by decide +kernel
theorem dX2_join_16 : decode cX2_join 16 = .ok (.iload 4, 2) := by decide +kernel
theorem dX2_join_18 : decode cX2_join 18 = .ok (.if_icmp .ne 5, 3) := by decide +kernel
theorem dX2_join_21 : decode cX2_join 21 = .ok (.iconst 0, 1) := by decide +kernel
theorem dX2_join_22 : decode cX2_join 22 = .ok (.ireturn, 1) := by decide +kernel
theorem dX2_join_23 : decode cX2_join 23 = .ok (.iconst 0, 1) := by decide +kernel
theorem dX2_join_24 : decode cX2_join 24 = .ok (.istore 5, 2) := by decide +kernel
theorem dX2_join_26 : decode cX2_join 26 = .ok (.iload 5, 2) := by decide +kernel
theorem dX2_join_28 : decode cX2_join 28 = .ok (.bipush 7, 2) := by decide +kernel
theorem dX2_join_30 : decode cX2_join 30 = .ok (.if_icmp .ge 29, 3) := by decide +kernel
theorem dX2_join_33 : decode cX2_join 33 = .ok (.aload_n 0, 1) := by decide +kernel
theorem dX2_join_34 : decode cX2_join 34 = .ok (.getfield 9, 3) := by decide +kernel
theorem dX2_join_37 : decode cX2_join 37 = .ok (.iload 5, 2) := by decide +kernel
theorem dX2_join_39 : decode cX2_join 39 = .ok (.iaload, 1) := by decide +kernel
theorem dX2_join_40 : decode cX2_join 40 = .ok (.iload_n 3, 1) := by decide +kernel
theorem dX2_join_41 : decode cX2_join 41 = .ok (.if_icmp .ne 12, 3) := by decide +kernel
theorem dX2_join_44 : decode cX2_join 44 = .ok (.aload_n 0, 1) := by decide +kernel
theorem dX2_join_45 : decode cX2_join 45 = .ok (.getfield 9, 3) := by decide +kernel
theorem dX2_join_48 : decode cX2_join 48 = .ok (.iload 5, 2) := by decide +kernel
theorem dX2_join_50 : decode cX2_join 50 = .ok (.iload 4, 2) := by decide +kernel
theorem dX2_join_52 : decode cX2_join 52 = .ok (.iastore, 1) := by decide +kernel
theorem dX2_join_53 : decode cX2_join 53 = .ok (.iinc 5 1, 3) := by decide +kernel
theorem dX2_join_56 : decode cX2_join 56 = .ok (.goto (-30), 3) := by decide +kernel
theorem dX2_join_59 : decode cX2_join 59 = .ok (.iconst 1, 1) := by decide +kernel
theorem dX2_join_60 : decode cX2_join 60 = .ok (.ireturn, 1) := by decide +kernel
set_option maxRecDepth 20000 in
theorem ggX3_init_X2_init : GoodIn wsX3_init wsX2_init := goodIn_r _ [28, 29, 2, 3, 6, 30, 67] (by decide +kernel) (by decide +kernel)
set_option maxRecDepth 20000 in
theorem gX3_init_X2_init : GoodIn wsX3_init (wsX2_init) := ggX3_init_X2_init
set_option maxRecDepth 20000 in
theorem ggX3_init_X0_init : GoodIn wsX3_init wsX0_init := goodIn_r _ [33, 34, 2, 3, 6, 35, 36, 68, 69] (by decide +kernel) (by decide +kernel)
set_option maxRecDepth 20000 in
theorem gX3_init_X0_init : GoodIn wsX3_init (wsX0_init) := ggX3_init_X0_init
set_option maxRecDepth 20000 in
theorem ggX3_init_X1_init : GoodIn wsX3_init wsX1_init := goodIn_r _ [39, 40, 2, 3, 41, 42, 6, 43, 44, 45, 70, 71, 72, 73] (by decide +kernel) (by decide +kernel)
set_option maxRecDepth 20000 in
theorem gX3_init_X1_init : GoodIn wsX3_init (wsX1_init) := ggX3_init_X1_init
set_option maxRecDepth 20000 in
theorem ggX3_init_X3_forgetFewest : GoodIn wsX3_init wsX3_forgetFewest := goodIn_r _ [50, 25, 51, 52, 53, 54, 55, 56, 57, 58, 59, 60, 61, 62, 63, 64, 65, 66] (by decide +kernel) (by decide +kernel)
set_option maxRecDepth 20000 in
theorem gX3_init_X3_forgetFewest : GoodIn wsX3_init (wsV RX3 59 RX3 yX3_forgetFewest wsX3_forgetFewest) := goodIn_app (goodIn_of _ (by decide +kernel)) ggX3_init_X3_forgetFewest
theorem dX3_init_0 : decode cX3_init 0 = .ok (.aload_n 0, 1) := by decide +kernel
theorem dX3_init_1 : decode cX3_init 1 = .ok (.invokespecial 1, 3) := by decide +kernel
theorem dX3_init_4 : decode cX3_init 4 = .ok (.aload_n 0, 1) := by decide +kernel
theorem dX3_init_5 : decode cX3_init 5 = .ok (.iconst 4, 1) := by decide +kernel
theorem dX3_init_6 : decode cX3_init 6 = .ok (.putfield 9, 3) := by decide +kernel
theorem dX3_init_9 : decode cX3_init 9 = .ok (.aload_n 0, 1) := by decide +kernel
theorem dX3_init_10 : decode cX3_init 10 = .ok (.iconst 0, 1) := by decide +kernel
theorem dX3_init_11 : decode cX3_init 11 = .ok (.putfield 13, 3) := by decide +kernel
theorem dX3_init_14 : decode cX3_init 14 = .ok (.aload_n 0, 1) := by decide +kernel
theorem dX3_init_15 : decode cX3_init 15 = .ok (.bipush 12, 2) := by decide +kernel
theorem dX3_init_17 : decode cX3_init 17 = .ok (.newarray .int, 2) := by decide +kernel
theorem dX3_init_19 : decode cX3_init 19 = .ok (.putfield 16, 3) := by decide +kernel
theorem dX3_init_22 : decode cX3_init 22 = .ok (.aload_n 0, 1) := by decide +kernel
theorem dX3_init_23 : decode cX3_init 23 = .ok (.bipush 12, 2) := by decide +kernel
theorem dX3_init_25 : decode cX3_init 25 = .ok (.newarray .int, 2) := by decide +kernel
theorem dX3_init_27 : decode cX3_init 27 = .ok (.putfield 20, 3) := by decide +kernel
theorem dX3_init_30 : decode cX3_init 30 = .ok (.aload_n 0, 1) := by decide +kernel
theorem dX3_init_31 : decode cX3_init 31 = .ok (.bipush 12, 2) := by decide +kernel
theorem dX3_init_33 : decode cX3_init 33 = .ok (.newarray .int, 2) := by decide +kernel
theorem dX3_init_35 : decode cX3_init 35 = .ok (.putfield 23, 3) := by decide +kernel
theorem dX3_init_38 : decode cX3_init 38 = .ok (.aload_n 0, 1) := by decide +kernel
theorem dX3_init_39 : decode cX3_init 39 = .ok (.bipush 12, 2) := by decide +kernel
theorem dX3_init_41 : decode cX3_init 41 = .ok (.newarray .int, 2) := by decide +kernel
theorem dX3_init_43 : decode cX3_init 43 = .ok (.putfield 26, 3) := by decide +kernel
theorem dX3_init_46 : decode cX3_init 46 = .ok (.aload_n 0, 1) := by decide +kernel
theorem dX3_init_47 : decode cX3_init 47 = .ok (.bipush 12, 2) := by decide +kernel
theorem dX3_init_49 : decode cX3_init 49 = .ok (.newarray .int, 2) := by decide +kernel
theorem dX3_init_51 : decode cX3_init 51 = .ok (.putfield 29, 3) := by decide +kernel
theorem dX3_init_54 : decode cX3_init 54 = .ok (.aload_n 0, 1) := by decide +kernel
theorem dX3_init_55 : decode cX3_init 55 = .ok (.new 32, 3) := by decide +kernel
theorem dX3_init_58 : decode cX3_init 58 = .ok (.dup, 1) := by decide +kernel
theorem dX3_init_59 : decode cX3_init 59 = .ok (.invokespecial 34, 3) := by decide +kernel
theorem dX3_init_62 : decode cX3_init 62 = .ok (.putfield 35, 3) := by decide +kernel
theorem dX3_init_65 : decode cX3_init 65 = .ok (.aload_n 0, 1) := by decide +kernel
theorem dX3_init_66 : decode cX3_init 66 = .ok (.new 39, 3) := by decide +kernel
theorem dX3_init_69 : decode cX3_init 69 = .ok (.dup, 1) := by decide +kernel
theorem dX3_init_70 : decode cX3_init 70 = .ok (.invokespecial 41, 3) := by decide +kernel
theorem dX3_init_73 : decode cX3_init 73 = .ok (.putfield 42, 3) := by decide +kernel
theorem dX3_init_76 : decode cX3_init 76 = .ok (.aload_n 0, 1) := by decide +kernel
theorem dX3_init_77 : decode cX3_init 77 = .ok (.new 39, 3) := by decide +kernel
theorem dX3_init_80 : decode cX3_init 80 = .ok (.dup, 1) := by decide +kernel
theorem dX3_init_81 : decode cX3_init 81 = .ok (.invokespecial 41, 3) := by decide +kernel
theorem dX3_init_84 : decode cX3_init 84 = .ok (.putfield 46, 3) := by decide +kernel
theorem dX3_init_87 : decode cX3_init 87 = .ok (.aload_n 0, 1) := by decide +kernel
theorem dX3_init_88 : decode cX3_init 88 = .ok (.new 49, 3) := by decide +kernel
theorem dX3_init_91 : decode cX3_init 91 = .ok (.dup, 1) := by decide +kernel
theorem dX3_init_92 : decode cX3_init 92 = .ok (.invokespecial 51, 3) := by decide +kernel
theorem dX3_init_95 : decode cX3_init 95 = .ok (.putfield 52, 3) := by decide +kernel
theorem dX3_init_98 : decode cX3_init 98 = .ok (.aload_n 0, 1) := by decide +kernel
theorem dX3_init_99 : decode cX3_init 99 = .ok (.bipush 10, 2) := by decide +kernel
theorem dX3_init_101 : decode cX3_init 101 = .ok (.newarray .int, 2) := by decide +kernel
theorem dX3_init_103 : decode cX3_init 103 = .ok (.putfield 56, 3) := by decide +kernel
theorem dX3_init_106 : decode cX3_init 106 = .ok (.aload_n 0, 1) := by decide +kernel
theorem dX3_init_107 : decode cX3_init 107 = .ok (.invokevirtual 59, 3) := by decide +kernel
theorem dX3_init_110 : decode cX3_init 110 = .ok (.return_, 1) := by decide +kernel
set_option maxRecDepth 20000 in
theorem ggX3_nodes_X3_isWithin : GoodIn wsX3_nodes wsX3_isWithin := goodIn_r _ [6] (by decide +kernel) (by decide +kernel)
set_option maxRecDepth 20000 in
theorem gX3_nodes_X3_isWithin : GoodIn wsX3_nodes (va_wsS RX3 62 yX3_isWithin wsX3_isWithin) := goodIn_app (goodIn_of _ (by decide +kernel)) ggX3_nodes_X3_isWithin
set_option maxRecDepth 20000 in
theorem ggX3_nodes_X3_forgetFewest : GoodIn wsX3_nodes wsX3_forgetFewest := goodIn_r _ [10, 11, 12, 13, 14, 15, 16, 17, 18, 19, 20, 21, 22, 23, 24, 25, 26, 27] (by decide +kernel) (by decide +kernel)
set_option maxRecDepth 20000 in
theorem gX3_nodes_X3_forgetFewest : GoodIn wsX3_nodes (wsV RX3 59 RX3 yX3_forgetFewest wsX3_forgetFewest) := goodIn_app (goodIn_of _ (by decide +kernel)) ggX3_nodes_X3_forgetFewest
theorem dX3_nodes_0 : decode cX3_nodes 0 = .ok (.iload_n 1, 1) := by decide +kernel
theorem dX3_nodes_1 : decode cX3_nodes 1 = .ok (.iconst 2, 1) := by decide +kernel
theorem dX3_nodes_2 : decode cX3_nodes 2 = .ok (.bipush 7, 2) := by decide +kernel
theorem dX3_nodes_4 : decode cX3_nodes 4 = .ok (.invokestatic 62, 3) := by decide +kernel
theorem dX3_nodes_7 : decode cX3_nodes 7 = .ok (.ifCond .ne 6, 3) := by decide +kernel
theorem dX3_nodes_10 : decode cX3_nodes 10 = .ok (.bipush (-3), 2) := by decide +kernel
theorem dX3_nodes_12 : decode cX3_nodes 12 = .ok (.ireturn, 1) := by decide +kernel
theorem dX3_nodes_13 : decode cX3_nodes 13 = .ok (.aload_n 0, 1) := by decide +kernel
theorem dX3_nodes_14 : decode cX3_nodes 14 = .ok (.iload_n 1, 1) := by decide +kernel
theorem dX3_nodes_15 : decode cX3_nodes 15 = .ok (.putfield 9, 3) := by decide +kernel
theorem dX3_nodes_18 : decode cX3_nodes 18 = .ok (.aload_n 0, 1) := by decide +kernel
theorem dX3_nodes_19 : decode cX3_nodes 19 = .ok (.iconst 0, 1) := by decide +kernel
theorem dX3_nodes_20 : decode cX3_nodes 20 = .ok (.putfield 13, 3) := by decide +kernel
theorem dX3_nodes_23 : decode cX3_nodes 23 = .ok (.aload_n 0, 1) := by decide +kernel
theorem dX3_nodes_24 : decode cX3_nodes 24 = .ok (.invokevirtual 59, 3) := by decide +kernel
theorem dX3_nodes_27 : decode cX3_nodes 27 = .ok (.iconst 1, 1) := by decide +kernel
theorem dX3_nodes_28 : decode cX3_nodes 28 = .ok (.ireturn, 1) := by decide +kernel
set_option maxRecDepth 20000 in
theorem ggX3_line_X3_isNode : GoodIn wsX3_line wsX3_isNode := goodIn_r _ [17, 18, 31, 32, 33, 34, 35, 36, 37, 38, 39, 40, 41, 42] (by decide +kernel) (by decide +kernel)
set_option maxRecDepth 20000 in
theorem gX3_line_X3_isNode : GoodIn wsX3_line (wsV RX3 66 RX3 yX3_isNode wsX3_isNode) := goodIn_app (goodIn_of _ (by decide +kernel)) ggX3_line_X3_isNode
set_option maxRecDepth 20000 in
theorem ggX3_line_X3_isWithin : GoodIn wsX3_line wsX3_isWithin := goodIn_r _ [21] (by decide +kernel) (by decide +kernel)
set_option maxRecDepth 20000 in
theorem gX3_line_X3_isWithin : GoodIn wsX3_line (va_wsS RX3 62 yX3_isWithin wsX3_isWithin) := goodIn_app (goodIn_of _ (by decide +kernel)) ggX3_line_X3_isWithin
set_option maxRecDepth 20000 in
theorem ggX3_line_X3_forgetFewest : GoodIn wsX3_line wsX3_forgetFewest := goodIn_r _ [25, 26, 27, 28, 29, 30, 31, 32, 33, 34, 35, 36, 37, 38, 39, 40, 41, 42] (by decide +kernel) (by decide +kernel)
set_option maxRecDepth 20000 in
theorem gX3_line_X3_forgetFewest : GoodIn wsX3_line (wsV RX3 59 RX3 yX3_forgetFewest wsX3_forgetFewest) := goodIn_app (goodIn_of _ (by decide +kernel)) ggX3_line_X3_forgetFewest
theorem dX3_line_0 : decode cX3_line 0 = .ok (.aload_n 0, 1) := by decide +kernel
theorem dX3_line_1 : decode cX3_line 1 = .ok (.iload_n 1, 1) := by decide +kernel
theorem dX3_line_2 : decode cX3_line 2 = .ok (.invokevirtual 66, 3) := by decide +kernel
theorem dX3_line_5 : decode cX3_line 5 = .ok (.ifCond .eq 11, 3) := by decide +kernel
theorem dX3_line_8 : decode cX3_line 8 = .ok (.aload_n 0, 1) := by decide +kernel
theorem dX3_line_9 : decode cX3_line 9 = .ok (.iload_n 2, 1) := by decide +kernel
theorem dX3_line_10 : decode cX3_line 10 = .ok (.invokevirtual 66, 3) := by decide +kernel
theorem dX3_line_13 : decode cX3_line 13 = .ok (.ifCond .ne 6, 3) := by decide +kernel
theorem dX3_line_16 : decode cX3_line 16 = .ok (.bipush (-2), 2) := by decide +kernel
theorem dX3_line_18 : decode cX3_line 18 = .ok (.ireturn, 1) := by decide +kernel
theorem dX3_line_19 : decode cX3_line 19 = .ok (.iload_n 1, 1) := by decide +kernel
theorem dX3_line_20 : decode cX3_line 20 = .ok (.iload_n 2, 1) := by decide +kernel
theorem dX3_line_21 : decode cX3_line 21 = .ok (.if_icmp .eq 13, 3) := by decide +kernel
theorem dX3_line_24 : decode cX3_line 24 = .ok (.iload_n 3, 1) := by decide +kernel
theorem dX3_line_25 : decode cX3_line 25 = .ok (.iconst 1, 1) := by decide +kernel
theorem dX3_line_26 : decode cX3_line 26 = .ok (.bipush 9, 2) := by decide +kernel
theorem dX3_line_28 : decode cX3_line 28 = .ok (.invokestatic 62, 3) := by decide +kernel
theorem dX3_line_31 : decode cX3_line 31 = .ok (.ifCond .ne 6, 3) := by decide +kernel
theorem dX3_line_34 : decode cX3_line 34 = .ok (.bipush (-3), 2) := by decide +kernel
theorem dX3_line_36 : decode cX3_line 36 = .ok (.ireturn, 1) := by decide +kernel
theorem dX3_line_37 : decode cX3_line 37 = .ok (.aload_n 0, 1) := by decide +kernel
theorem dX3_line_38 : decode cX3_line 38 = .ok (.getfield 13, 3) := by decide +kernel
theorem dX3_line_41 : decode cX3_line 41 = .ok (.bipush 12, 2) := by decide +kernel
theorem dX3_line_43 : decode cX3_line 43 = .ok (.if_icmp .lt 6, 3) := by decide +kernel
theorem dX3_line_46 : decode cX3_line 46 = .ok (.bipush (-5), 2) := by decide +kernel
theorem dX3_line_48 : decode cX3_line 48 = .ok (.ireturn, 1) := by decide +kernel
theorem dX3_line_49 : decode cX3_line 49 = .ok (.aload_n 0, 1) := by decide +kernel
theorem dX3_line_50 : decode cX3_line 50 = .ok (.getfield 13, 3) := by decide +kernel
theorem dX3_line_53 : decode cX3_line 53 = .ok (.istore 4, 2) := by decide +kernel
theorem dX3_line_55 : decode cX3_line 55 = .ok (.aload_n 0, 1) := by decide +kernel
theorem dX3_line_56 : decode cX3_line 56 = .ok (.getfield 16, 3) := by decide +kernel
theorem dX3_line_59 : decode cX3_line 59 = .ok (.iload 4, 2) := by decide +kernel
theorem dX3_line_61 : decode cX3_line 61 = .ok (.iload_n 1, 1) := by decide +kernel
theorem dX3_line_62 : decode cX3_line 62 = .ok (.iload_n 2, 1) := by decide +kernel
theorem dX3_line_63 : decode cX3_line 63 = .ok (.invokestatic 70, 3) := by decide +kernel
theorem dX3_line_66 : decode cX3_line 66 = .ok (.iastore, 1) := by decide +kernel
theorem dX3_line_67 : decode cX3_line 67 = .ok (.aload_n 0, 1) := by decide +kernel
theorem dX3_line_68 : decode cX3_line 68 = .ok (.getfield 20, 3) := by decide +kernel
theorem dX3_line_71 : decode cX3_line 71 = .ok (.iload 4, 2) := by decide +kernel
theorem dX3_line_73 : decode cX3_line 73 = .ok (.iload_n 1, 1) := by decide +kernel
theorem dX3_line_74 : decode cX3_line 74 = .ok (.iload_n 2, 1) := by decide +kernel
theorem dX3_line_75 : decode cX3_line 75 = .ok (.invokestatic 76, 3) := by decide +kernel
theorem dX3_line_78 : decode cX3_line 78 = .ok (.iastore, 1) := by decide +kernel
theorem dX3_line_79 : decode cX3_line 79 = .ok (.aload_n 0, 1) := by decide +kernel
theorem dX3_line_80 : decode cX3_line 80 = .ok (.getfield 23, 3) := by decide +kernel
theorem dX3_line_83 : decode cX3_line 83 = .ok (.iload 4, 2) := by decide +kernel
theorem dX3_line_85 : decode cX3_line 85 = .ok (.iload_n 3, 1) := by decide +kernel
theorem dX3_line_86 : decode cX3_line 86 = .ok (.iastore, 1) := by decide +kernel
theorem dX3_line_87 : decode cX3_line 87 = .ok (.aload_n 0, 1) := by decide +kernel
theorem dX3_line_88 : decode cX3_line 88 = .ok (.getfield 26, 3) := by decide +kernel
theorem dX3_line_91 : decode cX3_line 91 = .ok (.iload 4, 2) := by decide +kernel
theorem dX3_line_93 : decode cX3_line 93 = .ok (.iload_n 3, 1) := by decide +kernel
theorem dX3_line_94 : decode cX3_line 94 = .ok (.iastore, 1) := by decide +kernel
theorem dX3_line_95 : decode cX3_line 95 = .ok (.aload_n 0, 1) := by decide +kernel
theorem dX3_line_96 : decode cX3_line 96 = .ok (.iload 4, 2) := by decide +kernel
theorem dX3_line_98 : decode cX3_line 98 = .ok (.iconst 1, 1) := by decide +kernel
theorem dX3_line_99 : decode cX3_line 99 = .ok (.iadd, 1) := by decide +kernel
theorem dX3_line_100 : decode cX3_line 100 = .ok (.putfield 13, 3) := by decide +kernel
theorem dX3_line_103 : decode cX3_line 103 = .ok (.aload_n 0, 1) := by decide +kernel
theorem dX3_line_104 : decode cX3_line 104 = .ok (.invokevirtual 59, 3) := by decide +kernel
theorem dX3_line_107 : decode cX3_line 107 = .ok (.iload 4, 2) := by decide +kernel
theorem dX3_line_109 : decode cX3_line 109 = .ok (.ireturn, 1) := by decide +kernel
set_option maxRecDepth 20000 in
theorem ggX3_drop_X3_isLine : GoodIn wsX3_drop wsX3_isLine := goodIn_r _ [10, 1, 20, 21, 22, 23, 24, 25, 26, 27, 28, 29, 30, 31] (by decide +kernel) (by decide +kernel)
set_option maxRecDepth 20000 in
theorem gX3_drop_X3_isLine : GoodIn wsX3_drop (wsV RX3 79 RX3 yX3_isLine wsX3_isLine) := goodIn_app (goodIn_of _ (by decide +kernel)) ggX3_drop_X3_isLine
set_option maxRecDepth 20000 in
theorem ggX3_drop_X3_forgetFewest : GoodIn wsX3_drop wsX3_forgetFewest := goodIn_r _ [14, 15, 16, 17, 18, 19, 20, 21, 22, 23, 24, 25, 26, 27, 28, 29, 30, 31] (by decide +kernel) (by decide +kernel)
set_option maxRecDepth 20000 in
theorem gX3_drop_X3_forgetFewest : GoodIn wsX3_drop (wsV RX3 59 RX3 yX3_forgetFewest wsX3_forgetFewest) := goodIn_app (goodIn_of _ (by decide +kernel)) ggX3_drop_X3_forgetFewest
theorem dX3_drop_0 : decode cX3_drop 0 = .ok (.aload_n 0, 1) := by decide +kernel
theorem dX3_drop_1 : decode cX3_drop 1 = .ok (.iload_n 1, 1) := by decide +kernel
theorem dX3_drop_2 : decode cX3_drop 2 = .ok (.invokevirtual 79, 3) := by decide +kernel
theorem dX3_drop_5 : decode cX3_drop 5 = .ok (.ifCond .ne 6, 3) := by decide +kernel
theorem dX3_drop_8 : decode cX3_drop 8 = .ok (.bipush (-2), 2) := by decide +kernel
theorem dX3_drop_10 : decode cX3_drop 10 = .ok (.ireturn, 1) := by decide +kernel
theorem dX3_drop_11 : decode cX3_drop 11 = .ok (.iload_n 1, 1) := by decide +kernel
theorem dX3_drop_12 : decode cX3_drop 12 = .ok (.istore_n 2, 1) := by decide +kernel
theorem dX3_drop_13 : decode cX3_drop 13 = .ok (.iload_n 2, 1) := by decide +kernel
theorem dX3_drop_14 : decode cX3_drop 14 = .ok (.aload_n 0, 1) := by decide +kernel
theorem dX3_drop_15 : decode cX3_drop 15 = .ok (.getfield 13, 3) := by decide +kernel
theorem dX3_drop_18 : decode cX3_drop 18 = .ok (.iconst 1, 1) := by decide +kernel
theorem dX3_drop_19 : decode cX3_drop 19 = .ok (.isub, 1) := by decide +kernel
theorem dX3_drop_20 : decode cX3_drop 20 = .ok (.if_icmp .ge 65, 3) := by decide +kernel
theorem dX3_drop_23 : decode cX3_drop 23 = .ok (.aload_n 0, 1) := by decide +kernel
theorem dX3_drop_24 : decode cX3_drop 24 = .ok (.getfield 16, 3) := by decide +kernel
theorem dX3_drop_27 : decode cX3_drop 27 = .ok (.iload_n 2, 1) := by decide +kernel
theorem dX3_drop_28 : decode cX3_drop 28 = .ok (.aload_n 0, 1) := by decide +kernel
theorem dX3_drop_29 : decode cX3_drop 29 = .ok (.getfield 16, 3) := by decide +kernel
theorem dX3_drop_32 : decode cX3_drop 32 = .ok (.iload_n 2, 1) := by decide +kernel
theorem dX3_drop_33 : decode cX3_drop 33 = .ok (.iconst 1, 1) := by decide +kernel
theorem dX3_drop_34 : decode cX3_drop 34 = .ok (.iadd, 1) := by decide +kernel
theorem dX3_drop_35 : decode cX3_drop 35 = .ok (.iaload, 1) := by decide +kernel
theorem dX3_drop_36 : decode cX3_drop 36 = .ok (.iastore, 1) := by decide +kernel
theorem dX3_drop_37 : decode cX3_drop 37 = .ok (.aload_n 0, 1) := by decide +kernel
theorem dX3_drop_38 : decode cX3_drop 38 = .ok (.getfield 20, 3) := by decide +kernel
theorem dX3_drop_41 : decode cX3_drop 41 = .ok (.iload_n 2, 1) := by decide +kernel
theorem dX3_drop_42 : decode cX3_drop 42 = .ok (.aload_n 0, 1) := by decide +kernel
theorem dX3_drop_43 : decode cX3_drop 43 = .ok (.getfield 20, 3) := by decide +kernel
theorem dX3_drop_46 : decode cX3_drop 46 = .ok (.iload_n 2, 1) := by decide +kernel
theorem dX3_drop_47 : decode cX3_drop 47 = .ok (.iconst 1, 1) := by decide +kernel
theorem dX3_drop_48 : decode cX3_drop 48 = .ok (.iadd, 1) := by decide +kernel
theorem dX3_drop_49 : decode cX3_drop 49 = .ok (.iaload, 1) := by decide +kernel
theorem dX3_drop_50 : decode cX3_drop 50 = .ok (.iastore, 1) := by decide +kernel
theorem dX3_drop_51 : decode cX3_drop 51 = .ok (.aload_n 0, 1) := by decide +kernel
theorem dX3_drop_52 : decode cX3_drop 52 = .ok (.getfield 23, 3) := by decide +kernel
theorem dX3_drop_55 : decode cX3_drop 55 = .ok (.iload_n 2, 1) := by decide +kernel
theorem dX3_drop_56 : decode cX3_drop 56 = .ok (.aload_n 0, 1) := by decide +kernel
theorem dX3_drop_57 : decode cX3_drop 57 = .ok (.getfield 23, 3) := by decide +kernel
theorem dX3_drop_60 : decode cX3_drop 60 = .ok (.iload_n 2, 1) := by decide +kernel
theorem dX3_drop_61 : decode cX3_drop 61 = .ok (.iconst 1, 1) := by decide +kernel
theorem dX3_drop_62 : decode cX3_drop 62 = .ok (.iadd, 1) := by decide +kernel
theorem dX3_drop_63 : decode cX3_drop 63 = .ok (.iaload, 1) := by decide +kernel
theorem dX3_drop_64 : decode cX3_drop 64 = .ok (.iastore, 1) := by decide +kernel
theorem dX3_drop_65 : decode cX3_drop 65 = .ok (.aload_n 0, 1) := by decide +kernel
theorem dX3_drop_66 : decode cX3_drop 66 = .ok (.getfield 26, 3) := by decide +kernel
theorem dX3_drop_69 : decode cX3_drop 69 = .ok (.iload_n 2, 1) := by decide +kernel
theorem dX3_drop_70 : decode cX3_drop 70 = .ok (.aload_n 0, 1) := by decide +kernel
theorem dX3_drop_71 : decode cX3_drop 71 = .ok (.getfield 26, 3) := by decide +kernel
theorem dX3_drop_74 : decode cX3_drop 74 = .ok (.iload_n 2, 1) := by decide +kernel
theorem dX3_drop_75 : decode cX3_drop 75 = .ok (.iconst 1, 1) := by decide +kernel
theorem dX3_drop_76 : decode cX3_drop 76 = .ok (.iadd, 1) := by decide +kernel
theorem dX3_drop_77 : decode cX3_drop 77 = .ok (.iaload, 1) := by decide +kernel
theorem dX3_drop_78 : decode cX3_drop 78 = .ok (.iastore, 1) := by decide +kernel
theorem dX3_drop_79 : decode cX3_drop 79 = .ok (.iinc 2 1, 3) := by decide +kernel
theorem dX3_drop_82 : decode cX3_drop 82 = .ok (.goto (-69), 3) := by decide +kernel
theorem dX3_drop_85 : decode cX3_drop 85 = .ok (.aload_n 0, 1) := by decide +kernel
theorem dX3_drop_86 : decode cX3_drop 86 = .ok (.dup, 1) := by decide +kernel
theorem dX3_drop_87 : decode cX3_drop 87 = .ok (.getfield 13, 3) := by decide +kernel
theorem dX3_drop_90 : decode cX3_drop 90 = .ok (.iconst 1, 1) := by decide +kernel
theorem dX3_drop_91 : decode cX3_drop 91 = .ok (.isub, 1) := by decide +kernel
theorem dX3_drop_92 : decode cX3_drop 92 = .ok (.putfield 13, 3) := by decide +kernel
theorem dX3_drop_95 : decode cX3_drop 95 = .ok (.aload_n 0, 1) := by decide +kernel
theorem dX3_drop_96 : decode cX3_drop 96 = .ok (.invokevirtual 59, 3) := by decide +kernel
theorem dX3_drop_99 : decode cX3_drop 99 = .ok (.iconst 1, 1) := by decide +kernel
theorem dX3_drop_100 : decode cX3_drop 100 = .ok (.ireturn, 1) := by decide +kernel
set_option maxRecDepth 20000 in
theorem ggX3_keep_X3_isLine : GoodIn wsX3_keep wsX3_isLine := goodIn_r _ [6, 7, 11, 12, 13, 14, 15, 16, 17, 18, 19, 20, 21, 22] (by decide +kernel) (by decide +kernel)
set_option maxRecDepth 20000 in
theorem gX3_keep_X3_isLine : GoodIn wsX3_keep (wsV RX3 79 RX3 yX3_isLine wsX3_isLine) := goodIn_app (goodIn_of _ (by decide +kernel)) ggX3_keep_X3_isLine
set_option maxRecDepth 20000 in
theorem ggX3_keep_X3_isWithin : GoodIn wsX3_keep wsX3_isWithin := goodIn_r _ [10] (by decide +kernel) (by decide +kernel)
set_option maxRecDepth 20000 in
theorem gX3_keep_X3_isWithin : GoodIn wsX3_keep (va_wsS RX3 62 yX3_isWithin wsX3_isWithin) := goodIn_app (goodIn_of _ (by decide +kernel)) ggX3_keep_X3_isWithin
theorem dX3_keep_0 : decode cX3_keep 0 = .ok (.aload_n 0, 1) := by decide +kernel
theorem dX3_keep_1 : decode cX3_keep 1 = .ok (.iload_n 1, 1) := by decide +kernel
theorem dX3_keep_2 : decode cX3_keep 2 = .ok (.invokevirtual 79, 3) := by decide +kernel
theorem dX3_keep_5 : decode cX3_keep 5 = .ok (.ifCond .ne 6, 3) := by decide +kernel
theorem dX3_keep_8 : decode cX3_keep 8 = .ok (.bipush (-2), 2) := by decide +kernel
theorem dX3_keep_10 : decode cX3_keep 10 = .ok (.ireturn, 1) := by decide +kernel
theorem dX3_keep_11 : decode cX3_keep 11 = .ok (.iload_n 2, 1) := by decide +kernel
theorem dX3_keep_12 : decode cX3_keep 12 = .ok (.iconst 0, 1) := by decide +kernel
theorem dX3_keep_13 : decode cX3_keep 13 = .ok (.bipush 60, 2) := by decide +kernel
theorem dX3_keep_15 : decode cX3_keep 15 = .ok (.invokestatic 62, 3) := by decide +kernel
theorem dX3_keep_18 : decode cX3_keep 18 = .ok (.ifCond .ne 6, 3) := by decide +kernel
theorem dX3_keep_21 : decode cX3_keep 21 = .ok (.bipush (-3), 2) := by decide +kernel
theorem dX3_keep_23 : decode cX3_keep 23 = .ok (.ireturn, 1) := by decide +kernel
theorem dX3_keep_24 : decode cX3_keep 24 = .ok (.aload_n 0, 1) := by decide +kernel
theorem dX3_keep_25 : decode cX3_keep 25 = .ok (.getfield 26, 3) := by decide +kernel
theorem dX3_keep_28 : decode cX3_keep 28 = .ok (.iload_n 1, 1) := by decide +kernel
theorem dX3_keep_29 : decode cX3_keep 29 = .ok (.iaload, 1) := by decide +kernel
theorem dX3_keep_30 : decode cX3_keep 30 = .ok (.istore_n 3, 1) := by decide +kernel
theorem dX3_keep_31 : decode cX3_keep 31 = .ok (.aload_n 0, 1) := by decide +kernel
theorem dX3_keep_32 : decode cX3_keep 32 = .ok (.getfield 26, 3) := by decide +kernel
theorem dX3_keep_35 : decode cX3_keep 35 = .ok (.iload_n 1, 1) := by decide +kernel
theorem dX3_keep_36 : decode cX3_keep 36 = .ok (.iload_n 2, 1) := by decide +kernel
theorem dX3_keep_37 : decode cX3_keep 37 = .ok (.iastore, 1) := by decide +kernel
theorem dX3_keep_38 : decode cX3_keep 38 = .ok (.iload_n 3, 1) := by decide +kernel
theorem dX3_keep_39 : decode cX3_keep 39 = .ok (.ireturn, 1) := by decide +kernel
set_option maxRecDepth 20000 in
theorem ggX3_at_X3_isLine : GoodIn wsX3_at wsX3_isLine := goodIn_r _ [10, 11, 35, 36, 37, 38, 39, 40, 41, 42, 43, 44, 45, 46] (by decide +kernel) (by decide +kernel)
set_option maxRecDepth 20000 in
theorem gX3_at_X3_isLine : GoodIn wsX3_at (wsV RX3 79 RX3 yX3_isLine wsX3_isLine) := goodIn_app (goodIn_of _ (by decide +kernel)) ggX3_at_X3_isLine
set_option maxRecDepth 20000 in
theorem ggX3_at_X3_peelForests : GoodIn wsX3_at wsX3_peelForests := goodIn_r _ [15, 5, 11, 16, 17, 18, 19, 20, 21, 22, 9, 23, 24, 1, 2, 25, 26, 27, 28, 29, 30, 31, 32, 33, 34, 35, 36, 37, 38, 39, 40, 41, 42, 43, 44, 45, 46, 47] (by decide +kernel) (by decide +kernel)
set_option maxRecDepth 20000 in
theorem gX3_at_X3_peelForests : GoodIn wsX3_at (wsV RX3 82 RX3 yX3_peelForests wsX3_peelForests) := goodIn_app (goodIn_of _ (by decide +kernel)) ggX3_at_X3_peelForests
theorem dX3_at_0 : decode cX3_at 0 = .ok (.aload_n 0, 1) := by decide +kernel
theorem dX3_at_1 : decode cX3_at 1 = .ok (.iload_n 1, 1) := by decide +kernel
theorem dX3_at_2 : decode cX3_at 2 = .ok (.invokevirtual 79, 3) := by decide +kernel
theorem dX3_at_5 : decode cX3_at 5 = .ok (.ifCond .ne 6, 3) := by decide +kernel
theorem dX3_at_8 : decode cX3_at 8 = .ok (.bipush (-2), 2) := by decide +kernel
theorem dX3_at_10 : decode cX3_at 10 = .ok (.ireturn, 1) := by decide +kernel
theorem dX3_at_11 : decode cX3_at 11 = .ok (.iload_n 2, 1) := by decide +kernel
theorem dX3_at_12 : decode cX3_at 12 = .ok (.tableswitch 76 0 4 #[36, 43, 50, 57, 64], 36) := by decide +kernel
theorem dX3_at_48 : decode cX3_at 48 = .ok (.aload_n 0, 1) := by decide +kernel
theorem dX3_at_49 : decode cX3_at 49 = .ok (.getfield 16, 3) := by decide +kernel
theorem dX3_at_52 : decode cX3_at 52 = .ok (.iload_n 1, 1) := by decide +kernel
theorem dX3_at_53 : decode cX3_at 53 = .ok (.iaload, 1) := by decide +kernel
theorem dX3_at_54 : decode cX3_at 54 = .ok (.ireturn, 1) := by decide +kernel
theorem dX3_at_55 : decode cX3_at 55 = .ok (.aload_n 0, 1) := by decide +kernel
theorem dX3_at_56 : decode cX3_at 56 = .ok (.getfield 20, 3) := by decide +kernel
theorem dX3_at_59 : decode cX3_at 59 = .ok (.iload_n 1, 1) := by decide +kernel
theorem dX3_at_60 : decode cX3_at 60 = .ok (.iaload, 1) := by decide +kernel
theorem dX3_at_61 : decode cX3_at 61 = .ok (.ireturn, 1) := by decide +kernel
theorem dX3_at_62 : decode cX3_at 62 = .ok (.aload_n 0, 1) := by decide +kernel
theorem dX3_at_63 : decode cX3_at 63 = .ok (.getfield 23, 3) := by decide +kernel
theorem dX3_at_66 : decode cX3_at 66 = .ok (.iload_n 1, 1) := by decide +kernel
theorem dX3_at_67 : decode cX3_at 67 = .ok (.iaload, 1) := by decide +kernel
theorem dX3_at_68 : decode cX3_at 68 = .ok (.ireturn, 1) := by decide +kernel
theorem dX3_at_69 : decode cX3_at 69 = .ok (.aload_n 0, 1) := by decide +kernel
theorem dX3_at_70 : decode cX3_at 70 = .ok (.getfield 26, 3) := by decide +kernel
theorem dX3_at_73 : decode cX3_at 73 = .ok (.iload_n 1, 1) := by decide +kernel
theorem dX3_at_74 : decode cX3_at 74 = .ok (.iaload, 1) := by decide +kernel
theorem dX3_at_75 : decode cX3_at 75 = .ok (.ireturn, 1) := by decide +kernel
theorem dX3_at_76 : decode cX3_at 76 = .ok (.aload_n 0, 1) := by decide +kernel
theorem dX3_at_77 : decode cX3_at 77 = .ok (.invokevirtual 82, 3) := by decide +kernel
theorem dX3_at_80 : decode cX3_at 80 = .ok (.pop, 1) := by decide +kernel
theorem dX3_at_81 : decode cX3_at 81 = .ok (.aload_n 0, 1) := by decide +kernel
theorem dX3_at_82 : decode cX3_at 82 = .ok (.getfield 29, 3) := by decide +kernel
theorem dX3_at_85 : decode cX3_at 85 = .ok (.iload_n 1, 1) := by decide +kernel
theorem dX3_at_86 : decode cX3_at 86 = .ok (.iaload, 1) := by decide +kernel
theorem dX3_at_87 : decode cX3_at 87 = .ok (.ireturn, 1) := by decide +kernel
theorem dX3_at_88 : decode cX3_at 88 = .ok (.bipush (-3), 2) := by decide +kernel
theorem dX3_at_90 : decode cX3_at 90 = .ok (.ireturn, 1) := by decide +kernel
set_option maxRecDepth 20000 in
theorem ggX3_cut_X3_isSide : GoodIn wsX3_cut wsX3_isSide := goodIn_r _ [5, 6, 7, 8, 4, 9, 10, 30, 31, 32, 33, 34, 35, 36, 37, 38, 39, 40, 41] (by decide +kernel) (by decide +kernel)
set_option maxRecDepth 20000 in
theorem gX3_cut_X3_isSide : GoodIn wsX3_cut (wsV RX3 86 RX3 yX3_isSide wsX3_isSide) := goodIn_app (goodIn_of _ (by decide +kernel)) ggX3_cut_X3_isSide
set_option maxRecDepth 20000 in
theorem ggX3_cut_X3_isWay : GoodIn wsX3_cut wsX3_isWay := goodIn_r _ [13] (by decide +kernel) (by decide +kernel)
set_option maxRecDepth 20000 in
theorem gX3_cut_X3_isWay : GoodIn wsX3_cut (va_wsS RX3 89 yX3_isWay wsX3_isWay) := goodIn_app (goodIn_of _ (by decide +kernel)) ggX3_cut_X3_isWay
set_option maxRecDepth 20000 in
theorem ggX3_cut_X3_weightAcross : GoodIn wsX3_cut wsX3_weightAcross := goodIn_r _ [17, 18, 19, 20, 21, 22, 4, 23, 24, 25, 26, 27, 28, 29, 30, 31, 32, 33, 34, 35, 36, 37, 38, 39, 40, 41] (by decide +kernel) (by decide +kernel)
set_option maxRecDepth 20000 in
theorem gX3_cut_X3_weightAcross : GoodIn wsX3_cut (wsV RX3 92 RX3 yX3_weightAcross wsX3_weightAcross) := goodIn_app (goodIn_of _ (by decide +kernel)) ggX3_cut_X3_weightAcross
theorem dX3_cut_0 : decode cX3_cut 0 = .ok (.aload_n 0, 1) := by decide +kernel
theorem dX3_cut_1 : decode cX3_cut 1 = .ok (.iload_n 1, 1) := by decide +kernel
theorem dX3_cut_2 : decode cX3_cut 2 = .ok (.invokevirtual 86, 3) := by decide +kernel
theorem dX3_cut_5 : decode cX3_cut 5 = .ok (.ifCond .eq 10, 3) := by decide +kernel
theorem dX3_cut_8 : decode cX3_cut 8 = .ok (.iload_n 2, 1) := by decide +kernel
theorem dX3_cut_9 : decode cX3_cut 9 = .ok (.invokestatic 89, 3) := by decide +kernel
theorem dX3_cut_12 : decode cX3_cut 12 = .ok (.ifCond .ne 6, 3) := by decide +kernel
theorem dX3_cut_15 : decode cX3_cut 15 = .ok (.bipush (-3), 2) := by decide +kernel
theorem dX3_cut_17 : decode cX3_cut 17 = .ok (.ireturn, 1) := by decide +kernel
theorem dX3_cut_18 : decode cX3_cut 18 = .ok (.aload_n 0, 1) := by decide +kernel
theorem dX3_cut_19 : decode cX3_cut 19 = .ok (.iload_n 1, 1) := by decide +kernel
theorem dX3_cut_20 : decode cX3_cut 20 = .ok (.iload_n 2, 1) := by decide +kernel
theorem dX3_cut_21 : decode cX3_cut 21 = .ok (.invokevirtual 92, 3) := by decide +kernel
theorem dX3_cut_24 : decode cX3_cut 24 = .ok (.ireturn, 1) := by decide +kernel
set_option maxRecDepth 20000 in
theorem ggX3_worst_X3_isWithin : GoodIn wsX3_worst wsX3_isWithin := goodIn_r _ [4] (by decide +kernel) (by decide +kernel)
set_option maxRecDepth 20000 in
theorem gX3_worst_X3_isWithin : GoodIn wsX3_worst (va_wsS RX3 62 yX3_isWithin wsX3_isWithin) := goodIn_app (goodIn_of _ (by decide +kernel)) ggX3_worst_X3_isWithin
set_option maxRecDepth 20000 in
theorem ggX3_worst_X3_allNodes : GoodIn wsX3_worst wsX3_allNodes := goodIn_r _ [8, 9, 26, 27, 28, 29, 30, 31, 32, 33, 34, 35, 36, 37] (by decide +kernel) (by decide +kernel)
set_option maxRecDepth 20000 in
theorem gX3_worst_X3_allNodes : GoodIn wsX3_worst (wsV RX3 95 RX3 yX3_allNodes wsX3_allNodes) := goodIn_app (goodIn_of _ (by decide +kernel)) ggX3_worst_X3_allNodes
set_option maxRecDepth 20000 in
theorem ggX3_worst_X3_weightAcross : GoodIn wsX3_worst wsX3_weightAcross := goodIn_r _ [13, 14, 15, 16, 17, 18, 3, 19, 20, 21, 22, 23, 24, 25, 26, 27, 28, 29, 30, 31, 32, 33, 34, 35, 36, 37] (by decide +kernel) (by decide +kernel)
set_option maxRecDepth 20000 in
theorem gX3_worst_X3_weightAcross : GoodIn wsX3_worst (wsV RX3 92 RX3 yX3_weightAcross wsX3_weightAcross) := goodIn_app (goodIn_of _ (by decide +kernel)) ggX3_worst_X3_weightAcross
theorem dX3_worst_0 : decode cX3_worst 0 = .ok (.iload_n 1, 1) := by decide +kernel
theorem dX3_worst_1 : decode cX3_worst 1 = .ok (.iconst 0, 1) := by decide +kernel
theorem dX3_worst_2 : decode cX3_worst 2 = .ok (.iconst 1, 1) := by decide +kernel
theorem dX3_worst_3 : decode cX3_worst 3 = .ok (.invokestatic 62, 3) := by decide +kernel
theorem dX3_worst_6 : decode cX3_worst 6 = .ok (.ifCond .ne 6, 3) := by decide +kernel
theorem dX3_worst_9 : decode cX3_worst 9 = .ok (.bipush (-3), 2) := by decide +kernel
theorem dX3_worst_11 : decode cX3_worst 11 = .ok (.ireturn, 1) := by decide +kernel
theorem dX3_worst_12 : decode cX3_worst 12 = .ok (.iload_n 1, 1) := by decide +kernel
theorem dX3_worst_13 : decode cX3_worst 13 = .ok (.ifCond .ne 7, 3) := by decide +kernel
theorem dX3_worst_16 : decode cX3_worst 16 = .ok (.iconst (-1), 1) := by decide +kernel
theorem dX3_worst_17 : decode cX3_worst 17 = .ok (.goto 4, 3) := by decide +kernel
theorem dX3_worst_20 : decode cX3_worst 20 = .ok (.iconst 1, 1) := by decide +kernel
theorem dX3_worst_21 : decode cX3_worst 21 = .ok (.istore_n 2, 1) := by decide +kernel
theorem dX3_worst_22 : decode cX3_worst 22 = .ok (.iconst (-1), 1) := by decide +kernel
theorem dX3_worst_23 : decode cX3_worst 23 = .ok (.istore_n 3, 1) := by decide +kernel
theorem dX3_worst_24 : decode cX3_worst 24 = .ok (.iconst 0, 1) := by decide +kernel
theorem dX3_worst_25 : decode cX3_worst 25 = .ok (.istore 4, 2) := by decide +kernel
theorem dX3_worst_27 : decode cX3_worst 27 = .ok (.iconst 0, 1) := by decide +kernel
theorem dX3_worst_28 : decode cX3_worst 28 = .ok (.istore 5, 2) := by decide +kernel
theorem dX3_worst_30 : decode cX3_worst 30 = .ok (.iconst 1, 1) := by decide +kernel
theorem dX3_worst_31 : decode cX3_worst 31 = .ok (.istore 6, 2) := by decide +kernel
theorem dX3_worst_33 : decode cX3_worst 33 = .ok (.iload 6, 2) := by decide +kernel
theorem dX3_worst_35 : decode cX3_worst 35 = .ok (.aload_n 0, 1) := by decide +kernel
theorem dX3_worst_36 : decode cX3_worst 36 = .ok (.invokevirtual 95, 3) := by decide +kernel
theorem dX3_worst_39 : decode cX3_worst 39 = .ok (.if_icmp .ge 76, 3) := by decide +kernel
theorem dX3_worst_42 : decode cX3_worst 42 = .ok (.aload_n 0, 1) := by decide +kernel
theorem dX3_worst_43 : decode cX3_worst 43 = .ok (.iload 6, 2) := by decide +kernel
theorem dX3_worst_45 : decode cX3_worst 45 = .ok (.iconst 0, 1) := by decide +kernel
theorem dX3_worst_46 : decode cX3_worst 46 = .ok (.invokevirtual 92, 3) := by decide +kernel
theorem dX3_worst_49 : decode cX3_worst 49 = .ok (.istore 7, 2) := by decide +kernel
theorem dX3_worst_51 : decode cX3_worst 51 = .ok (.aload_n 0, 1) := by decide +kernel
theorem dX3_worst_52 : decode cX3_worst 52 = .ok (.iload 6, 2) := by decide +kernel
theorem dX3_worst_54 : decode cX3_worst 54 = .ok (.iconst 1, 1) := by decide +kernel
theorem dX3_worst_55 : decode cX3_worst 55 = .ok (.invokevirtual 92, 3) := by decide +kernel
theorem dX3_worst_58 : decode cX3_worst 58 = .ok (.istore 8, 2) := by decide +kernel
theorem dX3_worst_60 : decode cX3_worst 60 = .ok (.iload_n 2, 1) := by decide +kernel
theorem dX3_worst_61 : decode cX3_worst 61 = .ok (.iload 8, 2) := by decide +kernel
theorem dX3_worst_63 : decode cX3_worst 63 = .ok (.iload 5, 2) := by decide +kernel
theorem dX3_worst_65 : decode cX3_worst 65 = .ok (.imul, 1) := by decide +kernel
theorem dX3_worst_66 : decode cX3_worst 66 = .ok (.iload 4, 2) := by decide +kernel
theorem dX3_worst_68 : decode cX3_worst 68 = .ok (.iload 7, 2) := by decide +kernel
theorem dX3_worst_70 : decode cX3_worst 70 = .ok (.imul, 1) := by decide +kernel
theorem dX3_worst_71 : decode cX3_worst 71 = .ok (.isub, 1) := by decide +kernel
theorem dX3_worst_72 : decode cX3_worst 72 = .ok (.imul, 1) := by decide +kernel
theorem dX3_worst_73 : decode cX3_worst 73 = .ok (.ifCond .le 7, 3) := by decide +kernel
theorem dX3_worst_76 : decode cX3_worst 76 = .ok (.iconst 1, 1) := by decide +kernel
theorem dX3_worst_77 : decode cX3_worst 77 = .ok (.goto 4, 3) := by decide +kernel
theorem dX3_worst_80 : decode cX3_worst 80 = .ok (.iconst 0, 1) := by decide +kernel
theorem dX3_worst_81 : decode cX3_worst 81 = .ok (.istore 9, 2) := by decide +kernel
theorem dX3_worst_83 : decode cX3_worst 83 = .ok (.iload 7, 2) := by decide +kernel
theorem dX3_worst_85 : decode cX3_worst 85 = .ok (.ifCond .le 24, 3) := by decide +kernel
theorem dX3_worst_88 : decode cX3_worst 88 = .ok (.iload_n 3, 1) := by decide +kernel
theorem dX3_worst_89 : decode cX3_worst 89 = .ok (.iconst (-1), 1) := by decide +kernel
theorem dX3_worst_90 : decode cX3_worst 90 = .ok (.if_icmp .eq 8, 3) := by decide +kernel
theorem dX3_worst_93 : decode cX3_worst 93 = .ok (.iload 9, 2) := by decide +kernel
theorem dX3_worst_95 : decode cX3_worst 95 = .ok (.ifCond .eq 14, 3) := by decide +kernel
theorem dX3_worst_98 : decode cX3_worst 98 = .ok (.iload 6, 2) := by decide +kernel
theorem dX3_worst_100 : decode cX3_worst 100 = .ok (.istore_n 3, 1) := by decide +kernel
theorem dX3_worst_101 : decode cX3_worst 101 = .ok (.iload 8, 2) := by decide +kernel
theorem dX3_worst_103 : decode cX3_worst 103 = .ok (.istore 4, 2) := by decide +kernel
theorem dX3_worst_105 : decode cX3_worst 105 = .ok (.iload 7, 2) := by decide +kernel
theorem dX3_worst_107 : decode cX3_worst 107 = .ok (.istore 5, 2) := by decide +kernel
theorem dX3_worst_109 : decode cX3_worst 109 = .ok (.iinc 6 2, 3) := by decide +kernel
theorem dX3_worst_112 : decode cX3_worst 112 = .ok (.goto (-79), 3) := by decide +kernel
theorem dX3_worst_115 : decode cX3_worst 115 = .ok (.iload_n 3, 1) := by decide +kernel
theorem dX3_worst_116 : decode cX3_worst 116 = .ok (.ireturn, 1) := by decide +kernel
set_option maxRecDepth 20000 in
theorem ggX3_promise_X3_isWithin : GoodIn wsX3_promise wsX3_isWithin := goodIn_r _ [4] (by decide +kernel) (by decide +kernel)
set_option maxRecDepth 20000 in
theorem gX3_promise_X3_isWithin : GoodIn wsX3_promise (va_wsS RX3 62 yX3_isWithin wsX3_isWithin) := goodIn_app (goodIn_of _ (by decide +kernel)) ggX3_promise_X3_isWithin
set_option maxRecDepth 20000 in
theorem ggX3_promise_X3_allNodes : GoodIn wsX3_promise wsX3_allNodes := goodIn_r _ [8, 9, 26, 27, 28, 29, 30, 31, 32, 33, 34, 35, 36, 37] (by decide +kernel) (by decide +kernel)
set_option maxRecDepth 20000 in
theorem gX3_promise_X3_allNodes : GoodIn wsX3_promise (wsV RX3 95 RX3 yX3_allNodes wsX3_allNodes) := goodIn_app (goodIn_of _ (by decide +kernel)) ggX3_promise_X3_allNodes
set_option maxRecDepth 20000 in
theorem ggX3_promise_X3_weightAcross : GoodIn wsX3_promise wsX3_weightAcross := goodIn_r _ [13, 14, 15, 16, 17, 18, 3, 19, 20, 21, 22, 23, 24, 25, 26, 27, 28, 29, 30, 31, 32, 33, 34, 35, 36, 37] (by decide +kernel) (by decide +kernel)
set_option maxRecDepth 20000 in
theorem gX3_promise_X3_weightAcross : GoodIn wsX3_promise (wsV RX3 92 RX3 yX3_weightAcross wsX3_weightAcross) := goodIn_app (goodIn_of _ (by decide +kernel)) ggX3_promise_X3_weightAcross
theorem dX3_promise_0 : decode cX3_promise 0 = .ok (.iload_n 2, 1) := by decide +kernel
theorem dX3_promise_1 : decode cX3_promise 1 = .ok (.iconst 1, 1) := by decide +kernel
theorem dX3_promise_2 : decode cX3_promise 2 = .ok (.bipush 20, 2) := by decide +kernel
theorem dX3_promise_4 : decode cX3_promise 4 = .ok (.invokestatic 62, 3) := by decide +kernel
theorem dX3_promise_7 : decode cX3_promise 7 = .ok (.ifCond .eq 12, 3) := by decide +kernel
theorem dX3_promise_10 : decode cX3_promise 10 = .ok (.iload_n 1, 1) := by decide +kernel
theorem dX3_promise_11 : decode cX3_promise 11 = .ok (.iconst 1, 1) := by decide +kernel
theorem dX3_promise_12 : decode cX3_promise 12 = .ok (.iload_n 2, 1) := by decide +kernel
theorem dX3_promise_13 : decode cX3_promise 13 = .ok (.invokestatic 62, 3) := by decide +kernel
theorem dX3_promise_16 : decode cX3_promise 16 = .ok (.ifCond .ne 6, 3) := by decide +kernel
theorem dX3_promise_19 : decode cX3_promise 19 = .ok (.bipush (-3), 2) := by decide +kernel
theorem dX3_promise_21 : decode cX3_promise 21 = .ok (.ireturn, 1) := by decide +kernel
theorem dX3_promise_22 : decode cX3_promise 22 = .ok (.iconst 1, 1) := by decide +kernel
theorem dX3_promise_23 : decode cX3_promise 23 = .ok (.istore_n 3, 1) := by decide +kernel
theorem dX3_promise_24 : decode cX3_promise 24 = .ok (.iload_n 3, 1) := by decide +kernel
theorem dX3_promise_25 : decode cX3_promise 25 = .ok (.aload_n 0, 1) := by decide +kernel
theorem dX3_promise_26 : decode cX3_promise 26 = .ok (.invokevirtual 95, 3) := by decide +kernel
theorem dX3_promise_29 : decode cX3_promise 29 = .ok (.if_icmp .ge 53, 3) := by decide +kernel
theorem dX3_promise_32 : decode cX3_promise 32 = .ok (.aload_n 0, 1) := by decide +kernel
theorem dX3_promise_33 : decode cX3_promise 33 = .ok (.iload_n 3, 1) := by decide +kernel
theorem dX3_promise_34 : decode cX3_promise 34 = .ok (.iconst 0, 1) := by decide +kernel
theorem dX3_promise_35 : decode cX3_promise 35 = .ok (.invokevirtual 92, 3) := by decide +kernel
theorem dX3_promise_38 : decode cX3_promise 38 = .ok (.istore 4, 2) := by decide +kernel
theorem dX3_promise_40 : decode cX3_promise 40 = .ok (.aload_n 0, 1) := by decide +kernel
theorem dX3_promise_41 : decode cX3_promise 41 = .ok (.iload_n 3, 1) := by decide +kernel
theorem dX3_promise_42 : decode cX3_promise 42 = .ok (.iconst 1, 1) := by decide +kernel
theorem dX3_promise_43 : decode cX3_promise 43 = .ok (.invokevirtual 92, 3) := by decide +kernel
theorem dX3_promise_46 : decode cX3_promise 46 = .ok (.istore 5, 2) := by decide +kernel
theorem dX3_promise_48 : decode cX3_promise 48 = .ok (.iload_n 2, 1) := by decide +kernel
theorem dX3_promise_49 : decode cX3_promise 49 = .ok (.iload 5, 2) := by decide +kernel
theorem dX3_promise_51 : decode cX3_promise 51 = .ok (.imul, 1) := by decide +kernel
theorem dX3_promise_52 : decode cX3_promise 52 = .ok (.iload_n 2, 1) := by decide +kernel
theorem dX3_promise_53 : decode cX3_promise 53 = .ok (.iload_n 1, 1) := by decide +kernel
theorem dX3_promise_54 : decode cX3_promise 54 = .ok (.isub, 1) := by decide +kernel
theorem dX3_promise_55 : decode cX3_promise 55 = .ok (.iload 4, 2) := by decide +kernel
theorem dX3_promise_57 : decode cX3_promise 57 = .ok (.imul, 1) := by decide +kernel
theorem dX3_promise_58 : decode cX3_promise 58 = .ok (.if_icmp .lt 16, 3) := by decide +kernel
theorem dX3_promise_61 : decode cX3_promise 61 = .ok (.iload_n 2, 1) := by decide +kernel
theorem dX3_promise_62 : decode cX3_promise 62 = .ok (.iload 5, 2) := by decide +kernel
theorem dX3_promise_64 : decode cX3_promise 64 = .ok (.imul, 1) := by decide +kernel
theorem dX3_promise_65 : decode cX3_promise 65 = .ok (.iload_n 2, 1) := by decide +kernel
theorem dX3_promise_66 : decode cX3_promise 66 = .ok (.iload_n 1, 1) := by decide +kernel
theorem dX3_promise_67 : decode cX3_promise 67 = .ok (.iadd, 1) := by decide +kernel
theorem dX3_promise_68 : decode cX3_promise 68 = .ok (.iload 4, 2) := by decide +kernel
theorem dX3_promise_70 : decode cX3_promise 70 = .ok (.imul, 1) := by decide +kernel
theorem dX3_promise_71 : decode cX3_promise 71 = .ok (.if_icmp .le 5, 3) := by decide +kernel
theorem dX3_promise_74 : decode cX3_promise 74 = .ok (.iconst 0, 1) := by decide +kernel
theorem dX3_promise_75 : decode cX3_promise 75 = .ok (.ireturn, 1) := by decide +kernel
theorem dX3_promise_76 : decode cX3_promise 76 = .ok (.iinc 3 2, 3) := by decide +kernel
theorem dX3_promise_79 : decode cX3_promise 79 = .ok (.goto (-55), 3) := by decide +kernel
theorem dX3_promise_82 : decode cX3_promise 82 = .ok (.iconst 1, 1) := by decide +kernel
theorem dX3_promise_83 : decode cX3_promise 83 = .ok (.ireturn, 1) := by decide +kernel
set_option maxRecDepth 20000 in
theorem ggX3_forests_X3_peelForests : GoodIn wsX3_forests wsX3_peelForests := goodIn_r _ [5, 6, 7, 8, 9, 10, 11, 12, 13, 14, 4, 15, 16, 17, 18, 19, 20, 21, 22, 23, 24, 25, 26, 27, 28, 29, 30, 31, 32, 33, 34, 35, 36, 37, 38, 39, 40, 41] (by decide +kernel) (by decide +kernel)
set_option maxRecDepth 20000 in
theorem gX3_forests_X3_peelForests : GoodIn wsX3_forests (wsV RX3 82 RX3 yX3_peelForests wsX3_peelForests) := goodIn_app (goodIn_of _ (by decide +kernel)) ggX3_forests_X3_peelForests
theorem dX3_forests_0 : decode cX3_forests 0 = .ok (.aload_n 0, 1) := by decide +kernel
theorem dX3_forests_1 : decode cX3_forests 1 = .ok (.invokevirtual 82, 3) := by decide +kernel
theorem dX3_forests_4 : decode cX3_forests 4 = .ok (.ireturn, 1) := by decide +kernel
set_option maxRecDepth 20000 in
theorem ggX3_peel_X3_isWithin : GoodIn wsX3_peel wsX3_isWithin := goodIn_r _ [6] (by decide +kernel) (by decide +kernel)
set_option maxRecDepth 20000 in
theorem gX3_peel_X3_isWithin : GoodIn wsX3_peel (va_wsS RX3 62 yX3_isWithin wsX3_isWithin) := goodIn_app (goodIn_of _ (by decide +kernel)) ggX3_peel_X3_isWithin
set_option maxRecDepth 20000 in
theorem ggX3_peel_X3_peelForests : GoodIn wsX3_peel wsX3_peelForests := goodIn_r _ [10, 2, 1, 11, 12, 13, 14, 15, 16, 17, 5, 18, 19, 20, 21, 22, 23, 24, 25, 26, 27, 28, 29, 30, 31, 48, 49, 50, 51, 52, 53, 54, 55, 56, 57, 58, 59, 60] (by decide +kernel) (by decide +kernel)
set_option maxRecDepth 20000 in
theorem gX3_peel_X3_peelForests : GoodIn wsX3_peel (wsV RX3 82 RX3 yX3_peelForests wsX3_peelForests) := goodIn_app (goodIn_of _ (by decide +kernel)) ggX3_peel_X3_peelForests
set_option maxRecDepth 20000 in
theorem ggX3_peel_X3_keepJust : GoodIn wsX3_peel wsX3_keepJust := goodIn_r _ [35, 1, 36, 37, 38, 39, 5, 40, 41, 42, 43, 44, 45, 46, 47, 48, 49, 50, 51, 52, 53, 54, 55, 56, 57, 58, 59] (by decide +kernel) (by decide +kernel)
set_option maxRecDepth 20000 in
theorem gX3_peel_X3_keepJust : GoodIn wsX3_peel (wsV RX3 98 RX3 yX3_keepJust wsX3_keepJust) := goodIn_app (goodIn_of _ (by decide +kernel)) ggX3_peel_X3_keepJust
theorem dX3_peel_0 : decode cX3_peel 0 = .ok (.iload_n 1, 1) := by decide +kernel
theorem dX3_peel_1 : decode cX3_peel 1 = .ok (.iconst 0, 1) := by decide +kernel
theorem dX3_peel_2 : decode cX3_peel 2 = .ok (.bipush 12, 2) := by decide +kernel
theorem dX3_peel_4 : decode cX3_peel 4 = .ok (.invokestatic 62, 3) := by decide +kernel
theorem dX3_peel_7 : decode cX3_peel 7 = .ok (.ifCond .ne 6, 3) := by decide +kernel
theorem dX3_peel_10 : decode cX3_peel 10 = .ok (.bipush (-3), 2) := by decide +kernel
theorem dX3_peel_12 : decode cX3_peel 12 = .ok (.ireturn, 1) := by decide +kernel
theorem dX3_peel_13 : decode cX3_peel 13 = .ok (.aload_n 0, 1) := by decide +kernel
theorem dX3_peel_14 : decode cX3_peel 14 = .ok (.invokevirtual 82, 3) := by decide +kernel
theorem dX3_peel_17 : decode cX3_peel 17 = .ok (.pop, 1) := by decide +kernel
theorem dX3_peel_18 : decode cX3_peel 18 = .ok (.iconst 0, 1) := by decide +kernel
theorem dX3_peel_19 : decode cX3_peel 19 = .ok (.istore_n 2, 1) := by decide +kernel
theorem dX3_peel_20 : decode cX3_peel 20 = .ok (.iconst 0, 1) := by decide +kernel
theorem dX3_peel_21 : decode cX3_peel 21 = .ok (.istore_n 3, 1) := by decide +kernel
theorem dX3_peel_22 : decode cX3_peel 22 = .ok (.iload_n 3, 1) := by decide +kernel
theorem dX3_peel_23 : decode cX3_peel 23 = .ok (.aload_n 0, 1) := by decide +kernel
theorem dX3_peel_24 : decode cX3_peel 24 = .ok (.getfield 13, 3) := by decide +kernel
theorem dX3_peel_27 : decode cX3_peel 27 = .ok (.if_icmp .ge 25, 3) := by decide +kernel
theorem dX3_peel_30 : decode cX3_peel 30 = .ok (.aload_n 0, 1) := by decide +kernel
theorem dX3_peel_31 : decode cX3_peel 31 = .ok (.getfield 29, 3) := by decide +kernel
theorem dX3_peel_34 : decode cX3_peel 34 = .ok (.iload_n 3, 1) := by decide +kernel
theorem dX3_peel_35 : decode cX3_peel 35 = .ok (.iaload, 1) := by decide +kernel
theorem dX3_peel_36 : decode cX3_peel 36 = .ok (.iload_n 1, 1) := by decide +kernel
theorem dX3_peel_37 : decode cX3_peel 37 = .ok (.if_icmp .gt 9, 3) := by decide +kernel
theorem dX3_peel_40 : decode cX3_peel 40 = .ok (.iload_n 2, 1) := by decide +kernel
theorem dX3_peel_41 : decode cX3_peel 41 = .ok (.iconst 1, 1) := by decide +kernel
theorem dX3_peel_42 : decode cX3_peel 42 = .ok (.iload_n 3, 1) := by decide +kernel
theorem dX3_peel_43 : decode cX3_peel 43 = .ok (.ishl, 1) := by decide +kernel
theorem dX3_peel_44 : decode cX3_peel 44 = .ok (.ior, 1) := by decide +kernel
theorem dX3_peel_45 : decode cX3_peel 45 = .ok (.istore_n 2, 1) := by decide +kernel
theorem dX3_peel_46 : decode cX3_peel 46 = .ok (.iinc 3 1, 3) := by decide +kernel
theorem dX3_peel_49 : decode cX3_peel 49 = .ok (.goto (-27), 3) := by decide +kernel
theorem dX3_peel_52 : decode cX3_peel 52 = .ok (.aload_n 0, 1) := by decide +kernel
theorem dX3_peel_53 : decode cX3_peel 53 = .ok (.iload_n 2, 1) := by decide +kernel
theorem dX3_peel_54 : decode cX3_peel 54 = .ok (.invokevirtual 98, 3) := by decide +kernel
theorem dX3_peel_57 : decode cX3_peel 57 = .ok (.ireturn, 1) := by decide +kernel
set_option maxRecDepth 20000 in
theorem ggX3_greedy_X3_isWithin : GoodIn wsX3_greedy wsX3_isWithin := goodIn_r _ [10] (by decide +kernel) (by decide +kernel)
set_option maxRecDepth 20000 in
theorem gX3_greedy_X3_isWithin : GoodIn wsX3_greedy (va_wsS RX3 62 yX3_isWithin wsX3_isWithin) := goodIn_app (goodIn_of _ (by decide +kernel)) ggX3_greedy_X3_isWithin
set_option maxRecDepth 20000 in
theorem ggX3_greedy_X0_clear : GoodIn wsX3_greedy wsX0_clear := goodIn_r _ [15, 16, 17, 18, 19, 20, 21, 22, 23, 24, 25, 26, 67, 68] (by decide +kernel) (by decide +kernel)
set_option maxRecDepth 20000 in
theorem gX3_greedy_X0_clear : GoodIn wsX3_greedy (wsV RX3 102 RX0 yX0_clear wsX0_clear) := goodIn_app (goodIn_of _ (by decide +kernel)) ggX3_greedy_X0_clear
set_option maxRecDepth 20000 in
theorem ggX3_greedy_X3_lengthBetweenEnds : GoodIn wsX3_greedy wsX3_lengthBetweenEnds := goodIn_r _ [30, 1, 5, 6, 31, 32, 33, 14, 34, 21, 55, 56, 57, 58, 59, 60, 61, 62, 63, 64, 65, 66, 67, 68] (by decide +kernel) (by decide +kernel)
set_option maxRecDepth 20000 in
theorem gX3_greedy_X3_lengthBetweenEnds : GoodIn wsX3_greedy (wsV RX3 106 RX3 yX3_lengthBetweenEnds wsX3_lengthBetweenEnds) := goodIn_app (goodIn_of _ (by decide +kernel)) ggX3_greedy_X3_lengthBetweenEnds
set_option maxRecDepth 20000 in
theorem ggX3_greedy_X0_add : GoodIn wsX3_greedy wsX0_add := goodIn_r _ [38, 20, 21, 16, 17, 18, 19, 39, 32, 33, 14, 34, 67, 68] (by decide +kernel) (by decide +kernel)
set_option maxRecDepth 20000 in
theorem gX3_greedy_X0_add : GoodIn wsX3_greedy (wsV RX3 109 RX0 yX0_add wsX0_add) := goodIn_app (goodIn_of _ (by decide +kernel)) ggX3_greedy_X0_add
set_option maxRecDepth 20000 in
theorem ggX3_greedy_X3_keepJust : GoodIn wsX3_greedy wsX3_keepJust := goodIn_r _ [43, 3, 44, 4, 45, 46, 9, 47, 48, 49, 50, 51, 52, 53, 54, 55, 56, 57, 58, 59, 60, 61, 62, 63, 64, 65, 66] (by decide +kernel) (by decide +kernel)
set_option maxRecDepth 20000 in
theorem gX3_greedy_X3_keepJust : GoodIn wsX3_greedy (wsV RX3 98 RX3 yX3_keepJust wsX3_keepJust) := goodIn_app (goodIn_of _ (by decide +kernel)) ggX3_greedy_X3_keepJust
theorem dX3_greedy_0 : decode cX3_greedy 0 = .ok (.iload_n 1, 1) := by decide +kernel
theorem dX3_greedy_1 : decode cX3_greedy 1 = .ok (.iconst 1, 1) := by decide +kernel
theorem dX3_greedy_2 : decode cX3_greedy 2 = .ok (.bipush 9, 2) := by decide +kernel
theorem dX3_greedy_4 : decode cX3_greedy 4 = .ok (.invokestatic 62, 3) := by decide +kernel
theorem dX3_greedy_7 : decode cX3_greedy 7 = .ok (.ifCond .ne 6, 3) := by decide +kernel
theorem dX3_greedy_10 : decode cX3_greedy 10 = .ok (.bipush (-3), 2) := by decide +kernel
theorem dX3_greedy_12 : decode cX3_greedy 12 = .ok (.ireturn, 1) := by decide +kernel
theorem dX3_greedy_13 : decode cX3_greedy 13 = .ok (.iconst 0, 1) := by decide +kernel
theorem dX3_greedy_14 : decode cX3_greedy 14 = .ok (.istore_n 2, 1) := by decide +kernel
theorem dX3_greedy_15 : decode cX3_greedy 15 = .ok (.aload_n 0, 1) := by decide +kernel
theorem dX3_greedy_16 : decode cX3_greedy 16 = .ok (.getfield 46, 3) := by decide +kernel
theorem dX3_greedy_19 : decode cX3_greedy 19 = .ok (.aload_n 0, 1) := by decide +kernel
theorem dX3_greedy_20 : decode cX3_greedy 20 = .ok (.getfield 9, 3) := by decide +kernel
theorem dX3_greedy_23 : decode cX3_greedy 23 = .ok (.invokevirtual 102, 3) := by decide +kernel
theorem dX3_greedy_26 : decode cX3_greedy 26 = .ok (.iconst 1, 1) := by decide +kernel
theorem dX3_greedy_27 : decode cX3_greedy 27 = .ok (.istore_n 3, 1) := by decide +kernel
theorem dX3_greedy_28 : decode cX3_greedy 28 = .ok (.iload_n 3, 1) := by decide +kernel
theorem dX3_greedy_29 : decode cX3_greedy 29 = .ok (.bipush 9, 2) := by decide +kernel
theorem dX3_greedy_31 : decode cX3_greedy 31 = .ok (.if_icmp .gt 79, 3) := by decide +kernel
theorem dX3_greedy_34 : decode cX3_greedy 34 = .ok (.iconst 0, 1) := by decide +kernel
theorem dX3_greedy_35 : decode cX3_greedy 35 = .ok (.istore 4, 2) := by decide +kernel
theorem dX3_greedy_37 : decode cX3_greedy 37 = .ok (.iload 4, 2) := by decide +kernel
theorem dX3_greedy_39 : decode cX3_greedy 39 = .ok (.aload_n 0, 1) := by decide +kernel
theorem dX3_greedy_40 : decode cX3_greedy 40 = .ok (.getfield 13, 3) := by decide +kernel
theorem dX3_greedy_43 : decode cX3_greedy 43 = .ok (.if_icmp .ge 61, 3) := by decide +kernel
theorem dX3_greedy_46 : decode cX3_greedy 46 = .ok (.aload_n 0, 1) := by decide +kernel
theorem dX3_greedy_47 : decode cX3_greedy 47 = .ok (.getfield 23, 3) := by decide +kernel
theorem dX3_greedy_50 : decode cX3_greedy 50 = .ok (.iload 4, 2) := by decide +kernel
theorem dX3_greedy_52 : decode cX3_greedy 52 = .ok (.iaload, 1) := by decide +kernel
theorem dX3_greedy_53 : decode cX3_greedy 53 = .ok (.iload_n 3, 1) := by decide +kernel
theorem dX3_greedy_54 : decode cX3_greedy 54 = .ok (.if_icmp .ne 44, 3) := by decide +kernel
theorem dX3_greedy_57 : decode cX3_greedy 57 = .ok (.aload_n 0, 1) := by decide +kernel
theorem dX3_greedy_58 : decode cX3_greedy 58 = .ok (.iload 4, 2) := by decide +kernel
theorem dX3_greedy_60 : decode cX3_greedy 60 = .ok (.invokevirtual 106, 3) := by decide +kernel
theorem dX3_greedy_63 : decode cX3_greedy 63 = .ok (.iload_n 1, 1) := by decide +kernel
theorem dX3_greedy_64 : decode cX3_greedy 64 = .ok (.iload_n 3, 1) := by decide +kernel
theorem dX3_greedy_65 : decode cX3_greedy 65 = .ok (.imul, 1) := by decide +kernel
theorem dX3_greedy_66 : decode cX3_greedy 66 = .ok (.if_icmp .le 32, 3) := by decide +kernel
theorem dX3_greedy_69 : decode cX3_greedy 69 = .ok (.aload_n 0, 1) := by decide +kernel
theorem dX3_greedy_70 : decode cX3_greedy 70 = .ok (.getfield 46, 3) := by decide +kernel
theorem dX3_greedy_73 : decode cX3_greedy 73 = .ok (.aload_n 0, 1) := by decide +kernel
theorem dX3_greedy_74 : decode cX3_greedy 74 = .ok (.getfield 16, 3) := by decide +kernel
theorem dX3_greedy_77 : decode cX3_greedy 77 = .ok (.iload 4, 2) := by decide +kernel
theorem dX3_greedy_79 : decode cX3_greedy 79 = .ok (.iaload, 1) := by decide +kernel
theorem dX3_greedy_80 : decode cX3_greedy 80 = .ok (.aload_n 0, 1) := by decide +kernel
theorem dX3_greedy_81 : decode cX3_greedy 81 = .ok (.getfield 20, 3) := by decide +kernel
theorem dX3_greedy_84 : decode cX3_greedy 84 = .ok (.iload 4, 2) := by decide +kernel
theorem dX3_greedy_86 : decode cX3_greedy 86 = .ok (.iaload, 1) := by decide +kernel
theorem dX3_greedy_87 : decode cX3_greedy 87 = .ok (.iload_n 3, 1) := by decide +kernel
theorem dX3_greedy_88 : decode cX3_greedy 88 = .ok (.invokevirtual 109, 3) := by decide +kernel
theorem dX3_greedy_91 : decode cX3_greedy 91 = .ok (.iload_n 2, 1) := by decide +kernel
theorem dX3_greedy_92 : decode cX3_greedy 92 = .ok (.iconst 1, 1) := by decide +kernel
theorem dX3_greedy_93 : decode cX3_greedy 93 = .ok (.iload 4, 2) := by decide +kernel
theorem dX3_greedy_95 : decode cX3_greedy 95 = .ok (.ishl, 1) := by decide +kernel
theorem dX3_greedy_96 : decode cX3_greedy 96 = .ok (.ior, 1) := by decide +kernel
theorem dX3_greedy_97 : decode cX3_greedy 97 = .ok (.istore_n 2, 1) := by decide +kernel
theorem dX3_greedy_98 : decode cX3_greedy 98 = .ok (.iinc 4 1, 3) := by decide +kernel
theorem dX3_greedy_101 : decode cX3_greedy 101 = .ok (.goto (-64), 3) := by decide +kernel
theorem dX3_greedy_104 : decode cX3_greedy 104 = .ok (.iinc 3 1, 3) := by decide +kernel
theorem dX3_greedy_107 : decode cX3_greedy 107 = .ok (.goto (-79), 3) := by decide +kernel
theorem dX3_greedy_110 : decode cX3_greedy 110 = .ok (.aload_n 0, 1) := by decide +kernel
theorem dX3_greedy_111 : decode cX3_greedy 111 = .ok (.iload_n 2, 1) := by decide +kernel
theorem dX3_greedy_112 : decode cX3_greedy 112 = .ok (.invokevirtual 98, 3) := by decide +kernel
theorem dX3_greedy_115 : decode cX3_greedy 115 = .ok (.ireturn, 1) := by decide +kernel
set_option maxRecDepth 20000 in
theorem ggX3_fewest_X3_isWithin : GoodIn wsX3_fewest wsX3_isWithin := goodIn_r _ [4] (by decide +kernel) (by decide +kernel)
set_option maxRecDepth 20000 in
theorem gX3_fewest_X3_isWithin : GoodIn wsX3_fewest (va_wsS RX3 62 yX3_isWithin wsX3_isWithin) := goodIn_app (goodIn_of _ (by decide +kernel)) ggX3_fewest_X3_isWithin
set_option maxRecDepth 20000 in
theorem ggX3_fewest_X3_fewestSet : GoodIn wsX3_fewest wsX3_fewestSet := goodIn_r _ [8, 9, 10, 11, 12, 13, 14, 3, 15, 16, 17, 18, 19, 20, 21, 22, 23, 24, 25, 26, 27, 28, 29, 30, 31, 32, 33, 34, 35, 36, 37, 38, 39, 40, 41, 42, 43, 44, 45, 46, 47, 48, 49, 50, 51, 52, 53, 54, 55, 56, 57, 58, 59, 60, 61, 62, 63, 64, 65, 66, 67, 68, 69, 70, 71, 72, 73, 74, 75, 76, 77, 78, 79, 80, 81, 82, 83, 84, 85, 86, 87, 88, 89, 90, 91, 92, 93, 94, 95, 96, 97, 98, 99, 100, 101, 102, 103, 104, 105, 106, 107, 108, 109, 110, 111] (by decide +kernel) (by decide +kernel)
set_option maxRecDepth 20000 in
theorem gX3_fewest_X3_fewestSet : GoodIn wsX3_fewest (wsV RX3 113 RX3 yX3_fewestSet wsX3_fewestSet) := goodIn_app (goodIn_of _ (by decide +kernel)) ggX3_fewest_X3_fewestSet
set_option maxRecDepth 20000 in
theorem ggX3_fewest_J6_bitCount_0f7a4 : GoodIn wsX3_fewest wsJ6_bitCount_0f7a4 := goodIn_r _ [86, 87, 88, 89] (by decide +kernel) (by decide +kernel)
set_option maxRecDepth 20000 in
theorem gX3_fewest_J6_bitCount_0f7a4 : GoodIn wsX3_fewest (va_wsS RX3 116 yJ6_bitCount_0f7a4 wsJ6_bitCount_0f7a4) := goodIn_app (goodIn_of _ (by decide +kernel)) ggX3_fewest_J6_bitCount_0f7a4
theorem dX3_fewest_0 : decode cX3_fewest 0 = .ok (.iload_n 1, 1) := by decide +kernel
theorem dX3_fewest_1 : decode cX3_fewest 1 = .ok (.iconst 1, 1) := by decide +kernel
theorem dX3_fewest_2 : decode cX3_fewest 2 = .ok (.bipush 9, 2) := by decide +kernel
theorem dX3_fewest_4 : decode cX3_fewest 4 = .ok (.invokestatic 62, 3) := by decide +kernel
theorem dX3_fewest_7 : decode cX3_fewest 7 = .ok (.ifCond .eq 12, 3) := by decide +kernel
theorem dX3_fewest_10 : decode cX3_fewest 10 = .ok (.iload_n 2, 1) := by decide +kernel
theorem dX3_fewest_11 : decode cX3_fewest 11 = .ok (.iconst 0, 1) := by decide +kernel
theorem dX3_fewest_12 : decode cX3_fewest 12 = .ok (.iconst 1, 1) := by decide +kernel
theorem dX3_fewest_13 : decode cX3_fewest 13 = .ok (.invokestatic 62, 3) := by decide +kernel
theorem dX3_fewest_16 : decode cX3_fewest 16 = .ok (.ifCond .ne 6, 3) := by decide +kernel
theorem dX3_fewest_19 : decode cX3_fewest 19 = .ok (.bipush (-3), 2) := by decide +kernel
theorem dX3_fewest_21 : decode cX3_fewest 21 = .ok (.ireturn, 1) := by decide +kernel
theorem dX3_fewest_22 : decode cX3_fewest 22 = .ok (.aload_n 0, 1) := by decide +kernel
theorem dX3_fewest_23 : decode cX3_fewest 23 = .ok (.iload_n 1, 1) := by decide +kernel
theorem dX3_fewest_24 : decode cX3_fewest 24 = .ok (.invokevirtual 113, 3) := by decide +kernel
theorem dX3_fewest_27 : decode cX3_fewest 27 = .ok (.istore_n 3, 1) := by decide +kernel
theorem dX3_fewest_28 : decode cX3_fewest 28 = .ok (.iload_n 2, 1) := by decide +kernel
theorem dX3_fewest_29 : decode cX3_fewest 29 = .ok (.ifCond .ne 10, 3) := by decide +kernel
theorem dX3_fewest_32 : decode cX3_fewest 32 = .ok (.iload_n 3, 1) := by decide +kernel
theorem dX3_fewest_33 : decode cX3_fewest 33 = .ok (.invokestatic 116, 3) := by decide +kernel
theorem dX3_fewest_36 : decode cX3_fewest 36 = .ok (.goto 4, 3) := by decide +kernel
theorem dX3_fewest_39 : decode cX3_fewest 39 = .ok (.iload_n 3, 1) := by decide +kernel
theorem dX3_fewest_40 : decode cX3_fewest 40 = .ok (.ireturn, 1) := by decide +kernel
set_option maxRecDepth 20000 in
theorem ggX3_thin_X3_isWithin : GoodIn wsX3_thin wsX3_isWithin := goodIn_r _ [4] (by decide +kernel) (by decide +kernel)
set_option maxRecDepth 20000 in
theorem gX3_thin_X3_isWithin : GoodIn wsX3_thin (va_wsS RX3 62 yX3_isWithin wsX3_isWithin) := goodIn_app (goodIn_of _ (by decide +kernel)) ggX3_thin_X3_isWithin
set_option maxRecDepth 20000 in
theorem ggX3_thin_X3_fewestSet : GoodIn wsX3_thin wsX3_fewestSet := goodIn_r _ [8, 9, 10, 11, 12, 13, 14, 3, 15, 16, 17, 18, 19, 20, 21, 22, 23, 24, 25, 26, 27, 28, 29, 30, 31, 32, 33, 34, 35, 36, 37, 38, 39, 40, 41, 42, 43, 44, 45, 46, 47, 48, 49, 50, 51, 52, 53, 54, 55, 56, 57, 58, 59, 60, 61, 62, 63, 64, 65, 66, 67, 68, 69, 70, 71, 72, 73, 74, 75, 76, 77, 78, 79, 80, 81, 82, 83, 84, 85, 86, 87, 88, 89, 90, 91, 92, 93, 94, 95, 96, 101, 102, 103, 104, 105, 106, 107, 108, 109, 110, 111, 112, 113, 114, 115] (by decide +kernel) (by decide +kernel)
set_option maxRecDepth 20000 in
theorem gX3_thin_X3_fewestSet : GoodIn wsX3_thin (wsV RX3 113 RX3 yX3_fewestSet wsX3_fewestSet) := goodIn_app (goodIn_of _ (by decide +kernel)) ggX3_thin_X3_fewestSet
set_option maxRecDepth 20000 in
theorem ggX3_thin_X3_keepJust : GoodIn wsX3_thin wsX3_keepJust := goodIn_r _ [100, 11, 21, 20, 45, 46, 3, 47, 83, 84, 85, 86, 87, 88, 89, 101, 102, 103, 104, 105, 106, 107, 108, 109, 110, 111, 112] (by decide +kernel) (by decide +kernel)
set_option maxRecDepth 20000 in
theorem gX3_thin_X3_keepJust : GoodIn wsX3_thin (wsV RX3 98 RX3 yX3_keepJust wsX3_keepJust) := goodIn_app (goodIn_of _ (by decide +kernel)) ggX3_thin_X3_keepJust
theorem dX3_thin_0 : decode cX3_thin 0 = .ok (.iload_n 1, 1) := by decide +kernel
theorem dX3_thin_1 : decode cX3_thin 1 = .ok (.iconst 1, 1) := by decide +kernel
theorem dX3_thin_2 : decode cX3_thin 2 = .ok (.bipush 9, 2) := by decide +kernel
theorem dX3_thin_4 : decode cX3_thin 4 = .ok (.invokestatic 62, 3) := by decide +kernel
theorem dX3_thin_7 : decode cX3_thin 7 = .ok (.ifCond .ne 6, 3) := by decide +kernel
theorem dX3_thin_10 : decode cX3_thin 10 = .ok (.bipush (-3), 2) := by decide +kernel
theorem dX3_thin_12 : decode cX3_thin 12 = .ok (.ireturn, 1) := by decide +kernel
theorem dX3_thin_13 : decode cX3_thin 13 = .ok (.aload_n 0, 1) := by decide +kernel
theorem dX3_thin_14 : decode cX3_thin 14 = .ok (.aload_n 0, 1) := by decide +kernel
theorem dX3_thin_15 : decode cX3_thin 15 = .ok (.iload_n 1, 1) := by decide +kernel
theorem dX3_thin_16 : decode cX3_thin 16 = .ok (.invokevirtual 113, 3) := by decide +kernel
theorem dX3_thin_19 : decode cX3_thin 19 = .ok (.invokevirtual 98, 3) := by decide +kernel
theorem dX3_thin_22 : decode cX3_thin 22 = .ok (.ireturn, 1) := by decide +kernel
set_option maxRecDepth 20000 in
theorem ggX3_far_X3_isNode : GoodIn wsX3_far wsX3_isNode := goodIn_r _ [6, 7, 62, 63, 64, 65, 66, 67, 68, 69, 70, 71, 72, 73] (by decide +kernel) (by decide +kernel)
set_option maxRecDepth 20000 in
theorem gX3_far_X3_isNode : GoodIn wsX3_far (wsV RX3 66 RX3 yX3_isNode wsX3_isNode) := goodIn_app (goodIn_of _ (by decide +kernel)) ggX3_far_X3_isNode
set_option maxRecDepth 20000 in
theorem ggX3_far_X3_isWay : GoodIn wsX3_far wsX3_isWay := goodIn_r _ [10] (by decide +kernel) (by decide +kernel)
set_option maxRecDepth 20000 in
theorem gX3_far_X3_isWay : GoodIn wsX3_far (va_wsS RX3 89 yX3_isWay wsX3_isWay) := goodIn_app (goodIn_of _ (by decide +kernel)) ggX3_far_X3_isWay
set_option maxRecDepth 20000 in
theorem ggX3_far_X3_measured : GoodIn wsX3_far wsX3_measured := goodIn_r _ [14, 15, 16, 17, 18, 19, 5, 20, 21, 22, 23, 24, 25, 26, 27, 28, 29, 30, 31, 7, 32, 33, 34, 35, 36, 37, 38, 39, 40, 41, 42, 43, 44, 45, 46, 47, 48, 49, 50, 51, 52, 53, 54, 55, 56, 57, 58, 59, 60, 62, 63, 64, 65, 66, 67, 68, 69, 70, 71, 72, 73, 74, 75] (by decide +kernel) (by decide +kernel)
set_option maxRecDepth 20000 in
theorem gX3_far_X3_measured : GoodIn wsX3_far (wsV RX3 121 RX3 yX3_measured wsX3_measured) := goodIn_app (goodIn_of _ (by decide +kernel)) ggX3_far_X3_measured
set_option maxRecDepth 20000 in
theorem ggX3_far_X0_between : GoodIn wsX3_far wsX0_between := goodIn_r _ [60, 44, 74, 75] (by decide +kernel) (by decide +kernel)
set_option maxRecDepth 20000 in
theorem gX3_far_X0_between : GoodIn wsX3_far (wsV RX3 125 RX0 yX0_between wsX0_between) := goodIn_app (goodIn_of _ (by decide +kernel)) ggX3_far_X0_between
theorem dX3_far_0 : decode cX3_far 0 = .ok (.aload_n 0, 1) := by decide +kernel
theorem dX3_far_1 : decode cX3_far 1 = .ok (.iload_n 1, 1) := by decide +kernel
theorem dX3_far_2 : decode cX3_far 2 = .ok (.invokevirtual 66, 3) := by decide +kernel
theorem dX3_far_5 : decode cX3_far 5 = .ok (.ifCond .eq 11, 3) := by decide +kernel
theorem dX3_far_8 : decode cX3_far 8 = .ok (.aload_n 0, 1) := by decide +kernel
theorem dX3_far_9 : decode cX3_far 9 = .ok (.iload_n 2, 1) := by decide +kernel
theorem dX3_far_10 : decode cX3_far 10 = .ok (.invokevirtual 66, 3) := by decide +kernel
theorem dX3_far_13 : decode cX3_far 13 = .ok (.ifCond .ne 6, 3) := by decide +kernel
theorem dX3_far_16 : decode cX3_far 16 = .ok (.bipush (-2), 2) := by decide +kernel
theorem dX3_far_18 : decode cX3_far 18 = .ok (.ireturn, 1) := by decide +kernel
theorem dX3_far_19 : decode cX3_far 19 = .ok (.iload_n 3, 1) := by decide +kernel
theorem dX3_far_20 : decode cX3_far 20 = .ok (.invokestatic 89, 3) := by decide +kernel
theorem dX3_far_23 : decode cX3_far 23 = .ok (.ifCond .ne 6, 3) := by decide +kernel
theorem dX3_far_26 : decode cX3_far 26 = .ok (.bipush (-3), 2) := by decide +kernel
theorem dX3_far_28 : decode cX3_far 28 = .ok (.ireturn, 1) := by decide +kernel
theorem dX3_far_29 : decode cX3_far 29 = .ok (.aload_n 0, 1) := by decide +kernel
theorem dX3_far_30 : decode cX3_far 30 = .ok (.iload_n 3, 1) := by decide +kernel
theorem dX3_far_31 : decode cX3_far 31 = .ok (.invokevirtual 121, 3) := by decide +kernel
theorem dX3_far_34 : decode cX3_far 34 = .ok (.iload_n 1, 1) := by decide +kernel
theorem dX3_far_35 : decode cX3_far 35 = .ok (.iload_n 2, 1) := by decide +kernel
theorem dX3_far_36 : decode cX3_far 36 = .ok (.invokevirtual 125, 3) := by decide +kernel
theorem dX3_far_39 : decode cX3_far 39 = .ok (.istore 4, 2) := by decide +kernel
theorem dX3_far_41 : decode cX3_far 41 = .ok (.iload 4, 2) := by decide +kernel
theorem dX3_far_43 : decode cX3_far 43 = .ok (.ldc 128, 2) := by decide +kernel
theorem dX3_far_45 : decode cX3_far 45 = .ok (.if_icmp .ge 8, 3) := by decide +kernel
theorem dX3_far_48 : decode cX3_far 48 = .ok (.iload 4, 2) := by decide +kernel
theorem dX3_far_50 : decode cX3_far 50 = .ok (.goto 4, 3) := by decide +kernel
theorem dX3_far_53 : decode cX3_far 53 = .ok (.iconst (-1), 1) := by decide +kernel
theorem dX3_far_54 : decode cX3_far 54 = .ok (.ireturn, 1) := by decide +kernel
set_option maxRecDepth 20000 in
theorem ggX3_stretch_X3_isWithin : GoodIn wsX3_stretch wsX3_isWithin := goodIn_r _ [6] (by decide +kernel) (by decide +kernel)
set_option maxRecDepth 20000 in
theorem gX3_stretch_X3_isWithin : GoodIn wsX3_stretch (va_wsS RX3 62 yX3_isWithin wsX3_isWithin) := goodIn_app (goodIn_of _ (by decide +kernel)) ggX3_stretch_X3_isWithin
set_option maxRecDepth 20000 in
theorem ggX3_stretch_X3_measured : GoodIn wsX3_stretch wsX3_measured := goodIn_r _ [10, 11, 12, 13, 14, 15, 5, 16, 17, 18, 19, 20, 21, 22, 23, 24, 25, 26, 27, 1, 28, 29, 30, 31, 32, 33, 34, 35, 36, 37, 38, 39, 40, 41, 42, 43, 44, 45, 46, 47, 48, 49, 50, 51, 52, 53, 54, 55, 56, 65, 66, 67, 68, 69, 70, 71, 72, 73, 74, 75, 76, 77, 78] (by decide +kernel) (by decide +kernel)
set_option maxRecDepth 20000 in
theorem gX3_stretch_X3_measured : GoodIn wsX3_stretch (wsV RX3 121 RX3 yX3_measured wsX3_measured) := goodIn_app (goodIn_of _ (by decide +kernel)) ggX3_stretch_X3_measured
set_option maxRecDepth 20000 in
theorem ggX3_stretch_X0_between : GoodIn wsX3_stretch wsX0_between := goodIn_r _ [56, 40, 77, 78] (by decide +kernel) (by decide +kernel)
set_option maxRecDepth 20000 in
theorem gX3_stretch_X0_between : GoodIn wsX3_stretch (wsV RX3 125 RX0 yX0_between wsX0_between) := goodIn_app (goodIn_of _ (by decide +kernel)) ggX3_stretch_X0_between
set_option maxRecDepth 20000 in
theorem ggX3_stretch_X3_inLowestTerms : GoodIn wsX3_stretch wsX3_inLowestTerms := goodIn_r _ [60, 61, 62, 63, 5, 64] (by decide +kernel) (by decide +kernel)
set_option maxRecDepth 20000 in
theorem gX3_stretch_X3_inLowestTerms : GoodIn wsX3_stretch (va_wsS RX3 129 yX3_inLowestTerms wsX3_inLowestTerms) := goodIn_app (goodIn_of _ (by decide +kernel)) ggX3_stretch_X3_inLowestTerms
theorem dX3_stretch_0 : decode cX3_stretch 0 = .ok (.iload_n 1, 1) := by decide +kernel
theorem dX3_stretch_1 : decode cX3_stretch 1 = .ok (.iconst 0, 1) := by decide +kernel
theorem dX3_stretch_2 : decode cX3_stretch 2 = .ok (.iconst 1, 1) := by decide +kernel
theorem dX3_stretch_3 : decode cX3_stretch 3 = .ok (.invokestatic 62, 3) := by decide +kernel
theorem dX3_stretch_6 : decode cX3_stretch 6 = .ok (.ifCond .ne 6, 3) := by decide +kernel
theorem dX3_stretch_9 : decode cX3_stretch 9 = .ok (.bipush (-3), 2) := by decide +kernel
theorem dX3_stretch_11 : decode cX3_stretch 11 = .ok (.ireturn, 1) := by decide +kernel
theorem dX3_stretch_12 : decode cX3_stretch 12 = .ok (.aload_n 0, 1) := by decide +kernel
theorem dX3_stretch_13 : decode cX3_stretch 13 = .ok (.iconst 0, 1) := by decide +kernel
theorem dX3_stretch_14 : decode cX3_stretch 14 = .ok (.invokevirtual 121, 3) := by decide +kernel
theorem dX3_stretch_17 : decode cX3_stretch 17 = .ok (.astore_n 2, 1) := by decide +kernel
theorem dX3_stretch_18 : decode cX3_stretch 18 = .ok (.aload_n 0, 1) := by decide +kernel
theorem dX3_stretch_19 : decode cX3_stretch 19 = .ok (.iconst 1, 1) := by decide +kernel
theorem dX3_stretch_20 : decode cX3_stretch 20 = .ok (.invokevirtual 121, 3) := by decide +kernel
theorem dX3_stretch_23 : decode cX3_stretch 23 = .ok (.astore_n 3, 1) := by decide +kernel
theorem dX3_stretch_24 : decode cX3_stretch 24 = .ok (.iconst 0, 1) := by decide +kernel
theorem dX3_stretch_25 : decode cX3_stretch 25 = .ok (.istore 4, 2) := by decide +kernel
theorem dX3_stretch_27 : decode cX3_stretch 27 = .ok (.iconst 0, 1) := by decide +kernel
theorem dX3_stretch_28 : decode cX3_stretch 28 = .ok (.istore 5, 2) := by decide +kernel
theorem dX3_stretch_30 : decode cX3_stretch 30 = .ok (.iconst 0, 1) := by decide +kernel
theorem dX3_stretch_31 : decode cX3_stretch 31 = .ok (.istore 6, 2) := by decide +kernel
theorem dX3_stretch_33 : decode cX3_stretch 33 = .ok (.iload 6, 2) := by decide +kernel
theorem dX3_stretch_35 : decode cX3_stretch 35 = .ok (.aload_n 0, 1) := by decide +kernel
theorem dX3_stretch_36 : decode cX3_stretch 36 = .ok (.getfield 9, 3) := by decide +kernel
theorem dX3_stretch_39 : decode cX3_stretch 39 = .ok (.if_icmp .ge 99, 3) := by decide +kernel
theorem dX3_stretch_42 : decode cX3_stretch 42 = .ok (.iload 6, 2) := by decide +kernel
theorem dX3_stretch_44 : decode cX3_stretch 44 = .ok (.iconst 1, 1) := by decide +kernel
theorem dX3_stretch_45 : decode cX3_stretch 45 = .ok (.iadd, 1) := by decide +kernel
theorem dX3_stretch_46 : decode cX3_stretch 46 = .ok (.istore 7, 2) := by decide +kernel
theorem dX3_stretch_48 : decode cX3_stretch 48 = .ok (.iload 7, 2) := by decide +kernel
theorem dX3_stretch_50 : decode cX3_stretch 50 = .ok (.aload_n 0, 1) := by decide +kernel
theorem dX3_stretch_51 : decode cX3_stretch 51 = .ok (.getfield 9, 3) := by decide +kernel
theorem dX3_stretch_54 : decode cX3_stretch 54 = .ok (.if_icmp .ge 78, 3) := by decide +kernel
theorem dX3_stretch_57 : decode cX3_stretch 57 = .ok (.aload_n 2, 1) := by decide +kernel
theorem dX3_stretch_58 : decode cX3_stretch 58 = .ok (.iload 6, 2) := by decide +kernel
theorem dX3_stretch_60 : decode cX3_stretch 60 = .ok (.iload 7, 2) := by decide +kernel
theorem dX3_stretch_62 : decode cX3_stretch 62 = .ok (.invokevirtual 125, 3) := by decide +kernel
theorem dX3_stretch_65 : decode cX3_stretch 65 = .ok (.istore 8, 2) := by decide +kernel
theorem dX3_stretch_67 : decode cX3_stretch 67 = .ok (.aload_n 3, 1) := by decide +kernel
theorem dX3_stretch_68 : decode cX3_stretch 68 = .ok (.iload 6, 2) := by decide +kernel
theorem dX3_stretch_70 : decode cX3_stretch 70 = .ok (.iload 7, 2) := by decide +kernel
theorem dX3_stretch_72 : decode cX3_stretch 72 = .ok (.invokevirtual 125, 3) := by decide +kernel
theorem dX3_stretch_75 : decode cX3_stretch 75 = .ok (.istore 9, 2) := by decide +kernel
theorem dX3_stretch_77 : decode cX3_stretch 77 = .ok (.iload 8, 2) := by decide +kernel
theorem dX3_stretch_79 : decode cX3_stretch 79 = .ok (.ldc 128, 2) := by decide +kernel
theorem dX3_stretch_81 : decode cX3_stretch 81 = .ok (.if_icmp .ge 12, 3) := by decide +kernel
theorem dX3_stretch_84 : decode cX3_stretch 84 = .ok (.iload 9, 2) := by decide +kernel
theorem dX3_stretch_86 : decode cX3_stretch 86 = .ok (.ldc 128, 2) := by decide +kernel
theorem dX3_stretch_88 : decode cX3_stretch 88 = .ok (.if_icmp .lt 5, 3) := by decide +kernel
theorem dX3_stretch_91 : decode cX3_stretch 91 = .ok (.iconst (-1), 1) := by decide +kernel
theorem dX3_stretch_92 : decode cX3_stretch 92 = .ok (.ireturn, 1) := by decide +kernel
theorem dX3_stretch_93 : decode cX3_stretch 93 = .ok (.iload 8, 2) := by decide +kernel
theorem dX3_stretch_95 : decode cX3_stretch 95 = .ok (.ldc 128, 2) := by decide +kernel
theorem dX3_stretch_97 : decode cX3_stretch 97 = .ok (.if_icmp .ge 29, 3) := by decide +kernel
theorem dX3_stretch_100 : decode cX3_stretch 100 = .ok (.iload 5, 2) := by decide +kernel
theorem dX3_stretch_102 : decode cX3_stretch 102 = .ok (.ifCond .eq 16, 3) := by decide +kernel
theorem dX3_stretch_105 : decode cX3_stretch 105 = .ok (.iload 9, 2) := by decide +kernel
theorem dX3_stretch_107 : decode cX3_stretch 107 = .ok (.iload 5, 2) := by decide +kernel
theorem dX3_stretch_109 : decode cX3_stretch 109 = .ok (.imul, 1) := by decide +kernel
theorem dX3_stretch_110 : decode cX3_stretch 110 = .ok (.iload 4, 2) := by decide +kernel
theorem dX3_stretch_112 : decode cX3_stretch 112 = .ok (.iload 8, 2) := by decide +kernel
theorem dX3_stretch_114 : decode cX3_stretch 114 = .ok (.imul, 1) := by decide +kernel
theorem dX3_stretch_115 : decode cX3_stretch 115 = .ok (.if_icmp .le 11, 3) := by decide +kernel
theorem dX3_stretch_118 : decode cX3_stretch 118 = .ok (.iload 9, 2) := by decide +kernel
theorem dX3_stretch_120 : decode cX3_stretch 120 = .ok (.istore 4, 2) := by decide +kernel
theorem dX3_stretch_122 : decode cX3_stretch 122 = .ok (.iload 8, 2) := by decide +kernel
theorem dX3_stretch_124 : decode cX3_stretch 124 = .ok (.istore 5, 2) := by decide +kernel
theorem dX3_stretch_126 : decode cX3_stretch 126 = .ok (.iinc 7 1, 3) := by decide +kernel
theorem dX3_stretch_129 : decode cX3_stretch 129 = .ok (.goto (-81), 3) := by decide +kernel
theorem dX3_stretch_132 : decode cX3_stretch 132 = .ok (.iinc 6 1, 3) := by decide +kernel
theorem dX3_stretch_135 : decode cX3_stretch 135 = .ok (.goto (-102), 3) := by decide +kernel
theorem dX3_stretch_138 : decode cX3_stretch 138 = .ok (.iload 4, 2) := by decide +kernel
theorem dX3_stretch_140 : decode cX3_stretch 140 = .ok (.i2l, 1) := by decide +kernel
theorem dX3_stretch_141 : decode cX3_stretch 141 = .ok (.iload 5, 2) := by decide +kernel
theorem dX3_stretch_143 : decode cX3_stretch 143 = .ok (.i2l, 1) := by decide +kernel
theorem dX3_stretch_144 : decode cX3_stretch 144 = .ok (.iload_n 1, 1) := by decide +kernel
theorem dX3_stretch_145 : decode cX3_stretch 145 = .ok (.invokestatic 129, 3) := by decide +kernel
theorem dX3_stretch_148 : decode cX3_stretch 148 = .ok (.l2i, 1) := by decide +kernel
theorem dX3_stretch_149 : decode cX3_stretch 149 = .ok (.ireturn, 1) := by decide +kernel
set_option maxRecDepth 20000 in
theorem ggX3_trees_X3_isWay : GoodIn wsX3_trees wsX3_isWay := goodIn_r _ [5] (by decide +kernel) (by decide +kernel)
set_option maxRecDepth 20000 in
theorem gX3_trees_X3_isWay : GoodIn wsX3_trees (va_wsS RX3 89 yX3_isWay wsX3_isWay) := goodIn_app (goodIn_of _ (by decide +kernel)) ggX3_trees_X3_isWay
set_option maxRecDepth 20000 in
theorem ggX3_trees_X3_treeProducts : GoodIn wsX3_trees wsX3_treeProducts := goodIn_r _ [9, 10, 11, 12, 13, 4, 14, 15, 16, 17, 18, 19, 20, 21, 22, 23, 24, 25, 26, 27, 28, 29, 30, 31, 32, 33, 34, 35, 36, 37, 38, 39, 40, 41, 42, 43, 44, 45, 46, 47, 48, 49, 50, 51, 52, 53, 54, 55, 56, 57, 58, 59, 60, 61, 62, 63, 64, 65, 66, 67, 68, 69, 70, 71, 72, 73, 74, 75, 76, 77, 78, 79, 80, 81, 82] (by decide +kernel) (by decide +kernel)
set_option maxRecDepth 20000 in
theorem gX3_trees_X3_treeProducts : GoodIn wsX3_trees (wsV RX3 135 RX3 yX3_treeProducts wsX3_treeProducts) := goodIn_app (goodIn_of _ (by decide +kernel)) ggX3_trees_X3_treeProducts
theorem dX3_trees_0 : decode cX3_trees 0 = .ok (.iload_n 1, 1) := by decide +kernel
theorem dX3_trees_1 : decode cX3_trees 1 = .ok (.invokestatic 89, 3) := by decide +kernel
theorem dX3_trees_4 : decode cX3_trees 4 = .ok (.ifCond .ne 7, 3) := by decide +kernel
theorem dX3_trees_7 : decode cX3_trees 7 = .ok (.ldc2_w 133, 3) := by decide +kernel
theorem dX3_trees_10 : decode cX3_trees 10 = .ok (.lreturn, 1) := by decide +kernel
theorem dX3_trees_11 : decode cX3_trees 11 = .ok (.aload_n 0, 1) := by decide +kernel
theorem dX3_trees_12 : decode cX3_trees 12 = .ok (.iload_n 1, 1) := by decide +kernel
theorem dX3_trees_13 : decode cX3_trees 13 = .ok (.invokevirtual 135, 3) := by decide +kernel
theorem dX3_trees_16 : decode cX3_trees 16 = .ok (.lreturn, 1) := by decide +kernel
set_option maxRecDepth 20000 in
theorem ggX3_resistance_X3_isNode : GoodIn wsX3_resistance wsX3_isNode := goodIn_r _ [7, 8, 86, 87, 88, 89, 90, 91, 92, 93, 94, 95, 96, 97] (by decide +kernel) (by decide +kernel)
set_option maxRecDepth 20000 in
theorem gX3_resistance_X3_isNode : GoodIn wsX3_resistance (wsV RX3 66 RX3 yX3_isNode wsX3_isNode) := goodIn_app (goodIn_of _ (by decide +kernel)) ggX3_resistance_X3_isNode
set_option maxRecDepth 20000 in
theorem ggX3_resistance_X3_isWay : GoodIn wsX3_resistance wsX3_isWay := goodIn_r _ [11] (by decide +kernel) (by decide +kernel)
set_option maxRecDepth 20000 in
theorem gX3_resistance_X3_isWay : GoodIn wsX3_resistance (va_wsS RX3 89 yX3_isWay wsX3_isWay) := goodIn_app (goodIn_of _ (by decide +kernel)) ggX3_resistance_X3_isWay
set_option maxRecDepth 20000 in
theorem ggX3_resistance_X3_isWithin : GoodIn wsX3_resistance wsX3_isWithin := goodIn_r _ [14] (by decide +kernel) (by decide +kernel)
set_option maxRecDepth 20000 in
theorem gX3_resistance_X3_isWithin : GoodIn wsX3_resistance (va_wsS RX3 62 yX3_isWithin wsX3_isWithin) := goodIn_app (goodIn_of _ (by decide +kernel)) ggX3_resistance_X3_isWithin
set_option maxRecDepth 20000 in
theorem ggX3_resistance_X3_partingProducts : GoodIn wsX3_resistance wsX3_partingProducts := goodIn_r _ [18, 19, 20, 21, 22, 6, 23, 8, 24, 25, 26, 27, 28, 29, 30, 31, 32, 33, 34, 35, 36, 37, 38, 39, 40, 41, 42, 43, 44, 45, 46, 47, 48, 49, 50, 51, 52, 53, 54, 55, 56, 57, 58, 59, 60, 61, 62, 63, 64, 65, 66, 67, 68, 69, 70, 71, 72, 73, 74, 86, 87, 88, 89, 90, 91, 92, 93, 94, 95, 96, 97, 98, 99, 100, 101] (by decide +kernel) (by decide +kernel)
set_option maxRecDepth 20000 in
theorem gX3_resistance_X3_partingProducts : GoodIn wsX3_resistance (wsV RX3 141 RX3 yX3_partingProducts wsX3_partingProducts) := goodIn_app (goodIn_of _ (by decide +kernel)) ggX3_resistance_X3_partingProducts
set_option maxRecDepth 20000 in
theorem ggX3_resistance_X3_treeProducts : GoodIn wsX3_resistance wsX3_treeProducts := goodIn_r _ [78, 19, 20, 21, 22, 6, 23, 8, 24, 25, 26, 27, 28, 29, 30, 31, 32, 33, 34, 35, 36, 37, 38, 39, 40, 41, 42, 43, 44, 45, 46, 47, 48, 49, 50, 51, 52, 53, 54, 55, 56, 57, 58, 59, 60, 61, 62, 63, 64, 65, 66, 67, 68, 69, 70, 71, 72, 73, 74, 86, 87, 88, 89, 90, 91, 92, 93, 94, 95, 96, 97, 98, 99, 100, 101] (by decide +kernel) (by decide +kernel)
set_option maxRecDepth 20000 in
theorem gX3_resistance_X3_treeProducts : GoodIn wsX3_resistance (wsV RX3 135 RX3 yX3_treeProducts wsX3_treeProducts) := goodIn_app (goodIn_of _ (by decide +kernel)) ggX3_resistance_X3_treeProducts
set_option maxRecDepth 20000 in
theorem ggX3_resistance_X3_inLowestTerms : GoodIn wsX3_resistance wsX3_inLowestTerms := goodIn_r _ [81, 82, 83, 84, 6, 85] (by decide +kernel) (by decide +kernel)
set_option maxRecDepth 20000 in
theorem gX3_resistance_X3_inLowestTerms : GoodIn wsX3_resistance (va_wsS RX3 129 yX3_inLowestTerms wsX3_inLowestTerms) := goodIn_app (goodIn_of _ (by decide +kernel)) ggX3_resistance_X3_inLowestTerms
theorem dX3_resistance_0 : decode cX3_resistance 0 = .ok (.aload_n 0, 1) := by decide +kernel
theorem dX3_resistance_1 : decode cX3_resistance 1 = .ok (.iload_n 1, 1) := by decide +kernel
theorem dX3_resistance_2 : decode cX3_resistance 2 = .ok (.invokevirtual 66, 3) := by decide +kernel
theorem dX3_resistance_5 : decode cX3_resistance 5 = .ok (.ifCond .eq 11, 3) := by decide +kernel
theorem dX3_resistance_8 : decode cX3_resistance 8 = .ok (.aload_n 0, 1) := by decide +kernel
theorem dX3_resistance_9 : decode cX3_resistance 9 = .ok (.iload_n 2, 1) := by decide +kernel
theorem dX3_resistance_10 : decode cX3_resistance 10 = .ok (.invokevirtual 66, 3) := by decide +kernel
theorem dX3_resistance_13 : decode cX3_resistance 13 = .ok (.ifCond .ne 7, 3) := by decide +kernel
theorem dX3_resistance_16 : decode cX3_resistance 16 = .ok (.ldc2_w 139, 3) := by decide +kernel
theorem dX3_resistance_19 : decode cX3_resistance 19 = .ok (.lreturn, 1) := by decide +kernel
theorem dX3_resistance_20 : decode cX3_resistance 20 = .ok (.iload_n 1, 1) := by decide +kernel
theorem dX3_resistance_21 : decode cX3_resistance 21 = .ok (.iload_n 2, 1) := by decide +kernel
theorem dX3_resistance_22 : decode cX3_resistance 22 = .ok (.if_icmp .eq 20, 3) := by decide +kernel
theorem dX3_resistance_25 : decode cX3_resistance 25 = .ok (.iload_n 3, 1) := by decide +kernel
theorem dX3_resistance_26 : decode cX3_resistance 26 = .ok (.invokestatic 89, 3) := by decide +kernel
theorem dX3_resistance_29 : decode cX3_resistance 29 = .ok (.ifCond .eq 13, 3) := by decide +kernel
theorem dX3_resistance_32 : decode cX3_resistance 32 = .ok (.iload 4, 2) := by decide +kernel
theorem dX3_resistance_34 : decode cX3_resistance 34 = .ok (.iconst 0, 1) := by decide +kernel
theorem dX3_resistance_35 : decode cX3_resistance 35 = .ok (.iconst 1, 1) := by decide +kernel
theorem dX3_resistance_36 : decode cX3_resistance 36 = .ok (.invokestatic 62, 3) := by decide +kernel
theorem dX3_resistance_39 : decode cX3_resistance 39 = .ok (.ifCond .ne 7, 3) := by decide +kernel
theorem dX3_resistance_42 : decode cX3_resistance 42 = .ok (.ldc2_w 133, 3) := by decide +kernel
theorem dX3_resistance_45 : decode cX3_resistance 45 = .ok (.lreturn, 1) := by decide +kernel
theorem dX3_resistance_46 : decode cX3_resistance 46 = .ok (.aload_n 0, 1) := by decide +kernel
theorem dX3_resistance_47 : decode cX3_resistance 47 = .ok (.iload_n 1, 1) := by decide +kernel
theorem dX3_resistance_48 : decode cX3_resistance 48 = .ok (.iload_n 2, 1) := by decide +kernel
theorem dX3_resistance_49 : decode cX3_resistance 49 = .ok (.iload_n 3, 1) := by decide +kernel
theorem dX3_resistance_50 : decode cX3_resistance 50 = .ok (.invokevirtual 141, 3) := by decide +kernel
theorem dX3_resistance_53 : decode cX3_resistance 53 = .ok (.aload_n 0, 1) := by decide +kernel
theorem dX3_resistance_54 : decode cX3_resistance 54 = .ok (.iload_n 3, 1) := by decide +kernel
theorem dX3_resistance_55 : decode cX3_resistance 55 = .ok (.invokevirtual 135, 3) := by decide +kernel
theorem dX3_resistance_58 : decode cX3_resistance 58 = .ok (.iload 4, 2) := by decide +kernel
theorem dX3_resistance_60 : decode cX3_resistance 60 = .ok (.invokestatic 129, 3) := by decide +kernel
theorem dX3_resistance_63 : decode cX3_resistance 63 = .ok (.lreturn, 1) := by decide +kernel
set_option maxRecDepth 20000 in
theorem ggX3_load_X3_isLine : GoodIn wsX3_load wsX3_isLine := goodIn_r _ [10, 11, 83, 84, 85, 86, 87, 88, 89, 90, 91, 92, 93, 94] (by decide +kernel) (by decide +kernel)
set_option maxRecDepth 20000 in
theorem gX3_load_X3_isLine : GoodIn wsX3_load (wsV RX3 79 RX3 yX3_isLine wsX3_isLine) := goodIn_app (goodIn_of _ (by decide +kernel)) ggX3_load_X3_isLine
set_option maxRecDepth 20000 in
theorem ggX3_load_X3_isWithin : GoodIn wsX3_load wsX3_isWithin := goodIn_r _ [14] (by decide +kernel) (by decide +kernel)
set_option maxRecDepth 20000 in
theorem gX3_load_X3_isWithin : GoodIn wsX3_load (va_wsS RX3 62 yX3_isWithin wsX3_isWithin) := goodIn_app (goodIn_of _ (by decide +kernel)) ggX3_load_X3_isWithin
set_option maxRecDepth 20000 in
theorem ggX3_load_X3_partingProducts : GoodIn wsX3_load wsX3_partingProducts := goodIn_r _ [18, 19, 20, 21, 22, 9, 23, 24, 11, 3, 4, 25, 26, 27, 28, 29, 30, 31, 32, 33, 34, 35, 36, 37, 38, 39, 40, 41, 42, 43, 5, 44, 45, 46, 47, 48, 49, 50, 51, 52, 53, 54, 55, 56, 57, 58, 59, 60, 61, 62, 63, 64, 65, 66, 67, 68, 69, 70, 71, 83, 84, 85, 86, 87, 88, 89, 90, 91, 92, 93, 94, 95, 96, 97, 98] (by decide +kernel) (by decide +kernel)
set_option maxRecDepth 20000 in
theorem gX3_load_X3_partingProducts : GoodIn wsX3_load (wsV RX3 141 RX3 yX3_partingProducts wsX3_partingProducts) := goodIn_app (goodIn_of _ (by decide +kernel)) ggX3_load_X3_partingProducts
set_option maxRecDepth 20000 in
theorem ggX3_load_X3_treeProducts : GoodIn wsX3_load wsX3_treeProducts := goodIn_r _ [75, 19, 20, 21, 22, 9, 23, 24, 11, 3, 4, 25, 26, 27, 28, 29, 30, 31, 32, 33, 34, 35, 36, 37, 38, 39, 40, 41, 42, 43, 5, 44, 45, 46, 47, 48, 49, 50, 51, 52, 53, 54, 55, 56, 57, 58, 59, 60, 61, 62, 63, 64, 65, 66, 67, 68, 69, 70, 71, 83, 84, 85, 86, 87, 88, 89, 90, 91, 92, 93, 94, 95, 96, 97, 98] (by decide +kernel) (by decide +kernel)
set_option maxRecDepth 20000 in
theorem gX3_load_X3_treeProducts : GoodIn wsX3_load (wsV RX3 135 RX3 yX3_treeProducts wsX3_treeProducts) := goodIn_app (goodIn_of _ (by decide +kernel)) ggX3_load_X3_treeProducts
set_option maxRecDepth 20000 in
theorem ggX3_load_X3_inLowestTerms : GoodIn wsX3_load wsX3_inLowestTerms := goodIn_r _ [78, 79, 80, 81, 9, 82] (by decide +kernel) (by decide +kernel)
set_option maxRecDepth 20000 in
theorem gX3_load_X3_inLowestTerms : GoodIn wsX3_load (va_wsS RX3 129 yX3_inLowestTerms wsX3_inLowestTerms) := goodIn_app (goodIn_of _ (by decide +kernel)) ggX3_load_X3_inLowestTerms
theorem dX3_load_0 : decode cX3_load 0 = .ok (.aload_n 0, 1) := by decide +kernel
theorem dX3_load_1 : decode cX3_load 1 = .ok (.iload_n 1, 1) := by decide +kernel
theorem dX3_load_2 : decode cX3_load 2 = .ok (.invokevirtual 79, 3) := by decide +kernel
theorem dX3_load_5 : decode cX3_load 5 = .ok (.ifCond .ne 7, 3) := by decide +kernel
theorem dX3_load_8 : decode cX3_load 8 = .ok (.ldc2_w 139, 3) := by decide +kernel
theorem dX3_load_11 : decode cX3_load 11 = .ok (.lreturn, 1) := by decide +kernel
theorem dX3_load_12 : decode cX3_load 12 = .ok (.iload_n 2, 1) := by decide +kernel
theorem dX3_load_13 : decode cX3_load 13 = .ok (.iconst 0, 1) := by decide +kernel
theorem dX3_load_14 : decode cX3_load 14 = .ok (.iconst 1, 1) := by decide +kernel
theorem dX3_load_15 : decode cX3_load 15 = .ok (.invokestatic 62, 3) := by decide +kernel
theorem dX3_load_18 : decode cX3_load 18 = .ok (.ifCond .ne 7, 3) := by decide +kernel
theorem dX3_load_21 : decode cX3_load 21 = .ok (.ldc2_w 133, 3) := by decide +kernel
theorem dX3_load_24 : decode cX3_load 24 = .ok (.lreturn, 1) := by decide +kernel
theorem dX3_load_25 : decode cX3_load 25 = .ok (.aload_n 0, 1) := by decide +kernel
theorem dX3_load_26 : decode cX3_load 26 = .ok (.aload_n 0, 1) := by decide +kernel
theorem dX3_load_27 : decode cX3_load 27 = .ok (.getfield 16, 3) := by decide +kernel
theorem dX3_load_30 : decode cX3_load 30 = .ok (.iload_n 1, 1) := by decide +kernel
theorem dX3_load_31 : decode cX3_load 31 = .ok (.iaload, 1) := by decide +kernel
theorem dX3_load_32 : decode cX3_load 32 = .ok (.aload_n 0, 1) := by decide +kernel
theorem dX3_load_33 : decode cX3_load 33 = .ok (.getfield 20, 3) := by decide +kernel
theorem dX3_load_36 : decode cX3_load 36 = .ok (.iload_n 1, 1) := by decide +kernel
theorem dX3_load_37 : decode cX3_load 37 = .ok (.iaload, 1) := by decide +kernel
theorem dX3_load_38 : decode cX3_load 38 = .ok (.iconst 0, 1) := by decide +kernel
theorem dX3_load_39 : decode cX3_load 39 = .ok (.invokevirtual 141, 3) := by decide +kernel
theorem dX3_load_42 : decode cX3_load 42 = .ok (.lstore_n 3, 1) := by decide +kernel
theorem dX3_load_43 : decode cX3_load 43 = .ok (.aload_n 0, 1) := by decide +kernel
theorem dX3_load_44 : decode cX3_load 44 = .ok (.getfield 23, 3) := by decide +kernel
theorem dX3_load_47 : decode cX3_load 47 = .ok (.iload_n 1, 1) := by decide +kernel
theorem dX3_load_48 : decode cX3_load 48 = .ok (.iaload, 1) := by decide +kernel
theorem dX3_load_49 : decode cX3_load 49 = .ok (.i2l, 1) := by decide +kernel
theorem dX3_load_50 : decode cX3_load 50 = .ok (.lload_n 3, 1) := by decide +kernel
theorem dX3_load_51 : decode cX3_load 51 = .ok (.lmul, 1) := by decide +kernel
theorem dX3_load_52 : decode cX3_load 52 = .ok (.aload_n 0, 1) := by decide +kernel
theorem dX3_load_53 : decode cX3_load 53 = .ok (.iconst 0, 1) := by decide +kernel
theorem dX3_load_54 : decode cX3_load 54 = .ok (.invokevirtual 135, 3) := by decide +kernel
theorem dX3_load_57 : decode cX3_load 57 = .ok (.iload_n 2, 1) := by decide +kernel
theorem dX3_load_58 : decode cX3_load 58 = .ok (.invokestatic 129, 3) := by decide +kernel
theorem dX3_load_61 : decode cX3_load 61 = .ok (.lreturn, 1) := by decide +kernel
set_option maxRecDepth 20000 in
theorem ggX3_count_X3_linesOf : GoodIn wsX3_count wsX3_linesOf := goodIn_r _ [7, 2, 8, 9, 10, 6, 11, 12, 13, 25, 26, 27, 28, 29, 30, 31, 32, 33, 34, 35, 36] (by decide +kernel) (by decide +kernel)
set_option maxRecDepth 20000 in
theorem gX3_count_X3_linesOf : GoodIn wsX3_count (wsV RX3 145 RX3 yX3_linesOf wsX3_linesOf) := goodIn_app (goodIn_of _ (by decide +kernel)) ggX3_count_X3_linesOf
set_option maxRecDepth 20000 in
theorem ggX3_count_J6_bitCount_0f7a4 : GoodIn wsX3_count wsJ6_bitCount_0f7a4 := goodIn_r _ [17, 18, 19, 20] (by decide +kernel) (by decide +kernel)
set_option maxRecDepth 20000 in
theorem gX3_count_J6_bitCount_0f7a4 : GoodIn wsX3_count (va_wsS RX3 116 yJ6_bitCount_0f7a4 wsJ6_bitCount_0f7a4) := goodIn_app (goodIn_of _ (by decide +kernel)) ggX3_count_J6_bitCount_0f7a4
set_option maxRecDepth 20000 in
theorem ggX3_count_X3_weightTogether : GoodIn wsX3_count wsX3_weightTogether := goodIn_r _ [24, 2, 8, 9, 10, 6, 11, 12, 13, 25, 26, 27, 28, 29, 30, 31, 32, 33, 34, 35, 36] (by decide +kernel) (by decide +kernel)
set_option maxRecDepth 20000 in
theorem gX3_count_X3_weightTogether : GoodIn wsX3_count (wsV RX3 148 RX3 yX3_weightTogether wsX3_weightTogether) := goodIn_app (goodIn_of _ (by decide +kernel)) ggX3_count_X3_weightTogether
theorem dX3_count_0 : decode cX3_count 0 = .ok (.iload_n 1, 1) := by decide +kernel
theorem dX3_count_1 : decode cX3_count 1 = .ok (.tableswitch 66 0 4 #[35, 40, 45, 54, 60], 35) := by decide +kernel
theorem dX3_count_36 : decode cX3_count 36 = .ok (.aload_n 0, 1) := by decide +kernel
theorem dX3_count_37 : decode cX3_count 37 = .ok (.getfield 9, 3) := by decide +kernel
theorem dX3_count_40 : decode cX3_count 40 = .ok (.ireturn, 1) := by decide +kernel
theorem dX3_count_41 : decode cX3_count 41 = .ok (.aload_n 0, 1) := by decide +kernel
theorem dX3_count_42 : decode cX3_count 42 = .ok (.getfield 13, 3) := by decide +kernel
theorem dX3_count_45 : decode cX3_count 45 = .ok (.ireturn, 1) := by decide +kernel
theorem dX3_count_46 : decode cX3_count 46 = .ok (.aload_n 0, 1) := by decide +kernel
theorem dX3_count_47 : decode cX3_count 47 = .ok (.iconst 1, 1) := by decide +kernel
theorem dX3_count_48 : decode cX3_count 48 = .ok (.invokevirtual 145, 3) := by decide +kernel
theorem dX3_count_51 : decode cX3_count 51 = .ok (.invokestatic 116, 3) := by decide +kernel
theorem dX3_count_54 : decode cX3_count 54 = .ok (.ireturn, 1) := by decide +kernel
theorem dX3_count_55 : decode cX3_count 55 = .ok (.aload_n 0, 1) := by decide +kernel
theorem dX3_count_56 : decode cX3_count 56 = .ok (.iconst 0, 1) := by decide +kernel
theorem dX3_count_57 : decode cX3_count 57 = .ok (.invokevirtual 148, 3) := by decide +kernel
theorem dX3_count_60 : decode cX3_count 60 = .ok (.ireturn, 1) := by decide +kernel
theorem dX3_count_61 : decode cX3_count 61 = .ok (.aload_n 0, 1) := by decide +kernel
theorem dX3_count_62 : decode cX3_count 62 = .ok (.iconst 1, 1) := by decide +kernel
theorem dX3_count_63 : decode cX3_count 63 = .ok (.invokevirtual 148, 3) := by decide +kernel
theorem dX3_count_66 : decode cX3_count 66 = .ok (.ireturn, 1) := by decide +kernel
theorem dX3_count_67 : decode cX3_count 67 = .ok (.bipush (-3), 2) := by decide +kernel
theorem dX3_count_69 : decode cX3_count 69 = .ok (.ireturn, 1) := by decide +kernel
theorem dX3_isWithin_0 : decode cX3_isWithin 0 = .ok (.iload_n 0, 1) := by decide +kernel
theorem dX3_isWithin_1 : decode cX3_isWithin 1 = .ok (.iload_n 1, 1) := by decide +kernel
theorem dX3_isWithin_2 : decode cX3_isWithin 2 = .ok (.if_icmp .lt 12, 3) := by decide +kernel
theorem dX3_isWithin_5 : decode cX3_isWithin 5 = .ok (.iload_n 0, 1) := by decide +kernel
theorem dX3_isWithin_6 : decode cX3_isWithin 6 = .ok (.iload_n 2, 1) := by decide +kernel
theorem dX3_isWithin_7 : decode cX3_isWithin 7 = .ok (.if_icmp .gt 7, 3) := by decide +kernel
theorem dX3_isWithin_10 : decode cX3_isWithin 10 = .ok (.iconst 1, 1) := by decide +kernel
theorem dX3_isWithin_11 : decode cX3_isWithin 11 = .ok (.goto 4, 3) := by decide +kernel
theorem dX3_isWithin_14 : decode cX3_isWithin 14 = .ok (.iconst 0, 1) := by decide +kernel
theorem dX3_isWithin_15 : decode cX3_isWithin 15 = .ok (.ireturn, 1) := by decide +kernel
theorem dX3_isIn_0 : decode cX3_isIn 0 = .ok (.iload_n 0, 1) := by decide +kernel
theorem dX3_isIn_1 : decode cX3_isIn 1 = .ok (.iload_n 1, 1) := by decide +kernel
theorem dX3_isIn_2 : decode cX3_isIn 2 = .ok (.ishr, 1) := by decide +kernel
theorem dX3_isIn_3 : decode cX3_isIn 3 = .ok (.iconst 1, 1) := by decide +kernel
theorem dX3_isIn_4 : decode cX3_isIn 4 = .ok (.iand, 1) := by decide +kernel
theorem dX3_isIn_5 : decode cX3_isIn 5 = .ok (.iconst 1, 1) := by decide +kernel
theorem dX3_isIn_6 : decode cX3_isIn 6 = .ok (.if_icmp .ne 7, 3) := by decide +kernel
theorem dX3_isIn_9 : decode cX3_isIn 9 = .ok (.iconst 1, 1) := by decide +kernel
theorem dX3_isIn_10 : decode cX3_isIn 10 = .ok (.goto 4, 3) := by decide +kernel
theorem dX3_isIn_13 : decode cX3_isIn 13 = .ok (.iconst 0, 1) := by decide +kernel
theorem dX3_isIn_14 : decode cX3_isIn 14 = .ok (.ireturn, 1) := by decide +kernel
theorem dX3_isWay_0 : decode cX3_isWay 0 = .ok (.iload_n 0, 1) := by decide +kernel
theorem dX3_isWay_1 : decode cX3_isWay 1 = .ok (.ifCond .eq 8, 3) := by decide +kernel
theorem dX3_isWay_4 : decode cX3_isWay 4 = .ok (.iload_n 0, 1) := by decide +kernel
theorem dX3_isWay_5 : decode cX3_isWay 5 = .ok (.iconst 1, 1) := by decide +kernel
theorem dX3_isWay_6 : decode cX3_isWay 6 = .ok (.if_icmp .ne 7, 3) := by decide +kernel
theorem dX3_isWay_9 : decode cX3_isWay 9 = .ok (.iconst 1, 1) := by decide +kernel
theorem dX3_isWay_10 : decode cX3_isWay 10 = .ok (.goto 4, 3) := by decide +kernel
theorem dX3_isWay_13 : decode cX3_isWay 13 = .ok (.iconst 0, 1) := by decide +kernel
theorem dX3_isWay_14 : decode cX3_isWay 14 = .ok (.ireturn, 1) := by decide +kernel
theorem dX3_isNode_0 : decode cX3_isNode 0 = .ok (.iload_n 1, 1) := by decide +kernel
theorem dX3_isNode_1 : decode cX3_isNode 1 = .ok (.ifCond .lt 15, 3) := by decide +kernel
theorem dX3_isNode_4 : decode cX3_isNode 4 = .ok (.iload_n 1, 1) := by decide +kernel
theorem dX3_isNode_5 : decode cX3_isNode 5 = .ok (.aload_n 0, 1) := by decide +kernel
theorem dX3_isNode_6 : decode cX3_isNode 6 = .ok (.getfield 9, 3) := by decide +kernel
theorem dX3_isNode_9 : decode cX3_isNode 9 = .ok (.if_icmp .ge 7, 3) := by decide +kernel
theorem dX3_isNode_12 : decode cX3_isNode 12 = .ok (.iconst 1, 1) := by decide +kernel
theorem dX3_isNode_13 : decode cX3_isNode 13 = .ok (.goto 4, 3) := by decide +kernel
theorem dX3_isNode_16 : decode cX3_isNode 16 = .ok (.iconst 0, 1) := by decide +kernel
theorem dX3_isNode_17 : decode cX3_isNode 17 = .ok (.ireturn, 1) := by decide +kernel
theorem dX3_isLine_0 : decode cX3_isLine 0 = .ok (.iload_n 1, 1) := by decide +kernel
theorem dX3_isLine_1 : decode cX3_isLine 1 = .ok (.ifCond .lt 15, 3) := by decide +kernel
theorem dX3_isLine_4 : decode cX3_isLine 4 = .ok (.iload_n 1, 1) := by decide +kernel
theorem dX3_isLine_5 : decode cX3_isLine 5 = .ok (.aload_n 0, 1) := by decide +kernel
theorem dX3_isLine_6 : decode cX3_isLine 6 = .ok (.getfield 13, 3) := by decide +kernel
theorem dX3_isLine_9 : decode cX3_isLine 9 = .ok (.if_icmp .ge 7, 3) := by decide +kernel
theorem dX3_isLine_12 : decode cX3_isLine 12 = .ok (.iconst 1, 1) := by decide +kernel
theorem dX3_isLine_13 : decode cX3_isLine 13 = .ok (.goto 4, 3) := by decide +kernel
theorem dX3_isLine_16 : decode cX3_isLine 16 = .ok (.iconst 0, 1) := by decide +kernel
theorem dX3_isLine_17 : decode cX3_isLine 17 = .ok (.ireturn, 1) := by decide +kernel
set_option maxRecDepth 20000 in
theorem ggX3_isSide_X3_allNodes : GoodIn wsX3_isSide wsX3_allNodes := goodIn_r _ [5, 6, 7, 8, 9, 10, 11, 12, 13, 14, 15, 16, 17, 18] (by decide +kernel) (by decide +kernel)
set_option maxRecDepth 20000 in
theorem gX3_isSide_X3_allNodes : GoodIn wsX3_isSide (wsV RX3 95 RX3 yX3_allNodes wsX3_allNodes) := goodIn_app (goodIn_of _ (by decide +kernel)) ggX3_isSide_X3_allNodes
theorem dX3_isSide_0 : decode cX3_isSide 0 = .ok (.iload_n 1, 1) := by decide +kernel
theorem dX3_isSide_1 : decode cX3_isSide 1 = .ok (.ifCond .le 22, 3) := by decide +kernel
theorem dX3_isSide_4 : decode cX3_isSide 4 = .ok (.iload_n 1, 1) := by decide +kernel
theorem dX3_isSide_5 : decode cX3_isSide 5 = .ok (.aload_n 0, 1) := by decide +kernel
theorem dX3_isSide_6 : decode cX3_isSide 6 = .ok (.invokevirtual 95, 3) := by decide +kernel
theorem dX3_isSide_9 : decode cX3_isSide 9 = .ok (.if_icmp .ge 14, 3) := by decide +kernel
theorem dX3_isSide_12 : decode cX3_isSide 12 = .ok (.iload_n 1, 1) := by decide +kernel
theorem dX3_isSide_13 : decode cX3_isSide 13 = .ok (.iconst 1, 1) := by decide +kernel
theorem dX3_isSide_14 : decode cX3_isSide 14 = .ok (.iand, 1) := by decide +kernel
theorem dX3_isSide_15 : decode cX3_isSide 15 = .ok (.iconst 1, 1) := by decide +kernel
theorem dX3_isSide_16 : decode cX3_isSide 16 = .ok (.if_icmp .ne 7, 3) := by decide +kernel
theorem dX3_isSide_19 : decode cX3_isSide 19 = .ok (.iconst 1, 1) := by decide +kernel
theorem dX3_isSide_20 : decode cX3_isSide 20 = .ok (.goto 4, 3) := by decide +kernel
theorem dX3_isSide_23 : decode cX3_isSide 23 = .ok (.iconst 0, 1) := by decide +kernel
theorem dX3_isSide_24 : decode cX3_isSide 24 = .ok (.ireturn, 1) := by decide +kernel
theorem dX3_allNodes_0 : decode cX3_allNodes 0 = .ok (.iconst 1, 1) := by decide +kernel
theorem dX3_allNodes_1 : decode cX3_allNodes 1 = .ok (.aload_n 0, 1) := by decide +kernel
theorem dX3_allNodes_2 : decode cX3_allNodes 2 = .ok (.getfield 9, 3) := by decide +kernel
theorem dX3_allNodes_5 : decode cX3_allNodes 5 = .ok (.ishl, 1) := by decide +kernel
theorem dX3_allNodes_6 : decode cX3_allNodes 6 = .ok (.iconst 1, 1) := by decide +kernel
theorem dX3_allNodes_7 : decode cX3_allNodes 7 = .ok (.isub, 1) := by decide +kernel
theorem dX3_allNodes_8 : decode cX3_allNodes 8 = .ok (.ireturn, 1) := by decide +kernel
theorem dX3_weightIn_0 : decode cX3_weightIn 0 = .ok (.iload_n 2, 1) := by decide +kernel
theorem dX3_weightIn_1 : decode cX3_weightIn 1 = .ok (.ifCond .ne 12, 3) := by decide +kernel
theorem dX3_weightIn_4 : decode cX3_weightIn 4 = .ok (.aload_n 0, 1) := by decide +kernel
theorem dX3_weightIn_5 : decode cX3_weightIn 5 = .ok (.getfield 23, 3) := by decide +kernel
theorem dX3_weightIn_8 : decode cX3_weightIn 8 = .ok (.iload_n 1, 1) := by decide +kernel
theorem dX3_weightIn_9 : decode cX3_weightIn 9 = .ok (.iaload, 1) := by decide +kernel
theorem dX3_weightIn_10 : decode cX3_weightIn 10 = .ok (.goto 9, 3) := by decide +kernel
theorem dX3_weightIn_13 : decode cX3_weightIn 13 = .ok (.aload_n 0, 1) := by decide +kernel
theorem dX3_weightIn_14 : decode cX3_weightIn 14 = .ok (.getfield 26, 3) := by decide +kernel
theorem dX3_weightIn_17 : decode cX3_weightIn 17 = .ok (.iload_n 1, 1) := by decide +kernel
theorem dX3_weightIn_18 : decode cX3_weightIn 18 = .ok (.iaload, 1) := by decide +kernel
theorem dX3_weightIn_19 : decode cX3_weightIn 19 = .ok (.ireturn, 1) := by decide +kernel
set_option maxRecDepth 20000 in
theorem ggX3_weightTogether_X3_weightIn : GoodIn wsX3_weightTogether wsX3_weightIn := goodIn_r _ [6, 7, 8, 9, 10, 11, 12, 13, 14, 15, 16, 17, 18, 19, 20] (by decide +kernel) (by decide +kernel)
set_option maxRecDepth 20000 in
theorem gX3_weightTogether_X3_weightIn : GoodIn wsX3_weightTogether (wsV RX3 151 RX3 yX3_weightIn wsX3_weightIn) := goodIn_app (goodIn_of _ (by decide +kernel)) ggX3_weightTogether_X3_weightIn
theorem dX3_weightTogether_0 : decode cX3_weightTogether 0 = .ok (.iconst 0, 1) := by decide +kernel
theorem dX3_weightTogether_1 : decode cX3_weightTogether 1 = .ok (.istore_n 2, 1) := by decide +kernel
theorem dX3_weightTogether_2 : decode cX3_weightTogether 2 = .ok (.iconst 0, 1) := by decide +kernel
theorem dX3_weightTogether_3 : decode cX3_weightTogether 3 = .ok (.istore_n 3, 1) := by decide +kernel
theorem dX3_weightTogether_4 : decode cX3_weightTogether 4 = .ok (.iload_n 3, 1) := by decide +kernel
theorem dX3_weightTogether_5 : decode cX3_weightTogether 5 = .ok (.aload_n 0, 1) := by decide +kernel
theorem dX3_weightTogether_6 : decode cX3_weightTogether 6 = .ok (.getfield 13, 3) := by decide +kernel
theorem dX3_weightTogether_9 : decode cX3_weightTogether 9 = .ok (.if_icmp .ge 18, 3) := by decide +kernel
theorem dX3_weightTogether_12 : decode cX3_weightTogether 12 = .ok (.iload_n 2, 1) := by decide +kernel
theorem dX3_weightTogether_13 : decode cX3_weightTogether 13 = .ok (.aload_n 0, 1) := by decide +kernel
theorem dX3_weightTogether_14 : decode cX3_weightTogether 14 = .ok (.iload_n 3, 1) := by decide +kernel
theorem dX3_weightTogether_15 : decode cX3_weightTogether 15 = .ok (.iload_n 1, 1) := by decide +kernel
theorem dX3_weightTogether_16 : decode cX3_weightTogether 16 = .ok (.invokevirtual 151, 3) := by decide +kernel
theorem dX3_weightTogether_19 : decode cX3_weightTogether 19 = .ok (.iadd, 1) := by decide +kernel
theorem dX3_weightTogether_20 : decode cX3_weightTogether 20 = .ok (.istore_n 2, 1) := by decide +kernel
theorem dX3_weightTogether_21 : decode cX3_weightTogether 21 = .ok (.iinc 3 1, 3) := by decide +kernel
theorem dX3_weightTogether_24 : decode cX3_weightTogether 24 = .ok (.goto (-20), 3) := by decide +kernel
theorem dX3_weightTogether_27 : decode cX3_weightTogether 27 = .ok (.iload_n 2, 1) := by decide +kernel
theorem dX3_weightTogether_28 : decode cX3_weightTogether 28 = .ok (.ireturn, 1) := by decide +kernel
set_option maxRecDepth 20000 in
theorem ggX3_weightAcross_X3_isIn : GoodIn wsX3_weightAcross wsX3_isIn := goodIn_r _ [7] (by decide +kernel) (by decide +kernel)
set_option maxRecDepth 20000 in
theorem gX3_weightAcross_X3_isIn : GoodIn wsX3_weightAcross (va_wsS RX3 154 yX3_isIn wsX3_isIn) := goodIn_app (goodIn_of _ (by decide +kernel)) ggX3_weightAcross_X3_isIn
set_option maxRecDepth 20000 in
theorem ggX3_weightAcross_X3_weightIn : GoodIn wsX3_weightAcross wsX3_weightIn := goodIn_r _ [11, 12, 13, 14, 15, 16, 17, 18, 19, 20, 21, 22, 23, 24, 25] (by decide +kernel) (by decide +kernel)
set_option maxRecDepth 20000 in
theorem gX3_weightAcross_X3_weightIn : GoodIn wsX3_weightAcross (wsV RX3 151 RX3 yX3_weightIn wsX3_weightIn) := goodIn_app (goodIn_of _ (by decide +kernel)) ggX3_weightAcross_X3_weightIn
theorem dX3_weightAcross_0 : decode cX3_weightAcross 0 = .ok (.iconst 0, 1) := by decide +kernel
theorem dX3_weightAcross_1 : decode cX3_weightAcross 1 = .ok (.istore_n 3, 1) := by decide +kernel
theorem dX3_weightAcross_2 : decode cX3_weightAcross 2 = .ok (.iconst 0, 1) := by decide +kernel
theorem dX3_weightAcross_3 : decode cX3_weightAcross 3 = .ok (.istore 4, 2) := by decide +kernel
theorem dX3_weightAcross_5 : decode cX3_weightAcross 5 = .ok (.iload 4, 2) := by decide +kernel
theorem dX3_weightAcross_7 : decode cX3_weightAcross 7 = .ok (.aload_n 0, 1) := by decide +kernel
theorem dX3_weightAcross_8 : decode cX3_weightAcross 8 = .ok (.getfield 13, 3) := by decide +kernel
theorem dX3_weightAcross_11 : decode cX3_weightAcross 11 = .ok (.if_icmp .ge 44, 3) := by decide +kernel
theorem dX3_weightAcross_14 : decode cX3_weightAcross 14 = .ok (.iload_n 1, 1) := by decide +kernel
theorem dX3_weightAcross_15 : decode cX3_weightAcross 15 = .ok (.aload_n 0, 1) := by decide +kernel
theorem dX3_weightAcross_16 : decode cX3_weightAcross 16 = .ok (.getfield 16, 3) := by decide +kernel
theorem dX3_weightAcross_19 : decode cX3_weightAcross 19 = .ok (.iload 4, 2) := by decide +kernel
theorem dX3_weightAcross_21 : decode cX3_weightAcross 21 = .ok (.iaload, 1) := by decide +kernel
theorem dX3_weightAcross_22 : decode cX3_weightAcross 22 = .ok (.invokestatic 154, 3) := by decide +kernel
theorem dX3_weightAcross_25 : decode cX3_weightAcross 25 = .ok (.iload_n 1, 1) := by decide +kernel
theorem dX3_weightAcross_26 : decode cX3_weightAcross 26 = .ok (.aload_n 0, 1) := by decide +kernel
theorem dX3_weightAcross_27 : decode cX3_weightAcross 27 = .ok (.getfield 20, 3) := by decide +kernel
theorem dX3_weightAcross_30 : decode cX3_weightAcross 30 = .ok (.iload 4, 2) := by decide +kernel
theorem dX3_weightAcross_32 : decode cX3_weightAcross 32 = .ok (.iaload, 1) := by decide +kernel
theorem dX3_weightAcross_33 : decode cX3_weightAcross 33 = .ok (.invokestatic 154, 3) := by decide +kernel
theorem dX3_weightAcross_36 : decode cX3_weightAcross 36 = .ok (.if_icmp .eq 13, 3) := by decide +kernel
theorem dX3_weightAcross_39 : decode cX3_weightAcross 39 = .ok (.iload_n 3, 1) := by decide +kernel
theorem dX3_weightAcross_40 : decode cX3_weightAcross 40 = .ok (.aload_n 0, 1) := by decide +kernel
theorem dX3_weightAcross_41 : decode cX3_weightAcross 41 = .ok (.iload 4, 2) := by decide +kernel
theorem dX3_weightAcross_43 : decode cX3_weightAcross 43 = .ok (.iload_n 2, 1) := by decide +kernel
theorem dX3_weightAcross_44 : decode cX3_weightAcross 44 = .ok (.invokevirtual 151, 3) := by decide +kernel
theorem dX3_weightAcross_47 : decode cX3_weightAcross 47 = .ok (.iadd, 1) := by decide +kernel
theorem dX3_weightAcross_48 : decode cX3_weightAcross 48 = .ok (.istore_n 3, 1) := by decide +kernel
theorem dX3_weightAcross_49 : decode cX3_weightAcross 49 = .ok (.iinc 4 1, 3) := by decide +kernel
theorem dX3_weightAcross_52 : decode cX3_weightAcross 52 = .ok (.goto (-47), 3) := by decide +kernel
theorem dX3_weightAcross_55 : decode cX3_weightAcross 55 = .ok (.iload_n 3, 1) := by decide +kernel
theorem dX3_weightAcross_56 : decode cX3_weightAcross 56 = .ok (.ireturn, 1) := by decide +kernel
set_option maxRecDepth 20000 in
theorem ggX3_linesOf_X3_weightIn : GoodIn wsX3_linesOf wsX3_weightIn := goodIn_r _ [6, 7, 8, 9, 10, 11, 12, 13, 14, 15, 16, 17, 18, 19, 20] (by decide +kernel) (by decide +kernel)
set_option maxRecDepth 20000 in
theorem gX3_linesOf_X3_weightIn : GoodIn wsX3_linesOf (wsV RX3 151 RX3 yX3_weightIn wsX3_weightIn) := goodIn_app (goodIn_of _ (by decide +kernel)) ggX3_linesOf_X3_weightIn
theorem dX3_linesOf_0 : decode cX3_linesOf 0 = .ok (.iconst 0, 1) := by decide +kernel
theorem dX3_linesOf_1 : decode cX3_linesOf 1 = .ok (.istore_n 2, 1) := by decide +kernel
theorem dX3_linesOf_2 : decode cX3_linesOf 2 = .ok (.iconst 0, 1) := by decide +kernel
theorem dX3_linesOf_3 : decode cX3_linesOf 3 = .ok (.istore_n 3, 1) := by decide +kernel
theorem dX3_linesOf_4 : decode cX3_linesOf 4 = .ok (.iload_n 3, 1) := by decide +kernel
theorem dX3_linesOf_5 : decode cX3_linesOf 5 = .ok (.aload_n 0, 1) := by decide +kernel
theorem dX3_linesOf_6 : decode cX3_linesOf 6 = .ok (.getfield 13, 3) := by decide +kernel
theorem dX3_linesOf_9 : decode cX3_linesOf 9 = .ok (.if_icmp .ge 24, 3) := by decide +kernel
theorem dX3_linesOf_12 : decode cX3_linesOf 12 = .ok (.aload_n 0, 1) := by decide +kernel
theorem dX3_linesOf_13 : decode cX3_linesOf 13 = .ok (.iload_n 3, 1) := by decide +kernel
theorem dX3_linesOf_14 : decode cX3_linesOf 14 = .ok (.iload_n 1, 1) := by decide +kernel
theorem dX3_linesOf_15 : decode cX3_linesOf 15 = .ok (.invokevirtual 151, 3) := by decide +kernel
theorem dX3_linesOf_18 : decode cX3_linesOf 18 = .ok (.ifCond .le 9, 3) := by decide +kernel
theorem dX3_linesOf_21 : decode cX3_linesOf 21 = .ok (.iload_n 2, 1) := by decide +kernel
theorem dX3_linesOf_22 : decode cX3_linesOf 22 = .ok (.iconst 1, 1) := by decide +kernel
theorem dX3_linesOf_23 : decode cX3_linesOf 23 = .ok (.iload_n 3, 1) := by decide +kernel
theorem dX3_linesOf_24 : decode cX3_linesOf 24 = .ok (.ishl, 1) := by decide +kernel
theorem dX3_linesOf_25 : decode cX3_linesOf 25 = .ok (.ior, 1) := by decide +kernel
theorem dX3_linesOf_26 : decode cX3_linesOf 26 = .ok (.istore_n 2, 1) := by decide +kernel
theorem dX3_linesOf_27 : decode cX3_linesOf 27 = .ok (.iinc 3 1, 3) := by decide +kernel
theorem dX3_linesOf_30 : decode cX3_linesOf 30 = .ok (.goto (-26), 3) := by decide +kernel
theorem dX3_linesOf_33 : decode cX3_linesOf 33 = .ok (.iload_n 2, 1) := by decide +kernel
theorem dX3_linesOf_34 : decode cX3_linesOf 34 = .ok (.ireturn, 1) := by decide +kernel
set_option maxRecDepth 20000 in
theorem ggX3_keepJust_X3_isIn : GoodIn wsX3_keepJust wsX3_isIn := goodIn_r _ [7] (by decide +kernel) (by decide +kernel)
set_option maxRecDepth 20000 in
theorem gX3_keepJust_X3_isIn : GoodIn wsX3_keepJust (va_wsS RX3 154 yX3_isIn wsX3_isIn) := goodIn_app (goodIn_of _ (by decide +kernel)) ggX3_keepJust_X3_isIn
set_option maxRecDepth 20000 in
theorem ggX3_keepJust_J6_bitCount_0f7a4 : GoodIn wsX3_keepJust wsJ6_bitCount_0f7a4 := goodIn_r _ [11, 12, 13, 14] (by decide +kernel) (by decide +kernel)
set_option maxRecDepth 20000 in
theorem gX3_keepJust_J6_bitCount_0f7a4 : GoodIn wsX3_keepJust (va_wsS RX3 116 yJ6_bitCount_0f7a4 wsJ6_bitCount_0f7a4) := goodIn_app (goodIn_of _ (by decide +kernel)) ggX3_keepJust_J6_bitCount_0f7a4
theorem dX3_keepJust_0 : decode cX3_keepJust 0 = .ok (.iconst 0, 1) := by decide +kernel
theorem dX3_keepJust_1 : decode cX3_keepJust 1 = .ok (.istore_n 2, 1) := by decide +kernel
theorem dX3_keepJust_2 : decode cX3_keepJust 2 = .ok (.iload_n 2, 1) := by decide +kernel
theorem dX3_keepJust_3 : decode cX3_keepJust 3 = .ok (.aload_n 0, 1) := by decide +kernel
theorem dX3_keepJust_4 : decode cX3_keepJust 4 = .ok (.getfield 13, 3) := by decide +kernel
theorem dX3_keepJust_7 : decode cX3_keepJust 7 = .ok (.if_icmp .ge 33, 3) := by decide +kernel
theorem dX3_keepJust_10 : decode cX3_keepJust 10 = .ok (.aload_n 0, 1) := by decide +kernel
theorem dX3_keepJust_11 : decode cX3_keepJust 11 = .ok (.getfield 26, 3) := by decide +kernel
theorem dX3_keepJust_14 : decode cX3_keepJust 14 = .ok (.iload_n 2, 1) := by decide +kernel
theorem dX3_keepJust_15 : decode cX3_keepJust 15 = .ok (.iload_n 1, 1) := by decide +kernel
theorem dX3_keepJust_16 : decode cX3_keepJust 16 = .ok (.iload_n 2, 1) := by decide +kernel
theorem dX3_keepJust_17 : decode cX3_keepJust 17 = .ok (.invokestatic 154, 3) := by decide +kernel
theorem dX3_keepJust_20 : decode cX3_keepJust 20 = .ok (.ifCond .eq 12, 3) := by decide +kernel
theorem dX3_keepJust_23 : decode cX3_keepJust 23 = .ok (.aload_n 0, 1) := by decide +kernel
theorem dX3_keepJust_24 : decode cX3_keepJust 24 = .ok (.getfield 23, 3) := by decide +kernel
theorem dX3_keepJust_27 : decode cX3_keepJust 27 = .ok (.iload_n 2, 1) := by decide +kernel
theorem dX3_keepJust_28 : decode cX3_keepJust 28 = .ok (.iaload, 1) := by decide +kernel
theorem dX3_keepJust_29 : decode cX3_keepJust 29 = .ok (.goto 4, 3) := by decide +kernel
theorem dX3_keepJust_32 : decode cX3_keepJust 32 = .ok (.iconst 0, 1) := by decide +kernel
theorem dX3_keepJust_33 : decode cX3_keepJust 33 = .ok (.iastore, 1) := by decide +kernel
theorem dX3_keepJust_34 : decode cX3_keepJust 34 = .ok (.iinc 2 1, 3) := by decide +kernel
theorem dX3_keepJust_37 : decode cX3_keepJust 37 = .ok (.goto (-35), 3) := by decide +kernel
theorem dX3_keepJust_40 : decode cX3_keepJust 40 = .ok (.iload_n 1, 1) := by decide +kernel
theorem dX3_keepJust_41 : decode cX3_keepJust 41 = .ok (.invokestatic 116, 3) := by decide +kernel
theorem dX3_keepJust_44 : decode cX3_keepJust 44 = .ok (.ireturn, 1) := by decide +kernel
set_option maxRecDepth 20000 in
theorem ggX3_peelForests_J7_fill_53178 : GoodIn wsX3_peelForests wsJ7_fill_53178 := goodIn_r _ [6] (by decide +kernel) (by decide +kernel)
set_option maxRecDepth 20000 in
theorem gX3_peelForests_J7_fill_53178 : GoodIn wsX3_peelForests (va_wsS RX3 158 yJ7_fill_53178 wsJ7_fill_53178) := goodIn_app (goodIn_of _ (by decide +kernel)) ggX3_peelForests_J7_fill_53178
set_option maxRecDepth 20000 in
theorem ggX3_peelForests_X3_peelOne : GoodIn wsX3_peelForests wsX3_peelOne := goodIn_r _ [11, 12, 2, 1, 13, 14, 15, 16, 17, 18, 19, 20, 21, 22, 23, 24, 25, 26, 27, 28, 29, 30, 31, 32, 33, 34, 35, 36, 37] (by decide +kernel) (by decide +kernel)
set_option maxRecDepth 20000 in
theorem gX3_peelForests_X3_peelOne : GoodIn wsX3_peelForests (wsV RX3 164 RX3 yX3_peelOne wsX3_peelOne) := goodIn_app (goodIn_of _ (by decide +kernel)) ggX3_peelForests_X3_peelOne
theorem dX3_peelForests_0 : decode cX3_peelForests 0 = .ok (.aload_n 0, 1) := by decide +kernel
theorem dX3_peelForests_1 : decode cX3_peelForests 1 = .ok (.getfield 29, 3) := by decide +kernel
theorem dX3_peelForests_4 : decode cX3_peelForests 4 = .ok (.iconst 0, 1) := by decide +kernel
theorem dX3_peelForests_5 : decode cX3_peelForests 5 = .ok (.invokestatic 158, 3) := by decide +kernel
theorem dX3_peelForests_8 : decode cX3_peelForests 8 = .ok (.iconst 0, 1) := by decide +kernel
theorem dX3_peelForests_9 : decode cX3_peelForests 9 = .ok (.istore_n 1, 1) := by decide +kernel
theorem dX3_peelForests_10 : decode cX3_peelForests 10 = .ok (.iconst 0, 1) := by decide +kernel
theorem dX3_peelForests_11 : decode cX3_peelForests 11 = .ok (.istore_n 2, 1) := by decide +kernel
theorem dX3_peelForests_12 : decode cX3_peelForests 12 = .ok (.iload_n 1, 1) := by decide +kernel
theorem dX3_peelForests_13 : decode cX3_peelForests 13 = .ok (.aload_n 0, 1) := by decide +kernel
theorem dX3_peelForests_14 : decode cX3_peelForests 14 = .ok (.getfield 13, 3) := by decide +kernel
theorem dX3_peelForests_17 : decode cX3_peelForests 17 = .ok (.if_icmp .ge 23, 3) := by decide +kernel
theorem dX3_peelForests_20 : decode cX3_peelForests 20 = .ok (.iload_n 2, 1) := by decide +kernel
theorem dX3_peelForests_21 : decode cX3_peelForests 21 = .ok (.bipush 12, 2) := by decide +kernel
theorem dX3_peelForests_23 : decode cX3_peelForests 23 = .ok (.if_icmp .ge 17, 3) := by decide +kernel
theorem dX3_peelForests_26 : decode cX3_peelForests 26 = .ok (.iinc 2 1, 3) := by decide +kernel
theorem dX3_peelForests_29 : decode cX3_peelForests 29 = .ok (.iload_n 1, 1) := by decide +kernel
theorem dX3_peelForests_30 : decode cX3_peelForests 30 = .ok (.aload_n 0, 1) := by decide +kernel
theorem dX3_peelForests_31 : decode cX3_peelForests 31 = .ok (.iload_n 2, 1) := by decide +kernel
theorem dX3_peelForests_32 : decode cX3_peelForests 32 = .ok (.invokevirtual 164, 3) := by decide +kernel
theorem dX3_peelForests_35 : decode cX3_peelForests 35 = .ok (.iadd, 1) := by decide +kernel
theorem dX3_peelForests_36 : decode cX3_peelForests 36 = .ok (.istore_n 1, 1) := by decide +kernel
theorem dX3_peelForests_37 : decode cX3_peelForests 37 = .ok (.goto (-25), 3) := by decide +kernel
theorem dX3_peelForests_40 : decode cX3_peelForests 40 = .ok (.iload_n 2, 1) := by decide +kernel
theorem dX3_peelForests_41 : decode cX3_peelForests 41 = .ok (.ireturn, 1) := by decide +kernel
set_option maxRecDepth 20000 in
theorem ggX3_peelOne_X2_clear : GoodIn wsX3_peelOne wsX2_clear := goodIn_r _ [10, 11, 28] (by decide +kernel) (by decide +kernel)
set_option maxRecDepth 20000 in
theorem gX3_peelOne_X2_clear : GoodIn wsX3_peelOne (wsV RX3 167 RX2 yX2_clear wsX2_clear) := goodIn_app (goodIn_of _ (by decide +kernel)) ggX3_peelOne_X2_clear
set_option maxRecDepth 20000 in
theorem ggX3_peelOne_X2_join : GoodIn wsX3_peelOne wsX2_join := goodIn_r _ [15, 11, 28] (by decide +kernel) (by decide +kernel)
set_option maxRecDepth 20000 in
theorem gX3_peelOne_X2_join : GoodIn wsX3_peelOne (wsV RX3 169 RX2 yX2_join wsX2_join) := goodIn_app (goodIn_of _ (by decide +kernel)) ggX3_peelOne_X2_join
theorem dX3_peelOne_0 : decode cX3_peelOne 0 = .ok (.iconst 0, 1) := by decide +kernel
theorem dX3_peelOne_1 : decode cX3_peelOne 1 = .ok (.istore_n 2, 1) := by decide +kernel
theorem dX3_peelOne_2 : decode cX3_peelOne 2 = .ok (.aload_n 0, 1) := by decide +kernel
theorem dX3_peelOne_3 : decode cX3_peelOne 3 = .ok (.getfield 35, 3) := by decide +kernel
theorem dX3_peelOne_6 : decode cX3_peelOne 6 = .ok (.invokevirtual 167, 3) := by decide +kernel
theorem dX3_peelOne_9 : decode cX3_peelOne 9 = .ok (.iconst 0, 1) := by decide +kernel
theorem dX3_peelOne_10 : decode cX3_peelOne 10 = .ok (.istore_n 3, 1) := by decide +kernel
theorem dX3_peelOne_11 : decode cX3_peelOne 11 = .ok (.iload_n 3, 1) := by decide +kernel
theorem dX3_peelOne_12 : decode cX3_peelOne 12 = .ok (.aload_n 0, 1) := by decide +kernel
theorem dX3_peelOne_13 : decode cX3_peelOne 13 = .ok (.getfield 13, 3) := by decide +kernel
theorem dX3_peelOne_16 : decode cX3_peelOne 16 = .ok (.if_icmp .ge 50, 3) := by decide +kernel
theorem dX3_peelOne_19 : decode cX3_peelOne 19 = .ok (.aload_n 0, 1) := by decide +kernel
theorem dX3_peelOne_20 : decode cX3_peelOne 20 = .ok (.getfield 29, 3) := by decide +kernel
theorem dX3_peelOne_23 : decode cX3_peelOne 23 = .ok (.iload_n 3, 1) := by decide +kernel
theorem dX3_peelOne_24 : decode cX3_peelOne 24 = .ok (.iaload, 1) := by decide +kernel
theorem dX3_peelOne_25 : decode cX3_peelOne 25 = .ok (.ifCond .ne 35, 3) := by decide +kernel
theorem dX3_peelOne_28 : decode cX3_peelOne 28 = .ok (.aload_n 0, 1) := by decide +kernel
theorem dX3_peelOne_29 : decode cX3_peelOne 29 = .ok (.getfield 35, 3) := by decide +kernel
theorem dX3_peelOne_32 : decode cX3_peelOne 32 = .ok (.aload_n 0, 1) := by decide +kernel
theorem dX3_peelOne_33 : decode cX3_peelOne 33 = .ok (.getfield 16, 3) := by decide +kernel
theorem dX3_peelOne_36 : decode cX3_peelOne 36 = .ok (.iload_n 3, 1) := by decide +kernel
theorem dX3_peelOne_37 : decode cX3_peelOne 37 = .ok (.iaload, 1) := by decide +kernel
theorem dX3_peelOne_38 : decode cX3_peelOne 38 = .ok (.aload_n 0, 1) := by decide +kernel
theorem dX3_peelOne_39 : decode cX3_peelOne 39 = .ok (.getfield 20, 3) := by decide +kernel
theorem dX3_peelOne_42 : decode cX3_peelOne 42 = .ok (.iload_n 3, 1) := by decide +kernel
theorem dX3_peelOne_43 : decode cX3_peelOne 43 = .ok (.iaload, 1) := by decide +kernel
theorem dX3_peelOne_44 : decode cX3_peelOne 44 = .ok (.invokevirtual 169, 3) := by decide +kernel
theorem dX3_peelOne_47 : decode cX3_peelOne 47 = .ok (.ifCond .eq 13, 3) := by decide +kernel
theorem dX3_peelOne_50 : decode cX3_peelOne 50 = .ok (.aload_n 0, 1) := by decide +kernel
theorem dX3_peelOne_51 : decode cX3_peelOne 51 = .ok (.getfield 29, 3) := by decide +kernel
theorem dX3_peelOne_54 : decode cX3_peelOne 54 = .ok (.iload_n 3, 1) := by decide +kernel
theorem dX3_peelOne_55 : decode cX3_peelOne 55 = .ok (.iload_n 1, 1) := by decide +kernel
theorem dX3_peelOne_56 : decode cX3_peelOne 56 = .ok (.iastore, 1) := by decide +kernel
theorem dX3_peelOne_57 : decode cX3_peelOne 57 = .ok (.iinc 2 1, 3) := by decide +kernel
theorem dX3_peelOne_60 : decode cX3_peelOne 60 = .ok (.iinc 3 1, 3) := by decide +kernel
theorem dX3_peelOne_63 : decode cX3_peelOne 63 = .ok (.goto (-52), 3) := by decide +kernel
theorem dX3_peelOne_66 : decode cX3_peelOne 66 = .ok (.iload_n 2, 1) := by decide +kernel
theorem dX3_peelOne_67 : decode cX3_peelOne 67 = .ok (.ireturn, 1) := by decide +kernel
set_option maxRecDepth 20000 in
theorem ggX3_measure_X0_clear : GoodIn wsX3_measure wsX0_clear := goodIn_r _ [10, 11, 12, 13, 14, 15, 16, 17, 18, 19, 20, 21, 46, 47] (by decide +kernel) (by decide +kernel)
set_option maxRecDepth 20000 in
theorem gX3_measure_X0_clear : GoodIn wsX3_measure (wsV RX3 102 RX0 yX0_clear wsX0_clear) := goodIn_app (goodIn_of _ (by decide +kernel)) ggX3_measure_X0_clear
set_option maxRecDepth 20000 in
theorem ggX3_measure_X3_isIn : GoodIn wsX3_measure wsX3_isIn := goodIn_r _ [25] (by decide +kernel) (by decide +kernel)
set_option maxRecDepth 20000 in
theorem gX3_measure_X3_isIn : GoodIn wsX3_measure (va_wsS RX3 154 yX3_isIn wsX3_isIn) := goodIn_app (goodIn_of _ (by decide +kernel)) ggX3_measure_X3_isIn
set_option maxRecDepth 20000 in
theorem ggX3_measure_X0_add : GoodIn wsX3_measure wsX0_add := goodIn_r _ [29, 15, 16, 11, 12, 13, 14, 30, 31, 32, 9, 33, 46, 47] (by decide +kernel) (by decide +kernel)
set_option maxRecDepth 20000 in
theorem gX3_measure_X0_add : GoodIn wsX3_measure (wsV RX3 109 RX0 yX0_add wsX0_add) := goodIn_app (goodIn_of _ (by decide +kernel)) ggX3_measure_X0_add
theorem dX3_measure_0 : decode cX3_measure 0 = .ok (.aload_n 1, 1) := by decide +kernel
theorem dX3_measure_1 : decode cX3_measure 1 = .ok (.aload_n 0, 1) := by decide +kernel
theorem dX3_measure_2 : decode cX3_measure 2 = .ok (.getfield 9, 3) := by decide +kernel
theorem dX3_measure_5 : decode cX3_measure 5 = .ok (.invokevirtual 102, 3) := by decide +kernel
theorem dX3_measure_8 : decode cX3_measure 8 = .ok (.iconst 0, 1) := by decide +kernel
theorem dX3_measure_9 : decode cX3_measure 9 = .ok (.istore_n 3, 1) := by decide +kernel
theorem dX3_measure_10 : decode cX3_measure 10 = .ok (.iload_n 3, 1) := by decide +kernel
theorem dX3_measure_11 : decode cX3_measure 11 = .ok (.aload_n 0, 1) := by decide +kernel
theorem dX3_measure_12 : decode cX3_measure 12 = .ok (.getfield 13, 3) := by decide +kernel
theorem dX3_measure_15 : decode cX3_measure 15 = .ok (.if_icmp .ge 39, 3) := by decide +kernel
theorem dX3_measure_18 : decode cX3_measure 18 = .ok (.iload_n 2, 1) := by decide +kernel
theorem dX3_measure_19 : decode cX3_measure 19 = .ok (.iload_n 3, 1) := by decide +kernel
theorem dX3_measure_20 : decode cX3_measure 20 = .ok (.invokestatic 154, 3) := by decide +kernel
theorem dX3_measure_23 : decode cX3_measure 23 = .ok (.ifCond .eq 25, 3) := by decide +kernel
theorem dX3_measure_26 : decode cX3_measure 26 = .ok (.aload_n 1, 1) := by decide +kernel
theorem dX3_measure_27 : decode cX3_measure 27 = .ok (.aload_n 0, 1) := by decide +kernel
theorem dX3_measure_28 : decode cX3_measure 28 = .ok (.getfield 16, 3) := by decide +kernel
theorem dX3_measure_31 : decode cX3_measure 31 = .ok (.iload_n 3, 1) := by decide +kernel
theorem dX3_measure_32 : decode cX3_measure 32 = .ok (.iaload, 1) := by decide +kernel
theorem dX3_measure_33 : decode cX3_measure 33 = .ok (.aload_n 0, 1) := by decide +kernel
theorem dX3_measure_34 : decode cX3_measure 34 = .ok (.getfield 20, 3) := by decide +kernel
theorem dX3_measure_37 : decode cX3_measure 37 = .ok (.iload_n 3, 1) := by decide +kernel
theorem dX3_measure_38 : decode cX3_measure 38 = .ok (.iaload, 1) := by decide +kernel
theorem dX3_measure_39 : decode cX3_measure 39 = .ok (.aload_n 0, 1) := by decide +kernel
theorem dX3_measure_40 : decode cX3_measure 40 = .ok (.getfield 23, 3) := by decide +kernel
theorem dX3_measure_43 : decode cX3_measure 43 = .ok (.iload_n 3, 1) := by decide +kernel
theorem dX3_measure_44 : decode cX3_measure 44 = .ok (.iaload, 1) := by decide +kernel
theorem dX3_measure_45 : decode cX3_measure 45 = .ok (.invokevirtual 109, 3) := by decide +kernel
theorem dX3_measure_48 : decode cX3_measure 48 = .ok (.iinc 3 1, 3) := by decide +kernel
theorem dX3_measure_51 : decode cX3_measure 51 = .ok (.goto (-41), 3) := by decide +kernel
theorem dX3_measure_54 : decode cX3_measure 54 = .ok (.return_, 1) := by decide +kernel
set_option maxRecDepth 20000 in
theorem ggX3_measured_X3_linesOf : GoodIn wsX3_measured wsX3_linesOf := goodIn_r _ [7, 8, 9, 10, 11, 6, 12, 13, 14, 49, 50, 51, 52, 53, 54, 55, 56, 57, 58, 59, 60] (by decide +kernel) (by decide +kernel)
set_option maxRecDepth 20000 in
theorem gX3_measured_X3_linesOf : GoodIn wsX3_measured (wsV RX3 145 RX3 yX3_linesOf wsX3_linesOf) := goodIn_app (goodIn_of _ (by decide +kernel)) ggX3_measured_X3_linesOf
set_option maxRecDepth 20000 in
theorem ggX3_measured_X3_measure : GoodIn wsX3_measured wsX3_measure := goodIn_r _ [18, 19, 8, 20, 21, 13, 22, 23, 24, 25, 26, 27, 28, 29, 30, 31, 32, 33, 34, 35, 36, 37, 38, 39, 6, 40, 41, 42, 43, 44, 45, 46, 47, 48, 49, 50, 51, 52, 53, 54, 55, 56, 57, 58, 59, 60, 61, 62] (by decide +kernel) (by decide +kernel)
set_option maxRecDepth 20000 in
theorem gX3_measured_X3_measure : GoodIn wsX3_measured (wsV RX3 172 RX3 yX3_measure wsX3_measure) := goodIn_app (goodIn_of _ (by decide +kernel)) ggX3_measured_X3_measure
theorem dX3_measured_0 : decode cX3_measured 0 = .ok (.iload_n 1, 1) := by decide +kernel
theorem dX3_measured_1 : decode cX3_measured 1 = .ok (.ifCond .ne 10, 3) := by decide +kernel
theorem dX3_measured_4 : decode cX3_measured 4 = .ok (.aload_n 0, 1) := by decide +kernel
theorem dX3_measured_5 : decode cX3_measured 5 = .ok (.getfield 42, 3) := by decide +kernel
theorem dX3_measured_8 : decode cX3_measured 8 = .ok (.goto 7, 3) := by decide +kernel
theorem dX3_measured_11 : decode cX3_measured 11 = .ok (.aload_n 0, 1) := by decide +kernel
theorem dX3_measured_12 : decode cX3_measured 12 = .ok (.getfield 46, 3) := by decide +kernel
theorem dX3_measured_15 : decode cX3_measured 15 = .ok (.astore_n 2, 1) := by decide +kernel
theorem dX3_measured_16 : decode cX3_measured 16 = .ok (.aload_n 0, 1) := by decide +kernel
theorem dX3_measured_17 : decode cX3_measured 17 = .ok (.aload_n 2, 1) := by decide +kernel
theorem dX3_measured_18 : decode cX3_measured 18 = .ok (.aload_n 0, 1) := by decide +kernel
theorem dX3_measured_19 : decode cX3_measured 19 = .ok (.iload_n 1, 1) := by decide +kernel
theorem dX3_measured_20 : decode cX3_measured 20 = .ok (.invokevirtual 145, 3) := by decide +kernel
theorem dX3_measured_23 : decode cX3_measured 23 = .ok (.invokevirtual 172, 3) := by decide +kernel
theorem dX3_measured_26 : decode cX3_measured 26 = .ok (.aload_n 2, 1) := by decide +kernel
theorem dX3_measured_27 : decode cX3_measured 27 = .ok (.areturn, 1) := by decide +kernel
set_option maxRecDepth 20000 in
theorem ggX3_lengthBetweenEnds_X0_between : GoodIn wsX3_lengthBetweenEnds wsX0_between := goodIn_r _ [8, 9, 22, 23] (by decide +kernel) (by decide +kernel)
set_option maxRecDepth 20000 in
theorem gX3_lengthBetweenEnds_X0_between : GoodIn wsX3_lengthBetweenEnds (wsV RX3 125 RX0 yX0_between wsX0_between) := goodIn_app (goodIn_of _ (by decide +kernel)) ggX3_lengthBetweenEnds_X0_between
theorem dX3_lengthBetweenEnds_0 : decode cX3_lengthBetweenEnds 0 = .ok (.aload_n 0, 1) := by decide +kernel
theorem dX3_lengthBetweenEnds_1 : decode cX3_lengthBetweenEnds 1 = .ok (.getfield 46, 3) := by decide +kernel
theorem dX3_lengthBetweenEnds_4 : decode cX3_lengthBetweenEnds 4 = .ok (.aload_n 0, 1) := by decide +kernel
theorem dX3_lengthBetweenEnds_5 : decode cX3_lengthBetweenEnds 5 = .ok (.getfield 16, 3) := by decide +kernel
theorem dX3_lengthBetweenEnds_8 : decode cX3_lengthBetweenEnds 8 = .ok (.iload_n 1, 1) := by decide +kernel
theorem dX3_lengthBetweenEnds_9 : decode cX3_lengthBetweenEnds 9 = .ok (.iaload, 1) := by decide +kernel
theorem dX3_lengthBetweenEnds_10 : decode cX3_lengthBetweenEnds 10 = .ok (.aload_n 0, 1) := by decide +kernel
theorem dX3_lengthBetweenEnds_11 : decode cX3_lengthBetweenEnds 11 = .ok (.getfield 20, 3) := by decide +kernel
theorem dX3_lengthBetweenEnds_14 : decode cX3_lengthBetweenEnds 14 = .ok (.iload_n 1, 1) := by decide +kernel
theorem dX3_lengthBetweenEnds_15 : decode cX3_lengthBetweenEnds 15 = .ok (.iaload, 1) := by decide +kernel
theorem dX3_lengthBetweenEnds_16 : decode cX3_lengthBetweenEnds 16 = .ok (.invokevirtual 125, 3) := by decide +kernel
theorem dX3_lengthBetweenEnds_19 : decode cX3_lengthBetweenEnds 19 = .ok (.ireturn, 1) := by decide +kernel
set_option maxRecDepth 20000 in
theorem ggX3_forgetFewest_J7_fill_53178 : GoodIn wsX3_forgetFewest wsJ7_fill_53178 := goodIn_r _ [5] (by decide +kernel) (by decide +kernel)
set_option maxRecDepth 20000 in
theorem gX3_forgetFewest_J7_fill_53178 : GoodIn wsX3_forgetFewest (va_wsS RX3 158 yJ7_fill_53178 wsJ7_fill_53178) := goodIn_app (goodIn_of _ (by decide +kernel)) ggX3_forgetFewest_J7_fill_53178
theorem dX3_forgetFewest_0 : decode cX3_forgetFewest 0 = .ok (.aload_n 0, 1) := by decide +kernel
theorem dX3_forgetFewest_1 : decode cX3_forgetFewest 1 = .ok (.getfield 56, 3) := by decide +kernel
theorem dX3_forgetFewest_4 : decode cX3_forgetFewest 4 = .ok (.iconst (-1), 1) := by decide +kernel
theorem dX3_forgetFewest_5 : decode cX3_forgetFewest 5 = .ok (.invokestatic 158, 3) := by decide +kernel
theorem dX3_forgetFewest_8 : decode cX3_forgetFewest 8 = .ok (.return_, 1) := by decide +kernel
set_option maxRecDepth 20000 in
theorem ggX3_fewestSet_X3_linesOf : GoodIn wsX3_fewestSet wsX3_linesOf := goodIn_r _ [8, 3, 9, 10, 11, 7, 12, 13, 14, 90, 91, 92, 93, 94, 95, 96, 97, 98, 99, 100, 101] (by decide +kernel) (by decide +kernel)
set_option maxRecDepth 20000 in
theorem gX3_fewestSet_X3_linesOf : GoodIn wsX3_fewestSet (wsV RX3 145 RX3 yX3_linesOf wsX3_linesOf) := goodIn_app (goodIn_of _ (by decide +kernel)) ggX3_fewestSet_X3_linesOf
set_option maxRecDepth 20000 in
theorem ggX3_fewestSet_X3_measure : GoodIn wsX3_fewestSet wsX3_measure := goodIn_r _ [18, 19, 3, 20, 21, 13, 22, 23, 24, 25, 26, 27, 28, 29, 30, 31, 32, 33, 34, 35, 36, 37, 38, 39, 7, 40, 41, 42, 43, 44, 45, 46, 47, 48, 90, 91, 92, 93, 94, 95, 96, 97, 98, 99, 100, 101, 102, 103] (by decide +kernel) (by decide +kernel)
set_option maxRecDepth 20000 in
theorem gX3_fewestSet_X3_measure : GoodIn wsX3_fewestSet (wsV RX3 172 RX3 yX3_measure wsX3_measure) := goodIn_app (goodIn_of _ (by decide +kernel)) ggX3_fewestSet_X3_measure
set_option maxRecDepth 20000 in
theorem ggX3_fewestSet_X3_leastToJoin : GoodIn wsX3_fewestSet wsX3_leastToJoin := goodIn_r _ [52, 53, 54, 35, 36, 37, 55, 56, 57, 7, 58, 59, 3, 20, 21, 60, 61, 62, 63, 64, 65, 66, 67, 68, 69, 90, 91, 92, 93, 94, 95, 96, 97, 98, 99, 100, 101, 104] (by decide +kernel) (by decide +kernel)
set_option maxRecDepth 20000 in
theorem gX3_fewestSet_X3_leastToJoin : GoodIn wsX3_fewestSet (wsV RX3 176 RX3 yX3_leastToJoin wsX3_leastToJoin) := goodIn_app (goodIn_of _ (by decide +kernel)) ggX3_fewestSet_X3_leastToJoin
set_option maxRecDepth 20000 in
theorem ggX3_fewestSet_X3_fewestWithin : GoodIn wsX3_fewestSet wsX3_fewestWithin := goodIn_r _ [72, 73, 74, 29, 75, 76, 77, 78, 79, 80, 81, 82, 83, 84, 85, 7, 86, 87, 19, 2, 88, 15, 16, 17, 18, 3, 20, 21, 13, 22, 23, 24, 25, 26, 27, 28, 30, 31, 32, 33, 34, 35, 36, 37, 38, 39, 40, 41, 42, 43, 44, 45, 46, 47, 48, 89, 70, 71, 90, 91, 92, 93, 94, 95, 96, 97, 98, 99, 100, 101, 102, 103] (by decide +kernel) (by decide +kernel)
set_option maxRecDepth 20000 in
theorem gX3_fewestSet_X3_fewestWithin : GoodIn wsX3_fewestSet (va_wsS RX3 179 yX3_fewestWithin wsX3_fewestWithin) := goodIn_app (goodIn_of _ (by decide +kernel)) ggX3_fewestSet_X3_fewestWithin
theorem dX3_fewestSet_0 : decode cX3_fewestSet 0 = .ok (.aload_n 0, 1) := by decide +kernel
theorem dX3_fewestSet_1 : decode cX3_fewestSet 1 = .ok (.getfield 56, 3) := by decide +kernel
theorem dX3_fewestSet_4 : decode cX3_fewestSet 4 = .ok (.iload_n 1, 1) := by decide +kernel
theorem dX3_fewestSet_5 : decode cX3_fewestSet 5 = .ok (.iaload, 1) := by decide +kernel
theorem dX3_fewestSet_6 : decode cX3_fewestSet 6 = .ok (.iconst (-1), 1) := by decide +kernel
theorem dX3_fewestSet_7 : decode cX3_fewestSet 7 = .ok (.if_icmp .ne 39, 3) := by decide +kernel
theorem dX3_fewestSet_10 : decode cX3_fewestSet 10 = .ok (.aload_n 0, 1) := by decide +kernel
theorem dX3_fewestSet_11 : decode cX3_fewestSet 11 = .ok (.iconst 0, 1) := by decide +kernel
theorem dX3_fewestSet_12 : decode cX3_fewestSet 12 = .ok (.invokevirtual 145, 3) := by decide +kernel
theorem dX3_fewestSet_15 : decode cX3_fewestSet 15 = .ok (.istore_n 2, 1) := by decide +kernel
theorem dX3_fewestSet_16 : decode cX3_fewestSet 16 = .ok (.aload_n 0, 1) := by decide +kernel
theorem dX3_fewestSet_17 : decode cX3_fewestSet 17 = .ok (.aload_n 0, 1) := by decide +kernel
theorem dX3_fewestSet_18 : decode cX3_fewestSet 18 = .ok (.getfield 42, 3) := by decide +kernel
theorem dX3_fewestSet_21 : decode cX3_fewestSet 21 = .ok (.iload_n 2, 1) := by decide +kernel
theorem dX3_fewestSet_22 : decode cX3_fewestSet 22 = .ok (.invokevirtual 172, 3) := by decide +kernel
theorem dX3_fewestSet_25 : decode cX3_fewestSet 25 = .ok (.aload_n 0, 1) := by decide +kernel
theorem dX3_fewestSet_26 : decode cX3_fewestSet 26 = .ok (.getfield 56, 3) := by decide +kernel
theorem dX3_fewestSet_29 : decode cX3_fewestSet 29 = .ok (.iload_n 1, 1) := by decide +kernel
theorem dX3_fewestSet_30 : decode cX3_fewestSet 30 = .ok (.aload_n 0, 1) := by decide +kernel
theorem dX3_fewestSet_31 : decode cX3_fewestSet 31 = .ok (.iload_n 2, 1) := by decide +kernel
theorem dX3_fewestSet_32 : decode cX3_fewestSet 32 = .ok (.aload_n 0, 1) := by decide +kernel
theorem dX3_fewestSet_33 : decode cX3_fewestSet 33 = .ok (.getfield 13, 3) := by decide +kernel
theorem dX3_fewestSet_36 : decode cX3_fewestSet 36 = .ok (.iload_n 1, 1) := by decide +kernel
theorem dX3_fewestSet_37 : decode cX3_fewestSet 37 = .ok (.iload_n 2, 1) := by decide +kernel
theorem dX3_fewestSet_38 : decode cX3_fewestSet 38 = .ok (.aload_n 0, 1) := by decide +kernel
theorem dX3_fewestSet_39 : decode cX3_fewestSet 39 = .ok (.invokevirtual 176, 3) := by decide +kernel
theorem dX3_fewestSet_42 : decode cX3_fewestSet 42 = .ok (.invokestatic 179, 3) := by decide +kernel
theorem dX3_fewestSet_45 : decode cX3_fewestSet 45 = .ok (.iastore, 1) := by decide +kernel
theorem dX3_fewestSet_46 : decode cX3_fewestSet 46 = .ok (.aload_n 0, 1) := by decide +kernel
theorem dX3_fewestSet_47 : decode cX3_fewestSet 47 = .ok (.getfield 56, 3) := by decide +kernel
theorem dX3_fewestSet_50 : decode cX3_fewestSet 50 = .ok (.iload_n 1, 1) := by decide +kernel
theorem dX3_fewestSet_51 : decode cX3_fewestSet 51 = .ok (.iaload, 1) := by decide +kernel
theorem dX3_fewestSet_52 : decode cX3_fewestSet 52 = .ok (.ireturn, 1) := by decide +kernel
set_option maxRecDepth 20000 in
theorem ggX3_leastToJoin_J7_fill_53178 : GoodIn wsX3_leastToJoin wsJ7_fill_53178 := goodIn_r _ [5] (by decide +kernel) (by decide +kernel)
set_option maxRecDepth 20000 in
theorem gX3_leastToJoin_J7_fill_53178 : GoodIn wsX3_leastToJoin (va_wsS RX3 158 yJ7_fill_53178 wsJ7_fill_53178) := goodIn_app (goodIn_of _ (by decide +kernel)) ggX3_leastToJoin_J7_fill_53178
set_option maxRecDepth 20000 in
theorem ggX3_leastToJoin_X3_peelOne : GoodIn wsX3_leastToJoin wsX3_peelOne := goodIn_r _ [10, 11, 12, 1, 13, 14, 15, 16, 17, 18, 19, 20, 21, 22, 23, 24, 25, 26, 27, 28, 29, 30, 31, 32, 33, 34, 35, 36, 37] (by decide +kernel) (by decide +kernel)
set_option maxRecDepth 20000 in
theorem gX3_leastToJoin_X3_peelOne : GoodIn wsX3_leastToJoin (wsV RX3 164 RX3 yX3_peelOne wsX3_peelOne) := goodIn_app (goodIn_of _ (by decide +kernel)) ggX3_leastToJoin_X3_peelOne
theorem dX3_leastToJoin_0 : decode cX3_leastToJoin 0 = .ok (.aload_n 0, 1) := by decide +kernel
theorem dX3_leastToJoin_1 : decode cX3_leastToJoin 1 = .ok (.getfield 29, 3) := by decide +kernel
theorem dX3_leastToJoin_4 : decode cX3_leastToJoin 4 = .ok (.iconst 0, 1) := by decide +kernel
theorem dX3_leastToJoin_5 : decode cX3_leastToJoin 5 = .ok (.invokestatic 158, 3) := by decide +kernel
theorem dX3_leastToJoin_8 : decode cX3_leastToJoin 8 = .ok (.aload_n 0, 1) := by decide +kernel
theorem dX3_leastToJoin_9 : decode cX3_leastToJoin 9 = .ok (.iconst 1, 1) := by decide +kernel
theorem dX3_leastToJoin_10 : decode cX3_leastToJoin 10 = .ok (.invokevirtual 164, 3) := by decide +kernel
theorem dX3_leastToJoin_13 : decode cX3_leastToJoin 13 = .ok (.ireturn, 1) := by decide +kernel
set_option maxRecDepth 20000 in
theorem ggX3_fewestWithin_J6_bitCount_0f7a4 : GoodIn wsX3_fewestWithin wsJ6_bitCount_0f7a4 := goodIn_r _ [8, 9, 10, 11] (by decide +kernel) (by decide +kernel)
set_option maxRecDepth 20000 in
theorem gX3_fewestWithin_J6_bitCount_0f7a4 : GoodIn wsX3_fewestWithin (va_wsS RX3 116 yJ6_bitCount_0f7a4 wsJ6_bitCount_0f7a4) := goodIn_app (goodIn_of _ (by decide +kernel)) ggX3_fewestWithin_J6_bitCount_0f7a4
set_option maxRecDepth 20000 in
theorem ggX3_fewestWithin_X3_isWithinStretch : GoodIn wsX3_fewestWithin wsX3_isWithinStretch := goodIn_r _ [16, 17, 18, 19, 20, 21, 22, 23, 15, 24, 25, 26, 27, 28, 29, 30, 31, 32, 33, 34, 35, 3, 36, 37, 38, 39, 40, 41, 42, 43, 44, 45, 46, 47, 48, 49, 50, 51, 52, 53, 54, 55, 58, 59, 60, 61, 62, 63, 64, 65, 66, 67, 68, 69, 70, 71] (by decide +kernel) (by decide +kernel)
set_option maxRecDepth 20000 in
theorem gX3_fewestWithin_X3_isWithinStretch : GoodIn wsX3_fewestWithin (wsV RX3 183 RX3 yX3_isWithinStretch wsX3_isWithinStretch) := goodIn_app (goodIn_of _ (by decide +kernel)) ggX3_fewestWithin_X3_isWithinStretch
set_option maxRecDepth 20000 in
theorem ggX3_fewestWithin_X3_fewestWithin : GoodIn wsX3_fewestWithin wsX3_fewestWithin := goodIn_r _ [0, 1, 2, 3, 4, 5, 6, 7, 8, 9, 10, 11, 12, 13, 14, 15, 16, 17, 18, 19, 20, 21, 22, 23, 24, 25, 26, 27, 28, 29, 30, 31, 32, 33, 34, 35, 36, 37, 38, 39, 40, 41, 42, 43, 44, 45, 46, 47, 48, 49, 50, 51, 52, 53, 54, 55, 56, 57, 58, 59, 60, 61, 62, 63, 64, 65, 66, 67, 68, 69, 70, 71] (by decide +kernel) (by decide +kernel)
set_option maxRecDepth 20000 in
theorem gX3_fewestWithin_X3_fewestWithin : GoodIn wsX3_fewestWithin (va_wsS RX3 179 yX3_fewestWithin wsX3_fewestWithin) := goodIn_app (goodIn_of _ (by decide +kernel)) ggX3_fewestWithin_X3_fewestWithin
theorem dX3_fewestWithin_0 : decode cX3_fewestWithin 0 = .ok (.iload_n 1, 1) := by decide +kernel
theorem dX3_fewestWithin_1 : decode cX3_fewestWithin 1 = .ok (.iload_n 2, 1) := by decide +kernel
theorem dX3_fewestWithin_2 : decode cX3_fewestWithin 2 = .ok (.ishr, 1) := by decide +kernel
theorem dX3_fewestWithin_3 : decode cX3_fewestWithin 3 = .ok (.invokestatic 116, 3) := by decide +kernel
theorem dX3_fewestWithin_6 : decode cX3_fewestWithin 6 = .ok (.iload 5, 2) := by decide +kernel
theorem dX3_fewestWithin_8 : decode cX3_fewestWithin 8 = .ok (.invokestatic 76, 3) := by decide +kernel
theorem dX3_fewestWithin_11 : decode cX3_fewestWithin 11 = .ok (.istore 6, 2) := by decide +kernel
theorem dX3_fewestWithin_13 : decode cX3_fewestWithin 13 = .ok (.iload 6, 2) := by decide +kernel
theorem dX3_fewestWithin_15 : decode cX3_fewestWithin 15 = .ok (.iload 4, 2) := by decide +kernel
theorem dX3_fewestWithin_17 : decode cX3_fewestWithin 17 = .ok (.invokestatic 116, 3) := by decide +kernel
theorem dX3_fewestWithin_20 : decode cX3_fewestWithin 20 = .ok (.if_icmp .lt 6, 3) := by decide +kernel
theorem dX3_fewestWithin_23 : decode cX3_fewestWithin 23 = .ok (.iload 4, 2) := by decide +kernel
theorem dX3_fewestWithin_25 : decode cX3_fewestWithin 25 = .ok (.ireturn, 1) := by decide +kernel
theorem dX3_fewestWithin_26 : decode cX3_fewestWithin 26 = .ok (.iload_n 2, 1) := by decide +kernel
theorem dX3_fewestWithin_27 : decode cX3_fewestWithin 27 = .ok (.ifCond .gt 5, 3) := by decide +kernel
theorem dX3_fewestWithin_30 : decode cX3_fewestWithin 30 = .ok (.iload_n 1, 1) := by decide +kernel
theorem dX3_fewestWithin_31 : decode cX3_fewestWithin 31 = .ok (.ireturn, 1) := by decide +kernel
theorem dX3_fewestWithin_32 : decode cX3_fewestWithin 32 = .ok (.iload_n 2, 1) := by decide +kernel
theorem dX3_fewestWithin_33 : decode cX3_fewestWithin 33 = .ok (.iconst 1, 1) := by decide +kernel
theorem dX3_fewestWithin_34 : decode cX3_fewestWithin 34 = .ok (.isub, 1) := by decide +kernel
theorem dX3_fewestWithin_35 : decode cX3_fewestWithin 35 = .ok (.istore 7, 2) := by decide +kernel
theorem dX3_fewestWithin_37 : decode cX3_fewestWithin 37 = .ok (.iload_n 1, 1) := by decide +kernel
theorem dX3_fewestWithin_38 : decode cX3_fewestWithin 38 = .ok (.iconst 1, 1) := by decide +kernel
theorem dX3_fewestWithin_39 : decode cX3_fewestWithin 39 = .ok (.iload 7, 2) := by decide +kernel
theorem dX3_fewestWithin_41 : decode cX3_fewestWithin 41 = .ok (.ishl, 1) := by decide +kernel
theorem dX3_fewestWithin_42 : decode cX3_fewestWithin 42 = .ok (.iconst (-1), 1) := by decide +kernel
theorem dX3_fewestWithin_43 : decode cX3_fewestWithin 43 = .ok (.ixor, 1) := by decide +kernel
theorem dX3_fewestWithin_44 : decode cX3_fewestWithin 44 = .ok (.iand, 1) := by decide +kernel
theorem dX3_fewestWithin_45 : decode cX3_fewestWithin 45 = .ok (.istore 8, 2) := by decide +kernel
theorem dX3_fewestWithin_47 : decode cX3_fewestWithin 47 = .ok (.iload 4, 2) := by decide +kernel
theorem dX3_fewestWithin_49 : decode cX3_fewestWithin 49 = .ok (.istore 9, 2) := by decide +kernel
theorem dX3_fewestWithin_51 : decode cX3_fewestWithin 51 = .ok (.aload_n 0, 1) := by decide +kernel
theorem dX3_fewestWithin_52 : decode cX3_fewestWithin 52 = .ok (.iload 8, 2) := by decide +kernel
theorem dX3_fewestWithin_54 : decode cX3_fewestWithin 54 = .ok (.iload_n 3, 1) := by decide +kernel
theorem dX3_fewestWithin_55 : decode cX3_fewestWithin 55 = .ok (.invokevirtual 183, 3) := by decide +kernel
theorem dX3_fewestWithin_58 : decode cX3_fewestWithin 58 = .ok (.ifCond .eq 18, 3) := by decide +kernel
theorem dX3_fewestWithin_61 : decode cX3_fewestWithin 61 = .ok (.aload_n 0, 1) := by decide +kernel
theorem dX3_fewestWithin_62 : decode cX3_fewestWithin 62 = .ok (.iload 8, 2) := by decide +kernel
theorem dX3_fewestWithin_64 : decode cX3_fewestWithin 64 = .ok (.iload 7, 2) := by decide +kernel
theorem dX3_fewestWithin_66 : decode cX3_fewestWithin 66 = .ok (.iload_n 3, 1) := by decide +kernel
theorem dX3_fewestWithin_67 : decode cX3_fewestWithin 67 = .ok (.iload 9, 2) := by decide +kernel
theorem dX3_fewestWithin_69 : decode cX3_fewestWithin 69 = .ok (.iload 5, 2) := by decide +kernel
theorem dX3_fewestWithin_71 : decode cX3_fewestWithin 71 = .ok (.invokestatic 179, 3) := by decide +kernel
theorem dX3_fewestWithin_74 : decode cX3_fewestWithin 74 = .ok (.istore 9, 2) := by decide +kernel
theorem dX3_fewestWithin_76 : decode cX3_fewestWithin 76 = .ok (.aload_n 0, 1) := by decide +kernel
theorem dX3_fewestWithin_77 : decode cX3_fewestWithin 77 = .ok (.iload_n 1, 1) := by decide +kernel
theorem dX3_fewestWithin_78 : decode cX3_fewestWithin 78 = .ok (.iload 7, 2) := by decide +kernel
theorem dX3_fewestWithin_80 : decode cX3_fewestWithin 80 = .ok (.iload_n 3, 1) := by decide +kernel
theorem dX3_fewestWithin_81 : decode cX3_fewestWithin 81 = .ok (.iload 9, 2) := by decide +kernel
theorem dX3_fewestWithin_83 : decode cX3_fewestWithin 83 = .ok (.iload 5, 2) := by decide +kernel
theorem dX3_fewestWithin_85 : decode cX3_fewestWithin 85 = .ok (.invokestatic 179, 3) := by decide +kernel
theorem dX3_fewestWithin_88 : decode cX3_fewestWithin 88 = .ok (.ireturn, 1) := by decide +kernel
set_option maxRecDepth 20000 in
theorem ggX3_isWithinStretch_X3_measure : GoodIn wsX3_isWithinStretch wsX3_measure := goodIn_r _ [9, 2, 10, 11, 12, 13, 14, 15, 16, 17, 18, 19, 20, 21, 22, 23, 24, 25, 26, 27, 28, 29, 30, 31, 8, 32, 33, 34, 35, 36, 37, 38, 39, 40, 42, 43, 44, 45, 46, 47, 48, 49, 50, 51, 52, 53, 54, 55] (by decide +kernel) (by decide +kernel)
set_option maxRecDepth 20000 in
theorem gX3_isWithinStretch_X3_measure : GoodIn wsX3_isWithinStretch (wsV RX3 172 RX3 yX3_measure wsX3_measure) := goodIn_app (goodIn_of _ (by decide +kernel)) ggX3_isWithinStretch_X3_measure
set_option maxRecDepth 20000 in
theorem ggX3_isWithinStretch_X0_between : GoodIn wsX3_isWithinStretch wsX0_between := goodIn_r _ [40, 24, 54, 55] (by decide +kernel) (by decide +kernel)
set_option maxRecDepth 20000 in
theorem gX3_isWithinStretch_X0_between : GoodIn wsX3_isWithinStretch (wsV RX3 125 RX0 yX0_between wsX0_between) := goodIn_app (goodIn_of _ (by decide +kernel)) ggX3_isWithinStretch_X0_between
theorem dX3_isWithinStretch_0 : decode cX3_isWithinStretch 0 = .ok (.aload_n 0, 1) := by decide +kernel
theorem dX3_isWithinStretch_1 : decode cX3_isWithinStretch 1 = .ok (.aload_n 0, 1) := by decide +kernel
theorem dX3_isWithinStretch_2 : decode cX3_isWithinStretch 2 = .ok (.getfield 46, 3) := by decide +kernel
theorem dX3_isWithinStretch_5 : decode cX3_isWithinStretch 5 = .ok (.iload_n 1, 1) := by decide +kernel
theorem dX3_isWithinStretch_6 : decode cX3_isWithinStretch 6 = .ok (.invokevirtual 172, 3) := by decide +kernel
theorem dX3_isWithinStretch_9 : decode cX3_isWithinStretch 9 = .ok (.iconst 0, 1) := by decide +kernel
theorem dX3_isWithinStretch_10 : decode cX3_isWithinStretch 10 = .ok (.istore_n 3, 1) := by decide +kernel
theorem dX3_isWithinStretch_11 : decode cX3_isWithinStretch 11 = .ok (.iload_n 3, 1) := by decide +kernel
theorem dX3_isWithinStretch_12 : decode cX3_isWithinStretch 12 = .ok (.aload_n 0, 1) := by decide +kernel
theorem dX3_isWithinStretch_13 : decode cX3_isWithinStretch 13 = .ok (.getfield 9, 3) := by decide +kernel
theorem dX3_isWithinStretch_16 : decode cX3_isWithinStretch 16 = .ok (.if_icmp .ge 67, 3) := by decide +kernel
theorem dX3_isWithinStretch_19 : decode cX3_isWithinStretch 19 = .ok (.iload_n 3, 1) := by decide +kernel
theorem dX3_isWithinStretch_20 : decode cX3_isWithinStretch 20 = .ok (.iconst 1, 1) := by decide +kernel
theorem dX3_isWithinStretch_21 : decode cX3_isWithinStretch 21 = .ok (.iadd, 1) := by decide +kernel
theorem dX3_isWithinStretch_22 : decode cX3_isWithinStretch 22 = .ok (.istore 4, 2) := by decide +kernel
theorem dX3_isWithinStretch_24 : decode cX3_isWithinStretch 24 = .ok (.iload 4, 2) := by decide +kernel
theorem dX3_isWithinStretch_26 : decode cX3_isWithinStretch 26 = .ok (.aload_n 0, 1) := by decide +kernel
theorem dX3_isWithinStretch_27 : decode cX3_isWithinStretch 27 = .ok (.getfield 9, 3) := by decide +kernel
theorem dX3_isWithinStretch_30 : decode cX3_isWithinStretch 30 = .ok (.if_icmp .ge 47, 3) := by decide +kernel
theorem dX3_isWithinStretch_33 : decode cX3_isWithinStretch 33 = .ok (.aload_n 0, 1) := by decide +kernel
theorem dX3_isWithinStretch_34 : decode cX3_isWithinStretch 34 = .ok (.getfield 42, 3) := by decide +kernel
theorem dX3_isWithinStretch_37 : decode cX3_isWithinStretch 37 = .ok (.iload_n 3, 1) := by decide +kernel
theorem dX3_isWithinStretch_38 : decode cX3_isWithinStretch 38 = .ok (.iload 4, 2) := by decide +kernel
theorem dX3_isWithinStretch_40 : decode cX3_isWithinStretch 40 = .ok (.invokevirtual 125, 3) := by decide +kernel
theorem dX3_isWithinStretch_43 : decode cX3_isWithinStretch 43 = .ok (.istore 5, 2) := by decide +kernel
theorem dX3_isWithinStretch_45 : decode cX3_isWithinStretch 45 = .ok (.iload 5, 2) := by decide +kernel
theorem dX3_isWithinStretch_47 : decode cX3_isWithinStretch 47 = .ok (.ldc 128, 2) := by decide +kernel
theorem dX3_isWithinStretch_49 : decode cX3_isWithinStretch 49 = .ok (.if_icmp .ge 22, 3) := by decide +kernel
theorem dX3_isWithinStretch_52 : decode cX3_isWithinStretch 52 = .ok (.aload_n 0, 1) := by decide +kernel
theorem dX3_isWithinStretch_53 : decode cX3_isWithinStretch 53 = .ok (.getfield 46, 3) := by decide +kernel
theorem dX3_isWithinStretch_56 : decode cX3_isWithinStretch 56 = .ok (.iload_n 3, 1) := by decide +kernel
theorem dX3_isWithinStretch_57 : decode cX3_isWithinStretch 57 = .ok (.iload 4, 2) := by decide +kernel
theorem dX3_isWithinStretch_59 : decode cX3_isWithinStretch 59 = .ok (.invokevirtual 125, 3) := by decide +kernel
theorem dX3_isWithinStretch_62 : decode cX3_isWithinStretch 62 = .ok (.iload_n 2, 1) := by decide +kernel
theorem dX3_isWithinStretch_63 : decode cX3_isWithinStretch 63 = .ok (.iload 5, 2) := by decide +kernel
theorem dX3_isWithinStretch_65 : decode cX3_isWithinStretch 65 = .ok (.imul, 1) := by decide +kernel
theorem dX3_isWithinStretch_66 : decode cX3_isWithinStretch 66 = .ok (.if_icmp .le 5, 3) := by decide +kernel
theorem dX3_isWithinStretch_69 : decode cX3_isWithinStretch 69 = .ok (.iconst 0, 1) := by decide +kernel
theorem dX3_isWithinStretch_70 : decode cX3_isWithinStretch 70 = .ok (.ireturn, 1) := by decide +kernel
theorem dX3_isWithinStretch_71 : decode cX3_isWithinStretch 71 = .ok (.iinc 4 1, 3) := by decide +kernel
theorem dX3_isWithinStretch_74 : decode cX3_isWithinStretch 74 = .ok (.goto (-50), 3) := by decide +kernel
theorem dX3_isWithinStretch_77 : decode cX3_isWithinStretch 77 = .ok (.iinc 3 1, 3) := by decide +kernel
theorem dX3_isWithinStretch_80 : decode cX3_isWithinStretch 80 = .ok (.goto (-69), 3) := by decide +kernel
theorem dX3_isWithinStretch_83 : decode cX3_isWithinStretch 83 = .ok (.iconst 1, 1) := by decide +kernel
theorem dX3_isWithinStretch_84 : decode cX3_isWithinStretch 84 = .ok (.ireturn, 1) := by decide +kernel
set_option maxRecDepth 20000 in
theorem ggX3_treeProducts_X3_fillMinors : GoodIn wsX3_treeProducts wsX3_fillMinors := goodIn_r _ [6, 1, 7, 8, 9, 10, 11, 12, 13, 14, 15, 16, 17, 18, 19, 20, 21, 22, 23, 24, 25, 26, 27, 28, 5, 29, 30, 31, 32, 33, 34, 35, 59, 60, 61, 62, 63, 64, 65, 66, 67, 68, 69, 70, 71, 72, 73, 74] (by decide +kernel) (by decide +kernel)
set_option maxRecDepth 20000 in
theorem gX3_treeProducts_X3_fillMinors : GoodIn wsX3_treeProducts (wsV RX3 186 RX3 yX3_fillMinors wsX3_fillMinors) := goodIn_app (goodIn_of _ (by decide +kernel)) ggX3_treeProducts_X3_fillMinors
set_option maxRecDepth 20000 in
theorem ggX3_treeProducts_X1_without : GoodIn wsX3_treeProducts wsX1_without := goodIn_r _ [39, 40, 41, 42, 43, 14, 44, 20, 45, 46, 5, 47, 48, 49, 50, 51, 21, 52, 53, 54, 55, 56, 57, 58, 71, 72, 73, 74] (by decide +kernel) (by decide +kernel)
set_option maxRecDepth 20000 in
theorem gX3_treeProducts_X1_without : GoodIn wsX3_treeProducts (wsV RX3 189 RX1 yX1_without wsX1_without) := goodIn_app (goodIn_of _ (by decide +kernel)) ggX3_treeProducts_X1_without
theorem dX3_treeProducts_0 : decode cX3_treeProducts 0 = .ok (.aload_n 0, 1) := by decide +kernel
theorem dX3_treeProducts_1 : decode cX3_treeProducts 1 = .ok (.iload_n 1, 1) := by decide +kernel
theorem dX3_treeProducts_2 : decode cX3_treeProducts 2 = .ok (.invokevirtual 186, 3) := by decide +kernel
theorem dX3_treeProducts_5 : decode cX3_treeProducts 5 = .ok (.aload_n 0, 1) := by decide +kernel
theorem dX3_treeProducts_6 : decode cX3_treeProducts 6 = .ok (.getfield 52, 3) := by decide +kernel
theorem dX3_treeProducts_9 : decode cX3_treeProducts 9 = .ok (.iconst 1, 1) := by decide +kernel
theorem dX3_treeProducts_10 : decode cX3_treeProducts 10 = .ok (.invokevirtual 189, 3) := by decide +kernel
theorem dX3_treeProducts_13 : decode cX3_treeProducts 13 = .ok (.lreturn, 1) := by decide +kernel
set_option maxRecDepth 20000 in
theorem ggX3_partingProducts_X3_fillMinors : GoodIn wsX3_partingProducts wsX3_fillMinors := goodIn_r _ [6, 1, 7, 8, 9, 10, 11, 12, 13, 14, 15, 16, 17, 18, 19, 20, 21, 22, 23, 24, 25, 26, 27, 28, 5, 29, 30, 31, 32, 33, 34, 35, 59, 60, 61, 62, 63, 64, 65, 66, 67, 68, 69, 70, 71, 72, 73, 74] (by decide +kernel) (by decide +kernel)
set_option maxRecDepth 20000 in
theorem gX3_partingProducts_X3_fillMinors : GoodIn wsX3_partingProducts (wsV RX3 186 RX3 yX3_fillMinors wsX3_fillMinors) := goodIn_app (goodIn_of _ (by decide +kernel)) ggX3_partingProducts_X3_fillMinors
set_option maxRecDepth 20000 in
theorem ggX3_partingProducts_X1_without : GoodIn wsX3_partingProducts wsX1_without := goodIn_r _ [39, 40, 41, 42, 43, 14, 44, 20, 45, 46, 5, 47, 48, 49, 50, 51, 21, 52, 53, 54, 55, 56, 57, 58, 71, 72, 73, 74] (by decide +kernel) (by decide +kernel)
set_option maxRecDepth 20000 in
theorem gX3_partingProducts_X1_without : GoodIn wsX3_partingProducts (wsV RX3 189 RX1 yX1_without wsX1_without) := goodIn_app (goodIn_of _ (by decide +kernel)) ggX3_partingProducts_X1_without
theorem dX3_partingProducts_0 : decode cX3_partingProducts 0 = .ok (.aload_n 0, 1) := by decide +kernel
theorem dX3_partingProducts_1 : decode cX3_partingProducts 1 = .ok (.iload_n 3, 1) := by decide +kernel
theorem dX3_partingProducts_2 : decode cX3_partingProducts 2 = .ok (.invokevirtual 186, 3) := by decide +kernel
theorem dX3_partingProducts_5 : decode cX3_partingProducts 5 = .ok (.aload_n 0, 1) := by decide +kernel
theorem dX3_partingProducts_6 : decode cX3_partingProducts 6 = .ok (.getfield 52, 3) := by decide +kernel
theorem dX3_partingProducts_9 : decode cX3_partingProducts 9 = .ok (.iconst 1, 1) := by decide +kernel
theorem dX3_partingProducts_10 : decode cX3_partingProducts 10 = .ok (.iload_n 1, 1) := by decide +kernel
theorem dX3_partingProducts_11 : decode cX3_partingProducts 11 = .ok (.ishl, 1) := by decide +kernel
theorem dX3_partingProducts_12 : decode cX3_partingProducts 12 = .ok (.iconst 1, 1) := by decide +kernel
theorem dX3_partingProducts_13 : decode cX3_partingProducts 13 = .ok (.iload_n 2, 1) := by decide +kernel
theorem dX3_partingProducts_14 : decode cX3_partingProducts 14 = .ok (.ishl, 1) := by decide +kernel
theorem dX3_partingProducts_15 : decode cX3_partingProducts 15 = .ok (.ior, 1) := by decide +kernel
theorem dX3_partingProducts_16 : decode cX3_partingProducts 16 = .ok (.invokevirtual 189, 3) := by decide +kernel
theorem dX3_partingProducts_19 : decode cX3_partingProducts 19 = .ok (.lreturn, 1) := by decide +kernel
set_option maxRecDepth 20000 in
theorem ggX3_fillMinors_X1_clear : GoodIn wsX3_fillMinors wsX1_clear := goodIn_r _ [10, 11, 12, 13, 14, 15, 16, 17, 18, 19, 20, 44, 45, 46, 47] (by decide +kernel) (by decide +kernel)
set_option maxRecDepth 20000 in
theorem gX3_fillMinors_X1_clear : GoodIn wsX3_fillMinors (wsV RX3 192 RX1 yX1_clear wsX1_clear) := goodIn_app (goodIn_of _ (by decide +kernel)) ggX3_fillMinors_X1_clear
set_option maxRecDepth 20000 in
theorem ggX3_fillMinors_X3_weightIn : GoodIn wsX3_fillMinors wsX3_weightIn := goodIn_r _ [25, 26, 27, 32, 33, 34, 35, 36, 37, 38, 39, 40, 41, 42, 43] (by decide +kernel) (by decide +kernel)
set_option maxRecDepth 20000 in
theorem gX3_fillMinors_X3_weightIn : GoodIn wsX3_fillMinors (wsV RX3 151 RX3 yX3_weightIn wsX3_weightIn) := goodIn_app (goodIn_of _ (by decide +kernel)) ggX3_fillMinors_X3_weightIn
set_option maxRecDepth 20000 in
theorem ggX3_fillMinors_X1_add : GoodIn wsX3_fillMinors wsX1_add := goodIn_r _ [31, 16, 44, 45, 46, 47] (by decide +kernel) (by decide +kernel)
set_option maxRecDepth 20000 in
theorem gX3_fillMinors_X1_add : GoodIn wsX3_fillMinors (wsV RX3 193 RX1 yX1_add wsX1_add) := goodIn_app (goodIn_of _ (by decide +kernel)) ggX3_fillMinors_X1_add
theorem dX3_fillMinors_0 : decode cX3_fillMinors 0 = .ok (.aload_n 0, 1) := by decide +kernel
theorem dX3_fillMinors_1 : decode cX3_fillMinors 1 = .ok (.getfield 52, 3) := by decide +kernel
theorem dX3_fillMinors_4 : decode cX3_fillMinors 4 = .ok (.aload_n 0, 1) := by decide +kernel
theorem dX3_fillMinors_5 : decode cX3_fillMinors 5 = .ok (.getfield 9, 3) := by decide +kernel
theorem dX3_fillMinors_8 : decode cX3_fillMinors 8 = .ok (.invokevirtual 192, 3) := by decide +kernel
theorem dX3_fillMinors_11 : decode cX3_fillMinors 11 = .ok (.iconst 0, 1) := by decide +kernel
theorem dX3_fillMinors_12 : decode cX3_fillMinors 12 = .ok (.istore_n 2, 1) := by decide +kernel
theorem dX3_fillMinors_13 : decode cX3_fillMinors 13 = .ok (.iload_n 2, 1) := by decide +kernel
theorem dX3_fillMinors_14 : decode cX3_fillMinors 14 = .ok (.aload_n 0, 1) := by decide +kernel
theorem dX3_fillMinors_15 : decode cX3_fillMinors 15 = .ok (.getfield 13, 3) := by decide +kernel
theorem dX3_fillMinors_18 : decode cX3_fillMinors 18 = .ok (.if_icmp .ge 34, 3) := by decide +kernel
theorem dX3_fillMinors_21 : decode cX3_fillMinors 21 = .ok (.aload_n 0, 1) := by decide +kernel
theorem dX3_fillMinors_22 : decode cX3_fillMinors 22 = .ok (.getfield 52, 3) := by decide +kernel
theorem dX3_fillMinors_25 : decode cX3_fillMinors 25 = .ok (.aload_n 0, 1) := by decide +kernel
theorem dX3_fillMinors_26 : decode cX3_fillMinors 26 = .ok (.getfield 16, 3) := by decide +kernel
theorem dX3_fillMinors_29 : decode cX3_fillMinors 29 = .ok (.iload_n 2, 1) := by decide +kernel
theorem dX3_fillMinors_30 : decode cX3_fillMinors 30 = .ok (.iaload, 1) := by decide +kernel
theorem dX3_fillMinors_31 : decode cX3_fillMinors 31 = .ok (.aload_n 0, 1) := by decide +kernel
theorem dX3_fillMinors_32 : decode cX3_fillMinors 32 = .ok (.getfield 20, 3) := by decide +kernel
theorem dX3_fillMinors_35 : decode cX3_fillMinors 35 = .ok (.iload_n 2, 1) := by decide +kernel
theorem dX3_fillMinors_36 : decode cX3_fillMinors 36 = .ok (.iaload, 1) := by decide +kernel
theorem dX3_fillMinors_37 : decode cX3_fillMinors 37 = .ok (.aload_n 0, 1) := by decide +kernel
theorem dX3_fillMinors_38 : decode cX3_fillMinors 38 = .ok (.iload_n 2, 1) := by decide +kernel
theorem dX3_fillMinors_39 : decode cX3_fillMinors 39 = .ok (.iload_n 1, 1) := by decide +kernel
theorem dX3_fillMinors_40 : decode cX3_fillMinors 40 = .ok (.invokevirtual 151, 3) := by decide +kernel
theorem dX3_fillMinors_43 : decode cX3_fillMinors 43 = .ok (.invokevirtual 193, 3) := by decide +kernel
theorem dX3_fillMinors_46 : decode cX3_fillMinors 46 = .ok (.iinc 2 1, 3) := by decide +kernel
theorem dX3_fillMinors_49 : decode cX3_fillMinors 49 = .ok (.goto (-36), 3) := by decide +kernel
theorem dX3_fillMinors_52 : decode cX3_fillMinors 52 = .ok (.return_, 1) := by decide +kernel
set_option maxRecDepth 20000 in
theorem ggX3_inLowestTerms_X3_commonDivisor : GoodIn wsX3_inLowestTerms wsX3_commonDivisor := goodIn_r _ [5] (by decide +kernel) (by decide +kernel)
set_option maxRecDepth 20000 in
theorem gX3_inLowestTerms_X3_commonDivisor : GoodIn wsX3_inLowestTerms (va_wsS RX3 194 yX3_commonDivisor wsX3_commonDivisor) := goodIn_app (goodIn_of _ (by decide +kernel)) ggX3_inLowestTerms_X3_commonDivisor
theorem dX3_inLowestTerms_0 : decode cX3_inLowestTerms 0 = .ok (.lload_n 0, 1) := by decide +kernel
theorem dX3_inLowestTerms_1 : decode cX3_inLowestTerms 1 = .ok (.lload_n 2, 1) := by decide +kernel
theorem dX3_inLowestTerms_2 : decode cX3_inLowestTerms 2 = .ok (.invokestatic 194, 3) := by decide +kernel
theorem dX3_inLowestTerms_5 : decode cX3_inLowestTerms 5 = .ok (.lstore 5, 2) := by decide +kernel
theorem dX3_inLowestTerms_7 : decode cX3_inLowestTerms 7 = .ok (.lload_n 2, 1) := by decide +kernel
theorem dX3_inLowestTerms_8 : decode cX3_inLowestTerms 8 = .ok (.lconst 0, 1) := by decide +kernel
theorem dX3_inLowestTerms_9 : decode cX3_inLowestTerms 9 = .ok (.lcmp, 1) := by decide +kernel
theorem dX3_inLowestTerms_10 : decode cX3_inLowestTerms 10 = .ok (.ifCond .eq 10, 3) := by decide +kernel
theorem dX3_inLowestTerms_13 : decode cX3_inLowestTerms 13 = .ok (.lload 5, 2) := by decide +kernel
theorem dX3_inLowestTerms_15 : decode cX3_inLowestTerms 15 = .ok (.lconst 0, 1) := by decide +kernel
theorem dX3_inLowestTerms_16 : decode cX3_inLowestTerms 16 = .ok (.lcmp, 1) := by decide +kernel
theorem dX3_inLowestTerms_17 : decode cX3_inLowestTerms 17 = .ok (.ifCond .ne 7, 3) := by decide +kernel
theorem dX3_inLowestTerms_20 : decode cX3_inLowestTerms 20 = .ok (.ldc2_w 198, 3) := by decide +kernel
theorem dX3_inLowestTerms_23 : decode cX3_inLowestTerms 23 = .ok (.lreturn, 1) := by decide +kernel
theorem dX3_inLowestTerms_24 : decode cX3_inLowestTerms 24 = .ok (.iload 4, 2) := by decide +kernel
theorem dX3_inLowestTerms_26 : decode cX3_inLowestTerms 26 = .ok (.ifCond .ne 7, 3) := by decide +kernel
theorem dX3_inLowestTerms_29 : decode cX3_inLowestTerms 29 = .ok (.lload_n 0, 1) := by decide +kernel
theorem dX3_inLowestTerms_30 : decode cX3_inLowestTerms 30 = .ok (.goto 4, 3) := by decide +kernel
theorem dX3_inLowestTerms_33 : decode cX3_inLowestTerms 33 = .ok (.lload_n 2, 1) := by decide +kernel
theorem dX3_inLowestTerms_34 : decode cX3_inLowestTerms 34 = .ok (.lload 5, 2) := by decide +kernel
theorem dX3_inLowestTerms_36 : decode cX3_inLowestTerms 36 = .ok (.ldiv, 1) := by decide +kernel
theorem dX3_inLowestTerms_37 : decode cX3_inLowestTerms 37 = .ok (.lreturn, 1) := by decide +kernel
theorem dX3_commonDivisor_0 : decode cX3_commonDivisor 0 = .ok (.lload_n 0, 1) := by decide +kernel
theorem dX3_commonDivisor_1 : decode cX3_commonDivisor 1 = .ok (.lstore 4, 2) := by decide +kernel
theorem dX3_commonDivisor_3 : decode cX3_commonDivisor 3 = .ok (.lload_n 2, 1) := by decide +kernel
theorem dX3_commonDivisor_4 : decode cX3_commonDivisor 4 = .ok (.lstore 6, 2) := by decide +kernel
theorem dX3_commonDivisor_6 : decode cX3_commonDivisor 6 = .ok (.iconst 0, 1) := by decide +kernel
theorem dX3_commonDivisor_7 : decode cX3_commonDivisor 7 = .ok (.istore 8, 2) := by decide +kernel
theorem dX3_commonDivisor_9 : decode cX3_commonDivisor 9 = .ok (.iload 8, 2) := by decide +kernel
theorem dX3_commonDivisor_11 : decode cX3_commonDivisor 11 = .ok (.bipush 100, 2) := by decide +kernel
theorem dX3_commonDivisor_13 : decode cX3_commonDivisor 13 = .ok (.if_icmp .ge 31, 3) := by decide +kernel
theorem dX3_commonDivisor_16 : decode cX3_commonDivisor 16 = .ok (.lload 6, 2) := by decide +kernel
theorem dX3_commonDivisor_18 : decode cX3_commonDivisor 18 = .ok (.lconst 0, 1) := by decide +kernel
theorem dX3_commonDivisor_19 : decode cX3_commonDivisor 19 = .ok (.lcmp, 1) := by decide +kernel
theorem dX3_commonDivisor_20 : decode cX3_commonDivisor 20 = .ok (.ifCond .eq 24, 3) := by decide +kernel
theorem dX3_commonDivisor_23 : decode cX3_commonDivisor 23 = .ok (.lload 4, 2) := by decide +kernel
theorem dX3_commonDivisor_25 : decode cX3_commonDivisor 25 = .ok (.lload 6, 2) := by decide +kernel
theorem dX3_commonDivisor_27 : decode cX3_commonDivisor 27 = .ok (.lrem, 1) := by decide +kernel
theorem dX3_commonDivisor_28 : decode cX3_commonDivisor 28 = .ok (.lstore 9, 2) := by decide +kernel
theorem dX3_commonDivisor_30 : decode cX3_commonDivisor 30 = .ok (.lload 6, 2) := by decide +kernel
theorem dX3_commonDivisor_32 : decode cX3_commonDivisor 32 = .ok (.lstore 4, 2) := by decide +kernel
theorem dX3_commonDivisor_34 : decode cX3_commonDivisor 34 = .ok (.lload 9, 2) := by decide +kernel
theorem dX3_commonDivisor_36 : decode cX3_commonDivisor 36 = .ok (.lstore 6, 2) := by decide +kernel
theorem dX3_commonDivisor_38 : decode cX3_commonDivisor 38 = .ok (.iinc 8 1, 3) := by decide +kernel
theorem dX3_commonDivisor_41 : decode cX3_commonDivisor 41 = .ok (.goto (-32), 3) := by decide +kernel
theorem dX3_commonDivisor_44 : decode cX3_commonDivisor 44 = .ok (.lload 4, 2) := by decide +kernel
theorem dX3_commonDivisor_46 : decode cX3_commonDivisor 46 = .ok (.lreturn, 1) := by decide +kernel
