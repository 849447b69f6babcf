theorem dX3_init_0 : decode cX3_init 0 = .ok (.aload_n 0, 1) := by decide +kernel
theorem dX3_init_1 : decode cX3_init 1 = .ok (.invokespecial 1, 3) := by decide +kernel
theorem dX3_init_4 : decode cX3_init 4 = .ok (.aload_n 0, 1) := by decide +kernel
theorem dX3_init_5 : decode cX3_init 5 = .ok (.sipush 300, 3) := by decide +kernel
theorem dX3_init_8 : decode cX3_init 8 = .ok (.newarray .int, 2) := by decide +kernel
theorem dX3_init_10 : decode cX3_init 10 = .ok (.putfield 7, 3) := by decide +kernel
theorem dX3_init_13 : decode cX3_init 13 = .ok (.aload_n 0, 1) := by decide +kernel
theorem dX3_init_14 : decode cX3_init 14 = .ok (.sipush 2400, 3) := by decide +kernel
theorem dX3_init_17 : decode cX3_init 17 = .ok (.newarray .int, 2) := by decide +kernel
theorem dX3_init_19 : decode cX3_init 19 = .ok (.putfield 13, 3) := by decide +kernel
theorem dX3_init_22 : decode cX3_init 22 = .ok (.aload_n 0, 1) := by decide +kernel
theorem dX3_init_23 : decode cX3_init 23 = .ok (.sipush 600, 3) := by decide +kernel
theorem dX3_init_26 : decode cX3_init 26 = .ok (.newarray .int, 2) := by decide +kernel
theorem dX3_init_28 : decode cX3_init 28 = .ok (.putfield 16, 3) := by decide +kernel
theorem dX3_init_31 : decode cX3_init 31 = .ok (.aload_n 0, 1) := by decide +kernel
theorem dX3_init_32 : decode cX3_init 32 = .ok (.bipush 64, 2) := by decide +kernel
theorem dX3_init_34 : decode cX3_init 34 = .ok (.newarray .int, 2) := by decide +kernel
theorem dX3_init_36 : decode cX3_init 36 = .ok (.putfield 19, 3) := by decide +kernel
theorem dX3_init_39 : decode cX3_init 39 = .ok (.aload_n 0, 1) := by decide +kernel
theorem dX3_init_40 : decode cX3_init 40 = .ok (.bipush 49, 2) := by decide +kernel
theorem dX3_init_42 : decode cX3_init 42 = .ok (.newarray .int, 2) := by decide +kernel
theorem dX3_init_44 : decode cX3_init 44 = .ok (.putfield 22, 3) := by decide +kernel
theorem dX3_init_47 : decode cX3_init 47 = .ok (.aload_n 0, 1) := by decide +kernel
theorem dX3_init_48 : decode cX3_init 48 = .ok (.bipush 49, 2) := by decide +kernel
theorem dX3_init_50 : decode cX3_init 50 = .ok (.newarray .long, 2) := by decide +kernel
theorem dX3_init_52 : decode cX3_init 52 = .ok (.putfield 25, 3) := by decide +kernel
theorem dX3_init_55 : decode cX3_init 55 = .ok (.aload_n 0, 1) := by decide +kernel
theorem dX3_init_56 : decode cX3_init 56 = .ok (.bipush 8, 2) := by decide +kernel
theorem dX3_init_58 : decode cX3_init 58 = .ok (.newarray .int, 2) := by decide +kernel
theorem dX3_init_60 : decode cX3_init 60 = .ok (.putfield 29, 3) := by decide +kernel
theorem dX3_init_63 : decode cX3_init 63 = .ok (.aload_n 0, 1) := by decide +kernel
theorem dX3_init_64 : decode cX3_init 64 = .ok (.getfield 7, 3) := by decide +kernel
theorem dX3_init_67 : decode cX3_init 67 = .ok (.iconst 2, 1) := by decide +kernel
theorem dX3_init_68 : decode cX3_init 68 = .ok (.iconst 2, 1) := by decide +kernel
theorem dX3_init_69 : decode cX3_init 69 = .ok (.iastore, 1) := by decide +kernel
theorem dX3_init_70 : decode cX3_init 70 = .ok (.aload_n 0, 1) := by decide +kernel
theorem dX3_init_71 : decode cX3_init 71 = .ok (.getfield 7, 3) := by decide +kernel
theorem dX3_init_74 : decode cX3_init 74 = .ok (.iconst 4, 1) := by decide +kernel
theorem dX3_init_75 : decode cX3_init 75 = .ok (.iconst 3, 1) := by decide +kernel
theorem dX3_init_76 : decode cX3_init 76 = .ok (.iastore, 1) := by decide +kernel
theorem dX3_init_77 : decode cX3_init 77 = .ok (.aload_n 0, 1) := by decide +kernel
theorem dX3_init_78 : decode cX3_init 78 = .ok (.getfield 7, 3) := by decide +kernel
theorem dX3_init_81 : decode cX3_init 81 = .ok (.iconst 5, 1) := by decide +kernel
theorem dX3_init_82 : decode cX3_init 82 = .ok (.iconst 1, 1) := by decide +kernel
theorem dX3_init_83 : decode cX3_init 83 = .ok (.iastore, 1) := by decide +kernel
theorem dX3_init_84 : decode cX3_init 84 = .ok (.aload_n 0, 1) := by decide +kernel
theorem dX3_init_85 : decode cX3_init 85 = .ok (.iconst 4, 1) := by decide +kernel
theorem dX3_init_86 : decode cX3_init 86 = .ok (.iconst 4, 1) := by decide +kernel
theorem dX3_init_87 : decode cX3_init 87 = .ok (.invokevirtual 32, 3) := by decide +kernel
theorem dX3_init_90 : decode cX3_init 90 = .ok (.return_, 1) := by decide +kernel
theorem dX3_isIn_0 : decode cX3_isIn 0 = .ok (.iload_n 0, 1) := by decide +kernel
theorem dX3_isIn_1 : decode cX3_isIn 1 = .ok (.iload_n 1, 1) := by decide +kernel
theorem dX3_isIn_2 : decode cX3_isIn 2 = .ok (.if_icmp .lt 12, 3) := by decide +kernel
theorem dX3_isIn_5 : decode cX3_isIn 5 = .ok (.iload_n 0, 1) := by decide +kernel
theorem dX3_isIn_6 : decode cX3_isIn 6 = .ok (.iload_n 2, 1) := by decide +kernel
theorem dX3_isIn_7 : decode cX3_isIn 7 = .ok (.if_icmp .gt 7, 3) := by decide +kernel
theorem dX3_isIn_10 : decode cX3_isIn 10 = .ok (.iconst 1, 1) := by decide +kernel
theorem dX3_isIn_11 : decode cX3_isIn 11 = .ok (.goto 4, 3) := by decide +kernel
theorem dX3_isIn_14 : decode cX3_isIn 14 = .ok (.iconst 0, 1) := by decide +kernel
theorem dX3_isIn_15 : decode cX3_isIn 15 = .ok (.ireturn, 1) := by decide +kernel
theorem dX3_lay_0 : decode cX3_lay 0 = .ok (.aload_n 0, 1) := by decide +kernel
theorem dX3_lay_1 : decode cX3_lay 1 = .ok (.getfield 7, 3) := by decide +kernel
theorem dX3_lay_4 : decode cX3_lay 4 = .ok (.iconst 0, 1) := by decide +kernel
theorem dX3_lay_5 : decode cX3_lay 5 = .ok (.iload_n 1, 1) := by decide +kernel
theorem dX3_lay_6 : decode cX3_lay 6 = .ok (.iastore, 1) := by decide +kernel
theorem dX3_lay_7 : decode cX3_lay 7 = .ok (.aload_n 0, 1) := by decide +kernel
theorem dX3_lay_8 : decode cX3_lay 8 = .ok (.getfield 7, 3) := by decide +kernel
theorem dX3_lay_11 : decode cX3_lay 11 = .ok (.iconst 1, 1) := by decide +kernel
theorem dX3_lay_12 : decode cX3_lay 12 = .ok (.iload_n 2, 1) := by decide +kernel
theorem dX3_lay_13 : decode cX3_lay 13 = .ok (.iastore, 1) := by decide +kernel
theorem dX3_lay_14 : decode cX3_lay 14 = .ok (.iconst 0, 1) := by decide +kernel
theorem dX3_lay_15 : decode cX3_lay 15 = .ok (.istore_n 3, 1) := by decide +kernel
theorem dX3_lay_16 : decode cX3_lay 16 = .ok (.iload_n 3, 1) := by decide +kernel
theorem dX3_lay_17 : decode cX3_lay 17 = .ok (.bipush 49, 2) := by decide +kernel
theorem dX3_lay_19 : decode cX3_lay 19 = .ok (.if_icmp .ge 50, 3) := by decide +kernel
theorem dX3_lay_22 : decode cX3_lay 22 = .ok (.aload_n 0, 1) := by decide +kernel
theorem dX3_lay_23 : decode cX3_lay 23 = .ok (.getfield 7, 3) := by decide +kernel
theorem dX3_lay_26 : decode cX3_lay 26 = .ok (.bipush 6, 2) := by decide +kernel
theorem dX3_lay_28 : decode cX3_lay 28 = .ok (.iload_n 3, 1) := by decide +kernel
theorem dX3_lay_29 : decode cX3_lay 29 = .ok (.iadd, 1) := by decide +kernel
theorem dX3_lay_30 : decode cX3_lay 30 = .ok (.iload_n 3, 1) := by decide +kernel
theorem dX3_lay_31 : decode cX3_lay 31 = .ok (.iastore, 1) := by decide +kernel
theorem dX3_lay_32 : decode cX3_lay 32 = .ok (.aload_n 0, 1) := by decide +kernel
theorem dX3_lay_33 : decode cX3_lay 33 = .ok (.getfield 7, 3) := by decide +kernel
theorem dX3_lay_36 : decode cX3_lay 36 = .ok (.bipush 55, 2) := by decide +kernel
theorem dX3_lay_38 : decode cX3_lay 38 = .ok (.iload_n 3, 1) := by decide +kernel
theorem dX3_lay_39 : decode cX3_lay 39 = .ok (.iadd, 1) := by decide +kernel
theorem dX3_lay_40 : decode cX3_lay 40 = .ok (.iload_n 3, 1) := by decide +kernel
theorem dX3_lay_41 : decode cX3_lay 41 = .ok (.iload_n 1, 1) := by decide +kernel
theorem dX3_lay_42 : decode cX3_lay 42 = .ok (.iload_n 2, 1) := by decide +kernel
theorem dX3_lay_43 : decode cX3_lay 43 = .ok (.imul, 1) := by decide +kernel
theorem dX3_lay_44 : decode cX3_lay 44 = .ok (.if_icmp .ge 7, 3) := by decide +kernel
theorem dX3_lay_47 : decode cX3_lay 47 = .ok (.iconst 1, 1) := by decide +kernel
theorem dX3_lay_48 : decode cX3_lay 48 = .ok (.goto 4, 3) := by decide +kernel
theorem dX3_lay_51 : decode cX3_lay 51 = .ok (.iconst 0, 1) := by decide +kernel
theorem dX3_lay_52 : decode cX3_lay 52 = .ok (.iastore, 1) := by decide +kernel
theorem dX3_lay_53 : decode cX3_lay 53 = .ok (.aload_n 0, 1) := by decide +kernel
theorem dX3_lay_54 : decode cX3_lay 54 = .ok (.getfield 7, 3) := by decide +kernel
theorem dX3_lay_57 : decode cX3_lay 57 = .ok (.bipush 104, 2) := by decide +kernel
theorem dX3_lay_59 : decode cX3_lay 59 = .ok (.iload_n 3, 1) := by decide +kernel
theorem dX3_lay_60 : decode cX3_lay 60 = .ok (.iadd, 1) := by decide +kernel
theorem dX3_lay_61 : decode cX3_lay 61 = .ok (.iconst 0, 1) := by decide +kernel
theorem dX3_lay_62 : decode cX3_lay 62 = .ok (.iastore, 1) := by decide +kernel
theorem dX3_lay_63 : decode cX3_lay 63 = .ok (.iinc 3 1, 3) := by decide +kernel
theorem dX3_lay_66 : decode cX3_lay 66 = .ok (.goto (-50), 3) := by decide +kernel
theorem dX3_lay_69 : decode cX3_lay 69 = .ok (.return_, 1) := by decide +kernel
theorem dX3_remember_0 : decode cX3_remember 0 = .ok (.aload_n 0, 1) := by decide +kernel
theorem dX3_remember_1 : decode cX3_remember 1 = .ok (.getfield 36, 3) := by decide +kernel
theorem dX3_remember_4 : decode cX3_remember 4 = .ok (.bipush 8, 2) := by decide +kernel
theorem dX3_remember_6 : decode cX3_remember 6 = .ok (.if_icmp .ne 44, 3) := by decide +kernel
theorem dX3_remember_9 : decode cX3_remember 9 = .ok (.iconst 0, 1) := by decide +kernel
theorem dX3_remember_10 : decode cX3_remember 10 = .ok (.istore_n 1, 1) := by decide +kernel
theorem dX3_remember_11 : decode cX3_remember 11 = .ok (.iload_n 1, 1) := by decide +kernel
theorem dX3_remember_12 : decode cX3_remember 12 = .ok (.sipush 2100, 3) := by decide +kernel
theorem dX3_remember_15 : decode cX3_remember 15 = .ok (.if_icmp .ge 25, 3) := by decide +kernel
theorem dX3_remember_18 : decode cX3_remember 18 = .ok (.aload_n 0, 1) := by decide +kernel
theorem dX3_remember_19 : decode cX3_remember 19 = .ok (.getfield 13, 3) := by decide +kernel
theorem dX3_remember_22 : decode cX3_remember 22 = .ok (.iload_n 1, 1) := by decide +kernel
theorem dX3_remember_23 : decode cX3_remember 23 = .ok (.aload_n 0, 1) := by decide +kernel
theorem dX3_remember_24 : decode cX3_remember 24 = .ok (.getfield 13, 3) := by decide +kernel
theorem dX3_remember_27 : decode cX3_remember 27 = .ok (.iload_n 1, 1) := by decide +kernel
theorem dX3_remember_28 : decode cX3_remember 28 = .ok (.sipush 300, 3) := by decide +kernel
theorem dX3_remember_31 : decode cX3_remember 31 = .ok (.iadd, 1) := by decide +kernel
theorem dX3_remember_32 : decode cX3_remember 32 = .ok (.iaload, 1) := by decide +kernel
theorem dX3_remember_33 : decode cX3_remember 33 = .ok (.iastore, 1) := by decide +kernel
theorem dX3_remember_34 : decode cX3_remember 34 = .ok (.iinc 1 1, 3) := by decide +kernel
theorem dX3_remember_37 : decode cX3_remember 37 = .ok (.goto (-26), 3) := by decide +kernel
theorem dX3_remember_40 : decode cX3_remember 40 = .ok (.aload_n 0, 1) := by decide +kernel
theorem dX3_remember_41 : decode cX3_remember 41 = .ok (.dup, 1) := by decide +kernel
theorem dX3_remember_42 : decode cX3_remember 42 = .ok (.getfield 36, 3) := by decide +kernel
theorem dX3_remember_45 : decode cX3_remember 45 = .ok (.iconst 1, 1) := by decide +kernel
theorem dX3_remember_46 : decode cX3_remember 46 = .ok (.isub, 1) := by decide +kernel
theorem dX3_remember_47 : decode cX3_remember 47 = .ok (.putfield 36, 3) := by decide +kernel
theorem dX3_remember_50 : decode cX3_remember 50 = .ok (.iconst 0, 1) := by decide +kernel
theorem dX3_remember_51 : decode cX3_remember 51 = .ok (.istore_n 1, 1) := by decide +kernel
theorem dX3_remember_52 : decode cX3_remember 52 = .ok (.iload_n 1, 1) := by decide +kernel
theorem dX3_remember_53 : decode cX3_remember 53 = .ok (.sipush 300, 3) := by decide +kernel
theorem dX3_remember_56 : decode cX3_remember 56 = .ok (.if_icmp .ge 30, 3) := by decide +kernel
theorem dX3_remember_59 : decode cX3_remember 59 = .ok (.aload_n 0, 1) := by decide +kernel
theorem dX3_remember_60 : decode cX3_remember 60 = .ok (.getfield 13, 3) := by decide +kernel
theorem dX3_remember_63 : decode cX3_remember 63 = .ok (.sipush 300, 3) := by decide +kernel
theorem dX3_remember_66 : decode cX3_remember 66 = .ok (.aload_n 0, 1) := by decide +kernel
theorem dX3_remember_67 : decode cX3_remember 67 = .ok (.getfield 36, 3) := by decide +kernel
theorem dX3_remember_70 : decode cX3_remember 70 = .ok (.imul, 1) := by decide +kernel
theorem dX3_remember_71 : decode cX3_remember 71 = .ok (.iload_n 1, 1) := by decide +kernel
theorem dX3_remember_72 : decode cX3_remember 72 = .ok (.iadd, 1) := by decide +kernel
theorem dX3_remember_73 : decode cX3_remember 73 = .ok (.aload_n 0, 1) := by decide +kernel
theorem dX3_remember_74 : decode cX3_remember 74 = .ok (.getfield 7, 3) := by decide +kernel
theorem dX3_remember_77 : decode cX3_remember 77 = .ok (.iload_n 1, 1) := by decide +kernel
theorem dX3_remember_78 : decode cX3_remember 78 = .ok (.iaload, 1) := by decide +kernel
theorem dX3_remember_79 : decode cX3_remember 79 = .ok (.iastore, 1) := by decide +kernel
theorem dX3_remember_80 : decode cX3_remember 80 = .ok (.iinc 1 1, 3) := by decide +kernel
theorem dX3_remember_83 : decode cX3_remember 83 = .ok (.goto (-31), 3) := by decide +kernel
theorem dX3_remember_86 : decode cX3_remember 86 = .ok (.aload_n 0, 1) := by decide +kernel
theorem dX3_remember_87 : decode cX3_remember 87 = .ok (.dup, 1) := by decide +kernel
theorem dX3_remember_88 : decode cX3_remember 88 = .ok (.getfield 36, 3) := by decide +kernel
theorem dX3_remember_91 : decode cX3_remember 91 = .ok (.iconst 1, 1) := by decide +kernel
theorem dX3_remember_92 : decode cX3_remember 92 = .ok (.iadd, 1) := by decide +kernel
theorem dX3_remember_93 : decode cX3_remember 93 = .ok (.putfield 36, 3) := by decide +kernel
theorem dX3_remember_96 : decode cX3_remember 96 = .ok (.return_, 1) := by decide +kernel
theorem dX3_nodes_0 : decode cX3_nodes 0 = .ok (.aload_n 0, 1) := by decide +kernel
theorem dX3_nodes_1 : decode cX3_nodes 1 = .ok (.getfield 7, 3) := by decide +kernel
theorem dX3_nodes_4 : decode cX3_nodes 4 = .ok (.iconst 0, 1) := by decide +kernel
theorem dX3_nodes_5 : decode cX3_nodes 5 = .ok (.iaload, 1) := by decide +kernel
theorem dX3_nodes_6 : decode cX3_nodes 6 = .ok (.aload_n 0, 1) := by decide +kernel
theorem dX3_nodes_7 : decode cX3_nodes 7 = .ok (.getfield 7, 3) := by decide +kernel
theorem dX3_nodes_10 : decode cX3_nodes 10 = .ok (.iconst 1, 1) := by decide +kernel
theorem dX3_nodes_11 : decode cX3_nodes 11 = .ok (.iaload, 1) := by decide +kernel
theorem dX3_nodes_12 : decode cX3_nodes 12 = .ok (.imul, 1) := by decide +kernel
theorem dX3_nodes_13 : decode cX3_nodes 13 = .ok (.ireturn, 1) := by decide +kernel
theorem dX3_isNode_0 : decode cX3_isNode 0 = .ok (.iload_n 1, 1) := by decide +kernel
theorem dX3_isNode_1 : decode cX3_isNode 1 = .ok (.iconst 0, 1) := by decide +kernel
theorem dX3_isNode_2 : decode cX3_isNode 2 = .ok (.aload_n 0, 1) := by decide +kernel
theorem dX3_isNode_3 : decode cX3_isNode 3 = .ok (.invokevirtual 40, 3) := by decide +kernel
theorem dX3_isNode_6 : decode cX3_isNode 6 = .ok (.iconst 1, 1) := by decide +kernel
theorem dX3_isNode_7 : decode cX3_isNode 7 = .ok (.isub, 1) := by decide +kernel
theorem dX3_isNode_8 : decode cX3_isNode 8 = .ok (.invokestatic 44, 3) := by decide +kernel
theorem dX3_isNode_11 : decode cX3_isNode 11 = .ok (.ireturn, 1) := by decide +kernel
theorem dX3_isPresent_0 : decode cX3_isPresent 0 = .ok (.aload_n 0, 1) := by decide +kernel
theorem dX3_isPresent_1 : decode cX3_isPresent 1 = .ok (.getfield 7, 3) := by decide +kernel
theorem dX3_isPresent_4 : decode cX3_isPresent 4 = .ok (.bipush 55, 2) := by decide +kernel
theorem dX3_isPresent_6 : decode cX3_isPresent 6 = .ok (.iload_n 1, 1) := by decide +kernel
theorem dX3_isPresent_7 : decode cX3_isPresent 7 = .ok (.iadd, 1) := by decide +kernel
theorem dX3_isPresent_8 : decode cX3_isPresent 8 = .ok (.iaload, 1) := by decide +kernel
theorem dX3_isPresent_9 : decode cX3_isPresent 9 = .ok (.iconst 1, 1) := by decide +kernel
theorem dX3_isPresent_10 : decode cX3_isPresent 10 = .ok (.if_icmp .ne 7, 3) := by decide +kernel
theorem dX3_isPresent_13 : decode cX3_isPresent 13 = .ok (.iconst 1, 1) := by decide +kernel
theorem dX3_isPresent_14 : decode cX3_isPresent 14 = .ok (.goto 4, 3) := by decide +kernel
theorem dX3_isPresent_17 : decode cX3_isPresent 17 = .ok (.iconst 0, 1) := by decide +kernel
theorem dX3_isPresent_18 : decode cX3_isPresent 18 = .ok (.ireturn, 1) := by decide +kernel
theorem dX3_apart_0 : decode cX3_apart 0 = .ok (.iload_n 0, 1) := by decide +kernel
theorem dX3_apart_1 : decode cX3_apart 1 = .ok (.iload_n 1, 1) := by decide +kernel
theorem dX3_apart_2 : decode cX3_apart 2 = .ok (.if_icmp .ge 9, 3) := by decide +kernel
theorem dX3_apart_5 : decode cX3_apart 5 = .ok (.iload_n 1, 1) := by decide +kernel
theorem dX3_apart_6 : decode cX3_apart 6 = .ok (.iload_n 0, 1) := by decide +kernel
theorem dX3_apart_7 : decode cX3_apart 7 = .ok (.isub, 1) := by decide +kernel
theorem dX3_apart_8 : decode cX3_apart 8 = .ok (.goto 6, 3) := by decide +kernel
theorem dX3_apart_11 : decode cX3_apart 11 = .ok (.iload_n 0, 1) := by decide +kernel
theorem dX3_apart_12 : decode cX3_apart 12 = .ok (.iload_n 1, 1) := by decide +kernel
theorem dX3_apart_13 : decode cX3_apart 13 = .ok (.isub, 1) := by decide +kernel
theorem dX3_apart_14 : decode cX3_apart 14 = .ok (.ireturn, 1) := by decide +kernel
theorem dX3_far_0 : decode cX3_far 0 = .ok (.aload_n 0, 1) := by decide +kernel
theorem dX3_far_1 : decode cX3_far 1 = .ok (.getfield 7, 3) := by decide +kernel
theorem dX3_far_4 : decode cX3_far 4 = .ok (.bipush 6, 2) := by decide +kernel
theorem dX3_far_6 : decode cX3_far 6 = .ok (.iload_n 1, 1) := by decide +kernel
theorem dX3_far_7 : decode cX3_far 7 = .ok (.iadd, 1) := by decide +kernel
theorem dX3_far_8 : decode cX3_far 8 = .ok (.iaload, 1) := by decide +kernel
theorem dX3_far_9 : decode cX3_far 9 = .ok (.istore_n 3, 1) := by decide +kernel
theorem dX3_far_10 : decode cX3_far 10 = .ok (.aload_n 0, 1) := by decide +kernel
theorem dX3_far_11 : decode cX3_far 11 = .ok (.getfield 7, 3) := by decide +kernel
theorem dX3_far_14 : decode cX3_far 14 = .ok (.bipush 6, 2) := by decide +kernel
theorem dX3_far_16 : decode cX3_far 16 = .ok (.iload_n 2, 1) := by decide +kernel
theorem dX3_far_17 : decode cX3_far 17 = .ok (.iadd, 1) := by decide +kernel
theorem dX3_far_18 : decode cX3_far 18 = .ok (.iaload, 1) := by decide +kernel
theorem dX3_far_19 : decode cX3_far 19 = .ok (.istore 4, 2) := by decide +kernel
theorem dX3_far_21 : decode cX3_far 21 = .ok (.iload_n 3, 1) := by decide +kernel
theorem dX3_far_22 : decode cX3_far 22 = .ok (.aload_n 0, 1) := by decide +kernel
theorem dX3_far_23 : decode cX3_far 23 = .ok (.getfield 7, 3) := by decide +kernel
theorem dX3_far_26 : decode cX3_far 26 = .ok (.iconst 0, 1) := by decide +kernel
theorem dX3_far_27 : decode cX3_far 27 = .ok (.iaload, 1) := by decide +kernel
theorem dX3_far_28 : decode cX3_far 28 = .ok (.irem, 1) := by decide +kernel
theorem dX3_far_29 : decode cX3_far 29 = .ok (.iload 4, 2) := by decide +kernel
theorem dX3_far_31 : decode cX3_far 31 = .ok (.aload_n 0, 1) := by decide +kernel
theorem dX3_far_32 : decode cX3_far 32 = .ok (.getfield 7, 3) := by decide +kernel
theorem dX3_far_35 : decode cX3_far 35 = .ok (.iconst 0, 1) := by decide +kernel
theorem dX3_far_36 : decode cX3_far 36 = .ok (.iaload, 1) := by decide +kernel
theorem dX3_far_37 : decode cX3_far 37 = .ok (.irem, 1) := by decide +kernel
theorem dX3_far_38 : decode cX3_far 38 = .ok (.invokestatic 48, 3) := by decide +kernel
theorem dX3_far_41 : decode cX3_far 41 = .ok (.iload_n 3, 1) := by decide +kernel
theorem dX3_far_42 : decode cX3_far 42 = .ok (.aload_n 0, 1) := by decide +kernel
theorem dX3_far_43 : decode cX3_far 43 = .ok (.getfield 7, 3) := by decide +kernel
theorem dX3_far_46 : decode cX3_far 46 = .ok (.iconst 0, 1) := by decide +kernel
theorem dX3_far_47 : decode cX3_far 47 = .ok (.iaload, 1) := by decide +kernel
theorem dX3_far_48 : decode cX3_far 48 = .ok (.idiv, 1) := by decide +kernel
theorem dX3_far_49 : decode cX3_far 49 = .ok (.iload 4, 2) := by decide +kernel
theorem dX3_far_51 : decode cX3_far 51 = .ok (.aload_n 0, 1) := by decide +kernel
theorem dX3_far_52 : decode cX3_far 52 = .ok (.getfield 7, 3) := by decide +kernel
theorem dX3_far_55 : decode cX3_far 55 = .ok (.iconst 0, 1) := by decide +kernel
theorem dX3_far_56 : decode cX3_far 56 = .ok (.iaload, 1) := by decide +kernel
theorem dX3_far_57 : decode cX3_far 57 = .ok (.idiv, 1) := by decide +kernel
theorem dX3_far_58 : decode cX3_far 58 = .ok (.invokestatic 48, 3) := by decide +kernel
theorem dX3_far_61 : decode cX3_far 61 = .ok (.iadd, 1) := by decide +kernel
theorem dX3_far_62 : decode cX3_far 62 = .ok (.ireturn, 1) := by decide +kernel
theorem dX3_at_0 : decode cX3_at 0 = .ok (.aload_n 0, 1) := by decide +kernel
theorem dX3_at_1 : decode cX3_at 1 = .ok (.getfield 7, 3) := by decide +kernel
theorem dX3_at_4 : decode cX3_at 4 = .ok (.sipush 153, 3) := by decide +kernel
theorem dX3_at_7 : decode cX3_at 7 = .ok (.iconst 3, 1) := by decide +kernel
theorem dX3_at_8 : decode cX3_at 8 = .ok (.iload_n 1, 1) := by decide +kernel
theorem dX3_at_9 : decode cX3_at 9 = .ok (.imul, 1) := by decide +kernel
theorem dX3_at_10 : decode cX3_at 10 = .ok (.iadd, 1) := by decide +kernel
theorem dX3_at_11 : decode cX3_at 11 = .ok (.iload_n 2, 1) := by decide +kernel
theorem dX3_at_12 : decode cX3_at 12 = .ok (.iadd, 1) := by decide +kernel
theorem dX3_at_13 : decode cX3_at 13 = .ok (.iaload, 1) := by decide +kernel
theorem dX3_at_14 : decode cX3_at 14 = .ok (.ireturn, 1) := by decide +kernel
theorem dX3_hasLink_0 : decode cX3_hasLink 0 = .ok (.iconst 0, 1) := by decide +kernel
theorem dX3_hasLink_1 : decode cX3_hasLink 1 = .ok (.istore_n 3, 1) := by decide +kernel
theorem dX3_hasLink_2 : decode cX3_hasLink 2 = .ok (.iload_n 3, 1) := by decide +kernel
theorem dX3_hasLink_3 : decode cX3_hasLink 3 = .ok (.aload_n 0, 1) := by decide +kernel
theorem dX3_hasLink_4 : decode cX3_hasLink 4 = .ok (.getfield 7, 3) := by decide +kernel
theorem dX3_hasLink_7 : decode cX3_hasLink 7 = .ok (.bipush 104, 2) := by decide +kernel
theorem dX3_hasLink_9 : decode cX3_hasLink 9 = .ok (.iload_n 1, 1) := by decide +kernel
theorem dX3_hasLink_10 : decode cX3_hasLink 10 = .ok (.iadd, 1) := by decide +kernel
theorem dX3_hasLink_11 : decode cX3_hasLink 11 = .ok (.iaload, 1) := by decide +kernel
theorem dX3_hasLink_12 : decode cX3_hasLink 12 = .ok (.if_icmp .ge 21, 3) := by decide +kernel
theorem dX3_hasLink_15 : decode cX3_hasLink 15 = .ok (.aload_n 0, 1) := by decide +kernel
theorem dX3_hasLink_16 : decode cX3_hasLink 16 = .ok (.iload_n 1, 1) := by decide +kernel
theorem dX3_hasLink_17 : decode cX3_hasLink 17 = .ok (.iload_n 3, 1) := by decide +kernel
theorem dX3_hasLink_18 : decode cX3_hasLink 18 = .ok (.invokevirtual 52, 3) := by decide +kernel
theorem dX3_hasLink_21 : decode cX3_hasLink 21 = .ok (.iload_n 2, 1) := by decide +kernel
theorem dX3_hasLink_22 : decode cX3_hasLink 22 = .ok (.if_icmp .ne 5, 3) := by decide +kernel
theorem dX3_hasLink_25 : decode cX3_hasLink 25 = .ok (.iconst 1, 1) := by decide +kernel
theorem dX3_hasLink_26 : decode cX3_hasLink 26 = .ok (.ireturn, 1) := by decide +kernel
theorem dX3_hasLink_27 : decode cX3_hasLink 27 = .ok (.iinc 3 1, 3) := by decide +kernel
theorem dX3_hasLink_30 : decode cX3_hasLink 30 = .ok (.goto (-28), 3) := by decide +kernel
theorem dX3_hasLink_33 : decode cX3_hasLink 33 = .ok (.iconst 0, 1) := by decide +kernel
theorem dX3_hasLink_34 : decode cX3_hasLink 34 = .ok (.ireturn, 1) := by decide +kernel
theorem dX3_isContact_0 : decode cX3_isContact 0 = .ok (.iload_n 1, 1) := by decide +kernel
theorem dX3_isContact_1 : decode cX3_isContact 1 = .ok (.iload_n 2, 1) := by decide +kernel
theorem dX3_isContact_2 : decode cX3_isContact 2 = .ok (.if_icmp .eq 34, 3) := by decide +kernel
theorem dX3_isContact_5 : decode cX3_isContact 5 = .ok (.aload_n 0, 1) := by decide +kernel
theorem dX3_isContact_6 : decode cX3_isContact 6 = .ok (.iload_n 2, 1) := by decide +kernel
theorem dX3_isContact_7 : decode cX3_isContact 7 = .ok (.invokevirtual 55, 3) := by decide +kernel
theorem dX3_isContact_10 : decode cX3_isContact 10 = .ok (.ifCond .eq 26, 3) := by decide +kernel
theorem dX3_isContact_13 : decode cX3_isContact 13 = .ok (.aload_n 0, 1) := by decide +kernel
theorem dX3_isContact_14 : decode cX3_isContact 14 = .ok (.iload_n 1, 1) := by decide +kernel
theorem dX3_isContact_15 : decode cX3_isContact 15 = .ok (.iload_n 2, 1) := by decide +kernel
theorem dX3_isContact_16 : decode cX3_isContact 16 = .ok (.invokevirtual 59, 3) := by decide +kernel
theorem dX3_isContact_19 : decode cX3_isContact 19 = .ok (.iconst 1, 1) := by decide +kernel
theorem dX3_isContact_20 : decode cX3_isContact 20 = .ok (.if_icmp .eq 12, 3) := by decide +kernel
theorem dX3_isContact_23 : decode cX3_isContact 23 = .ok (.aload_n 0, 1) := by decide +kernel
theorem dX3_isContact_24 : decode cX3_isContact 24 = .ok (.iload_n 1, 1) := by decide +kernel
theorem dX3_isContact_25 : decode cX3_isContact 25 = .ok (.iload_n 2, 1) := by decide +kernel
theorem dX3_isContact_26 : decode cX3_isContact 26 = .ok (.invokevirtual 62, 3) := by decide +kernel
theorem dX3_isContact_29 : decode cX3_isContact 29 = .ok (.ifCond .eq 7, 3) := by decide +kernel
theorem dX3_isContact_32 : decode cX3_isContact 32 = .ok (.iconst 1, 1) := by decide +kernel
theorem dX3_isContact_33 : decode cX3_isContact 33 = .ok (.goto 4, 3) := by decide +kernel
theorem dX3_isContact_36 : decode cX3_isContact 36 = .ok (.iconst 0, 1) := by decide +kernel
theorem dX3_isContact_37 : decode cX3_isContact 37 = .ok (.ireturn, 1) := by decide +kernel
theorem dX3_drop_0 : decode cX3_drop 0 = .ok (.iload_n 2, 1) := by decide +kernel
theorem dX3_drop_1 : decode cX3_drop 1 = .ok (.istore_n 3, 1) := by decide +kernel
theorem dX3_drop_2 : decode cX3_drop 2 = .ok (.iload_n 3, 1) := by decide +kernel
theorem dX3_drop_3 : decode cX3_drop 3 = .ok (.aload_n 0, 1) := by decide +kernel
theorem dX3_drop_4 : decode cX3_drop 4 = .ok (.getfield 7, 3) := by decide +kernel
theorem dX3_drop_7 : decode cX3_drop 7 = .ok (.bipush 104, 2) := by decide +kernel
theorem dX3_drop_9 : decode cX3_drop 9 = .ok (.iload_n 1, 1) := by decide +kernel
theorem dX3_drop_10 : decode cX3_drop 10 = .ok (.iadd, 1) := by decide +kernel
theorem dX3_drop_11 : decode cX3_drop 11 = .ok (.iaload, 1) := by decide +kernel
theorem dX3_drop_12 : decode cX3_drop 12 = .ok (.iconst 1, 1) := by decide +kernel
theorem dX3_drop_13 : decode cX3_drop 13 = .ok (.isub, 1) := by decide +kernel
theorem dX3_drop_14 : decode cX3_drop 14 = .ok (.if_icmp .ge 31, 3) := by decide +kernel
theorem dX3_drop_17 : decode cX3_drop 17 = .ok (.aload_n 0, 1) := by decide +kernel
theorem dX3_drop_18 : decode cX3_drop 18 = .ok (.getfield 7, 3) := by decide +kernel
theorem dX3_drop_21 : decode cX3_drop 21 = .ok (.sipush 153, 3) := by decide +kernel
theorem dX3_drop_24 : decode cX3_drop 24 = .ok (.iconst 3, 1) := by decide +kernel
theorem dX3_drop_25 : decode cX3_drop 25 = .ok (.iload_n 1, 1) := by decide +kernel
theorem dX3_drop_26 : decode cX3_drop 26 = .ok (.imul, 1) := by decide +kernel
theorem dX3_drop_27 : decode cX3_drop 27 = .ok (.iadd, 1) := by decide +kernel
theorem dX3_drop_28 : decode cX3_drop 28 = .ok (.iload_n 3, 1) := by decide +kernel
theorem dX3_drop_29 : decode cX3_drop 29 = .ok (.iadd, 1) := by decide +kernel
theorem dX3_drop_30 : decode cX3_drop 30 = .ok (.aload_n 0, 1) := by decide +kernel
theorem dX3_drop_31 : decode cX3_drop 31 = .ok (.iload_n 1, 1) := by decide +kernel
theorem dX3_drop_32 : decode cX3_drop 32 = .ok (.iload_n 3, 1) := by decide +kernel
theorem dX3_drop_33 : decode cX3_drop 33 = .ok (.iconst 1, 1) := by decide +kernel
theorem dX3_drop_34 : decode cX3_drop 34 = .ok (.iadd, 1) := by decide +kernel
theorem dX3_drop_35 : decode cX3_drop 35 = .ok (.invokevirtual 52, 3) := by decide +kernel
theorem dX3_drop_38 : decode cX3_drop 38 = .ok (.iastore, 1) := by decide +kernel
theorem dX3_drop_39 : decode cX3_drop 39 = .ok (.iinc 3 1, 3) := by decide +kernel
theorem dX3_drop_42 : decode cX3_drop 42 = .ok (.goto (-40), 3) := by decide +kernel
theorem dX3_drop_45 : decode cX3_drop 45 = .ok (.aload_n 0, 1) := by decide +kernel
theorem dX3_drop_46 : decode cX3_drop 46 = .ok (.getfield 7, 3) := by decide +kernel
theorem dX3_drop_49 : decode cX3_drop 49 = .ok (.bipush 104, 2) := by decide +kernel
theorem dX3_drop_51 : decode cX3_drop 51 = .ok (.iload_n 1, 1) := by decide +kernel
theorem dX3_drop_52 : decode cX3_drop 52 = .ok (.iadd, 1) := by decide +kernel
theorem dX3_drop_53 : decode cX3_drop 53 = .ok (.dup2, 1) := by decide +kernel
theorem dX3_drop_54 : decode cX3_drop 54 = .ok (.iaload, 1) := by decide +kernel
theorem dX3_drop_55 : decode cX3_drop 55 = .ok (.iconst 1, 1) := by decide +kernel
theorem dX3_drop_56 : decode cX3_drop 56 = .ok (.isub, 1) := by decide +kernel
theorem dX3_drop_57 : decode cX3_drop 57 = .ok (.iastore, 1) := by decide +kernel
theorem dX3_drop_58 : decode cX3_drop 58 = .ok (.return_, 1) := by decide +kernel
theorem dX3_give_0 : decode cX3_give 0 = .ok (.iload_n 1, 1) := by decide +kernel
theorem dX3_give_1 : decode cX3_give 1 = .ok (.iload_n 2, 1) := by decide +kernel
theorem dX3_give_2 : decode cX3_give 2 = .ok (.if_icmp .eq 12, 3) := by decide +kernel
theorem dX3_give_5 : decode cX3_give 5 = .ok (.aload_n 0, 1) := by decide +kernel
theorem dX3_give_6 : decode cX3_give 6 = .ok (.iload_n 1, 1) := by decide +kernel
theorem dX3_give_7 : decode cX3_give 7 = .ok (.iload_n 2, 1) := by decide +kernel
theorem dX3_give_8 : decode cX3_give 8 = .ok (.invokevirtual 62, 3) := by decide +kernel
theorem dX3_give_11 : decode cX3_give 11 = .ok (.ifCond .eq 4, 3) := by decide +kernel
theorem dX3_give_14 : decode cX3_give 14 = .ok (.return_, 1) := by decide +kernel
theorem dX3_give_15 : decode cX3_give 15 = .ok (.aload_n 0, 1) := by decide +kernel
theorem dX3_give_16 : decode cX3_give 16 = .ok (.getfield 7, 3) := by decide +kernel
theorem dX3_give_19 : decode cX3_give 19 = .ok (.bipush 104, 2) := by decide +kernel
theorem dX3_give_21 : decode cX3_give 21 = .ok (.iload_n 1, 1) := by decide +kernel
theorem dX3_give_22 : decode cX3_give 22 = .ok (.iadd, 1) := by decide +kernel
theorem dX3_give_23 : decode cX3_give 23 = .ok (.iaload, 1) := by decide +kernel
theorem dX3_give_24 : decode cX3_give 24 = .ok (.aload_n 0, 1) := by decide +kernel
theorem dX3_give_25 : decode cX3_give 25 = .ok (.getfield 7, 3) := by decide +kernel
theorem dX3_give_28 : decode cX3_give 28 = .ok (.iconst 2, 1) := by decide +kernel
theorem dX3_give_29 : decode cX3_give 29 = .ok (.iaload, 1) := by decide +kernel
theorem dX3_give_30 : decode cX3_give 30 = .ok (.if_icmp .lt 9, 3) := by decide +kernel
theorem dX3_give_33 : decode cX3_give 33 = .ok (.aload_n 0, 1) := by decide +kernel
theorem dX3_give_34 : decode cX3_give 34 = .ok (.iload_n 1, 1) := by decide +kernel
theorem dX3_give_35 : decode cX3_give 35 = .ok (.iconst 0, 1) := by decide +kernel
theorem dX3_give_36 : decode cX3_give 36 = .ok (.invokevirtual 66, 3) := by decide +kernel
theorem dX3_give_39 : decode cX3_give 39 = .ok (.aload_n 0, 1) := by decide +kernel
theorem dX3_give_40 : decode cX3_give 40 = .ok (.getfield 7, 3) := by decide +kernel
theorem dX3_give_43 : decode cX3_give 43 = .ok (.sipush 153, 3) := by decide +kernel
theorem dX3_give_46 : decode cX3_give 46 = .ok (.iconst 3, 1) := by decide +kernel
theorem dX3_give_47 : decode cX3_give 47 = .ok (.iload_n 1, 1) := by decide +kernel
theorem dX3_give_48 : decode cX3_give 48 = .ok (.imul, 1) := by decide +kernel
theorem dX3_give_49 : decode cX3_give 49 = .ok (.iadd, 1) := by decide +kernel
theorem dX3_give_50 : decode cX3_give 50 = .ok (.aload_n 0, 1) := by decide +kernel
theorem dX3_give_51 : decode cX3_give 51 = .ok (.getfield 7, 3) := by decide +kernel
theorem dX3_give_54 : decode cX3_give 54 = .ok (.bipush 104, 2) := by decide +kernel
theorem dX3_give_56 : decode cX3_give 56 = .ok (.iload_n 1, 1) := by decide +kernel
theorem dX3_give_57 : decode cX3_give 57 = .ok (.iadd, 1) := by decide +kernel
theorem dX3_give_58 : decode cX3_give 58 = .ok (.iaload, 1) := by decide +kernel
theorem dX3_give_59 : decode cX3_give 59 = .ok (.iadd, 1) := by decide +kernel
theorem dX3_give_60 : decode cX3_give 60 = .ok (.iload_n 2, 1) := by decide +kernel
theorem dX3_give_61 : decode cX3_give 61 = .ok (.iastore, 1) := by decide +kernel
theorem dX3_give_62 : decode cX3_give 62 = .ok (.aload_n 0, 1) := by decide +kernel
theorem dX3_give_63 : decode cX3_give 63 = .ok (.getfield 7, 3) := by decide +kernel
theorem dX3_give_66 : decode cX3_give 66 = .ok (.bipush 104, 2) := by decide +kernel
theorem dX3_give_68 : decode cX3_give 68 = .ok (.iload_n 1, 1) := by decide +kernel
theorem dX3_give_69 : decode cX3_give 69 = .ok (.iadd, 1) := by decide +kernel
theorem dX3_give_70 : decode cX3_give 70 = .ok (.dup2, 1) := by decide +kernel
theorem dX3_give_71 : decode cX3_give 71 = .ok (.iaload, 1) := by decide +kernel
theorem dX3_give_72 : decode cX3_give 72 = .ok (.iconst 1, 1) := by decide +kernel
theorem dX3_give_73 : decode cX3_give 73 = .ok (.iadd, 1) := by decide +kernel
theorem dX3_give_74 : decode cX3_give 74 = .ok (.iastore, 1) := by decide +kernel
theorem dX3_give_75 : decode cX3_give 75 = .ok (.return_, 1) := by decide +kernel
theorem dX3_draw_0 : decode cX3_draw 0 = .ok (.ldc2_w 69, 3) := by decide +kernel
theorem dX3_draw_3 : decode cX3_draw 3 = .ok (.aload_n 0, 1) := by decide +kernel
theorem dX3_draw_4 : decode cX3_draw 4 = .ok (.getfield 7, 3) := by decide +kernel
theorem dX3_draw_7 : decode cX3_draw 7 = .ok (.iconst 5, 1) := by decide +kernel
theorem dX3_draw_8 : decode cX3_draw 8 = .ok (.iaload, 1) := by decide +kernel
theorem dX3_draw_9 : decode cX3_draw 9 = .ok (.i2l, 1) := by decide +kernel
theorem dX3_draw_10 : decode cX3_draw 10 = .ok (.lmul, 1) := by decide +kernel
theorem dX3_draw_11 : decode cX3_draw 11 = .ok (.ldc2_w 71, 3) := by decide +kernel
theorem dX3_draw_14 : decode cX3_draw 14 = .ok (.ladd, 1) := by decide +kernel
theorem dX3_draw_15 : decode cX3_draw 15 = .ok (.ldc2_w 73, 3) := by decide +kernel
theorem dX3_draw_18 : decode cX3_draw 18 = .ok (.lrem, 1) := by decide +kernel
theorem dX3_draw_19 : decode cX3_draw 19 = .ok (.lstore_n 2, 1) := by decide +kernel
theorem dX3_draw_20 : decode cX3_draw 20 = .ok (.aload_n 0, 1) := by decide +kernel
theorem dX3_draw_21 : decode cX3_draw 21 = .ok (.getfield 7, 3) := by decide +kernel
theorem dX3_draw_24 : decode cX3_draw 24 = .ok (.iconst 5, 1) := by decide +kernel
theorem dX3_draw_25 : decode cX3_draw 25 = .ok (.lload_n 2, 1) := by decide +kernel
theorem dX3_draw_26 : decode cX3_draw 26 = .ok (.l2i, 1) := by decide +kernel
theorem dX3_draw_27 : decode cX3_draw 27 = .ok (.iastore, 1) := by decide +kernel
theorem dX3_draw_28 : decode cX3_draw 28 = .ok (.aload_n 0, 1) := by decide +kernel
theorem dX3_draw_29 : decode cX3_draw 29 = .ok (.getfield 7, 3) := by decide +kernel
theorem dX3_draw_32 : decode cX3_draw 32 = .ok (.iconst 5, 1) := by decide +kernel
theorem dX3_draw_33 : decode cX3_draw 33 = .ok (.iaload, 1) := by decide +kernel
theorem dX3_draw_34 : decode cX3_draw 34 = .ok (.ldc 75, 2) := by decide +kernel
theorem dX3_draw_36 : decode cX3_draw 36 = .ok (.idiv, 1) := by decide +kernel
theorem dX3_draw_37 : decode cX3_draw 37 = .ok (.iload_n 1, 1) := by decide +kernel
theorem dX3_draw_38 : decode cX3_draw 38 = .ok (.irem, 1) := by decide +kernel
theorem dX3_draw_39 : decode cX3_draw 39 = .ok (.ireturn, 1) := by decide +kernel
theorem dX3_nextTo_0 : decode cX3_nextTo 0 = .ok (.bipush (-9), 2) := by decide +kernel
theorem dX3_nextTo_2 : decode cX3_nextTo 2 = .ok (.istore_n 3, 1) := by decide +kernel
theorem dX3_nextTo_3 : decode cX3_nextTo 3 = .ok (.iconst 0, 1) := by decide +kernel
theorem dX3_nextTo_4 : decode cX3_nextTo 4 = .ok (.istore 4, 2) := by decide +kernel
theorem dX3_nextTo_6 : decode cX3_nextTo 6 = .ok (.iload 4, 2) := by decide +kernel
theorem dX3_nextTo_8 : decode cX3_nextTo 8 = .ok (.aload_n 0, 1) := by decide +kernel
theorem dX3_nextTo_9 : decode cX3_nextTo 9 = .ok (.invokevirtual 40, 3) := by decide +kernel
theorem dX3_nextTo_12 : decode cX3_nextTo 12 = .ok (.if_icmp .ge 53, 3) := by decide +kernel
theorem dX3_nextTo_15 : decode cX3_nextTo 15 = .ok (.aload_n 0, 1) := by decide +kernel
theorem dX3_nextTo_16 : decode cX3_nextTo 16 = .ok (.iload_n 1, 1) := by decide +kernel
theorem dX3_nextTo_17 : decode cX3_nextTo 17 = .ok (.iload 4, 2) := by decide +kernel
theorem dX3_nextTo_19 : decode cX3_nextTo 19 = .ok (.invokevirtual 76, 3) := by decide +kernel
theorem dX3_nextTo_22 : decode cX3_nextTo 22 = .ok (.ifCond .eq 37, 3) := by decide +kernel
theorem dX3_nextTo_25 : decode cX3_nextTo 25 = .ok (.aload_n 0, 1) := by decide +kernel
theorem dX3_nextTo_26 : decode cX3_nextTo 26 = .ok (.iload 4, 2) := by decide +kernel
theorem dX3_nextTo_28 : decode cX3_nextTo 28 = .ok (.iload_n 2, 1) := by decide +kernel
theorem dX3_nextTo_29 : decode cX3_nextTo 29 = .ok (.invokevirtual 59, 3) := by decide +kernel
theorem dX3_nextTo_32 : decode cX3_nextTo 32 = .ok (.iload_n 3, 1) := by decide +kernel
theorem dX3_nextTo_33 : decode cX3_nextTo 33 = .ok (.bipush (-9), 2) := by decide +kernel
theorem dX3_nextTo_35 : decode cX3_nextTo 35 = .ok (.if_icmp .ne 12, 3) := by decide +kernel
theorem dX3_nextTo_38 : decode cX3_nextTo 38 = .ok (.aload_n 0, 1) := by decide +kernel
theorem dX3_nextTo_39 : decode cX3_nextTo 39 = .ok (.iload_n 1, 1) := by decide +kernel
theorem dX3_nextTo_40 : decode cX3_nextTo 40 = .ok (.iload_n 2, 1) := by decide +kernel
theorem dX3_nextTo_41 : decode cX3_nextTo 41 = .ok (.invokevirtual 59, 3) := by decide +kernel
theorem dX3_nextTo_44 : decode cX3_nextTo 44 = .ok (.goto 9, 3) := by decide +kernel
theorem dX3_nextTo_47 : decode cX3_nextTo 47 = .ok (.aload_n 0, 1) := by decide +kernel
theorem dX3_nextTo_48 : decode cX3_nextTo 48 = .ok (.iload_n 3, 1) := by decide +kernel
theorem dX3_nextTo_49 : decode cX3_nextTo 49 = .ok (.iload_n 2, 1) := by decide +kernel
theorem dX3_nextTo_50 : decode cX3_nextTo 50 = .ok (.invokevirtual 59, 3) := by decide +kernel
theorem dX3_nextTo_53 : decode cX3_nextTo 53 = .ok (.if_icmp .ge 6, 3) := by decide +kernel
theorem dX3_nextTo_56 : decode cX3_nextTo 56 = .ok (.iload 4, 2) := by decide +kernel
theorem dX3_nextTo_58 : decode cX3_nextTo 58 = .ok (.istore_n 3, 1) := by decide +kernel
theorem dX3_nextTo_59 : decode cX3_nextTo 59 = .ok (.iinc 4 1, 3) := by decide +kernel
theorem dX3_nextTo_62 : decode cX3_nextTo 62 = .ok (.goto (-56), 3) := by decide +kernel
theorem dX3_nextTo_65 : decode cX3_nextTo 65 = .ok (.iload_n 3, 1) := by decide +kernel
theorem dX3_nextTo_66 : decode cX3_nextTo 66 = .ok (.ireturn, 1) := by decide +kernel
theorem dX3_layRoute_0 : decode cX3_layRoute 0 = .ok (.aload_n 0, 1) := by decide +kernel
theorem dX3_layRoute_1 : decode cX3_layRoute 1 = .ok (.getfield 19, 3) := by decide +kernel
theorem dX3_layRoute_4 : decode cX3_layRoute 4 = .ok (.iconst 0, 1) := by decide +kernel
theorem dX3_layRoute_5 : decode cX3_layRoute 5 = .ok (.iload_n 1, 1) := by decide +kernel
theorem dX3_layRoute_6 : decode cX3_layRoute 6 = .ok (.iastore, 1) := by decide +kernel
theorem dX3_layRoute_7 : decode cX3_layRoute 7 = .ok (.aload_n 0, 1) := by decide +kernel
theorem dX3_layRoute_8 : decode cX3_layRoute 8 = .ok (.iconst 0, 1) := by decide +kernel
theorem dX3_layRoute_9 : decode cX3_layRoute 9 = .ok (.putfield 79, 3) := by decide +kernel
theorem dX3_layRoute_12 : decode cX3_layRoute 12 = .ok (.iload_n 1, 1) := by decide +kernel
theorem dX3_layRoute_13 : decode cX3_layRoute 13 = .ok (.istore_n 3, 1) := by decide +kernel
theorem dX3_layRoute_14 : decode cX3_layRoute 14 = .ok (.iload_n 3, 1) := by decide +kernel
theorem dX3_layRoute_15 : decode cX3_layRoute 15 = .ok (.bipush (-9), 2) := by decide +kernel
theorem dX3_layRoute_17 : decode cX3_layRoute 17 = .ok (.if_icmp .eq 52, 3) := by decide +kernel
theorem dX3_layRoute_20 : decode cX3_layRoute 20 = .ok (.iload_n 3, 1) := by decide +kernel
theorem dX3_layRoute_21 : decode cX3_layRoute 21 = .ok (.iload_n 2, 1) := by decide +kernel
theorem dX3_layRoute_22 : decode cX3_layRoute 22 = .ok (.if_icmp .eq 47, 3) := by decide +kernel
theorem dX3_layRoute_25 : decode cX3_layRoute 25 = .ok (.aload_n 0, 1) := by decide +kernel
theorem dX3_layRoute_26 : decode cX3_layRoute 26 = .ok (.aload_n 0, 1) := by decide +kernel
theorem dX3_layRoute_27 : decode cX3_layRoute 27 = .ok (.getfield 19, 3) := by decide +kernel
theorem dX3_layRoute_30 : decode cX3_layRoute 30 = .ok (.aload_n 0, 1) := by decide +kernel
theorem dX3_layRoute_31 : decode cX3_layRoute 31 = .ok (.getfield 79, 3) := by decide +kernel
theorem dX3_layRoute_34 : decode cX3_layRoute 34 = .ok (.iaload, 1) := by decide +kernel
theorem dX3_layRoute_35 : decode cX3_layRoute 35 = .ok (.iload_n 2, 1) := by decide +kernel
theorem dX3_layRoute_36 : decode cX3_layRoute 36 = .ok (.invokevirtual 82, 3) := by decide +kernel
theorem dX3_layRoute_39 : decode cX3_layRoute 39 = .ok (.istore_n 3, 1) := by decide +kernel
theorem dX3_layRoute_40 : decode cX3_layRoute 40 = .ok (.iload_n 3, 1) := by decide +kernel
theorem dX3_layRoute_41 : decode cX3_layRoute 41 = .ok (.bipush (-9), 2) := by decide +kernel
theorem dX3_layRoute_43 : decode cX3_layRoute 43 = .ok (.if_icmp .eq (-29), 3) := by decide +kernel
theorem dX3_layRoute_46 : decode cX3_layRoute 46 = .ok (.aload_n 0, 1) := by decide +kernel
theorem dX3_layRoute_47 : decode cX3_layRoute 47 = .ok (.dup, 1) := by decide +kernel
theorem dX3_layRoute_48 : decode cX3_layRoute 48 = .ok (.getfield 79, 3) := by decide +kernel
theorem dX3_layRoute_51 : decode cX3_layRoute 51 = .ok (.iconst 1, 1) := by decide +kernel
theorem dX3_layRoute_52 : decode cX3_layRoute 52 = .ok (.iadd, 1) := by decide +kernel
theorem dX3_layRoute_53 : decode cX3_layRoute 53 = .ok (.putfield 79, 3) := by decide +kernel
theorem dX3_layRoute_56 : decode cX3_layRoute 56 = .ok (.aload_n 0, 1) := by decide +kernel
theorem dX3_layRoute_57 : decode cX3_layRoute 57 = .ok (.getfield 19, 3) := by decide +kernel
theorem dX3_layRoute_60 : decode cX3_layRoute 60 = .ok (.aload_n 0, 1) := by decide +kernel
theorem dX3_layRoute_61 : decode cX3_layRoute 61 = .ok (.getfield 79, 3) := by decide +kernel
theorem dX3_layRoute_64 : decode cX3_layRoute 64 = .ok (.iload_n 3, 1) := by decide +kernel
theorem dX3_layRoute_65 : decode cX3_layRoute 65 = .ok (.iastore, 1) := by decide +kernel
theorem dX3_layRoute_66 : decode cX3_layRoute 66 = .ok (.goto (-52), 3) := by decide +kernel
theorem dX3_layRoute_69 : decode cX3_layRoute 69 = .ok (.aload_n 0, 1) := by decide +kernel
theorem dX3_layRoute_70 : decode cX3_layRoute 70 = .ok (.iload_n 3, 1) := by decide +kernel
theorem dX3_layRoute_71 : decode cX3_layRoute 71 = .ok (.iload_n 2, 1) := by decide +kernel
theorem dX3_layRoute_72 : decode cX3_layRoute 72 = .ok (.if_icmp .ne 7, 3) := by decide +kernel
theorem dX3_layRoute_75 : decode cX3_layRoute 75 = .ok (.iconst 1, 1) := by decide +kernel
theorem dX3_layRoute_76 : decode cX3_layRoute 76 = .ok (.goto 4, 3) := by decide +kernel
theorem dX3_layRoute_79 : decode cX3_layRoute 79 = .ok (.iconst 0, 1) := by decide +kernel
theorem dX3_layRoute_80 : decode cX3_layRoute 80 = .ok (.putfield 85, 3) := by decide +kernel
theorem dX3_layRoute_83 : decode cX3_layRoute 83 = .ok (.return_, 1) := by decide +kernel
theorem dX3_rewire_0 : decode cX3_rewire 0 = .ok (.aload_n 0, 1) := by decide +kernel
theorem dX3_rewire_1 : decode cX3_rewire 1 = .ok (.getfield 7, 3) := by decide +kernel
theorem dX3_rewire_4 : decode cX3_rewire 4 = .ok (.iconst 3, 1) := by decide +kernel
theorem dX3_rewire_5 : decode cX3_rewire 5 = .ok (.iaload, 1) := by decide +kernel
theorem dX3_rewire_6 : decode cX3_rewire 6 = .ok (.iconst 1, 1) := by decide +kernel
theorem dX3_rewire_7 : decode cX3_rewire 7 = .ok (.if_icmp .ne 14, 3) := by decide +kernel
theorem dX3_rewire_10 : decode cX3_rewire 10 = .ok (.aload_n 0, 1) := by decide +kernel
theorem dX3_rewire_11 : decode cX3_rewire 11 = .ok (.aload_n 0, 1) := by decide +kernel
theorem dX3_rewire_12 : decode cX3_rewire 12 = .ok (.getfield 19, 3) := by decide +kernel
theorem dX3_rewire_15 : decode cX3_rewire 15 = .ok (.iconst 0, 1) := by decide +kernel
theorem dX3_rewire_16 : decode cX3_rewire 16 = .ok (.iaload, 1) := by decide +kernel
theorem dX3_rewire_17 : decode cX3_rewire 17 = .ok (.iload_n 1, 1) := by decide +kernel
theorem dX3_rewire_18 : decode cX3_rewire 18 = .ok (.invokevirtual 89, 3) := by decide +kernel
theorem dX3_rewire_21 : decode cX3_rewire 21 = .ok (.aload_n 0, 1) := by decide +kernel
theorem dX3_rewire_22 : decode cX3_rewire 22 = .ok (.getfield 7, 3) := by decide +kernel
theorem dX3_rewire_25 : decode cX3_rewire 25 = .ok (.iconst 3, 1) := by decide +kernel
theorem dX3_rewire_26 : decode cX3_rewire 26 = .ok (.iaload, 1) := by decide +kernel
theorem dX3_rewire_27 : decode cX3_rewire 27 = .ok (.iconst 2, 1) := by decide +kernel
theorem dX3_rewire_28 : decode cX3_rewire 28 = .ok (.if_icmp .ne 43, 3) := by decide +kernel
theorem dX3_rewire_31 : decode cX3_rewire 31 = .ok (.iconst 0, 1) := by decide +kernel
theorem dX3_rewire_32 : decode cX3_rewire 32 = .ok (.istore_n 2, 1) := by decide +kernel
theorem dX3_rewire_33 : decode cX3_rewire 33 = .ok (.iload_n 2, 1) := by decide +kernel
theorem dX3_rewire_34 : decode cX3_rewire 34 = .ok (.aload_n 0, 1) := by decide +kernel
theorem dX3_rewire_35 : decode cX3_rewire 35 = .ok (.getfield 79, 3) := by decide +kernel
theorem dX3_rewire_38 : decode cX3_rewire 38 = .ok (.if_icmp .ge 33, 3) := by decide +kernel
theorem dX3_rewire_41 : decode cX3_rewire 41 = .ok (.aload_n 0, 1) := by decide +kernel
theorem dX3_rewire_42 : decode cX3_rewire 42 = .ok (.aload_n 0, 1) := by decide +kernel
theorem dX3_rewire_43 : decode cX3_rewire 43 = .ok (.getfield 7, 3) := by decide +kernel
theorem dX3_rewire_46 : decode cX3_rewire 46 = .ok (.iconst 4, 1) := by decide +kernel
theorem dX3_rewire_47 : decode cX3_rewire 47 = .ok (.iaload, 1) := by decide +kernel
theorem dX3_rewire_48 : decode cX3_rewire 48 = .ok (.invokevirtual 92, 3) := by decide +kernel
theorem dX3_rewire_51 : decode cX3_rewire 51 = .ok (.ifCond .ne 14, 3) := by decide +kernel
theorem dX3_rewire_54 : decode cX3_rewire 54 = .ok (.aload_n 0, 1) := by decide +kernel
theorem dX3_rewire_55 : decode cX3_rewire 55 = .ok (.aload_n 0, 1) := by decide +kernel
theorem dX3_rewire_56 : decode cX3_rewire 56 = .ok (.getfield 19, 3) := by decide +kernel
theorem dX3_rewire_59 : decode cX3_rewire 59 = .ok (.iload_n 2, 1) := by decide +kernel
theorem dX3_rewire_60 : decode cX3_rewire 60 = .ok (.iaload, 1) := by decide +kernel
theorem dX3_rewire_61 : decode cX3_rewire 61 = .ok (.iload_n 1, 1) := by decide +kernel
theorem dX3_rewire_62 : decode cX3_rewire 62 = .ok (.invokevirtual 89, 3) := by decide +kernel
theorem dX3_rewire_65 : decode cX3_rewire 65 = .ok (.iinc 2 1, 3) := by decide +kernel
theorem dX3_rewire_68 : decode cX3_rewire 68 = .ok (.goto (-35), 3) := by decide +kernel
theorem dX3_rewire_71 : decode cX3_rewire 71 = .ok (.aload_n 0, 1) := by decide +kernel
theorem dX3_rewire_72 : decode cX3_rewire 72 = .ok (.getfield 7, 3) := by decide +kernel
theorem dX3_rewire_75 : decode cX3_rewire 75 = .ok (.iconst 3, 1) := by decide +kernel
theorem dX3_rewire_76 : decode cX3_rewire 76 = .ok (.iaload, 1) := by decide +kernel
theorem dX3_rewire_77 : decode cX3_rewire 77 = .ok (.iconst 3, 1) := by decide +kernel
theorem dX3_rewire_78 : decode cX3_rewire 78 = .ok (.if_icmp .ne 27, 3) := by decide +kernel
theorem dX3_rewire_81 : decode cX3_rewire 81 = .ok (.aload_n 0, 1) := by decide +kernel
theorem dX3_rewire_82 : decode cX3_rewire 82 = .ok (.getfield 79, 3) := by decide +kernel
theorem dX3_rewire_85 : decode cX3_rewire 85 = .ok (.iconst 1, 1) := by decide +kernel
theorem dX3_rewire_86 : decode cX3_rewire 86 = .ok (.if_icmp .le 19, 3) := by decide +kernel
theorem dX3_rewire_89 : decode cX3_rewire 89 = .ok (.aload_n 0, 1) := by decide +kernel
theorem dX3_rewire_90 : decode cX3_rewire 90 = .ok (.aload_n 0, 1) := by decide +kernel
theorem dX3_rewire_91 : decode cX3_rewire 91 = .ok (.getfield 19, 3) := by decide +kernel
theorem dX3_rewire_94 : decode cX3_rewire 94 = .ok (.aload_n 0, 1) := by decide +kernel
theorem dX3_rewire_95 : decode cX3_rewire 95 = .ok (.getfield 79, 3) := by decide +kernel
theorem dX3_rewire_98 : decode cX3_rewire 98 = .ok (.iconst 2, 1) := by decide +kernel
theorem dX3_rewire_99 : decode cX3_rewire 99 = .ok (.idiv, 1) := by decide +kernel
theorem dX3_rewire_100 : decode cX3_rewire 100 = .ok (.iaload, 1) := by decide +kernel
theorem dX3_rewire_101 : decode cX3_rewire 101 = .ok (.iload_n 1, 1) := by decide +kernel
theorem dX3_rewire_102 : decode cX3_rewire 102 = .ok (.invokevirtual 89, 3) := by decide +kernel
theorem dX3_rewire_105 : decode cX3_rewire 105 = .ok (.return_, 1) := by decide +kernel
theorem dX3_lookUp_0 : decode cX3_lookUp 0 = .ok (.aload_n 0, 1) := by decide +kernel
theorem dX3_lookUp_1 : decode cX3_lookUp 1 = .ok (.iload_n 1, 1) := by decide +kernel
theorem dX3_lookUp_2 : decode cX3_lookUp 2 = .ok (.iload_n 2, 1) := by decide +kernel
theorem dX3_lookUp_3 : decode cX3_lookUp 3 = .ok (.invokevirtual 96, 3) := by decide +kernel
theorem dX3_lookUp_6 : decode cX3_lookUp 6 = .ok (.aload_n 0, 1) := by decide +kernel
theorem dX3_lookUp_7 : decode cX3_lookUp 7 = .ok (.getfield 85, 3) := by decide +kernel
theorem dX3_lookUp_10 : decode cX3_lookUp 10 = .ok (.ifCond .eq 8, 3) := by decide +kernel
theorem dX3_lookUp_13 : decode cX3_lookUp 13 = .ok (.aload_n 0, 1) := by decide +kernel
theorem dX3_lookUp_14 : decode cX3_lookUp 14 = .ok (.iload_n 2, 1) := by decide +kernel
theorem dX3_lookUp_15 : decode cX3_lookUp 15 = .ok (.invokevirtual 99, 3) := by decide +kernel
theorem dX3_lookUp_18 : decode cX3_lookUp 18 = .ok (.return_, 1) := by decide +kernel
theorem dX3_begin_0 : decode cX3_begin 0 = .ok (.iload_n 1, 1) := by decide +kernel
theorem dX3_begin_1 : decode cX3_begin 1 = .ok (.iconst 1, 1) := by decide +kernel
theorem dX3_begin_2 : decode cX3_begin 2 = .ok (.bipush 7, 2) := by decide +kernel
theorem dX3_begin_4 : decode cX3_begin 4 = .ok (.invokestatic 44, 3) := by decide +kernel
theorem dX3_begin_7 : decode cX3_begin 7 = .ok (.ifCond .eq 13, 3) := by decide +kernel
theorem dX3_begin_10 : decode cX3_begin 10 = .ok (.iload_n 2, 1) := by decide +kernel
theorem dX3_begin_11 : decode cX3_begin 11 = .ok (.iconst 1, 1) := by decide +kernel
theorem dX3_begin_12 : decode cX3_begin 12 = .ok (.bipush 7, 2) := by decide +kernel
theorem dX3_begin_14 : decode cX3_begin 14 = .ok (.invokestatic 44, 3) := by decide +kernel
theorem dX3_begin_17 : decode cX3_begin 17 = .ok (.ifCond .ne 5, 3) := by decide +kernel
theorem dX3_begin_20 : decode cX3_begin 20 = .ok (.iconst (-1), 1) := by decide +kernel
theorem dX3_begin_21 : decode cX3_begin 21 = .ok (.ireturn, 1) := by decide +kernel
theorem dX3_begin_22 : decode cX3_begin 22 = .ok (.aload_n 0, 1) := by decide +kernel
theorem dX3_begin_23 : decode cX3_begin 23 = .ok (.invokevirtual 40, 3) := by decide +kernel
theorem dX3_begin_26 : decode cX3_begin 26 = .ok (.istore_n 3, 1) := by decide +kernel
theorem dX3_begin_27 : decode cX3_begin 27 = .ok (.aload_n 0, 1) := by decide +kernel
theorem dX3_begin_28 : decode cX3_begin 28 = .ok (.invokevirtual 103, 3) := by decide +kernel
theorem dX3_begin_31 : decode cX3_begin 31 = .ok (.aload_n 0, 1) := by decide +kernel
theorem dX3_begin_32 : decode cX3_begin 32 = .ok (.iload_n 1, 1) := by decide +kernel
theorem dX3_begin_33 : decode cX3_begin 33 = .ok (.iload_n 2, 1) := by decide +kernel
theorem dX3_begin_34 : decode cX3_begin 34 = .ok (.invokevirtual 32, 3) := by decide +kernel
theorem dX3_begin_37 : decode cX3_begin 37 = .ok (.iload_n 3, 1) := by decide +kernel
theorem dX3_begin_38 : decode cX3_begin 38 = .ok (.ireturn, 1) := by decide +kernel
theorem dX3_link_0 : decode cX3_link 0 = .ok (.aload_n 0, 1) := by decide +kernel
theorem dX3_link_1 : decode cX3_link 1 = .ok (.iload_n 1, 1) := by decide +kernel
theorem dX3_link_2 : decode cX3_link 2 = .ok (.invokevirtual 106, 3) := by decide +kernel
theorem dX3_link_5 : decode cX3_link 5 = .ok (.ifCond .eq 16, 3) := by decide +kernel
theorem dX3_link_8 : decode cX3_link 8 = .ok (.aload_n 0, 1) := by decide +kernel
theorem dX3_link_9 : decode cX3_link 9 = .ok (.iload_n 2, 1) := by decide +kernel
theorem dX3_link_10 : decode cX3_link 10 = .ok (.invokevirtual 106, 3) := by decide +kernel
theorem dX3_link_13 : decode cX3_link 13 = .ok (.ifCond .eq 8, 3) := by decide +kernel
theorem dX3_link_16 : decode cX3_link 16 = .ok (.iload_n 1, 1) := by decide +kernel
theorem dX3_link_17 : decode cX3_link 17 = .ok (.iload_n 2, 1) := by decide +kernel
theorem dX3_link_18 : decode cX3_link 18 = .ok (.if_icmp .ne 5, 3) := by decide +kernel
theorem dX3_link_21 : decode cX3_link 21 = .ok (.iconst (-1), 1) := by decide +kernel
theorem dX3_link_22 : decode cX3_link 22 = .ok (.ireturn, 1) := by decide +kernel
theorem dX3_link_23 : decode cX3_link 23 = .ok (.aload_n 0, 1) := by decide +kernel
theorem dX3_link_24 : decode cX3_link 24 = .ok (.iload_n 1, 1) := by decide +kernel
theorem dX3_link_25 : decode cX3_link 25 = .ok (.invokevirtual 55, 3) := by decide +kernel
theorem dX3_link_28 : decode cX3_link 28 = .ok (.ifCond .eq 11, 3) := by decide +kernel
theorem dX3_link_31 : decode cX3_link 31 = .ok (.aload_n 0, 1) := by decide +kernel
theorem dX3_link_32 : decode cX3_link 32 = .ok (.iload_n 2, 1) := by decide +kernel
theorem dX3_link_33 : decode cX3_link 33 = .ok (.invokevirtual 55, 3) := by decide +kernel
theorem dX3_link_36 : decode cX3_link 36 = .ok (.ifCond .ne 6, 3) := by decide +kernel
theorem dX3_link_39 : decode cX3_link 39 = .ok (.bipush (-2), 2) := by decide +kernel
theorem dX3_link_41 : decode cX3_link 41 = .ok (.ireturn, 1) := by decide +kernel
theorem dX3_link_42 : decode cX3_link 42 = .ok (.aload_n 0, 1) := by decide +kernel
theorem dX3_link_43 : decode cX3_link 43 = .ok (.invokevirtual 103, 3) := by decide +kernel
theorem dX3_link_46 : decode cX3_link 46 = .ok (.aload_n 0, 1) := by decide +kernel
theorem dX3_link_47 : decode cX3_link 47 = .ok (.iload_n 1, 1) := by decide +kernel
theorem dX3_link_48 : decode cX3_link 48 = .ok (.iload_n 2, 1) := by decide +kernel
theorem dX3_link_49 : decode cX3_link 49 = .ok (.invokevirtual 89, 3) := by decide +kernel
theorem dX3_link_52 : decode cX3_link 52 = .ok (.aload_n 0, 1) := by decide +kernel
theorem dX3_link_53 : decode cX3_link 53 = .ok (.getfield 7, 3) := by decide +kernel
theorem dX3_link_56 : decode cX3_link 56 = .ok (.bipush 104, 2) := by decide +kernel
theorem dX3_link_58 : decode cX3_link 58 = .ok (.iload_n 1, 1) := by decide +kernel
theorem dX3_link_59 : decode cX3_link 59 = .ok (.iadd, 1) := by decide +kernel
theorem dX3_link_60 : decode cX3_link 60 = .ok (.iaload, 1) := by decide +kernel
theorem dX3_link_61 : decode cX3_link 61 = .ok (.ireturn, 1) := by decide +kernel
theorem dX3_unlink_0 : decode cX3_unlink 0 = .ok (.aload_n 0, 1) := by decide +kernel
theorem dX3_unlink_1 : decode cX3_unlink 1 = .ok (.iload_n 1, 1) := by decide +kernel
theorem dX3_unlink_2 : decode cX3_unlink 2 = .ok (.invokevirtual 106, 3) := by decide +kernel
theorem dX3_unlink_5 : decode cX3_unlink 5 = .ok (.ifCond .eq 22, 3) := by decide +kernel
theorem dX3_unlink_8 : decode cX3_unlink 8 = .ok (.iload_n 2, 1) := by decide +kernel
theorem dX3_unlink_9 : decode cX3_unlink 9 = .ok (.iconst 0, 1) := by decide +kernel
theorem dX3_unlink_10 : decode cX3_unlink 10 = .ok (.aload_n 0, 1) := by decide +kernel
theorem dX3_unlink_11 : decode cX3_unlink 11 = .ok (.getfield 7, 3) := by decide +kernel
theorem dX3_unlink_14 : decode cX3_unlink 14 = .ok (.bipush 104, 2) := by decide +kernel
theorem dX3_unlink_16 : decode cX3_unlink 16 = .ok (.iload_n 1, 1) := by decide +kernel
theorem dX3_unlink_17 : decode cX3_unlink 17 = .ok (.iadd, 1) := by decide +kernel
theorem dX3_unlink_18 : decode cX3_unlink 18 = .ok (.iaload, 1) := by decide +kernel
theorem dX3_unlink_19 : decode cX3_unlink 19 = .ok (.iconst 1, 1) := by decide +kernel
theorem dX3_unlink_20 : decode cX3_unlink 20 = .ok (.isub, 1) := by decide +kernel
theorem dX3_unlink_21 : decode cX3_unlink 21 = .ok (.invokestatic 44, 3) := by decide +kernel
theorem dX3_unlink_24 : decode cX3_unlink 24 = .ok (.ifCond .ne 5, 3) := by decide +kernel
theorem dX3_unlink_27 : decode cX3_unlink 27 = .ok (.iconst (-1), 1) := by decide +kernel
theorem dX3_unlink_28 : decode cX3_unlink 28 = .ok (.ireturn, 1) := by decide +kernel
theorem dX3_unlink_29 : decode cX3_unlink 29 = .ok (.aload_n 0, 1) := by decide +kernel
theorem dX3_unlink_30 : decode cX3_unlink 30 = .ok (.invokevirtual 103, 3) := by decide +kernel
theorem dX3_unlink_33 : decode cX3_unlink 33 = .ok (.aload_n 0, 1) := by decide +kernel
theorem dX3_unlink_34 : decode cX3_unlink 34 = .ok (.iload_n 1, 1) := by decide +kernel
theorem dX3_unlink_35 : decode cX3_unlink 35 = .ok (.iload_n 2, 1) := by decide +kernel
theorem dX3_unlink_36 : decode cX3_unlink 36 = .ok (.invokevirtual 52, 3) := by decide +kernel
theorem dX3_unlink_39 : decode cX3_unlink 39 = .ok (.istore_n 3, 1) := by decide +kernel
theorem dX3_unlink_40 : decode cX3_unlink 40 = .ok (.aload_n 0, 1) := by decide +kernel
theorem dX3_unlink_41 : decode cX3_unlink 41 = .ok (.iload_n 1, 1) := by decide +kernel
theorem dX3_unlink_42 : decode cX3_unlink 42 = .ok (.iload_n 2, 1) := by decide +kernel
theorem dX3_unlink_43 : decode cX3_unlink 43 = .ok (.invokevirtual 66, 3) := by decide +kernel
theorem dX3_unlink_46 : decode cX3_unlink 46 = .ok (.iload_n 3, 1) := by decide +kernel
theorem dX3_unlink_47 : decode cX3_unlink 47 = .ok (.ireturn, 1) := by decide +kernel
theorem dX3_weight_0 : decode cX3_weight 0 = .ok (.iload_n 1, 1) := by decide +kernel
theorem dX3_weight_1 : decode cX3_weight 1 = .ok (.iload_n 2, 1) := by decide +kernel
theorem dX3_weight_2 : decode cX3_weight 2 = .ok (.if_icmp .eq 20, 3) := by decide +kernel
theorem dX3_weight_5 : decode cX3_weight 5 = .ok (.aload_n 0, 1) := by decide +kernel
theorem dX3_weight_6 : decode cX3_weight 6 = .ok (.iload_n 2, 1) := by decide +kernel
theorem dX3_weight_7 : decode cX3_weight 7 = .ok (.invokevirtual 55, 3) := by decide +kernel
theorem dX3_weight_10 : decode cX3_weight 10 = .ok (.ifCond .eq 12, 3) := by decide +kernel
theorem dX3_weight_13 : decode cX3_weight 13 = .ok (.aload_n 0, 1) := by decide +kernel
theorem dX3_weight_14 : decode cX3_weight 14 = .ok (.iload_n 1, 1) := by decide +kernel
theorem dX3_weight_15 : decode cX3_weight 15 = .ok (.iload_n 2, 1) := by decide +kernel
theorem dX3_weight_16 : decode cX3_weight 16 = .ok (.invokevirtual 76, 3) := by decide +kernel
theorem dX3_weight_19 : decode cX3_weight 19 = .ok (.ifCond .eq 5, 3) := by decide +kernel
theorem dX3_weight_22 : decode cX3_weight 22 = .ok (.iconst 0, 1) := by decide +kernel
theorem dX3_weight_23 : decode cX3_weight 23 = .ok (.ireturn, 1) := by decide +kernel
theorem dX3_weight_24 : decode cX3_weight 24 = .ok (.aload_n 0, 1) := by decide +kernel
theorem dX3_weight_25 : decode cX3_weight 25 = .ok (.iload_n 1, 1) := by decide +kernel
theorem dX3_weight_26 : decode cX3_weight 26 = .ok (.iload_n 2, 1) := by decide +kernel
theorem dX3_weight_27 : decode cX3_weight 27 = .ok (.invokevirtual 59, 3) := by decide +kernel
theorem dX3_weight_30 : decode cX3_weight 30 = .ok (.istore 4, 2) := by decide +kernel
theorem dX3_weight_32 : decode cX3_weight 32 = .ok (.iload_n 3, 1) := by decide +kernel
theorem dX3_weight_33 : decode cX3_weight 33 = .ok (.ifCond .ne 7, 3) := by decide +kernel
theorem dX3_weight_36 : decode cX3_weight 36 = .ok (.iconst 1, 1) := by decide +kernel
theorem dX3_weight_37 : decode cX3_weight 37 = .ok (.goto 25, 3) := by decide +kernel
theorem dX3_weight_40 : decode cX3_weight 40 = .ok (.iload_n 3, 1) := by decide +kernel
theorem dX3_weight_41 : decode cX3_weight 41 = .ok (.iconst 1, 1) := by decide +kernel
theorem dX3_weight_42 : decode cX3_weight 42 = .ok (.if_icmp .ne 11, 3) := by decide +kernel
theorem dX3_weight_45 : decode cX3_weight 45 = .ok (.bipush 60, 2) := by decide +kernel
theorem dX3_weight_47 : decode cX3_weight 47 = .ok (.iload 4, 2) := by decide +kernel
theorem dX3_weight_49 : decode cX3_weight 49 = .ok (.idiv, 1) := by decide +kernel
theorem dX3_weight_50 : decode cX3_weight 50 = .ok (.goto 12, 3) := by decide +kernel
theorem dX3_weight_53 : decode cX3_weight 53 = .ok (.sipush 3600, 3) := by decide +kernel
theorem dX3_weight_56 : decode cX3_weight 56 = .ok (.iload 4, 2) := by decide +kernel
theorem dX3_weight_58 : decode cX3_weight 58 = .ok (.iload 4, 2) := by decide +kernel
theorem dX3_weight_60 : decode cX3_weight 60 = .ok (.imul, 1) := by decide +kernel
theorem dX3_weight_61 : decode cX3_weight 61 = .ok (.idiv, 1) := by decide +kernel
theorem dX3_weight_62 : decode cX3_weight 62 = .ok (.ireturn, 1) := by decide +kernel
theorem dX3_drawLink_0 : decode cX3_drawLink 0 = .ok (.aload_n 0, 1) := by decide +kernel
theorem dX3_drawLink_1 : decode cX3_drawLink 1 = .ok (.iload_n 1, 1) := by decide +kernel
theorem dX3_drawLink_2 : decode cX3_drawLink 2 = .ok (.invokevirtual 106, 3) := by decide +kernel
theorem dX3_drawLink_5 : decode cX3_drawLink 5 = .ok (.ifCond .eq 12, 3) := by decide +kernel
theorem dX3_drawLink_8 : decode cX3_drawLink 8 = .ok (.iload_n 2, 1) := by decide +kernel
theorem dX3_drawLink_9 : decode cX3_drawLink 9 = .ok (.iconst 0, 1) := by decide +kernel
theorem dX3_drawLink_10 : decode cX3_drawLink 10 = .ok (.iconst 2, 1) := by decide +kernel
theorem dX3_drawLink_11 : decode cX3_drawLink 11 = .ok (.invokestatic 44, 3) := by decide +kernel
theorem dX3_drawLink_14 : decode cX3_drawLink 14 = .ok (.ifCond .ne 5, 3) := by decide +kernel
theorem dX3_drawLink_17 : decode cX3_drawLink 17 = .ok (.iconst (-1), 1) := by decide +kernel
theorem dX3_drawLink_18 : decode cX3_drawLink 18 = .ok (.ireturn, 1) := by decide +kernel
theorem dX3_drawLink_19 : decode cX3_drawLink 19 = .ok (.aload_n 0, 1) := by decide +kernel
theorem dX3_drawLink_20 : decode cX3_drawLink 20 = .ok (.iload_n 1, 1) := by decide +kernel
theorem dX3_drawLink_21 : decode cX3_drawLink 21 = .ok (.invokevirtual 55, 3) := by decide +kernel
theorem dX3_drawLink_24 : decode cX3_drawLink 24 = .ok (.ifCond .ne 6, 3) := by decide +kernel
theorem dX3_drawLink_27 : decode cX3_drawLink 27 = .ok (.bipush (-2), 2) := by decide +kernel
theorem dX3_drawLink_29 : decode cX3_drawLink 29 = .ok (.ireturn, 1) := by decide +kernel
theorem dX3_drawLink_30 : decode cX3_drawLink 30 = .ok (.aload_n 0, 1) := by decide +kernel
theorem dX3_drawLink_31 : decode cX3_drawLink 31 = .ok (.invokevirtual 103, 3) := by decide +kernel
theorem dX3_drawLink_34 : decode cX3_drawLink 34 = .ok (.iconst 0, 1) := by decide +kernel
theorem dX3_drawLink_35 : decode cX3_drawLink 35 = .ok (.istore_n 3, 1) := by decide +kernel
theorem dX3_drawLink_36 : decode cX3_drawLink 36 = .ok (.iconst 0, 1) := by decide +kernel
theorem dX3_drawLink_37 : decode cX3_drawLink 37 = .ok (.istore 4, 2) := by decide +kernel
theorem dX3_drawLink_39 : decode cX3_drawLink 39 = .ok (.iload 4, 2) := by decide +kernel
theorem dX3_drawLink_41 : decode cX3_drawLink 41 = .ok (.aload_n 0, 1) := by decide +kernel
theorem dX3_drawLink_42 : decode cX3_drawLink 42 = .ok (.invokevirtual 40, 3) := by decide +kernel
theorem dX3_drawLink_45 : decode cX3_drawLink 45 = .ok (.if_icmp .ge 20, 3) := by decide +kernel
theorem dX3_drawLink_48 : decode cX3_drawLink 48 = .ok (.iload_n 3, 1) := by decide +kernel
theorem dX3_drawLink_49 : decode cX3_drawLink 49 = .ok (.aload_n 0, 1) := by decide +kernel
theorem dX3_drawLink_50 : decode cX3_drawLink 50 = .ok (.iload_n 1, 1) := by decide +kernel
theorem dX3_drawLink_51 : decode cX3_drawLink 51 = .ok (.iload 4, 2) := by decide +kernel
theorem dX3_drawLink_53 : decode cX3_drawLink 53 = .ok (.iload_n 2, 1) := by decide +kernel
theorem dX3_drawLink_54 : decode cX3_drawLink 54 = .ok (.invokevirtual 109, 3) := by decide +kernel
theorem dX3_drawLink_57 : decode cX3_drawLink 57 = .ok (.iadd, 1) := by decide +kernel
theorem dX3_drawLink_58 : decode cX3_drawLink 58 = .ok (.istore_n 3, 1) := by decide +kernel
theorem dX3_drawLink_59 : decode cX3_drawLink 59 = .ok (.iinc 4 1, 3) := by decide +kernel
theorem dX3_drawLink_62 : decode cX3_drawLink 62 = .ok (.goto (-23), 3) := by decide +kernel
theorem dX3_drawLink_65 : decode cX3_drawLink 65 = .ok (.iload_n 3, 1) := by decide +kernel
theorem dX3_drawLink_66 : decode cX3_drawLink 66 = .ok (.ifCond .ne 6, 3) := by decide +kernel
theorem dX3_drawLink_69 : decode cX3_drawLink 69 = .ok (.bipush (-9), 2) := by decide +kernel
theorem dX3_drawLink_71 : decode cX3_drawLink 71 = .ok (.ireturn, 1) := by decide +kernel
theorem dX3_drawLink_72 : decode cX3_drawLink 72 = .ok (.aload_n 0, 1) := by decide +kernel
theorem dX3_drawLink_73 : decode cX3_drawLink 73 = .ok (.iload_n 3, 1) := by decide +kernel
theorem dX3_drawLink_74 : decode cX3_drawLink 74 = .ok (.invokevirtual 92, 3) := by decide +kernel
theorem dX3_drawLink_77 : decode cX3_drawLink 77 = .ok (.istore 4, 2) := by decide +kernel
theorem dX3_drawLink_79 : decode cX3_drawLink 79 = .ok (.iconst 0, 1) := by decide +kernel
theorem dX3_drawLink_80 : decode cX3_drawLink 80 = .ok (.istore 5, 2) := by decide +kernel
theorem dX3_drawLink_82 : decode cX3_drawLink 82 = .ok (.iload 4, 2) := by decide +kernel
theorem dX3_drawLink_84 : decode cX3_drawLink 84 = .ok (.aload_n 0, 1) := by decide +kernel
theorem dX3_drawLink_85 : decode cX3_drawLink 85 = .ok (.iload_n 1, 1) := by decide +kernel
theorem dX3_drawLink_86 : decode cX3_drawLink 86 = .ok (.iload 5, 2) := by decide +kernel
theorem dX3_drawLink_88 : decode cX3_drawLink 88 = .ok (.iload_n 2, 1) := by decide +kernel
theorem dX3_drawLink_89 : decode cX3_drawLink 89 = .ok (.invokevirtual 109, 3) := by decide +kernel
theorem dX3_drawLink_92 : decode cX3_drawLink 92 = .ok (.if_icmp .lt 22, 3) := by decide +kernel
theorem dX3_drawLink_95 : decode cX3_drawLink 95 = .ok (.iload 4, 2) := by decide +kernel
theorem dX3_drawLink_97 : decode cX3_drawLink 97 = .ok (.aload_n 0, 1) := by decide +kernel
theorem dX3_drawLink_98 : decode cX3_drawLink 98 = .ok (.iload_n 1, 1) := by decide +kernel
theorem dX3_drawLink_99 : decode cX3_drawLink 99 = .ok (.iload 5, 2) := by decide +kernel
theorem dX3_drawLink_101 : decode cX3_drawLink 101 = .ok (.iload_n 2, 1) := by decide +kernel
theorem dX3_drawLink_102 : decode cX3_drawLink 102 = .ok (.invokevirtual 109, 3) := by decide +kernel
theorem dX3_drawLink_105 : decode cX3_drawLink 105 = .ok (.isub, 1) := by decide +kernel
theorem dX3_drawLink_106 : decode cX3_drawLink 106 = .ok (.istore 4, 2) := by decide +kernel
theorem dX3_drawLink_108 : decode cX3_drawLink 108 = .ok (.iinc 5 1, 3) := by decide +kernel
theorem dX3_drawLink_111 : decode cX3_drawLink 111 = .ok (.goto (-29), 3) := by decide +kernel
theorem dX3_drawLink_114 : decode cX3_drawLink 114 = .ok (.aload_n 0, 1) := by decide +kernel
theorem dX3_drawLink_115 : decode cX3_drawLink 115 = .ok (.iload_n 1, 1) := by decide +kernel
theorem dX3_drawLink_116 : decode cX3_drawLink 116 = .ok (.iload 5, 2) := by decide +kernel
theorem dX3_drawLink_118 : decode cX3_drawLink 118 = .ok (.invokevirtual 89, 3) := by decide +kernel
theorem dX3_drawLink_121 : decode cX3_drawLink 121 = .ok (.iload 5, 2) := by decide +kernel
theorem dX3_drawLink_123 : decode cX3_drawLink 123 = .ok (.ireturn, 1) := by decide +kernel
theorem dX3_seek_0 : decode cX3_seek 0 = .ok (.aload_n 0, 1) := by decide +kernel
theorem dX3_seek_1 : decode cX3_seek 1 = .ok (.iload_n 1, 1) := by decide +kernel
theorem dX3_seek_2 : decode cX3_seek 2 = .ok (.invokevirtual 106, 3) := by decide +kernel
theorem dX3_seek_5 : decode cX3_seek 5 = .ok (.ifCond .eq 11, 3) := by decide +kernel
theorem dX3_seek_8 : decode cX3_seek 8 = .ok (.aload_n 0, 1) := by decide +kernel
theorem dX3_seek_9 : decode cX3_seek 9 = .ok (.iload_n 2, 1) := by decide +kernel
theorem dX3_seek_10 : decode cX3_seek 10 = .ok (.invokevirtual 106, 3) := by decide +kernel
theorem dX3_seek_13 : decode cX3_seek 13 = .ok (.ifCond .ne 5, 3) := by decide +kernel
theorem dX3_seek_16 : decode cX3_seek 16 = .ok (.iconst (-1), 1) := by decide +kernel
theorem dX3_seek_17 : decode cX3_seek 17 = .ok (.ireturn, 1) := by decide +kernel
theorem dX3_seek_18 : decode cX3_seek 18 = .ok (.aload_n 0, 1) := by decide +kernel
theorem dX3_seek_19 : decode cX3_seek 19 = .ok (.iload_n 1, 1) := by decide +kernel
theorem dX3_seek_20 : decode cX3_seek 20 = .ok (.invokevirtual 55, 3) := by decide +kernel
theorem dX3_seek_23 : decode cX3_seek 23 = .ok (.ifCond .eq 11, 3) := by decide +kernel
theorem dX3_seek_26 : decode cX3_seek 26 = .ok (.aload_n 0, 1) := by decide +kernel
theorem dX3_seek_27 : decode cX3_seek 27 = .ok (.iload_n 2, 1) := by decide +kernel
theorem dX3_seek_28 : decode cX3_seek 28 = .ok (.invokevirtual 55, 3) := by decide +kernel
theorem dX3_seek_31 : decode cX3_seek 31 = .ok (.ifCond .ne 6, 3) := by decide +kernel
theorem dX3_seek_34 : decode cX3_seek 34 = .ok (.bipush (-2), 2) := by decide +kernel
theorem dX3_seek_36 : decode cX3_seek 36 = .ok (.ireturn, 1) := by decide +kernel
theorem dX3_seek_37 : decode cX3_seek 37 = .ok (.aload_n 0, 1) := by decide +kernel
theorem dX3_seek_38 : decode cX3_seek 38 = .ok (.invokevirtual 103, 3) := by decide +kernel
theorem dX3_seek_41 : decode cX3_seek 41 = .ok (.aload_n 0, 1) := by decide +kernel
theorem dX3_seek_42 : decode cX3_seek 42 = .ok (.iload_n 1, 1) := by decide +kernel
theorem dX3_seek_43 : decode cX3_seek 43 = .ok (.iload_n 2, 1) := by decide +kernel
theorem dX3_seek_44 : decode cX3_seek 44 = .ok (.invokevirtual 113, 3) := by decide +kernel
theorem dX3_seek_47 : decode cX3_seek 47 = .ok (.aload_n 0, 1) := by decide +kernel
theorem dX3_seek_48 : decode cX3_seek 48 = .ok (.getfield 85, 3) := by decide +kernel
theorem dX3_seek_51 : decode cX3_seek 51 = .ok (.ifCond .eq 10, 3) := by decide +kernel
theorem dX3_seek_54 : decode cX3_seek 54 = .ok (.aload_n 0, 1) := by decide +kernel
theorem dX3_seek_55 : decode cX3_seek 55 = .ok (.getfield 79, 3) := by decide +kernel
theorem dX3_seek_58 : decode cX3_seek 58 = .ok (.goto 5, 3) := by decide +kernel
theorem dX3_seek_61 : decode cX3_seek 61 = .ok (.bipush (-9), 2) := by decide +kernel
theorem dX3_seek_63 : decode cX3_seek 63 = .ok (.ireturn, 1) := by decide +kernel
theorem dX3_seekSome_0 : decode cX3_seekSome 0 = .ok (.iload_n 1, 1) := by decide +kernel
theorem dX3_seekSome_1 : decode cX3_seekSome 1 = .ok (.iconst 1, 1) := by decide +kernel
theorem dX3_seekSome_2 : decode cX3_seekSome 2 = .ok (.bipush 20, 2) := by decide +kernel
theorem dX3_seekSome_4 : decode cX3_seekSome 4 = .ok (.invokestatic 44, 3) := by decide +kernel
theorem dX3_seekSome_7 : decode cX3_seekSome 7 = .ok (.ifCond .ne 5, 3) := by decide +kernel
theorem dX3_seekSome_10 : decode cX3_seekSome 10 = .ok (.iconst (-1), 1) := by decide +kernel
theorem dX3_seekSome_11 : decode cX3_seekSome 11 = .ok (.ireturn, 1) := by decide +kernel
theorem dX3_seekSome_12 : decode cX3_seekSome 12 = .ok (.aload_n 0, 1) := by decide +kernel
theorem dX3_seekSome_13 : decode cX3_seekSome 13 = .ok (.invokevirtual 103, 3) := by decide +kernel
theorem dX3_seekSome_16 : decode cX3_seekSome 16 = .ok (.iconst 0, 1) := by decide +kernel
theorem dX3_seekSome_17 : decode cX3_seekSome 17 = .ok (.istore_n 2, 1) := by decide +kernel
theorem dX3_seekSome_18 : decode cX3_seekSome 18 = .ok (.iconst 0, 1) := by decide +kernel
theorem dX3_seekSome_19 : decode cX3_seekSome 19 = .ok (.istore_n 3, 1) := by decide +kernel
theorem dX3_seekSome_20 : decode cX3_seekSome 20 = .ok (.iload_n 3, 1) := by decide +kernel
theorem dX3_seekSome_21 : decode cX3_seekSome 21 = .ok (.iload_n 1, 1) := by decide +kernel
theorem dX3_seekSome_22 : decode cX3_seekSome 22 = .ok (.if_icmp .ge 70, 3) := by decide +kernel
theorem dX3_seekSome_25 : decode cX3_seekSome 25 = .ok (.aload_n 0, 1) := by decide +kernel
theorem dX3_seekSome_26 : decode cX3_seekSome 26 = .ok (.aload_n 0, 1) := by decide +kernel
theorem dX3_seekSome_27 : decode cX3_seekSome 27 = .ok (.invokevirtual 40, 3) := by decide +kernel
theorem dX3_seekSome_30 : decode cX3_seekSome 30 = .ok (.invokevirtual 92, 3) := by decide +kernel
theorem dX3_seekSome_33 : decode cX3_seekSome 33 = .ok (.istore 4, 2) := by decide +kernel
theorem dX3_seekSome_35 : decode cX3_seekSome 35 = .ok (.aload_n 0, 1) := by decide +kernel
theorem dX3_seekSome_36 : decode cX3_seekSome 36 = .ok (.aload_n 0, 1) := by decide +kernel
theorem dX3_seekSome_37 : decode cX3_seekSome 37 = .ok (.invokevirtual 40, 3) := by decide +kernel
theorem dX3_seekSome_40 : decode cX3_seekSome 40 = .ok (.invokevirtual 92, 3) := by decide +kernel
theorem dX3_seekSome_43 : decode cX3_seekSome 43 = .ok (.istore 5, 2) := by decide +kernel
theorem dX3_seekSome_45 : decode cX3_seekSome 45 = .ok (.aload_n 0, 1) := by decide +kernel
theorem dX3_seekSome_46 : decode cX3_seekSome 46 = .ok (.iload 4, 2) := by decide +kernel
theorem dX3_seekSome_48 : decode cX3_seekSome 48 = .ok (.invokevirtual 55, 3) := by decide +kernel
theorem dX3_seekSome_51 : decode cX3_seekSome 51 = .ok (.ifCond .eq 35, 3) := by decide +kernel
theorem dX3_seekSome_54 : decode cX3_seekSome 54 = .ok (.aload_n 0, 1) := by decide +kernel
theorem dX3_seekSome_55 : decode cX3_seekSome 55 = .ok (.iload 5, 2) := by decide +kernel
theorem dX3_seekSome_57 : decode cX3_seekSome 57 = .ok (.invokevirtual 55, 3) := by decide +kernel
theorem dX3_seekSome_60 : decode cX3_seekSome 60 = .ok (.ifCond .eq 26, 3) := by decide +kernel
theorem dX3_seekSome_63 : decode cX3_seekSome 63 = .ok (.aload_n 0, 1) := by decide +kernel
theorem dX3_seekSome_64 : decode cX3_seekSome 64 = .ok (.iload 4, 2) := by decide +kernel
theorem dX3_seekSome_66 : decode cX3_seekSome 66 = .ok (.iload 5, 2) := by decide +kernel
theorem dX3_seekSome_68 : decode cX3_seekSome 68 = .ok (.invokevirtual 113, 3) := by decide +kernel
theorem dX3_seekSome_71 : decode cX3_seekSome 71 = .ok (.iload_n 2, 1) := by decide +kernel
theorem dX3_seekSome_72 : decode cX3_seekSome 72 = .ok (.aload_n 0, 1) := by decide +kernel
theorem dX3_seekSome_73 : decode cX3_seekSome 73 = .ok (.getfield 85, 3) := by decide +kernel
theorem dX3_seekSome_76 : decode cX3_seekSome 76 = .ok (.ifCond .eq 7, 3) := by decide +kernel
theorem dX3_seekSome_79 : decode cX3_seekSome 79 = .ok (.iconst 1, 1) := by decide +kernel
theorem dX3_seekSome_80 : decode cX3_seekSome 80 = .ok (.goto 4, 3) := by decide +kernel
theorem dX3_seekSome_83 : decode cX3_seekSome 83 = .ok (.iconst 0, 1) := by decide +kernel
theorem dX3_seekSome_84 : decode cX3_seekSome 84 = .ok (.iadd, 1) := by decide +kernel
theorem dX3_seekSome_85 : decode cX3_seekSome 85 = .ok (.istore_n 2, 1) := by decide +kernel
theorem dX3_seekSome_86 : decode cX3_seekSome 86 = .ok (.iinc 3 1, 3) := by decide +kernel
theorem dX3_seekSome_89 : decode cX3_seekSome 89 = .ok (.goto (-69), 3) := by decide +kernel
theorem dX3_seekSome_92 : decode cX3_seekSome 92 = .ok (.iload_n 2, 1) := by decide +kernel
theorem dX3_seekSome_93 : decode cX3_seekSome 93 = .ok (.ireturn, 1) := by decide +kernel
theorem dX3_allLengths_0 : decode cX3_allLengths 0 = .ok (.iconst 0, 1) := by decide +kernel
theorem dX3_allLengths_1 : decode cX3_allLengths 1 = .ok (.istore_n 1, 1) := by decide +kernel
theorem dX3_allLengths_2 : decode cX3_allLengths 2 = .ok (.iconst 0, 1) := by decide +kernel
theorem dX3_allLengths_3 : decode cX3_allLengths 3 = .ok (.istore_n 2, 1) := by decide +kernel
theorem dX3_allLengths_4 : decode cX3_allLengths 4 = .ok (.iload_n 2, 1) := by decide +kernel
theorem dX3_allLengths_5 : decode cX3_allLengths 5 = .ok (.aload_n 0, 1) := by decide +kernel
theorem dX3_allLengths_6 : decode cX3_allLengths 6 = .ok (.invokevirtual 40, 3) := by decide +kernel
theorem dX3_allLengths_9 : decode cX3_allLengths 9 = .ok (.if_icmp .ge 44, 3) := by decide +kernel
theorem dX3_allLengths_12 : decode cX3_allLengths 12 = .ok (.iconst 0, 1) := by decide +kernel
theorem dX3_allLengths_13 : decode cX3_allLengths 13 = .ok (.istore_n 3, 1) := by decide +kernel
theorem dX3_allLengths_14 : decode cX3_allLengths 14 = .ok (.iload_n 3, 1) := by decide +kernel
theorem dX3_allLengths_15 : decode cX3_allLengths 15 = .ok (.aload_n 0, 1) := by decide +kernel
theorem dX3_allLengths_16 : decode cX3_allLengths 16 = .ok (.getfield 7, 3) := by decide +kernel
theorem dX3_allLengths_19 : decode cX3_allLengths 19 = .ok (.bipush 104, 2) := by decide +kernel
theorem dX3_allLengths_21 : decode cX3_allLengths 21 = .ok (.iload_n 2, 1) := by decide +kernel
theorem dX3_allLengths_22 : decode cX3_allLengths 22 = .ok (.iadd, 1) := by decide +kernel
theorem dX3_allLengths_23 : decode cX3_allLengths 23 = .ok (.iaload, 1) := by decide +kernel
theorem dX3_allLengths_24 : decode cX3_allLengths 24 = .ok (.if_icmp .ge 23, 3) := by decide +kernel
theorem dX3_allLengths_27 : decode cX3_allLengths 27 = .ok (.iload_n 1, 1) := by decide +kernel
theorem dX3_allLengths_28 : decode cX3_allLengths 28 = .ok (.aload_n 0, 1) := by decide +kernel
theorem dX3_allLengths_29 : decode cX3_allLengths 29 = .ok (.iload_n 2, 1) := by decide +kernel
theorem dX3_allLengths_30 : decode cX3_allLengths 30 = .ok (.aload_n 0, 1) := by decide +kernel
theorem dX3_allLengths_31 : decode cX3_allLengths 31 = .ok (.iload_n 2, 1) := by decide +kernel
theorem dX3_allLengths_32 : decode cX3_allLengths 32 = .ok (.iload_n 3, 1) := by decide +kernel
theorem dX3_allLengths_33 : decode cX3_allLengths 33 = .ok (.invokevirtual 52, 3) := by decide +kernel
theorem dX3_allLengths_36 : decode cX3_allLengths 36 = .ok (.invokevirtual 59, 3) := by decide +kernel
theorem dX3_allLengths_39 : decode cX3_allLengths 39 = .ok (.iadd, 1) := by decide +kernel
theorem dX3_allLengths_40 : decode cX3_allLengths 40 = .ok (.istore_n 1, 1) := by decide +kernel
theorem dX3_allLengths_41 : decode cX3_allLengths 41 = .ok (.iinc 3 1, 3) := by decide +kernel
theorem dX3_allLengths_44 : decode cX3_allLengths 44 = .ok (.goto (-30), 3) := by decide +kernel
theorem dX3_allLengths_47 : decode cX3_allLengths 47 = .ok (.iinc 2 1, 3) := by decide +kernel
theorem dX3_allLengths_50 : decode cX3_allLengths 50 = .ok (.goto (-46), 3) := by decide +kernel
theorem dX3_allLengths_53 : decode cX3_allLengths 53 = .ok (.iload_n 1, 1) := by decide +kernel
theorem dX3_allLengths_54 : decode cX3_allLengths 54 = .ok (.ireturn, 1) := by decide +kernel
theorem dX3_swap_0 : decode cX3_swap 0 = .ok (.aload_n 0, 1) := by decide +kernel
theorem dX3_swap_1 : decode cX3_swap 1 = .ok (.getfield 7, 3) := by decide +kernel
theorem dX3_swap_4 : decode cX3_swap 4 = .ok (.bipush 6, 2) := by decide +kernel
theorem dX3_swap_6 : decode cX3_swap 6 = .ok (.iload_n 1, 1) := by decide +kernel
theorem dX3_swap_7 : decode cX3_swap 7 = .ok (.iadd, 1) := by decide +kernel
theorem dX3_swap_8 : decode cX3_swap 8 = .ok (.iaload, 1) := by decide +kernel
theorem dX3_swap_9 : decode cX3_swap 9 = .ok (.istore_n 3, 1) := by decide +kernel
theorem dX3_swap_10 : decode cX3_swap 10 = .ok (.aload_n 0, 1) := by decide +kernel
theorem dX3_swap_11 : decode cX3_swap 11 = .ok (.getfield 7, 3) := by decide +kernel
theorem dX3_swap_14 : decode cX3_swap 14 = .ok (.bipush 6, 2) := by decide +kernel
theorem dX3_swap_16 : decode cX3_swap 16 = .ok (.iload_n 1, 1) := by decide +kernel
theorem dX3_swap_17 : decode cX3_swap 17 = .ok (.iadd, 1) := by decide +kernel
theorem dX3_swap_18 : decode cX3_swap 18 = .ok (.aload_n 0, 1) := by decide +kernel
theorem dX3_swap_19 : decode cX3_swap 19 = .ok (.getfield 7, 3) := by decide +kernel
theorem dX3_swap_22 : decode cX3_swap 22 = .ok (.bipush 6, 2) := by decide +kernel
theorem dX3_swap_24 : decode cX3_swap 24 = .ok (.iload_n 2, 1) := by decide +kernel
theorem dX3_swap_25 : decode cX3_swap 25 = .ok (.iadd, 1) := by decide +kernel
theorem dX3_swap_26 : decode cX3_swap 26 = .ok (.iaload, 1) := by decide +kernel
theorem dX3_swap_27 : decode cX3_swap 27 = .ok (.iastore, 1) := by decide +kernel
theorem dX3_swap_28 : decode cX3_swap 28 = .ok (.aload_n 0, 1) := by decide +kernel
theorem dX3_swap_29 : decode cX3_swap 29 = .ok (.getfield 7, 3) := by decide +kernel
theorem dX3_swap_32 : decode cX3_swap 32 = .ok (.bipush 6, 2) := by decide +kernel
theorem dX3_swap_34 : decode cX3_swap 34 = .ok (.iload_n 2, 1) := by decide +kernel
theorem dX3_swap_35 : decode cX3_swap 35 = .ok (.iadd, 1) := by decide +kernel
theorem dX3_swap_36 : decode cX3_swap 36 = .ok (.iload_n 3, 1) := by decide +kernel
theorem dX3_swap_37 : decode cX3_swap 37 = .ok (.iastore, 1) := by decide +kernel
theorem dX3_swap_38 : decode cX3_swap 38 = .ok (.return_, 1) := by decide +kernel
theorem dX3_exchange_0 : decode cX3_exchange 0 = .ok (.aload_n 0, 1) := by decide +kernel
theorem dX3_exchange_1 : decode cX3_exchange 1 = .ok (.iload_n 1, 1) := by decide +kernel
theorem dX3_exchange_2 : decode cX3_exchange 2 = .ok (.invokevirtual 106, 3) := by decide +kernel
theorem dX3_exchange_5 : decode cX3_exchange 5 = .ok (.ifCond .eq 16, 3) := by decide +kernel
theorem dX3_exchange_8 : decode cX3_exchange 8 = .ok (.aload_n 0, 1) := by decide +kernel
theorem dX3_exchange_9 : decode cX3_exchange 9 = .ok (.iload_n 2, 1) := by decide +kernel
theorem dX3_exchange_10 : decode cX3_exchange 10 = .ok (.invokevirtual 106, 3) := by decide +kernel
theorem dX3_exchange_13 : decode cX3_exchange 13 = .ok (.ifCond .eq 8, 3) := by decide +kernel
theorem dX3_exchange_16 : decode cX3_exchange 16 = .ok (.iload_n 1, 1) := by decide +kernel
theorem dX3_exchange_17 : decode cX3_exchange 17 = .ok (.iload_n 2, 1) := by decide +kernel
theorem dX3_exchange_18 : decode cX3_exchange 18 = .ok (.if_icmp .ne 5, 3) := by decide +kernel
theorem dX3_exchange_21 : decode cX3_exchange 21 = .ok (.iconst (-1), 1) := by decide +kernel
theorem dX3_exchange_22 : decode cX3_exchange 22 = .ok (.ireturn, 1) := by decide +kernel
theorem dX3_exchange_23 : decode cX3_exchange 23 = .ok (.aload_n 0, 1) := by decide +kernel
theorem dX3_exchange_24 : decode cX3_exchange 24 = .ok (.iload_n 1, 1) := by decide +kernel
theorem dX3_exchange_25 : decode cX3_exchange 25 = .ok (.invokevirtual 55, 3) := by decide +kernel
theorem dX3_exchange_28 : decode cX3_exchange 28 = .ok (.ifCond .eq 11, 3) := by decide +kernel
theorem dX3_exchange_31 : decode cX3_exchange 31 = .ok (.aload_n 0, 1) := by decide +kernel
theorem dX3_exchange_32 : decode cX3_exchange 32 = .ok (.iload_n 2, 1) := by decide +kernel
theorem dX3_exchange_33 : decode cX3_exchange 33 = .ok (.invokevirtual 55, 3) := by decide +kernel
theorem dX3_exchange_36 : decode cX3_exchange 36 = .ok (.ifCond .ne 6, 3) := by decide +kernel
theorem dX3_exchange_39 : decode cX3_exchange 39 = .ok (.bipush (-2), 2) := by decide +kernel
theorem dX3_exchange_41 : decode cX3_exchange 41 = .ok (.ireturn, 1) := by decide +kernel
theorem dX3_exchange_42 : decode cX3_exchange 42 = .ok (.aload_n 0, 1) := by decide +kernel
theorem dX3_exchange_43 : decode cX3_exchange 43 = .ok (.invokevirtual 103, 3) := by decide +kernel
theorem dX3_exchange_46 : decode cX3_exchange 46 = .ok (.aload_n 0, 1) := by decide +kernel
theorem dX3_exchange_47 : decode cX3_exchange 47 = .ok (.invokevirtual 116, 3) := by decide +kernel
theorem dX3_exchange_50 : decode cX3_exchange 50 = .ok (.istore_n 3, 1) := by decide +kernel
theorem dX3_exchange_51 : decode cX3_exchange 51 = .ok (.aload_n 0, 1) := by decide +kernel
theorem dX3_exchange_52 : decode cX3_exchange 52 = .ok (.iload_n 1, 1) := by decide +kernel
theorem dX3_exchange_53 : decode cX3_exchange 53 = .ok (.iload_n 2, 1) := by decide +kernel
theorem dX3_exchange_54 : decode cX3_exchange 54 = .ok (.invokevirtual 119, 3) := by decide +kernel
theorem dX3_exchange_57 : decode cX3_exchange 57 = .ok (.aload_n 0, 1) := by decide +kernel
theorem dX3_exchange_58 : decode cX3_exchange 58 = .ok (.invokevirtual 116, 3) := by decide +kernel
theorem dX3_exchange_61 : decode cX3_exchange 61 = .ok (.iload_n 3, 1) := by decide +kernel
theorem dX3_exchange_62 : decode cX3_exchange 62 = .ok (.if_icmp .le 11, 3) := by decide +kernel
theorem dX3_exchange_65 : decode cX3_exchange 65 = .ok (.aload_n 0, 1) := by decide +kernel
theorem dX3_exchange_66 : decode cX3_exchange 66 = .ok (.iload_n 1, 1) := by decide +kernel
theorem dX3_exchange_67 : decode cX3_exchange 67 = .ok (.iload_n 2, 1) := by decide +kernel
theorem dX3_exchange_68 : decode cX3_exchange 68 = .ok (.invokevirtual 119, 3) := by decide +kernel
theorem dX3_exchange_71 : decode cX3_exchange 71 = .ok (.iconst 0, 1) := by decide +kernel
theorem dX3_exchange_72 : decode cX3_exchange 72 = .ok (.ireturn, 1) := by decide +kernel
theorem dX3_exchange_73 : decode cX3_exchange 73 = .ok (.iconst 1, 1) := by decide +kernel
theorem dX3_exchange_74 : decode cX3_exchange 74 = .ok (.ireturn, 1) := by decide +kernel
theorem dX3_present_0 : decode cX3_present 0 = .ok (.iconst 0, 1) := by decide +kernel
theorem dX3_present_1 : decode cX3_present 1 = .ok (.istore_n 1, 1) := by decide +kernel
theorem dX3_present_2 : decode cX3_present 2 = .ok (.iconst 0, 1) := by decide +kernel
theorem dX3_present_3 : decode cX3_present 3 = .ok (.istore_n 2, 1) := by decide +kernel
theorem dX3_present_4 : decode cX3_present 4 = .ok (.iload_n 2, 1) := by decide +kernel
theorem dX3_present_5 : decode cX3_present 5 = .ok (.aload_n 0, 1) := by decide +kernel
theorem dX3_present_6 : decode cX3_present 6 = .ok (.invokevirtual 40, 3) := by decide +kernel
theorem dX3_present_9 : decode cX3_present 9 = .ok (.if_icmp .ge 21, 3) := by decide +kernel
theorem dX3_present_12 : decode cX3_present 12 = .ok (.iload_n 1, 1) := by decide +kernel
theorem dX3_present_13 : decode cX3_present 13 = .ok (.aload_n 0, 1) := by decide +kernel
theorem dX3_present_14 : decode cX3_present 14 = .ok (.getfield 7, 3) := by decide +kernel
theorem dX3_present_17 : decode cX3_present 17 = .ok (.bipush 55, 2) := by decide +kernel
theorem dX3_present_19 : decode cX3_present 19 = .ok (.iload_n 2, 1) := by decide +kernel
theorem dX3_present_20 : decode cX3_present 20 = .ok (.iadd, 1) := by decide +kernel
theorem dX3_present_21 : decode cX3_present 21 = .ok (.iaload, 1) := by decide +kernel
theorem dX3_present_22 : decode cX3_present 22 = .ok (.iadd, 1) := by decide +kernel
theorem dX3_present_23 : decode cX3_present 23 = .ok (.istore_n 1, 1) := by decide +kernel
theorem dX3_present_24 : decode cX3_present 24 = .ok (.iinc 2 1, 3) := by decide +kernel
theorem dX3_present_27 : decode cX3_present 27 = .ok (.goto (-23), 3) := by decide +kernel
theorem dX3_present_30 : decode cX3_present 30 = .ok (.iload_n 1, 1) := by decide +kernel
theorem dX3_present_31 : decode cX3_present 31 = .ok (.ireturn, 1) := by decide +kernel
theorem dX3_leave_0 : decode cX3_leave 0 = .ok (.aload_n 0, 1) := by decide +kernel
theorem dX3_leave_1 : decode cX3_leave 1 = .ok (.iload_n 1, 1) := by decide +kernel
theorem dX3_leave_2 : decode cX3_leave 2 = .ok (.invokevirtual 106, 3) := by decide +kernel
theorem dX3_leave_5 : decode cX3_leave 5 = .ok (.ifCond .ne 5, 3) := by decide +kernel
theorem dX3_leave_8 : decode cX3_leave 8 = .ok (.iconst (-1), 1) := by decide +kernel
theorem dX3_leave_9 : decode cX3_leave 9 = .ok (.ireturn, 1) := by decide +kernel
theorem dX3_leave_10 : decode cX3_leave 10 = .ok (.aload_n 0, 1) := by decide +kernel
theorem dX3_leave_11 : decode cX3_leave 11 = .ok (.iload_n 1, 1) := by decide +kernel
theorem dX3_leave_12 : decode cX3_leave 12 = .ok (.invokevirtual 55, 3) := by decide +kernel
theorem dX3_leave_15 : decode cX3_leave 15 = .ok (.ifCond .eq 11, 3) := by decide +kernel
theorem dX3_leave_18 : decode cX3_leave 18 = .ok (.aload_n 0, 1) := by decide +kernel
theorem dX3_leave_19 : decode cX3_leave 19 = .ok (.invokevirtual 122, 3) := by decide +kernel
theorem dX3_leave_22 : decode cX3_leave 22 = .ok (.iconst 1, 1) := by decide +kernel
theorem dX3_leave_23 : decode cX3_leave 23 = .ok (.if_icmp .ne 6, 3) := by decide +kernel
theorem dX3_leave_26 : decode cX3_leave 26 = .ok (.bipush (-2), 2) := by decide +kernel
theorem dX3_leave_28 : decode cX3_leave 28 = .ok (.ireturn, 1) := by decide +kernel
theorem dX3_leave_29 : decode cX3_leave 29 = .ok (.aload_n 0, 1) := by decide +kernel
theorem dX3_leave_30 : decode cX3_leave 30 = .ok (.invokevirtual 103, 3) := by decide +kernel
theorem dX3_leave_33 : decode cX3_leave 33 = .ok (.aload_n 0, 1) := by decide +kernel
theorem dX3_leave_34 : decode cX3_leave 34 = .ok (.getfield 7, 3) := by decide +kernel
theorem dX3_leave_37 : decode cX3_leave 37 = .ok (.bipush 104, 2) := by decide +kernel
theorem dX3_leave_39 : decode cX3_leave 39 = .ok (.iload_n 1, 1) := by decide +kernel
theorem dX3_leave_40 : decode cX3_leave 40 = .ok (.iadd, 1) := by decide +kernel
theorem dX3_leave_41 : decode cX3_leave 41 = .ok (.iaload, 1) := by decide +kernel
theorem dX3_leave_42 : decode cX3_leave 42 = .ok (.istore_n 2, 1) := by decide +kernel
theorem dX3_leave_43 : decode cX3_leave 43 = .ok (.aload_n 0, 1) := by decide +kernel
theorem dX3_leave_44 : decode cX3_leave 44 = .ok (.getfield 7, 3) := by decide +kernel
theorem dX3_leave_47 : decode cX3_leave 47 = .ok (.bipush 104, 2) := by decide +kernel
theorem dX3_leave_49 : decode cX3_leave 49 = .ok (.iload_n 1, 1) := by decide +kernel
theorem dX3_leave_50 : decode cX3_leave 50 = .ok (.iadd, 1) := by decide +kernel
theorem dX3_leave_51 : decode cX3_leave 51 = .ok (.iconst 0, 1) := by decide +kernel
theorem dX3_leave_52 : decode cX3_leave 52 = .ok (.iastore, 1) := by decide +kernel
theorem dX3_leave_53 : decode cX3_leave 53 = .ok (.aload_n 0, 1) := by decide +kernel
theorem dX3_leave_54 : decode cX3_leave 54 = .ok (.getfield 7, 3) := by decide +kernel
theorem dX3_leave_57 : decode cX3_leave 57 = .ok (.bipush 55, 2) := by decide +kernel
theorem dX3_leave_59 : decode cX3_leave 59 = .ok (.iload_n 1, 1) := by decide +kernel
theorem dX3_leave_60 : decode cX3_leave 60 = .ok (.iadd, 1) := by decide +kernel
theorem dX3_leave_61 : decode cX3_leave 61 = .ok (.iconst 0, 1) := by decide +kernel
theorem dX3_leave_62 : decode cX3_leave 62 = .ok (.iastore, 1) := by decide +kernel
theorem dX3_leave_63 : decode cX3_leave 63 = .ok (.iconst 0, 1) := by decide +kernel
theorem dX3_leave_64 : decode cX3_leave 64 = .ok (.istore_n 3, 1) := by decide +kernel
theorem dX3_leave_65 : decode cX3_leave 65 = .ok (.iload_n 3, 1) := by decide +kernel
theorem dX3_leave_66 : decode cX3_leave 66 = .ok (.aload_n 0, 1) := by decide +kernel
theorem dX3_leave_67 : decode cX3_leave 67 = .ok (.invokevirtual 40, 3) := by decide +kernel
theorem dX3_leave_70 : decode cX3_leave 70 = .ok (.if_icmp .ge 54, 3) := by decide +kernel
theorem dX3_leave_73 : decode cX3_leave 73 = .ok (.aload_n 0, 1) := by decide +kernel
theorem dX3_leave_74 : decode cX3_leave 74 = .ok (.getfield 7, 3) := by decide +kernel
theorem dX3_leave_77 : decode cX3_leave 77 = .ok (.bipush 104, 2) := by decide +kernel
theorem dX3_leave_79 : decode cX3_leave 79 = .ok (.iload_n 3, 1) := by decide +kernel
theorem dX3_leave_80 : decode cX3_leave 80 = .ok (.iadd, 1) := by decide +kernel
theorem dX3_leave_81 : decode cX3_leave 81 = .ok (.iaload, 1) := by decide +kernel
theorem dX3_leave_82 : decode cX3_leave 82 = .ok (.iconst 1, 1) := by decide +kernel
theorem dX3_leave_83 : decode cX3_leave 83 = .ok (.isub, 1) := by decide +kernel
theorem dX3_leave_84 : decode cX3_leave 84 = .ok (.istore 4, 2) := by decide +kernel
theorem dX3_leave_86 : decode cX3_leave 86 = .ok (.iload 4, 2) := by decide +kernel
theorem dX3_leave_88 : decode cX3_leave 88 = .ok (.ifCond .lt 30, 3) := by decide +kernel
theorem dX3_leave_91 : decode cX3_leave 91 = .ok (.aload_n 0, 1) := by decide +kernel
theorem dX3_leave_92 : decode cX3_leave 92 = .ok (.iload_n 3, 1) := by decide +kernel
theorem dX3_leave_93 : decode cX3_leave 93 = .ok (.iload 4, 2) := by decide +kernel
theorem dX3_leave_95 : decode cX3_leave 95 = .ok (.invokevirtual 52, 3) := by decide +kernel
theorem dX3_leave_98 : decode cX3_leave 98 = .ok (.iload_n 1, 1) := by decide +kernel
theorem dX3_leave_99 : decode cX3_leave 99 = .ok (.if_icmp .ne 13, 3) := by decide +kernel
theorem dX3_leave_102 : decode cX3_leave 102 = .ok (.aload_n 0, 1) := by decide +kernel
theorem dX3_leave_103 : decode cX3_leave 103 = .ok (.iload_n 3, 1) := by decide +kernel
theorem dX3_leave_104 : decode cX3_leave 104 = .ok (.iload 4, 2) := by decide +kernel
theorem dX3_leave_106 : decode cX3_leave 106 = .ok (.invokevirtual 66, 3) := by decide +kernel
theorem dX3_leave_109 : decode cX3_leave 109 = .ok (.iinc 2 1, 3) := by decide +kernel
theorem dX3_leave_112 : decode cX3_leave 112 = .ok (.iinc 4 (-1), 3) := by decide +kernel
theorem dX3_leave_115 : decode cX3_leave 115 = .ok (.goto (-29), 3) := by decide +kernel
theorem dX3_leave_118 : decode cX3_leave 118 = .ok (.iinc 3 1, 3) := by decide +kernel
theorem dX3_leave_121 : decode cX3_leave 121 = .ok (.goto (-56), 3) := by decide +kernel
theorem dX3_leave_124 : decode cX3_leave 124 = .ok (.iload_n 2, 1) := by decide +kernel
theorem dX3_leave_125 : decode cX3_leave 125 = .ok (.ireturn, 1) := by decide +kernel
theorem dX3_enter_0 : decode cX3_enter 0 = .ok (.aload_n 0, 1) := by decide +kernel
theorem dX3_enter_1 : decode cX3_enter 1 = .ok (.iload_n 1, 1) := by decide +kernel
theorem dX3_enter_2 : decode cX3_enter 2 = .ok (.invokevirtual 106, 3) := by decide +kernel
theorem dX3_enter_5 : decode cX3_enter 5 = .ok (.ifCond .ne 5, 3) := by decide +kernel
theorem dX3_enter_8 : decode cX3_enter 8 = .ok (.iconst (-1), 1) := by decide +kernel
theorem dX3_enter_9 : decode cX3_enter 9 = .ok (.ireturn, 1) := by decide +kernel
theorem dX3_enter_10 : decode cX3_enter 10 = .ok (.aload_n 0, 1) := by decide +kernel
theorem dX3_enter_11 : decode cX3_enter 11 = .ok (.iload_n 1, 1) := by decide +kernel
theorem dX3_enter_12 : decode cX3_enter 12 = .ok (.invokevirtual 55, 3) := by decide +kernel
theorem dX3_enter_15 : decode cX3_enter 15 = .ok (.ifCond .eq 6, 3) := by decide +kernel
theorem dX3_enter_18 : decode cX3_enter 18 = .ok (.bipush (-2), 2) := by decide +kernel
theorem dX3_enter_20 : decode cX3_enter 20 = .ok (.ireturn, 1) := by decide +kernel
theorem dX3_enter_21 : decode cX3_enter 21 = .ok (.aload_n 0, 1) := by decide +kernel
theorem dX3_enter_22 : decode cX3_enter 22 = .ok (.invokevirtual 103, 3) := by decide +kernel
theorem dX3_enter_25 : decode cX3_enter 25 = .ok (.aload_n 0, 1) := by decide +kernel
theorem dX3_enter_26 : decode cX3_enter 26 = .ok (.getfield 7, 3) := by decide +kernel
theorem dX3_enter_29 : decode cX3_enter 29 = .ok (.bipush 55, 2) := by decide +kernel
theorem dX3_enter_31 : decode cX3_enter 31 = .ok (.iload_n 1, 1) := by decide +kernel
theorem dX3_enter_32 : decode cX3_enter 32 = .ok (.iadd, 1) := by decide +kernel
theorem dX3_enter_33 : decode cX3_enter 33 = .ok (.iconst 1, 1) := by decide +kernel
theorem dX3_enter_34 : decode cX3_enter 34 = .ok (.iastore, 1) := by decide +kernel
theorem dX3_enter_35 : decode cX3_enter 35 = .ok (.aload_n 0, 1) := by decide +kernel
theorem dX3_enter_36 : decode cX3_enter 36 = .ok (.iload_n 1, 1) := by decide +kernel
theorem dX3_enter_37 : decode cX3_enter 37 = .ok (.invokevirtual 125, 3) := by decide +kernel
theorem dX3_enter_40 : decode cX3_enter 40 = .ok (.ireturn, 1) := by decide +kernel
theorem dX3_set_0 : decode cX3_set 0 = .ok (.iload_n 1, 1) := by decide +kernel
theorem dX3_set_1 : decode cX3_set 1 = .ok (.ifCond .ne 12, 3) := by decide +kernel
theorem dX3_set_4 : decode cX3_set 4 = .ok (.iload_n 2, 1) := by decide +kernel
theorem dX3_set_5 : decode cX3_set 5 = .ok (.iconst 1, 1) := by decide +kernel
theorem dX3_set_6 : decode cX3_set 6 = .ok (.iconst 3, 1) := by decide +kernel
theorem dX3_set_7 : decode cX3_set 7 = .ok (.invokestatic 44, 3) := by decide +kernel
theorem dX3_set_10 : decode cX3_set 10 = .ok (.goto 46, 3) := by decide +kernel
theorem dX3_set_13 : decode cX3_set 13 = .ok (.iload_n 1, 1) := by decide +kernel
theorem dX3_set_14 : decode cX3_set 14 = .ok (.iconst 1, 1) := by decide +kernel
theorem dX3_set_15 : decode cX3_set 15 = .ok (.if_icmp .ne 12, 3) := by decide +kernel
theorem dX3_set_18 : decode cX3_set 18 = .ok (.iload_n 2, 1) := by decide +kernel
theorem dX3_set_19 : decode cX3_set 19 = .ok (.iconst 0, 1) := by decide +kernel
theorem dX3_set_20 : decode cX3_set 20 = .ok (.iconst 3, 1) := by decide +kernel
theorem dX3_set_21 : decode cX3_set 21 = .ok (.invokestatic 44, 3) := by decide +kernel
theorem dX3_set_24 : decode cX3_set 24 = .ok (.goto 32, 3) := by decide +kernel
theorem dX3_set_27 : decode cX3_set 27 = .ok (.iload_n 1, 1) := by decide +kernel
theorem dX3_set_28 : decode cX3_set 28 = .ok (.iconst 2, 1) := by decide +kernel
theorem dX3_set_29 : decode cX3_set 29 = .ok (.if_icmp .ne 13, 3) := by decide +kernel
theorem dX3_set_32 : decode cX3_set 32 = .ok (.iload_n 2, 1) := by decide +kernel
theorem dX3_set_33 : decode cX3_set 33 = .ok (.iconst 1, 1) := by decide +kernel
theorem dX3_set_34 : decode cX3_set 34 = .ok (.bipush 9, 2) := by decide +kernel
theorem dX3_set_36 : decode cX3_set 36 = .ok (.invokestatic 44, 3) := by decide +kernel
theorem dX3_set_39 : decode cX3_set 39 = .ok (.goto 17, 3) := by decide +kernel
theorem dX3_set_42 : decode cX3_set 42 = .ok (.iload_n 1, 1) := by decide +kernel
theorem dX3_set_43 : decode cX3_set 43 = .ok (.iconst 3, 1) := by decide +kernel
theorem dX3_set_44 : decode cX3_set 44 = .ok (.if_icmp .ne 11, 3) := by decide +kernel
theorem dX3_set_47 : decode cX3_set 47 = .ok (.iload_n 2, 1) := by decide +kernel
theorem dX3_set_48 : decode cX3_set 48 = .ok (.ifCond .lt 7, 3) := by decide +kernel
theorem dX3_set_51 : decode cX3_set 51 = .ok (.iconst 1, 1) := by decide +kernel
theorem dX3_set_52 : decode cX3_set 52 = .ok (.goto 4, 3) := by decide +kernel
theorem dX3_set_55 : decode cX3_set 55 = .ok (.iconst 0, 1) := by decide +kernel
theorem dX3_set_56 : decode cX3_set 56 = .ok (.istore_n 3, 1) := by decide +kernel
theorem dX3_set_57 : decode cX3_set 57 = .ok (.iload_n 3, 1) := by decide +kernel
theorem dX3_set_58 : decode cX3_set 58 = .ok (.ifCond .ne 5, 3) := by decide +kernel
theorem dX3_set_61 : decode cX3_set 61 = .ok (.iconst (-1), 1) := by decide +kernel
theorem dX3_set_62 : decode cX3_set 62 = .ok (.ireturn, 1) := by decide +kernel
theorem dX3_set_63 : decode cX3_set 63 = .ok (.aload_n 0, 1) := by decide +kernel
theorem dX3_set_64 : decode cX3_set 64 = .ok (.invokevirtual 103, 3) := by decide +kernel
theorem dX3_set_67 : decode cX3_set 67 = .ok (.aload_n 0, 1) := by decide +kernel
theorem dX3_set_68 : decode cX3_set 68 = .ok (.getfield 7, 3) := by decide +kernel
theorem dX3_set_71 : decode cX3_set 71 = .ok (.iconst 2, 1) := by decide +kernel
theorem dX3_set_72 : decode cX3_set 72 = .ok (.iload_n 1, 1) := by decide +kernel
theorem dX3_set_73 : decode cX3_set 73 = .ok (.iadd, 1) := by decide +kernel
theorem dX3_set_74 : decode cX3_set 74 = .ok (.iaload, 1) := by decide +kernel
theorem dX3_set_75 : decode cX3_set 75 = .ok (.istore 4, 2) := by decide +kernel
theorem dX3_set_77 : decode cX3_set 77 = .ok (.aload_n 0, 1) := by decide +kernel
theorem dX3_set_78 : decode cX3_set 78 = .ok (.getfield 7, 3) := by decide +kernel
theorem dX3_set_81 : decode cX3_set 81 = .ok (.iconst 2, 1) := by decide +kernel
theorem dX3_set_82 : decode cX3_set 82 = .ok (.iload_n 1, 1) := by decide +kernel
theorem dX3_set_83 : decode cX3_set 83 = .ok (.iadd, 1) := by decide +kernel
theorem dX3_set_84 : decode cX3_set 84 = .ok (.iload_n 2, 1) := by decide +kernel
theorem dX3_set_85 : decode cX3_set 85 = .ok (.iastore, 1) := by decide +kernel
theorem dX3_set_86 : decode cX3_set 86 = .ok (.iload 4, 2) := by decide +kernel
theorem dX3_set_88 : decode cX3_set 88 = .ok (.ireturn, 1) := by decide +kernel
theorem dX3_undo_0 : decode cX3_undo 0 = .ok (.aload_n 0, 1) := by decide +kernel
theorem dX3_undo_1 : decode cX3_undo 1 = .ok (.getfield 36, 3) := by decide +kernel
theorem dX3_undo_4 : decode cX3_undo 4 = .ok (.ifCond .ne 6, 3) := by decide +kernel
theorem dX3_undo_7 : decode cX3_undo 7 = .ok (.bipush (-2), 2) := by decide +kernel
theorem dX3_undo_9 : decode cX3_undo 9 = .ok (.ireturn, 1) := by decide +kernel
theorem dX3_undo_10 : decode cX3_undo 10 = .ok (.aload_n 0, 1) := by decide +kernel
theorem dX3_undo_11 : decode cX3_undo 11 = .ok (.dup, 1) := by decide +kernel
theorem dX3_undo_12 : decode cX3_undo 12 = .ok (.getfield 36, 3) := by decide +kernel
theorem dX3_undo_15 : decode cX3_undo 15 = .ok (.iconst 1, 1) := by decide +kernel
theorem dX3_undo_16 : decode cX3_undo 16 = .ok (.isub, 1) := by decide +kernel
theorem dX3_undo_17 : decode cX3_undo 17 = .ok (.putfield 36, 3) := by decide +kernel
theorem dX3_undo_20 : decode cX3_undo 20 = .ok (.iconst 0, 1) := by decide +kernel
theorem dX3_undo_21 : decode cX3_undo 21 = .ok (.istore_n 1, 1) := by decide +kernel
theorem dX3_undo_22 : decode cX3_undo 22 = .ok (.iload_n 1, 1) := by decide +kernel
theorem dX3_undo_23 : decode cX3_undo 23 = .ok (.sipush 300, 3) := by decide +kernel
theorem dX3_undo_26 : decode cX3_undo 26 = .ok (.if_icmp .ge 30, 3) := by decide +kernel
theorem dX3_undo_29 : decode cX3_undo 29 = .ok (.aload_n 0, 1) := by decide +kernel
theorem dX3_undo_30 : decode cX3_undo 30 = .ok (.getfield 7, 3) := by decide +kernel
theorem dX3_undo_33 : decode cX3_undo 33 = .ok (.iload_n 1, 1) := by decide +kernel
theorem dX3_undo_34 : decode cX3_undo 34 = .ok (.aload_n 0, 1) := by decide +kernel
theorem dX3_undo_35 : decode cX3_undo 35 = .ok (.getfield 13, 3) := by decide +kernel
theorem dX3_undo_38 : decode cX3_undo 38 = .ok (.sipush 300, 3) := by decide +kernel
theorem dX3_undo_41 : decode cX3_undo 41 = .ok (.aload_n 0, 1) := by decide +kernel
theorem dX3_undo_42 : decode cX3_undo 42 = .ok (.getfield 36, 3) := by decide +kernel
theorem dX3_undo_45 : decode cX3_undo 45 = .ok (.imul, 1) := by decide +kernel
theorem dX3_undo_46 : decode cX3_undo 46 = .ok (.iload_n 1, 1) := by decide +kernel
theorem dX3_undo_47 : decode cX3_undo 47 = .ok (.iadd, 1) := by decide +kernel
theorem dX3_undo_48 : decode cX3_undo 48 = .ok (.iaload, 1) := by decide +kernel
theorem dX3_undo_49 : decode cX3_undo 49 = .ok (.iastore, 1) := by decide +kernel
theorem dX3_undo_50 : decode cX3_undo 50 = .ok (.iinc 1 1, 3) := by decide +kernel
theorem dX3_undo_53 : decode cX3_undo 53 = .ok (.goto (-31), 3) := by decide +kernel
theorem dX3_undo_56 : decode cX3_undo 56 = .ok (.aload_n 0, 1) := by decide +kernel
theorem dX3_undo_57 : decode cX3_undo 57 = .ok (.getfield 36, 3) := by decide +kernel
theorem dX3_undo_60 : decode cX3_undo 60 = .ok (.ireturn, 1) := by decide +kernel
theorem dX3_links_0 : decode cX3_links 0 = .ok (.iconst 0, 1) := by decide +kernel
theorem dX3_links_1 : decode cX3_links 1 = .ok (.istore_n 1, 1) := by decide +kernel
theorem dX3_links_2 : decode cX3_links 2 = .ok (.iconst 0, 1) := by decide +kernel
theorem dX3_links_3 : decode cX3_links 3 = .ok (.istore_n 2, 1) := by decide +kernel
theorem dX3_links_4 : decode cX3_links 4 = .ok (.iload_n 2, 1) := by decide +kernel
theorem dX3_links_5 : decode cX3_links 5 = .ok (.aload_n 0, 1) := by decide +kernel
theorem dX3_links_6 : decode cX3_links 6 = .ok (.invokevirtual 40, 3) := by decide +kernel
theorem dX3_links_9 : decode cX3_links 9 = .ok (.if_icmp .ge 21, 3) := by decide +kernel
theorem dX3_links_12 : decode cX3_links 12 = .ok (.iload_n 1, 1) := by decide +kernel
theorem dX3_links_13 : decode cX3_links 13 = .ok (.aload_n 0, 1) := by decide +kernel
theorem dX3_links_14 : decode cX3_links 14 = .ok (.getfield 7, 3) := by decide +kernel
theorem dX3_links_17 : decode cX3_links 17 = .ok (.bipush 104, 2) := by decide +kernel
theorem dX3_links_19 : decode cX3_links 19 = .ok (.iload_n 2, 1) := by decide +kernel
theorem dX3_links_20 : decode cX3_links 20 = .ok (.iadd, 1) := by decide +kernel
theorem dX3_links_21 : decode cX3_links 21 = .ok (.iaload, 1) := by decide +kernel
theorem dX3_links_22 : decode cX3_links 22 = .ok (.iadd, 1) := by decide +kernel
theorem dX3_links_23 : decode cX3_links 23 = .ok (.istore_n 1, 1) := by decide +kernel
theorem dX3_links_24 : decode cX3_links 24 = .ok (.iinc 2 1, 3) := by decide +kernel
theorem dX3_links_27 : decode cX3_links 27 = .ok (.goto (-23), 3) := by decide +kernel
theorem dX3_links_30 : decode cX3_links 30 = .ok (.iload_n 1, 1) := by decide +kernel
theorem dX3_links_31 : decode cX3_links 31 = .ok (.ireturn, 1) := by decide +kernel
theorem dX3_told_0 : decode cX3_told 0 = .ok (.iload_n 1, 1) := by decide +kernel
theorem dX3_told_1 : decode cX3_told 1 = .ok (.tableswitch 115 0 9 #[55, 60, 67, 72, 77, 82, 89, 96, 103, 110], 55) := by decide +kernel
theorem dX3_told_56 : decode cX3_told 56 = .ok (.aload_n 0, 1) := by decide +kernel
theorem dX3_told_57 : decode cX3_told 57 = .ok (.invokevirtual 40, 3) := by decide +kernel
theorem dX3_told_60 : decode cX3_told 60 = .ok (.ireturn, 1) := by decide +kernel
theorem dX3_told_61 : decode cX3_told 61 = .ok (.aload_n 0, 1) := by decide +kernel
theorem dX3_told_62 : decode cX3_told 62 = .ok (.getfield 7, 3) := by decide +kernel
theorem dX3_told_65 : decode cX3_told 65 = .ok (.iconst 0, 1) := by decide +kernel
theorem dX3_told_66 : decode cX3_told 66 = .ok (.iaload, 1) := by decide +kernel
theorem dX3_told_67 : decode cX3_told 67 = .ok (.ireturn, 1) := by decide +kernel
theorem dX3_told_68 : decode cX3_told 68 = .ok (.aload_n 0, 1) := by decide +kernel
theorem dX3_told_69 : decode cX3_told 69 = .ok (.invokevirtual 122, 3) := by decide +kernel
theorem dX3_told_72 : decode cX3_told 72 = .ok (.ireturn, 1) := by decide +kernel
theorem dX3_told_73 : decode cX3_told 73 = .ok (.aload_n 0, 1) := by decide +kernel
theorem dX3_told_74 : decode cX3_told 74 = .ok (.invokevirtual 128, 3) := by decide +kernel
theorem dX3_told_77 : decode cX3_told 77 = .ok (.ireturn, 1) := by decide +kernel
theorem dX3_told_78 : decode cX3_told 78 = .ok (.aload_n 0, 1) := by decide +kernel
theorem dX3_told_79 : decode cX3_told 79 = .ok (.invokevirtual 116, 3) := by decide +kernel
theorem dX3_told_82 : decode cX3_told 82 = .ok (.ireturn, 1) := by decide +kernel
theorem dX3_told_83 : decode cX3_told 83 = .ok (.aload_n 0, 1) := by decide +kernel
theorem dX3_told_84 : decode cX3_told 84 = .ok (.getfield 7, 3) := by decide +kernel
theorem dX3_told_87 : decode cX3_told 87 = .ok (.iconst 2, 1) := by decide +kernel
theorem dX3_told_88 : decode cX3_told 88 = .ok (.iaload, 1) := by decide +kernel
theorem dX3_told_89 : decode cX3_told 89 = .ok (.ireturn, 1) := by decide +kernel
theorem dX3_told_90 : decode cX3_told 90 = .ok (.aload_n 0, 1) := by decide +kernel
theorem dX3_told_91 : decode cX3_told 91 = .ok (.getfield 7, 3) := by decide +kernel
theorem dX3_told_94 : decode cX3_told 94 = .ok (.iconst 3, 1) := by decide +kernel
theorem dX3_told_95 : decode cX3_told 95 = .ok (.iaload, 1) := by decide +kernel
theorem dX3_told_96 : decode cX3_told 96 = .ok (.ireturn, 1) := by decide +kernel
theorem dX3_told_97 : decode cX3_told 97 = .ok (.aload_n 0, 1) := by decide +kernel
theorem dX3_told_98 : decode cX3_told 98 = .ok (.getfield 7, 3) := by decide +kernel
theorem dX3_told_101 : decode cX3_told 101 = .ok (.iconst 4, 1) := by decide +kernel
theorem dX3_told_102 : decode cX3_told 102 = .ok (.iaload, 1) := by decide +kernel
theorem dX3_told_103 : decode cX3_told 103 = .ok (.ireturn, 1) := by decide +kernel
theorem dX3_told_104 : decode cX3_told 104 = .ok (.aload_n 0, 1) := by decide +kernel
theorem dX3_told_105 : decode cX3_told 105 = .ok (.getfield 7, 3) := by decide +kernel
theorem dX3_told_108 : decode cX3_told 108 = .ok (.iconst 5, 1) := by decide +kernel
theorem dX3_told_109 : decode cX3_told 109 = .ok (.iaload, 1) := by decide +kernel
theorem dX3_told_110 : decode cX3_told 110 = .ok (.ireturn, 1) := by decide +kernel
theorem dX3_told_111 : decode cX3_told 111 = .ok (.aload_n 0, 1) := by decide +kernel
theorem dX3_told_112 : decode cX3_told 112 = .ok (.getfield 36, 3) := by decide +kernel
theorem dX3_told_115 : decode cX3_told 115 = .ok (.ireturn, 1) := by decide +kernel
theorem dX3_told_116 : decode cX3_told 116 = .ok (.iconst (-1), 1) := by decide +kernel
theorem dX3_told_117 : decode cX3_told 117 = .ok (.ireturn, 1) := by decide +kernel
theorem dX3_contacts_0 : decode cX3_contacts 0 = .ok (.iconst 0, 1) := by decide +kernel
theorem dX3_contacts_1 : decode cX3_contacts 1 = .ok (.istore_n 2, 1) := by decide +kernel
theorem dX3_contacts_2 : decode cX3_contacts 2 = .ok (.iconst 0, 1) := by decide +kernel
theorem dX3_contacts_3 : decode cX3_contacts 3 = .ok (.istore_n 3, 1) := by decide +kernel
theorem dX3_contacts_4 : decode cX3_contacts 4 = .ok (.iload_n 3, 1) := by decide +kernel
theorem dX3_contacts_5 : decode cX3_contacts 5 = .ok (.aload_n 0, 1) := by decide +kernel
theorem dX3_contacts_6 : decode cX3_contacts 6 = .ok (.invokevirtual 40, 3) := by decide +kernel
theorem dX3_contacts_9 : decode cX3_contacts 9 = .ok (.if_icmp .ge 26, 3) := by decide +kernel
theorem dX3_contacts_12 : decode cX3_contacts 12 = .ok (.iload_n 2, 1) := by decide +kernel
theorem dX3_contacts_13 : decode cX3_contacts 13 = .ok (.aload_n 0, 1) := by decide +kernel
theorem dX3_contacts_14 : decode cX3_contacts 14 = .ok (.iload_n 1, 1) := by decide +kernel
theorem dX3_contacts_15 : decode cX3_contacts 15 = .ok (.iload_n 3, 1) := by decide +kernel
theorem dX3_contacts_16 : decode cX3_contacts 16 = .ok (.invokevirtual 76, 3) := by decide +kernel
theorem dX3_contacts_19 : decode cX3_contacts 19 = .ok (.ifCond .eq 7, 3) := by decide +kernel
theorem dX3_contacts_22 : decode cX3_contacts 22 = .ok (.iconst 1, 1) := by decide +kernel
theorem dX3_contacts_23 : decode cX3_contacts 23 = .ok (.goto 4, 3) := by decide +kernel
theorem dX3_contacts_26 : decode cX3_contacts 26 = .ok (.iconst 0, 1) := by decide +kernel
theorem dX3_contacts_27 : decode cX3_contacts 27 = .ok (.iadd, 1) := by decide +kernel
theorem dX3_contacts_28 : decode cX3_contacts 28 = .ok (.istore_n 2, 1) := by decide +kernel
theorem dX3_contacts_29 : decode cX3_contacts 29 = .ok (.iinc 3 1, 3) := by decide +kernel
theorem dX3_contacts_32 : decode cX3_contacts 32 = .ok (.goto (-28), 3) := by decide +kernel
theorem dX3_contacts_35 : decode cX3_contacts 35 = .ok (.iload_n 2, 1) := by decide +kernel
theorem dX3_contacts_36 : decode cX3_contacts 36 = .ok (.ireturn, 1) := by decide +kernel
theorem dX3_linksTo_0 : decode cX3_linksTo 0 = .ok (.iconst 0, 1) := by decide +kernel
theorem dX3_linksTo_1 : decode cX3_linksTo 1 = .ok (.istore_n 2, 1) := by decide +kernel
theorem dX3_linksTo_2 : decode cX3_linksTo 2 = .ok (.iconst 0, 1) := by decide +kernel
theorem dX3_linksTo_3 : decode cX3_linksTo 3 = .ok (.istore_n 3, 1) := by decide +kernel
theorem dX3_linksTo_4 : decode cX3_linksTo 4 = .ok (.iload_n 3, 1) := by decide +kernel
theorem dX3_linksTo_5 : decode cX3_linksTo 5 = .ok (.aload_n 0, 1) := by decide +kernel
theorem dX3_linksTo_6 : decode cX3_linksTo 6 = .ok (.invokevirtual 40, 3) := by decide +kernel
theorem dX3_linksTo_9 : decode cX3_linksTo 9 = .ok (.if_icmp .ge 26, 3) := by decide +kernel
theorem dX3_linksTo_12 : decode cX3_linksTo 12 = .ok (.iload_n 2, 1) := by decide +kernel
theorem dX3_linksTo_13 : decode cX3_linksTo 13 = .ok (.aload_n 0, 1) := by decide +kernel
theorem dX3_linksTo_14 : decode cX3_linksTo 14 = .ok (.iload_n 3, 1) := by decide +kernel
theorem dX3_linksTo_15 : decode cX3_linksTo 15 = .ok (.iload_n 1, 1) := by decide +kernel
theorem dX3_linksTo_16 : decode cX3_linksTo 16 = .ok (.invokevirtual 62, 3) := by decide +kernel
theorem dX3_linksTo_19 : decode cX3_linksTo 19 = .ok (.ifCond .eq 7, 3) := by decide +kernel
theorem dX3_linksTo_22 : decode cX3_linksTo 22 = .ok (.iconst 1, 1) := by decide +kernel
theorem dX3_linksTo_23 : decode cX3_linksTo 23 = .ok (.goto 4, 3) := by decide +kernel
theorem dX3_linksTo_26 : decode cX3_linksTo 26 = .ok (.iconst 0, 1) := by decide +kernel
theorem dX3_linksTo_27 : decode cX3_linksTo 27 = .ok (.iadd, 1) := by decide +kernel
theorem dX3_linksTo_28 : decode cX3_linksTo 28 = .ok (.istore_n 2, 1) := by decide +kernel
theorem dX3_linksTo_29 : decode cX3_linksTo 29 = .ok (.iinc 3 1, 3) := by decide +kernel
theorem dX3_linksTo_32 : decode cX3_linksTo 32 = .ok (.goto (-28), 3) := by decide +kernel
theorem dX3_linksTo_35 : decode cX3_linksTo 35 = .ok (.iload_n 2, 1) := by decide +kernel
theorem dX3_linksTo_36 : decode cX3_linksTo 36 = .ok (.ireturn, 1) := by decide +kernel
theorem dX3_layWays_0 : decode cX3_layWays 0 = .ok (.iconst 0, 1) := by decide +kernel
theorem dX3_layWays_1 : decode cX3_layWays 1 = .ok (.istore_n 2, 1) := by decide +kernel
theorem dX3_layWays_2 : decode cX3_layWays 2 = .ok (.iload_n 2, 1) := by decide +kernel
theorem dX3_layWays_3 : decode cX3_layWays 3 = .ok (.bipush 49, 2) := by decide +kernel
theorem dX3_layWays_5 : decode cX3_layWays 5 = .ok (.if_icmp .ge 42, 3) := by decide +kernel
theorem dX3_layWays_8 : decode cX3_layWays 8 = .ok (.aload_n 0, 1) := by decide +kernel
theorem dX3_layWays_9 : decode cX3_layWays 9 = .ok (.getfield 22, 3) := by decide +kernel
theorem dX3_layWays_12 : decode cX3_layWays 12 = .ok (.iload_n 2, 1) := by decide +kernel
theorem dX3_layWays_13 : decode cX3_layWays 13 = .ok (.iload_n 2, 1) := by decide +kernel
theorem dX3_layWays_14 : decode cX3_layWays 14 = .ok (.iload_n 1, 1) := by decide +kernel
theorem dX3_layWays_15 : decode cX3_layWays 15 = .ok (.if_icmp .ne 7, 3) := by decide +kernel
theorem dX3_layWays_18 : decode cX3_layWays 18 = .ok (.iconst 0, 1) := by decide +kernel
theorem dX3_layWays_19 : decode cX3_layWays 19 = .ok (.goto 5, 3) := by decide +kernel
theorem dX3_layWays_22 : decode cX3_layWays 22 = .ok (.bipush (-9), 2) := by decide +kernel
theorem dX3_layWays_24 : decode cX3_layWays 24 = .ok (.iastore, 1) := by decide +kernel
theorem dX3_layWays_25 : decode cX3_layWays 25 = .ok (.aload_n 0, 1) := by decide +kernel
theorem dX3_layWays_26 : decode cX3_layWays 26 = .ok (.getfield 25, 3) := by decide +kernel
theorem dX3_layWays_29 : decode cX3_layWays 29 = .ok (.iload_n 2, 1) := by decide +kernel
theorem dX3_layWays_30 : decode cX3_layWays 30 = .ok (.iload_n 2, 1) := by decide +kernel
theorem dX3_layWays_31 : decode cX3_layWays 31 = .ok (.iload_n 1, 1) := by decide +kernel
theorem dX3_layWays_32 : decode cX3_layWays 32 = .ok (.if_icmp .ne 7, 3) := by decide +kernel
theorem dX3_layWays_35 : decode cX3_layWays 35 = .ok (.lconst 1, 1) := by decide +kernel
theorem dX3_layWays_36 : decode cX3_layWays 36 = .ok (.goto 4, 3) := by decide +kernel
theorem dX3_layWays_39 : decode cX3_layWays 39 = .ok (.lconst 0, 1) := by decide +kernel
theorem dX3_layWays_40 : decode cX3_layWays 40 = .ok (.lastore, 1) := by decide +kernel
theorem dX3_layWays_41 : decode cX3_layWays 41 = .ok (.iinc 2 1, 3) := by decide +kernel
theorem dX3_layWays_44 : decode cX3_layWays 44 = .ok (.goto (-42), 3) := by decide +kernel
theorem dX3_layWays_47 : decode cX3_layWays 47 = .ok (.iconst 1, 1) := by decide +kernel
theorem dX3_layWays_48 : decode cX3_layWays 48 = .ok (.istore_n 2, 1) := by decide +kernel
theorem dX3_layWays_49 : decode cX3_layWays 49 = .ok (.iconst 0, 1) := by decide +kernel
theorem dX3_layWays_50 : decode cX3_layWays 50 = .ok (.istore_n 3, 1) := by decide +kernel
theorem dX3_layWays_51 : decode cX3_layWays 51 = .ok (.iload_n 2, 1) := by decide +kernel
theorem dX3_layWays_52 : decode cX3_layWays 52 = .ok (.ifCond .eq 123, 3) := by decide +kernel
theorem dX3_layWays_55 : decode cX3_layWays 55 = .ok (.iconst 0, 1) := by decide +kernel
theorem dX3_layWays_56 : decode cX3_layWays 56 = .ok (.istore_n 2, 1) := by decide +kernel
theorem dX3_layWays_57 : decode cX3_layWays 57 = .ok (.iconst 0, 1) := by decide +kernel
theorem dX3_layWays_58 : decode cX3_layWays 58 = .ok (.istore 4, 2) := by decide +kernel
theorem dX3_layWays_60 : decode cX3_layWays 60 = .ok (.iload 4, 2) := by decide +kernel
theorem dX3_layWays_62 : decode cX3_layWays 62 = .ok (.aload_n 0, 1) := by decide +kernel
theorem dX3_layWays_63 : decode cX3_layWays 63 = .ok (.invokevirtual 40, 3) := by decide +kernel
theorem dX3_layWays_66 : decode cX3_layWays 66 = .ok (.if_icmp .ge 103, 3) := by decide +kernel
theorem dX3_layWays_69 : decode cX3_layWays 69 = .ok (.iconst 0, 1) := by decide +kernel
theorem dX3_layWays_70 : decode cX3_layWays 70 = .ok (.istore 5, 2) := by decide +kernel
theorem dX3_layWays_72 : decode cX3_layWays 72 = .ok (.iload 5, 2) := by decide +kernel
theorem dX3_layWays_74 : decode cX3_layWays 74 = .ok (.aload_n 0, 1) := by decide +kernel
theorem dX3_layWays_75 : decode cX3_layWays 75 = .ok (.invokevirtual 40, 3) := by decide +kernel
theorem dX3_layWays_78 : decode cX3_layWays 78 = .ok (.if_icmp .ge 85, 3) := by decide +kernel
theorem dX3_layWays_81 : decode cX3_layWays 81 = .ok (.aload_n 0, 1) := by decide +kernel
theorem dX3_layWays_82 : decode cX3_layWays 82 = .ok (.getfield 22, 3) := by decide +kernel
theorem dX3_layWays_85 : decode cX3_layWays 85 = .ok (.iload 4, 2) := by decide +kernel
theorem dX3_layWays_87 : decode cX3_layWays 87 = .ok (.iaload, 1) := by decide +kernel
theorem dX3_layWays_88 : decode cX3_layWays 88 = .ok (.iload_n 3, 1) := by decide +kernel
theorem dX3_layWays_89 : decode cX3_layWays 89 = .ok (.if_icmp .ne 74, 3) := by decide +kernel
theorem dX3_layWays_92 : decode cX3_layWays 92 = .ok (.aload_n 0, 1) := by decide +kernel
theorem dX3_layWays_93 : decode cX3_layWays 93 = .ok (.iload 4, 2) := by decide +kernel
theorem dX3_layWays_95 : decode cX3_layWays 95 = .ok (.iload 5, 2) := by decide +kernel
theorem dX3_layWays_97 : decode cX3_layWays 97 = .ok (.invokevirtual 76, 3) := by decide +kernel
theorem dX3_layWays_100 : decode cX3_layWays 100 = .ok (.ifCond .eq 57, 3) := by decide +kernel
theorem dX3_layWays_103 : decode cX3_layWays 103 = .ok (.aload_n 0, 1) := by decide +kernel
theorem dX3_layWays_104 : decode cX3_layWays 104 = .ok (.getfield 22, 3) := by decide +kernel
theorem dX3_layWays_107 : decode cX3_layWays 107 = .ok (.iload 5, 2) := by decide +kernel
theorem dX3_layWays_109 : decode cX3_layWays 109 = .ok (.iaload, 1) := by decide +kernel
theorem dX3_layWays_110 : decode cX3_layWays 110 = .ok (.bipush (-9), 2) := by decide +kernel
theorem dX3_layWays_112 : decode cX3_layWays 112 = .ok (.if_icmp .eq 16, 3) := by decide +kernel
theorem dX3_layWays_115 : decode cX3_layWays 115 = .ok (.aload_n 0, 1) := by decide +kernel
theorem dX3_layWays_116 : decode cX3_layWays 116 = .ok (.getfield 22, 3) := by decide +kernel
theorem dX3_layWays_119 : decode cX3_layWays 119 = .ok (.iload 5, 2) := by decide +kernel
theorem dX3_layWays_121 : decode cX3_layWays 121 = .ok (.iaload, 1) := by decide +kernel
theorem dX3_layWays_122 : decode cX3_layWays 122 = .ok (.iload_n 3, 1) := by decide +kernel
theorem dX3_layWays_123 : decode cX3_layWays 123 = .ok (.iconst 1, 1) := by decide +kernel
theorem dX3_layWays_124 : decode cX3_layWays 124 = .ok (.iadd, 1) := by decide +kernel
theorem dX3_layWays_125 : decode cX3_layWays 125 = .ok (.if_icmp .ne 32, 3) := by decide +kernel
theorem dX3_layWays_128 : decode cX3_layWays 128 = .ok (.aload_n 0, 1) := by decide +kernel
theorem dX3_layWays_129 : decode cX3_layWays 129 = .ok (.getfield 22, 3) := by decide +kernel
theorem dX3_layWays_132 : decode cX3_layWays 132 = .ok (.iload 5, 2) := by decide +kernel
theorem dX3_layWays_134 : decode cX3_layWays 134 = .ok (.iload_n 3, 1) := by decide +kernel
theorem dX3_layWays_135 : decode cX3_layWays 135 = .ok (.iconst 1, 1) := by decide +kernel
theorem dX3_layWays_136 : decode cX3_layWays 136 = .ok (.iadd, 1) := by decide +kernel
theorem dX3_layWays_137 : decode cX3_layWays 137 = .ok (.iastore, 1) := by decide +kernel
theorem dX3_layWays_138 : decode cX3_layWays 138 = .ok (.aload_n 0, 1) := by decide +kernel
theorem dX3_layWays_139 : decode cX3_layWays 139 = .ok (.getfield 25, 3) := by decide +kernel
theorem dX3_layWays_142 : decode cX3_layWays 142 = .ok (.iload 5, 2) := by decide +kernel
theorem dX3_layWays_144 : decode cX3_layWays 144 = .ok (.dup2, 1) := by decide +kernel
theorem dX3_layWays_145 : decode cX3_layWays 145 = .ok (.laload, 1) := by decide +kernel
theorem dX3_layWays_146 : decode cX3_layWays 146 = .ok (.aload_n 0, 1) := by decide +kernel
theorem dX3_layWays_147 : decode cX3_layWays 147 = .ok (.getfield 25, 3) := by decide +kernel
theorem dX3_layWays_150 : decode cX3_layWays 150 = .ok (.iload 4, 2) := by decide +kernel
theorem dX3_layWays_152 : decode cX3_layWays 152 = .ok (.laload, 1) := by decide +kernel
theorem dX3_layWays_153 : decode cX3_layWays 153 = .ok (.ladd, 1) := by decide +kernel
theorem dX3_layWays_154 : decode cX3_layWays 154 = .ok (.lastore, 1) := by decide +kernel
theorem dX3_layWays_155 : decode cX3_layWays 155 = .ok (.iconst 1, 1) := by decide +kernel
theorem dX3_layWays_156 : decode cX3_layWays 156 = .ok (.istore_n 2, 1) := by decide +kernel
theorem dX3_layWays_157 : decode cX3_layWays 157 = .ok (.iinc 5 1, 3) := by decide +kernel
theorem dX3_layWays_160 : decode cX3_layWays 160 = .ok (.goto (-88), 3) := by decide +kernel
theorem dX3_layWays_163 : decode cX3_layWays 163 = .ok (.iinc 4 1, 3) := by decide +kernel
theorem dX3_layWays_166 : decode cX3_layWays 166 = .ok (.goto (-106), 3) := by decide +kernel
theorem dX3_layWays_169 : decode cX3_layWays 169 = .ok (.iinc 3 1, 3) := by decide +kernel
theorem dX3_layWays_172 : decode cX3_layWays 172 = .ok (.goto (-121), 3) := by decide +kernel
theorem dX3_layWays_175 : decode cX3_layWays 175 = .ok (.return_, 1) := by decide +kernel
theorem dX3_reached_0 : decode cX3_reached 0 = .ok (.aload_n 0, 1) := by decide +kernel
theorem dX3_reached_1 : decode cX3_reached 1 = .ok (.iload_n 1, 1) := by decide +kernel
theorem dX3_reached_2 : decode cX3_reached 2 = .ok (.invokevirtual 131, 3) := by decide +kernel
theorem dX3_reached_5 : decode cX3_reached 5 = .ok (.iconst 0, 1) := by decide +kernel
theorem dX3_reached_6 : decode cX3_reached 6 = .ok (.istore_n 3, 1) := by decide +kernel
theorem dX3_reached_7 : decode cX3_reached 7 = .ok (.iconst 0, 1) := by decide +kernel
theorem dX3_reached_8 : decode cX3_reached 8 = .ok (.istore 4, 2) := by decide +kernel
theorem dX3_reached_10 : decode cX3_reached 10 = .ok (.iconst 0, 1) := by decide +kernel
theorem dX3_reached_11 : decode cX3_reached 11 = .ok (.istore 5, 2) := by decide +kernel
theorem dX3_reached_13 : decode cX3_reached 13 = .ok (.iload 5, 2) := by decide +kernel
theorem dX3_reached_15 : decode cX3_reached 15 = .ok (.aload_n 0, 1) := by decide +kernel
theorem dX3_reached_16 : decode cX3_reached 16 = .ok (.invokevirtual 40, 3) := by decide +kernel
theorem dX3_reached_19 : decode cX3_reached 19 = .ok (.if_icmp .ge 53, 3) := by decide +kernel
theorem dX3_reached_22 : decode cX3_reached 22 = .ok (.iload_n 3, 1) := by decide +kernel
theorem dX3_reached_23 : decode cX3_reached 23 = .ok (.aload_n 0, 1) := by decide +kernel
theorem dX3_reached_24 : decode cX3_reached 24 = .ok (.getfield 22, 3) := by decide +kernel
theorem dX3_reached_27 : decode cX3_reached 27 = .ok (.iload 5, 2) := by decide +kernel
theorem dX3_reached_29 : decode cX3_reached 29 = .ok (.iaload, 1) := by decide +kernel
theorem dX3_reached_30 : decode cX3_reached 30 = .ok (.ifCond .le 7, 3) := by decide +kernel
theorem dX3_reached_33 : decode cX3_reached 33 = .ok (.iconst 1, 1) := by decide +kernel
theorem dX3_reached_34 : decode cX3_reached 34 = .ok (.goto 4, 3) := by decide +kernel
theorem dX3_reached_37 : decode cX3_reached 37 = .ok (.iconst 0, 1) := by decide +kernel
theorem dX3_reached_38 : decode cX3_reached 38 = .ok (.iadd, 1) := by decide +kernel
theorem dX3_reached_39 : decode cX3_reached 39 = .ok (.istore_n 3, 1) := by decide +kernel
theorem dX3_reached_40 : decode cX3_reached 40 = .ok (.aload_n 0, 1) := by decide +kernel
theorem dX3_reached_41 : decode cX3_reached 41 = .ok (.getfield 22, 3) := by decide +kernel
theorem dX3_reached_44 : decode cX3_reached 44 = .ok (.iload 5, 2) := by decide +kernel
theorem dX3_reached_46 : decode cX3_reached 46 = .ok (.iaload, 1) := by decide +kernel
theorem dX3_reached_47 : decode cX3_reached 47 = .ok (.iload 4, 2) := by decide +kernel
theorem dX3_reached_49 : decode cX3_reached 49 = .ok (.if_icmp .le 13, 3) := by decide +kernel
theorem dX3_reached_52 : decode cX3_reached 52 = .ok (.aload_n 0, 1) := by decide +kernel
theorem dX3_reached_53 : decode cX3_reached 53 = .ok (.getfield 22, 3) := by decide +kernel
theorem dX3_reached_56 : decode cX3_reached 56 = .ok (.iload 5, 2) := by decide +kernel
theorem dX3_reached_58 : decode cX3_reached 58 = .ok (.iaload, 1) := by decide +kernel
theorem dX3_reached_59 : decode cX3_reached 59 = .ok (.goto 5, 3) := by decide +kernel
theorem dX3_reached_62 : decode cX3_reached 62 = .ok (.iload 4, 2) := by decide +kernel
theorem dX3_reached_64 : decode cX3_reached 64 = .ok (.istore 4, 2) := by decide +kernel
theorem dX3_reached_66 : decode cX3_reached 66 = .ok (.iinc 5 1, 3) := by decide +kernel
theorem dX3_reached_69 : decode cX3_reached 69 = .ok (.goto (-56), 3) := by decide +kernel
theorem dX3_reached_72 : decode cX3_reached 72 = .ok (.iload_n 2, 1) := by decide +kernel
theorem dX3_reached_73 : decode cX3_reached 73 = .ok (.ifCond .eq 8, 3) := by decide +kernel
theorem dX3_reached_76 : decode cX3_reached 76 = .ok (.iload 4, 2) := by decide +kernel
theorem dX3_reached_78 : decode cX3_reached 78 = .ok (.goto 4, 3) := by decide +kernel
theorem dX3_reached_81 : decode cX3_reached 81 = .ok (.iload_n 3, 1) := by decide +kernel
theorem dX3_reached_82 : decode cX3_reached 82 = .ok (.ireturn, 1) := by decide +kernel
theorem dX3_node_0 : decode cX3_node 0 = .ok (.aload_n 0, 1) := by decide +kernel
theorem dX3_node_1 : decode cX3_node 1 = .ok (.iload_n 1, 1) := by decide +kernel
theorem dX3_node_2 : decode cX3_node 2 = .ok (.invokevirtual 106, 3) := by decide +kernel
theorem dX3_node_5 : decode cX3_node 5 = .ok (.ifCond .eq 13, 3) := by decide +kernel
theorem dX3_node_8 : decode cX3_node 8 = .ok (.iload_n 2, 1) := by decide +kernel
theorem dX3_node_9 : decode cX3_node 9 = .ok (.iconst 0, 1) := by decide +kernel
theorem dX3_node_10 : decode cX3_node 10 = .ok (.bipush 6, 2) := by decide +kernel
theorem dX3_node_12 : decode cX3_node 12 = .ok (.invokestatic 44, 3) := by decide +kernel
theorem dX3_node_15 : decode cX3_node 15 = .ok (.ifCond .ne 5, 3) := by decide +kernel
theorem dX3_node_18 : decode cX3_node 18 = .ok (.iconst (-1), 1) := by decide +kernel
theorem dX3_node_19 : decode cX3_node 19 = .ok (.ireturn, 1) := by decide +kernel
theorem dX3_node_20 : decode cX3_node 20 = .ok (.iload_n 2, 1) := by decide +kernel
theorem dX3_node_21 : decode cX3_node 21 = .ok (.ifCond .ne 13, 3) := by decide +kernel
theorem dX3_node_24 : decode cX3_node 24 = .ok (.aload_n 0, 1) := by decide +kernel
theorem dX3_node_25 : decode cX3_node 25 = .ok (.getfield 7, 3) := by decide +kernel
theorem dX3_node_28 : decode cX3_node 28 = .ok (.bipush 6, 2) := by decide +kernel
theorem dX3_node_30 : decode cX3_node 30 = .ok (.iload_n 1, 1) := by decide +kernel
theorem dX3_node_31 : decode cX3_node 31 = .ok (.iadd, 1) := by decide +kernel
theorem dX3_node_32 : decode cX3_node 32 = .ok (.iaload, 1) := by decide +kernel
theorem dX3_node_33 : decode cX3_node 33 = .ok (.ireturn, 1) := by decide +kernel
theorem dX3_node_34 : decode cX3_node 34 = .ok (.aload_n 0, 1) := by decide +kernel
theorem dX3_node_35 : decode cX3_node 35 = .ok (.iload_n 1, 1) := by decide +kernel
theorem dX3_node_36 : decode cX3_node 36 = .ok (.invokevirtual 55, 3) := by decide +kernel
theorem dX3_node_39 : decode cX3_node 39 = .ok (.ifCond .ne 5, 3) := by decide +kernel
theorem dX3_node_42 : decode cX3_node 42 = .ok (.iconst 0, 1) := by decide +kernel
theorem dX3_node_43 : decode cX3_node 43 = .ok (.ireturn, 1) := by decide +kernel
theorem dX3_node_44 : decode cX3_node 44 = .ok (.iload_n 2, 1) := by decide +kernel
theorem dX3_node_45 : decode cX3_node 45 = .ok (.tableswitch 66 1 5 #[35, 37, 43, 53, 59], 35) := by decide +kernel
theorem dX3_node_80 : decode cX3_node 80 = .ok (.iconst 1, 1) := by decide +kernel
theorem dX3_node_81 : decode cX3_node 81 = .ok (.ireturn, 1) := by decide +kernel
theorem dX3_node_82 : decode cX3_node 82 = .ok (.aload_n 0, 1) := by decide +kernel
theorem dX3_node_83 : decode cX3_node 83 = .ok (.iload_n 1, 1) := by decide +kernel
theorem dX3_node_84 : decode cX3_node 84 = .ok (.invokevirtual 125, 3) := by decide +kernel
theorem dX3_node_87 : decode cX3_node 87 = .ok (.ireturn, 1) := by decide +kernel
theorem dX3_node_88 : decode cX3_node 88 = .ok (.aload_n 0, 1) := by decide +kernel
theorem dX3_node_89 : decode cX3_node 89 = .ok (.getfield 7, 3) := by decide +kernel
theorem dX3_node_92 : decode cX3_node 92 = .ok (.bipush 104, 2) := by decide +kernel
theorem dX3_node_94 : decode cX3_node 94 = .ok (.iload_n 1, 1) := by decide +kernel
theorem dX3_node_95 : decode cX3_node 95 = .ok (.iadd, 1) := by decide +kernel
theorem dX3_node_96 : decode cX3_node 96 = .ok (.iaload, 1) := by decide +kernel
theorem dX3_node_97 : decode cX3_node 97 = .ok (.ireturn, 1) := by decide +kernel
theorem dX3_node_98 : decode cX3_node 98 = .ok (.aload_n 0, 1) := by decide +kernel
theorem dX3_node_99 : decode cX3_node 99 = .ok (.iload_n 1, 1) := by decide +kernel
theorem dX3_node_100 : decode cX3_node 100 = .ok (.invokevirtual 134, 3) := by decide +kernel
theorem dX3_node_103 : decode cX3_node 103 = .ok (.ireturn, 1) := by decide +kernel
theorem dX3_node_104 : decode cX3_node 104 = .ok (.aload_n 0, 1) := by decide +kernel
theorem dX3_node_105 : decode cX3_node 105 = .ok (.iload_n 1, 1) := by decide +kernel
theorem dX3_node_106 : decode cX3_node 106 = .ok (.iconst 0, 1) := by decide +kernel
theorem dX3_node_107 : decode cX3_node 107 = .ok (.invokevirtual 137, 3) := by decide +kernel
theorem dX3_node_110 : decode cX3_node 110 = .ok (.ireturn, 1) := by decide +kernel
theorem dX3_node_111 : decode cX3_node 111 = .ok (.aload_n 0, 1) := by decide +kernel
theorem dX3_node_112 : decode cX3_node 112 = .ok (.iload_n 1, 1) := by decide +kernel
theorem dX3_node_113 : decode cX3_node 113 = .ok (.iconst 1, 1) := by decide +kernel
theorem dX3_node_114 : decode cX3_node 114 = .ok (.invokevirtual 137, 3) := by decide +kernel
theorem dX3_node_117 : decode cX3_node 117 = .ok (.ireturn, 1) := by decide +kernel
theorem dX3_target_0 : decode cX3_target 0 = .ok (.aload_n 0, 1) := by decide +kernel
theorem dX3_target_1 : decode cX3_target 1 = .ok (.iload_n 1, 1) := by decide +kernel
theorem dX3_target_2 : decode cX3_target 2 = .ok (.invokevirtual 106, 3) := by decide +kernel
theorem dX3_target_5 : decode cX3_target 5 = .ok (.ifCond .eq 7, 3) := by decide +kernel
theorem dX3_target_8 : decode cX3_target 8 = .ok (.iload_n 2, 1) := by decide +kernel
theorem dX3_target_9 : decode cX3_target 9 = .ok (.ifCond .ge 5, 3) := by decide +kernel
theorem dX3_target_12 : decode cX3_target 12 = .ok (.iconst (-1), 1) := by decide +kernel
theorem dX3_target_13 : decode cX3_target 13 = .ok (.ireturn, 1) := by decide +kernel
theorem dX3_target_14 : decode cX3_target 14 = .ok (.iload_n 2, 1) := by decide +kernel
theorem dX3_target_15 : decode cX3_target 15 = .ok (.aload_n 0, 1) := by decide +kernel
theorem dX3_target_16 : decode cX3_target 16 = .ok (.getfield 7, 3) := by decide +kernel
theorem dX3_target_19 : decode cX3_target 19 = .ok (.bipush 104, 2) := by decide +kernel
theorem dX3_target_21 : decode cX3_target 21 = .ok (.iload_n 1, 1) := by decide +kernel
theorem dX3_target_22 : decode cX3_target 22 = .ok (.iadd, 1) := by decide +kernel
theorem dX3_target_23 : decode cX3_target 23 = .ok (.iaload, 1) := by decide +kernel
theorem dX3_target_24 : decode cX3_target 24 = .ok (.if_icmp .ge 12, 3) := by decide +kernel
theorem dX3_target_27 : decode cX3_target 27 = .ok (.aload_n 0, 1) := by decide +kernel
theorem dX3_target_28 : decode cX3_target 28 = .ok (.iload_n 1, 1) := by decide +kernel
theorem dX3_target_29 : decode cX3_target 29 = .ok (.iload_n 2, 1) := by decide +kernel
theorem dX3_target_30 : decode cX3_target 30 = .ok (.invokevirtual 52, 3) := by decide +kernel
theorem dX3_target_33 : decode cX3_target 33 = .ok (.goto 5, 3) := by decide +kernel
theorem dX3_target_36 : decode cX3_target 36 = .ok (.bipush (-9), 2) := by decide +kernel
theorem dX3_target_38 : decode cX3_target 38 = .ok (.ireturn, 1) := by decide +kernel
theorem dX3_distance_0 : decode cX3_distance 0 = .ok (.aload_n 0, 1) := by decide +kernel
theorem dX3_distance_1 : decode cX3_distance 1 = .ok (.iload_n 1, 1) := by decide +kernel
theorem dX3_distance_2 : decode cX3_distance 2 = .ok (.invokevirtual 106, 3) := by decide +kernel
theorem dX3_distance_5 : decode cX3_distance 5 = .ok (.ifCond .eq 20, 3) := by decide +kernel
theorem dX3_distance_8 : decode cX3_distance 8 = .ok (.aload_n 0, 1) := by decide +kernel
theorem dX3_distance_9 : decode cX3_distance 9 = .ok (.iload_n 2, 1) := by decide +kernel
theorem dX3_distance_10 : decode cX3_distance 10 = .ok (.invokevirtual 106, 3) := by decide +kernel
theorem dX3_distance_13 : decode cX3_distance 13 = .ok (.ifCond .eq 12, 3) := by decide +kernel
theorem dX3_distance_16 : decode cX3_distance 16 = .ok (.aload_n 0, 1) := by decide +kernel
theorem dX3_distance_17 : decode cX3_distance 17 = .ok (.iload_n 1, 1) := by decide +kernel
theorem dX3_distance_18 : decode cX3_distance 18 = .ok (.iload_n 2, 1) := by decide +kernel
theorem dX3_distance_19 : decode cX3_distance 19 = .ok (.invokevirtual 59, 3) := by decide +kernel
theorem dX3_distance_22 : decode cX3_distance 22 = .ok (.goto 4, 3) := by decide +kernel
theorem dX3_distance_25 : decode cX3_distance 25 = .ok (.iconst (-1), 1) := by decide +kernel
theorem dX3_distance_26 : decode cX3_distance 26 = .ok (.ireturn, 1) := by decide +kernel
theorem dX3_route_0 : decode cX3_route 0 = .ok (.aload_n 0, 1) := by decide +kernel
theorem dX3_route_1 : decode cX3_route 1 = .ok (.iload_n 1, 1) := by decide +kernel
theorem dX3_route_2 : decode cX3_route 2 = .ok (.invokevirtual 106, 3) := by decide +kernel
theorem dX3_route_5 : decode cX3_route 5 = .ok (.ifCond .eq 17, 3) := by decide +kernel
theorem dX3_route_8 : decode cX3_route 8 = .ok (.aload_n 0, 1) := by decide +kernel
theorem dX3_route_9 : decode cX3_route 9 = .ok (.iload_n 2, 1) := by decide +kernel
theorem dX3_route_10 : decode cX3_route 10 = .ok (.invokevirtual 106, 3) := by decide +kernel
theorem dX3_route_13 : decode cX3_route 13 = .ok (.ifCond .eq 9, 3) := by decide +kernel
theorem dX3_route_16 : decode cX3_route 16 = .ok (.iload_n 3, 1) := by decide +kernel
theorem dX3_route_17 : decode cX3_route 17 = .ok (.bipush (-2), 2) := by decide +kernel
theorem dX3_route_19 : decode cX3_route 19 = .ok (.if_icmp .ge 5, 3) := by decide +kernel
theorem dX3_route_22 : decode cX3_route 22 = .ok (.iconst (-1), 1) := by decide +kernel
theorem dX3_route_23 : decode cX3_route 23 = .ok (.ireturn, 1) := by decide +kernel
theorem dX3_route_24 : decode cX3_route 24 = .ok (.aload_n 0, 1) := by decide +kernel
theorem dX3_route_25 : decode cX3_route 25 = .ok (.iload_n 1, 1) := by decide +kernel
theorem dX3_route_26 : decode cX3_route 26 = .ok (.invokevirtual 55, 3) := by decide +kernel
theorem dX3_route_29 : decode cX3_route 29 = .ok (.ifCond .eq 11, 3) := by decide +kernel
theorem dX3_route_32 : decode cX3_route 32 = .ok (.aload_n 0, 1) := by decide +kernel
theorem dX3_route_33 : decode cX3_route 33 = .ok (.iload_n 2, 1) := by decide +kernel
theorem dX3_route_34 : decode cX3_route 34 = .ok (.invokevirtual 55, 3) := by decide +kernel
theorem dX3_route_37 : decode cX3_route 37 = .ok (.ifCond .ne 6, 3) := by decide +kernel
theorem dX3_route_40 : decode cX3_route 40 = .ok (.bipush (-2), 2) := by decide +kernel
theorem dX3_route_42 : decode cX3_route 42 = .ok (.ireturn, 1) := by decide +kernel
theorem dX3_route_43 : decode cX3_route 43 = .ok (.aload_n 0, 1) := by decide +kernel
theorem dX3_route_44 : decode cX3_route 44 = .ok (.iload_n 1, 1) := by decide +kernel
theorem dX3_route_45 : decode cX3_route 45 = .ok (.iload_n 2, 1) := by decide +kernel
theorem dX3_route_46 : decode cX3_route 46 = .ok (.invokevirtual 96, 3) := by decide +kernel
theorem dX3_route_49 : decode cX3_route 49 = .ok (.iload_n 3, 1) := by decide +kernel
theorem dX3_route_50 : decode cX3_route 50 = .ok (.ifCond .ge 28, 3) := by decide +kernel
theorem dX3_route_53 : decode cX3_route 53 = .ok (.iload_n 3, 1) := by decide +kernel
theorem dX3_route_54 : decode cX3_route 54 = .ok (.iconst (-1), 1) := by decide +kernel
theorem dX3_route_55 : decode cX3_route 55 = .ok (.if_icmp .ne 10, 3) := by decide +kernel
theorem dX3_route_58 : decode cX3_route 58 = .ok (.aload_n 0, 1) := by decide +kernel
theorem dX3_route_59 : decode cX3_route 59 = .ok (.getfield 79, 3) := by decide +kernel
theorem dX3_route_62 : decode cX3_route 62 = .ok (.goto 15, 3) := by decide +kernel
theorem dX3_route_65 : decode cX3_route 65 = .ok (.aload_n 0, 1) := by decide +kernel
theorem dX3_route_66 : decode cX3_route 66 = .ok (.getfield 85, 3) := by decide +kernel
theorem dX3_route_69 : decode cX3_route 69 = .ok (.ifCond .eq 7, 3) := by decide +kernel
theorem dX3_route_72 : decode cX3_route 72 = .ok (.iconst 1, 1) := by decide +kernel
theorem dX3_route_73 : decode cX3_route 73 = .ok (.goto 4, 3) := by decide +kernel
theorem dX3_route_76 : decode cX3_route 76 = .ok (.iconst 0, 1) := by decide +kernel
theorem dX3_route_77 : decode cX3_route 77 = .ok (.ireturn, 1) := by decide +kernel
theorem dX3_route_78 : decode cX3_route 78 = .ok (.iload_n 3, 1) := by decide +kernel
theorem dX3_route_79 : decode cX3_route 79 = .ok (.aload_n 0, 1) := by decide +kernel
theorem dX3_route_80 : decode cX3_route 80 = .ok (.getfield 79, 3) := by decide +kernel
theorem dX3_route_83 : decode cX3_route 83 = .ok (.if_icmp .gt 12, 3) := by decide +kernel
theorem dX3_route_86 : decode cX3_route 86 = .ok (.aload_n 0, 1) := by decide +kernel
theorem dX3_route_87 : decode cX3_route 87 = .ok (.getfield 19, 3) := by decide +kernel
theorem dX3_route_90 : decode cX3_route 90 = .ok (.iload_n 3, 1) := by decide +kernel
theorem dX3_route_91 : decode cX3_route 91 = .ok (.iaload, 1) := by decide +kernel
theorem dX3_route_92 : decode cX3_route 92 = .ok (.goto 5, 3) := by decide +kernel
theorem dX3_route_95 : decode cX3_route 95 = .ok (.bipush (-9), 2) := by decide +kernel
theorem dX3_route_97 : decode cX3_route 97 = .ok (.ireturn, 1) := by decide +kernel
theorem dX3_way_0 : decode cX3_way 0 = .ok (.aload_n 0, 1) := by decide +kernel
theorem dX3_way_1 : decode cX3_way 1 = .ok (.iload_n 1, 1) := by decide +kernel
theorem dX3_way_2 : decode cX3_way 2 = .ok (.invokevirtual 106, 3) := by decide +kernel
theorem dX3_way_5 : decode cX3_way 5 = .ok (.ifCond .eq 11, 3) := by decide +kernel
theorem dX3_way_8 : decode cX3_way 8 = .ok (.aload_n 0, 1) := by decide +kernel
theorem dX3_way_9 : decode cX3_way 9 = .ok (.iload_n 2, 1) := by decide +kernel
theorem dX3_way_10 : decode cX3_way 10 = .ok (.invokevirtual 106, 3) := by decide +kernel
theorem dX3_way_13 : decode cX3_way 13 = .ok (.ifCond .ne 5, 3) := by decide +kernel
theorem dX3_way_16 : decode cX3_way 16 = .ok (.iconst (-1), 1) := by decide +kernel
theorem dX3_way_17 : decode cX3_way 17 = .ok (.ireturn, 1) := by decide +kernel
theorem dX3_way_18 : decode cX3_way 18 = .ok (.aload_n 0, 1) := by decide +kernel
theorem dX3_way_19 : decode cX3_way 19 = .ok (.iload_n 1, 1) := by decide +kernel
theorem dX3_way_20 : decode cX3_way 20 = .ok (.invokevirtual 55, 3) := by decide +kernel
theorem dX3_way_23 : decode cX3_way 23 = .ok (.ifCond .eq 11, 3) := by decide +kernel
theorem dX3_way_26 : decode cX3_way 26 = .ok (.aload_n 0, 1) := by decide +kernel
theorem dX3_way_27 : decode cX3_way 27 = .ok (.iload_n 2, 1) := by decide +kernel
theorem dX3_way_28 : decode cX3_way 28 = .ok (.invokevirtual 55, 3) := by decide +kernel
theorem dX3_way_31 : decode cX3_way 31 = .ok (.ifCond .ne 6, 3) := by decide +kernel
theorem dX3_way_34 : decode cX3_way 34 = .ok (.bipush (-2), 2) := by decide +kernel
theorem dX3_way_36 : decode cX3_way 36 = .ok (.ireturn, 1) := by decide +kernel
theorem dX3_way_37 : decode cX3_way 37 = .ok (.aload_n 0, 1) := by decide +kernel
theorem dX3_way_38 : decode cX3_way 38 = .ok (.iload_n 1, 1) := by decide +kernel
theorem dX3_way_39 : decode cX3_way 39 = .ok (.invokevirtual 131, 3) := by decide +kernel
theorem dX3_way_42 : decode cX3_way 42 = .ok (.aload_n 0, 1) := by decide +kernel
theorem dX3_way_43 : decode cX3_way 43 = .ok (.getfield 22, 3) := by decide +kernel
theorem dX3_way_46 : decode cX3_way 46 = .ok (.iload_n 2, 1) := by decide +kernel
theorem dX3_way_47 : decode cX3_way 47 = .ok (.iaload, 1) := by decide +kernel
theorem dX3_way_48 : decode cX3_way 48 = .ok (.ireturn, 1) := by decide +kernel
theorem dX3_paths_0 : decode cX3_paths 0 = .ok (.aload_n 0, 1) := by decide +kernel
theorem dX3_paths_1 : decode cX3_paths 1 = .ok (.iload_n 1, 1) := by decide +kernel
theorem dX3_paths_2 : decode cX3_paths 2 = .ok (.invokevirtual 106, 3) := by decide +kernel
theorem dX3_paths_5 : decode cX3_paths 5 = .ok (.ifCond .eq 11, 3) := by decide +kernel
theorem dX3_paths_8 : decode cX3_paths 8 = .ok (.aload_n 0, 1) := by decide +kernel
theorem dX3_paths_9 : decode cX3_paths 9 = .ok (.iload_n 2, 1) := by decide +kernel
theorem dX3_paths_10 : decode cX3_paths 10 = .ok (.invokevirtual 106, 3) := by decide +kernel
theorem dX3_paths_13 : decode cX3_paths 13 = .ok (.ifCond .ne 7, 3) := by decide +kernel
theorem dX3_paths_16 : decode cX3_paths 16 = .ok (.ldc2_w 141, 3) := by decide +kernel
theorem dX3_paths_19 : decode cX3_paths 19 = .ok (.lreturn, 1) := by decide +kernel
theorem dX3_paths_20 : decode cX3_paths 20 = .ok (.aload_n 0, 1) := by decide +kernel
theorem dX3_paths_21 : decode cX3_paths 21 = .ok (.iload_n 1, 1) := by decide +kernel
theorem dX3_paths_22 : decode cX3_paths 22 = .ok (.invokevirtual 55, 3) := by decide +kernel
theorem dX3_paths_25 : decode cX3_paths 25 = .ok (.ifCond .eq 11, 3) := by decide +kernel
theorem dX3_paths_28 : decode cX3_paths 28 = .ok (.aload_n 0, 1) := by decide +kernel
theorem dX3_paths_29 : decode cX3_paths 29 = .ok (.iload_n 2, 1) := by decide +kernel
theorem dX3_paths_30 : decode cX3_paths 30 = .ok (.invokevirtual 55, 3) := by decide +kernel
theorem dX3_paths_33 : decode cX3_paths 33 = .ok (.ifCond .ne 7, 3) := by decide +kernel
theorem dX3_paths_36 : decode cX3_paths 36 = .ok (.ldc2_w 143, 3) := by decide +kernel
theorem dX3_paths_39 : decode cX3_paths 39 = .ok (.lreturn, 1) := by decide +kernel
theorem dX3_paths_40 : decode cX3_paths 40 = .ok (.aload_n 0, 1) := by decide +kernel
theorem dX3_paths_41 : decode cX3_paths 41 = .ok (.iload_n 1, 1) := by decide +kernel
theorem dX3_paths_42 : decode cX3_paths 42 = .ok (.invokevirtual 131, 3) := by decide +kernel
theorem dX3_paths_45 : decode cX3_paths 45 = .ok (.aload_n 0, 1) := by decide +kernel
theorem dX3_paths_46 : decode cX3_paths 46 = .ok (.getfield 25, 3) := by decide +kernel
theorem dX3_paths_49 : decode cX3_paths 49 = .ok (.iload_n 2, 1) := by decide +kernel
theorem dX3_paths_50 : decode cX3_paths 50 = .ok (.laload, 1) := by decide +kernel
theorem dX3_paths_51 : decode cX3_paths 51 = .ok (.lreturn, 1) := by decide +kernel
theorem dX3_note_0 : decode cX3_note 0 = .ok (.aload_n 0, 1) := by decide +kernel
theorem dX3_note_1 : decode cX3_note 1 = .ok (.getfield 29, 3) := by decide +kernel
theorem dX3_note_4 : decode cX3_note 4 = .ok (.iload_n 1, 1) := by decide +kernel
theorem dX3_note_5 : decode cX3_note 5 = .ok (.iload_n 2, 1) := by decide +kernel
theorem dX3_note_6 : decode cX3_note 6 = .ok (.aload_n 0, 1) := by decide +kernel
theorem dX3_note_7 : decode cX3_note 7 = .ok (.getfield 29, 3) := by decide +kernel
theorem dX3_note_10 : decode cX3_note 10 = .ok (.iload_n 1, 1) := by decide +kernel
theorem dX3_note_11 : decode cX3_note 11 = .ok (.iaload, 1) := by decide +kernel
theorem dX3_note_12 : decode cX3_note 12 = .ok (.if_icmp .le 7, 3) := by decide +kernel
theorem dX3_note_15 : decode cX3_note 15 = .ok (.iload_n 2, 1) := by decide +kernel
theorem dX3_note_16 : decode cX3_note 16 = .ok (.goto 9, 3) := by decide +kernel
theorem dX3_note_19 : decode cX3_note 19 = .ok (.aload_n 0, 1) := by decide +kernel
theorem dX3_note_20 : decode cX3_note 20 = .ok (.getfield 29, 3) := by decide +kernel
theorem dX3_note_23 : decode cX3_note 23 = .ok (.iload_n 1, 1) := by decide +kernel
theorem dX3_note_24 : decode cX3_note 24 = .ok (.iaload, 1) := by decide +kernel
theorem dX3_note_25 : decode cX3_note 25 = .ok (.iastore, 1) := by decide +kernel
theorem dX3_note_26 : decode cX3_note 26 = .ok (.return_, 1) := by decide +kernel
theorem dX3_layMeasures_0 : decode cX3_layMeasures 0 = .ok (.iconst 0, 1) := by decide +kernel
theorem dX3_layMeasures_1 : decode cX3_layMeasures 1 = .ok (.istore_n 1, 1) := by decide +kernel
theorem dX3_layMeasures_2 : decode cX3_layMeasures 2 = .ok (.iload_n 1, 1) := by decide +kernel
theorem dX3_layMeasures_3 : decode cX3_layMeasures 3 = .ok (.bipush 8, 2) := by decide +kernel
theorem dX3_layMeasures_5 : decode cX3_layMeasures 5 = .ok (.if_icmp .ge 16, 3) := by decide +kernel
theorem dX3_layMeasures_8 : decode cX3_layMeasures 8 = .ok (.aload_n 0, 1) := by decide +kernel
theorem dX3_layMeasures_9 : decode cX3_layMeasures 9 = .ok (.getfield 29, 3) := by decide +kernel
theorem dX3_layMeasures_12 : decode cX3_layMeasures 12 = .ok (.iload_n 1, 1) := by decide +kernel
theorem dX3_layMeasures_13 : decode cX3_layMeasures 13 = .ok (.iconst 0, 1) := by decide +kernel
theorem dX3_layMeasures_14 : decode cX3_layMeasures 14 = .ok (.iastore, 1) := by decide +kernel
theorem dX3_layMeasures_15 : decode cX3_layMeasures 15 = .ok (.iinc 1 1, 3) := by decide +kernel
theorem dX3_layMeasures_18 : decode cX3_layMeasures 18 = .ok (.goto (-16), 3) := by decide +kernel
theorem dX3_layMeasures_21 : decode cX3_layMeasures 21 = .ok (.iconst 0, 1) := by decide +kernel
theorem dX3_layMeasures_22 : decode cX3_layMeasures 22 = .ok (.istore_n 1, 1) := by decide +kernel
theorem dX3_layMeasures_23 : decode cX3_layMeasures 23 = .ok (.iload_n 1, 1) := by decide +kernel
theorem dX3_layMeasures_24 : decode cX3_layMeasures 24 = .ok (.aload_n 0, 1) := by decide +kernel
theorem dX3_layMeasures_25 : decode cX3_layMeasures 25 = .ok (.invokevirtual 40, 3) := by decide +kernel
theorem dX3_layMeasures_28 : decode cX3_layMeasures 28 = .ok (.if_icmp .ge 57, 3) := by decide +kernel
theorem dX3_layMeasures_31 : decode cX3_layMeasures 31 = .ok (.aload_n 0, 1) := by decide +kernel
theorem dX3_layMeasures_32 : decode cX3_layMeasures 32 = .ok (.iload_n 1, 1) := by decide +kernel
theorem dX3_layMeasures_33 : decode cX3_layMeasures 33 = .ok (.invokevirtual 55, 3) := by decide +kernel
theorem dX3_layMeasures_36 : decode cX3_layMeasures 36 = .ok (.ifCond .eq 43, 3) := by decide +kernel
theorem dX3_layMeasures_39 : decode cX3_layMeasures 39 = .ok (.aload_n 0, 1) := by decide +kernel
theorem dX3_layMeasures_40 : decode cX3_layMeasures 40 = .ok (.iload_n 1, 1) := by decide +kernel
theorem dX3_layMeasures_41 : decode cX3_layMeasures 41 = .ok (.invokevirtual 131, 3) := by decide +kernel
theorem dX3_layMeasures_44 : decode cX3_layMeasures 44 = .ok (.iconst 0, 1) := by decide +kernel
theorem dX3_layMeasures_45 : decode cX3_layMeasures 45 = .ok (.istore_n 2, 1) := by decide +kernel
theorem dX3_layMeasures_46 : decode cX3_layMeasures 46 = .ok (.iload_n 2, 1) := by decide +kernel
theorem dX3_layMeasures_47 : decode cX3_layMeasures 47 = .ok (.aload_n 0, 1) := by decide +kernel
theorem dX3_layMeasures_48 : decode cX3_layMeasures 48 = .ok (.invokevirtual 40, 3) := by decide +kernel
theorem dX3_layMeasures_51 : decode cX3_layMeasures 51 = .ok (.if_icmp .ge 28, 3) := by decide +kernel
theorem dX3_layMeasures_54 : decode cX3_layMeasures 54 = .ok (.iload_n 2, 1) := by decide +kernel
theorem dX3_layMeasures_55 : decode cX3_layMeasures 55 = .ok (.iload_n 1, 1) := by decide +kernel
theorem dX3_layMeasures_56 : decode cX3_layMeasures 56 = .ok (.if_icmp .eq 17, 3) := by decide +kernel
theorem dX3_layMeasures_59 : decode cX3_layMeasures 59 = .ok (.aload_n 0, 1) := by decide +kernel
theorem dX3_layMeasures_60 : decode cX3_layMeasures 60 = .ok (.iload_n 2, 1) := by decide +kernel
theorem dX3_layMeasures_61 : decode cX3_layMeasures 61 = .ok (.invokevirtual 55, 3) := by decide +kernel
theorem dX3_layMeasures_64 : decode cX3_layMeasures 64 = .ok (.ifCond .eq 9, 3) := by decide +kernel
theorem dX3_layMeasures_67 : decode cX3_layMeasures 67 = .ok (.aload_n 0, 1) := by decide +kernel
theorem dX3_layMeasures_68 : decode cX3_layMeasures 68 = .ok (.iload_n 1, 1) := by decide +kernel
theorem dX3_layMeasures_69 : decode cX3_layMeasures 69 = .ok (.iload_n 2, 1) := by decide +kernel
theorem dX3_layMeasures_70 : decode cX3_layMeasures 70 = .ok (.invokevirtual 145, 3) := by decide +kernel
theorem dX3_layMeasures_73 : decode cX3_layMeasures 73 = .ok (.iinc 2 1, 3) := by decide +kernel
theorem dX3_layMeasures_76 : decode cX3_layMeasures 76 = .ok (.goto (-30), 3) := by decide +kernel
theorem dX3_layMeasures_79 : decode cX3_layMeasures 79 = .ok (.iinc 1 1, 3) := by decide +kernel
theorem dX3_layMeasures_82 : decode cX3_layMeasures 82 = .ok (.goto (-59), 3) := by decide +kernel
theorem dX3_layMeasures_85 : decode cX3_layMeasures 85 = .ok (.return_, 1) := by decide +kernel
theorem dX3_layPair_0 : decode cX3_layPair 0 = .ok (.aload_n 0, 1) := by decide +kernel
theorem dX3_layPair_1 : decode cX3_layPair 1 = .ok (.getfield 29, 3) := by decide +kernel
theorem dX3_layPair_4 : decode cX3_layPair 4 = .ok (.iconst 0, 1) := by decide +kernel
theorem dX3_layPair_5 : decode cX3_layPair 5 = .ok (.dup2, 1) := by decide +kernel
theorem dX3_layPair_6 : decode cX3_layPair 6 = .ok (.iaload, 1) := by decide +kernel
theorem dX3_layPair_7 : decode cX3_layPair 7 = .ok (.iconst 1, 1) := by decide +kernel
theorem dX3_layPair_8 : decode cX3_layPair 8 = .ok (.iadd, 1) := by decide +kernel
theorem dX3_layPair_9 : decode cX3_layPair 9 = .ok (.iastore, 1) := by decide +kernel
theorem dX3_layPair_10 : decode cX3_layPair 10 = .ok (.aload_n 0, 1) := by decide +kernel
theorem dX3_layPair_11 : decode cX3_layPair 11 = .ok (.getfield 22, 3) := by decide +kernel
theorem dX3_layPair_14 : decode cX3_layPair 14 = .ok (.iload_n 2, 1) := by decide +kernel
theorem dX3_layPair_15 : decode cX3_layPair 15 = .ok (.iaload, 1) := by decide +kernel
theorem dX3_layPair_16 : decode cX3_layPair 16 = .ok (.bipush (-9), 2) := by decide +kernel
theorem dX3_layPair_18 : decode cX3_layPair 18 = .ok (.if_icmp .eq 39, 3) := by decide +kernel
theorem dX3_layPair_21 : decode cX3_layPair 21 = .ok (.aload_n 0, 1) := by decide +kernel
theorem dX3_layPair_22 : decode cX3_layPair 22 = .ok (.getfield 29, 3) := by decide +kernel
theorem dX3_layPair_25 : decode cX3_layPair 25 = .ok (.iconst 1, 1) := by decide +kernel
theorem dX3_layPair_26 : decode cX3_layPair 26 = .ok (.dup2, 1) := by decide +kernel
theorem dX3_layPair_27 : decode cX3_layPair 27 = .ok (.iaload, 1) := by decide +kernel
theorem dX3_layPair_28 : decode cX3_layPair 28 = .ok (.iconst 1, 1) := by decide +kernel
theorem dX3_layPair_29 : decode cX3_layPair 29 = .ok (.iadd, 1) := by decide +kernel
theorem dX3_layPair_30 : decode cX3_layPair 30 = .ok (.iastore, 1) := by decide +kernel
theorem dX3_layPair_31 : decode cX3_layPair 31 = .ok (.aload_n 0, 1) := by decide +kernel
theorem dX3_layPair_32 : decode cX3_layPair 32 = .ok (.iconst 2, 1) := by decide +kernel
theorem dX3_layPair_33 : decode cX3_layPair 33 = .ok (.aload_n 0, 1) := by decide +kernel
theorem dX3_layPair_34 : decode cX3_layPair 34 = .ok (.getfield 22, 3) := by decide +kernel
theorem dX3_layPair_37 : decode cX3_layPair 37 = .ok (.iload_n 2, 1) := by decide +kernel
theorem dX3_layPair_38 : decode cX3_layPair 38 = .ok (.iaload, 1) := by decide +kernel
theorem dX3_layPair_39 : decode cX3_layPair 39 = .ok (.invokevirtual 148, 3) := by decide +kernel
theorem dX3_layPair_42 : decode cX3_layPair 42 = .ok (.aload_n 0, 1) := by decide +kernel
theorem dX3_layPair_43 : decode cX3_layPair 43 = .ok (.getfield 29, 3) := by decide +kernel
theorem dX3_layPair_46 : decode cX3_layPair 46 = .ok (.iconst 3, 1) := by decide +kernel
theorem dX3_layPair_47 : decode cX3_layPair 47 = .ok (.dup2, 1) := by decide +kernel
theorem dX3_layPair_48 : decode cX3_layPair 48 = .ok (.iaload, 1) := by decide +kernel
theorem dX3_layPair_49 : decode cX3_layPair 49 = .ok (.aload_n 0, 1) := by decide +kernel
theorem dX3_layPair_50 : decode cX3_layPair 50 = .ok (.getfield 22, 3) := by decide +kernel
theorem dX3_layPair_53 : decode cX3_layPair 53 = .ok (.iload_n 2, 1) := by decide +kernel
theorem dX3_layPair_54 : decode cX3_layPair 54 = .ok (.iaload, 1) := by decide +kernel
theorem dX3_layPair_55 : decode cX3_layPair 55 = .ok (.iadd, 1) := by decide +kernel
theorem dX3_layPair_56 : decode cX3_layPair 56 = .ok (.iastore, 1) := by decide +kernel
theorem dX3_layPair_57 : decode cX3_layPair 57 = .ok (.aload_n 0, 1) := by decide +kernel
theorem dX3_layPair_58 : decode cX3_layPair 58 = .ok (.iload_n 1, 1) := by decide +kernel
theorem dX3_layPair_59 : decode cX3_layPair 59 = .ok (.iload_n 2, 1) := by decide +kernel
theorem dX3_layPair_60 : decode cX3_layPair 60 = .ok (.invokevirtual 96, 3) := by decide +kernel
theorem dX3_layPair_63 : decode cX3_layPair 63 = .ok (.aload_n 0, 1) := by decide +kernel
theorem dX3_layPair_64 : decode cX3_layPair 64 = .ok (.getfield 85, 3) := by decide +kernel
theorem dX3_layPair_67 : decode cX3_layPair 67 = .ok (.ifCond .eq 64, 3) := by decide +kernel
theorem dX3_layPair_70 : decode cX3_layPair 70 = .ok (.aload_n 0, 1) := by decide +kernel
theorem dX3_layPair_71 : decode cX3_layPair 71 = .ok (.getfield 29, 3) := by decide +kernel
theorem dX3_layPair_74 : decode cX3_layPair 74 = .ok (.iconst 4, 1) := by decide +kernel
theorem dX3_layPair_75 : decode cX3_layPair 75 = .ok (.dup2, 1) := by decide +kernel
theorem dX3_layPair_76 : decode cX3_layPair 76 = .ok (.iaload, 1) := by decide +kernel
theorem dX3_layPair_77 : decode cX3_layPair 77 = .ok (.iconst 1, 1) := by decide +kernel
theorem dX3_layPair_78 : decode cX3_layPair 78 = .ok (.iadd, 1) := by decide +kernel
theorem dX3_layPair_79 : decode cX3_layPair 79 = .ok (.iastore, 1) := by decide +kernel
theorem dX3_layPair_80 : decode cX3_layPair 80 = .ok (.aload_n 0, 1) := by decide +kernel
theorem dX3_layPair_81 : decode cX3_layPair 81 = .ok (.iconst 5, 1) := by decide +kernel
theorem dX3_layPair_82 : decode cX3_layPair 82 = .ok (.aload_n 0, 1) := by decide +kernel
theorem dX3_layPair_83 : decode cX3_layPair 83 = .ok (.getfield 79, 3) := by decide +kernel
theorem dX3_layPair_86 : decode cX3_layPair 86 = .ok (.invokevirtual 148, 3) := by decide +kernel
theorem dX3_layPair_89 : decode cX3_layPair 89 = .ok (.aload_n 0, 1) := by decide +kernel
theorem dX3_layPair_90 : decode cX3_layPair 90 = .ok (.getfield 29, 3) := by decide +kernel
theorem dX3_layPair_93 : decode cX3_layPair 93 = .ok (.bipush 6, 2) := by decide +kernel
theorem dX3_layPair_95 : decode cX3_layPair 95 = .ok (.dup2, 1) := by decide +kernel
theorem dX3_layPair_96 : decode cX3_layPair 96 = .ok (.iaload, 1) := by decide +kernel
theorem dX3_layPair_97 : decode cX3_layPair 97 = .ok (.aload_n 0, 1) := by decide +kernel
theorem dX3_layPair_98 : decode cX3_layPair 98 = .ok (.getfield 79, 3) := by decide +kernel
theorem dX3_layPair_101 : decode cX3_layPair 101 = .ok (.iadd, 1) := by decide +kernel
theorem dX3_layPair_102 : decode cX3_layPair 102 = .ok (.iastore, 1) := by decide +kernel
theorem dX3_layPair_103 : decode cX3_layPair 103 = .ok (.aload_n 0, 1) := by decide +kernel
theorem dX3_layPair_104 : decode cX3_layPair 104 = .ok (.getfield 29, 3) := by decide +kernel
theorem dX3_layPair_107 : decode cX3_layPair 107 = .ok (.bipush 7, 2) := by decide +kernel
theorem dX3_layPair_109 : decode cX3_layPair 109 = .ok (.dup2, 1) := by decide +kernel
theorem dX3_layPair_110 : decode cX3_layPair 110 = .ok (.iaload, 1) := by decide +kernel
theorem dX3_layPair_111 : decode cX3_layPair 111 = .ok (.aload_n 0, 1) := by decide +kernel
theorem dX3_layPair_112 : decode cX3_layPair 112 = .ok (.getfield 79, 3) := by decide +kernel
theorem dX3_layPair_115 : decode cX3_layPair 115 = .ok (.aload_n 0, 1) := by decide +kernel
theorem dX3_layPair_116 : decode cX3_layPair 116 = .ok (.getfield 22, 3) := by decide +kernel
theorem dX3_layPair_119 : decode cX3_layPair 119 = .ok (.iload_n 2, 1) := by decide +kernel
theorem dX3_layPair_120 : decode cX3_layPair 120 = .ok (.iaload, 1) := by decide +kernel
theorem dX3_layPair_121 : decode cX3_layPair 121 = .ok (.if_icmp .ne 7, 3) := by decide +kernel
theorem dX3_layPair_124 : decode cX3_layPair 124 = .ok (.iconst 1, 1) := by decide +kernel
theorem dX3_layPair_125 : decode cX3_layPair 125 = .ok (.goto 4, 3) := by decide +kernel
theorem dX3_layPair_128 : decode cX3_layPair 128 = .ok (.iconst 0, 1) := by decide +kernel
theorem dX3_layPair_129 : decode cX3_layPair 129 = .ok (.iadd, 1) := by decide +kernel
theorem dX3_layPair_130 : decode cX3_layPair 130 = .ok (.iastore, 1) := by decide +kernel
theorem dX3_layPair_131 : decode cX3_layPair 131 = .ok (.return_, 1) := by decide +kernel
theorem dX3_measure_0 : decode cX3_measure 0 = .ok (.iload_n 1, 1) := by decide +kernel
theorem dX3_measure_1 : decode cX3_measure 1 = .ok (.iconst 0, 1) := by decide +kernel
theorem dX3_measure_2 : decode cX3_measure 2 = .ok (.bipush 7, 2) := by decide +kernel
theorem dX3_measure_4 : decode cX3_measure 4 = .ok (.invokestatic 44, 3) := by decide +kernel
theorem dX3_measure_7 : decode cX3_measure 7 = .ok (.ifCond .ne 5, 3) := by decide +kernel
theorem dX3_measure_10 : decode cX3_measure 10 = .ok (.iconst (-1), 1) := by decide +kernel
theorem dX3_measure_11 : decode cX3_measure 11 = .ok (.ireturn, 1) := by decide +kernel
theorem dX3_measure_12 : decode cX3_measure 12 = .ok (.aload_n 0, 1) := by decide +kernel
theorem dX3_measure_13 : decode cX3_measure 13 = .ok (.invokevirtual 151, 3) := by decide +kernel
theorem dX3_measure_16 : decode cX3_measure 16 = .ok (.aload_n 0, 1) := by decide +kernel
theorem dX3_measure_17 : decode cX3_measure 17 = .ok (.getfield 29, 3) := by decide +kernel
theorem dX3_measure_20 : decode cX3_measure 20 = .ok (.iload_n 1, 1) := by decide +kernel
theorem dX3_measure_21 : decode cX3_measure 21 = .ok (.iaload, 1) := by decide +kernel
theorem dX3_measure_22 : decode cX3_measure 22 = .ok (.ireturn, 1) := by decide +kernel
theorem dX3_mean_0 : decode cX3_mean 0 = .ok (.aload_n 0, 1) := by decide +kernel
theorem dX3_mean_1 : decode cX3_mean 1 = .ok (.invokevirtual 151, 3) := by decide +kernel
theorem dX3_mean_4 : decode cX3_mean 4 = .ok (.aload_n 0, 1) := by decide +kernel
theorem dX3_mean_5 : decode cX3_mean 5 = .ok (.getfield 29, 3) := by decide +kernel
theorem dX3_mean_8 : decode cX3_mean 8 = .ok (.iconst 4, 1) := by decide +kernel
theorem dX3_mean_9 : decode cX3_mean 9 = .ok (.iaload, 1) := by decide +kernel
theorem dX3_mean_10 : decode cX3_mean 10 = .ok (.ifCond .ne 7, 3) := by decide +kernel
theorem dX3_mean_13 : decode cX3_mean 13 = .ok (.fconst 0, 1) := by decide +kernel
theorem dX3_mean_14 : decode cX3_mean 14 = .ok (.goto 19, 3) := by decide +kernel
theorem dX3_mean_17 : decode cX3_mean 17 = .ok (.aload_n 0, 1) := by decide +kernel
theorem dX3_mean_18 : decode cX3_mean 18 = .ok (.getfield 29, 3) := by decide +kernel
theorem dX3_mean_21 : decode cX3_mean 21 = .ok (.bipush 6, 2) := by decide +kernel
theorem dX3_mean_23 : decode cX3_mean 23 = .ok (.iaload, 1) := by decide +kernel
theorem dX3_mean_24 : decode cX3_mean 24 = .ok (.i2f, 1) := by decide +kernel
theorem dX3_mean_25 : decode cX3_mean 25 = .ok (.aload_n 0, 1) := by decide +kernel
theorem dX3_mean_26 : decode cX3_mean 26 = .ok (.getfield 29, 3) := by decide +kernel
theorem dX3_mean_29 : decode cX3_mean 29 = .ok (.iconst 4, 1) := by decide +kernel
theorem dX3_mean_30 : decode cX3_mean 30 = .ok (.iaload, 1) := by decide +kernel
theorem dX3_mean_31 : decode cX3_mean 31 = .ok (.i2f, 1) := by decide +kernel
theorem dX3_mean_32 : decode cX3_mean 32 = .ok (.fdiv, 1) := by decide +kernel
theorem dX3_mean_33 : decode cX3_mean 33 = .ok (.freturn, 1) := by decide +kernel
theorem dX3_isImage_0 : decode cX3_isImage 0 = .ok (.iload_n 0, 1) := by decide +kernel
theorem dX3_isImage_1 : decode cX3_isImage 1 = .ok (.iconst 0, 1) := by decide +kernel
theorem dX3_isImage_2 : decode cX3_isImage 2 = .ok (.iconst 1, 1) := by decide +kernel
theorem dX3_isImage_3 : decode cX3_isImage 3 = .ok (.invokestatic 44, 3) := by decide +kernel
theorem dX3_isImage_6 : decode cX3_isImage 6 = .ok (.ireturn, 1) := by decide +kernel
theorem dX3_keep_0 : decode cX3_keep 0 = .ok (.iload_n 1, 1) := by decide +kernel
theorem dX3_keep_1 : decode cX3_keep 1 = .ok (.invokestatic 154, 3) := by decide +kernel
theorem dX3_keep_4 : decode cX3_keep 4 = .ok (.ifCond .ne 5, 3) := by decide +kernel
theorem dX3_keep_7 : decode cX3_keep 7 = .ok (.iconst (-1), 1) := by decide +kernel
theorem dX3_keep_8 : decode cX3_keep 8 = .ok (.ireturn, 1) := by decide +kernel
theorem dX3_keep_9 : decode cX3_keep 9 = .ok (.iconst 0, 1) := by decide +kernel
theorem dX3_keep_10 : decode cX3_keep 10 = .ok (.istore_n 2, 1) := by decide +kernel
theorem dX3_keep_11 : decode cX3_keep 11 = .ok (.iload_n 2, 1) := by decide +kernel
theorem dX3_keep_12 : decode cX3_keep 12 = .ok (.sipush 300, 3) := by decide +kernel
theorem dX3_keep_15 : decode cX3_keep 15 = .ok (.if_icmp .ge 27, 3) := by decide +kernel
theorem dX3_keep_18 : decode cX3_keep 18 = .ok (.aload_n 0, 1) := by decide +kernel
theorem dX3_keep_19 : decode cX3_keep 19 = .ok (.getfield 16, 3) := by decide +kernel
theorem dX3_keep_22 : decode cX3_keep 22 = .ok (.sipush 300, 3) := by decide +kernel
theorem dX3_keep_25 : decode cX3_keep 25 = .ok (.iload_n 1, 1) := by decide +kernel
theorem dX3_keep_26 : decode cX3_keep 26 = .ok (.imul, 1) := by decide +kernel
theorem dX3_keep_27 : decode cX3_keep 27 = .ok (.iload_n 2, 1) := by decide +kernel
theorem dX3_keep_28 : decode cX3_keep 28 = .ok (.iadd, 1) := by decide +kernel
theorem dX3_keep_29 : decode cX3_keep 29 = .ok (.aload_n 0, 1) := by decide +kernel
theorem dX3_keep_30 : decode cX3_keep 30 = .ok (.getfield 7, 3) := by decide +kernel
theorem dX3_keep_33 : decode cX3_keep 33 = .ok (.iload_n 2, 1) := by decide +kernel
theorem dX3_keep_34 : decode cX3_keep 34 = .ok (.iaload, 1) := by decide +kernel
theorem dX3_keep_35 : decode cX3_keep 35 = .ok (.iastore, 1) := by decide +kernel
theorem dX3_keep_36 : decode cX3_keep 36 = .ok (.iinc 2 1, 3) := by decide +kernel
theorem dX3_keep_39 : decode cX3_keep 39 = .ok (.goto (-28), 3) := by decide +kernel
theorem dX3_keep_42 : decode cX3_keep 42 = .ok (.aload_n 0, 1) := by decide +kernel
theorem dX3_keep_43 : decode cX3_keep 43 = .ok (.dup, 1) := by decide +kernel
theorem dX3_keep_44 : decode cX3_keep 44 = .ok (.getfield 157, 3) := by decide +kernel
theorem dX3_keep_47 : decode cX3_keep 47 = .ok (.iconst 1, 1) := by decide +kernel
theorem dX3_keep_48 : decode cX3_keep 48 = .ok (.iload_n 1, 1) := by decide +kernel
theorem dX3_keep_49 : decode cX3_keep 49 = .ok (.ishl, 1) := by decide +kernel
theorem dX3_keep_50 : decode cX3_keep 50 = .ok (.ior, 1) := by decide +kernel
theorem dX3_keep_51 : decode cX3_keep 51 = .ok (.putfield 157, 3) := by decide +kernel
theorem dX3_keep_54 : decode cX3_keep 54 = .ok (.aload_n 0, 1) := by decide +kernel
theorem dX3_keep_55 : decode cX3_keep 55 = .ok (.invokevirtual 128, 3) := by decide +kernel
theorem dX3_keep_58 : decode cX3_keep 58 = .ok (.ireturn, 1) := by decide +kernel
theorem dX3_back_0 : decode cX3_back 0 = .ok (.iload_n 1, 1) := by decide +kernel
theorem dX3_back_1 : decode cX3_back 1 = .ok (.invokestatic 154, 3) := by decide +kernel
theorem dX3_back_4 : decode cX3_back 4 = .ok (.ifCond .ne 5, 3) := by decide +kernel
theorem dX3_back_7 : decode cX3_back 7 = .ok (.iconst (-1), 1) := by decide +kernel
theorem dX3_back_8 : decode cX3_back 8 = .ok (.ireturn, 1) := by decide +kernel
theorem dX3_back_9 : decode cX3_back 9 = .ok (.aload_n 0, 1) := by decide +kernel
theorem dX3_back_10 : decode cX3_back 10 = .ok (.getfield 157, 3) := by decide +kernel
theorem dX3_back_13 : decode cX3_back 13 = .ok (.iload_n 1, 1) := by decide +kernel
theorem dX3_back_14 : decode cX3_back 14 = .ok (.ishr, 1) := by decide +kernel
theorem dX3_back_15 : decode cX3_back 15 = .ok (.iconst 1, 1) := by decide +kernel
theorem dX3_back_16 : decode cX3_back 16 = .ok (.iand, 1) := by decide +kernel
theorem dX3_back_17 : decode cX3_back 17 = .ok (.ifCond .ne 6, 3) := by decide +kernel
theorem dX3_back_20 : decode cX3_back 20 = .ok (.bipush (-2), 2) := by decide +kernel
theorem dX3_back_22 : decode cX3_back 22 = .ok (.ireturn, 1) := by decide +kernel
theorem dX3_back_23 : decode cX3_back 23 = .ok (.aload_n 0, 1) := by decide +kernel
theorem dX3_back_24 : decode cX3_back 24 = .ok (.invokevirtual 103, 3) := by decide +kernel
theorem dX3_back_27 : decode cX3_back 27 = .ok (.iconst 0, 1) := by decide +kernel
theorem dX3_back_28 : decode cX3_back 28 = .ok (.istore_n 2, 1) := by decide +kernel
theorem dX3_back_29 : decode cX3_back 29 = .ok (.iload_n 2, 1) := by decide +kernel
theorem dX3_back_30 : decode cX3_back 30 = .ok (.sipush 300, 3) := by decide +kernel
theorem dX3_back_33 : decode cX3_back 33 = .ok (.if_icmp .ge 27, 3) := by decide +kernel
theorem dX3_back_36 : decode cX3_back 36 = .ok (.aload_n 0, 1) := by decide +kernel
theorem dX3_back_37 : decode cX3_back 37 = .ok (.getfield 7, 3) := by decide +kernel
theorem dX3_back_40 : decode cX3_back 40 = .ok (.iload_n 2, 1) := by decide +kernel
theorem dX3_back_41 : decode cX3_back 41 = .ok (.aload_n 0, 1) := by decide +kernel
theorem dX3_back_42 : decode cX3_back 42 = .ok (.getfield 16, 3) := by decide +kernel
theorem dX3_back_45 : decode cX3_back 45 = .ok (.sipush 300, 3) := by decide +kernel
theorem dX3_back_48 : decode cX3_back 48 = .ok (.iload_n 1, 1) := by decide +kernel
theorem dX3_back_49 : decode cX3_back 49 = .ok (.imul, 1) := by decide +kernel
theorem dX3_back_50 : decode cX3_back 50 = .ok (.iload_n 2, 1) := by decide +kernel
theorem dX3_back_51 : decode cX3_back 51 = .ok (.iadd, 1) := by decide +kernel
theorem dX3_back_52 : decode cX3_back 52 = .ok (.iaload, 1) := by decide +kernel
theorem dX3_back_53 : decode cX3_back 53 = .ok (.iastore, 1) := by decide +kernel
theorem dX3_back_54 : decode cX3_back 54 = .ok (.iinc 2 1, 3) := by decide +kernel
theorem dX3_back_57 : decode cX3_back 57 = .ok (.goto (-28), 3) := by decide +kernel
theorem dX3_back_60 : decode cX3_back 60 = .ok (.aload_n 0, 1) := by decide +kernel
theorem dX3_back_61 : decode cX3_back 61 = .ok (.invokevirtual 128, 3) := by decide +kernel
theorem dX3_back_64 : decode cX3_back 64 = .ok (.ireturn, 1) := by decide +kernel
