theorem dX2_init_0 : decode cX2_init 0 = .ok (.aload_n 0, 1) := by decide +kernel
theorem dX2_init_1 : decode cX2_init 1 = .ok (.invokespecial 1, 3) := by decide +kernel
theorem dX2_init_4 : decode cX2_init 4 = .ok (.aload_n 0, 1) := by decide +kernel
theorem dX2_init_5 : decode cX2_init 5 = .ok (.new 7, 3) := by decide +kernel
theorem dX2_init_8 : decode cX2_init 8 = .ok (.dup, 1) := by decide +kernel
theorem dX2_init_9 : decode cX2_init 9 = .ok (.invokespecial 9, 3) := by decide +kernel
theorem dX2_init_12 : decode cX2_init 12 = .ok (.putfield 10, 3) := by decide +kernel
theorem dX2_init_15 : decode cX2_init 15 = .ok (.aload_n 0, 1) := by decide +kernel
theorem dX2_init_16 : decode cX2_init 16 = .ok (.new 16, 3) := by decide +kernel
theorem dX2_init_19 : decode cX2_init 19 = .ok (.dup, 1) := by decide +kernel
theorem dX2_init_20 : decode cX2_init 20 = .ok (.invokespecial 18, 3) := by decide +kernel
theorem dX2_init_23 : decode cX2_init 23 = .ok (.putfield 19, 3) := by decide +kernel
theorem dX2_init_26 : decode cX2_init 26 = .ok (.aload_n 0, 1) := by decide +kernel
theorem dX2_init_27 : decode cX2_init 27 = .ok (.bipush 8, 2) := by decide +kernel
theorem dX2_init_29 : decode cX2_init 29 = .ok (.anewarray 7, 3) := by decide +kernel
theorem dX2_init_32 : decode cX2_init 32 = .ok (.putfield 23, 3) := by decide +kernel
theorem dX2_init_35 : decode cX2_init 35 = .ok (.aload_n 0, 1) := by decide +kernel
theorem dX2_init_36 : decode cX2_init 36 = .ok (.iconst 2, 1) := by decide +kernel
theorem dX2_init_37 : decode cX2_init 37 = .ok (.anewarray 7, 3) := by decide +kernel
theorem dX2_init_40 : decode cX2_init 40 = .ok (.putfield 27, 3) := by decide +kernel
theorem dX2_init_43 : decode cX2_init 43 = .ok (.aload_n 0, 1) := by decide +kernel
theorem dX2_init_44 : decode cX2_init 44 = .ok (.iconst 0, 1) := by decide +kernel
theorem dX2_init_45 : decode cX2_init 45 = .ok (.putfield 30, 3) := by decide +kernel
theorem dX2_init_48 : decode cX2_init 48 = .ok (.return_, 1) := by decide +kernel
theorem dX2_begin_0 : decode cX2_begin 0 = .ok (.iload_n 1, 1) := by decide +kernel
theorem dX2_begin_1 : decode cX2_begin 1 = .ok (.iconst 1, 1) := by decide +kernel
theorem dX2_begin_2 : decode cX2_begin 2 = .ok (.if_icmp .lt 20, 3) := by decide +kernel
theorem dX2_begin_5 : decode cX2_begin 5 = .ok (.iload_n 1, 1) := by decide +kernel
theorem dX2_begin_6 : decode cX2_begin 6 = .ok (.bipush 7, 2) := by decide +kernel
theorem dX2_begin_8 : decode cX2_begin 8 = .ok (.if_icmp .gt 14, 3) := by decide +kernel
theorem dX2_begin_11 : decode cX2_begin 11 = .ok (.iload_n 2, 1) := by decide +kernel
theorem dX2_begin_12 : decode cX2_begin 12 = .ok (.iconst 1, 1) := by decide +kernel
theorem dX2_begin_13 : decode cX2_begin 13 = .ok (.if_icmp .lt 9, 3) := by decide +kernel
theorem dX2_begin_16 : decode cX2_begin 16 = .ok (.iload_n 2, 1) := by decide +kernel
theorem dX2_begin_17 : decode cX2_begin 17 = .ok (.bipush 7, 2) := by decide +kernel
theorem dX2_begin_19 : decode cX2_begin 19 = .ok (.if_icmp .le 5, 3) := by decide +kernel
theorem dX2_begin_22 : decode cX2_begin 22 = .ok (.iconst (-1), 1) := by decide +kernel
theorem dX2_begin_23 : decode cX2_begin 23 = .ok (.ireturn, 1) := by decide +kernel
theorem dX2_begin_24 : decode cX2_begin 24 = .ok (.aload_n 0, 1) := by decide +kernel
theorem dX2_begin_25 : decode cX2_begin 25 = .ok (.invokevirtual 34, 3) := by decide +kernel
theorem dX2_begin_28 : decode cX2_begin 28 = .ok (.aload_n 0, 1) := by decide +kernel
theorem dX2_begin_29 : decode cX2_begin 29 = .ok (.getfield 10, 3) := by decide +kernel
theorem dX2_begin_32 : decode cX2_begin 32 = .ok (.invokevirtual 37, 3) := by decide +kernel
theorem dX2_begin_35 : decode cX2_begin 35 = .ok (.istore_n 3, 1) := by decide +kernel
theorem dX2_begin_36 : decode cX2_begin 36 = .ok (.aload_n 0, 1) := by decide +kernel
theorem dX2_begin_37 : decode cX2_begin 37 = .ok (.getfield 10, 3) := by decide +kernel
theorem dX2_begin_40 : decode cX2_begin 40 = .ok (.iload_n 1, 1) := by decide +kernel
theorem dX2_begin_41 : decode cX2_begin 41 = .ok (.iload_n 2, 1) := by decide +kernel
theorem dX2_begin_42 : decode cX2_begin 42 = .ok (.invokevirtual 41, 3) := by decide +kernel
theorem dX2_begin_45 : decode cX2_begin 45 = .ok (.iload_n 3, 1) := by decide +kernel
theorem dX2_begin_46 : decode cX2_begin 46 = .ok (.ireturn, 1) := by decide +kernel
theorem dX2_link_0 : decode cX2_link 0 = .ok (.aload_n 0, 1) := by decide +kernel
theorem dX2_link_1 : decode cX2_link 1 = .ok (.iload_n 1, 1) := by decide +kernel
theorem dX2_link_2 : decode cX2_link 2 = .ok (.iload_n 2, 1) := by decide +kernel
theorem dX2_link_3 : decode cX2_link 3 = .ok (.invokevirtual 45, 3) := by decide +kernel
theorem dX2_link_6 : decode cX2_link 6 = .ok (.istore_n 3, 1) := by decide +kernel
theorem dX2_link_7 : decode cX2_link 7 = .ok (.iload_n 3, 1) := by decide +kernel
theorem dX2_link_8 : decode cX2_link 8 = .ok (.ifCond .eq 5, 3) := by decide +kernel
theorem dX2_link_11 : decode cX2_link 11 = .ok (.iload_n 3, 1) := by decide +kernel
theorem dX2_link_12 : decode cX2_link 12 = .ok (.ireturn, 1) := by decide +kernel
theorem dX2_link_13 : decode cX2_link 13 = .ok (.aload_n 0, 1) := by decide +kernel
theorem dX2_link_14 : decode cX2_link 14 = .ok (.invokevirtual 34, 3) := by decide +kernel
theorem dX2_link_17 : decode cX2_link 17 = .ok (.aload_n 0, 1) := by decide +kernel
theorem dX2_link_18 : decode cX2_link 18 = .ok (.getfield 10, 3) := by decide +kernel
theorem dX2_link_21 : decode cX2_link 21 = .ok (.iload_n 1, 1) := by decide +kernel
theorem dX2_link_22 : decode cX2_link 22 = .ok (.iload_n 2, 1) := by decide +kernel
theorem dX2_link_23 : decode cX2_link 23 = .ok (.invokevirtual 49, 3) := by decide +kernel
theorem dX2_link_26 : decode cX2_link 26 = .ok (.aload_n 0, 1) := by decide +kernel
theorem dX2_link_27 : decode cX2_link 27 = .ok (.getfield 10, 3) := by decide +kernel
theorem dX2_link_30 : decode cX2_link 30 = .ok (.iload_n 1, 1) := by decide +kernel
theorem dX2_link_31 : decode cX2_link 31 = .ok (.invokevirtual 52, 3) := by decide +kernel
theorem dX2_link_34 : decode cX2_link 34 = .ok (.ireturn, 1) := by decide +kernel
theorem dX2_unlink_0 : decode cX2_unlink 0 = .ok (.aload_n 0, 1) := by decide +kernel
theorem dX2_unlink_1 : decode cX2_unlink 1 = .ok (.getfield 10, 3) := by decide +kernel
theorem dX2_unlink_4 : decode cX2_unlink 4 = .ok (.iload_n 1, 1) := by decide +kernel
theorem dX2_unlink_5 : decode cX2_unlink 5 = .ok (.invokevirtual 56, 3) := by decide +kernel
theorem dX2_unlink_8 : decode cX2_unlink 8 = .ok (.ifCond .eq 19, 3) := by decide +kernel
theorem dX2_unlink_11 : decode cX2_unlink 11 = .ok (.iload_n 2, 1) := by decide +kernel
theorem dX2_unlink_12 : decode cX2_unlink 12 = .ok (.ifCond .lt 15, 3) := by decide +kernel
theorem dX2_unlink_15 : decode cX2_unlink 15 = .ok (.iload_n 2, 1) := by decide +kernel
theorem dX2_unlink_16 : decode cX2_unlink 16 = .ok (.aload_n 0, 1) := by decide +kernel
theorem dX2_unlink_17 : decode cX2_unlink 17 = .ok (.getfield 10, 3) := by decide +kernel
theorem dX2_unlink_20 : decode cX2_unlink 20 = .ok (.iload_n 1, 1) := by decide +kernel
theorem dX2_unlink_21 : decode cX2_unlink 21 = .ok (.invokevirtual 52, 3) := by decide +kernel
theorem dX2_unlink_24 : decode cX2_unlink 24 = .ok (.if_icmp .lt 5, 3) := by decide +kernel
theorem dX2_unlink_27 : decode cX2_unlink 27 = .ok (.iconst (-1), 1) := by decide +kernel
theorem dX2_unlink_28 : decode cX2_unlink 28 = .ok (.ireturn, 1) := by decide +kernel
theorem dX2_unlink_29 : decode cX2_unlink 29 = .ok (.aload_n 0, 1) := by decide +kernel
theorem dX2_unlink_30 : decode cX2_unlink 30 = .ok (.invokevirtual 34, 3) := by decide +kernel
theorem dX2_unlink_33 : decode cX2_unlink 33 = .ok (.aload_n 0, 1) := by decide +kernel
theorem dX2_unlink_34 : decode cX2_unlink 34 = .ok (.getfield 10, 3) := by decide +kernel
theorem dX2_unlink_37 : decode cX2_unlink 37 = .ok (.iload_n 1, 1) := by decide +kernel
theorem dX2_unlink_38 : decode cX2_unlink 38 = .ok (.iload_n 2, 1) := by decide +kernel
theorem dX2_unlink_39 : decode cX2_unlink 39 = .ok (.invokevirtual 60, 3) := by decide +kernel
theorem dX2_unlink_42 : decode cX2_unlink 42 = .ok (.istore_n 3, 1) := by decide +kernel
theorem dX2_unlink_43 : decode cX2_unlink 43 = .ok (.aload_n 0, 1) := by decide +kernel
theorem dX2_unlink_44 : decode cX2_unlink 44 = .ok (.getfield 10, 3) := by decide +kernel
theorem dX2_unlink_47 : decode cX2_unlink 47 = .ok (.iload_n 1, 1) := by decide +kernel
theorem dX2_unlink_48 : decode cX2_unlink 48 = .ok (.iload_n 2, 1) := by decide +kernel
theorem dX2_unlink_49 : decode cX2_unlink 49 = .ok (.invokevirtual 63, 3) := by decide +kernel
theorem dX2_unlink_52 : decode cX2_unlink 52 = .ok (.iload_n 3, 1) := by decide +kernel
theorem dX2_unlink_53 : decode cX2_unlink 53 = .ok (.ireturn, 1) := by decide +kernel
theorem dX2_drawLink_0 : decode cX2_drawLink 0 = .ok (.aload_n 0, 1) := by decide +kernel
theorem dX2_drawLink_1 : decode cX2_drawLink 1 = .ok (.getfield 10, 3) := by decide +kernel
theorem dX2_drawLink_4 : decode cX2_drawLink 4 = .ok (.iload_n 1, 1) := by decide +kernel
theorem dX2_drawLink_5 : decode cX2_drawLink 5 = .ok (.invokevirtual 56, 3) := by decide +kernel
theorem dX2_drawLink_8 : decode cX2_drawLink 8 = .ok (.ifCond .eq 12, 3) := by decide +kernel
theorem dX2_drawLink_11 : decode cX2_drawLink 11 = .ok (.iload_n 2, 1) := by decide +kernel
theorem dX2_drawLink_12 : decode cX2_drawLink 12 = .ok (.ifCond .lt 8, 3) := by decide +kernel
theorem dX2_drawLink_15 : decode cX2_drawLink 15 = .ok (.iload_n 2, 1) := by decide +kernel
theorem dX2_drawLink_16 : decode cX2_drawLink 16 = .ok (.iconst 2, 1) := by decide +kernel
theorem dX2_drawLink_17 : decode cX2_drawLink 17 = .ok (.if_icmp .le 5, 3) := by decide +kernel
theorem dX2_drawLink_20 : decode cX2_drawLink 20 = .ok (.iconst (-1), 1) := by decide +kernel
theorem dX2_drawLink_21 : decode cX2_drawLink 21 = .ok (.ireturn, 1) := by decide +kernel
theorem dX2_drawLink_22 : decode cX2_drawLink 22 = .ok (.aload_n 0, 1) := by decide +kernel
theorem dX2_drawLink_23 : decode cX2_drawLink 23 = .ok (.getfield 10, 3) := by decide +kernel
theorem dX2_drawLink_26 : decode cX2_drawLink 26 = .ok (.iload_n 1, 1) := by decide +kernel
theorem dX2_drawLink_27 : decode cX2_drawLink 27 = .ok (.invokevirtual 66, 3) := by decide +kernel
theorem dX2_drawLink_30 : decode cX2_drawLink 30 = .ok (.ifCond .ne 6, 3) := by decide +kernel
theorem dX2_drawLink_33 : decode cX2_drawLink 33 = .ok (.bipush (-2), 2) := by decide +kernel
theorem dX2_drawLink_35 : decode cX2_drawLink 35 = .ok (.ireturn, 1) := by decide +kernel
theorem dX2_drawLink_36 : decode cX2_drawLink 36 = .ok (.aload_n 0, 1) := by decide +kernel
theorem dX2_drawLink_37 : decode cX2_drawLink 37 = .ok (.invokevirtual 34, 3) := by decide +kernel
theorem dX2_drawLink_40 : decode cX2_drawLink 40 = .ok (.aload_n 0, 1) := by decide +kernel
theorem dX2_drawLink_41 : decode cX2_drawLink 41 = .ok (.getfield 10, 3) := by decide +kernel
theorem dX2_drawLink_44 : decode cX2_drawLink 44 = .ok (.iload_n 1, 1) := by decide +kernel
theorem dX2_drawLink_45 : decode cX2_drawLink 45 = .ok (.iload_n 2, 1) := by decide +kernel
theorem dX2_drawLink_46 : decode cX2_drawLink 46 = .ok (.invokevirtual 69, 3) := by decide +kernel
theorem dX2_drawLink_49 : decode cX2_drawLink 49 = .ok (.istore_n 3, 1) := by decide +kernel
theorem dX2_drawLink_50 : decode cX2_drawLink 50 = .ok (.iload_n 3, 1) := by decide +kernel
theorem dX2_drawLink_51 : decode cX2_drawLink 51 = .ok (.bipush (-9), 2) := by decide +kernel
theorem dX2_drawLink_53 : decode cX2_drawLink 53 = .ok (.if_icmp .eq 12, 3) := by decide +kernel
theorem dX2_drawLink_56 : decode cX2_drawLink 56 = .ok (.aload_n 0, 1) := by decide +kernel
theorem dX2_drawLink_57 : decode cX2_drawLink 57 = .ok (.getfield 10, 3) := by decide +kernel
theorem dX2_drawLink_60 : decode cX2_drawLink 60 = .ok (.iload_n 1, 1) := by decide +kernel
theorem dX2_drawLink_61 : decode cX2_drawLink 61 = .ok (.iload_n 3, 1) := by decide +kernel
theorem dX2_drawLink_62 : decode cX2_drawLink 62 = .ok (.invokevirtual 49, 3) := by decide +kernel
theorem dX2_drawLink_65 : decode cX2_drawLink 65 = .ok (.iload_n 3, 1) := by decide +kernel
theorem dX2_drawLink_66 : decode cX2_drawLink 66 = .ok (.ireturn, 1) := by decide +kernel
theorem dX2_seek_0 : decode cX2_seek 0 = .ok (.aload_n 0, 1) := by decide +kernel
theorem dX2_seek_1 : decode cX2_seek 1 = .ok (.iload_n 1, 1) := by decide +kernel
theorem dX2_seek_2 : decode cX2_seek 2 = .ok (.iload_n 2, 1) := by decide +kernel
theorem dX2_seek_3 : decode cX2_seek 3 = .ok (.invokevirtual 72, 3) := by decide +kernel
theorem dX2_seek_6 : decode cX2_seek 6 = .ok (.istore_n 3, 1) := by decide +kernel
theorem dX2_seek_7 : decode cX2_seek 7 = .ok (.iload_n 3, 1) := by decide +kernel
theorem dX2_seek_8 : decode cX2_seek 8 = .ok (.ifCond .eq 5, 3) := by decide +kernel
theorem dX2_seek_11 : decode cX2_seek 11 = .ok (.iload_n 3, 1) := by decide +kernel
theorem dX2_seek_12 : decode cX2_seek 12 = .ok (.ireturn, 1) := by decide +kernel
theorem dX2_seek_13 : decode cX2_seek 13 = .ok (.aload_n 0, 1) := by decide +kernel
theorem dX2_seek_14 : decode cX2_seek 14 = .ok (.invokevirtual 34, 3) := by decide +kernel
theorem dX2_seek_17 : decode cX2_seek 17 = .ok (.aload_n 0, 1) := by decide +kernel
theorem dX2_seek_18 : decode cX2_seek 18 = .ok (.iload_n 1, 1) := by decide +kernel
theorem dX2_seek_19 : decode cX2_seek 19 = .ok (.iload_n 2, 1) := by decide +kernel
theorem dX2_seek_20 : decode cX2_seek 20 = .ok (.invokevirtual 75, 3) := by decide +kernel
theorem dX2_seek_23 : decode cX2_seek 23 = .ok (.ifCond .eq 13, 3) := by decide +kernel
theorem dX2_seek_26 : decode cX2_seek 26 = .ok (.aload_n 0, 1) := by decide +kernel
theorem dX2_seek_27 : decode cX2_seek 27 = .ok (.getfield 19, 3) := by decide +kernel
theorem dX2_seek_30 : decode cX2_seek 30 = .ok (.invokevirtual 79, 3) := by decide +kernel
theorem dX2_seek_33 : decode cX2_seek 33 = .ok (.goto 5, 3) := by decide +kernel
theorem dX2_seek_36 : decode cX2_seek 36 = .ok (.bipush (-9), 2) := by decide +kernel
theorem dX2_seek_38 : decode cX2_seek 38 = .ok (.ireturn, 1) := by decide +kernel
theorem dX2_seekSome_0 : decode cX2_seekSome 0 = .ok (.iload_n 1, 1) := by decide +kernel
theorem dX2_seekSome_1 : decode cX2_seekSome 1 = .ok (.iconst 1, 1) := by decide +kernel
theorem dX2_seekSome_2 : decode cX2_seekSome 2 = .ok (.if_icmp .lt 9, 3) := by decide +kernel
theorem dX2_seekSome_5 : decode cX2_seekSome 5 = .ok (.iload_n 1, 1) := by decide +kernel
theorem dX2_seekSome_6 : decode cX2_seekSome 6 = .ok (.bipush 20, 2) := by decide +kernel
theorem dX2_seekSome_8 : decode cX2_seekSome 8 = .ok (.if_icmp .le 5, 3) := by decide +kernel
theorem dX2_seekSome_11 : decode cX2_seekSome 11 = .ok (.iconst (-1), 1) := by decide +kernel
theorem dX2_seekSome_12 : decode cX2_seekSome 12 = .ok (.ireturn, 1) := by decide +kernel
theorem dX2_seekSome_13 : decode cX2_seekSome 13 = .ok (.aload_n 0, 1) := by decide +kernel
theorem dX2_seekSome_14 : decode cX2_seekSome 14 = .ok (.invokevirtual 34, 3) := by decide +kernel
theorem dX2_seekSome_17 : decode cX2_seekSome 17 = .ok (.iconst 0, 1) := by decide +kernel
theorem dX2_seekSome_18 : decode cX2_seekSome 18 = .ok (.istore_n 2, 1) := by decide +kernel
theorem dX2_seekSome_19 : decode cX2_seekSome 19 = .ok (.iconst 0, 1) := by decide +kernel
theorem dX2_seekSome_20 : decode cX2_seekSome 20 = .ok (.istore_n 3, 1) := by decide +kernel
theorem dX2_seekSome_21 : decode cX2_seekSome 21 = .ok (.iload_n 3, 1) := by decide +kernel
theorem dX2_seekSome_22 : decode cX2_seekSome 22 = .ok (.iload_n 1, 1) := by decide +kernel
theorem dX2_seekSome_23 : decode cX2_seekSome 23 = .ok (.if_icmp .ge 79, 3) := by decide +kernel
theorem dX2_seekSome_26 : decode cX2_seekSome 26 = .ok (.aload_n 0, 1) := by decide +kernel
theorem dX2_seekSome_27 : decode cX2_seekSome 27 = .ok (.getfield 10, 3) := by decide +kernel
theorem dX2_seekSome_30 : decode cX2_seekSome 30 = .ok (.aload_n 0, 1) := by decide +kernel
theorem dX2_seekSome_31 : decode cX2_seekSome 31 = .ok (.getfield 10, 3) := by decide +kernel
theorem dX2_seekSome_34 : decode cX2_seekSome 34 = .ok (.invokevirtual 37, 3) := by decide +kernel
theorem dX2_seekSome_37 : decode cX2_seekSome 37 = .ok (.invokevirtual 82, 3) := by decide +kernel
theorem dX2_seekSome_40 : decode cX2_seekSome 40 = .ok (.istore 4, 2) := by decide +kernel
theorem dX2_seekSome_42 : decode cX2_seekSome 42 = .ok (.aload_n 0, 1) := by decide +kernel
theorem dX2_seekSome_43 : decode cX2_seekSome 43 = .ok (.getfield 10, 3) := by decide +kernel
theorem dX2_seekSome_46 : decode cX2_seekSome 46 = .ok (.aload_n 0, 1) := by decide +kernel
theorem dX2_seekSome_47 : decode cX2_seekSome 47 = .ok (.getfield 10, 3) := by decide +kernel
theorem dX2_seekSome_50 : decode cX2_seekSome 50 = .ok (.invokevirtual 37, 3) := by decide +kernel
theorem dX2_seekSome_53 : decode cX2_seekSome 53 = .ok (.invokevirtual 82, 3) := by decide +kernel
theorem dX2_seekSome_56 : decode cX2_seekSome 56 = .ok (.istore 5, 2) := by decide +kernel
theorem dX2_seekSome_58 : decode cX2_seekSome 58 = .ok (.aload_n 0, 1) := by decide +kernel
theorem dX2_seekSome_59 : decode cX2_seekSome 59 = .ok (.getfield 10, 3) := by decide +kernel
theorem dX2_seekSome_62 : decode cX2_seekSome 62 = .ok (.iload 4, 2) := by decide +kernel
theorem dX2_seekSome_64 : decode cX2_seekSome 64 = .ok (.invokevirtual 66, 3) := by decide +kernel
theorem dX2_seekSome_67 : decode cX2_seekSome 67 = .ok (.ifCond .eq 29, 3) := by decide +kernel
theorem dX2_seekSome_70 : decode cX2_seekSome 70 = .ok (.aload_n 0, 1) := by decide +kernel
theorem dX2_seekSome_71 : decode cX2_seekSome 71 = .ok (.getfield 10, 3) := by decide +kernel
theorem dX2_seekSome_74 : decode cX2_seekSome 74 = .ok (.iload 5, 2) := by decide +kernel
theorem dX2_seekSome_76 : decode cX2_seekSome 76 = .ok (.invokevirtual 66, 3) := by decide +kernel
theorem dX2_seekSome_79 : decode cX2_seekSome 79 = .ok (.ifCond .eq 17, 3) := by decide +kernel
theorem dX2_seekSome_82 : decode cX2_seekSome 82 = .ok (.aload_n 0, 1) := by decide +kernel
theorem dX2_seekSome_83 : decode cX2_seekSome 83 = .ok (.iload 4, 2) := by decide +kernel
theorem dX2_seekSome_85 : decode cX2_seekSome 85 = .ok (.iload 5, 2) := by decide +kernel
theorem dX2_seekSome_87 : decode cX2_seekSome 87 = .ok (.invokevirtual 75, 3) := by decide +kernel
theorem dX2_seekSome_90 : decode cX2_seekSome 90 = .ok (.ifCond .eq 6, 3) := by decide +kernel
theorem dX2_seekSome_93 : decode cX2_seekSome 93 = .ok (.iinc 2 1, 3) := by decide +kernel
theorem dX2_seekSome_96 : decode cX2_seekSome 96 = .ok (.iinc 3 1, 3) := by decide +kernel
theorem dX2_seekSome_99 : decode cX2_seekSome 99 = .ok (.goto (-78), 3) := by decide +kernel
theorem dX2_seekSome_102 : decode cX2_seekSome 102 = .ok (.iload_n 2, 1) := by decide +kernel
theorem dX2_seekSome_103 : decode cX2_seekSome 103 = .ok (.ireturn, 1) := by decide +kernel
theorem dX2_exchange_0 : decode cX2_exchange 0 = .ok (.aload_n 0, 1) := by decide +kernel
theorem dX2_exchange_1 : decode cX2_exchange 1 = .ok (.iload_n 1, 1) := by decide +kernel
theorem dX2_exchange_2 : decode cX2_exchange 2 = .ok (.iload_n 2, 1) := by decide +kernel
theorem dX2_exchange_3 : decode cX2_exchange 3 = .ok (.invokevirtual 45, 3) := by decide +kernel
theorem dX2_exchange_6 : decode cX2_exchange 6 = .ok (.istore_n 3, 1) := by decide +kernel
theorem dX2_exchange_7 : decode cX2_exchange 7 = .ok (.iload_n 3, 1) := by decide +kernel
theorem dX2_exchange_8 : decode cX2_exchange 8 = .ok (.ifCond .eq 5, 3) := by decide +kernel
theorem dX2_exchange_11 : decode cX2_exchange 11 = .ok (.iload_n 3, 1) := by decide +kernel
theorem dX2_exchange_12 : decode cX2_exchange 12 = .ok (.ireturn, 1) := by decide +kernel
theorem dX2_exchange_13 : decode cX2_exchange 13 = .ok (.aload_n 0, 1) := by decide +kernel
theorem dX2_exchange_14 : decode cX2_exchange 14 = .ok (.invokevirtual 34, 3) := by decide +kernel
theorem dX2_exchange_17 : decode cX2_exchange 17 = .ok (.aload_n 0, 1) := by decide +kernel
theorem dX2_exchange_18 : decode cX2_exchange 18 = .ok (.getfield 10, 3) := by decide +kernel
theorem dX2_exchange_21 : decode cX2_exchange 21 = .ok (.invokevirtual 85, 3) := by decide +kernel
theorem dX2_exchange_24 : decode cX2_exchange 24 = .ok (.istore 4, 2) := by decide +kernel
theorem dX2_exchange_26 : decode cX2_exchange 26 = .ok (.aload_n 0, 1) := by decide +kernel
theorem dX2_exchange_27 : decode cX2_exchange 27 = .ok (.getfield 10, 3) := by decide +kernel
theorem dX2_exchange_30 : decode cX2_exchange 30 = .ok (.iload_n 1, 1) := by decide +kernel
theorem dX2_exchange_31 : decode cX2_exchange 31 = .ok (.iload_n 2, 1) := by decide +kernel
theorem dX2_exchange_32 : decode cX2_exchange 32 = .ok (.invokevirtual 88, 3) := by decide +kernel
theorem dX2_exchange_35 : decode cX2_exchange 35 = .ok (.aload_n 0, 1) := by decide +kernel
theorem dX2_exchange_36 : decode cX2_exchange 36 = .ok (.getfield 10, 3) := by decide +kernel
theorem dX2_exchange_39 : decode cX2_exchange 39 = .ok (.invokevirtual 85, 3) := by decide +kernel
theorem dX2_exchange_42 : decode cX2_exchange 42 = .ok (.iload 4, 2) := by decide +kernel
theorem dX2_exchange_44 : decode cX2_exchange 44 = .ok (.if_icmp .gt 5, 3) := by decide +kernel
theorem dX2_exchange_47 : decode cX2_exchange 47 = .ok (.iconst 1, 1) := by decide +kernel
theorem dX2_exchange_48 : decode cX2_exchange 48 = .ok (.ireturn, 1) := by decide +kernel
theorem dX2_exchange_49 : decode cX2_exchange 49 = .ok (.aload_n 0, 1) := by decide +kernel
theorem dX2_exchange_50 : decode cX2_exchange 50 = .ok (.getfield 10, 3) := by decide +kernel
theorem dX2_exchange_53 : decode cX2_exchange 53 = .ok (.iload_n 1, 1) := by decide +kernel
theorem dX2_exchange_54 : decode cX2_exchange 54 = .ok (.iload_n 2, 1) := by decide +kernel
theorem dX2_exchange_55 : decode cX2_exchange 55 = .ok (.invokevirtual 88, 3) := by decide +kernel
theorem dX2_exchange_58 : decode cX2_exchange 58 = .ok (.iconst 0, 1) := by decide +kernel
theorem dX2_exchange_59 : decode cX2_exchange 59 = .ok (.ireturn, 1) := by decide +kernel
theorem dX2_leave_0 : decode cX2_leave 0 = .ok (.aload_n 0, 1) := by decide +kernel
theorem dX2_leave_1 : decode cX2_leave 1 = .ok (.getfield 10, 3) := by decide +kernel
theorem dX2_leave_4 : decode cX2_leave 4 = .ok (.iload_n 1, 1) := by decide +kernel
theorem dX2_leave_5 : decode cX2_leave 5 = .ok (.invokevirtual 56, 3) := by decide +kernel
theorem dX2_leave_8 : decode cX2_leave 8 = .ok (.ifCond .ne 5, 3) := by decide +kernel
theorem dX2_leave_11 : decode cX2_leave 11 = .ok (.iconst (-1), 1) := by decide +kernel
theorem dX2_leave_12 : decode cX2_leave 12 = .ok (.ireturn, 1) := by decide +kernel
theorem dX2_leave_13 : decode cX2_leave 13 = .ok (.aload_n 0, 1) := by decide +kernel
theorem dX2_leave_14 : decode cX2_leave 14 = .ok (.getfield 10, 3) := by decide +kernel
theorem dX2_leave_17 : decode cX2_leave 17 = .ok (.iload_n 1, 1) := by decide +kernel
theorem dX2_leave_18 : decode cX2_leave 18 = .ok (.invokevirtual 66, 3) := by decide +kernel
theorem dX2_leave_21 : decode cX2_leave 21 = .ok (.ifCond .eq 14, 3) := by decide +kernel
theorem dX2_leave_24 : decode cX2_leave 24 = .ok (.aload_n 0, 1) := by decide +kernel
theorem dX2_leave_25 : decode cX2_leave 25 = .ok (.getfield 10, 3) := by decide +kernel
theorem dX2_leave_28 : decode cX2_leave 28 = .ok (.invokevirtual 91, 3) := by decide +kernel
theorem dX2_leave_31 : decode cX2_leave 31 = .ok (.iconst 2, 1) := by decide +kernel
theorem dX2_leave_32 : decode cX2_leave 32 = .ok (.if_icmp .ge 6, 3) := by decide +kernel
theorem dX2_leave_35 : decode cX2_leave 35 = .ok (.bipush (-2), 2) := by decide +kernel
theorem dX2_leave_37 : decode cX2_leave 37 = .ok (.ireturn, 1) := by decide +kernel
theorem dX2_leave_38 : decode cX2_leave 38 = .ok (.aload_n 0, 1) := by decide +kernel
theorem dX2_leave_39 : decode cX2_leave 39 = .ok (.invokevirtual 34, 3) := by decide +kernel
theorem dX2_leave_42 : decode cX2_leave 42 = .ok (.aload_n 0, 1) := by decide +kernel
theorem dX2_leave_43 : decode cX2_leave 43 = .ok (.getfield 10, 3) := by decide +kernel
theorem dX2_leave_46 : decode cX2_leave 46 = .ok (.iload_n 1, 1) := by decide +kernel
theorem dX2_leave_47 : decode cX2_leave 47 = .ok (.invokevirtual 94, 3) := by decide +kernel
theorem dX2_leave_50 : decode cX2_leave 50 = .ok (.ireturn, 1) := by decide +kernel
theorem dX2_enter_0 : decode cX2_enter 0 = .ok (.aload_n 0, 1) := by decide +kernel
theorem dX2_enter_1 : decode cX2_enter 1 = .ok (.getfield 10, 3) := by decide +kernel
theorem dX2_enter_4 : decode cX2_enter 4 = .ok (.iload_n 1, 1) := by decide +kernel
theorem dX2_enter_5 : decode cX2_enter 5 = .ok (.invokevirtual 56, 3) := by decide +kernel
theorem dX2_enter_8 : decode cX2_enter 8 = .ok (.ifCond .ne 5, 3) := by decide +kernel
theorem dX2_enter_11 : decode cX2_enter 11 = .ok (.iconst (-1), 1) := by decide +kernel
theorem dX2_enter_12 : decode cX2_enter 12 = .ok (.ireturn, 1) := by decide +kernel
theorem dX2_enter_13 : decode cX2_enter 13 = .ok (.aload_n 0, 1) := by decide +kernel
theorem dX2_enter_14 : decode cX2_enter 14 = .ok (.getfield 10, 3) := by decide +kernel
theorem dX2_enter_17 : decode cX2_enter 17 = .ok (.iload_n 1, 1) := by decide +kernel
theorem dX2_enter_18 : decode cX2_enter 18 = .ok (.invokevirtual 66, 3) := by decide +kernel
theorem dX2_enter_21 : decode cX2_enter 21 = .ok (.ifCond .eq 6, 3) := by decide +kernel
theorem dX2_enter_24 : decode cX2_enter 24 = .ok (.bipush (-2), 2) := by decide +kernel
theorem dX2_enter_26 : decode cX2_enter 26 = .ok (.ireturn, 1) := by decide +kernel
theorem dX2_enter_27 : decode cX2_enter 27 = .ok (.aload_n 0, 1) := by decide +kernel
theorem dX2_enter_28 : decode cX2_enter 28 = .ok (.invokevirtual 34, 3) := by decide +kernel
theorem dX2_enter_31 : decode cX2_enter 31 = .ok (.aload_n 0, 1) := by decide +kernel
theorem dX2_enter_32 : decode cX2_enter 32 = .ok (.getfield 10, 3) := by decide +kernel
theorem dX2_enter_35 : decode cX2_enter 35 = .ok (.iload_n 1, 1) := by decide +kernel
theorem dX2_enter_36 : decode cX2_enter 36 = .ok (.invokevirtual 97, 3) := by decide +kernel
theorem dX2_enter_39 : decode cX2_enter 39 = .ok (.aload_n 0, 1) := by decide +kernel
theorem dX2_enter_40 : decode cX2_enter 40 = .ok (.getfield 10, 3) := by decide +kernel
theorem dX2_enter_43 : decode cX2_enter 43 = .ok (.iload_n 1, 1) := by decide +kernel
theorem dX2_enter_44 : decode cX2_enter 44 = .ok (.invokevirtual 101, 3) := by decide +kernel
theorem dX2_enter_47 : decode cX2_enter 47 = .ok (.invokestatic 105, 3) := by decide +kernel
theorem dX2_enter_50 : decode cX2_enter 50 = .ok (.ireturn, 1) := by decide +kernel
theorem dX2_set_0 : decode cX2_set 0 = .ok (.iload_n 1, 1) := by decide +kernel
theorem dX2_set_1 : decode cX2_set 1 = .ok (.iload_n 2, 1) := by decide +kernel
theorem dX2_set_2 : decode cX2_set 2 = .ok (.invokestatic 111, 3) := by decide +kernel
theorem dX2_set_5 : decode cX2_set 5 = .ok (.ifCond .ne 5, 3) := by decide +kernel
theorem dX2_set_8 : decode cX2_set 8 = .ok (.iconst (-1), 1) := by decide +kernel
theorem dX2_set_9 : decode cX2_set 9 = .ok (.ireturn, 1) := by decide +kernel
theorem dX2_set_10 : decode cX2_set 10 = .ok (.aload_n 0, 1) := by decide +kernel
theorem dX2_set_11 : decode cX2_set 11 = .ok (.invokevirtual 34, 3) := by decide +kernel
theorem dX2_set_14 : decode cX2_set 14 = .ok (.aload_n 0, 1) := by decide +kernel
theorem dX2_set_15 : decode cX2_set 15 = .ok (.getfield 10, 3) := by decide +kernel
theorem dX2_set_18 : decode cX2_set 18 = .ok (.iload_n 1, 1) := by decide +kernel
theorem dX2_set_19 : decode cX2_set 19 = .ok (.invokevirtual 114, 3) := by decide +kernel
theorem dX2_set_22 : decode cX2_set 22 = .ok (.istore_n 3, 1) := by decide +kernel
theorem dX2_set_23 : decode cX2_set 23 = .ok (.aload_n 0, 1) := by decide +kernel
theorem dX2_set_24 : decode cX2_set 24 = .ok (.getfield 10, 3) := by decide +kernel
theorem dX2_set_27 : decode cX2_set 27 = .ok (.iload_n 1, 1) := by decide +kernel
theorem dX2_set_28 : decode cX2_set 28 = .ok (.iload_n 2, 1) := by decide +kernel
theorem dX2_set_29 : decode cX2_set 29 = .ok (.invokevirtual 117, 3) := by decide +kernel
theorem dX2_set_32 : decode cX2_set 32 = .ok (.iload_n 3, 1) := by decide +kernel
theorem dX2_set_33 : decode cX2_set 33 = .ok (.ireturn, 1) := by decide +kernel
theorem dX2_undo_0 : decode cX2_undo 0 = .ok (.aload_n 0, 1) := by decide +kernel
theorem dX2_undo_1 : decode cX2_undo 1 = .ok (.getfield 30, 3) := by decide +kernel
theorem dX2_undo_4 : decode cX2_undo 4 = .ok (.iconst 1, 1) := by decide +kernel
theorem dX2_undo_5 : decode cX2_undo 5 = .ok (.if_icmp .lt 15, 3) := by decide +kernel
theorem dX2_undo_8 : decode cX2_undo 8 = .ok (.aload_n 0, 1) := by decide +kernel
theorem dX2_undo_9 : decode cX2_undo 9 = .ok (.getfield 30, 3) := by decide +kernel
theorem dX2_undo_12 : decode cX2_undo 12 = .ok (.aload_n 0, 1) := by decide +kernel
theorem dX2_undo_13 : decode cX2_undo 13 = .ok (.getfield 23, 3) := by decide +kernel
theorem dX2_undo_16 : decode cX2_undo 16 = .ok (.arraylength, 1) := by decide +kernel
theorem dX2_undo_17 : decode cX2_undo 17 = .ok (.if_icmp .le 6, 3) := by decide +kernel
theorem dX2_undo_20 : decode cX2_undo 20 = .ok (.bipush (-2), 2) := by decide +kernel
theorem dX2_undo_22 : decode cX2_undo 22 = .ok (.ireturn, 1) := by decide +kernel
theorem dX2_undo_23 : decode cX2_undo 23 = .ok (.aload_n 0, 1) := by decide +kernel
theorem dX2_undo_24 : decode cX2_undo 24 = .ok (.dup, 1) := by decide +kernel
theorem dX2_undo_25 : decode cX2_undo 25 = .ok (.getfield 30, 3) := by decide +kernel
theorem dX2_undo_28 : decode cX2_undo 28 = .ok (.iconst 1, 1) := by decide +kernel
theorem dX2_undo_29 : decode cX2_undo 29 = .ok (.isub, 1) := by decide +kernel
theorem dX2_undo_30 : decode cX2_undo 30 = .ok (.putfield 30, 3) := by decide +kernel
theorem dX2_undo_33 : decode cX2_undo 33 = .ok (.aload_n 0, 1) := by decide +kernel
theorem dX2_undo_34 : decode cX2_undo 34 = .ok (.getfield 10, 3) := by decide +kernel
theorem dX2_undo_37 : decode cX2_undo 37 = .ok (.aload_n 0, 1) := by decide +kernel
theorem dX2_undo_38 : decode cX2_undo 38 = .ok (.getfield 23, 3) := by decide +kernel
theorem dX2_undo_41 : decode cX2_undo 41 = .ok (.aload_n 0, 1) := by decide +kernel
theorem dX2_undo_42 : decode cX2_undo 42 = .ok (.getfield 30, 3) := by decide +kernel
theorem dX2_undo_45 : decode cX2_undo 45 = .ok (.aaload, 1) := by decide +kernel
theorem dX2_undo_46 : decode cX2_undo 46 = .ok (.invokevirtual 120, 3) := by decide +kernel
theorem dX2_undo_49 : decode cX2_undo 49 = .ok (.aload_n 0, 1) := by decide +kernel
theorem dX2_undo_50 : decode cX2_undo 50 = .ok (.getfield 30, 3) := by decide +kernel
theorem dX2_undo_53 : decode cX2_undo 53 = .ok (.ireturn, 1) := by decide +kernel
theorem dX2_told_0 : decode cX2_told 0 = .ok (.iload_n 1, 1) := by decide +kernel
theorem dX2_told_1 : decode cX2_told 1 = .ok (.tableswitch 136 0 9 #[55, 63, 71, 79, 87, 95, 104, 113, 122, 131], 55) := by decide +kernel
theorem dX2_told_56 : decode cX2_told 56 = .ok (.aload_n 0, 1) := by decide +kernel
theorem dX2_told_57 : decode cX2_told 57 = .ok (.getfield 10, 3) := by decide +kernel
theorem dX2_told_60 : decode cX2_told 60 = .ok (.invokevirtual 37, 3) := by decide +kernel
theorem dX2_told_63 : decode cX2_told 63 = .ok (.ireturn, 1) := by decide +kernel
theorem dX2_told_64 : decode cX2_told 64 = .ok (.aload_n 0, 1) := by decide +kernel
theorem dX2_told_65 : decode cX2_told 65 = .ok (.getfield 10, 3) := by decide +kernel
theorem dX2_told_68 : decode cX2_told 68 = .ok (.invokevirtual 124, 3) := by decide +kernel
theorem dX2_told_71 : decode cX2_told 71 = .ok (.ireturn, 1) := by decide +kernel
theorem dX2_told_72 : decode cX2_told 72 = .ok (.aload_n 0, 1) := by decide +kernel
theorem dX2_told_73 : decode cX2_told 73 = .ok (.getfield 10, 3) := by decide +kernel
theorem dX2_told_76 : decode cX2_told 76 = .ok (.invokevirtual 91, 3) := by decide +kernel
theorem dX2_told_79 : decode cX2_told 79 = .ok (.ireturn, 1) := by decide +kernel
theorem dX2_told_80 : decode cX2_told 80 = .ok (.aload_n 0, 1) := by decide +kernel
theorem dX2_told_81 : decode cX2_told 81 = .ok (.getfield 10, 3) := by decide +kernel
theorem dX2_told_84 : decode cX2_told 84 = .ok (.invokevirtual 127, 3) := by decide +kernel
theorem dX2_told_87 : decode cX2_told 87 = .ok (.ireturn, 1) := by decide +kernel
theorem dX2_told_88 : decode cX2_told 88 = .ok (.aload_n 0, 1) := by decide +kernel
theorem dX2_told_89 : decode cX2_told 89 = .ok (.getfield 10, 3) := by decide +kernel
theorem dX2_told_92 : decode cX2_told 92 = .ok (.invokevirtual 85, 3) := by decide +kernel
theorem dX2_told_95 : decode cX2_told 95 = .ok (.ireturn, 1) := by decide +kernel
theorem dX2_told_96 : decode cX2_told 96 = .ok (.aload_n 0, 1) := by decide +kernel
theorem dX2_told_97 : decode cX2_told 97 = .ok (.getfield 10, 3) := by decide +kernel
theorem dX2_told_100 : decode cX2_told 100 = .ok (.iconst 0, 1) := by decide +kernel
theorem dX2_told_101 : decode cX2_told 101 = .ok (.invokevirtual 114, 3) := by decide +kernel
theorem dX2_told_104 : decode cX2_told 104 = .ok (.ireturn, 1) := by decide +kernel
theorem dX2_told_105 : decode cX2_told 105 = .ok (.aload_n 0, 1) := by decide +kernel
theorem dX2_told_106 : decode cX2_told 106 = .ok (.getfield 10, 3) := by decide +kernel
theorem dX2_told_109 : decode cX2_told 109 = .ok (.iconst 1, 1) := by decide +kernel
theorem dX2_told_110 : decode cX2_told 110 = .ok (.invokevirtual 114, 3) := by decide +kernel
theorem dX2_told_113 : decode cX2_told 113 = .ok (.ireturn, 1) := by decide +kernel
theorem dX2_told_114 : decode cX2_told 114 = .ok (.aload_n 0, 1) := by decide +kernel
theorem dX2_told_115 : decode cX2_told 115 = .ok (.getfield 10, 3) := by decide +kernel
theorem dX2_told_118 : decode cX2_told 118 = .ok (.iconst 2, 1) := by decide +kernel
theorem dX2_told_119 : decode cX2_told 119 = .ok (.invokevirtual 114, 3) := by decide +kernel
theorem dX2_told_122 : decode cX2_told 122 = .ok (.ireturn, 1) := by decide +kernel
theorem dX2_told_123 : decode cX2_told 123 = .ok (.aload_n 0, 1) := by decide +kernel
theorem dX2_told_124 : decode cX2_told 124 = .ok (.getfield 10, 3) := by decide +kernel
theorem dX2_told_127 : decode cX2_told 127 = .ok (.iconst 3, 1) := by decide +kernel
theorem dX2_told_128 : decode cX2_told 128 = .ok (.invokevirtual 114, 3) := by decide +kernel
theorem dX2_told_131 : decode cX2_told 131 = .ok (.ireturn, 1) := by decide +kernel
theorem dX2_told_132 : decode cX2_told 132 = .ok (.aload_n 0, 1) := by decide +kernel
theorem dX2_told_133 : decode cX2_told 133 = .ok (.getfield 30, 3) := by decide +kernel
theorem dX2_told_136 : decode cX2_told 136 = .ok (.ireturn, 1) := by decide +kernel
theorem dX2_told_137 : decode cX2_told 137 = .ok (.iconst (-1), 1) := by decide +kernel
theorem dX2_told_138 : decode cX2_told 138 = .ok (.ireturn, 1) := by decide +kernel
theorem dX2_node_0 : decode cX2_node 0 = .ok (.aload_n 0, 1) := by decide +kernel
theorem dX2_node_1 : decode cX2_node 1 = .ok (.getfield 10, 3) := by decide +kernel
theorem dX2_node_4 : decode cX2_node 4 = .ok (.iload_n 1, 1) := by decide +kernel
theorem dX2_node_5 : decode cX2_node 5 = .ok (.invokevirtual 56, 3) := by decide +kernel
theorem dX2_node_8 : decode cX2_node 8 = .ok (.ifCond .eq 13, 3) := by decide +kernel
theorem dX2_node_11 : decode cX2_node 11 = .ok (.iload_n 2, 1) := by decide +kernel
theorem dX2_node_12 : decode cX2_node 12 = .ok (.ifCond .lt 9, 3) := by decide +kernel
theorem dX2_node_15 : decode cX2_node 15 = .ok (.iload_n 2, 1) := by decide +kernel
theorem dX2_node_16 : decode cX2_node 16 = .ok (.bipush 6, 2) := by decide +kernel
theorem dX2_node_18 : decode cX2_node 18 = .ok (.if_icmp .le 5, 3) := by decide +kernel
theorem dX2_node_21 : decode cX2_node 21 = .ok (.iconst (-1), 1) := by decide +kernel
theorem dX2_node_22 : decode cX2_node 22 = .ok (.ireturn, 1) := by decide +kernel
theorem dX2_node_23 : decode cX2_node 23 = .ok (.iload_n 2, 1) := by decide +kernel
theorem dX2_node_24 : decode cX2_node 24 = .ok (.ifCond .ne 12, 3) := by decide +kernel
theorem dX2_node_27 : decode cX2_node 27 = .ok (.aload_n 0, 1) := by decide +kernel
theorem dX2_node_28 : decode cX2_node 28 = .ok (.getfield 10, 3) := by decide +kernel
theorem dX2_node_31 : decode cX2_node 31 = .ok (.iload_n 1, 1) := by decide +kernel
theorem dX2_node_32 : decode cX2_node 32 = .ok (.invokevirtual 130, 3) := by decide +kernel
theorem dX2_node_35 : decode cX2_node 35 = .ok (.ireturn, 1) := by decide +kernel
theorem dX2_node_36 : decode cX2_node 36 = .ok (.aload_n 0, 1) := by decide +kernel
theorem dX2_node_37 : decode cX2_node 37 = .ok (.getfield 10, 3) := by decide +kernel
theorem dX2_node_40 : decode cX2_node 40 = .ok (.iload_n 1, 1) := by decide +kernel
theorem dX2_node_41 : decode cX2_node 41 = .ok (.invokevirtual 66, 3) := by decide +kernel
theorem dX2_node_44 : decode cX2_node 44 = .ok (.ifCond .ne 5, 3) := by decide +kernel
theorem dX2_node_47 : decode cX2_node 47 = .ok (.iconst 0, 1) := by decide +kernel
theorem dX2_node_48 : decode cX2_node 48 = .ok (.ireturn, 1) := by decide +kernel
theorem dX2_node_49 : decode cX2_node 49 = .ok (.iload_n 2, 1) := by decide +kernel
theorem dX2_node_50 : decode cX2_node 50 = .ok (.tableswitch 79 1 5 #[34, 36, 48, 57, 66], 34) := by decide +kernel
theorem dX2_node_84 : decode cX2_node 84 = .ok (.iconst 1, 1) := by decide +kernel
theorem dX2_node_85 : decode cX2_node 85 = .ok (.ireturn, 1) := by decide +kernel
theorem dX2_node_86 : decode cX2_node 86 = .ok (.aload_n 0, 1) := by decide +kernel
theorem dX2_node_87 : decode cX2_node 87 = .ok (.getfield 10, 3) := by decide +kernel
theorem dX2_node_90 : decode cX2_node 90 = .ok (.iload_n 1, 1) := by decide +kernel
theorem dX2_node_91 : decode cX2_node 91 = .ok (.invokevirtual 133, 3) := by decide +kernel
theorem dX2_node_94 : decode cX2_node 94 = .ok (.invokestatic 105, 3) := by decide +kernel
theorem dX2_node_97 : decode cX2_node 97 = .ok (.ireturn, 1) := by decide +kernel
theorem dX2_node_98 : decode cX2_node 98 = .ok (.aload_n 0, 1) := by decide +kernel
theorem dX2_node_99 : decode cX2_node 99 = .ok (.getfield 10, 3) := by decide +kernel
theorem dX2_node_102 : decode cX2_node 102 = .ok (.iload_n 1, 1) := by decide +kernel
theorem dX2_node_103 : decode cX2_node 103 = .ok (.invokevirtual 52, 3) := by decide +kernel
theorem dX2_node_106 : decode cX2_node 106 = .ok (.ireturn, 1) := by decide +kernel
theorem dX2_node_107 : decode cX2_node 107 = .ok (.aload_n 0, 1) := by decide +kernel
theorem dX2_node_108 : decode cX2_node 108 = .ok (.getfield 10, 3) := by decide +kernel
theorem dX2_node_111 : decode cX2_node 111 = .ok (.iload_n 1, 1) := by decide +kernel
theorem dX2_node_112 : decode cX2_node 112 = .ok (.invokevirtual 136, 3) := by decide +kernel
theorem dX2_node_115 : decode cX2_node 115 = .ok (.ireturn, 1) := by decide +kernel
theorem dX2_node_116 : decode cX2_node 116 = .ok (.aload_n 0, 1) := by decide +kernel
theorem dX2_node_117 : decode cX2_node 117 = .ok (.getfield 19, 3) := by decide +kernel
theorem dX2_node_120 : decode cX2_node 120 = .ok (.aload_n 0, 1) := by decide +kernel
theorem dX2_node_121 : decode cX2_node 121 = .ok (.getfield 10, 3) := by decide +kernel
theorem dX2_node_124 : decode cX2_node 124 = .ok (.iload_n 1, 1) := by decide +kernel
theorem dX2_node_125 : decode cX2_node 125 = .ok (.invokevirtual 139, 3) := by decide +kernel
theorem dX2_node_128 : decode cX2_node 128 = .ok (.ireturn, 1) := by decide +kernel
theorem dX2_node_129 : decode cX2_node 129 = .ok (.aload_n 0, 1) := by decide +kernel
theorem dX2_node_130 : decode cX2_node 130 = .ok (.getfield 19, 3) := by decide +kernel
theorem dX2_node_133 : decode cX2_node 133 = .ok (.aload_n 0, 1) := by decide +kernel
theorem dX2_node_134 : decode cX2_node 134 = .ok (.getfield 10, 3) := by decide +kernel
theorem dX2_node_137 : decode cX2_node 137 = .ok (.iload_n 1, 1) := by decide +kernel
theorem dX2_node_138 : decode cX2_node 138 = .ok (.invokevirtual 143, 3) := by decide +kernel
theorem dX2_node_141 : decode cX2_node 141 = .ok (.ireturn, 1) := by decide +kernel
theorem dX2_target_0 : decode cX2_target 0 = .ok (.aload_n 0, 1) := by decide +kernel
theorem dX2_target_1 : decode cX2_target 1 = .ok (.getfield 10, 3) := by decide +kernel
theorem dX2_target_4 : decode cX2_target 4 = .ok (.iload_n 1, 1) := by decide +kernel
theorem dX2_target_5 : decode cX2_target 5 = .ok (.invokevirtual 56, 3) := by decide +kernel
theorem dX2_target_8 : decode cX2_target 8 = .ok (.ifCond .eq 7, 3) := by decide +kernel
theorem dX2_target_11 : decode cX2_target 11 = .ok (.iload_n 2, 1) := by decide +kernel
theorem dX2_target_12 : decode cX2_target 12 = .ok (.ifCond .ge 5, 3) := by decide +kernel
theorem dX2_target_15 : decode cX2_target 15 = .ok (.iconst (-1), 1) := by decide +kernel
theorem dX2_target_16 : decode cX2_target 16 = .ok (.ireturn, 1) := by decide +kernel
theorem dX2_target_17 : decode cX2_target 17 = .ok (.iload_n 2, 1) := by decide +kernel
theorem dX2_target_18 : decode cX2_target 18 = .ok (.aload_n 0, 1) := by decide +kernel
theorem dX2_target_19 : decode cX2_target 19 = .ok (.getfield 10, 3) := by decide +kernel
theorem dX2_target_22 : decode cX2_target 22 = .ok (.iload_n 1, 1) := by decide +kernel
theorem dX2_target_23 : decode cX2_target 23 = .ok (.invokevirtual 52, 3) := by decide +kernel
theorem dX2_target_26 : decode cX2_target 26 = .ok (.if_icmp .ge 15, 3) := by decide +kernel
theorem dX2_target_29 : decode cX2_target 29 = .ok (.aload_n 0, 1) := by decide +kernel
theorem dX2_target_30 : decode cX2_target 30 = .ok (.getfield 10, 3) := by decide +kernel
theorem dX2_target_33 : decode cX2_target 33 = .ok (.iload_n 1, 1) := by decide +kernel
theorem dX2_target_34 : decode cX2_target 34 = .ok (.iload_n 2, 1) := by decide +kernel
theorem dX2_target_35 : decode cX2_target 35 = .ok (.invokevirtual 60, 3) := by decide +kernel
theorem dX2_target_38 : decode cX2_target 38 = .ok (.goto 5, 3) := by decide +kernel
theorem dX2_target_41 : decode cX2_target 41 = .ok (.bipush (-9), 2) := by decide +kernel
theorem dX2_target_43 : decode cX2_target 43 = .ok (.ireturn, 1) := by decide +kernel
theorem dX2_distance_0 : decode cX2_distance 0 = .ok (.aload_n 0, 1) := by decide +kernel
theorem dX2_distance_1 : decode cX2_distance 1 = .ok (.getfield 10, 3) := by decide +kernel
theorem dX2_distance_4 : decode cX2_distance 4 = .ok (.iload_n 1, 1) := by decide +kernel
theorem dX2_distance_5 : decode cX2_distance 5 = .ok (.invokevirtual 56, 3) := by decide +kernel
theorem dX2_distance_8 : decode cX2_distance 8 = .ok (.ifCond .eq 14, 3) := by decide +kernel
theorem dX2_distance_11 : decode cX2_distance 11 = .ok (.aload_n 0, 1) := by decide +kernel
theorem dX2_distance_12 : decode cX2_distance 12 = .ok (.getfield 10, 3) := by decide +kernel
theorem dX2_distance_15 : decode cX2_distance 15 = .ok (.iload_n 2, 1) := by decide +kernel
theorem dX2_distance_16 : decode cX2_distance 16 = .ok (.invokevirtual 56, 3) := by decide +kernel
theorem dX2_distance_19 : decode cX2_distance 19 = .ok (.ifCond .ne 5, 3) := by decide +kernel
theorem dX2_distance_22 : decode cX2_distance 22 = .ok (.iconst (-1), 1) := by decide +kernel
theorem dX2_distance_23 : decode cX2_distance 23 = .ok (.ireturn, 1) := by decide +kernel
theorem dX2_distance_24 : decode cX2_distance 24 = .ok (.aload_n 0, 1) := by decide +kernel
theorem dX2_distance_25 : decode cX2_distance 25 = .ok (.getfield 10, 3) := by decide +kernel
theorem dX2_distance_28 : decode cX2_distance 28 = .ok (.iload_n 1, 1) := by decide +kernel
theorem dX2_distance_29 : decode cX2_distance 29 = .ok (.iload_n 2, 1) := by decide +kernel
theorem dX2_distance_30 : decode cX2_distance 30 = .ok (.invokevirtual 146, 3) := by decide +kernel
theorem dX2_distance_33 : decode cX2_distance 33 = .ok (.ireturn, 1) := by decide +kernel
theorem dX2_route_0 : decode cX2_route 0 = .ok (.iload_n 3, 1) := by decide +kernel
theorem dX2_route_1 : decode cX2_route 1 = .ok (.bipush (-2), 2) := by decide +kernel
theorem dX2_route_3 : decode cX2_route 3 = .ok (.if_icmp .ge 5, 3) := by decide +kernel
theorem dX2_route_6 : decode cX2_route 6 = .ok (.iconst (-1), 1) := by decide +kernel
theorem dX2_route_7 : decode cX2_route 7 = .ok (.ireturn, 1) := by decide +kernel
theorem dX2_route_8 : decode cX2_route 8 = .ok (.aload_n 0, 1) := by decide +kernel
theorem dX2_route_9 : decode cX2_route 9 = .ok (.iload_n 1, 1) := by decide +kernel
theorem dX2_route_10 : decode cX2_route 10 = .ok (.iload_n 2, 1) := by decide +kernel
theorem dX2_route_11 : decode cX2_route 11 = .ok (.invokevirtual 72, 3) := by decide +kernel
theorem dX2_route_14 : decode cX2_route 14 = .ok (.istore 4, 2) := by decide +kernel
theorem dX2_route_16 : decode cX2_route 16 = .ok (.iload 4, 2) := by decide +kernel
theorem dX2_route_18 : decode cX2_route 18 = .ok (.ifCond .eq 6, 3) := by decide +kernel
theorem dX2_route_21 : decode cX2_route 21 = .ok (.iload 4, 2) := by decide +kernel
theorem dX2_route_23 : decode cX2_route 23 = .ok (.ireturn, 1) := by decide +kernel
theorem dX2_route_24 : decode cX2_route 24 = .ok (.aload_n 0, 1) := by decide +kernel
theorem dX2_route_25 : decode cX2_route 25 = .ok (.getfield 19, 3) := by decide +kernel
theorem dX2_route_28 : decode cX2_route 28 = .ok (.aload_n 0, 1) := by decide +kernel
theorem dX2_route_29 : decode cX2_route 29 = .ok (.getfield 10, 3) := by decide +kernel
theorem dX2_route_32 : decode cX2_route 32 = .ok (.iload_n 1, 1) := by decide +kernel
theorem dX2_route_33 : decode cX2_route 33 = .ok (.iload_n 2, 1) := by decide +kernel
theorem dX2_route_34 : decode cX2_route 34 = .ok (.invokevirtual 149, 3) := by decide +kernel
theorem dX2_route_37 : decode cX2_route 37 = .ok (.istore 5, 2) := by decide +kernel
theorem dX2_route_39 : decode cX2_route 39 = .ok (.iload_n 3, 1) := by decide +kernel
theorem dX2_route_40 : decode cX2_route 40 = .ok (.bipush (-2), 2) := by decide +kernel
theorem dX2_route_42 : decode cX2_route 42 = .ok (.if_icmp .ne 14, 3) := by decide +kernel
theorem dX2_route_45 : decode cX2_route 45 = .ok (.iload 5, 2) := by decide +kernel
theorem dX2_route_47 : decode cX2_route 47 = .ok (.ifCond .eq 7, 3) := by decide +kernel
theorem dX2_route_50 : decode cX2_route 50 = .ok (.iconst 1, 1) := by decide +kernel
theorem dX2_route_51 : decode cX2_route 51 = .ok (.goto 4, 3) := by decide +kernel
theorem dX2_route_54 : decode cX2_route 54 = .ok (.iconst 0, 1) := by decide +kernel
theorem dX2_route_55 : decode cX2_route 55 = .ok (.ireturn, 1) := by decide +kernel
theorem dX2_route_56 : decode cX2_route 56 = .ok (.iload_n 3, 1) := by decide +kernel
theorem dX2_route_57 : decode cX2_route 57 = .ok (.iconst (-1), 1) := by decide +kernel
theorem dX2_route_58 : decode cX2_route 58 = .ok (.if_icmp .ne 11, 3) := by decide +kernel
theorem dX2_route_61 : decode cX2_route 61 = .ok (.aload_n 0, 1) := by decide +kernel
theorem dX2_route_62 : decode cX2_route 62 = .ok (.getfield 19, 3) := by decide +kernel
theorem dX2_route_65 : decode cX2_route 65 = .ok (.invokevirtual 79, 3) := by decide +kernel
theorem dX2_route_68 : decode cX2_route 68 = .ok (.ireturn, 1) := by decide +kernel
theorem dX2_route_69 : decode cX2_route 69 = .ok (.iload_n 3, 1) := by decide +kernel
theorem dX2_route_70 : decode cX2_route 70 = .ok (.aload_n 0, 1) := by decide +kernel
theorem dX2_route_71 : decode cX2_route 71 = .ok (.getfield 19, 3) := by decide +kernel
theorem dX2_route_74 : decode cX2_route 74 = .ok (.invokevirtual 79, 3) := by decide +kernel
theorem dX2_route_77 : decode cX2_route 77 = .ok (.if_icmp .gt 14, 3) := by decide +kernel
theorem dX2_route_80 : decode cX2_route 80 = .ok (.aload_n 0, 1) := by decide +kernel
theorem dX2_route_81 : decode cX2_route 81 = .ok (.getfield 19, 3) := by decide +kernel
theorem dX2_route_84 : decode cX2_route 84 = .ok (.iload_n 3, 1) := by decide +kernel
theorem dX2_route_85 : decode cX2_route 85 = .ok (.invokevirtual 153, 3) := by decide +kernel
theorem dX2_route_88 : decode cX2_route 88 = .ok (.goto 5, 3) := by decide +kernel
theorem dX2_route_91 : decode cX2_route 91 = .ok (.bipush (-9), 2) := by decide +kernel
theorem dX2_route_93 : decode cX2_route 93 = .ok (.ireturn, 1) := by decide +kernel
theorem dX2_way_0 : decode cX2_way 0 = .ok (.aload_n 0, 1) := by decide +kernel
theorem dX2_way_1 : decode cX2_way 1 = .ok (.iload_n 1, 1) := by decide +kernel
theorem dX2_way_2 : decode cX2_way 2 = .ok (.iload_n 2, 1) := by decide +kernel
theorem dX2_way_3 : decode cX2_way 3 = .ok (.invokevirtual 72, 3) := by decide +kernel
theorem dX2_way_6 : decode cX2_way 6 = .ok (.istore_n 3, 1) := by decide +kernel
theorem dX2_way_7 : decode cX2_way 7 = .ok (.iload_n 3, 1) := by decide +kernel
theorem dX2_way_8 : decode cX2_way 8 = .ok (.ifCond .eq 5, 3) := by decide +kernel
theorem dX2_way_11 : decode cX2_way 11 = .ok (.iload_n 3, 1) := by decide +kernel
theorem dX2_way_12 : decode cX2_way 12 = .ok (.ireturn, 1) := by decide +kernel
theorem dX2_way_13 : decode cX2_way 13 = .ok (.aload_n 0, 1) := by decide +kernel
theorem dX2_way_14 : decode cX2_way 14 = .ok (.getfield 19, 3) := by decide +kernel
theorem dX2_way_17 : decode cX2_way 17 = .ok (.aload_n 0, 1) := by decide +kernel
theorem dX2_way_18 : decode cX2_way 18 = .ok (.getfield 10, 3) := by decide +kernel
theorem dX2_way_21 : decode cX2_way 21 = .ok (.invokevirtual 156, 3) := by decide +kernel
theorem dX2_way_24 : decode cX2_way 24 = .ok (.aload_n 0, 1) := by decide +kernel
theorem dX2_way_25 : decode cX2_way 25 = .ok (.getfield 19, 3) := by decide +kernel
theorem dX2_way_28 : decode cX2_way 28 = .ok (.iload_n 2, 1) := by decide +kernel
theorem dX2_way_29 : decode cX2_way 29 = .ok (.invokevirtual 159, 3) := by decide +kernel
theorem dX2_way_32 : decode cX2_way 32 = .ok (.aload_n 0, 1) := by decide +kernel
theorem dX2_way_33 : decode cX2_way 33 = .ok (.getfield 19, 3) := by decide +kernel
theorem dX2_way_36 : decode cX2_way 36 = .ok (.iload_n 1, 1) := by decide +kernel
theorem dX2_way_37 : decode cX2_way 37 = .ok (.invokevirtual 162, 3) := by decide +kernel
theorem dX2_way_40 : decode cX2_way 40 = .ok (.istore 4, 2) := by decide +kernel
theorem dX2_way_42 : decode cX2_way 42 = .ok (.iload 4, 2) := by decide +kernel
theorem dX2_way_44 : decode cX2_way 44 = .ok (.iconst (-1), 1) := by decide +kernel
theorem dX2_way_45 : decode cX2_way 45 = .ok (.if_icmp .ne 8, 3) := by decide +kernel
theorem dX2_way_48 : decode cX2_way 48 = .ok (.bipush (-9), 2) := by decide +kernel
theorem dX2_way_50 : decode cX2_way 50 = .ok (.goto 5, 3) := by decide +kernel
theorem dX2_way_53 : decode cX2_way 53 = .ok (.iload 4, 2) := by decide +kernel
theorem dX2_way_55 : decode cX2_way 55 = .ok (.ireturn, 1) := by decide +kernel
theorem dX2_paths_0 : decode cX2_paths 0 = .ok (.aload_n 0, 1) := by decide +kernel
theorem dX2_paths_1 : decode cX2_paths 1 = .ok (.iload_n 1, 1) := by decide +kernel
theorem dX2_paths_2 : decode cX2_paths 2 = .ok (.iload_n 2, 1) := by decide +kernel
theorem dX2_paths_3 : decode cX2_paths 3 = .ok (.invokevirtual 72, 3) := by decide +kernel
theorem dX2_paths_6 : decode cX2_paths 6 = .ok (.istore_n 3, 1) := by decide +kernel
theorem dX2_paths_7 : decode cX2_paths 7 = .ok (.iload_n 3, 1) := by decide +kernel
theorem dX2_paths_8 : decode cX2_paths 8 = .ok (.ifCond .eq 6, 3) := by decide +kernel
theorem dX2_paths_11 : decode cX2_paths 11 = .ok (.iload_n 3, 1) := by decide +kernel
theorem dX2_paths_12 : decode cX2_paths 12 = .ok (.i2l, 1) := by decide +kernel
theorem dX2_paths_13 : decode cX2_paths 13 = .ok (.lreturn, 1) := by decide +kernel
theorem dX2_paths_14 : decode cX2_paths 14 = .ok (.aload_n 0, 1) := by decide +kernel
theorem dX2_paths_15 : decode cX2_paths 15 = .ok (.getfield 19, 3) := by decide +kernel
theorem dX2_paths_18 : decode cX2_paths 18 = .ok (.aload_n 0, 1) := by decide +kernel
theorem dX2_paths_19 : decode cX2_paths 19 = .ok (.getfield 10, 3) := by decide +kernel
theorem dX2_paths_22 : decode cX2_paths 22 = .ok (.invokevirtual 156, 3) := by decide +kernel
theorem dX2_paths_25 : decode cX2_paths 25 = .ok (.aload_n 0, 1) := by decide +kernel
theorem dX2_paths_26 : decode cX2_paths 26 = .ok (.getfield 19, 3) := by decide +kernel
theorem dX2_paths_29 : decode cX2_paths 29 = .ok (.iload_n 2, 1) := by decide +kernel
theorem dX2_paths_30 : decode cX2_paths 30 = .ok (.invokevirtual 159, 3) := by decide +kernel
theorem dX2_paths_33 : decode cX2_paths 33 = .ok (.aload_n 0, 1) := by decide +kernel
theorem dX2_paths_34 : decode cX2_paths 34 = .ok (.getfield 19, 3) := by decide +kernel
theorem dX2_paths_37 : decode cX2_paths 37 = .ok (.invokevirtual 165, 3) := by decide +kernel
theorem dX2_paths_40 : decode cX2_paths 40 = .ok (.aload_n 0, 1) := by decide +kernel
theorem dX2_paths_41 : decode cX2_paths 41 = .ok (.getfield 19, 3) := by decide +kernel
theorem dX2_paths_44 : decode cX2_paths 44 = .ok (.iload_n 1, 1) := by decide +kernel
theorem dX2_paths_45 : decode cX2_paths 45 = .ok (.invokevirtual 168, 3) := by decide +kernel
theorem dX2_paths_48 : decode cX2_paths 48 = .ok (.lreturn, 1) := by decide +kernel
theorem dX2_measure_0 : decode cX2_measure 0 = .ok (.iload_n 1, 1) := by decide +kernel
theorem dX2_measure_1 : decode cX2_measure 1 = .ok (.ifCond .lt 9, 3) := by decide +kernel
theorem dX2_measure_4 : decode cX2_measure 4 = .ok (.iload_n 1, 1) := by decide +kernel
theorem dX2_measure_5 : decode cX2_measure 5 = .ok (.bipush 8, 2) := by decide +kernel
theorem dX2_measure_7 : decode cX2_measure 7 = .ok (.if_icmp .lt 5, 3) := by decide +kernel
theorem dX2_measure_10 : decode cX2_measure 10 = .ok (.iconst (-1), 1) := by decide +kernel
theorem dX2_measure_11 : decode cX2_measure 11 = .ok (.ireturn, 1) := by decide +kernel
theorem dX2_measure_12 : decode cX2_measure 12 = .ok (.aload_n 0, 1) := by decide +kernel
theorem dX2_measure_13 : decode cX2_measure 13 = .ok (.getfield 19, 3) := by decide +kernel
theorem dX2_measure_16 : decode cX2_measure 16 = .ok (.aload_n 0, 1) := by decide +kernel
theorem dX2_measure_17 : decode cX2_measure 17 = .ok (.getfield 10, 3) := by decide +kernel
theorem dX2_measure_20 : decode cX2_measure 20 = .ok (.invokevirtual 171, 3) := by decide +kernel
theorem dX2_measure_23 : decode cX2_measure 23 = .ok (.aload_n 0, 1) := by decide +kernel
theorem dX2_measure_24 : decode cX2_measure 24 = .ok (.getfield 19, 3) := by decide +kernel
theorem dX2_measure_27 : decode cX2_measure 27 = .ok (.iload_n 1, 1) := by decide +kernel
theorem dX2_measure_28 : decode cX2_measure 28 = .ok (.invokevirtual 174, 3) := by decide +kernel
theorem dX2_measure_31 : decode cX2_measure 31 = .ok (.ireturn, 1) := by decide +kernel
theorem dX2_mean_0 : decode cX2_mean 0 = .ok (.aload_n 0, 1) := by decide +kernel
theorem dX2_mean_1 : decode cX2_mean 1 = .ok (.getfield 19, 3) := by decide +kernel
theorem dX2_mean_4 : decode cX2_mean 4 = .ok (.aload_n 0, 1) := by decide +kernel
theorem dX2_mean_5 : decode cX2_mean 5 = .ok (.getfield 10, 3) := by decide +kernel
theorem dX2_mean_8 : decode cX2_mean 8 = .ok (.invokevirtual 171, 3) := by decide +kernel
theorem dX2_mean_11 : decode cX2_mean 11 = .ok (.aload_n 0, 1) := by decide +kernel
theorem dX2_mean_12 : decode cX2_mean 12 = .ok (.getfield 19, 3) := by decide +kernel
theorem dX2_mean_15 : decode cX2_mean 15 = .ok (.iconst 4, 1) := by decide +kernel
theorem dX2_mean_16 : decode cX2_mean 16 = .ok (.invokevirtual 174, 3) := by decide +kernel
theorem dX2_mean_19 : decode cX2_mean 19 = .ok (.istore_n 1, 1) := by decide +kernel
theorem dX2_mean_20 : decode cX2_mean 20 = .ok (.iload_n 1, 1) := by decide +kernel
theorem dX2_mean_21 : decode cX2_mean 21 = .ok (.iconst 1, 1) := by decide +kernel
theorem dX2_mean_22 : decode cX2_mean 22 = .ok (.if_icmp .ge 5, 3) := by decide +kernel
theorem dX2_mean_25 : decode cX2_mean 25 = .ok (.fconst 0, 1) := by decide +kernel
theorem dX2_mean_26 : decode cX2_mean 26 = .ok (.freturn, 1) := by decide +kernel
theorem dX2_mean_27 : decode cX2_mean 27 = .ok (.aload_n 0, 1) := by decide +kernel
theorem dX2_mean_28 : decode cX2_mean 28 = .ok (.getfield 19, 3) := by decide +kernel
theorem dX2_mean_31 : decode cX2_mean 31 = .ok (.bipush 6, 2) := by decide +kernel
theorem dX2_mean_33 : decode cX2_mean 33 = .ok (.invokevirtual 174, 3) := by decide +kernel
theorem dX2_mean_36 : decode cX2_mean 36 = .ok (.i2f, 1) := by decide +kernel
theorem dX2_mean_37 : decode cX2_mean 37 = .ok (.iload_n 1, 1) := by decide +kernel
theorem dX2_mean_38 : decode cX2_mean 38 = .ok (.i2f, 1) := by decide +kernel
theorem dX2_mean_39 : decode cX2_mean 39 = .ok (.fdiv, 1) := by decide +kernel
theorem dX2_mean_40 : decode cX2_mean 40 = .ok (.freturn, 1) := by decide +kernel
theorem dX2_keep_0 : decode cX2_keep 0 = .ok (.iload_n 1, 1) := by decide +kernel
theorem dX2_keep_1 : decode cX2_keep 1 = .ok (.ifCond .lt 12, 3) := by decide +kernel
theorem dX2_keep_4 : decode cX2_keep 4 = .ok (.iload_n 1, 1) := by decide +kernel
theorem dX2_keep_5 : decode cX2_keep 5 = .ok (.aload_n 0, 1) := by decide +kernel
theorem dX2_keep_6 : decode cX2_keep 6 = .ok (.getfield 27, 3) := by decide +kernel
theorem dX2_keep_9 : decode cX2_keep 9 = .ok (.arraylength, 1) := by decide +kernel
theorem dX2_keep_10 : decode cX2_keep 10 = .ok (.if_icmp .lt 5, 3) := by decide +kernel
theorem dX2_keep_13 : decode cX2_keep 13 = .ok (.iconst (-1), 1) := by decide +kernel
theorem dX2_keep_14 : decode cX2_keep 14 = .ok (.ireturn, 1) := by decide +kernel
theorem dX2_keep_15 : decode cX2_keep 15 = .ok (.aload_n 0, 1) := by decide +kernel
theorem dX2_keep_16 : decode cX2_keep 16 = .ok (.aload_n 0, 1) := by decide +kernel
theorem dX2_keep_17 : decode cX2_keep 17 = .ok (.getfield 27, 3) := by decide +kernel
theorem dX2_keep_20 : decode cX2_keep 20 = .ok (.iload_n 1, 1) := by decide +kernel
theorem dX2_keep_21 : decode cX2_keep 21 = .ok (.invokevirtual 177, 3) := by decide +kernel
theorem dX2_keep_24 : decode cX2_keep 24 = .ok (.aload_n 0, 1) := by decide +kernel
theorem dX2_keep_25 : decode cX2_keep 25 = .ok (.getfield 10, 3) := by decide +kernel
theorem dX2_keep_28 : decode cX2_keep 28 = .ok (.invokevirtual 127, 3) := by decide +kernel
theorem dX2_keep_31 : decode cX2_keep 31 = .ok (.ireturn, 1) := by decide +kernel
theorem dX2_back_0 : decode cX2_back 0 = .ok (.iload_n 1, 1) := by decide +kernel
theorem dX2_back_1 : decode cX2_back 1 = .ok (.ifCond .lt 12, 3) := by decide +kernel
theorem dX2_back_4 : decode cX2_back 4 = .ok (.iload_n 1, 1) := by decide +kernel
theorem dX2_back_5 : decode cX2_back 5 = .ok (.aload_n 0, 1) := by decide +kernel
theorem dX2_back_6 : decode cX2_back 6 = .ok (.getfield 27, 3) := by decide +kernel
theorem dX2_back_9 : decode cX2_back 9 = .ok (.arraylength, 1) := by decide +kernel
theorem dX2_back_10 : decode cX2_back 10 = .ok (.if_icmp .lt 5, 3) := by decide +kernel
theorem dX2_back_13 : decode cX2_back 13 = .ok (.iconst (-1), 1) := by decide +kernel
theorem dX2_back_14 : decode cX2_back 14 = .ok (.ireturn, 1) := by decide +kernel
theorem dX2_back_15 : decode cX2_back 15 = .ok (.aload_n 0, 1) := by decide +kernel
theorem dX2_back_16 : decode cX2_back 16 = .ok (.getfield 27, 3) := by decide +kernel
theorem dX2_back_19 : decode cX2_back 19 = .ok (.iload_n 1, 1) := by decide +kernel
theorem dX2_back_20 : decode cX2_back 20 = .ok (.aaload, 1) := by decide +kernel
theorem dX2_back_21 : decode cX2_back 21 = .ok (.astore_n 2, 1) := by decide +kernel
theorem dX2_back_22 : decode cX2_back 22 = .ok (.aload_n 2, 1) := by decide +kernel
theorem dX2_back_23 : decode cX2_back 23 = .ok (.ifnonnull 6, 3) := by decide +kernel
theorem dX2_back_26 : decode cX2_back 26 = .ok (.bipush (-2), 2) := by decide +kernel
theorem dX2_back_28 : decode cX2_back 28 = .ok (.ireturn, 1) := by decide +kernel
theorem dX2_back_29 : decode cX2_back 29 = .ok (.aload_n 0, 1) := by decide +kernel
theorem dX2_back_30 : decode cX2_back 30 = .ok (.invokevirtual 34, 3) := by decide +kernel
theorem dX2_back_33 : decode cX2_back 33 = .ok (.aload_n 0, 1) := by decide +kernel
theorem dX2_back_34 : decode cX2_back 34 = .ok (.getfield 10, 3) := by decide +kernel
theorem dX2_back_37 : decode cX2_back 37 = .ok (.aload_n 2, 1) := by decide +kernel
theorem dX2_back_38 : decode cX2_back 38 = .ok (.invokevirtual 120, 3) := by decide +kernel
theorem dX2_back_41 : decode cX2_back 41 = .ok (.aload_n 0, 1) := by decide +kernel
theorem dX2_back_42 : decode cX2_back 42 = .ok (.getfield 10, 3) := by decide +kernel
theorem dX2_back_45 : decode cX2_back 45 = .ok (.invokevirtual 127, 3) := by decide +kernel
theorem dX2_back_48 : decode cX2_back 48 = .ok (.ireturn, 1) := by decide +kernel
theorem dX2_record_0 : decode cX2_record 0 = .ok (.aload_n 0, 1) := by decide +kernel
theorem dX2_record_1 : decode cX2_record 1 = .ok (.getfield 30, 3) := by decide +kernel
theorem dX2_record_4 : decode cX2_record 4 = .ok (.aload_n 0, 1) := by decide +kernel
theorem dX2_record_5 : decode cX2_record 5 = .ok (.getfield 23, 3) := by decide +kernel
theorem dX2_record_8 : decode cX2_record 8 = .ok (.arraylength, 1) := by decide +kernel
theorem dX2_record_9 : decode cX2_record 9 = .ok (.if_icmp .lt 7, 3) := by decide +kernel
theorem dX2_record_12 : decode cX2_record 12 = .ok (.aload_n 0, 1) := by decide +kernel
theorem dX2_record_13 : decode cX2_record 13 = .ok (.invokevirtual 181, 3) := by decide +kernel
theorem dX2_record_16 : decode cX2_record 16 = .ok (.aload_n 0, 1) := by decide +kernel
theorem dX2_record_17 : decode cX2_record 17 = .ok (.aload_n 0, 1) := by decide +kernel
theorem dX2_record_18 : decode cX2_record 18 = .ok (.getfield 23, 3) := by decide +kernel
theorem dX2_record_21 : decode cX2_record 21 = .ok (.aload_n 0, 1) := by decide +kernel
theorem dX2_record_22 : decode cX2_record 22 = .ok (.getfield 30, 3) := by decide +kernel
theorem dX2_record_25 : decode cX2_record 25 = .ok (.invokevirtual 177, 3) := by decide +kernel
theorem dX2_record_28 : decode cX2_record 28 = .ok (.aload_n 0, 1) := by decide +kernel
theorem dX2_record_29 : decode cX2_record 29 = .ok (.dup, 1) := by decide +kernel
theorem dX2_record_30 : decode cX2_record 30 = .ok (.getfield 30, 3) := by decide +kernel
theorem dX2_record_33 : decode cX2_record 33 = .ok (.iconst 1, 1) := by decide +kernel
theorem dX2_record_34 : decode cX2_record 34 = .ok (.iadd, 1) := by decide +kernel
theorem dX2_record_35 : decode cX2_record 35 = .ok (.putfield 30, 3) := by decide +kernel
theorem dX2_record_38 : decode cX2_record 38 = .ok (.return_, 1) := by decide +kernel
theorem dX2_dropOldest_0 : decode cX2_dropOldest 0 = .ok (.iconst 1, 1) := by decide +kernel
theorem dX2_dropOldest_1 : decode cX2_dropOldest 1 = .ok (.istore_n 1, 1) := by decide +kernel
theorem dX2_dropOldest_2 : decode cX2_dropOldest 2 = .ok (.iload_n 1, 1) := by decide +kernel
theorem dX2_dropOldest_3 : decode cX2_dropOldest 3 = .ok (.aload_n 0, 1) := by decide +kernel
theorem dX2_dropOldest_4 : decode cX2_dropOldest 4 = .ok (.getfield 23, 3) := by decide +kernel
theorem dX2_dropOldest_7 : decode cX2_dropOldest 7 = .ok (.arraylength, 1) := by decide +kernel
theorem dX2_dropOldest_8 : decode cX2_dropOldest 8 = .ok (.if_icmp .ge 39, 3) := by decide +kernel
theorem dX2_dropOldest_11 : decode cX2_dropOldest 11 = .ok (.aload_n 0, 1) := by decide +kernel
theorem dX2_dropOldest_12 : decode cX2_dropOldest 12 = .ok (.getfield 23, 3) := by decide +kernel
theorem dX2_dropOldest_15 : decode cX2_dropOldest 15 = .ok (.iload_n 1, 1) := by decide +kernel
theorem dX2_dropOldest_16 : decode cX2_dropOldest 16 = .ok (.iconst 1, 1) := by decide +kernel
theorem dX2_dropOldest_17 : decode cX2_dropOldest 17 = .ok (.isub, 1) := by decide +kernel
theorem dX2_dropOldest_18 : decode cX2_dropOldest 18 = .ok (.aaload, 1) := by decide +kernel
theorem dX2_dropOldest_19 : decode cX2_dropOldest 19 = .ok (.astore_n 2, 1) := by decide +kernel
theorem dX2_dropOldest_20 : decode cX2_dropOldest 20 = .ok (.aload_n 0, 1) := by decide +kernel
theorem dX2_dropOldest_21 : decode cX2_dropOldest 21 = .ok (.getfield 23, 3) := by decide +kernel
theorem dX2_dropOldest_24 : decode cX2_dropOldest 24 = .ok (.iload_n 1, 1) := by decide +kernel
theorem dX2_dropOldest_25 : decode cX2_dropOldest 25 = .ok (.iconst 1, 1) := by decide +kernel
theorem dX2_dropOldest_26 : decode cX2_dropOldest 26 = .ok (.isub, 1) := by decide +kernel
theorem dX2_dropOldest_27 : decode cX2_dropOldest 27 = .ok (.aload_n 0, 1) := by decide +kernel
theorem dX2_dropOldest_28 : decode cX2_dropOldest 28 = .ok (.getfield 23, 3) := by decide +kernel
theorem dX2_dropOldest_31 : decode cX2_dropOldest 31 = .ok (.iload_n 1, 1) := by decide +kernel
theorem dX2_dropOldest_32 : decode cX2_dropOldest 32 = .ok (.aaload, 1) := by decide +kernel
theorem dX2_dropOldest_33 : decode cX2_dropOldest 33 = .ok (.aastore, 1) := by decide +kernel
theorem dX2_dropOldest_34 : decode cX2_dropOldest 34 = .ok (.aload_n 0, 1) := by decide +kernel
theorem dX2_dropOldest_35 : decode cX2_dropOldest 35 = .ok (.getfield 23, 3) := by decide +kernel
theorem dX2_dropOldest_38 : decode cX2_dropOldest 38 = .ok (.iload_n 1, 1) := by decide +kernel
theorem dX2_dropOldest_39 : decode cX2_dropOldest 39 = .ok (.aload_n 2, 1) := by decide +kernel
theorem dX2_dropOldest_40 : decode cX2_dropOldest 40 = .ok (.aastore, 1) := by decide +kernel
theorem dX2_dropOldest_41 : decode cX2_dropOldest 41 = .ok (.iinc 1 1, 3) := by decide +kernel
theorem dX2_dropOldest_44 : decode cX2_dropOldest 44 = .ok (.goto (-42), 3) := by decide +kernel
theorem dX2_dropOldest_47 : decode cX2_dropOldest 47 = .ok (.aload_n 0, 1) := by decide +kernel
theorem dX2_dropOldest_48 : decode cX2_dropOldest 48 = .ok (.aload_n 0, 1) := by decide +kernel
theorem dX2_dropOldest_49 : decode cX2_dropOldest 49 = .ok (.getfield 23, 3) := by decide +kernel
theorem dX2_dropOldest_52 : decode cX2_dropOldest 52 = .ok (.arraylength, 1) := by decide +kernel
theorem dX2_dropOldest_53 : decode cX2_dropOldest 53 = .ok (.iconst 1, 1) := by decide +kernel
theorem dX2_dropOldest_54 : decode cX2_dropOldest 54 = .ok (.isub, 1) := by decide +kernel
theorem dX2_dropOldest_55 : decode cX2_dropOldest 55 = .ok (.putfield 30, 3) := by decide +kernel
theorem dX2_dropOldest_58 : decode cX2_dropOldest 58 = .ok (.return_, 1) := by decide +kernel
theorem dX2_storeNow_0 : decode cX2_storeNow 0 = .ok (.iload_n 2, 1) := by decide +kernel
theorem dX2_storeNow_1 : decode cX2_storeNow 1 = .ok (.ifCond .lt 9, 3) := by decide +kernel
theorem dX2_storeNow_4 : decode cX2_storeNow 4 = .ok (.iload_n 2, 1) := by decide +kernel
theorem dX2_storeNow_5 : decode cX2_storeNow 5 = .ok (.aload_n 1, 1) := by decide +kernel
theorem dX2_storeNow_6 : decode cX2_storeNow 6 = .ok (.arraylength, 1) := by decide +kernel
theorem dX2_storeNow_7 : decode cX2_storeNow 7 = .ok (.if_icmp .lt 4, 3) := by decide +kernel
theorem dX2_storeNow_10 : decode cX2_storeNow 10 = .ok (.return_, 1) := by decide +kernel
theorem dX2_storeNow_11 : decode cX2_storeNow 11 = .ok (.aload_n 1, 1) := by decide +kernel
theorem dX2_storeNow_12 : decode cX2_storeNow 12 = .ok (.iload_n 2, 1) := by decide +kernel
theorem dX2_storeNow_13 : decode cX2_storeNow 13 = .ok (.aaload, 1) := by decide +kernel
theorem dX2_storeNow_14 : decode cX2_storeNow 14 = .ok (.astore_n 3, 1) := by decide +kernel
theorem dX2_storeNow_15 : decode cX2_storeNow 15 = .ok (.aload_n 3, 1) := by decide +kernel
theorem dX2_storeNow_16 : decode cX2_storeNow 16 = .ok (.ifnonnull 15, 3) := by decide +kernel
theorem dX2_storeNow_19 : decode cX2_storeNow 19 = .ok (.new 7, 3) := by decide +kernel
theorem dX2_storeNow_22 : decode cX2_storeNow 22 = .ok (.dup, 1) := by decide +kernel
theorem dX2_storeNow_23 : decode cX2_storeNow 23 = .ok (.invokespecial 9, 3) := by decide +kernel
theorem dX2_storeNow_26 : decode cX2_storeNow 26 = .ok (.astore_n 3, 1) := by decide +kernel
theorem dX2_storeNow_27 : decode cX2_storeNow 27 = .ok (.aload_n 1, 1) := by decide +kernel
theorem dX2_storeNow_28 : decode cX2_storeNow 28 = .ok (.iload_n 2, 1) := by decide +kernel
theorem dX2_storeNow_29 : decode cX2_storeNow 29 = .ok (.aload_n 3, 1) := by decide +kernel
theorem dX2_storeNow_30 : decode cX2_storeNow 30 = .ok (.aastore, 1) := by decide +kernel
theorem dX2_storeNow_31 : decode cX2_storeNow 31 = .ok (.aload_n 3, 1) := by decide +kernel
theorem dX2_storeNow_32 : decode cX2_storeNow 32 = .ok (.aload_n 0, 1) := by decide +kernel
theorem dX2_storeNow_33 : decode cX2_storeNow 33 = .ok (.getfield 10, 3) := by decide +kernel
theorem dX2_storeNow_36 : decode cX2_storeNow 36 = .ok (.invokevirtual 120, 3) := by decide +kernel
theorem dX2_storeNow_39 : decode cX2_storeNow 39 = .ok (.return_, 1) := by decide +kernel
theorem dX2_faultOfPair_0 : decode cX2_faultOfPair 0 = .ok (.aload_n 0, 1) := by decide +kernel
theorem dX2_faultOfPair_1 : decode cX2_faultOfPair 1 = .ok (.getfield 10, 3) := by decide +kernel
theorem dX2_faultOfPair_4 : decode cX2_faultOfPair 4 = .ok (.iload_n 1, 1) := by decide +kernel
theorem dX2_faultOfPair_5 : decode cX2_faultOfPair 5 = .ok (.invokevirtual 56, 3) := by decide +kernel
theorem dX2_faultOfPair_8 : decode cX2_faultOfPair 8 = .ok (.ifCond .eq 14, 3) := by decide +kernel
theorem dX2_faultOfPair_11 : decode cX2_faultOfPair 11 = .ok (.aload_n 0, 1) := by decide +kernel
theorem dX2_faultOfPair_12 : decode cX2_faultOfPair 12 = .ok (.getfield 10, 3) := by decide +kernel
theorem dX2_faultOfPair_15 : decode cX2_faultOfPair 15 = .ok (.iload_n 2, 1) := by decide +kernel
theorem dX2_faultOfPair_16 : decode cX2_faultOfPair 16 = .ok (.invokevirtual 56, 3) := by decide +kernel
theorem dX2_faultOfPair_19 : decode cX2_faultOfPair 19 = .ok (.ifCond .ne 5, 3) := by decide +kernel
theorem dX2_faultOfPair_22 : decode cX2_faultOfPair 22 = .ok (.iconst (-1), 1) := by decide +kernel
theorem dX2_faultOfPair_23 : decode cX2_faultOfPair 23 = .ok (.ireturn, 1) := by decide +kernel
theorem dX2_faultOfPair_24 : decode cX2_faultOfPair 24 = .ok (.aload_n 0, 1) := by decide +kernel
theorem dX2_faultOfPair_25 : decode cX2_faultOfPair 25 = .ok (.getfield 10, 3) := by decide +kernel
theorem dX2_faultOfPair_28 : decode cX2_faultOfPair 28 = .ok (.iload_n 1, 1) := by decide +kernel
theorem dX2_faultOfPair_29 : decode cX2_faultOfPair 29 = .ok (.invokevirtual 66, 3) := by decide +kernel
theorem dX2_faultOfPair_32 : decode cX2_faultOfPair 32 = .ok (.ifCond .eq 18, 3) := by decide +kernel
theorem dX2_faultOfPair_35 : decode cX2_faultOfPair 35 = .ok (.aload_n 0, 1) := by decide +kernel
theorem dX2_faultOfPair_36 : decode cX2_faultOfPair 36 = .ok (.getfield 10, 3) := by decide +kernel
theorem dX2_faultOfPair_39 : decode cX2_faultOfPair 39 = .ok (.iload_n 2, 1) := by decide +kernel
theorem dX2_faultOfPair_40 : decode cX2_faultOfPair 40 = .ok (.invokevirtual 66, 3) := by decide +kernel
theorem dX2_faultOfPair_43 : decode cX2_faultOfPair 43 = .ok (.ifCond .eq 7, 3) := by decide +kernel
theorem dX2_faultOfPair_46 : decode cX2_faultOfPair 46 = .ok (.iconst 0, 1) := by decide +kernel
theorem dX2_faultOfPair_47 : decode cX2_faultOfPair 47 = .ok (.goto 5, 3) := by decide +kernel
theorem dX2_faultOfPair_50 : decode cX2_faultOfPair 50 = .ok (.bipush (-2), 2) := by decide +kernel
theorem dX2_faultOfPair_52 : decode cX2_faultOfPair 52 = .ok (.ireturn, 1) := by decide +kernel
theorem dX2_faultOfOthers_0 : decode cX2_faultOfOthers 0 = .ok (.iload_n 1, 1) := by decide +kernel
theorem dX2_faultOfOthers_1 : decode cX2_faultOfOthers 1 = .ok (.iload_n 2, 1) := by decide +kernel
theorem dX2_faultOfOthers_2 : decode cX2_faultOfOthers 2 = .ok (.if_icmp .ne 7, 3) := by decide +kernel
theorem dX2_faultOfOthers_5 : decode cX2_faultOfOthers 5 = .ok (.iconst (-1), 1) := by decide +kernel
theorem dX2_faultOfOthers_6 : decode cX2_faultOfOthers 6 = .ok (.goto 9, 3) := by decide +kernel
theorem dX2_faultOfOthers_9 : decode cX2_faultOfOthers 9 = .ok (.aload_n 0, 1) := by decide +kernel
theorem dX2_faultOfOthers_10 : decode cX2_faultOfOthers 10 = .ok (.iload_n 1, 1) := by decide +kernel
theorem dX2_faultOfOthers_11 : decode cX2_faultOfOthers 11 = .ok (.iload_n 2, 1) := by decide +kernel
theorem dX2_faultOfOthers_12 : decode cX2_faultOfOthers 12 = .ok (.invokevirtual 72, 3) := by decide +kernel
theorem dX2_faultOfOthers_15 : decode cX2_faultOfOthers 15 = .ok (.ireturn, 1) := by decide +kernel
theorem dX2_isSetting_0 : decode cX2_isSetting 0 = .ok (.iload_n 0, 1) := by decide +kernel
theorem dX2_isSetting_1 : decode cX2_isSetting 1 = .ok (.tableswitch 89 0 3 #[31, 47, 62, 79], 31) := by decide +kernel
theorem dX2_isSetting_32 : decode cX2_isSetting 32 = .ok (.iload_n 1, 1) := by decide +kernel
theorem dX2_isSetting_33 : decode cX2_isSetting 33 = .ok (.iconst 1, 1) := by decide +kernel
theorem dX2_isSetting_34 : decode cX2_isSetting 34 = .ok (.if_icmp .lt 12, 3) := by decide +kernel
theorem dX2_isSetting_37 : decode cX2_isSetting 37 = .ok (.iload_n 1, 1) := by decide +kernel
theorem dX2_isSetting_38 : decode cX2_isSetting 38 = .ok (.iconst 3, 1) := by decide +kernel
theorem dX2_isSetting_39 : decode cX2_isSetting 39 = .ok (.if_icmp .gt 7, 3) := by decide +kernel
theorem dX2_isSetting_42 : decode cX2_isSetting 42 = .ok (.iconst 1, 1) := by decide +kernel
theorem dX2_isSetting_43 : decode cX2_isSetting 43 = .ok (.goto 4, 3) := by decide +kernel
theorem dX2_isSetting_46 : decode cX2_isSetting 46 = .ok (.iconst 0, 1) := by decide +kernel
theorem dX2_isSetting_47 : decode cX2_isSetting 47 = .ok (.ireturn, 1) := by decide +kernel
theorem dX2_isSetting_48 : decode cX2_isSetting 48 = .ok (.iload_n 1, 1) := by decide +kernel
theorem dX2_isSetting_49 : decode cX2_isSetting 49 = .ok (.ifCond .lt 12, 3) := by decide +kernel
theorem dX2_isSetting_52 : decode cX2_isSetting 52 = .ok (.iload_n 1, 1) := by decide +kernel
theorem dX2_isSetting_53 : decode cX2_isSetting 53 = .ok (.iconst 3, 1) := by decide +kernel
theorem dX2_isSetting_54 : decode cX2_isSetting 54 = .ok (.if_icmp .gt 7, 3) := by decide +kernel
theorem dX2_isSetting_57 : decode cX2_isSetting 57 = .ok (.iconst 1, 1) := by decide +kernel
theorem dX2_isSetting_58 : decode cX2_isSetting 58 = .ok (.goto 4, 3) := by decide +kernel
theorem dX2_isSetting_61 : decode cX2_isSetting 61 = .ok (.iconst 0, 1) := by decide +kernel
theorem dX2_isSetting_62 : decode cX2_isSetting 62 = .ok (.ireturn, 1) := by decide +kernel
theorem dX2_isSetting_63 : decode cX2_isSetting 63 = .ok (.iload_n 1, 1) := by decide +kernel
theorem dX2_isSetting_64 : decode cX2_isSetting 64 = .ok (.iconst 1, 1) := by decide +kernel
theorem dX2_isSetting_65 : decode cX2_isSetting 65 = .ok (.if_icmp .lt 13, 3) := by decide +kernel
theorem dX2_isSetting_68 : decode cX2_isSetting 68 = .ok (.iload_n 1, 1) := by decide +kernel
theorem dX2_isSetting_69 : decode cX2_isSetting 69 = .ok (.bipush 9, 2) := by decide +kernel
theorem dX2_isSetting_71 : decode cX2_isSetting 71 = .ok (.if_icmp .gt 7, 3) := by decide +kernel
theorem dX2_isSetting_74 : decode cX2_isSetting 74 = .ok (.iconst 1, 1) := by decide +kernel
theorem dX2_isSetting_75 : decode cX2_isSetting 75 = .ok (.goto 4, 3) := by decide +kernel
theorem dX2_isSetting_78 : decode cX2_isSetting 78 = .ok (.iconst 0, 1) := by decide +kernel
theorem dX2_isSetting_79 : decode cX2_isSetting 79 = .ok (.ireturn, 1) := by decide +kernel
theorem dX2_isSetting_80 : decode cX2_isSetting 80 = .ok (.iload_n 1, 1) := by decide +kernel
theorem dX2_isSetting_81 : decode cX2_isSetting 81 = .ok (.ifCond .lt 7, 3) := by decide +kernel
theorem dX2_isSetting_84 : decode cX2_isSetting 84 = .ok (.iconst 1, 1) := by decide +kernel
theorem dX2_isSetting_85 : decode cX2_isSetting 85 = .ok (.goto 4, 3) := by decide +kernel
theorem dX2_isSetting_88 : decode cX2_isSetting 88 = .ok (.iconst 0, 1) := by decide +kernel
theorem dX2_isSetting_89 : decode cX2_isSetting 89 = .ok (.ireturn, 1) := by decide +kernel
theorem dX2_isSetting_90 : decode cX2_isSetting 90 = .ok (.iconst 0, 1) := by decide +kernel
theorem dX2_isSetting_91 : decode cX2_isSetting 91 = .ok (.ireturn, 1) := by decide +kernel
theorem dX2_lookUpAndRewire_0 : decode cX2_lookUpAndRewire 0 = .ok (.aload_n 0, 1) := by decide +kernel
theorem dX2_lookUpAndRewire_1 : decode cX2_lookUpAndRewire 1 = .ok (.getfield 19, 3) := by decide +kernel
theorem dX2_lookUpAndRewire_4 : decode cX2_lookUpAndRewire 4 = .ok (.aload_n 0, 1) := by decide +kernel
theorem dX2_lookUpAndRewire_5 : decode cX2_lookUpAndRewire 5 = .ok (.getfield 10, 3) := by decide +kernel
theorem dX2_lookUpAndRewire_8 : decode cX2_lookUpAndRewire 8 = .ok (.iload_n 1, 1) := by decide +kernel
theorem dX2_lookUpAndRewire_9 : decode cX2_lookUpAndRewire 9 = .ok (.iload_n 2, 1) := by decide +kernel
theorem dX2_lookUpAndRewire_10 : decode cX2_lookUpAndRewire 10 = .ok (.invokevirtual 149, 3) := by decide +kernel
theorem dX2_lookUpAndRewire_13 : decode cX2_lookUpAndRewire 13 = .ok (.ifCond .ne 5, 3) := by decide +kernel
theorem dX2_lookUpAndRewire_16 : decode cX2_lookUpAndRewire 16 = .ok (.iconst 0, 1) := by decide +kernel
theorem dX2_lookUpAndRewire_17 : decode cX2_lookUpAndRewire 17 = .ok (.ireturn, 1) := by decide +kernel
theorem dX2_lookUpAndRewire_18 : decode cX2_lookUpAndRewire 18 = .ok (.iconst 0, 1) := by decide +kernel
theorem dX2_lookUpAndRewire_19 : decode cX2_lookUpAndRewire 19 = .ok (.istore_n 3, 1) := by decide +kernel
theorem dX2_lookUpAndRewire_20 : decode cX2_lookUpAndRewire 20 = .ok (.iload_n 3, 1) := by decide +kernel
theorem dX2_lookUpAndRewire_21 : decode cX2_lookUpAndRewire 21 = .ok (.aload_n 0, 1) := by decide +kernel
theorem dX2_lookUpAndRewire_22 : decode cX2_lookUpAndRewire 22 = .ok (.getfield 19, 3) := by decide +kernel
theorem dX2_lookUpAndRewire_25 : decode cX2_lookUpAndRewire 25 = .ok (.invokevirtual 79, 3) := by decide +kernel
theorem dX2_lookUpAndRewire_28 : decode cX2_lookUpAndRewire 28 = .ok (.if_icmp .ge 33, 3) := by decide +kernel
theorem dX2_lookUpAndRewire_31 : decode cX2_lookUpAndRewire 31 = .ok (.aload_n 0, 1) := by decide +kernel
theorem dX2_lookUpAndRewire_32 : decode cX2_lookUpAndRewire 32 = .ok (.iload_n 3, 1) := by decide +kernel
theorem dX2_lookUpAndRewire_33 : decode cX2_lookUpAndRewire 33 = .ok (.invokevirtual 184, 3) := by decide +kernel
theorem dX2_lookUpAndRewire_36 : decode cX2_lookUpAndRewire 36 = .ok (.ifCond .eq 19, 3) := by decide +kernel
theorem dX2_lookUpAndRewire_39 : decode cX2_lookUpAndRewire 39 = .ok (.aload_n 0, 1) := by decide +kernel
theorem dX2_lookUpAndRewire_40 : decode cX2_lookUpAndRewire 40 = .ok (.getfield 10, 3) := by decide +kernel
theorem dX2_lookUpAndRewire_43 : decode cX2_lookUpAndRewire 43 = .ok (.aload_n 0, 1) := by decide +kernel
theorem dX2_lookUpAndRewire_44 : decode cX2_lookUpAndRewire 44 = .ok (.getfield 19, 3) := by decide +kernel
theorem dX2_lookUpAndRewire_47 : decode cX2_lookUpAndRewire 47 = .ok (.iload_n 3, 1) := by decide +kernel
theorem dX2_lookUpAndRewire_48 : decode cX2_lookUpAndRewire 48 = .ok (.invokevirtual 153, 3) := by decide +kernel
theorem dX2_lookUpAndRewire_51 : decode cX2_lookUpAndRewire 51 = .ok (.iload_n 2, 1) := by decide +kernel
theorem dX2_lookUpAndRewire_52 : decode cX2_lookUpAndRewire 52 = .ok (.invokevirtual 49, 3) := by decide +kernel
theorem dX2_lookUpAndRewire_55 : decode cX2_lookUpAndRewire 55 = .ok (.iinc 3 1, 3) := by decide +kernel
theorem dX2_lookUpAndRewire_58 : decode cX2_lookUpAndRewire 58 = .ok (.goto (-38), 3) := by decide +kernel
theorem dX2_lookUpAndRewire_61 : decode cX2_lookUpAndRewire 61 = .ok (.iconst 1, 1) := by decide +kernel
theorem dX2_lookUpAndRewire_62 : decode cX2_lookUpAndRewire 62 = .ok (.ireturn, 1) := by decide +kernel
theorem dX2_isRewired_0 : decode cX2_isRewired 0 = .ok (.aload_n 0, 1) := by decide +kernel
theorem dX2_isRewired_1 : decode cX2_isRewired 1 = .ok (.getfield 10, 3) := by decide +kernel
theorem dX2_isRewired_4 : decode cX2_isRewired 4 = .ok (.iconst 1, 1) := by decide +kernel
theorem dX2_isRewired_5 : decode cX2_isRewired 5 = .ok (.invokevirtual 114, 3) := by decide +kernel
theorem dX2_isRewired_8 : decode cX2_isRewired 8 = .ok (.tableswitch 92 1 3 #[28, 38, 62], 28) := by decide +kernel
theorem dX2_isRewired_36 : decode cX2_isRewired 36 = .ok (.iload_n 1, 1) := by decide +kernel
theorem dX2_isRewired_37 : decode cX2_isRewired 37 = .ok (.ifCond .ne 7, 3) := by decide +kernel
theorem dX2_isRewired_40 : decode cX2_isRewired 40 = .ok (.iconst 1, 1) := by decide +kernel
theorem dX2_isRewired_41 : decode cX2_isRewired 41 = .ok (.goto 4, 3) := by decide +kernel
theorem dX2_isRewired_44 : decode cX2_isRewired 44 = .ok (.iconst 0, 1) := by decide +kernel
theorem dX2_isRewired_45 : decode cX2_isRewired 45 = .ok (.ireturn, 1) := by decide +kernel
theorem dX2_isRewired_46 : decode cX2_isRewired 46 = .ok (.aload_n 0, 1) := by decide +kernel
theorem dX2_isRewired_47 : decode cX2_isRewired 47 = .ok (.getfield 10, 3) := by decide +kernel
theorem dX2_isRewired_50 : decode cX2_isRewired 50 = .ok (.aload_n 0, 1) := by decide +kernel
theorem dX2_isRewired_51 : decode cX2_isRewired 51 = .ok (.getfield 10, 3) := by decide +kernel
theorem dX2_isRewired_54 : decode cX2_isRewired 54 = .ok (.iconst 2, 1) := by decide +kernel
theorem dX2_isRewired_55 : decode cX2_isRewired 55 = .ok (.invokevirtual 114, 3) := by decide +kernel
theorem dX2_isRewired_58 : decode cX2_isRewired 58 = .ok (.invokevirtual 82, 3) := by decide +kernel
theorem dX2_isRewired_61 : decode cX2_isRewired 61 = .ok (.ifCond .ne 7, 3) := by decide +kernel
theorem dX2_isRewired_64 : decode cX2_isRewired 64 = .ok (.iconst 1, 1) := by decide +kernel
theorem dX2_isRewired_65 : decode cX2_isRewired 65 = .ok (.goto 4, 3) := by decide +kernel
theorem dX2_isRewired_68 : decode cX2_isRewired 68 = .ok (.iconst 0, 1) := by decide +kernel
theorem dX2_isRewired_69 : decode cX2_isRewired 69 = .ok (.ireturn, 1) := by decide +kernel
theorem dX2_isRewired_70 : decode cX2_isRewired 70 = .ok (.aload_n 0, 1) := by decide +kernel
theorem dX2_isRewired_71 : decode cX2_isRewired 71 = .ok (.getfield 19, 3) := by decide +kernel
theorem dX2_isRewired_74 : decode cX2_isRewired 74 = .ok (.invokevirtual 79, 3) := by decide +kernel
theorem dX2_isRewired_77 : decode cX2_isRewired 77 = .ok (.iconst 1, 1) := by decide +kernel
theorem dX2_isRewired_78 : decode cX2_isRewired 78 = .ok (.if_icmp .le 20, 3) := by decide +kernel
theorem dX2_isRewired_81 : decode cX2_isRewired 81 = .ok (.iload_n 1, 1) := by decide +kernel
theorem dX2_isRewired_82 : decode cX2_isRewired 82 = .ok (.aload_n 0, 1) := by decide +kernel
theorem dX2_isRewired_83 : decode cX2_isRewired 83 = .ok (.getfield 19, 3) := by decide +kernel
theorem dX2_isRewired_86 : decode cX2_isRewired 86 = .ok (.invokevirtual 79, 3) := by decide +kernel
theorem dX2_isRewired_89 : decode cX2_isRewired 89 = .ok (.iconst 2, 1) := by decide +kernel
theorem dX2_isRewired_90 : decode cX2_isRewired 90 = .ok (.idiv, 1) := by decide +kernel
theorem dX2_isRewired_91 : decode cX2_isRewired 91 = .ok (.if_icmp .ne 7, 3) := by decide +kernel
theorem dX2_isRewired_94 : decode cX2_isRewired 94 = .ok (.iconst 1, 1) := by decide +kernel
theorem dX2_isRewired_95 : decode cX2_isRewired 95 = .ok (.goto 4, 3) := by decide +kernel
theorem dX2_isRewired_98 : decode cX2_isRewired 98 = .ok (.iconst 0, 1) := by decide +kernel
theorem dX2_isRewired_99 : decode cX2_isRewired 99 = .ok (.ireturn, 1) := by decide +kernel
theorem dX2_isRewired_100 : decode cX2_isRewired 100 = .ok (.iconst 0, 1) := by decide +kernel
theorem dX2_isRewired_101 : decode cX2_isRewired 101 = .ok (.ireturn, 1) := by decide +kernel
theorem dX2_valueAt_0 : decode cX2_valueAt 0 = .ok (.iload_n 1, 1) := by decide +kernel
theorem dX2_valueAt_1 : decode cX2_valueAt 1 = .ok (.ifCond .lt 15, 3) := by decide +kernel
theorem dX2_valueAt_4 : decode cX2_valueAt 4 = .ok (.iload_n 1, 1) := by decide +kernel
theorem dX2_valueAt_5 : decode cX2_valueAt 5 = .ok (.aload_n 0, 1) := by decide +kernel
theorem dX2_valueAt_6 : decode cX2_valueAt 6 = .ok (.arraylength, 1) := by decide +kernel
theorem dX2_valueAt_7 : decode cX2_valueAt 7 = .ok (.if_icmp .ge 9, 3) := by decide +kernel
theorem dX2_valueAt_10 : decode cX2_valueAt 10 = .ok (.aload_n 0, 1) := by decide +kernel
theorem dX2_valueAt_11 : decode cX2_valueAt 11 = .ok (.iload_n 1, 1) := by decide +kernel
theorem dX2_valueAt_12 : decode cX2_valueAt 12 = .ok (.iaload, 1) := by decide +kernel
theorem dX2_valueAt_13 : decode cX2_valueAt 13 = .ok (.goto 4, 3) := by decide +kernel
theorem dX2_valueAt_16 : decode cX2_valueAt 16 = .ok (.iconst 0, 1) := by decide +kernel
theorem dX2_valueAt_17 : decode cX2_valueAt 17 = .ok (.ireturn, 1) := by decide +kernel
theorem dX2_putAt_0 : decode cX2_putAt 0 = .ok (.iload_n 1, 1) := by decide +kernel
theorem dX2_putAt_1 : decode cX2_putAt 1 = .ok (.ifCond .lt 13, 3) := by decide +kernel
theorem dX2_putAt_4 : decode cX2_putAt 4 = .ok (.iload_n 1, 1) := by decide +kernel
theorem dX2_putAt_5 : decode cX2_putAt 5 = .ok (.aload_n 0, 1) := by decide +kernel
theorem dX2_putAt_6 : decode cX2_putAt 6 = .ok (.arraylength, 1) := by decide +kernel
theorem dX2_putAt_7 : decode cX2_putAt 7 = .ok (.if_icmp .ge 7, 3) := by decide +kernel
theorem dX2_putAt_10 : decode cX2_putAt 10 = .ok (.aload_n 0, 1) := by decide +kernel
theorem dX2_putAt_11 : decode cX2_putAt 11 = .ok (.iload_n 1, 1) := by decide +kernel
theorem dX2_putAt_12 : decode cX2_putAt 12 = .ok (.iload_n 2, 1) := by decide +kernel
theorem dX2_putAt_13 : decode cX2_putAt 13 = .ok (.iastore, 1) := by decide +kernel
theorem dX2_putAt_14 : decode cX2_putAt 14 = .ok (.return_, 1) := by decide +kernel
theorem dX2_copyRow_0 : decode cX2_copyRow 0 = .ok (.iconst 0, 1) := by decide +kernel
theorem dX2_copyRow_1 : decode cX2_copyRow 1 = .ok (.istore_n 2, 1) := by decide +kernel
theorem dX2_copyRow_2 : decode cX2_copyRow 2 = .ok (.iload_n 2, 1) := by decide +kernel
theorem dX2_copyRow_3 : decode cX2_copyRow 3 = .ok (.aload_n 0, 1) := by decide +kernel
theorem dX2_copyRow_4 : decode cX2_copyRow 4 = .ok (.arraylength, 1) := by decide +kernel
theorem dX2_copyRow_5 : decode cX2_copyRow 5 = .ok (.if_icmp .ge 21, 3) := by decide +kernel
theorem dX2_copyRow_8 : decode cX2_copyRow 8 = .ok (.iload_n 2, 1) := by decide +kernel
theorem dX2_copyRow_9 : decode cX2_copyRow 9 = .ok (.aload_n 1, 1) := by decide +kernel
theorem dX2_copyRow_10 : decode cX2_copyRow 10 = .ok (.arraylength, 1) := by decide +kernel
theorem dX2_copyRow_11 : decode cX2_copyRow 11 = .ok (.if_icmp .ge 15, 3) := by decide +kernel
theorem dX2_copyRow_14 : decode cX2_copyRow 14 = .ok (.aload_n 1, 1) := by decide +kernel
theorem dX2_copyRow_15 : decode cX2_copyRow 15 = .ok (.iload_n 2, 1) := by decide +kernel
theorem dX2_copyRow_16 : decode cX2_copyRow 16 = .ok (.aload_n 0, 1) := by decide +kernel
theorem dX2_copyRow_17 : decode cX2_copyRow 17 = .ok (.iload_n 2, 1) := by decide +kernel
theorem dX2_copyRow_18 : decode cX2_copyRow 18 = .ok (.iaload, 1) := by decide +kernel
theorem dX2_copyRow_19 : decode cX2_copyRow 19 = .ok (.iastore, 1) := by decide +kernel
theorem dX2_copyRow_20 : decode cX2_copyRow 20 = .ok (.iinc 2 1, 3) := by decide +kernel
theorem dX2_copyRow_23 : decode cX2_copyRow 23 = .ok (.goto (-21), 3) := by decide +kernel
theorem dX2_copyRow_26 : decode cX2_copyRow 26 = .ok (.return_, 1) := by decide +kernel
theorem dX2_only_0 : decode cX2_only 0 = .ok (.lconst 1, 1) := by decide +kernel
theorem dX2_only_1 : decode cX2_only 1 = .ok (.iload_n 0, 1) := by decide +kernel
theorem dX2_only_2 : decode cX2_only 2 = .ok (.lshl, 1) := by decide +kernel
theorem dX2_only_3 : decode cX2_only 3 = .ok (.lreturn, 1) := by decide +kernel
theorem dX2_isIn_0 : decode cX2_isIn 0 = .ok (.lload_n 0, 1) := by decide +kernel
theorem dX2_isIn_1 : decode cX2_isIn 1 = .ok (.iload_n 2, 1) := by decide +kernel
theorem dX2_isIn_2 : decode cX2_isIn 2 = .ok (.lshr, 1) := by decide +kernel
theorem dX2_isIn_3 : decode cX2_isIn 3 = .ok (.lconst 1, 1) := by decide +kernel
theorem dX2_isIn_4 : decode cX2_isIn 4 = .ok (.land, 1) := by decide +kernel
theorem dX2_isIn_5 : decode cX2_isIn 5 = .ok (.lconst 0, 1) := by decide +kernel
theorem dX2_isIn_6 : decode cX2_isIn 6 = .ok (.lcmp, 1) := by decide +kernel
theorem dX2_isIn_7 : decode cX2_isIn 7 = .ok (.ifCond .eq 7, 3) := by decide +kernel
theorem dX2_isIn_10 : decode cX2_isIn 10 = .ok (.iconst 1, 1) := by decide +kernel
theorem dX2_isIn_11 : decode cX2_isIn 11 = .ok (.goto 4, 3) := by decide +kernel
theorem dX2_isIn_14 : decode cX2_isIn 14 = .ok (.iconst 0, 1) := by decide +kernel
theorem dX2_isIn_15 : decode cX2_isIn 15 = .ok (.ireturn, 1) := by decide +kernel
