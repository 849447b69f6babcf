theorem dX0_init_0 : decode cX0_init 0 = .ok (.aload_n 0, 1) := by decide +kernel
theorem dX0_init_1 : decode cX0_init 1 = .ok (.invokespecial 3, 3) := by decide +kernel
theorem dX0_init_4 : decode cX0_init 4 = .ok (.aload_n 0, 1) := by decide +kernel
theorem dX0_init_5 : decode cX0_init 5 = .ok (.bipush 49, 2) := by decide +kernel
theorem dX0_init_7 : decode cX0_init 7 = .ok (.newarray .int, 2) := by decide +kernel
theorem dX0_init_9 : decode cX0_init 9 = .ok (.putfield 9, 3) := by decide +kernel
theorem dX0_init_12 : decode cX0_init 12 = .ok (.aload_n 0, 1) := by decide +kernel
theorem dX0_init_13 : decode cX0_init 13 = .ok (.bipush 49, 2) := by decide +kernel
theorem dX0_init_15 : decode cX0_init 15 = .ok (.newarray .int, 2) := by decide +kernel
theorem dX0_init_17 : decode cX0_init 17 = .ok (.putfield 15, 3) := by decide +kernel
theorem dX0_init_20 : decode cX0_init 20 = .ok (.aload_n 0, 1) := by decide +kernel
theorem dX0_init_21 : decode cX0_init 21 = .ok (.bipush 49, 2) := by decide +kernel
theorem dX0_init_23 : decode cX0_init 23 = .ok (.newarray .int, 2) := by decide +kernel
theorem dX0_init_25 : decode cX0_init 25 = .ok (.putfield 18, 3) := by decide +kernel
theorem dX0_init_28 : decode cX0_init 28 = .ok (.aload_n 0, 1) := by decide +kernel
theorem dX0_init_29 : decode cX0_init 29 = .ok (.bipush 49, 2) := by decide +kernel
theorem dX0_init_31 : decode cX0_init 31 = .ok (.newarray .int, 2) := by decide +kernel
theorem dX0_init_33 : decode cX0_init 33 = .ok (.putfield 21, 3) := by decide +kernel
theorem dX0_init_36 : decode cX0_init 36 = .ok (.aload_n 0, 1) := by decide +kernel
theorem dX0_init_37 : decode cX0_init 37 = .ok (.sipush 147, 3) := by decide +kernel
theorem dX0_init_40 : decode cX0_init 40 = .ok (.newarray .int, 2) := by decide +kernel
theorem dX0_init_42 : decode cX0_init 42 = .ok (.putfield 24, 3) := by decide +kernel
theorem dX0_init_45 : decode cX0_init 45 = .ok (.aload_n 0, 1) := by decide +kernel
theorem dX0_init_46 : decode cX0_init 46 = .ok (.iconst 4, 1) := by decide +kernel
theorem dX0_init_47 : decode cX0_init 47 = .ok (.newarray .int, 2) := by decide +kernel
theorem dX0_init_49 : decode cX0_init 49 = .ok (.putfield 27, 3) := by decide +kernel
theorem dX0_init_52 : decode cX0_init 52 = .ok (.aload_n 0, 1) := by decide +kernel
theorem dX0_init_53 : decode cX0_init 53 = .ok (.iconst 4, 1) := by decide +kernel
theorem dX0_init_54 : decode cX0_init 54 = .ok (.iconst 4, 1) := by decide +kernel
theorem dX0_init_55 : decode cX0_init 55 = .ok (.invokevirtual 30, 3) := by decide +kernel
theorem dX0_init_58 : decode cX0_init 58 = .ok (.aload_n 0, 1) := by decide +kernel
theorem dX0_init_59 : decode cX0_init 59 = .ok (.iconst 0, 1) := by decide +kernel
theorem dX0_init_60 : decode cX0_init 60 = .ok (.iconst 2, 1) := by decide +kernel
theorem dX0_init_61 : decode cX0_init 61 = .ok (.invokevirtual 34, 3) := by decide +kernel
theorem dX0_init_64 : decode cX0_init 64 = .ok (.aload_n 0, 1) := by decide +kernel
theorem dX0_init_65 : decode cX0_init 65 = .ok (.iconst 1, 1) := by decide +kernel
theorem dX0_init_66 : decode cX0_init 66 = .ok (.iconst 0, 1) := by decide +kernel
theorem dX0_init_67 : decode cX0_init 67 = .ok (.invokevirtual 34, 3) := by decide +kernel
theorem dX0_init_70 : decode cX0_init 70 = .ok (.aload_n 0, 1) := by decide +kernel
theorem dX0_init_71 : decode cX0_init 71 = .ok (.iconst 2, 1) := by decide +kernel
theorem dX0_init_72 : decode cX0_init 72 = .ok (.iconst 3, 1) := by decide +kernel
theorem dX0_init_73 : decode cX0_init 73 = .ok (.invokevirtual 34, 3) := by decide +kernel
theorem dX0_init_76 : decode cX0_init 76 = .ok (.aload_n 0, 1) := by decide +kernel
theorem dX0_init_77 : decode cX0_init 77 = .ok (.iconst 3, 1) := by decide +kernel
theorem dX0_init_78 : decode cX0_init 78 = .ok (.iconst 1, 1) := by decide +kernel
theorem dX0_init_79 : decode cX0_init 79 = .ok (.invokevirtual 34, 3) := by decide +kernel
theorem dX0_init_82 : decode cX0_init 82 = .ok (.return_, 1) := by decide +kernel
theorem dX0_layOut_0 : decode cX0_layOut 0 = .ok (.aload_n 0, 1) := by decide +kernel
theorem dX0_layOut_1 : decode cX0_layOut 1 = .ok (.iload_n 1, 1) := by decide +kernel
theorem dX0_layOut_2 : decode cX0_layOut 2 = .ok (.putfield 37, 3) := by decide +kernel
theorem dX0_layOut_5 : decode cX0_layOut 5 = .ok (.aload_n 0, 1) := by decide +kernel
theorem dX0_layOut_6 : decode cX0_layOut 6 = .ok (.iload_n 2, 1) := by decide +kernel
theorem dX0_layOut_7 : decode cX0_layOut 7 = .ok (.putfield 41, 3) := by decide +kernel
theorem dX0_layOut_10 : decode cX0_layOut 10 = .ok (.aload_n 0, 1) := by decide +kernel
theorem dX0_layOut_11 : decode cX0_layOut 11 = .ok (.aload_n 0, 1) := by decide +kernel
theorem dX0_layOut_12 : decode cX0_layOut 12 = .ok (.invokevirtual 44, 3) := by decide +kernel
theorem dX0_layOut_15 : decode cX0_layOut 15 = .ok (.invokestatic 48, 3) := by decide +kernel
theorem dX0_layOut_18 : decode cX0_layOut 18 = .ok (.lconst 1, 1) := by decide +kernel
theorem dX0_layOut_19 : decode cX0_layOut 19 = .ok (.lsub, 1) := by decide +kernel
theorem dX0_layOut_20 : decode cX0_layOut 20 = .ok (.putfield 52, 3) := by decide +kernel
theorem dX0_layOut_23 : decode cX0_layOut 23 = .ok (.iconst 0, 1) := by decide +kernel
theorem dX0_layOut_24 : decode cX0_layOut 24 = .ok (.istore_n 3, 1) := by decide +kernel
theorem dX0_layOut_25 : decode cX0_layOut 25 = .ok (.iload_n 3, 1) := by decide +kernel
theorem dX0_layOut_26 : decode cX0_layOut 26 = .ok (.aload_n 0, 1) := by decide +kernel
theorem dX0_layOut_27 : decode cX0_layOut 27 = .ok (.getfield 41, 3) := by decide +kernel
theorem dX0_layOut_30 : decode cX0_layOut 30 = .ok (.if_icmp .ge 43, 3) := by decide +kernel
theorem dX0_layOut_33 : decode cX0_layOut 33 = .ok (.iconst 0, 1) := by decide +kernel
theorem dX0_layOut_34 : decode cX0_layOut 34 = .ok (.istore 4, 2) := by decide +kernel
theorem dX0_layOut_36 : decode cX0_layOut 36 = .ok (.iload 4, 2) := by decide +kernel
theorem dX0_layOut_38 : decode cX0_layOut 38 = .ok (.aload_n 0, 1) := by decide +kernel
theorem dX0_layOut_39 : decode cX0_layOut 39 = .ok (.getfield 37, 3) := by decide +kernel
theorem dX0_layOut_42 : decode cX0_layOut 42 = .ok (.if_icmp .ge 25, 3) := by decide +kernel
theorem dX0_layOut_45 : decode cX0_layOut 45 = .ok (.aload_n 0, 1) := by decide +kernel
theorem dX0_layOut_46 : decode cX0_layOut 46 = .ok (.iload_n 3, 1) := by decide +kernel
theorem dX0_layOut_47 : decode cX0_layOut 47 = .ok (.aload_n 0, 1) := by decide +kernel
theorem dX0_layOut_48 : decode cX0_layOut 48 = .ok (.getfield 37, 3) := by decide +kernel
theorem dX0_layOut_51 : decode cX0_layOut 51 = .ok (.imul, 1) := by decide +kernel
theorem dX0_layOut_52 : decode cX0_layOut 52 = .ok (.iload 4, 2) := by decide +kernel
theorem dX0_layOut_54 : decode cX0_layOut 54 = .ok (.iadd, 1) := by decide +kernel
theorem dX0_layOut_55 : decode cX0_layOut 55 = .ok (.iload 4, 2) := by decide +kernel
theorem dX0_layOut_57 : decode cX0_layOut 57 = .ok (.iload_n 3, 1) := by decide +kernel
theorem dX0_layOut_58 : decode cX0_layOut 58 = .ok (.invokevirtual 56, 3) := by decide +kernel
theorem dX0_layOut_61 : decode cX0_layOut 61 = .ok (.iinc 4 1, 3) := by decide +kernel
theorem dX0_layOut_64 : decode cX0_layOut 64 = .ok (.goto (-28), 3) := by decide +kernel
theorem dX0_layOut_67 : decode cX0_layOut 67 = .ok (.iinc 3 1, 3) := by decide +kernel
theorem dX0_layOut_70 : decode cX0_layOut 70 = .ok (.goto (-45), 3) := by decide +kernel
theorem dX0_layOut_73 : decode cX0_layOut 73 = .ok (.iconst 0, 1) := by decide +kernel
theorem dX0_layOut_74 : decode cX0_layOut 74 = .ok (.istore_n 3, 1) := by decide +kernel
theorem dX0_layOut_75 : decode cX0_layOut 75 = .ok (.iload_n 3, 1) := by decide +kernel
theorem dX0_layOut_76 : decode cX0_layOut 76 = .ok (.aload_n 0, 1) := by decide +kernel
theorem dX0_layOut_77 : decode cX0_layOut 77 = .ok (.getfield 21, 3) := by decide +kernel
theorem dX0_layOut_80 : decode cX0_layOut 80 = .ok (.arraylength, 1) := by decide +kernel
theorem dX0_layOut_81 : decode cX0_layOut 81 = .ok (.if_icmp .ge 16, 3) := by decide +kernel
theorem dX0_layOut_84 : decode cX0_layOut 84 = .ok (.aload_n 0, 1) := by decide +kernel
theorem dX0_layOut_85 : decode cX0_layOut 85 = .ok (.getfield 21, 3) := by decide +kernel
theorem dX0_layOut_88 : decode cX0_layOut 88 = .ok (.iload_n 3, 1) := by decide +kernel
theorem dX0_layOut_89 : decode cX0_layOut 89 = .ok (.iconst 0, 1) := by decide +kernel
theorem dX0_layOut_90 : decode cX0_layOut 90 = .ok (.iastore, 1) := by decide +kernel
theorem dX0_layOut_91 : decode cX0_layOut 91 = .ok (.iinc 3 1, 3) := by decide +kernel
theorem dX0_layOut_94 : decode cX0_layOut 94 = .ok (.goto (-19), 3) := by decide +kernel
theorem dX0_layOut_97 : decode cX0_layOut 97 = .ok (.return_, 1) := by decide +kernel
theorem dX0_settle_0 : decode cX0_settle 0 = .ok (.aload_n 0, 1) := by decide +kernel
theorem dX0_settle_1 : decode cX0_settle 1 = .ok (.getfield 9, 3) := by decide +kernel
theorem dX0_settle_4 : decode cX0_settle 4 = .ok (.iload_n 1, 1) := by decide +kernel
theorem dX0_settle_5 : decode cX0_settle 5 = .ok (.iload_n 2, 1) := by decide +kernel
theorem dX0_settle_6 : decode cX0_settle 6 = .ok (.invokestatic 60, 3) := by decide +kernel
theorem dX0_settle_9 : decode cX0_settle 9 = .ok (.aload_n 0, 1) := by decide +kernel
theorem dX0_settle_10 : decode cX0_settle 10 = .ok (.getfield 15, 3) := by decide +kernel
theorem dX0_settle_13 : decode cX0_settle 13 = .ok (.iload_n 1, 1) := by decide +kernel
theorem dX0_settle_14 : decode cX0_settle 14 = .ok (.iload_n 3, 1) := by decide +kernel
theorem dX0_settle_15 : decode cX0_settle 15 = .ok (.invokestatic 60, 3) := by decide +kernel
theorem dX0_settle_18 : decode cX0_settle 18 = .ok (.aload_n 0, 1) := by decide +kernel
theorem dX0_settle_19 : decode cX0_settle 19 = .ok (.getfield 18, 3) := by decide +kernel
theorem dX0_settle_22 : decode cX0_settle 22 = .ok (.iload_n 3, 1) := by decide +kernel
theorem dX0_settle_23 : decode cX0_settle 23 = .ok (.aload_n 0, 1) := by decide +kernel
theorem dX0_settle_24 : decode cX0_settle 24 = .ok (.getfield 37, 3) := by decide +kernel
theorem dX0_settle_27 : decode cX0_settle 27 = .ok (.imul, 1) := by decide +kernel
theorem dX0_settle_28 : decode cX0_settle 28 = .ok (.iload_n 2, 1) := by decide +kernel
theorem dX0_settle_29 : decode cX0_settle 29 = .ok (.iadd, 1) := by decide +kernel
theorem dX0_settle_30 : decode cX0_settle 30 = .ok (.iload_n 1, 1) := by decide +kernel
theorem dX0_settle_31 : decode cX0_settle 31 = .ok (.invokestatic 60, 3) := by decide +kernel
theorem dX0_settle_34 : decode cX0_settle 34 = .ok (.return_, 1) := by decide +kernel
theorem dX0_copyFrom_0 : decode cX0_copyFrom 0 = .ok (.aload_n 1, 1) := by decide +kernel
theorem dX0_copyFrom_1 : decode cX0_copyFrom 1 = .ok (.ifnonnull 4, 3) := by decide +kernel
theorem dX0_copyFrom_4 : decode cX0_copyFrom 4 = .ok (.return_, 1) := by decide +kernel
theorem dX0_copyFrom_5 : decode cX0_copyFrom 5 = .ok (.aload_n 0, 1) := by decide +kernel
theorem dX0_copyFrom_6 : decode cX0_copyFrom 6 = .ok (.aload_n 1, 1) := by decide +kernel
theorem dX0_copyFrom_7 : decode cX0_copyFrom 7 = .ok (.getfield 37, 3) := by decide +kernel
theorem dX0_copyFrom_10 : decode cX0_copyFrom 10 = .ok (.putfield 37, 3) := by decide +kernel
theorem dX0_copyFrom_13 : decode cX0_copyFrom 13 = .ok (.aload_n 0, 1) := by decide +kernel
theorem dX0_copyFrom_14 : decode cX0_copyFrom 14 = .ok (.aload_n 1, 1) := by decide +kernel
theorem dX0_copyFrom_15 : decode cX0_copyFrom 15 = .ok (.getfield 41, 3) := by decide +kernel
theorem dX0_copyFrom_18 : decode cX0_copyFrom 18 = .ok (.putfield 41, 3) := by decide +kernel
theorem dX0_copyFrom_21 : decode cX0_copyFrom 21 = .ok (.aload_n 0, 1) := by decide +kernel
theorem dX0_copyFrom_22 : decode cX0_copyFrom 22 = .ok (.aload_n 1, 1) := by decide +kernel
theorem dX0_copyFrom_23 : decode cX0_copyFrom 23 = .ok (.getfield 52, 3) := by decide +kernel
theorem dX0_copyFrom_26 : decode cX0_copyFrom 26 = .ok (.putfield 52, 3) := by decide +kernel
theorem dX0_copyFrom_29 : decode cX0_copyFrom 29 = .ok (.aload_n 1, 1) := by decide +kernel
theorem dX0_copyFrom_30 : decode cX0_copyFrom 30 = .ok (.getfield 9, 3) := by decide +kernel
theorem dX0_copyFrom_33 : decode cX0_copyFrom 33 = .ok (.aload_n 0, 1) := by decide +kernel
theorem dX0_copyFrom_34 : decode cX0_copyFrom 34 = .ok (.getfield 9, 3) := by decide +kernel
theorem dX0_copyFrom_37 : decode cX0_copyFrom 37 = .ok (.invokestatic 64, 3) := by decide +kernel
theorem dX0_copyFrom_40 : decode cX0_copyFrom 40 = .ok (.aload_n 1, 1) := by decide +kernel
theorem dX0_copyFrom_41 : decode cX0_copyFrom 41 = .ok (.getfield 15, 3) := by decide +kernel
theorem dX0_copyFrom_44 : decode cX0_copyFrom 44 = .ok (.aload_n 0, 1) := by decide +kernel
theorem dX0_copyFrom_45 : decode cX0_copyFrom 45 = .ok (.getfield 15, 3) := by decide +kernel
theorem dX0_copyFrom_48 : decode cX0_copyFrom 48 = .ok (.invokestatic 64, 3) := by decide +kernel
theorem dX0_copyFrom_51 : decode cX0_copyFrom 51 = .ok (.aload_n 1, 1) := by decide +kernel
theorem dX0_copyFrom_52 : decode cX0_copyFrom 52 = .ok (.getfield 18, 3) := by decide +kernel
theorem dX0_copyFrom_55 : decode cX0_copyFrom 55 = .ok (.aload_n 0, 1) := by decide +kernel
theorem dX0_copyFrom_56 : decode cX0_copyFrom 56 = .ok (.getfield 18, 3) := by decide +kernel
theorem dX0_copyFrom_59 : decode cX0_copyFrom 59 = .ok (.invokestatic 64, 3) := by decide +kernel
theorem dX0_copyFrom_62 : decode cX0_copyFrom 62 = .ok (.aload_n 1, 1) := by decide +kernel
theorem dX0_copyFrom_63 : decode cX0_copyFrom 63 = .ok (.getfield 21, 3) := by decide +kernel
theorem dX0_copyFrom_66 : decode cX0_copyFrom 66 = .ok (.aload_n 0, 1) := by decide +kernel
theorem dX0_copyFrom_67 : decode cX0_copyFrom 67 = .ok (.getfield 21, 3) := by decide +kernel
theorem dX0_copyFrom_70 : decode cX0_copyFrom 70 = .ok (.invokestatic 64, 3) := by decide +kernel
theorem dX0_copyFrom_73 : decode cX0_copyFrom 73 = .ok (.aload_n 1, 1) := by decide +kernel
theorem dX0_copyFrom_74 : decode cX0_copyFrom 74 = .ok (.getfield 24, 3) := by decide +kernel
theorem dX0_copyFrom_77 : decode cX0_copyFrom 77 = .ok (.aload_n 0, 1) := by decide +kernel
theorem dX0_copyFrom_78 : decode cX0_copyFrom 78 = .ok (.getfield 24, 3) := by decide +kernel
theorem dX0_copyFrom_81 : decode cX0_copyFrom 81 = .ok (.invokestatic 64, 3) := by decide +kernel
theorem dX0_copyFrom_84 : decode cX0_copyFrom 84 = .ok (.aload_n 1, 1) := by decide +kernel
theorem dX0_copyFrom_85 : decode cX0_copyFrom 85 = .ok (.getfield 27, 3) := by decide +kernel
theorem dX0_copyFrom_88 : decode cX0_copyFrom 88 = .ok (.aload_n 0, 1) := by decide +kernel
theorem dX0_copyFrom_89 : decode cX0_copyFrom 89 = .ok (.getfield 27, 3) := by decide +kernel
theorem dX0_copyFrom_92 : decode cX0_copyFrom 92 = .ok (.invokestatic 64, 3) := by decide +kernel
theorem dX0_copyFrom_95 : decode cX0_copyFrom 95 = .ok (.return_, 1) := by decide +kernel
theorem dX0_nodes_0 : decode cX0_nodes 0 = .ok (.aload_n 0, 1) := by decide +kernel
theorem dX0_nodes_1 : decode cX0_nodes 1 = .ok (.getfield 37, 3) := by decide +kernel
theorem dX0_nodes_4 : decode cX0_nodes 4 = .ok (.aload_n 0, 1) := by decide +kernel
theorem dX0_nodes_5 : decode cX0_nodes 5 = .ok (.getfield 41, 3) := by decide +kernel
theorem dX0_nodes_8 : decode cX0_nodes 8 = .ok (.imul, 1) := by decide +kernel
theorem dX0_nodes_9 : decode cX0_nodes 9 = .ok (.ireturn, 1) := by decide +kernel
theorem dX0_width_0 : decode cX0_width 0 = .ok (.aload_n 0, 1) := by decide +kernel
theorem dX0_width_1 : decode cX0_width 1 = .ok (.getfield 37, 3) := by decide +kernel
theorem dX0_width_4 : decode cX0_width 4 = .ok (.ireturn, 1) := by decide +kernel
theorem dX0_holds_0 : decode cX0_holds 0 = .ok (.iload_n 1, 1) := by decide +kernel
theorem dX0_holds_1 : decode cX0_holds 1 = .ok (.ifCond .lt 15, 3) := by decide +kernel
theorem dX0_holds_4 : decode cX0_holds 4 = .ok (.iload_n 1, 1) := by decide +kernel
theorem dX0_holds_5 : decode cX0_holds 5 = .ok (.aload_n 0, 1) := by decide +kernel
theorem dX0_holds_6 : decode cX0_holds 6 = .ok (.invokevirtual 44, 3) := by decide +kernel
theorem dX0_holds_9 : decode cX0_holds 9 = .ok (.if_icmp .ge 7, 3) := by decide +kernel
theorem dX0_holds_12 : decode cX0_holds 12 = .ok (.iconst 1, 1) := by decide +kernel
theorem dX0_holds_13 : decode cX0_holds 13 = .ok (.goto 4, 3) := by decide +kernel
theorem dX0_holds_16 : decode cX0_holds 16 = .ok (.iconst 0, 1) := by decide +kernel
theorem dX0_holds_17 : decode cX0_holds 17 = .ok (.ireturn, 1) := by decide +kernel
theorem dX0_isPresent_0 : decode cX0_isPresent 0 = .ok (.aload_n 0, 1) := by decide +kernel
theorem dX0_isPresent_1 : decode cX0_isPresent 1 = .ok (.iload_n 1, 1) := by decide +kernel
theorem dX0_isPresent_2 : decode cX0_isPresent 2 = .ok (.invokevirtual 68, 3) := by decide +kernel
theorem dX0_isPresent_5 : decode cX0_isPresent 5 = .ok (.ifCond .eq 18, 3) := by decide +kernel
theorem dX0_isPresent_8 : decode cX0_isPresent 8 = .ok (.aload_n 0, 1) := by decide +kernel
theorem dX0_isPresent_9 : decode cX0_isPresent 9 = .ok (.getfield 52, 3) := by decide +kernel
theorem dX0_isPresent_12 : decode cX0_isPresent 12 = .ok (.iload_n 1, 1) := by decide +kernel
theorem dX0_isPresent_13 : decode cX0_isPresent 13 = .ok (.invokestatic 72, 3) := by decide +kernel
theorem dX0_isPresent_16 : decode cX0_isPresent 16 = .ok (.ifCond .eq 7, 3) := by decide +kernel
theorem dX0_isPresent_19 : decode cX0_isPresent 19 = .ok (.iconst 1, 1) := by decide +kernel
theorem dX0_isPresent_20 : decode cX0_isPresent 20 = .ok (.goto 4, 3) := by decide +kernel
theorem dX0_isPresent_23 : decode cX0_isPresent 23 = .ok (.iconst 0, 1) := by decide +kernel
theorem dX0_isPresent_24 : decode cX0_isPresent 24 = .ok (.ireturn, 1) := by decide +kernel
theorem dX0_presentNodes_0 : decode cX0_presentNodes 0 = .ok (.aload_n 0, 1) := by decide +kernel
theorem dX0_presentNodes_1 : decode cX0_presentNodes 1 = .ok (.getfield 52, 3) := by decide +kernel
theorem dX0_presentNodes_4 : decode cX0_presentNodes 4 = .ok (.invokestatic 76, 3) := by decide +kernel
theorem dX0_presentNodes_7 : decode cX0_presentNodes 7 = .ok (.ireturn, 1) := by decide +kernel
theorem dX0_setting_0 : decode cX0_setting 0 = .ok (.aload_n 0, 1) := by decide +kernel
theorem dX0_setting_1 : decode cX0_setting 1 = .ok (.getfield 27, 3) := by decide +kernel
theorem dX0_setting_4 : decode cX0_setting 4 = .ok (.iload_n 1, 1) := by decide +kernel
theorem dX0_setting_5 : decode cX0_setting 5 = .ok (.invokestatic 82, 3) := by decide +kernel
theorem dX0_setting_8 : decode cX0_setting 8 = .ok (.ireturn, 1) := by decide +kernel
theorem dX0_changeSetting_0 : decode cX0_changeSetting 0 = .ok (.aload_n 0, 1) := by decide +kernel
theorem dX0_changeSetting_1 : decode cX0_changeSetting 1 = .ok (.getfield 27, 3) := by decide +kernel
theorem dX0_changeSetting_4 : decode cX0_changeSetting 4 = .ok (.iload_n 1, 1) := by decide +kernel
theorem dX0_changeSetting_5 : decode cX0_changeSetting 5 = .ok (.iload_n 2, 1) := by decide +kernel
theorem dX0_changeSetting_6 : decode cX0_changeSetting 6 = .ok (.invokestatic 60, 3) := by decide +kernel
theorem dX0_changeSetting_9 : decode cX0_changeSetting 9 = .ok (.return_, 1) := by decide +kernel
theorem dX0_draw_0 : decode cX0_draw 0 = .ok (.ldc2_w 86, 3) := by decide +kernel
theorem dX0_draw_3 : decode cX0_draw 3 = .ok (.aload_n 0, 1) := by decide +kernel
theorem dX0_draw_4 : decode cX0_draw 4 = .ok (.iconst 3, 1) := by decide +kernel
theorem dX0_draw_5 : decode cX0_draw 5 = .ok (.invokevirtual 88, 3) := by decide +kernel
theorem dX0_draw_8 : decode cX0_draw 8 = .ok (.i2l, 1) := by decide +kernel
theorem dX0_draw_9 : decode cX0_draw 9 = .ok (.lmul, 1) := by decide +kernel
theorem dX0_draw_10 : decode cX0_draw 10 = .ok (.ldc2_w 92, 3) := by decide +kernel
theorem dX0_draw_13 : decode cX0_draw 13 = .ok (.ladd, 1) := by decide +kernel
theorem dX0_draw_14 : decode cX0_draw 14 = .ok (.ldc2_w 94, 3) := by decide +kernel
theorem dX0_draw_17 : decode cX0_draw 17 = .ok (.lrem, 1) := by decide +kernel
theorem dX0_draw_18 : decode cX0_draw 18 = .ok (.lstore_n 2, 1) := by decide +kernel
theorem dX0_draw_19 : decode cX0_draw 19 = .ok (.aload_n 0, 1) := by decide +kernel
theorem dX0_draw_20 : decode cX0_draw 20 = .ok (.iconst 3, 1) := by decide +kernel
theorem dX0_draw_21 : decode cX0_draw 21 = .ok (.lload_n 2, 1) := by decide +kernel
theorem dX0_draw_22 : decode cX0_draw 22 = .ok (.l2i, 1) := by decide +kernel
theorem dX0_draw_23 : decode cX0_draw 23 = .ok (.invokevirtual 34, 3) := by decide +kernel
theorem dX0_draw_26 : decode cX0_draw 26 = .ok (.iload_n 1, 1) := by decide +kernel
theorem dX0_draw_27 : decode cX0_draw 27 = .ok (.iconst 1, 1) := by decide +kernel
theorem dX0_draw_28 : decode cX0_draw 28 = .ok (.if_icmp .ge 7, 3) := by decide +kernel
theorem dX0_draw_31 : decode cX0_draw 31 = .ok (.iconst 0, 1) := by decide +kernel
theorem dX0_draw_32 : decode cX0_draw 32 = .ok (.goto 12, 3) := by decide +kernel
theorem dX0_draw_35 : decode cX0_draw 35 = .ok (.lload_n 2, 1) := by decide +kernel
theorem dX0_draw_36 : decode cX0_draw 36 = .ok (.ldc2_w 96, 3) := by decide +kernel
theorem dX0_draw_39 : decode cX0_draw 39 = .ok (.ldiv, 1) := by decide +kernel
theorem dX0_draw_40 : decode cX0_draw 40 = .ok (.iload_n 1, 1) := by decide +kernel
theorem dX0_draw_41 : decode cX0_draw 41 = .ok (.i2l, 1) := by decide +kernel
theorem dX0_draw_42 : decode cX0_draw 42 = .ok (.lrem, 1) := by decide +kernel
theorem dX0_draw_43 : decode cX0_draw 43 = .ok (.l2i, 1) := by decide +kernel
theorem dX0_draw_44 : decode cX0_draw 44 = .ok (.ireturn, 1) := by decide +kernel
theorem dX0_placeOf_0 : decode cX0_placeOf 0 = .ok (.aload_n 0, 1) := by decide +kernel
theorem dX0_placeOf_1 : decode cX0_placeOf 1 = .ok (.getfield 15, 3) := by decide +kernel
theorem dX0_placeOf_4 : decode cX0_placeOf 4 = .ok (.iload_n 1, 1) := by decide +kernel
theorem dX0_placeOf_5 : decode cX0_placeOf 5 = .ok (.invokestatic 82, 3) := by decide +kernel
theorem dX0_placeOf_8 : decode cX0_placeOf 8 = .ok (.aload_n 0, 1) := by decide +kernel
theorem dX0_placeOf_9 : decode cX0_placeOf 9 = .ok (.getfield 37, 3) := by decide +kernel
theorem dX0_placeOf_12 : decode cX0_placeOf 12 = .ok (.imul, 1) := by decide +kernel
theorem dX0_placeOf_13 : decode cX0_placeOf 13 = .ok (.aload_n 0, 1) := by decide +kernel
theorem dX0_placeOf_14 : decode cX0_placeOf 14 = .ok (.getfield 9, 3) := by decide +kernel
theorem dX0_placeOf_17 : decode cX0_placeOf 17 = .ok (.iload_n 1, 1) := by decide +kernel
theorem dX0_placeOf_18 : decode cX0_placeOf 18 = .ok (.invokestatic 82, 3) := by decide +kernel
theorem dX0_placeOf_21 : decode cX0_placeOf 21 = .ok (.iadd, 1) := by decide +kernel
theorem dX0_placeOf_22 : decode cX0_placeOf 22 = .ok (.ireturn, 1) := by decide +kernel
theorem dX0_spacing_0 : decode cX0_spacing 0 = .ok (.aload_n 0, 1) := by decide +kernel
theorem dX0_spacing_1 : decode cX0_spacing 1 = .ok (.getfield 9, 3) := by decide +kernel
theorem dX0_spacing_4 : decode cX0_spacing 4 = .ok (.iload_n 1, 1) := by decide +kernel
theorem dX0_spacing_5 : decode cX0_spacing 5 = .ok (.invokestatic 82, 3) := by decide +kernel
theorem dX0_spacing_8 : decode cX0_spacing 8 = .ok (.aload_n 0, 1) := by decide +kernel
theorem dX0_spacing_9 : decode cX0_spacing 9 = .ok (.getfield 9, 3) := by decide +kernel
theorem dX0_spacing_12 : decode cX0_spacing 12 = .ok (.iload_n 2, 1) := by decide +kernel
theorem dX0_spacing_13 : decode cX0_spacing 13 = .ok (.invokestatic 82, 3) := by decide +kernel
theorem dX0_spacing_16 : decode cX0_spacing 16 = .ok (.isub, 1) := by decide +kernel
theorem dX0_spacing_17 : decode cX0_spacing 17 = .ok (.invokestatic 98, 3) := by decide +kernel
theorem dX0_spacing_20 : decode cX0_spacing 20 = .ok (.aload_n 0, 1) := by decide +kernel
theorem dX0_spacing_21 : decode cX0_spacing 21 = .ok (.getfield 15, 3) := by decide +kernel
theorem dX0_spacing_24 : decode cX0_spacing 24 = .ok (.iload_n 1, 1) := by decide +kernel
theorem dX0_spacing_25 : decode cX0_spacing 25 = .ok (.invokestatic 82, 3) := by decide +kernel
theorem dX0_spacing_28 : decode cX0_spacing 28 = .ok (.aload_n 0, 1) := by decide +kernel
theorem dX0_spacing_29 : decode cX0_spacing 29 = .ok (.getfield 15, 3) := by decide +kernel
theorem dX0_spacing_32 : decode cX0_spacing 32 = .ok (.iload_n 2, 1) := by decide +kernel
theorem dX0_spacing_33 : decode cX0_spacing 33 = .ok (.invokestatic 82, 3) := by decide +kernel
theorem dX0_spacing_36 : decode cX0_spacing 36 = .ok (.isub, 1) := by decide +kernel
theorem dX0_spacing_37 : decode cX0_spacing 37 = .ok (.invokestatic 98, 3) := by decide +kernel
theorem dX0_spacing_40 : decode cX0_spacing 40 = .ok (.iadd, 1) := by decide +kernel
theorem dX0_spacing_41 : decode cX0_spacing 41 = .ok (.ireturn, 1) := by decide +kernel
theorem dX0_swapPlaces_0 : decode cX0_swapPlaces 0 = .ok (.aload_n 0, 1) := by decide +kernel
theorem dX0_swapPlaces_1 : decode cX0_swapPlaces 1 = .ok (.getfield 9, 3) := by decide +kernel
theorem dX0_swapPlaces_4 : decode cX0_swapPlaces 4 = .ok (.iload_n 1, 1) := by decide +kernel
theorem dX0_swapPlaces_5 : decode cX0_swapPlaces 5 = .ok (.invokestatic 82, 3) := by decide +kernel
theorem dX0_swapPlaces_8 : decode cX0_swapPlaces 8 = .ok (.istore_n 3, 1) := by decide +kernel
theorem dX0_swapPlaces_9 : decode cX0_swapPlaces 9 = .ok (.aload_n 0, 1) := by decide +kernel
theorem dX0_swapPlaces_10 : decode cX0_swapPlaces 10 = .ok (.getfield 15, 3) := by decide +kernel
theorem dX0_swapPlaces_13 : decode cX0_swapPlaces 13 = .ok (.iload_n 1, 1) := by decide +kernel
theorem dX0_swapPlaces_14 : decode cX0_swapPlaces 14 = .ok (.invokestatic 82, 3) := by decide +kernel
theorem dX0_swapPlaces_17 : decode cX0_swapPlaces 17 = .ok (.istore 4, 2) := by decide +kernel
theorem dX0_swapPlaces_19 : decode cX0_swapPlaces 19 = .ok (.aload_n 0, 1) := by decide +kernel
theorem dX0_swapPlaces_20 : decode cX0_swapPlaces 20 = .ok (.iload_n 1, 1) := by decide +kernel
theorem dX0_swapPlaces_21 : decode cX0_swapPlaces 21 = .ok (.aload_n 0, 1) := by decide +kernel
theorem dX0_swapPlaces_22 : decode cX0_swapPlaces 22 = .ok (.getfield 9, 3) := by decide +kernel
theorem dX0_swapPlaces_25 : decode cX0_swapPlaces 25 = .ok (.iload_n 2, 1) := by decide +kernel
theorem dX0_swapPlaces_26 : decode cX0_swapPlaces 26 = .ok (.invokestatic 82, 3) := by decide +kernel
theorem dX0_swapPlaces_29 : decode cX0_swapPlaces 29 = .ok (.aload_n 0, 1) := by decide +kernel
theorem dX0_swapPlaces_30 : decode cX0_swapPlaces 30 = .ok (.getfield 15, 3) := by decide +kernel
theorem dX0_swapPlaces_33 : decode cX0_swapPlaces 33 = .ok (.iload_n 2, 1) := by decide +kernel
theorem dX0_swapPlaces_34 : decode cX0_swapPlaces 34 = .ok (.invokestatic 82, 3) := by decide +kernel
theorem dX0_swapPlaces_37 : decode cX0_swapPlaces 37 = .ok (.invokevirtual 56, 3) := by decide +kernel
theorem dX0_swapPlaces_40 : decode cX0_swapPlaces 40 = .ok (.aload_n 0, 1) := by decide +kernel
theorem dX0_swapPlaces_41 : decode cX0_swapPlaces 41 = .ok (.iload_n 2, 1) := by decide +kernel
theorem dX0_swapPlaces_42 : decode cX0_swapPlaces 42 = .ok (.iload_n 3, 1) := by decide +kernel
theorem dX0_swapPlaces_43 : decode cX0_swapPlaces 43 = .ok (.iload 4, 2) := by decide +kernel
theorem dX0_swapPlaces_45 : decode cX0_swapPlaces 45 = .ok (.invokevirtual 56, 3) := by decide +kernel
theorem dX0_swapPlaces_48 : decode cX0_swapPlaces 48 = .ok (.return_, 1) := by decide +kernel
theorem dX0_linksOf_0 : decode cX0_linksOf 0 = .ok (.aload_n 0, 1) := by decide +kernel
theorem dX0_linksOf_1 : decode cX0_linksOf 1 = .ok (.getfield 21, 3) := by decide +kernel
theorem dX0_linksOf_4 : decode cX0_linksOf 4 = .ok (.iload_n 1, 1) := by decide +kernel
theorem dX0_linksOf_5 : decode cX0_linksOf 5 = .ok (.invokestatic 82, 3) := by decide +kernel
theorem dX0_linksOf_8 : decode cX0_linksOf 8 = .ok (.ireturn, 1) := by decide +kernel
theorem dX0_linkAt_0 : decode cX0_linkAt 0 = .ok (.aload_n 0, 1) := by decide +kernel
theorem dX0_linkAt_1 : decode cX0_linkAt 1 = .ok (.getfield 24, 3) := by decide +kernel
theorem dX0_linkAt_4 : decode cX0_linkAt 4 = .ok (.iload_n 1, 1) := by decide +kernel
theorem dX0_linkAt_5 : decode cX0_linkAt 5 = .ok (.iconst 3, 1) := by decide +kernel
theorem dX0_linkAt_6 : decode cX0_linkAt 6 = .ok (.imul, 1) := by decide +kernel
theorem dX0_linkAt_7 : decode cX0_linkAt 7 = .ok (.iload_n 2, 1) := by decide +kernel
theorem dX0_linkAt_8 : decode cX0_linkAt 8 = .ok (.iadd, 1) := by decide +kernel
theorem dX0_linkAt_9 : decode cX0_linkAt 9 = .ok (.invokestatic 82, 3) := by decide +kernel
theorem dX0_linkAt_12 : decode cX0_linkAt 12 = .ok (.ireturn, 1) := by decide +kernel
theorem dX0_linkIndex_0 : decode cX0_linkIndex 0 = .ok (.iconst 0, 1) := by decide +kernel
theorem dX0_linkIndex_1 : decode cX0_linkIndex 1 = .ok (.istore_n 3, 1) := by decide +kernel
theorem dX0_linkIndex_2 : decode cX0_linkIndex 2 = .ok (.iload_n 3, 1) := by decide +kernel
theorem dX0_linkIndex_3 : decode cX0_linkIndex 3 = .ok (.aload_n 0, 1) := by decide +kernel
theorem dX0_linkIndex_4 : decode cX0_linkIndex 4 = .ok (.iload_n 1, 1) := by decide +kernel
theorem dX0_linkIndex_5 : decode cX0_linkIndex 5 = .ok (.invokevirtual 103, 3) := by decide +kernel
theorem dX0_linkIndex_8 : decode cX0_linkIndex 8 = .ok (.if_icmp .ge 21, 3) := by decide +kernel
theorem dX0_linkIndex_11 : decode cX0_linkIndex 11 = .ok (.aload_n 0, 1) := by decide +kernel
theorem dX0_linkIndex_12 : decode cX0_linkIndex 12 = .ok (.iload_n 1, 1) := by decide +kernel
theorem dX0_linkIndex_13 : decode cX0_linkIndex 13 = .ok (.iload_n 3, 1) := by decide +kernel
theorem dX0_linkIndex_14 : decode cX0_linkIndex 14 = .ok (.invokevirtual 106, 3) := by decide +kernel
theorem dX0_linkIndex_17 : decode cX0_linkIndex 17 = .ok (.iload_n 2, 1) := by decide +kernel
theorem dX0_linkIndex_18 : decode cX0_linkIndex 18 = .ok (.if_icmp .ne 5, 3) := by decide +kernel
theorem dX0_linkIndex_21 : decode cX0_linkIndex 21 = .ok (.iload_n 3, 1) := by decide +kernel
theorem dX0_linkIndex_22 : decode cX0_linkIndex 22 = .ok (.ireturn, 1) := by decide +kernel
theorem dX0_linkIndex_23 : decode cX0_linkIndex 23 = .ok (.iinc 3 1, 3) := by decide +kernel
theorem dX0_linkIndex_26 : decode cX0_linkIndex 26 = .ok (.goto (-24), 3) := by decide +kernel
theorem dX0_linkIndex_29 : decode cX0_linkIndex 29 = .ok (.iconst (-1), 1) := by decide +kernel
theorem dX0_linkIndex_30 : decode cX0_linkIndex 30 = .ok (.ireturn, 1) := by decide +kernel
theorem dX0_giveLink_0 : decode cX0_giveLink 0 = .ok (.iload_n 1, 1) := by decide +kernel
theorem dX0_giveLink_1 : decode cX0_giveLink 1 = .ok (.iload_n 2, 1) := by decide +kernel
theorem dX0_giveLink_2 : decode cX0_giveLink 2 = .ok (.if_icmp .eq 13, 3) := by decide +kernel
theorem dX0_giveLink_5 : decode cX0_giveLink 5 = .ok (.aload_n 0, 1) := by decide +kernel
theorem dX0_giveLink_6 : decode cX0_giveLink 6 = .ok (.iload_n 1, 1) := by decide +kernel
theorem dX0_giveLink_7 : decode cX0_giveLink 7 = .ok (.iload_n 2, 1) := by decide +kernel
theorem dX0_giveLink_8 : decode cX0_giveLink 8 = .ok (.invokevirtual 110, 3) := by decide +kernel
theorem dX0_giveLink_11 : decode cX0_giveLink 11 = .ok (.iconst (-1), 1) := by decide +kernel
theorem dX0_giveLink_12 : decode cX0_giveLink 12 = .ok (.if_icmp .eq 4, 3) := by decide +kernel
theorem dX0_giveLink_15 : decode cX0_giveLink 15 = .ok (.return_, 1) := by decide +kernel
theorem dX0_giveLink_16 : decode cX0_giveLink 16 = .ok (.aload_n 0, 1) := by decide +kernel
theorem dX0_giveLink_17 : decode cX0_giveLink 17 = .ok (.iload_n 1, 1) := by decide +kernel
theorem dX0_giveLink_18 : decode cX0_giveLink 18 = .ok (.invokevirtual 103, 3) := by decide +kernel
theorem dX0_giveLink_21 : decode cX0_giveLink 21 = .ok (.aload_n 0, 1) := by decide +kernel
theorem dX0_giveLink_22 : decode cX0_giveLink 22 = .ok (.iconst 0, 1) := by decide +kernel
theorem dX0_giveLink_23 : decode cX0_giveLink 23 = .ok (.invokevirtual 88, 3) := by decide +kernel
theorem dX0_giveLink_26 : decode cX0_giveLink 26 = .ok (.if_icmp .lt 9, 3) := by decide +kernel
theorem dX0_giveLink_29 : decode cX0_giveLink 29 = .ok (.aload_n 0, 1) := by decide +kernel
theorem dX0_giveLink_30 : decode cX0_giveLink 30 = .ok (.iload_n 1, 1) := by decide +kernel
theorem dX0_giveLink_31 : decode cX0_giveLink 31 = .ok (.iconst 0, 1) := by decide +kernel
theorem dX0_giveLink_32 : decode cX0_giveLink 32 = .ok (.invokevirtual 113, 3) := by decide +kernel
theorem dX0_giveLink_35 : decode cX0_giveLink 35 = .ok (.aload_n 0, 1) := by decide +kernel
theorem dX0_giveLink_36 : decode cX0_giveLink 36 = .ok (.getfield 24, 3) := by decide +kernel
theorem dX0_giveLink_39 : decode cX0_giveLink 39 = .ok (.iload_n 1, 1) := by decide +kernel
theorem dX0_giveLink_40 : decode cX0_giveLink 40 = .ok (.iconst 3, 1) := by decide +kernel
theorem dX0_giveLink_41 : decode cX0_giveLink 41 = .ok (.imul, 1) := by decide +kernel
theorem dX0_giveLink_42 : decode cX0_giveLink 42 = .ok (.aload_n 0, 1) := by decide +kernel
theorem dX0_giveLink_43 : decode cX0_giveLink 43 = .ok (.iload_n 1, 1) := by decide +kernel
theorem dX0_giveLink_44 : decode cX0_giveLink 44 = .ok (.invokevirtual 103, 3) := by decide +kernel
theorem dX0_giveLink_47 : decode cX0_giveLink 47 = .ok (.iadd, 1) := by decide +kernel
theorem dX0_giveLink_48 : decode cX0_giveLink 48 = .ok (.iload_n 2, 1) := by decide +kernel
theorem dX0_giveLink_49 : decode cX0_giveLink 49 = .ok (.invokestatic 60, 3) := by decide +kernel
theorem dX0_giveLink_52 : decode cX0_giveLink 52 = .ok (.aload_n 0, 1) := by decide +kernel
theorem dX0_giveLink_53 : decode cX0_giveLink 53 = .ok (.getfield 21, 3) := by decide +kernel
theorem dX0_giveLink_56 : decode cX0_giveLink 56 = .ok (.iload_n 1, 1) := by decide +kernel
theorem dX0_giveLink_57 : decode cX0_giveLink 57 = .ok (.aload_n 0, 1) := by decide +kernel
theorem dX0_giveLink_58 : decode cX0_giveLink 58 = .ok (.iload_n 1, 1) := by decide +kernel
theorem dX0_giveLink_59 : decode cX0_giveLink 59 = .ok (.invokevirtual 103, 3) := by decide +kernel
theorem dX0_giveLink_62 : decode cX0_giveLink 62 = .ok (.iconst 1, 1) := by decide +kernel
theorem dX0_giveLink_63 : decode cX0_giveLink 63 = .ok (.iadd, 1) := by decide +kernel
theorem dX0_giveLink_64 : decode cX0_giveLink 64 = .ok (.invokestatic 60, 3) := by decide +kernel
theorem dX0_giveLink_67 : decode cX0_giveLink 67 = .ok (.return_, 1) := by decide +kernel
theorem dX0_takeLink_0 : decode cX0_takeLink 0 = .ok (.iload_n 2, 1) := by decide +kernel
theorem dX0_takeLink_1 : decode cX0_takeLink 1 = .ok (.iconst 1, 1) := by decide +kernel
theorem dX0_takeLink_2 : decode cX0_takeLink 2 = .ok (.iadd, 1) := by decide +kernel
theorem dX0_takeLink_3 : decode cX0_takeLink 3 = .ok (.istore_n 3, 1) := by decide +kernel
theorem dX0_takeLink_4 : decode cX0_takeLink 4 = .ok (.iload_n 3, 1) := by decide +kernel
theorem dX0_takeLink_5 : decode cX0_takeLink 5 = .ok (.aload_n 0, 1) := by decide +kernel
theorem dX0_takeLink_6 : decode cX0_takeLink 6 = .ok (.iload_n 1, 1) := by decide +kernel
theorem dX0_takeLink_7 : decode cX0_takeLink 7 = .ok (.invokevirtual 103, 3) := by decide +kernel
theorem dX0_takeLink_10 : decode cX0_takeLink 10 = .ok (.if_icmp .ge 29, 3) := by decide +kernel
theorem dX0_takeLink_13 : decode cX0_takeLink 13 = .ok (.aload_n 0, 1) := by decide +kernel
theorem dX0_takeLink_14 : decode cX0_takeLink 14 = .ok (.getfield 24, 3) := by decide +kernel
theorem dX0_takeLink_17 : decode cX0_takeLink 17 = .ok (.iload_n 1, 1) := by decide +kernel
theorem dX0_takeLink_18 : decode cX0_takeLink 18 = .ok (.iconst 3, 1) := by decide +kernel
theorem dX0_takeLink_19 : decode cX0_takeLink 19 = .ok (.imul, 1) := by decide +kernel
theorem dX0_takeLink_20 : decode cX0_takeLink 20 = .ok (.iload_n 3, 1) := by decide +kernel
theorem dX0_takeLink_21 : decode cX0_takeLink 21 = .ok (.iadd, 1) := by decide +kernel
theorem dX0_takeLink_22 : decode cX0_takeLink 22 = .ok (.iconst 1, 1) := by decide +kernel
theorem dX0_takeLink_23 : decode cX0_takeLink 23 = .ok (.isub, 1) := by decide +kernel
theorem dX0_takeLink_24 : decode cX0_takeLink 24 = .ok (.aload_n 0, 1) := by decide +kernel
theorem dX0_takeLink_25 : decode cX0_takeLink 25 = .ok (.iload_n 1, 1) := by decide +kernel
theorem dX0_takeLink_26 : decode cX0_takeLink 26 = .ok (.iload_n 3, 1) := by decide +kernel
theorem dX0_takeLink_27 : decode cX0_takeLink 27 = .ok (.invokevirtual 106, 3) := by decide +kernel
theorem dX0_takeLink_30 : decode cX0_takeLink 30 = .ok (.invokestatic 60, 3) := by decide +kernel
theorem dX0_takeLink_33 : decode cX0_takeLink 33 = .ok (.iinc 3 1, 3) := by decide +kernel
theorem dX0_takeLink_36 : decode cX0_takeLink 36 = .ok (.goto (-32), 3) := by decide +kernel
theorem dX0_takeLink_39 : decode cX0_takeLink 39 = .ok (.aload_n 0, 1) := by decide +kernel
theorem dX0_takeLink_40 : decode cX0_takeLink 40 = .ok (.getfield 21, 3) := by decide +kernel
theorem dX0_takeLink_43 : decode cX0_takeLink 43 = .ok (.iload_n 1, 1) := by decide +kernel
theorem dX0_takeLink_44 : decode cX0_takeLink 44 = .ok (.aload_n 0, 1) := by decide +kernel
theorem dX0_takeLink_45 : decode cX0_takeLink 45 = .ok (.iload_n 1, 1) := by decide +kernel
theorem dX0_takeLink_46 : decode cX0_takeLink 46 = .ok (.invokevirtual 103, 3) := by decide +kernel
theorem dX0_takeLink_49 : decode cX0_takeLink 49 = .ok (.iconst 1, 1) := by decide +kernel
theorem dX0_takeLink_50 : decode cX0_takeLink 50 = .ok (.isub, 1) := by decide +kernel
theorem dX0_takeLink_51 : decode cX0_takeLink 51 = .ok (.invokestatic 60, 3) := by decide +kernel
theorem dX0_takeLink_54 : decode cX0_takeLink 54 = .ok (.return_, 1) := by decide +kernel
theorem dX0_linksTo_0 : decode cX0_linksTo 0 = .ok (.iconst 0, 1) := by decide +kernel
theorem dX0_linksTo_1 : decode cX0_linksTo 1 = .ok (.istore_n 2, 1) := by decide +kernel
theorem dX0_linksTo_2 : decode cX0_linksTo 2 = .ok (.iconst 0, 1) := by decide +kernel
theorem dX0_linksTo_3 : decode cX0_linksTo 3 = .ok (.istore_n 3, 1) := by decide +kernel
theorem dX0_linksTo_4 : decode cX0_linksTo 4 = .ok (.iload_n 3, 1) := by decide +kernel
theorem dX0_linksTo_5 : decode cX0_linksTo 5 = .ok (.aload_n 0, 1) := by decide +kernel
theorem dX0_linksTo_6 : decode cX0_linksTo 6 = .ok (.invokevirtual 44, 3) := by decide +kernel
theorem dX0_linksTo_9 : decode cX0_linksTo 9 = .ok (.if_icmp .ge 22, 3) := by decide +kernel
theorem dX0_linksTo_12 : decode cX0_linksTo 12 = .ok (.aload_n 0, 1) := by decide +kernel
theorem dX0_linksTo_13 : decode cX0_linksTo 13 = .ok (.iload_n 3, 1) := by decide +kernel
theorem dX0_linksTo_14 : decode cX0_linksTo 14 = .ok (.iload_n 1, 1) := by decide +kernel
theorem dX0_linksTo_15 : decode cX0_linksTo 15 = .ok (.invokevirtual 110, 3) := by decide +kernel
theorem dX0_linksTo_18 : decode cX0_linksTo 18 = .ok (.iconst (-1), 1) := by decide +kernel
theorem dX0_linksTo_19 : decode cX0_linksTo 19 = .ok (.if_icmp .eq 6, 3) := by decide +kernel
theorem dX0_linksTo_22 : decode cX0_linksTo 22 = .ok (.iinc 2 1, 3) := by decide +kernel
theorem dX0_linksTo_25 : decode cX0_linksTo 25 = .ok (.iinc 3 1, 3) := by decide +kernel
theorem dX0_linksTo_28 : decode cX0_linksTo 28 = .ok (.goto (-24), 3) := by decide +kernel
theorem dX0_linksTo_31 : decode cX0_linksTo 31 = .ok (.iload_n 2, 1) := by decide +kernel
theorem dX0_linksTo_32 : decode cX0_linksTo 32 = .ok (.ireturn, 1) := by decide +kernel
theorem dX0_countOfLinks_0 : decode cX0_countOfLinks 0 = .ok (.iconst 0, 1) := by decide +kernel
theorem dX0_countOfLinks_1 : decode cX0_countOfLinks 1 = .ok (.istore_n 1, 1) := by decide +kernel
theorem dX0_countOfLinks_2 : decode cX0_countOfLinks 2 = .ok (.iconst 0, 1) := by decide +kernel
theorem dX0_countOfLinks_3 : decode cX0_countOfLinks 3 = .ok (.istore_n 2, 1) := by decide +kernel
theorem dX0_countOfLinks_4 : decode cX0_countOfLinks 4 = .ok (.iload_n 2, 1) := by decide +kernel
theorem dX0_countOfLinks_5 : decode cX0_countOfLinks 5 = .ok (.aload_n 0, 1) := by decide +kernel
theorem dX0_countOfLinks_6 : decode cX0_countOfLinks 6 = .ok (.invokevirtual 44, 3) := by decide +kernel
theorem dX0_countOfLinks_9 : decode cX0_countOfLinks 9 = .ok (.if_icmp .ge 17, 3) := by decide +kernel
theorem dX0_countOfLinks_12 : decode cX0_countOfLinks 12 = .ok (.iload_n 1, 1) := by decide +kernel
theorem dX0_countOfLinks_13 : decode cX0_countOfLinks 13 = .ok (.aload_n 0, 1) := by decide +kernel
theorem dX0_countOfLinks_14 : decode cX0_countOfLinks 14 = .ok (.iload_n 2, 1) := by decide +kernel
theorem dX0_countOfLinks_15 : decode cX0_countOfLinks 15 = .ok (.invokevirtual 103, 3) := by decide +kernel
theorem dX0_countOfLinks_18 : decode cX0_countOfLinks 18 = .ok (.iadd, 1) := by decide +kernel
theorem dX0_countOfLinks_19 : decode cX0_countOfLinks 19 = .ok (.istore_n 1, 1) := by decide +kernel
theorem dX0_countOfLinks_20 : decode cX0_countOfLinks 20 = .ok (.iinc 2 1, 3) := by decide +kernel
theorem dX0_countOfLinks_23 : decode cX0_countOfLinks 23 = .ok (.goto (-19), 3) := by decide +kernel
theorem dX0_countOfLinks_26 : decode cX0_countOfLinks 26 = .ok (.iload_n 1, 1) := by decide +kernel
theorem dX0_countOfLinks_27 : decode cX0_countOfLinks 27 = .ok (.ireturn, 1) := by decide +kernel
theorem dX0_lengthOfLinks_0 : decode cX0_lengthOfLinks 0 = .ok (.iconst 0, 1) := by decide +kernel
theorem dX0_lengthOfLinks_1 : decode cX0_lengthOfLinks 1 = .ok (.istore_n 1, 1) := by decide +kernel
theorem dX0_lengthOfLinks_2 : decode cX0_lengthOfLinks 2 = .ok (.iconst 0, 1) := by decide +kernel
theorem dX0_lengthOfLinks_3 : decode cX0_lengthOfLinks 3 = .ok (.istore_n 2, 1) := by decide +kernel
theorem dX0_lengthOfLinks_4 : decode cX0_lengthOfLinks 4 = .ok (.iload_n 2, 1) := by decide +kernel
theorem dX0_lengthOfLinks_5 : decode cX0_lengthOfLinks 5 = .ok (.aload_n 0, 1) := by decide +kernel
theorem dX0_lengthOfLinks_6 : decode cX0_lengthOfLinks 6 = .ok (.invokevirtual 44, 3) := by decide +kernel
theorem dX0_lengthOfLinks_9 : decode cX0_lengthOfLinks 9 = .ok (.if_icmp .ge 40, 3) := by decide +kernel
theorem dX0_lengthOfLinks_12 : decode cX0_lengthOfLinks 12 = .ok (.iconst 0, 1) := by decide +kernel
theorem dX0_lengthOfLinks_13 : decode cX0_lengthOfLinks 13 = .ok (.istore_n 3, 1) := by decide +kernel
theorem dX0_lengthOfLinks_14 : decode cX0_lengthOfLinks 14 = .ok (.iload_n 3, 1) := by decide +kernel
theorem dX0_lengthOfLinks_15 : decode cX0_lengthOfLinks 15 = .ok (.aload_n 0, 1) := by decide +kernel
theorem dX0_lengthOfLinks_16 : decode cX0_lengthOfLinks 16 = .ok (.iload_n 2, 1) := by decide +kernel
theorem dX0_lengthOfLinks_17 : decode cX0_lengthOfLinks 17 = .ok (.invokevirtual 103, 3) := by decide +kernel
theorem dX0_lengthOfLinks_20 : decode cX0_lengthOfLinks 20 = .ok (.if_icmp .ge 23, 3) := by decide +kernel
theorem dX0_lengthOfLinks_23 : decode cX0_lengthOfLinks 23 = .ok (.iload_n 1, 1) := by decide +kernel
theorem dX0_lengthOfLinks_24 : decode cX0_lengthOfLinks 24 = .ok (.aload_n 0, 1) := by decide +kernel
theorem dX0_lengthOfLinks_25 : decode cX0_lengthOfLinks 25 = .ok (.iload_n 2, 1) := by decide +kernel
theorem dX0_lengthOfLinks_26 : decode cX0_lengthOfLinks 26 = .ok (.aload_n 0, 1) := by decide +kernel
theorem dX0_lengthOfLinks_27 : decode cX0_lengthOfLinks 27 = .ok (.iload_n 2, 1) := by decide +kernel
theorem dX0_lengthOfLinks_28 : decode cX0_lengthOfLinks 28 = .ok (.iload_n 3, 1) := by decide +kernel
theorem dX0_lengthOfLinks_29 : decode cX0_lengthOfLinks 29 = .ok (.invokevirtual 106, 3) := by decide +kernel
theorem dX0_lengthOfLinks_32 : decode cX0_lengthOfLinks 32 = .ok (.invokevirtual 116, 3) := by decide +kernel
theorem dX0_lengthOfLinks_35 : decode cX0_lengthOfLinks 35 = .ok (.iadd, 1) := by decide +kernel
theorem dX0_lengthOfLinks_36 : decode cX0_lengthOfLinks 36 = .ok (.istore_n 1, 1) := by decide +kernel
theorem dX0_lengthOfLinks_37 : decode cX0_lengthOfLinks 37 = .ok (.iinc 3 1, 3) := by decide +kernel
theorem dX0_lengthOfLinks_40 : decode cX0_lengthOfLinks 40 = .ok (.goto (-26), 3) := by decide +kernel
theorem dX0_lengthOfLinks_43 : decode cX0_lengthOfLinks 43 = .ok (.iinc 2 1, 3) := by decide +kernel
theorem dX0_lengthOfLinks_46 : decode cX0_lengthOfLinks 46 = .ok (.goto (-42), 3) := by decide +kernel
theorem dX0_lengthOfLinks_49 : decode cX0_lengthOfLinks 49 = .ok (.iload_n 1, 1) := by decide +kernel
theorem dX0_lengthOfLinks_50 : decode cX0_lengthOfLinks 50 = .ok (.ireturn, 1) := by decide +kernel
theorem dX0_putAway_0 : decode cX0_putAway 0 = .ok (.aload_n 0, 1) := by decide +kernel
theorem dX0_putAway_1 : decode cX0_putAway 1 = .ok (.iload_n 1, 1) := by decide +kernel
theorem dX0_putAway_2 : decode cX0_putAway 2 = .ok (.invokevirtual 103, 3) := by decide +kernel
theorem dX0_putAway_5 : decode cX0_putAway 5 = .ok (.istore_n 2, 1) := by decide +kernel
theorem dX0_putAway_6 : decode cX0_putAway 6 = .ok (.aload_n 0, 1) := by decide +kernel
theorem dX0_putAway_7 : decode cX0_putAway 7 = .ok (.getfield 21, 3) := by decide +kernel
theorem dX0_putAway_10 : decode cX0_putAway 10 = .ok (.iload_n 1, 1) := by decide +kernel
theorem dX0_putAway_11 : decode cX0_putAway 11 = .ok (.iconst 0, 1) := by decide +kernel
theorem dX0_putAway_12 : decode cX0_putAway 12 = .ok (.invokestatic 60, 3) := by decide +kernel
theorem dX0_putAway_15 : decode cX0_putAway 15 = .ok (.iconst 0, 1) := by decide +kernel
theorem dX0_putAway_16 : decode cX0_putAway 16 = .ok (.istore_n 3, 1) := by decide +kernel
theorem dX0_putAway_17 : decode cX0_putAway 17 = .ok (.iload_n 3, 1) := by decide +kernel
theorem dX0_putAway_18 : decode cX0_putAway 18 = .ok (.aload_n 0, 1) := by decide +kernel
theorem dX0_putAway_19 : decode cX0_putAway 19 = .ok (.invokevirtual 44, 3) := by decide +kernel
theorem dX0_putAway_22 : decode cX0_putAway 22 = .ok (.if_icmp .ge 33, 3) := by decide +kernel
theorem dX0_putAway_25 : decode cX0_putAway 25 = .ok (.aload_n 0, 1) := by decide +kernel
theorem dX0_putAway_26 : decode cX0_putAway 26 = .ok (.iload_n 3, 1) := by decide +kernel
theorem dX0_putAway_27 : decode cX0_putAway 27 = .ok (.iload_n 1, 1) := by decide +kernel
theorem dX0_putAway_28 : decode cX0_putAway 28 = .ok (.invokevirtual 110, 3) := by decide +kernel
theorem dX0_putAway_31 : decode cX0_putAway 31 = .ok (.istore 4, 2) := by decide +kernel
theorem dX0_putAway_33 : decode cX0_putAway 33 = .ok (.iload 4, 2) := by decide +kernel
theorem dX0_putAway_35 : decode cX0_putAway 35 = .ok (.iconst (-1), 1) := by decide +kernel
theorem dX0_putAway_36 : decode cX0_putAway 36 = .ok (.if_icmp .eq 13, 3) := by decide +kernel
theorem dX0_putAway_39 : decode cX0_putAway 39 = .ok (.aload_n 0, 1) := by decide +kernel
theorem dX0_putAway_40 : decode cX0_putAway 40 = .ok (.iload_n 3, 1) := by decide +kernel
theorem dX0_putAway_41 : decode cX0_putAway 41 = .ok (.iload 4, 2) := by decide +kernel
theorem dX0_putAway_43 : decode cX0_putAway 43 = .ok (.invokevirtual 113, 3) := by decide +kernel
theorem dX0_putAway_46 : decode cX0_putAway 46 = .ok (.iinc 2 1, 3) := by decide +kernel
theorem dX0_putAway_49 : decode cX0_putAway 49 = .ok (.iinc 3 1, 3) := by decide +kernel
theorem dX0_putAway_52 : decode cX0_putAway 52 = .ok (.goto (-35), 3) := by decide +kernel
theorem dX0_putAway_55 : decode cX0_putAway 55 = .ok (.aload_n 0, 1) := by decide +kernel
theorem dX0_putAway_56 : decode cX0_putAway 56 = .ok (.dup, 1) := by decide +kernel
theorem dX0_putAway_57 : decode cX0_putAway 57 = .ok (.getfield 52, 3) := by decide +kernel
theorem dX0_putAway_60 : decode cX0_putAway 60 = .ok (.iload_n 1, 1) := by decide +kernel
theorem dX0_putAway_61 : decode cX0_putAway 61 = .ok (.invokestatic 48, 3) := by decide +kernel
theorem dX0_putAway_64 : decode cX0_putAway 64 = .ok (.ldc2_w 119, 3) := by decide +kernel
theorem dX0_putAway_67 : decode cX0_putAway 67 = .ok (.lxor, 1) := by decide +kernel
theorem dX0_putAway_68 : decode cX0_putAway 68 = .ok (.land, 1) := by decide +kernel
theorem dX0_putAway_69 : decode cX0_putAway 69 = .ok (.putfield 52, 3) := by decide +kernel
theorem dX0_putAway_72 : decode cX0_putAway 72 = .ok (.iload_n 2, 1) := by decide +kernel
theorem dX0_putAway_73 : decode cX0_putAway 73 = .ok (.ireturn, 1) := by decide +kernel
theorem dX0_putIn_0 : decode cX0_putIn 0 = .ok (.aload_n 0, 1) := by decide +kernel
theorem dX0_putIn_1 : decode cX0_putIn 1 = .ok (.dup, 1) := by decide +kernel
theorem dX0_putIn_2 : decode cX0_putIn 2 = .ok (.getfield 52, 3) := by decide +kernel
theorem dX0_putIn_5 : decode cX0_putIn 5 = .ok (.iload_n 1, 1) := by decide +kernel
theorem dX0_putIn_6 : decode cX0_putIn 6 = .ok (.invokestatic 48, 3) := by decide +kernel
theorem dX0_putIn_9 : decode cX0_putIn 9 = .ok (.lor, 1) := by decide +kernel
theorem dX0_putIn_10 : decode cX0_putIn 10 = .ok (.putfield 52, 3) := by decide +kernel
theorem dX0_putIn_13 : decode cX0_putIn 13 = .ok (.return_, 1) := by decide +kernel
theorem dX0_neighborsOf_0 : decode cX0_neighborsOf 0 = .ok (.aload_n 0, 1) := by decide +kernel
theorem dX0_neighborsOf_1 : decode cX0_neighborsOf 1 = .ok (.getfield 9, 3) := by decide +kernel
theorem dX0_neighborsOf_4 : decode cX0_neighborsOf 4 = .ok (.iload_n 1, 1) := by decide +kernel
theorem dX0_neighborsOf_5 : decode cX0_neighborsOf 5 = .ok (.invokestatic 82, 3) := by decide +kernel
theorem dX0_neighborsOf_8 : decode cX0_neighborsOf 8 = .ok (.istore_n 2, 1) := by decide +kernel
theorem dX0_neighborsOf_9 : decode cX0_neighborsOf 9 = .ok (.aload_n 0, 1) := by decide +kernel
theorem dX0_neighborsOf_10 : decode cX0_neighborsOf 10 = .ok (.getfield 15, 3) := by decide +kernel
theorem dX0_neighborsOf_13 : decode cX0_neighborsOf 13 = .ok (.iload_n 1, 1) := by decide +kernel
theorem dX0_neighborsOf_14 : decode cX0_neighborsOf 14 = .ok (.invokestatic 82, 3) := by decide +kernel
theorem dX0_neighborsOf_17 : decode cX0_neighborsOf 17 = .ok (.istore_n 3, 1) := by decide +kernel
theorem dX0_neighborsOf_18 : decode cX0_neighborsOf 18 = .ok (.aload_n 0, 1) := by decide +kernel
theorem dX0_neighborsOf_19 : decode cX0_neighborsOf 19 = .ok (.getfield 52, 3) := by decide +kernel
theorem dX0_neighborsOf_22 : decode cX0_neighborsOf 22 = .ok (.aload_n 0, 1) := by decide +kernel
theorem dX0_neighborsOf_23 : decode cX0_neighborsOf 23 = .ok (.iload_n 2, 1) := by decide +kernel
theorem dX0_neighborsOf_24 : decode cX0_neighborsOf 24 = .ok (.iconst 1, 1) := by decide +kernel
theorem dX0_neighborsOf_25 : decode cX0_neighborsOf 25 = .ok (.isub, 1) := by decide +kernel
theorem dX0_neighborsOf_26 : decode cX0_neighborsOf 26 = .ok (.iload_n 3, 1) := by decide +kernel
theorem dX0_neighborsOf_27 : decode cX0_neighborsOf 27 = .ok (.invokevirtual 121, 3) := by decide +kernel
theorem dX0_neighborsOf_30 : decode cX0_neighborsOf 30 = .ok (.aload_n 0, 1) := by decide +kernel
theorem dX0_neighborsOf_31 : decode cX0_neighborsOf 31 = .ok (.iload_n 2, 1) := by decide +kernel
theorem dX0_neighborsOf_32 : decode cX0_neighborsOf 32 = .ok (.iconst 1, 1) := by decide +kernel
theorem dX0_neighborsOf_33 : decode cX0_neighborsOf 33 = .ok (.iadd, 1) := by decide +kernel
theorem dX0_neighborsOf_34 : decode cX0_neighborsOf 34 = .ok (.iload_n 3, 1) := by decide +kernel
theorem dX0_neighborsOf_35 : decode cX0_neighborsOf 35 = .ok (.invokevirtual 121, 3) := by decide +kernel
theorem dX0_neighborsOf_38 : decode cX0_neighborsOf 38 = .ok (.lor, 1) := by decide +kernel
theorem dX0_neighborsOf_39 : decode cX0_neighborsOf 39 = .ok (.aload_n 0, 1) := by decide +kernel
theorem dX0_neighborsOf_40 : decode cX0_neighborsOf 40 = .ok (.iload_n 2, 1) := by decide +kernel
theorem dX0_neighborsOf_41 : decode cX0_neighborsOf 41 = .ok (.iload_n 3, 1) := by decide +kernel
theorem dX0_neighborsOf_42 : decode cX0_neighborsOf 42 = .ok (.iconst 1, 1) := by decide +kernel
theorem dX0_neighborsOf_43 : decode cX0_neighborsOf 43 = .ok (.isub, 1) := by decide +kernel
theorem dX0_neighborsOf_44 : decode cX0_neighborsOf 44 = .ok (.invokevirtual 121, 3) := by decide +kernel
theorem dX0_neighborsOf_47 : decode cX0_neighborsOf 47 = .ok (.lor, 1) := by decide +kernel
theorem dX0_neighborsOf_48 : decode cX0_neighborsOf 48 = .ok (.aload_n 0, 1) := by decide +kernel
theorem dX0_neighborsOf_49 : decode cX0_neighborsOf 49 = .ok (.iload_n 2, 1) := by decide +kernel
theorem dX0_neighborsOf_50 : decode cX0_neighborsOf 50 = .ok (.iload_n 3, 1) := by decide +kernel
theorem dX0_neighborsOf_51 : decode cX0_neighborsOf 51 = .ok (.iconst 1, 1) := by decide +kernel
theorem dX0_neighborsOf_52 : decode cX0_neighborsOf 52 = .ok (.iadd, 1) := by decide +kernel
theorem dX0_neighborsOf_53 : decode cX0_neighborsOf 53 = .ok (.invokevirtual 121, 3) := by decide +kernel
theorem dX0_neighborsOf_56 : decode cX0_neighborsOf 56 = .ok (.lor, 1) := by decide +kernel
theorem dX0_neighborsOf_57 : decode cX0_neighborsOf 57 = .ok (.land, 1) := by decide +kernel
theorem dX0_neighborsOf_58 : decode cX0_neighborsOf 58 = .ok (.lreturn, 1) := by decide +kernel
theorem dX0_standingAt_0 : decode cX0_standingAt 0 = .ok (.iload_n 1, 1) := by decide +kernel
theorem dX0_standingAt_1 : decode cX0_standingAt 1 = .ok (.ifCond .lt 23, 3) := by decide +kernel
theorem dX0_standingAt_4 : decode cX0_standingAt 4 = .ok (.iload_n 1, 1) := by decide +kernel
theorem dX0_standingAt_5 : decode cX0_standingAt 5 = .ok (.aload_n 0, 1) := by decide +kernel
theorem dX0_standingAt_6 : decode cX0_standingAt 6 = .ok (.getfield 37, 3) := by decide +kernel
theorem dX0_standingAt_9 : decode cX0_standingAt 9 = .ok (.if_icmp .ge 15, 3) := by decide +kernel
theorem dX0_standingAt_12 : decode cX0_standingAt 12 = .ok (.iload_n 2, 1) := by decide +kernel
theorem dX0_standingAt_13 : decode cX0_standingAt 13 = .ok (.ifCond .lt 11, 3) := by decide +kernel
theorem dX0_standingAt_16 : decode cX0_standingAt 16 = .ok (.iload_n 2, 1) := by decide +kernel
theorem dX0_standingAt_17 : decode cX0_standingAt 17 = .ok (.aload_n 0, 1) := by decide +kernel
theorem dX0_standingAt_18 : decode cX0_standingAt 18 = .ok (.getfield 41, 3) := by decide +kernel
theorem dX0_standingAt_21 : decode cX0_standingAt 21 = .ok (.if_icmp .lt 5, 3) := by decide +kernel
theorem dX0_standingAt_24 : decode cX0_standingAt 24 = .ok (.lconst 0, 1) := by decide +kernel
theorem dX0_standingAt_25 : decode cX0_standingAt 25 = .ok (.lreturn, 1) := by decide +kernel
theorem dX0_standingAt_26 : decode cX0_standingAt 26 = .ok (.iload_n 2, 1) := by decide +kernel
theorem dX0_standingAt_27 : decode cX0_standingAt 27 = .ok (.aload_n 0, 1) := by decide +kernel
theorem dX0_standingAt_28 : decode cX0_standingAt 28 = .ok (.getfield 37, 3) := by decide +kernel
theorem dX0_standingAt_31 : decode cX0_standingAt 31 = .ok (.imul, 1) := by decide +kernel
theorem dX0_standingAt_32 : decode cX0_standingAt 32 = .ok (.iload_n 1, 1) := by decide +kernel
theorem dX0_standingAt_33 : decode cX0_standingAt 33 = .ok (.iadd, 1) := by decide +kernel
theorem dX0_standingAt_34 : decode cX0_standingAt 34 = .ok (.istore_n 3, 1) := by decide +kernel
theorem dX0_standingAt_35 : decode cX0_standingAt 35 = .ok (.iload_n 3, 1) := by decide +kernel
theorem dX0_standingAt_36 : decode cX0_standingAt 36 = .ok (.ifCond .lt 23, 3) := by decide +kernel
theorem dX0_standingAt_39 : decode cX0_standingAt 39 = .ok (.iload_n 3, 1) := by decide +kernel
theorem dX0_standingAt_40 : decode cX0_standingAt 40 = .ok (.aload_n 0, 1) := by decide +kernel
theorem dX0_standingAt_41 : decode cX0_standingAt 41 = .ok (.getfield 18, 3) := by decide +kernel
theorem dX0_standingAt_44 : decode cX0_standingAt 44 = .ok (.arraylength, 1) := by decide +kernel
theorem dX0_standingAt_45 : decode cX0_standingAt 45 = .ok (.if_icmp .ge 14, 3) := by decide +kernel
theorem dX0_standingAt_48 : decode cX0_standingAt 48 = .ok (.lconst 1, 1) := by decide +kernel
theorem dX0_standingAt_49 : decode cX0_standingAt 49 = .ok (.aload_n 0, 1) := by decide +kernel
theorem dX0_standingAt_50 : decode cX0_standingAt 50 = .ok (.getfield 18, 3) := by decide +kernel
theorem dX0_standingAt_53 : decode cX0_standingAt 53 = .ok (.iload_n 3, 1) := by decide +kernel
theorem dX0_standingAt_54 : decode cX0_standingAt 54 = .ok (.iaload, 1) := by decide +kernel
theorem dX0_standingAt_55 : decode cX0_standingAt 55 = .ok (.lshl, 1) := by decide +kernel
theorem dX0_standingAt_56 : decode cX0_standingAt 56 = .ok (.goto 4, 3) := by decide +kernel
theorem dX0_standingAt_59 : decode cX0_standingAt 59 = .ok (.lconst 0, 1) := by decide +kernel
theorem dX0_standingAt_60 : decode cX0_standingAt 60 = .ok (.lreturn, 1) := by decide +kernel
theorem dX0_contactsOf_0 : decode cX0_contactsOf 0 = .ok (.aload_n 0, 1) := by decide +kernel
theorem dX0_contactsOf_1 : decode cX0_contactsOf 1 = .ok (.iload_n 1, 1) := by decide +kernel
theorem dX0_contactsOf_2 : decode cX0_contactsOf 2 = .ok (.invokevirtual 125, 3) := by decide +kernel
theorem dX0_contactsOf_5 : decode cX0_contactsOf 5 = .ok (.lstore_n 2, 1) := by decide +kernel
theorem dX0_contactsOf_6 : decode cX0_contactsOf 6 = .ok (.iconst 0, 1) := by decide +kernel
theorem dX0_contactsOf_7 : decode cX0_contactsOf 7 = .ok (.istore 4, 2) := by decide +kernel
theorem dX0_contactsOf_9 : decode cX0_contactsOf 9 = .ok (.iload 4, 2) := by decide +kernel
theorem dX0_contactsOf_11 : decode cX0_contactsOf 11 = .ok (.aload_n 0, 1) := by decide +kernel
theorem dX0_contactsOf_12 : decode cX0_contactsOf 12 = .ok (.iload_n 1, 1) := by decide +kernel
theorem dX0_contactsOf_13 : decode cX0_contactsOf 13 = .ok (.invokevirtual 103, 3) := by decide +kernel
theorem dX0_contactsOf_16 : decode cX0_contactsOf 16 = .ok (.if_icmp .ge 22, 3) := by decide +kernel
theorem dX0_contactsOf_19 : decode cX0_contactsOf 19 = .ok (.lload_n 2, 1) := by decide +kernel
theorem dX0_contactsOf_20 : decode cX0_contactsOf 20 = .ok (.aload_n 0, 1) := by decide +kernel
theorem dX0_contactsOf_21 : decode cX0_contactsOf 21 = .ok (.iload_n 1, 1) := by decide +kernel
theorem dX0_contactsOf_22 : decode cX0_contactsOf 22 = .ok (.iload 4, 2) := by decide +kernel
theorem dX0_contactsOf_24 : decode cX0_contactsOf 24 = .ok (.invokevirtual 106, 3) := by decide +kernel
theorem dX0_contactsOf_27 : decode cX0_contactsOf 27 = .ok (.invokestatic 48, 3) := by decide +kernel
theorem dX0_contactsOf_30 : decode cX0_contactsOf 30 = .ok (.lor, 1) := by decide +kernel
theorem dX0_contactsOf_31 : decode cX0_contactsOf 31 = .ok (.lstore_n 2, 1) := by decide +kernel
theorem dX0_contactsOf_32 : decode cX0_contactsOf 32 = .ok (.iinc 4 1, 3) := by decide +kernel
theorem dX0_contactsOf_35 : decode cX0_contactsOf 35 = .ok (.goto (-26), 3) := by decide +kernel
theorem dX0_contactsOf_38 : decode cX0_contactsOf 38 = .ok (.lload_n 2, 1) := by decide +kernel
theorem dX0_contactsOf_39 : decode cX0_contactsOf 39 = .ok (.lreturn, 1) := by decide +kernel
theorem dX0_drawTarget_0 : decode cX0_drawTarget 0 = .ok (.aload_n 0, 1) := by decide +kernel
theorem dX0_drawTarget_1 : decode cX0_drawTarget 1 = .ok (.getfield 52, 3) := by decide +kernel
theorem dX0_drawTarget_4 : decode cX0_drawTarget 4 = .ok (.aload_n 0, 1) := by decide +kernel
theorem dX0_drawTarget_5 : decode cX0_drawTarget 5 = .ok (.iload_n 1, 1) := by decide +kernel
theorem dX0_drawTarget_6 : decode cX0_drawTarget 6 = .ok (.invokevirtual 128, 3) := by decide +kernel
theorem dX0_drawTarget_9 : decode cX0_drawTarget 9 = .ok (.ldc2_w 119, 3) := by decide +kernel
theorem dX0_drawTarget_12 : decode cX0_drawTarget 12 = .ok (.lxor, 1) := by decide +kernel
theorem dX0_drawTarget_13 : decode cX0_drawTarget 13 = .ok (.land, 1) := by decide +kernel
theorem dX0_drawTarget_14 : decode cX0_drawTarget 14 = .ok (.iload_n 1, 1) := by decide +kernel
theorem dX0_drawTarget_15 : decode cX0_drawTarget 15 = .ok (.invokestatic 48, 3) := by decide +kernel
theorem dX0_drawTarget_18 : decode cX0_drawTarget 18 = .ok (.ldc2_w 119, 3) := by decide +kernel
theorem dX0_drawTarget_21 : decode cX0_drawTarget 21 = .ok (.lxor, 1) := by decide +kernel
theorem dX0_drawTarget_22 : decode cX0_drawTarget 22 = .ok (.land, 1) := by decide +kernel
theorem dX0_drawTarget_23 : decode cX0_drawTarget 23 = .ok (.lstore_n 3, 1) := by decide +kernel
theorem dX0_drawTarget_24 : decode cX0_drawTarget 24 = .ok (.iconst 0, 1) := by decide +kernel
theorem dX0_drawTarget_25 : decode cX0_drawTarget 25 = .ok (.istore 5, 2) := by decide +kernel
theorem dX0_drawTarget_27 : decode cX0_drawTarget 27 = .ok (.iconst 0, 1) := by decide +kernel
theorem dX0_drawTarget_28 : decode cX0_drawTarget 28 = .ok (.istore 6, 2) := by decide +kernel
theorem dX0_drawTarget_30 : decode cX0_drawTarget 30 = .ok (.iload 6, 2) := by decide +kernel
theorem dX0_drawTarget_32 : decode cX0_drawTarget 32 = .ok (.aload_n 0, 1) := by decide +kernel
theorem dX0_drawTarget_33 : decode cX0_drawTarget 33 = .ok (.invokevirtual 44, 3) := by decide +kernel
theorem dX0_drawTarget_36 : decode cX0_drawTarget 36 = .ok (.if_icmp .ge 38, 3) := by decide +kernel
theorem dX0_drawTarget_39 : decode cX0_drawTarget 39 = .ok (.iload 5, 2) := by decide +kernel
theorem dX0_drawTarget_41 : decode cX0_drawTarget 41 = .ok (.lload_n 3, 1) := by decide +kernel
theorem dX0_drawTarget_42 : decode cX0_drawTarget 42 = .ok (.iload 6, 2) := by decide +kernel
theorem dX0_drawTarget_44 : decode cX0_drawTarget 44 = .ok (.invokestatic 72, 3) := by decide +kernel
theorem dX0_drawTarget_47 : decode cX0_drawTarget 47 = .ok (.ifCond .eq 17, 3) := by decide +kernel
theorem dX0_drawTarget_50 : decode cX0_drawTarget 50 = .ok (.aload_n 0, 1) := by decide +kernel
theorem dX0_drawTarget_51 : decode cX0_drawTarget 51 = .ok (.iload_n 1, 1) := by decide +kernel
theorem dX0_drawTarget_52 : decode cX0_drawTarget 52 = .ok (.iload 6, 2) := by decide +kernel
theorem dX0_drawTarget_54 : decode cX0_drawTarget 54 = .ok (.invokevirtual 116, 3) := by decide +kernel
theorem dX0_drawTarget_57 : decode cX0_drawTarget 57 = .ok (.iload_n 2, 1) := by decide +kernel
theorem dX0_drawTarget_58 : decode cX0_drawTarget 58 = .ok (.invokestatic 131, 3) := by decide +kernel
theorem dX0_drawTarget_61 : decode cX0_drawTarget 61 = .ok (.goto 4, 3) := by decide +kernel
theorem dX0_drawTarget_64 : decode cX0_drawTarget 64 = .ok (.iconst 0, 1) := by decide +kernel
theorem dX0_drawTarget_65 : decode cX0_drawTarget 65 = .ok (.iadd, 1) := by decide +kernel
theorem dX0_drawTarget_66 : decode cX0_drawTarget 66 = .ok (.istore 5, 2) := by decide +kernel
theorem dX0_drawTarget_68 : decode cX0_drawTarget 68 = .ok (.iinc 6 1, 3) := by decide +kernel
theorem dX0_drawTarget_71 : decode cX0_drawTarget 71 = .ok (.goto (-41), 3) := by decide +kernel
theorem dX0_drawTarget_74 : decode cX0_drawTarget 74 = .ok (.iload 5, 2) := by decide +kernel
theorem dX0_drawTarget_76 : decode cX0_drawTarget 76 = .ok (.iconst 1, 1) := by decide +kernel
theorem dX0_drawTarget_77 : decode cX0_drawTarget 77 = .ok (.if_icmp .ge 6, 3) := by decide +kernel
theorem dX0_drawTarget_80 : decode cX0_drawTarget 80 = .ok (.bipush (-9), 2) := by decide +kernel
theorem dX0_drawTarget_82 : decode cX0_drawTarget 82 = .ok (.ireturn, 1) := by decide +kernel
theorem dX0_drawTarget_83 : decode cX0_drawTarget 83 = .ok (.aload_n 0, 1) := by decide +kernel
theorem dX0_drawTarget_84 : decode cX0_drawTarget 84 = .ok (.iload 5, 2) := by decide +kernel
theorem dX0_drawTarget_86 : decode cX0_drawTarget 86 = .ok (.invokevirtual 134, 3) := by decide +kernel
theorem dX0_drawTarget_89 : decode cX0_drawTarget 89 = .ok (.istore 6, 2) := by decide +kernel
theorem dX0_drawTarget_91 : decode cX0_drawTarget 91 = .ok (.iconst 0, 1) := by decide +kernel
theorem dX0_drawTarget_92 : decode cX0_drawTarget 92 = .ok (.istore 7, 2) := by decide +kernel
theorem dX0_drawTarget_94 : decode cX0_drawTarget 94 = .ok (.iconst 0, 1) := by decide +kernel
theorem dX0_drawTarget_95 : decode cX0_drawTarget 95 = .ok (.istore 8, 2) := by decide +kernel
theorem dX0_drawTarget_97 : decode cX0_drawTarget 97 = .ok (.iload 8, 2) := by decide +kernel
theorem dX0_drawTarget_99 : decode cX0_drawTarget 99 = .ok (.aload_n 0, 1) := by decide +kernel
theorem dX0_drawTarget_100 : decode cX0_drawTarget 100 = .ok (.invokevirtual 44, 3) := by decide +kernel
theorem dX0_drawTarget_103 : decode cX0_drawTarget 103 = .ok (.if_icmp .ge 48, 3) := by decide +kernel
theorem dX0_drawTarget_106 : decode cX0_drawTarget 106 = .ok (.iload 7, 2) := by decide +kernel
theorem dX0_drawTarget_108 : decode cX0_drawTarget 108 = .ok (.lload_n 3, 1) := by decide +kernel
theorem dX0_drawTarget_109 : decode cX0_drawTarget 109 = .ok (.iload 8, 2) := by decide +kernel
theorem dX0_drawTarget_111 : decode cX0_drawTarget 111 = .ok (.invokestatic 72, 3) := by decide +kernel
theorem dX0_drawTarget_114 : decode cX0_drawTarget 114 = .ok (.ifCond .eq 17, 3) := by decide +kernel
theorem dX0_drawTarget_117 : decode cX0_drawTarget 117 = .ok (.aload_n 0, 1) := by decide +kernel
theorem dX0_drawTarget_118 : decode cX0_drawTarget 118 = .ok (.iload_n 1, 1) := by decide +kernel
theorem dX0_drawTarget_119 : decode cX0_drawTarget 119 = .ok (.iload 8, 2) := by decide +kernel
theorem dX0_drawTarget_121 : decode cX0_drawTarget 121 = .ok (.invokevirtual 116, 3) := by decide +kernel
theorem dX0_drawTarget_124 : decode cX0_drawTarget 124 = .ok (.iload_n 2, 1) := by decide +kernel
theorem dX0_drawTarget_125 : decode cX0_drawTarget 125 = .ok (.invokestatic 131, 3) := by decide +kernel
theorem dX0_drawTarget_128 : decode cX0_drawTarget 128 = .ok (.goto 4, 3) := by decide +kernel
theorem dX0_drawTarget_131 : decode cX0_drawTarget 131 = .ok (.iconst 0, 1) := by decide +kernel
theorem dX0_drawTarget_132 : decode cX0_drawTarget 132 = .ok (.iadd, 1) := by decide +kernel
theorem dX0_drawTarget_133 : decode cX0_drawTarget 133 = .ok (.istore 7, 2) := by decide +kernel
theorem dX0_drawTarget_135 : decode cX0_drawTarget 135 = .ok (.iload 7, 2) := by decide +kernel
theorem dX0_drawTarget_137 : decode cX0_drawTarget 137 = .ok (.iload 6, 2) := by decide +kernel
theorem dX0_drawTarget_139 : decode cX0_drawTarget 139 = .ok (.if_icmp .le 6, 3) := by decide +kernel
theorem dX0_drawTarget_142 : decode cX0_drawTarget 142 = .ok (.iload 8, 2) := by decide +kernel
theorem dX0_drawTarget_144 : decode cX0_drawTarget 144 = .ok (.ireturn, 1) := by decide +kernel
theorem dX0_drawTarget_145 : decode cX0_drawTarget 145 = .ok (.iinc 8 1, 3) := by decide +kernel
theorem dX0_drawTarget_148 : decode cX0_drawTarget 148 = .ok (.goto (-51), 3) := by decide +kernel
theorem dX0_drawTarget_151 : decode cX0_drawTarget 151 = .ok (.bipush (-9), 2) := by decide +kernel
theorem dX0_drawTarget_153 : decode cX0_drawTarget 153 = .ok (.ireturn, 1) := by decide +kernel
theorem dX0_weight_0 : decode cX0_weight 0 = .ok (.iload_n 0, 1) := by decide +kernel
theorem dX0_weight_1 : decode cX0_weight 1 = .ok (.iconst 1, 1) := by decide +kernel
theorem dX0_weight_2 : decode cX0_weight 2 = .ok (.if_icmp .lt 9, 3) := by decide +kernel
theorem dX0_weight_5 : decode cX0_weight 5 = .ok (.iload_n 0, 1) := by decide +kernel
theorem dX0_weight_6 : decode cX0_weight 6 = .ok (.bipush 14, 2) := by decide +kernel
theorem dX0_weight_8 : decode cX0_weight 8 = .ok (.if_icmp .le 5, 3) := by decide +kernel
theorem dX0_weight_11 : decode cX0_weight 11 = .ok (.iconst 0, 1) := by decide +kernel
theorem dX0_weight_12 : decode cX0_weight 12 = .ok (.ireturn, 1) := by decide +kernel
theorem dX0_weight_13 : decode cX0_weight 13 = .ok (.iload_n 1, 1) := by decide +kernel
theorem dX0_weight_14 : decode cX0_weight 14 = .ok (.lookupswitch 39 #[(1, 26), (2, 31)], 26) := by decide +kernel
theorem dX0_weight_40 : decode cX0_weight 40 = .ok (.bipush 60, 2) := by decide +kernel
theorem dX0_weight_42 : decode cX0_weight 42 = .ok (.iload_n 0, 1) := by decide +kernel
theorem dX0_weight_43 : decode cX0_weight 43 = .ok (.idiv, 1) := by decide +kernel
theorem dX0_weight_44 : decode cX0_weight 44 = .ok (.ireturn, 1) := by decide +kernel
theorem dX0_weight_45 : decode cX0_weight 45 = .ok (.sipush 3600, 3) := by decide +kernel
theorem dX0_weight_48 : decode cX0_weight 48 = .ok (.iload_n 0, 1) := by decide +kernel
theorem dX0_weight_49 : decode cX0_weight 49 = .ok (.iload_n 0, 1) := by decide +kernel
theorem dX0_weight_50 : decode cX0_weight 50 = .ok (.imul, 1) := by decide +kernel
theorem dX0_weight_51 : decode cX0_weight 51 = .ok (.idiv, 1) := by decide +kernel
theorem dX0_weight_52 : decode cX0_weight 52 = .ok (.ireturn, 1) := by decide +kernel
theorem dX0_weight_53 : decode cX0_weight 53 = .ok (.iconst 1, 1) := by decide +kernel
theorem dX0_weight_54 : decode cX0_weight 54 = .ok (.ireturn, 1) := by decide +kernel
theorem dJ13_bitCount_95d88_0 : decode cJ13_bitCount_95d88 0 = .ok (.lload_n 0, 1) := by decide +kernel
theorem dJ13_bitCount_95d88_1 : decode cJ13_bitCount_95d88 1 = .ok (.lload_n 0, 1) := by decide +kernel
theorem dJ13_bitCount_95d88_2 : decode cJ13_bitCount_95d88 2 = .ok (.iconst 1, 1) := by decide +kernel
theorem dJ13_bitCount_95d88_3 : decode cJ13_bitCount_95d88 3 = .ok (.lushr, 1) := by decide +kernel
theorem dJ13_bitCount_95d88_4 : decode cJ13_bitCount_95d88 4 = .ok (.ldc2_w 314, 3) := by decide +kernel
theorem dJ13_bitCount_95d88_7 : decode cJ13_bitCount_95d88 7 = .ok (.land, 1) := by decide +kernel
theorem dJ13_bitCount_95d88_8 : decode cJ13_bitCount_95d88 8 = .ok (.lsub, 1) := by decide +kernel
theorem dJ13_bitCount_95d88_9 : decode cJ13_bitCount_95d88 9 = .ok (.lstore_n 0, 1) := by decide +kernel
theorem dJ13_bitCount_95d88_10 : decode cJ13_bitCount_95d88 10 = .ok (.lload_n 0, 1) := by decide +kernel
theorem dJ13_bitCount_95d88_11 : decode cJ13_bitCount_95d88 11 = .ok (.ldc2_w 316, 3) := by decide +kernel
theorem dJ13_bitCount_95d88_14 : decode cJ13_bitCount_95d88 14 = .ok (.land, 1) := by decide +kernel
theorem dJ13_bitCount_95d88_15 : decode cJ13_bitCount_95d88 15 = .ok (.lload_n 0, 1) := by decide +kernel
theorem dJ13_bitCount_95d88_16 : decode cJ13_bitCount_95d88 16 = .ok (.iconst 2, 1) := by decide +kernel
theorem dJ13_bitCount_95d88_17 : decode cJ13_bitCount_95d88 17 = .ok (.lushr, 1) := by decide +kernel
theorem dJ13_bitCount_95d88_18 : decode cJ13_bitCount_95d88 18 = .ok (.ldc2_w 316, 3) := by decide +kernel
theorem dJ13_bitCount_95d88_21 : decode cJ13_bitCount_95d88 21 = .ok (.land, 1) := by decide +kernel
theorem dJ13_bitCount_95d88_22 : decode cJ13_bitCount_95d88 22 = .ok (.ladd, 1) := by decide +kernel
theorem dJ13_bitCount_95d88_23 : decode cJ13_bitCount_95d88 23 = .ok (.lstore_n 0, 1) := by decide +kernel
theorem dJ13_bitCount_95d88_24 : decode cJ13_bitCount_95d88 24 = .ok (.lload_n 0, 1) := by decide +kernel
theorem dJ13_bitCount_95d88_25 : decode cJ13_bitCount_95d88 25 = .ok (.lload_n 0, 1) := by decide +kernel
theorem dJ13_bitCount_95d88_26 : decode cJ13_bitCount_95d88 26 = .ok (.iconst 4, 1) := by decide +kernel
theorem dJ13_bitCount_95d88_27 : decode cJ13_bitCount_95d88 27 = .ok (.lushr, 1) := by decide +kernel
theorem dJ13_bitCount_95d88_28 : decode cJ13_bitCount_95d88 28 = .ok (.ladd, 1) := by decide +kernel
theorem dJ13_bitCount_95d88_29 : decode cJ13_bitCount_95d88 29 = .ok (.ldc2_w 318, 3) := by decide +kernel
theorem dJ13_bitCount_95d88_32 : decode cJ13_bitCount_95d88 32 = .ok (.land, 1) := by decide +kernel
theorem dJ13_bitCount_95d88_33 : decode cJ13_bitCount_95d88 33 = .ok (.lstore_n 0, 1) := by decide +kernel
theorem dJ13_bitCount_95d88_34 : decode cJ13_bitCount_95d88 34 = .ok (.lload_n 0, 1) := by decide +kernel
theorem dJ13_bitCount_95d88_35 : decode cJ13_bitCount_95d88 35 = .ok (.lload_n 0, 1) := by decide +kernel
theorem dJ13_bitCount_95d88_36 : decode cJ13_bitCount_95d88 36 = .ok (.bipush 8, 2) := by decide +kernel
theorem dJ13_bitCount_95d88_38 : decode cJ13_bitCount_95d88 38 = .ok (.lushr, 1) := by decide +kernel
theorem dJ13_bitCount_95d88_39 : decode cJ13_bitCount_95d88 39 = .ok (.ladd, 1) := by decide +kernel
theorem dJ13_bitCount_95d88_40 : decode cJ13_bitCount_95d88 40 = .ok (.lstore_n 0, 1) := by decide +kernel
theorem dJ13_bitCount_95d88_41 : decode cJ13_bitCount_95d88 41 = .ok (.lload_n 0, 1) := by decide +kernel
theorem dJ13_bitCount_95d88_42 : decode cJ13_bitCount_95d88 42 = .ok (.lload_n 0, 1) := by decide +kernel
theorem dJ13_bitCount_95d88_43 : decode cJ13_bitCount_95d88 43 = .ok (.bipush 16, 2) := by decide +kernel
theorem dJ13_bitCount_95d88_45 : decode cJ13_bitCount_95d88 45 = .ok (.lushr, 1) := by decide +kernel
theorem dJ13_bitCount_95d88_46 : decode cJ13_bitCount_95d88 46 = .ok (.ladd, 1) := by decide +kernel
theorem dJ13_bitCount_95d88_47 : decode cJ13_bitCount_95d88 47 = .ok (.lstore_n 0, 1) := by decide +kernel
theorem dJ13_bitCount_95d88_48 : decode cJ13_bitCount_95d88 48 = .ok (.lload_n 0, 1) := by decide +kernel
theorem dJ13_bitCount_95d88_49 : decode cJ13_bitCount_95d88 49 = .ok (.lload_n 0, 1) := by decide +kernel
theorem dJ13_bitCount_95d88_50 : decode cJ13_bitCount_95d88 50 = .ok (.bipush 32, 2) := by decide +kernel
theorem dJ13_bitCount_95d88_52 : decode cJ13_bitCount_95d88 52 = .ok (.lushr, 1) := by decide +kernel
theorem dJ13_bitCount_95d88_53 : decode cJ13_bitCount_95d88 53 = .ok (.ladd, 1) := by decide +kernel
theorem dJ13_bitCount_95d88_54 : decode cJ13_bitCount_95d88 54 = .ok (.lstore_n 0, 1) := by decide +kernel
theorem dJ13_bitCount_95d88_55 : decode cJ13_bitCount_95d88 55 = .ok (.lload_n 0, 1) := by decide +kernel
theorem dJ13_bitCount_95d88_56 : decode cJ13_bitCount_95d88 56 = .ok (.l2i, 1) := by decide +kernel
theorem dJ13_bitCount_95d88_57 : decode cJ13_bitCount_95d88 57 = .ok (.bipush 127, 2) := by decide +kernel
theorem dJ13_bitCount_95d88_59 : decode cJ13_bitCount_95d88 59 = .ok (.iand, 1) := by decide +kernel
theorem dJ13_bitCount_95d88_60 : decode cJ13_bitCount_95d88 60 = .ok (.ireturn, 1) := by decide +kernel
theorem dJ9_abs_0f7a4_0 : decode cJ9_abs_0f7a4 0 = .ok (.iload_n 0, 1) := by decide +kernel
theorem dJ9_abs_0f7a4_1 : decode cJ9_abs_0f7a4 1 = .ok (.ifCond .ge 8, 3) := by decide +kernel
theorem dJ9_abs_0f7a4_4 : decode cJ9_abs_0f7a4 4 = .ok (.iload_n 0, 1) := by decide +kernel
theorem dJ9_abs_0f7a4_5 : decode cJ9_abs_0f7a4 5 = .ok (.ineg, 1) := by decide +kernel
theorem dJ9_abs_0f7a4_6 : decode cJ9_abs_0f7a4 6 = .ok (.goto 4, 3) := by decide +kernel
theorem dJ9_abs_0f7a4_9 : decode cJ9_abs_0f7a4 9 = .ok (.iload_n 0, 1) := by decide +kernel
theorem dJ9_abs_0f7a4_10 : decode cJ9_abs_0f7a4 10 = .ok (.ireturn, 1) := by decide +kernel
theorem dJ9_max_7cf53_0 : decode cJ9_max_7cf53 0 = .ok (.iload_n 0, 1) := by decide +kernel
theorem dJ9_max_7cf53_1 : decode cJ9_max_7cf53 1 = .ok (.iload_n 1, 1) := by decide +kernel
theorem dJ9_max_7cf53_2 : decode cJ9_max_7cf53 2 = .ok (.if_icmp .lt 7, 3) := by decide +kernel
theorem dJ9_max_7cf53_5 : decode cJ9_max_7cf53 5 = .ok (.iload_n 0, 1) := by decide +kernel
theorem dJ9_max_7cf53_6 : decode cJ9_max_7cf53 6 = .ok (.goto 4, 3) := by decide +kernel
theorem dJ9_max_7cf53_9 : decode cJ9_max_7cf53 9 = .ok (.iload_n 1, 1) := by decide +kernel
theorem dJ9_max_7cf53_10 : decode cJ9_max_7cf53 10 = .ok (.ireturn, 1) := by decide +kernel
