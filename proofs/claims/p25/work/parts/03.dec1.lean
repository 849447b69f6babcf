theorem dX1_init_0 : decode cX1_init 0 = .ok (.aload_n 0, 1) := by decide +kernel
theorem dX1_init_1 : decode cX1_init 1 = .ok (.invokespecial 3, 3) := by decide +kernel
theorem dX1_init_4 : decode cX1_init 4 = .ok (.aload_n 0, 1) := by decide +kernel
theorem dX1_init_5 : decode cX1_init 5 = .ok (.bipush 49, 2) := by decide +kernel
theorem dX1_init_7 : decode cX1_init 7 = .ok (.newarray .long, 2) := by decide +kernel
theorem dX1_init_9 : decode cX1_init 9 = .ok (.putfield 9, 3) := by decide +kernel
theorem dX1_init_12 : decode cX1_init 12 = .ok (.aload_n 0, 1) := by decide +kernel
theorem dX1_init_13 : decode cX1_init 13 = .ok (.bipush 49, 2) := by decide +kernel
theorem dX1_init_15 : decode cX1_init 15 = .ok (.newarray .int, 2) := by decide +kernel
theorem dX1_init_17 : decode cX1_init 17 = .ok (.putfield 15, 3) := by decide +kernel
theorem dX1_init_20 : decode cX1_init 20 = .ok (.aload_n 0, 1) := by decide +kernel
theorem dX1_init_21 : decode cX1_init 21 = .ok (.bipush 49, 2) := by decide +kernel
theorem dX1_init_23 : decode cX1_init 23 = .ok (.newarray .long, 2) := by decide +kernel
theorem dX1_init_25 : decode cX1_init 25 = .ok (.putfield 19, 3) := by decide +kernel
theorem dX1_init_28 : decode cX1_init 28 = .ok (.aload_n 0, 1) := by decide +kernel
theorem dX1_init_29 : decode cX1_init 29 = .ok (.bipush 49, 2) := by decide +kernel
theorem dX1_init_31 : decode cX1_init 31 = .ok (.newarray .int, 2) := by decide +kernel
theorem dX1_init_33 : decode cX1_init 33 = .ok (.putfield 22, 3) := by decide +kernel
theorem dX1_init_36 : decode cX1_init 36 = .ok (.aload_n 0, 1) := by decide +kernel
theorem dX1_init_37 : decode cX1_init 37 = .ok (.bipush 49, 2) := by decide +kernel
theorem dX1_init_39 : decode cX1_init 39 = .ok (.newarray .int, 2) := by decide +kernel
theorem dX1_init_41 : decode cX1_init 41 = .ok (.putfield 25, 3) := by decide +kernel
theorem dX1_init_44 : decode cX1_init 44 = .ok (.aload_n 0, 1) := by decide +kernel
theorem dX1_init_45 : decode cX1_init 45 = .ok (.bipush 8, 2) := by decide +kernel
theorem dX1_init_47 : decode cX1_init 47 = .ok (.newarray .int, 2) := by decide +kernel
theorem dX1_init_49 : decode cX1_init 49 = .ok (.putfield 28, 3) := by decide +kernel
theorem dX1_init_52 : decode cX1_init 52 = .ok (.aload_n 0, 1) := by decide +kernel
theorem dX1_init_53 : decode cX1_init 53 = .ok (.iconst 0, 1) := by decide +kernel
theorem dX1_init_54 : decode cX1_init 54 = .ok (.putfield 31, 3) := by decide +kernel
theorem dX1_init_57 : decode cX1_init 57 = .ok (.return_, 1) := by decide +kernel
theorem dX1_readContacts_0 : decode cX1_readContacts 0 = .ok (.iconst 0, 1) := by decide +kernel
theorem dX1_readContacts_1 : decode cX1_readContacts 1 = .ok (.istore_n 2, 1) := by decide +kernel
theorem dX1_readContacts_2 : decode cX1_readContacts 2 = .ok (.iload_n 2, 1) := by decide +kernel
theorem dX1_readContacts_3 : decode cX1_readContacts 3 = .ok (.aload_n 0, 1) := by decide +kernel
theorem dX1_readContacts_4 : decode cX1_readContacts 4 = .ok (.getfield 9, 3) := by decide +kernel
theorem dX1_readContacts_7 : decode cX1_readContacts 7 = .ok (.arraylength, 1) := by decide +kernel
theorem dX1_readContacts_8 : decode cX1_readContacts 8 = .ok (.if_icmp .ge 32, 3) := by decide +kernel
theorem dX1_readContacts_11 : decode cX1_readContacts 11 = .ok (.aload_n 0, 1) := by decide +kernel
theorem dX1_readContacts_12 : decode cX1_readContacts 12 = .ok (.getfield 9, 3) := by decide +kernel
theorem dX1_readContacts_15 : decode cX1_readContacts 15 = .ok (.iload_n 2, 1) := by decide +kernel
theorem dX1_readContacts_16 : decode cX1_readContacts 16 = .ok (.aload_n 1, 1) := by decide +kernel
theorem dX1_readContacts_17 : decode cX1_readContacts 17 = .ok (.iload_n 2, 1) := by decide +kernel
theorem dX1_readContacts_18 : decode cX1_readContacts 18 = .ok (.invokevirtual 35, 3) := by decide +kernel
theorem dX1_readContacts_21 : decode cX1_readContacts 21 = .ok (.ifCond .eq 11, 3) := by decide +kernel
theorem dX1_readContacts_24 : decode cX1_readContacts 24 = .ok (.aload_n 1, 1) := by decide +kernel
theorem dX1_readContacts_25 : decode cX1_readContacts 25 = .ok (.iload_n 2, 1) := by decide +kernel
theorem dX1_readContacts_26 : decode cX1_readContacts 26 = .ok (.invokevirtual 41, 3) := by decide +kernel
theorem dX1_readContacts_29 : decode cX1_readContacts 29 = .ok (.goto 4, 3) := by decide +kernel
theorem dX1_readContacts_32 : decode cX1_readContacts 32 = .ok (.lconst 0, 1) := by decide +kernel
theorem dX1_readContacts_33 : decode cX1_readContacts 33 = .ok (.lastore, 1) := by decide +kernel
theorem dX1_readContacts_34 : decode cX1_readContacts 34 = .ok (.iinc 2 1, 3) := by decide +kernel
theorem dX1_readContacts_37 : decode cX1_readContacts 37 = .ok (.goto (-35), 3) := by decide +kernel
theorem dX1_readContacts_40 : decode cX1_readContacts 40 = .ok (.return_, 1) := by decide +kernel
theorem dX1_findWaysTo_0 : decode cX1_findWaysTo 0 = .ok (.iconst 0, 1) := by decide +kernel
theorem dX1_findWaysTo_1 : decode cX1_findWaysTo 1 = .ok (.istore_n 2, 1) := by decide +kernel
theorem dX1_findWaysTo_2 : decode cX1_findWaysTo 2 = .ok (.iload_n 2, 1) := by decide +kernel
theorem dX1_findWaysTo_3 : decode cX1_findWaysTo 3 = .ok (.aload_n 0, 1) := by decide +kernel
theorem dX1_findWaysTo_4 : decode cX1_findWaysTo 4 = .ok (.getfield 15, 3) := by decide +kernel
theorem dX1_findWaysTo_7 : decode cX1_findWaysTo 7 = .ok (.arraylength, 1) := by decide +kernel
theorem dX1_findWaysTo_8 : decode cX1_findWaysTo 8 = .ok (.if_icmp .ge 25, 3) := by decide +kernel
theorem dX1_findWaysTo_11 : decode cX1_findWaysTo 11 = .ok (.aload_n 0, 1) := by decide +kernel
theorem dX1_findWaysTo_12 : decode cX1_findWaysTo 12 = .ok (.getfield 15, 3) := by decide +kernel
theorem dX1_findWaysTo_15 : decode cX1_findWaysTo 15 = .ok (.iload_n 2, 1) := by decide +kernel
theorem dX1_findWaysTo_16 : decode cX1_findWaysTo 16 = .ok (.iload_n 2, 1) := by decide +kernel
theorem dX1_findWaysTo_17 : decode cX1_findWaysTo 17 = .ok (.iload_n 1, 1) := by decide +kernel
theorem dX1_findWaysTo_18 : decode cX1_findWaysTo 18 = .ok (.if_icmp .ne 7, 3) := by decide +kernel
theorem dX1_findWaysTo_21 : decode cX1_findWaysTo 21 = .ok (.iconst 0, 1) := by decide +kernel
theorem dX1_findWaysTo_22 : decode cX1_findWaysTo 22 = .ok (.goto 4, 3) := by decide +kernel
theorem dX1_findWaysTo_25 : decode cX1_findWaysTo 25 = .ok (.iconst (-1), 1) := by decide +kernel
theorem dX1_findWaysTo_26 : decode cX1_findWaysTo 26 = .ok (.iastore, 1) := by decide +kernel
theorem dX1_findWaysTo_27 : decode cX1_findWaysTo 27 = .ok (.iinc 2 1, 3) := by decide +kernel
theorem dX1_findWaysTo_30 : decode cX1_findWaysTo 30 = .ok (.goto (-28), 3) := by decide +kernel
theorem dX1_findWaysTo_33 : decode cX1_findWaysTo 33 = .ok (.iload_n 1, 1) := by decide +kernel
theorem dX1_findWaysTo_34 : decode cX1_findWaysTo 34 = .ok (.invokestatic 45, 3) := by decide +kernel
theorem dX1_findWaysTo_37 : decode cX1_findWaysTo 37 = .ok (.lstore_n 2, 1) := by decide +kernel
theorem dX1_findWaysTo_38 : decode cX1_findWaysTo 38 = .ok (.iconst 1, 1) := by decide +kernel
theorem dX1_findWaysTo_39 : decode cX1_findWaysTo 39 = .ok (.istore 4, 2) := by decide +kernel
theorem dX1_findWaysTo_41 : decode cX1_findWaysTo 41 = .ok (.iload 4, 2) := by decide +kernel
theorem dX1_findWaysTo_43 : decode cX1_findWaysTo 43 = .ok (.bipush 49, 2) := by decide +kernel
theorem dX1_findWaysTo_45 : decode cX1_findWaysTo 45 = .ok (.if_icmp .ge 23, 3) := by decide +kernel
theorem dX1_findWaysTo_48 : decode cX1_findWaysTo 48 = .ok (.lload_n 2, 1) := by decide +kernel
theorem dX1_findWaysTo_49 : decode cX1_findWaysTo 49 = .ok (.lconst 0, 1) := by decide +kernel
theorem dX1_findWaysTo_50 : decode cX1_findWaysTo 50 = .ok (.lcmp, 1) := by decide +kernel
theorem dX1_findWaysTo_51 : decode cX1_findWaysTo 51 = .ok (.ifCond .eq 17, 3) := by decide +kernel
theorem dX1_findWaysTo_54 : decode cX1_findWaysTo 54 = .ok (.aload_n 0, 1) := by decide +kernel
theorem dX1_findWaysTo_55 : decode cX1_findWaysTo 55 = .ok (.lload_n 2, 1) := by decide +kernel
theorem dX1_findWaysTo_56 : decode cX1_findWaysTo 56 = .ok (.iload 4, 2) := by decide +kernel
theorem dX1_findWaysTo_58 : decode cX1_findWaysTo 58 = .ok (.invokevirtual 48, 3) := by decide +kernel
theorem dX1_findWaysTo_61 : decode cX1_findWaysTo 61 = .ok (.lstore_n 2, 1) := by decide +kernel
theorem dX1_findWaysTo_62 : decode cX1_findWaysTo 62 = .ok (.iinc 4 1, 3) := by decide +kernel
theorem dX1_findWaysTo_65 : decode cX1_findWaysTo 65 = .ok (.goto (-24), 3) := by decide +kernel
theorem dX1_findWaysTo_68 : decode cX1_findWaysTo 68 = .ok (.return_, 1) := by decide +kernel
theorem dX1_layerBefore_0 : decode cX1_layerBefore 0 = .ok (.lconst 0, 1) := by decide +kernel
theorem dX1_layerBefore_1 : decode cX1_layerBefore 1 = .ok (.lstore 4, 2) := by decide +kernel
theorem dX1_layerBefore_3 : decode cX1_layerBefore 3 = .ok (.iconst 0, 1) := by decide +kernel
theorem dX1_layerBefore_4 : decode cX1_layerBefore 4 = .ok (.istore 6, 2) := by decide +kernel
theorem dX1_layerBefore_6 : decode cX1_layerBefore 6 = .ok (.iload 6, 2) := by decide +kernel
theorem dX1_layerBefore_8 : decode cX1_layerBefore 8 = .ok (.aload_n 0, 1) := by decide +kernel
theorem dX1_layerBefore_9 : decode cX1_layerBefore 9 = .ok (.getfield 15, 3) := by decide +kernel
theorem dX1_layerBefore_12 : decode cX1_layerBefore 12 = .ok (.arraylength, 1) := by decide +kernel
theorem dX1_layerBefore_13 : decode cX1_layerBefore 13 = .ok (.if_icmp .ge 62, 3) := by decide +kernel
theorem dX1_layerBefore_16 : decode cX1_layerBefore 16 = .ok (.iload 6, 2) := by decide +kernel
theorem dX1_layerBefore_18 : decode cX1_layerBefore 18 = .ok (.aload_n 0, 1) := by decide +kernel
theorem dX1_layerBefore_19 : decode cX1_layerBefore 19 = .ok (.getfield 9, 3) := by decide +kernel
theorem dX1_layerBefore_22 : decode cX1_layerBefore 22 = .ok (.arraylength, 1) := by decide +kernel
theorem dX1_layerBefore_23 : decode cX1_layerBefore 23 = .ok (.if_icmp .ge 52, 3) := by decide +kernel
theorem dX1_layerBefore_26 : decode cX1_layerBefore 26 = .ok (.aload_n 0, 1) := by decide +kernel
theorem dX1_layerBefore_27 : decode cX1_layerBefore 27 = .ok (.getfield 15, 3) := by decide +kernel
theorem dX1_layerBefore_30 : decode cX1_layerBefore 30 = .ok (.iload 6, 2) := by decide +kernel
theorem dX1_layerBefore_32 : decode cX1_layerBefore 32 = .ok (.iaload, 1) := by decide +kernel
theorem dX1_layerBefore_33 : decode cX1_layerBefore 33 = .ok (.iconst (-1), 1) := by decide +kernel
theorem dX1_layerBefore_34 : decode cX1_layerBefore 34 = .ok (.if_icmp .ne 35, 3) := by decide +kernel
theorem dX1_layerBefore_37 : decode cX1_layerBefore 37 = .ok (.aload_n 0, 1) := by decide +kernel
theorem dX1_layerBefore_38 : decode cX1_layerBefore 38 = .ok (.getfield 9, 3) := by decide +kernel
theorem dX1_layerBefore_41 : decode cX1_layerBefore 41 = .ok (.iload 6, 2) := by decide +kernel
theorem dX1_layerBefore_43 : decode cX1_layerBefore 43 = .ok (.laload, 1) := by decide +kernel
theorem dX1_layerBefore_44 : decode cX1_layerBefore 44 = .ok (.lload_n 1, 1) := by decide +kernel
theorem dX1_layerBefore_45 : decode cX1_layerBefore 45 = .ok (.land, 1) := by decide +kernel
theorem dX1_layerBefore_46 : decode cX1_layerBefore 46 = .ok (.lconst 0, 1) := by decide +kernel
theorem dX1_layerBefore_47 : decode cX1_layerBefore 47 = .ok (.lcmp, 1) := by decide +kernel
theorem dX1_layerBefore_48 : decode cX1_layerBefore 48 = .ok (.ifCond .eq 21, 3) := by decide +kernel
theorem dX1_layerBefore_51 : decode cX1_layerBefore 51 = .ok (.aload_n 0, 1) := by decide +kernel
theorem dX1_layerBefore_52 : decode cX1_layerBefore 52 = .ok (.getfield 15, 3) := by decide +kernel
theorem dX1_layerBefore_55 : decode cX1_layerBefore 55 = .ok (.iload 6, 2) := by decide +kernel
theorem dX1_layerBefore_57 : decode cX1_layerBefore 57 = .ok (.iload_n 3, 1) := by decide +kernel
theorem dX1_layerBefore_58 : decode cX1_layerBefore 58 = .ok (.iastore, 1) := by decide +kernel
theorem dX1_layerBefore_59 : decode cX1_layerBefore 59 = .ok (.lload 4, 2) := by decide +kernel
theorem dX1_layerBefore_61 : decode cX1_layerBefore 61 = .ok (.iload 6, 2) := by decide +kernel
theorem dX1_layerBefore_63 : decode cX1_layerBefore 63 = .ok (.invokestatic 45, 3) := by decide +kernel
theorem dX1_layerBefore_66 : decode cX1_layerBefore 66 = .ok (.lor, 1) := by decide +kernel
theorem dX1_layerBefore_67 : decode cX1_layerBefore 67 = .ok (.lstore 4, 2) := by decide +kernel
theorem dX1_layerBefore_69 : decode cX1_layerBefore 69 = .ok (.iinc 6 1, 3) := by decide +kernel
theorem dX1_layerBefore_72 : decode cX1_layerBefore 72 = .ok (.goto (-66), 3) := by decide +kernel
theorem dX1_layerBefore_75 : decode cX1_layerBefore 75 = .ok (.lload 4, 2) := by decide +kernel
theorem dX1_layerBefore_77 : decode cX1_layerBefore 77 = .ok (.lreturn, 1) := by decide +kernel
theorem dX1_wayFrom_0 : decode cX1_wayFrom 0 = .ok (.iload_n 1, 1) := by decide +kernel
theorem dX1_wayFrom_1 : decode cX1_wayFrom 1 = .ok (.ifCond .lt 21, 3) := by decide +kernel
theorem dX1_wayFrom_4 : decode cX1_wayFrom 4 = .ok (.iload_n 1, 1) := by decide +kernel
theorem dX1_wayFrom_5 : decode cX1_wayFrom 5 = .ok (.aload_n 0, 1) := by decide +kernel
theorem dX1_wayFrom_6 : decode cX1_wayFrom 6 = .ok (.getfield 15, 3) := by decide +kernel
theorem dX1_wayFrom_9 : decode cX1_wayFrom 9 = .ok (.arraylength, 1) := by decide +kernel
theorem dX1_wayFrom_10 : decode cX1_wayFrom 10 = .ok (.if_icmp .ge 12, 3) := by decide +kernel
theorem dX1_wayFrom_13 : decode cX1_wayFrom 13 = .ok (.aload_n 0, 1) := by decide +kernel
theorem dX1_wayFrom_14 : decode cX1_wayFrom 14 = .ok (.getfield 15, 3) := by decide +kernel
theorem dX1_wayFrom_17 : decode cX1_wayFrom 17 = .ok (.iload_n 1, 1) := by decide +kernel
theorem dX1_wayFrom_18 : decode cX1_wayFrom 18 = .ok (.iaload, 1) := by decide +kernel
theorem dX1_wayFrom_19 : decode cX1_wayFrom 19 = .ok (.goto 4, 3) := by decide +kernel
theorem dX1_wayFrom_22 : decode cX1_wayFrom 22 = .ok (.iconst (-1), 1) := by decide +kernel
theorem dX1_wayFrom_23 : decode cX1_wayFrom 23 = .ok (.ireturn, 1) := by decide +kernel
theorem dX1_countPaths_0 : decode cX1_countPaths 0 = .ok (.iconst 0, 1) := by decide +kernel
theorem dX1_countPaths_1 : decode cX1_countPaths 1 = .ok (.istore_n 1, 1) := by decide +kernel
theorem dX1_countPaths_2 : decode cX1_countPaths 2 = .ok (.iload_n 1, 1) := by decide +kernel
theorem dX1_countPaths_3 : decode cX1_countPaths 3 = .ok (.bipush 49, 2) := by decide +kernel
theorem dX1_countPaths_5 : decode cX1_countPaths 5 = .ok (.if_icmp .ge 67, 3) := by decide +kernel
theorem dX1_countPaths_8 : decode cX1_countPaths 8 = .ok (.iconst 0, 1) := by decide +kernel
theorem dX1_countPaths_9 : decode cX1_countPaths 9 = .ok (.istore_n 2, 1) := by decide +kernel
theorem dX1_countPaths_10 : decode cX1_countPaths 10 = .ok (.iload_n 2, 1) := by decide +kernel
theorem dX1_countPaths_11 : decode cX1_countPaths 11 = .ok (.aload_n 0, 1) := by decide +kernel
theorem dX1_countPaths_12 : decode cX1_countPaths 12 = .ok (.getfield 15, 3) := by decide +kernel
theorem dX1_countPaths_15 : decode cX1_countPaths 15 = .ok (.arraylength, 1) := by decide +kernel
theorem dX1_countPaths_16 : decode cX1_countPaths 16 = .ok (.if_icmp .ge 50, 3) := by decide +kernel
theorem dX1_countPaths_19 : decode cX1_countPaths 19 = .ok (.iload_n 2, 1) := by decide +kernel
theorem dX1_countPaths_20 : decode cX1_countPaths 20 = .ok (.aload_n 0, 1) := by decide +kernel
theorem dX1_countPaths_21 : decode cX1_countPaths 21 = .ok (.getfield 19, 3) := by decide +kernel
theorem dX1_countPaths_24 : decode cX1_countPaths 24 = .ok (.arraylength, 1) := by decide +kernel
theorem dX1_countPaths_25 : decode cX1_countPaths 25 = .ok (.if_icmp .ge 41, 3) := by decide +kernel
theorem dX1_countPaths_28 : decode cX1_countPaths 28 = .ok (.aload_n 0, 1) := by decide +kernel
theorem dX1_countPaths_29 : decode cX1_countPaths 29 = .ok (.getfield 15, 3) := by decide +kernel
theorem dX1_countPaths_32 : decode cX1_countPaths 32 = .ok (.iload_n 2, 1) := by decide +kernel
theorem dX1_countPaths_33 : decode cX1_countPaths 33 = .ok (.iaload, 1) := by decide +kernel
theorem dX1_countPaths_34 : decode cX1_countPaths 34 = .ok (.iload_n 1, 1) := by decide +kernel
theorem dX1_countPaths_35 : decode cX1_countPaths 35 = .ok (.if_icmp .ne 25, 3) := by decide +kernel
theorem dX1_countPaths_38 : decode cX1_countPaths 38 = .ok (.aload_n 0, 1) := by decide +kernel
theorem dX1_countPaths_39 : decode cX1_countPaths 39 = .ok (.getfield 19, 3) := by decide +kernel
theorem dX1_countPaths_42 : decode cX1_countPaths 42 = .ok (.iload_n 2, 1) := by decide +kernel
theorem dX1_countPaths_43 : decode cX1_countPaths 43 = .ok (.iload_n 1, 1) := by decide +kernel
theorem dX1_countPaths_44 : decode cX1_countPaths 44 = .ok (.ifCond .ne 7, 3) := by decide +kernel
theorem dX1_countPaths_47 : decode cX1_countPaths 47 = .ok (.lconst 1, 1) := by decide +kernel
theorem dX1_countPaths_48 : decode cX1_countPaths 48 = .ok (.goto 11, 3) := by decide +kernel
theorem dX1_countPaths_51 : decode cX1_countPaths 51 = .ok (.aload_n 0, 1) := by decide +kernel
theorem dX1_countPaths_52 : decode cX1_countPaths 52 = .ok (.iload_n 2, 1) := by decide +kernel
theorem dX1_countPaths_53 : decode cX1_countPaths 53 = .ok (.iload_n 1, 1) := by decide +kernel
theorem dX1_countPaths_54 : decode cX1_countPaths 54 = .ok (.iconst 1, 1) := by decide +kernel
theorem dX1_countPaths_55 : decode cX1_countPaths 55 = .ok (.isub, 1) := by decide +kernel
theorem dX1_countPaths_56 : decode cX1_countPaths 56 = .ok (.invokevirtual 52, 3) := by decide +kernel
theorem dX1_countPaths_59 : decode cX1_countPaths 59 = .ok (.lastore, 1) := by decide +kernel
theorem dX1_countPaths_60 : decode cX1_countPaths 60 = .ok (.iinc 2 1, 3) := by decide +kernel
theorem dX1_countPaths_63 : decode cX1_countPaths 63 = .ok (.goto (-53), 3) := by decide +kernel
theorem dX1_countPaths_66 : decode cX1_countPaths 66 = .ok (.iinc 1 1, 3) := by decide +kernel
theorem dX1_countPaths_69 : decode cX1_countPaths 69 = .ok (.goto (-67), 3) := by decide +kernel
theorem dX1_countPaths_72 : decode cX1_countPaths 72 = .ok (.return_, 1) := by decide +kernel
theorem dX1_pathsOverContacts_0 : decode cX1_pathsOverContacts 0 = .ok (.iload_n 1, 1) := by decide +kernel
theorem dX1_pathsOverContacts_1 : decode cX1_pathsOverContacts 1 = .ok (.ifCond .lt 12, 3) := by decide +kernel
theorem dX1_pathsOverContacts_4 : decode cX1_pathsOverContacts 4 = .ok (.iload_n 1, 1) := by decide +kernel
theorem dX1_pathsOverContacts_5 : decode cX1_pathsOverContacts 5 = .ok (.aload_n 0, 1) := by decide +kernel
theorem dX1_pathsOverContacts_6 : decode cX1_pathsOverContacts 6 = .ok (.getfield 9, 3) := by decide +kernel
theorem dX1_pathsOverContacts_9 : decode cX1_pathsOverContacts 9 = .ok (.arraylength, 1) := by decide +kernel
theorem dX1_pathsOverContacts_10 : decode cX1_pathsOverContacts 10 = .ok (.if_icmp .lt 5, 3) := by decide +kernel
theorem dX1_pathsOverContacts_13 : decode cX1_pathsOverContacts 13 = .ok (.lconst 0, 1) := by decide +kernel
theorem dX1_pathsOverContacts_14 : decode cX1_pathsOverContacts 14 = .ok (.lreturn, 1) := by decide +kernel
theorem dX1_pathsOverContacts_15 : decode cX1_pathsOverContacts 15 = .ok (.lconst 0, 1) := by decide +kernel
theorem dX1_pathsOverContacts_16 : decode cX1_pathsOverContacts 16 = .ok (.lstore_n 3, 1) := by decide +kernel
theorem dX1_pathsOverContacts_17 : decode cX1_pathsOverContacts 17 = .ok (.iconst 0, 1) := by decide +kernel
theorem dX1_pathsOverContacts_18 : decode cX1_pathsOverContacts 18 = .ok (.istore 5, 2) := by decide +kernel
theorem dX1_pathsOverContacts_20 : decode cX1_pathsOverContacts 20 = .ok (.iload 5, 2) := by decide +kernel
theorem dX1_pathsOverContacts_22 : decode cX1_pathsOverContacts 22 = .ok (.aload_n 0, 1) := by decide +kernel
theorem dX1_pathsOverContacts_23 : decode cX1_pathsOverContacts 23 = .ok (.getfield 15, 3) := by decide +kernel
theorem dX1_pathsOverContacts_26 : decode cX1_pathsOverContacts 26 = .ok (.arraylength, 1) := by decide +kernel
theorem dX1_pathsOverContacts_27 : decode cX1_pathsOverContacts 27 = .ok (.if_icmp .ge 54, 3) := by decide +kernel
theorem dX1_pathsOverContacts_30 : decode cX1_pathsOverContacts 30 = .ok (.iload 5, 2) := by decide +kernel
theorem dX1_pathsOverContacts_32 : decode cX1_pathsOverContacts 32 = .ok (.aload_n 0, 1) := by decide +kernel
theorem dX1_pathsOverContacts_33 : decode cX1_pathsOverContacts 33 = .ok (.getfield 19, 3) := by decide +kernel
theorem dX1_pathsOverContacts_36 : decode cX1_pathsOverContacts 36 = .ok (.arraylength, 1) := by decide +kernel
theorem dX1_pathsOverContacts_37 : decode cX1_pathsOverContacts 37 = .ok (.if_icmp .ge 44, 3) := by decide +kernel
theorem dX1_pathsOverContacts_40 : decode cX1_pathsOverContacts 40 = .ok (.aload_n 0, 1) := by decide +kernel
theorem dX1_pathsOverContacts_41 : decode cX1_pathsOverContacts 41 = .ok (.getfield 15, 3) := by decide +kernel
theorem dX1_pathsOverContacts_44 : decode cX1_pathsOverContacts 44 = .ok (.iload 5, 2) := by decide +kernel
theorem dX1_pathsOverContacts_46 : decode cX1_pathsOverContacts 46 = .ok (.iaload, 1) := by decide +kernel
theorem dX1_pathsOverContacts_47 : decode cX1_pathsOverContacts 47 = .ok (.iload_n 2, 1) := by decide +kernel
theorem dX1_pathsOverContacts_48 : decode cX1_pathsOverContacts 48 = .ok (.if_icmp .ne 27, 3) := by decide +kernel
theorem dX1_pathsOverContacts_51 : decode cX1_pathsOverContacts 51 = .ok (.aload_n 0, 1) := by decide +kernel
theorem dX1_pathsOverContacts_52 : decode cX1_pathsOverContacts 52 = .ok (.getfield 9, 3) := by decide +kernel
theorem dX1_pathsOverContacts_55 : decode cX1_pathsOverContacts 55 = .ok (.iload_n 1, 1) := by decide +kernel
theorem dX1_pathsOverContacts_56 : decode cX1_pathsOverContacts 56 = .ok (.laload, 1) := by decide +kernel
theorem dX1_pathsOverContacts_57 : decode cX1_pathsOverContacts 57 = .ok (.iload 5, 2) := by decide +kernel
theorem dX1_pathsOverContacts_59 : decode cX1_pathsOverContacts 59 = .ok (.invokestatic 56, 3) := by decide +kernel
theorem dX1_pathsOverContacts_62 : decode cX1_pathsOverContacts 62 = .ok (.ifCond .eq 13, 3) := by decide +kernel
theorem dX1_pathsOverContacts_65 : decode cX1_pathsOverContacts 65 = .ok (.lload_n 3, 1) := by decide +kernel
theorem dX1_pathsOverContacts_66 : decode cX1_pathsOverContacts 66 = .ok (.aload_n 0, 1) := by decide +kernel
theorem dX1_pathsOverContacts_67 : decode cX1_pathsOverContacts 67 = .ok (.getfield 19, 3) := by decide +kernel
theorem dX1_pathsOverContacts_70 : decode cX1_pathsOverContacts 70 = .ok (.iload 5, 2) := by decide +kernel
theorem dX1_pathsOverContacts_72 : decode cX1_pathsOverContacts 72 = .ok (.laload, 1) := by decide +kernel
theorem dX1_pathsOverContacts_73 : decode cX1_pathsOverContacts 73 = .ok (.ladd, 1) := by decide +kernel
theorem dX1_pathsOverContacts_74 : decode cX1_pathsOverContacts 74 = .ok (.lstore_n 3, 1) := by decide +kernel
theorem dX1_pathsOverContacts_75 : decode cX1_pathsOverContacts 75 = .ok (.iinc 5 1, 3) := by decide +kernel
theorem dX1_pathsOverContacts_78 : decode cX1_pathsOverContacts 78 = .ok (.goto (-58), 3) := by decide +kernel
theorem dX1_pathsOverContacts_81 : decode cX1_pathsOverContacts 81 = .ok (.lload_n 3, 1) := by decide +kernel
theorem dX1_pathsOverContacts_82 : decode cX1_pathsOverContacts 82 = .ok (.lreturn, 1) := by decide +kernel
theorem dX1_pathsFrom_0 : decode cX1_pathsFrom 0 = .ok (.aload_n 0, 1) := by decide +kernel
theorem dX1_pathsFrom_1 : decode cX1_pathsFrom 1 = .ok (.iload_n 1, 1) := by decide +kernel
theorem dX1_pathsFrom_2 : decode cX1_pathsFrom 2 = .ok (.invokevirtual 60, 3) := by decide +kernel
theorem dX1_pathsFrom_5 : decode cX1_pathsFrom 5 = .ok (.iconst (-1), 1) := by decide +kernel
theorem dX1_pathsFrom_6 : decode cX1_pathsFrom 6 = .ok (.if_icmp .eq 7, 3) := by decide +kernel
theorem dX1_pathsFrom_9 : decode cX1_pathsFrom 9 = .ok (.iconst 1, 1) := by decide +kernel
theorem dX1_pathsFrom_10 : decode cX1_pathsFrom 10 = .ok (.goto 4, 3) := by decide +kernel
theorem dX1_pathsFrom_13 : decode cX1_pathsFrom 13 = .ok (.iconst 0, 1) := by decide +kernel
theorem dX1_pathsFrom_14 : decode cX1_pathsFrom 14 = .ok (.istore_n 2, 1) := by decide +kernel
theorem dX1_pathsFrom_15 : decode cX1_pathsFrom 15 = .ok (.iload_n 2, 1) := by decide +kernel
theorem dX1_pathsFrom_16 : decode cX1_pathsFrom 16 = .ok (.ifCond .eq 25, 3) := by decide +kernel
theorem dX1_pathsFrom_19 : decode cX1_pathsFrom 19 = .ok (.iload_n 1, 1) := by decide +kernel
theorem dX1_pathsFrom_20 : decode cX1_pathsFrom 20 = .ok (.ifCond .lt 21, 3) := by decide +kernel
theorem dX1_pathsFrom_23 : decode cX1_pathsFrom 23 = .ok (.iload_n 1, 1) := by decide +kernel
theorem dX1_pathsFrom_24 : decode cX1_pathsFrom 24 = .ok (.aload_n 0, 1) := by decide +kernel
theorem dX1_pathsFrom_25 : decode cX1_pathsFrom 25 = .ok (.getfield 19, 3) := by decide +kernel
theorem dX1_pathsFrom_28 : decode cX1_pathsFrom 28 = .ok (.arraylength, 1) := by decide +kernel
theorem dX1_pathsFrom_29 : decode cX1_pathsFrom 29 = .ok (.if_icmp .ge 12, 3) := by decide +kernel
theorem dX1_pathsFrom_32 : decode cX1_pathsFrom 32 = .ok (.aload_n 0, 1) := by decide +kernel
theorem dX1_pathsFrom_33 : decode cX1_pathsFrom 33 = .ok (.getfield 19, 3) := by decide +kernel
theorem dX1_pathsFrom_36 : decode cX1_pathsFrom 36 = .ok (.iload_n 1, 1) := by decide +kernel
theorem dX1_pathsFrom_37 : decode cX1_pathsFrom 37 = .ok (.laload, 1) := by decide +kernel
theorem dX1_pathsFrom_38 : decode cX1_pathsFrom 38 = .ok (.goto 4, 3) := by decide +kernel
theorem dX1_pathsFrom_41 : decode cX1_pathsFrom 41 = .ok (.lconst 0, 1) := by decide +kernel
theorem dX1_pathsFrom_42 : decode cX1_pathsFrom 42 = .ok (.lreturn, 1) := by decide +kernel
theorem dX1_reachedFrom_0 : decode cX1_reachedFrom 0 = .ok (.aload_n 0, 1) := by decide +kernel
theorem dX1_reachedFrom_1 : decode cX1_reachedFrom 1 = .ok (.aload_n 1, 1) := by decide +kernel
theorem dX1_reachedFrom_2 : decode cX1_reachedFrom 2 = .ok (.invokevirtual 64, 3) := by decide +kernel
theorem dX1_reachedFrom_5 : decode cX1_reachedFrom 5 = .ok (.iconst 0, 1) := by decide +kernel
theorem dX1_reachedFrom_6 : decode cX1_reachedFrom 6 = .ok (.istore_n 3, 1) := by decide +kernel
theorem dX1_reachedFrom_7 : decode cX1_reachedFrom 7 = .ok (.iconst 0, 1) := by decide +kernel
theorem dX1_reachedFrom_8 : decode cX1_reachedFrom 8 = .ok (.istore 4, 2) := by decide +kernel
theorem dX1_reachedFrom_10 : decode cX1_reachedFrom 10 = .ok (.iload 4, 2) := by decide +kernel
theorem dX1_reachedFrom_12 : decode cX1_reachedFrom 12 = .ok (.aload_n 1, 1) := by decide +kernel
theorem dX1_reachedFrom_13 : decode cX1_reachedFrom 13 = .ok (.invokevirtual 68, 3) := by decide +kernel
theorem dX1_reachedFrom_16 : decode cX1_reachedFrom 16 = .ok (.if_icmp .ge 47, 3) := by decide +kernel
theorem dX1_reachedFrom_19 : decode cX1_reachedFrom 19 = .ok (.iload 4, 2) := by decide +kernel
theorem dX1_reachedFrom_21 : decode cX1_reachedFrom 21 = .ok (.iload_n 2, 1) := by decide +kernel
theorem dX1_reachedFrom_22 : decode cX1_reachedFrom 22 = .ok (.if_icmp .eq 35, 3) := by decide +kernel
theorem dX1_reachedFrom_25 : decode cX1_reachedFrom 25 = .ok (.aload_n 1, 1) := by decide +kernel
theorem dX1_reachedFrom_26 : decode cX1_reachedFrom 26 = .ok (.iload 4, 2) := by decide +kernel
theorem dX1_reachedFrom_28 : decode cX1_reachedFrom 28 = .ok (.invokevirtual 35, 3) := by decide +kernel
theorem dX1_reachedFrom_31 : decode cX1_reachedFrom 31 = .ok (.ifCond .eq 26, 3) := by decide +kernel
theorem dX1_reachedFrom_34 : decode cX1_reachedFrom 34 = .ok (.aload_n 0, 1) := by decide +kernel
theorem dX1_reachedFrom_35 : decode cX1_reachedFrom 35 = .ok (.iload 4, 2) := by decide +kernel
theorem dX1_reachedFrom_37 : decode cX1_reachedFrom 37 = .ok (.invokevirtual 72, 3) := by decide +kernel
theorem dX1_reachedFrom_40 : decode cX1_reachedFrom 40 = .ok (.iload_n 3, 1) := by decide +kernel
theorem dX1_reachedFrom_41 : decode cX1_reachedFrom 41 = .ok (.aload_n 0, 1) := by decide +kernel
theorem dX1_reachedFrom_42 : decode cX1_reachedFrom 42 = .ok (.iload_n 2, 1) := by decide +kernel
theorem dX1_reachedFrom_43 : decode cX1_reachedFrom 43 = .ok (.invokevirtual 60, 3) := by decide +kernel
theorem dX1_reachedFrom_46 : decode cX1_reachedFrom 46 = .ok (.iconst (-1), 1) := by decide +kernel
theorem dX1_reachedFrom_47 : decode cX1_reachedFrom 47 = .ok (.if_icmp .ne 7, 3) := by decide +kernel
theorem dX1_reachedFrom_50 : decode cX1_reachedFrom 50 = .ok (.iconst 0, 1) := by decide +kernel
theorem dX1_reachedFrom_51 : decode cX1_reachedFrom 51 = .ok (.goto 4, 3) := by decide +kernel
theorem dX1_reachedFrom_54 : decode cX1_reachedFrom 54 = .ok (.iconst 1, 1) := by decide +kernel
theorem dX1_reachedFrom_55 : decode cX1_reachedFrom 55 = .ok (.iadd, 1) := by decide +kernel
theorem dX1_reachedFrom_56 : decode cX1_reachedFrom 56 = .ok (.istore_n 3, 1) := by decide +kernel
theorem dX1_reachedFrom_57 : decode cX1_reachedFrom 57 = .ok (.iinc 4 1, 3) := by decide +kernel
theorem dX1_reachedFrom_60 : decode cX1_reachedFrom 60 = .ok (.goto (-50), 3) := by decide +kernel
theorem dX1_reachedFrom_63 : decode cX1_reachedFrom 63 = .ok (.iload_n 3, 1) := by decide +kernel
theorem dX1_reachedFrom_64 : decode cX1_reachedFrom 64 = .ok (.ireturn, 1) := by decide +kernel
theorem dX1_greatestWayFrom_0 : decode cX1_greatestWayFrom 0 = .ok (.aload_n 0, 1) := by decide +kernel
theorem dX1_greatestWayFrom_1 : decode cX1_greatestWayFrom 1 = .ok (.aload_n 1, 1) := by decide +kernel
theorem dX1_greatestWayFrom_2 : decode cX1_greatestWayFrom 2 = .ok (.invokevirtual 64, 3) := by decide +kernel
theorem dX1_greatestWayFrom_5 : decode cX1_greatestWayFrom 5 = .ok (.iconst 0, 1) := by decide +kernel
theorem dX1_greatestWayFrom_6 : decode cX1_greatestWayFrom 6 = .ok (.istore_n 3, 1) := by decide +kernel
theorem dX1_greatestWayFrom_7 : decode cX1_greatestWayFrom 7 = .ok (.iconst 0, 1) := by decide +kernel
theorem dX1_greatestWayFrom_8 : decode cX1_greatestWayFrom 8 = .ok (.istore 4, 2) := by decide +kernel
theorem dX1_greatestWayFrom_10 : decode cX1_greatestWayFrom 10 = .ok (.iload 4, 2) := by decide +kernel
theorem dX1_greatestWayFrom_12 : decode cX1_greatestWayFrom 12 = .ok (.aload_n 1, 1) := by decide +kernel
theorem dX1_greatestWayFrom_13 : decode cX1_greatestWayFrom 13 = .ok (.invokevirtual 68, 3) := by decide +kernel
theorem dX1_greatestWayFrom_16 : decode cX1_greatestWayFrom 16 = .ok (.if_icmp .ge 34, 3) := by decide +kernel
theorem dX1_greatestWayFrom_19 : decode cX1_greatestWayFrom 19 = .ok (.aload_n 1, 1) := by decide +kernel
theorem dX1_greatestWayFrom_20 : decode cX1_greatestWayFrom 20 = .ok (.iload 4, 2) := by decide +kernel
theorem dX1_greatestWayFrom_22 : decode cX1_greatestWayFrom 22 = .ok (.invokevirtual 35, 3) := by decide +kernel
theorem dX1_greatestWayFrom_25 : decode cX1_greatestWayFrom 25 = .ok (.ifCond .eq 19, 3) := by decide +kernel
theorem dX1_greatestWayFrom_28 : decode cX1_greatestWayFrom 28 = .ok (.aload_n 0, 1) := by decide +kernel
theorem dX1_greatestWayFrom_29 : decode cX1_greatestWayFrom 29 = .ok (.iload 4, 2) := by decide +kernel
theorem dX1_greatestWayFrom_31 : decode cX1_greatestWayFrom 31 = .ok (.invokevirtual 72, 3) := by decide +kernel
theorem dX1_greatestWayFrom_34 : decode cX1_greatestWayFrom 34 = .ok (.iload_n 3, 1) := by decide +kernel
theorem dX1_greatestWayFrom_35 : decode cX1_greatestWayFrom 35 = .ok (.aload_n 0, 1) := by decide +kernel
theorem dX1_greatestWayFrom_36 : decode cX1_greatestWayFrom 36 = .ok (.iload_n 2, 1) := by decide +kernel
theorem dX1_greatestWayFrom_37 : decode cX1_greatestWayFrom 37 = .ok (.invokevirtual 60, 3) := by decide +kernel
theorem dX1_greatestWayFrom_40 : decode cX1_greatestWayFrom 40 = .ok (.invokestatic 76, 3) := by decide +kernel
theorem dX1_greatestWayFrom_43 : decode cX1_greatestWayFrom 43 = .ok (.istore_n 3, 1) := by decide +kernel
theorem dX1_greatestWayFrom_44 : decode cX1_greatestWayFrom 44 = .ok (.iinc 4 1, 3) := by decide +kernel
theorem dX1_greatestWayFrom_47 : decode cX1_greatestWayFrom 47 = .ok (.goto (-37), 3) := by decide +kernel
theorem dX1_greatestWayFrom_50 : decode cX1_greatestWayFrom 50 = .ok (.iload_n 3, 1) := by decide +kernel
theorem dX1_greatestWayFrom_51 : decode cX1_greatestWayFrom 51 = .ok (.ireturn, 1) := by decide +kernel
theorem dX1_lookUp_0 : decode cX1_lookUp 0 = .ok (.aload_n 0, 1) := by decide +kernel
theorem dX1_lookUp_1 : decode cX1_lookUp 1 = .ok (.aload_n 1, 1) := by decide +kernel
theorem dX1_lookUp_2 : decode cX1_lookUp 2 = .ok (.invokevirtual 64, 3) := by decide +kernel
theorem dX1_lookUp_5 : decode cX1_lookUp 5 = .ok (.aload_n 0, 1) := by decide +kernel
theorem dX1_lookUp_6 : decode cX1_lookUp 6 = .ok (.aload_n 1, 1) := by decide +kernel
theorem dX1_lookUp_7 : decode cX1_lookUp 7 = .ok (.iload_n 3, 1) := by decide +kernel
theorem dX1_lookUp_8 : decode cX1_lookUp 8 = .ok (.invokevirtual 82, 3) := by decide +kernel
theorem dX1_lookUp_11 : decode cX1_lookUp 11 = .ok (.aload_n 0, 1) := by decide +kernel
theorem dX1_lookUp_12 : decode cX1_lookUp 12 = .ok (.iload_n 2, 1) := by decide +kernel
theorem dX1_lookUp_13 : decode cX1_lookUp 13 = .ok (.iload_n 3, 1) := by decide +kernel
theorem dX1_lookUp_14 : decode cX1_lookUp 14 = .ok (.invokevirtual 86, 3) := by decide +kernel
theorem dX1_lookUp_17 : decode cX1_lookUp 17 = .ok (.ireturn, 1) := by decide +kernel
theorem dX1_aimAt_0 : decode cX1_aimAt 0 = .ok (.iconst 0, 1) := by decide +kernel
theorem dX1_aimAt_1 : decode cX1_aimAt 1 = .ok (.istore_n 3, 1) := by decide +kernel
theorem dX1_aimAt_2 : decode cX1_aimAt 2 = .ok (.iload_n 3, 1) := by decide +kernel
theorem dX1_aimAt_3 : decode cX1_aimAt 3 = .ok (.aload_n 0, 1) := by decide +kernel
theorem dX1_aimAt_4 : decode cX1_aimAt 4 = .ok (.getfield 22, 3) := by decide +kernel
theorem dX1_aimAt_7 : decode cX1_aimAt 7 = .ok (.arraylength, 1) := by decide +kernel
theorem dX1_aimAt_8 : decode cX1_aimAt 8 = .ok (.if_icmp .ge 22, 3) := by decide +kernel
theorem dX1_aimAt_11 : decode cX1_aimAt 11 = .ok (.aload_n 0, 1) := by decide +kernel
theorem dX1_aimAt_12 : decode cX1_aimAt 12 = .ok (.getfield 22, 3) := by decide +kernel
theorem dX1_aimAt_15 : decode cX1_aimAt 15 = .ok (.iload_n 3, 1) := by decide +kernel
theorem dX1_aimAt_16 : decode cX1_aimAt 16 = .ok (.aload_n 0, 1) := by decide +kernel
theorem dX1_aimAt_17 : decode cX1_aimAt 17 = .ok (.aload_n 1, 1) := by decide +kernel
theorem dX1_aimAt_18 : decode cX1_aimAt 18 = .ok (.iload_n 3, 1) := by decide +kernel
theorem dX1_aimAt_19 : decode cX1_aimAt 19 = .ok (.iload_n 2, 1) := by decide +kernel
theorem dX1_aimAt_20 : decode cX1_aimAt 20 = .ok (.invokevirtual 90, 3) := by decide +kernel
theorem dX1_aimAt_23 : decode cX1_aimAt 23 = .ok (.iastore, 1) := by decide +kernel
theorem dX1_aimAt_24 : decode cX1_aimAt 24 = .ok (.iinc 3 1, 3) := by decide +kernel
theorem dX1_aimAt_27 : decode cX1_aimAt 27 = .ok (.goto (-25), 3) := by decide +kernel
theorem dX1_aimAt_30 : decode cX1_aimAt 30 = .ok (.return_, 1) := by decide +kernel
theorem dX1_closest_0 : decode cX1_closest 0 = .ok (.iload_n 2, 1) := by decide +kernel
theorem dX1_closest_1 : decode cX1_closest 1 = .ok (.ifCond .lt 12, 3) := by decide +kernel
theorem dX1_closest_4 : decode cX1_closest 4 = .ok (.iload_n 2, 1) := by decide +kernel
theorem dX1_closest_5 : decode cX1_closest 5 = .ok (.aload_n 0, 1) := by decide +kernel
theorem dX1_closest_6 : decode cX1_closest 6 = .ok (.getfield 9, 3) := by decide +kernel
theorem dX1_closest_9 : decode cX1_closest 9 = .ok (.arraylength, 1) := by decide +kernel
theorem dX1_closest_10 : decode cX1_closest 10 = .ok (.if_icmp .lt 5, 3) := by decide +kernel
theorem dX1_closest_13 : decode cX1_closest 13 = .ok (.iconst (-1), 1) := by decide +kernel
theorem dX1_closest_14 : decode cX1_closest 14 = .ok (.ireturn, 1) := by decide +kernel
theorem dX1_closest_15 : decode cX1_closest 15 = .ok (.aload_n 0, 1) := by decide +kernel
theorem dX1_closest_16 : decode cX1_closest 16 = .ok (.getfield 9, 3) := by decide +kernel
theorem dX1_closest_19 : decode cX1_closest 19 = .ok (.iload_n 2, 1) := by decide +kernel
theorem dX1_closest_20 : decode cX1_closest 20 = .ok (.laload, 1) := by decide +kernel
theorem dX1_closest_21 : decode cX1_closest 21 = .ok (.lstore 4, 2) := by decide +kernel
theorem dX1_closest_23 : decode cX1_closest 23 = .ok (.iconst (-1), 1) := by decide +kernel
theorem dX1_closest_24 : decode cX1_closest 24 = .ok (.istore 6, 2) := by decide +kernel
theorem dX1_closest_26 : decode cX1_closest 26 = .ok (.aload_n 1, 1) := by decide +kernel
theorem dX1_closest_27 : decode cX1_closest 27 = .ok (.iload_n 2, 1) := by decide +kernel
theorem dX1_closest_28 : decode cX1_closest 28 = .ok (.iload_n 3, 1) := by decide +kernel
theorem dX1_closest_29 : decode cX1_closest 29 = .ok (.invokevirtual 94, 3) := by decide +kernel
theorem dX1_closest_32 : decode cX1_closest 32 = .ok (.istore 7, 2) := by decide +kernel
theorem dX1_closest_34 : decode cX1_closest 34 = .ok (.iconst 0, 1) := by decide +kernel
theorem dX1_closest_35 : decode cX1_closest 35 = .ok (.istore 8, 2) := by decide +kernel
theorem dX1_closest_37 : decode cX1_closest 37 = .ok (.iload 8, 2) := by decide +kernel
theorem dX1_closest_39 : decode cX1_closest 39 = .ok (.bipush 49, 2) := by decide +kernel
theorem dX1_closest_41 : decode cX1_closest 41 = .ok (.if_icmp .ge 44, 3) := by decide +kernel
theorem dX1_closest_44 : decode cX1_closest 44 = .ok (.lload 4, 2) := by decide +kernel
theorem dX1_closest_46 : decode cX1_closest 46 = .ok (.iload 8, 2) := by decide +kernel
theorem dX1_closest_48 : decode cX1_closest 48 = .ok (.invokestatic 56, 3) := by decide +kernel
theorem dX1_closest_51 : decode cX1_closest 51 = .ok (.ifCond .eq 28, 3) := by decide +kernel
theorem dX1_closest_54 : decode cX1_closest 54 = .ok (.aload_n 1, 1) := by decide +kernel
theorem dX1_closest_55 : decode cX1_closest 55 = .ok (.iload 8, 2) := by decide +kernel
theorem dX1_closest_57 : decode cX1_closest 57 = .ok (.iload_n 3, 1) := by decide +kernel
theorem dX1_closest_58 : decode cX1_closest 58 = .ok (.invokevirtual 94, 3) := by decide +kernel
theorem dX1_closest_61 : decode cX1_closest 61 = .ok (.iload 7, 2) := by decide +kernel
theorem dX1_closest_63 : decode cX1_closest 63 = .ok (.if_icmp .ge 16, 3) := by decide +kernel
theorem dX1_closest_66 : decode cX1_closest 66 = .ok (.aload_n 1, 1) := by decide +kernel
theorem dX1_closest_67 : decode cX1_closest 67 = .ok (.iload 8, 2) := by decide +kernel
theorem dX1_closest_69 : decode cX1_closest 69 = .ok (.iload_n 3, 1) := by decide +kernel
theorem dX1_closest_70 : decode cX1_closest 70 = .ok (.invokevirtual 94, 3) := by decide +kernel
theorem dX1_closest_73 : decode cX1_closest 73 = .ok (.istore 7, 2) := by decide +kernel
theorem dX1_closest_75 : decode cX1_closest 75 = .ok (.iload 8, 2) := by decide +kernel
theorem dX1_closest_77 : decode cX1_closest 77 = .ok (.istore 6, 2) := by decide +kernel
theorem dX1_closest_79 : decode cX1_closest 79 = .ok (.iinc 8 1, 3) := by decide +kernel
theorem dX1_closest_82 : decode cX1_closest 82 = .ok (.goto (-45), 3) := by decide +kernel
theorem dX1_closest_85 : decode cX1_closest 85 = .ok (.iload 6, 2) := by decide +kernel
theorem dX1_closest_87 : decode cX1_closest 87 = .ok (.ireturn, 1) := by decide +kernel
theorem dX1_follow_0 : decode cX1_follow 0 = .ok (.iload_n 1, 1) := by decide +kernel
theorem dX1_follow_1 : decode cX1_follow 1 = .ok (.istore_n 3, 1) := by decide +kernel
theorem dX1_follow_2 : decode cX1_follow 2 = .ok (.aload_n 0, 1) := by decide +kernel
theorem dX1_follow_3 : decode cX1_follow 3 = .ok (.iconst 0, 1) := by decide +kernel
theorem dX1_follow_4 : decode cX1_follow 4 = .ok (.putfield 31, 3) := by decide +kernel
theorem dX1_follow_7 : decode cX1_follow 7 = .ok (.aload_n 0, 1) := by decide +kernel
theorem dX1_follow_8 : decode cX1_follow 8 = .ok (.getfield 31, 3) := by decide +kernel
theorem dX1_follow_11 : decode cX1_follow 11 = .ok (.aload_n 0, 1) := by decide +kernel
theorem dX1_follow_12 : decode cX1_follow 12 = .ok (.getfield 25, 3) := by decide +kernel
theorem dX1_follow_15 : decode cX1_follow 15 = .ok (.arraylength, 1) := by decide +kernel
theorem dX1_follow_16 : decode cX1_follow 16 = .ok (.if_icmp .ge 53, 3) := by decide +kernel
theorem dX1_follow_19 : decode cX1_follow 19 = .ok (.iload_n 3, 1) := by decide +kernel
theorem dX1_follow_20 : decode cX1_follow 20 = .ok (.ifCond .lt 49, 3) := by decide +kernel
theorem dX1_follow_23 : decode cX1_follow 23 = .ok (.iload_n 3, 1) := by decide +kernel
theorem dX1_follow_24 : decode cX1_follow 24 = .ok (.aload_n 0, 1) := by decide +kernel
theorem dX1_follow_25 : decode cX1_follow 25 = .ok (.getfield 22, 3) := by decide +kernel
theorem dX1_follow_28 : decode cX1_follow 28 = .ok (.arraylength, 1) := by decide +kernel
theorem dX1_follow_29 : decode cX1_follow 29 = .ok (.if_icmp .ge 40, 3) := by decide +kernel
theorem dX1_follow_32 : decode cX1_follow 32 = .ok (.aload_n 0, 1) := by decide +kernel
theorem dX1_follow_33 : decode cX1_follow 33 = .ok (.getfield 25, 3) := by decide +kernel
theorem dX1_follow_36 : decode cX1_follow 36 = .ok (.aload_n 0, 1) := by decide +kernel
theorem dX1_follow_37 : decode cX1_follow 37 = .ok (.getfield 31, 3) := by decide +kernel
theorem dX1_follow_40 : decode cX1_follow 40 = .ok (.iload_n 3, 1) := by decide +kernel
theorem dX1_follow_41 : decode cX1_follow 41 = .ok (.iastore, 1) := by decide +kernel
theorem dX1_follow_42 : decode cX1_follow 42 = .ok (.aload_n 0, 1) := by decide +kernel
theorem dX1_follow_43 : decode cX1_follow 43 = .ok (.dup, 1) := by decide +kernel
theorem dX1_follow_44 : decode cX1_follow 44 = .ok (.getfield 31, 3) := by decide +kernel
theorem dX1_follow_47 : decode cX1_follow 47 = .ok (.iconst 1, 1) := by decide +kernel
theorem dX1_follow_48 : decode cX1_follow 48 = .ok (.iadd, 1) := by decide +kernel
theorem dX1_follow_49 : decode cX1_follow 49 = .ok (.putfield 31, 3) := by decide +kernel
theorem dX1_follow_52 : decode cX1_follow 52 = .ok (.iload_n 3, 1) := by decide +kernel
theorem dX1_follow_53 : decode cX1_follow 53 = .ok (.iload_n 2, 1) := by decide +kernel
theorem dX1_follow_54 : decode cX1_follow 54 = .ok (.if_icmp .ne 5, 3) := by decide +kernel
theorem dX1_follow_57 : decode cX1_follow 57 = .ok (.iconst 1, 1) := by decide +kernel
theorem dX1_follow_58 : decode cX1_follow 58 = .ok (.ireturn, 1) := by decide +kernel
theorem dX1_follow_59 : decode cX1_follow 59 = .ok (.aload_n 0, 1) := by decide +kernel
theorem dX1_follow_60 : decode cX1_follow 60 = .ok (.getfield 22, 3) := by decide +kernel
theorem dX1_follow_63 : decode cX1_follow 63 = .ok (.iload_n 3, 1) := by decide +kernel
theorem dX1_follow_64 : decode cX1_follow 64 = .ok (.iaload, 1) := by decide +kernel
theorem dX1_follow_65 : decode cX1_follow 65 = .ok (.istore_n 3, 1) := by decide +kernel
theorem dX1_follow_66 : decode cX1_follow 66 = .ok (.goto (-59), 3) := by decide +kernel
theorem dX1_follow_69 : decode cX1_follow 69 = .ok (.iconst 0, 1) := by decide +kernel
theorem dX1_follow_70 : decode cX1_follow 70 = .ok (.ireturn, 1) := by decide +kernel
theorem dX1_steps_0 : decode cX1_steps 0 = .ok (.aload_n 0, 1) := by decide +kernel
theorem dX1_steps_1 : decode cX1_steps 1 = .ok (.getfield 31, 3) := by decide +kernel
theorem dX1_steps_4 : decode cX1_steps 4 = .ok (.iconst 1, 1) := by decide +kernel
theorem dX1_steps_5 : decode cX1_steps 5 = .ok (.isub, 1) := by decide +kernel
theorem dX1_steps_6 : decode cX1_steps 6 = .ok (.ireturn, 1) := by decide +kernel
theorem dX1_trailAt_0 : decode cX1_trailAt 0 = .ok (.aload_n 0, 1) := by decide +kernel
theorem dX1_trailAt_1 : decode cX1_trailAt 1 = .ok (.getfield 25, 3) := by decide +kernel
theorem dX1_trailAt_4 : decode cX1_trailAt 4 = .ok (.iload_n 1, 1) := by decide +kernel
theorem dX1_trailAt_5 : decode cX1_trailAt 5 = .ok (.invokestatic 97, 3) := by decide +kernel
theorem dX1_trailAt_8 : decode cX1_trailAt 8 = .ok (.ireturn, 1) := by decide +kernel
theorem dX1_takeMeasures_0 : decode cX1_takeMeasures 0 = .ok (.aload_n 0, 1) := by decide +kernel
theorem dX1_takeMeasures_1 : decode cX1_takeMeasures 1 = .ok (.aload_n 1, 1) := by decide +kernel
theorem dX1_takeMeasures_2 : decode cX1_takeMeasures 2 = .ok (.invokevirtual 64, 3) := by decide +kernel
theorem dX1_takeMeasures_5 : decode cX1_takeMeasures 5 = .ok (.iconst 0, 1) := by decide +kernel
theorem dX1_takeMeasures_6 : decode cX1_takeMeasures 6 = .ok (.istore_n 2, 1) := by decide +kernel
theorem dX1_takeMeasures_7 : decode cX1_takeMeasures 7 = .ok (.iload_n 2, 1) := by decide +kernel
theorem dX1_takeMeasures_8 : decode cX1_takeMeasures 8 = .ok (.aload_n 0, 1) := by decide +kernel
theorem dX1_takeMeasures_9 : decode cX1_takeMeasures 9 = .ok (.getfield 28, 3) := by decide +kernel
theorem dX1_takeMeasures_12 : decode cX1_takeMeasures 12 = .ok (.arraylength, 1) := by decide +kernel
theorem dX1_takeMeasures_13 : decode cX1_takeMeasures 13 = .ok (.if_icmp .ge 16, 3) := by decide +kernel
theorem dX1_takeMeasures_16 : decode cX1_takeMeasures 16 = .ok (.aload_n 0, 1) := by decide +kernel
theorem dX1_takeMeasures_17 : decode cX1_takeMeasures 17 = .ok (.getfield 28, 3) := by decide +kernel
theorem dX1_takeMeasures_20 : decode cX1_takeMeasures 20 = .ok (.iload_n 2, 1) := by decide +kernel
theorem dX1_takeMeasures_21 : decode cX1_takeMeasures 21 = .ok (.iconst 0, 1) := by decide +kernel
theorem dX1_takeMeasures_22 : decode cX1_takeMeasures 22 = .ok (.iastore, 1) := by decide +kernel
theorem dX1_takeMeasures_23 : decode cX1_takeMeasures 23 = .ok (.iinc 2 1, 3) := by decide +kernel
theorem dX1_takeMeasures_26 : decode cX1_takeMeasures 26 = .ok (.goto (-19), 3) := by decide +kernel
theorem dX1_takeMeasures_29 : decode cX1_takeMeasures 29 = .ok (.iconst 0, 1) := by decide +kernel
theorem dX1_takeMeasures_30 : decode cX1_takeMeasures 30 = .ok (.istore_n 2, 1) := by decide +kernel
theorem dX1_takeMeasures_31 : decode cX1_takeMeasures 31 = .ok (.iload_n 2, 1) := by decide +kernel
theorem dX1_takeMeasures_32 : decode cX1_takeMeasures 32 = .ok (.aload_n 1, 1) := by decide +kernel
theorem dX1_takeMeasures_33 : decode cX1_takeMeasures 33 = .ok (.invokevirtual 68, 3) := by decide +kernel
theorem dX1_takeMeasures_36 : decode cX1_takeMeasures 36 = .ok (.if_icmp .ge 34, 3) := by decide +kernel
theorem dX1_takeMeasures_39 : decode cX1_takeMeasures 39 = .ok (.aload_n 1, 1) := by decide +kernel
theorem dX1_takeMeasures_40 : decode cX1_takeMeasures 40 = .ok (.iload_n 2, 1) := by decide +kernel
theorem dX1_takeMeasures_41 : decode cX1_takeMeasures 41 = .ok (.invokevirtual 35, 3) := by decide +kernel
theorem dX1_takeMeasures_44 : decode cX1_takeMeasures 44 = .ok (.ifCond .eq 20, 3) := by decide +kernel
theorem dX1_takeMeasures_47 : decode cX1_takeMeasures 47 = .ok (.aload_n 0, 1) := by decide +kernel
theorem dX1_takeMeasures_48 : decode cX1_takeMeasures 48 = .ok (.iload_n 2, 1) := by decide +kernel
theorem dX1_takeMeasures_49 : decode cX1_takeMeasures 49 = .ok (.invokevirtual 72, 3) := by decide +kernel
theorem dX1_takeMeasures_52 : decode cX1_takeMeasures 52 = .ok (.aload_n 0, 1) := by decide +kernel
theorem dX1_takeMeasures_53 : decode cX1_takeMeasures 53 = .ok (.aload_n 1, 1) := by decide +kernel
theorem dX1_takeMeasures_54 : decode cX1_takeMeasures 54 = .ok (.iload_n 2, 1) := by decide +kernel
theorem dX1_takeMeasures_55 : decode cX1_takeMeasures 55 = .ok (.invokevirtual 82, 3) := by decide +kernel
theorem dX1_takeMeasures_58 : decode cX1_takeMeasures 58 = .ok (.aload_n 0, 1) := by decide +kernel
theorem dX1_takeMeasures_59 : decode cX1_takeMeasures 59 = .ok (.aload_n 1, 1) := by decide +kernel
theorem dX1_takeMeasures_60 : decode cX1_takeMeasures 60 = .ok (.iload_n 2, 1) := by decide +kernel
theorem dX1_takeMeasures_61 : decode cX1_takeMeasures 61 = .ok (.invokevirtual 101, 3) := by decide +kernel
theorem dX1_takeMeasures_64 : decode cX1_takeMeasures 64 = .ok (.iinc 2 1, 3) := by decide +kernel
theorem dX1_takeMeasures_67 : decode cX1_takeMeasures 67 = .ok (.goto (-36), 3) := by decide +kernel
theorem dX1_takeMeasures_70 : decode cX1_takeMeasures 70 = .ok (.return_, 1) := by decide +kernel
theorem dX1_addPairsWithEnd_0 : decode cX1_addPairsWithEnd 0 = .ok (.iconst 0, 1) := by decide +kernel
theorem dX1_addPairsWithEnd_1 : decode cX1_addPairsWithEnd 1 = .ok (.istore_n 3, 1) := by decide +kernel
theorem dX1_addPairsWithEnd_2 : decode cX1_addPairsWithEnd 2 = .ok (.iload_n 3, 1) := by decide +kernel
theorem dX1_addPairsWithEnd_3 : decode cX1_addPairsWithEnd 3 = .ok (.aload_n 1, 1) := by decide +kernel
theorem dX1_addPairsWithEnd_4 : decode cX1_addPairsWithEnd 4 = .ok (.invokevirtual 68, 3) := by decide +kernel
theorem dX1_addPairsWithEnd_7 : decode cX1_addPairsWithEnd 7 = .ok (.if_icmp .ge 28, 3) := by decide +kernel
theorem dX1_addPairsWithEnd_10 : decode cX1_addPairsWithEnd 10 = .ok (.iload_n 3, 1) := by decide +kernel
theorem dX1_addPairsWithEnd_11 : decode cX1_addPairsWithEnd 11 = .ok (.iload_n 2, 1) := by decide +kernel
theorem dX1_addPairsWithEnd_12 : decode cX1_addPairsWithEnd 12 = .ok (.if_icmp .eq 17, 3) := by decide +kernel
theorem dX1_addPairsWithEnd_15 : decode cX1_addPairsWithEnd 15 = .ok (.aload_n 1, 1) := by decide +kernel
theorem dX1_addPairsWithEnd_16 : decode cX1_addPairsWithEnd 16 = .ok (.iload_n 3, 1) := by decide +kernel
theorem dX1_addPairsWithEnd_17 : decode cX1_addPairsWithEnd 17 = .ok (.invokevirtual 35, 3) := by decide +kernel
theorem dX1_addPairsWithEnd_20 : decode cX1_addPairsWithEnd 20 = .ok (.ifCond .eq 9, 3) := by decide +kernel
theorem dX1_addPairsWithEnd_23 : decode cX1_addPairsWithEnd 23 = .ok (.aload_n 0, 1) := by decide +kernel
theorem dX1_addPairsWithEnd_24 : decode cX1_addPairsWithEnd 24 = .ok (.iload_n 3, 1) := by decide +kernel
theorem dX1_addPairsWithEnd_25 : decode cX1_addPairsWithEnd 25 = .ok (.iload_n 2, 1) := by decide +kernel
theorem dX1_addPairsWithEnd_26 : decode cX1_addPairsWithEnd 26 = .ok (.invokevirtual 104, 3) := by decide +kernel
theorem dX1_addPairsWithEnd_29 : decode cX1_addPairsWithEnd 29 = .ok (.iinc 3 1, 3) := by decide +kernel
theorem dX1_addPairsWithEnd_32 : decode cX1_addPairsWithEnd 32 = .ok (.goto (-30), 3) := by decide +kernel
theorem dX1_addPairsWithEnd_35 : decode cX1_addPairsWithEnd 35 = .ok (.return_, 1) := by decide +kernel
theorem dX1_addPair_0 : decode cX1_addPair 0 = .ok (.aload_n 0, 1) := by decide +kernel
theorem dX1_addPair_1 : decode cX1_addPair 1 = .ok (.iload_n 1, 1) := by decide +kernel
theorem dX1_addPair_2 : decode cX1_addPair 2 = .ok (.invokevirtual 60, 3) := by decide +kernel
theorem dX1_addPair_5 : decode cX1_addPair 5 = .ok (.istore_n 3, 1) := by decide +kernel
theorem dX1_addPair_6 : decode cX1_addPair 6 = .ok (.aload_n 0, 1) := by decide +kernel
theorem dX1_addPair_7 : decode cX1_addPair 7 = .ok (.iconst 0, 1) := by decide +kernel
theorem dX1_addPair_8 : decode cX1_addPair 8 = .ok (.iconst 1, 1) := by decide +kernel
theorem dX1_addPair_9 : decode cX1_addPair 9 = .ok (.invokevirtual 108, 3) := by decide +kernel
theorem dX1_addPair_12 : decode cX1_addPair 12 = .ok (.iload_n 3, 1) := by decide +kernel
theorem dX1_addPair_13 : decode cX1_addPair 13 = .ok (.iconst (-1), 1) := by decide +kernel
theorem dX1_addPair_14 : decode cX1_addPair 14 = .ok (.if_icmp .eq 21, 3) := by decide +kernel
theorem dX1_addPair_17 : decode cX1_addPair 17 = .ok (.aload_n 0, 1) := by decide +kernel
theorem dX1_addPair_18 : decode cX1_addPair 18 = .ok (.iconst 1, 1) := by decide +kernel
theorem dX1_addPair_19 : decode cX1_addPair 19 = .ok (.iconst 1, 1) := by decide +kernel
theorem dX1_addPair_20 : decode cX1_addPair 20 = .ok (.invokevirtual 108, 3) := by decide +kernel
theorem dX1_addPair_23 : decode cX1_addPair 23 = .ok (.aload_n 0, 1) := by decide +kernel
theorem dX1_addPair_24 : decode cX1_addPair 24 = .ok (.iconst 2, 1) := by decide +kernel
theorem dX1_addPair_25 : decode cX1_addPair 25 = .ok (.iload_n 3, 1) := by decide +kernel
theorem dX1_addPair_26 : decode cX1_addPair 26 = .ok (.invokevirtual 111, 3) := by decide +kernel
theorem dX1_addPair_29 : decode cX1_addPair 29 = .ok (.aload_n 0, 1) := by decide +kernel
theorem dX1_addPair_30 : decode cX1_addPair 30 = .ok (.iconst 3, 1) := by decide +kernel
theorem dX1_addPair_31 : decode cX1_addPair 31 = .ok (.iload_n 3, 1) := by decide +kernel
theorem dX1_addPair_32 : decode cX1_addPair 32 = .ok (.invokevirtual 108, 3) := by decide +kernel
theorem dX1_addPair_35 : decode cX1_addPair 35 = .ok (.aload_n 0, 1) := by decide +kernel
theorem dX1_addPair_36 : decode cX1_addPair 36 = .ok (.iload_n 1, 1) := by decide +kernel
theorem dX1_addPair_37 : decode cX1_addPair 37 = .ok (.iload_n 2, 1) := by decide +kernel
theorem dX1_addPair_38 : decode cX1_addPair 38 = .ok (.invokevirtual 86, 3) := by decide +kernel
theorem dX1_addPair_41 : decode cX1_addPair 41 = .ok (.ifCond .eq 47, 3) := by decide +kernel
theorem dX1_addPair_44 : decode cX1_addPair 44 = .ok (.aload_n 0, 1) := by decide +kernel
theorem dX1_addPair_45 : decode cX1_addPair 45 = .ok (.iconst 4, 1) := by decide +kernel
theorem dX1_addPair_46 : decode cX1_addPair 46 = .ok (.iconst 1, 1) := by decide +kernel
theorem dX1_addPair_47 : decode cX1_addPair 47 = .ok (.invokevirtual 108, 3) := by decide +kernel
theorem dX1_addPair_50 : decode cX1_addPair 50 = .ok (.aload_n 0, 1) := by decide +kernel
theorem dX1_addPair_51 : decode cX1_addPair 51 = .ok (.iconst 5, 1) := by decide +kernel
theorem dX1_addPair_52 : decode cX1_addPair 52 = .ok (.aload_n 0, 1) := by decide +kernel
theorem dX1_addPair_53 : decode cX1_addPair 53 = .ok (.invokevirtual 114, 3) := by decide +kernel
theorem dX1_addPair_56 : decode cX1_addPair 56 = .ok (.invokevirtual 111, 3) := by decide +kernel
theorem dX1_addPair_59 : decode cX1_addPair 59 = .ok (.aload_n 0, 1) := by decide +kernel
theorem dX1_addPair_60 : decode cX1_addPair 60 = .ok (.bipush 6, 2) := by decide +kernel
theorem dX1_addPair_62 : decode cX1_addPair 62 = .ok (.aload_n 0, 1) := by decide +kernel
theorem dX1_addPair_63 : decode cX1_addPair 63 = .ok (.invokevirtual 114, 3) := by decide +kernel
theorem dX1_addPair_66 : decode cX1_addPair 66 = .ok (.invokevirtual 108, 3) := by decide +kernel
theorem dX1_addPair_69 : decode cX1_addPair 69 = .ok (.aload_n 0, 1) := by decide +kernel
theorem dX1_addPair_70 : decode cX1_addPair 70 = .ok (.bipush 7, 2) := by decide +kernel
theorem dX1_addPair_72 : decode cX1_addPair 72 = .ok (.aload_n 0, 1) := by decide +kernel
theorem dX1_addPair_73 : decode cX1_addPair 73 = .ok (.invokevirtual 114, 3) := by decide +kernel
theorem dX1_addPair_76 : decode cX1_addPair 76 = .ok (.iload_n 3, 1) := by decide +kernel
theorem dX1_addPair_77 : decode cX1_addPair 77 = .ok (.if_icmp .ne 7, 3) := by decide +kernel
theorem dX1_addPair_80 : decode cX1_addPair 80 = .ok (.iconst 1, 1) := by decide +kernel
theorem dX1_addPair_81 : decode cX1_addPair 81 = .ok (.goto 4, 3) := by decide +kernel
theorem dX1_addPair_84 : decode cX1_addPair 84 = .ok (.iconst 0, 1) := by decide +kernel
theorem dX1_addPair_85 : decode cX1_addPair 85 = .ok (.invokevirtual 108, 3) := by decide +kernel
theorem dX1_addPair_88 : decode cX1_addPair 88 = .ok (.return_, 1) := by decide +kernel
theorem dX1_add_0 : decode cX1_add 0 = .ok (.aload_n 0, 1) := by decide +kernel
theorem dX1_add_1 : decode cX1_add 1 = .ok (.getfield 28, 3) := by decide +kernel
theorem dX1_add_4 : decode cX1_add 4 = .ok (.iload_n 1, 1) := by decide +kernel
theorem dX1_add_5 : decode cX1_add 5 = .ok (.aload_n 0, 1) := by decide +kernel
theorem dX1_add_6 : decode cX1_add 6 = .ok (.iload_n 1, 1) := by decide +kernel
theorem dX1_add_7 : decode cX1_add 7 = .ok (.invokevirtual 117, 3) := by decide +kernel
theorem dX1_add_10 : decode cX1_add 10 = .ok (.iload_n 2, 1) := by decide +kernel
theorem dX1_add_11 : decode cX1_add 11 = .ok (.iadd, 1) := by decide +kernel
theorem dX1_add_12 : decode cX1_add 12 = .ok (.invokestatic 120, 3) := by decide +kernel
theorem dX1_add_15 : decode cX1_add 15 = .ok (.return_, 1) := by decide +kernel
theorem dX1_raise_0 : decode cX1_raise 0 = .ok (.aload_n 0, 1) := by decide +kernel
theorem dX1_raise_1 : decode cX1_raise 1 = .ok (.getfield 28, 3) := by decide +kernel
theorem dX1_raise_4 : decode cX1_raise 4 = .ok (.iload_n 1, 1) := by decide +kernel
theorem dX1_raise_5 : decode cX1_raise 5 = .ok (.aload_n 0, 1) := by decide +kernel
theorem dX1_raise_6 : decode cX1_raise 6 = .ok (.iload_n 1, 1) := by decide +kernel
theorem dX1_raise_7 : decode cX1_raise 7 = .ok (.invokevirtual 117, 3) := by decide +kernel
theorem dX1_raise_10 : decode cX1_raise 10 = .ok (.iload_n 2, 1) := by decide +kernel
theorem dX1_raise_11 : decode cX1_raise 11 = .ok (.invokestatic 76, 3) := by decide +kernel
theorem dX1_raise_14 : decode cX1_raise 14 = .ok (.invokestatic 120, 3) := by decide +kernel
theorem dX1_raise_17 : decode cX1_raise 17 = .ok (.return_, 1) := by decide +kernel
theorem dX1_measured_0 : decode cX1_measured 0 = .ok (.aload_n 0, 1) := by decide +kernel
theorem dX1_measured_1 : decode cX1_measured 1 = .ok (.getfield 28, 3) := by decide +kernel
theorem dX1_measured_4 : decode cX1_measured 4 = .ok (.iload_n 1, 1) := by decide +kernel
theorem dX1_measured_5 : decode cX1_measured 5 = .ok (.invokestatic 97, 3) := by decide +kernel
theorem dX1_measured_8 : decode cX1_measured 8 = .ok (.ireturn, 1) := by decide +kernel
