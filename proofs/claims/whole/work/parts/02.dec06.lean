theorem dX0_init_0 : decode cX0_init 0 = .ok (.aload_n 0, 1) := by decide +kernel
theorem dX0_init_1 : decode cX0_init 1 = .ok (.invokespecial 3, 3) := by decide +kernel
theorem dX0_init_4 : decode cX0_init 4 = .ok (.aload_n 0, 1) := by decide +kernel
theorem dX0_init_5 : decode cX0_init 5 = .ok (.bipush 20, 2) := by decide +kernel
theorem dX0_init_7 : decode cX0_init 7 = .ok (.newarray .int, 2) := by decide +kernel
theorem dX0_init_9 : decode cX0_init 9 = .ok (.putfield 9, 3) := by decide +kernel
theorem dX0_init_12 : decode cX0_init 12 = .ok (.return_, 1) := by decide +kernel
theorem dX0_perform_0 : decode cX0_perform 0 = .ok (.aload_n 0, 1) := by decide +kernel
theorem dX0_perform_1 : decode cX0_perform 1 = .ok (.iload_n 1, 1) := by decide +kernel
theorem dX0_perform_2 : decode cX0_perform 2 = .ok (.putfield 15, 3) := by decide +kernel
theorem dX0_perform_5 : decode cX0_perform 5 = .ok (.aload_n 0, 1) := by decide +kernel
theorem dX0_perform_6 : decode cX0_perform 6 = .ok (.iload_n 2, 1) := by decide +kernel
theorem dX0_perform_7 : decode cX0_perform 7 = .ok (.putfield 19, 3) := by decide +kernel
theorem dX0_perform_10 : decode cX0_perform 10 = .ok (.aload_n 0, 1) := by decide +kernel
theorem dX0_perform_11 : decode cX0_perform 11 = .ok (.iload_n 3, 1) := by decide +kernel
theorem dX0_perform_12 : decode cX0_perform 12 = .ok (.putfield 22, 3) := by decide +kernel
theorem dX0_perform_15 : decode cX0_perform 15 = .ok (.iload 4, 2) := by decide +kernel
theorem dX0_perform_17 : decode cX0_perform 17 = .ok (.tableswitch 60 0 2 #[27, 38, 49], 27) := by decide +kernel
theorem dX0_perform_44 : decode cX0_perform 44 = .ok (.aload_n 0, 1) := by decide +kernel
theorem dX0_perform_45 : decode cX0_perform 45 = .ok (.aload_n 0, 1) := by decide +kernel
theorem dX0_perform_46 : decode cX0_perform 46 = .ok (.getfield 15, 3) := by decide +kernel
theorem dX0_perform_49 : decode cX0_perform 49 = .ok (.iload 5, 2) := by decide +kernel
theorem dX0_perform_51 : decode cX0_perform 51 = .ok (.invokevirtual 25, 3) := by decide +kernel
theorem dX0_perform_54 : decode cX0_perform 54 = .ok (.ireturn, 1) := by decide +kernel
theorem dX0_perform_55 : decode cX0_perform 55 = .ok (.aload_n 0, 1) := by decide +kernel
theorem dX0_perform_56 : decode cX0_perform 56 = .ok (.aload_n 0, 1) := by decide +kernel
theorem dX0_perform_57 : decode cX0_perform 57 = .ok (.getfield 15, 3) := by decide +kernel
theorem dX0_perform_60 : decode cX0_perform 60 = .ok (.iload 5, 2) := by decide +kernel
theorem dX0_perform_62 : decode cX0_perform 62 = .ok (.invokevirtual 29, 3) := by decide +kernel
theorem dX0_perform_65 : decode cX0_perform 65 = .ok (.ireturn, 1) := by decide +kernel
theorem dX0_perform_66 : decode cX0_perform 66 = .ok (.aload_n 0, 1) := by decide +kernel
theorem dX0_perform_67 : decode cX0_perform 67 = .ok (.aload_n 0, 1) := by decide +kernel
theorem dX0_perform_68 : decode cX0_perform 68 = .ok (.getfield 15, 3) := by decide +kernel
theorem dX0_perform_71 : decode cX0_perform 71 = .ok (.iload 5, 2) := by decide +kernel
theorem dX0_perform_73 : decode cX0_perform 73 = .ok (.invokevirtual 32, 3) := by decide +kernel
theorem dX0_perform_76 : decode cX0_perform 76 = .ok (.ireturn, 1) := by decide +kernel
theorem dX0_perform_77 : decode cX0_perform 77 = .ok (.iconst 0, 1) := by decide +kernel
theorem dX0_perform_78 : decode cX0_perform 78 = .ok (.ireturn, 1) := by decide +kernel
theorem dX0_begin_0 : decode cX0_begin 0 = .ok (.aload_n 0, 1) := by decide +kernel
theorem dX0_begin_1 : decode cX0_begin 1 = .ok (.getfield 35, 3) := by decide +kernel
theorem dX0_begin_4 : decode cX0_begin 4 = .ok (.bipush 20, 2) := by decide +kernel
theorem dX0_begin_6 : decode cX0_begin 6 = .ok (.if_icmp .ge 13, 3) := by decide +kernel
theorem dX0_begin_9 : decode cX0_begin 9 = .ok (.aload_n 0, 1) := by decide +kernel
theorem dX0_begin_10 : decode cX0_begin 10 = .ok (.getfield 9, 3) := by decide +kernel
theorem dX0_begin_13 : decode cX0_begin 13 = .ok (.aload_n 0, 1) := by decide +kernel
theorem dX0_begin_14 : decode cX0_begin 14 = .ok (.getfield 35, 3) := by decide +kernel
theorem dX0_begin_17 : decode cX0_begin 17 = .ok (.iload_n 1, 1) := by decide +kernel
theorem dX0_begin_18 : decode cX0_begin 18 = .ok (.iastore, 1) := by decide +kernel
theorem dX0_begin_19 : decode cX0_begin 19 = .ok (.aload_n 0, 1) := by decide +kernel
theorem dX0_begin_20 : decode cX0_begin 20 = .ok (.dup, 1) := by decide +kernel
theorem dX0_begin_21 : decode cX0_begin 21 = .ok (.getfield 35, 3) := by decide +kernel
theorem dX0_begin_24 : decode cX0_begin 24 = .ok (.iconst 1, 1) := by decide +kernel
theorem dX0_begin_25 : decode cX0_begin 25 = .ok (.iadd, 1) := by decide +kernel
theorem dX0_begin_26 : decode cX0_begin 26 = .ok (.putfield 35, 3) := by decide +kernel
theorem dX0_begin_29 : decode cX0_begin 29 = .ok (.return_, 1) := by decide +kernel
theorem dX0_creaks_0 : decode cX0_creaks 0 = .ok (.iload_n 1, 1) := by decide +kernel
theorem dX0_creaks_1 : decode cX0_creaks 1 = .ok (.tableswitch 82 2 6 #[67, 82, 53, 67, 35], 35) := by decide +kernel
theorem dX0_creaks_36 : decode cX0_creaks 36 = .ok (.aload_n 0, 1) := by decide +kernel
theorem dX0_creaks_37 : decode cX0_creaks 37 = .ok (.bipush 71, 2) := by decide +kernel
theorem dX0_creaks_39 : decode cX0_creaks 39 = .ok (.invokevirtual 38, 3) := by decide +kernel
theorem dX0_creaks_42 : decode cX0_creaks 42 = .ok (.aload_n 0, 1) := by decide +kernel
theorem dX0_creaks_43 : decode cX0_creaks 43 = .ok (.iconst 3, 1) := by decide +kernel
theorem dX0_creaks_44 : decode cX0_creaks 44 = .ok (.iload_n 2, 1) := by decide +kernel
theorem dX0_creaks_45 : decode cX0_creaks 45 = .ok (.invokevirtual 25, 3) := by decide +kernel
theorem dX0_creaks_48 : decode cX0_creaks 48 = .ok (.aload_n 0, 1) := by decide +kernel
theorem dX0_creaks_49 : decode cX0_creaks 49 = .ok (.getfield 22, 3) := by decide +kernel
theorem dX0_creaks_52 : decode cX0_creaks 52 = .ok (.ixor, 1) := by decide +kernel
theorem dX0_creaks_53 : decode cX0_creaks 53 = .ok (.ireturn, 1) := by decide +kernel
theorem dX0_creaks_54 : decode cX0_creaks 54 = .ok (.aload_n 0, 1) := by decide +kernel
theorem dX0_creaks_55 : decode cX0_creaks 55 = .ok (.bipush 50, 2) := by decide +kernel
theorem dX0_creaks_57 : decode cX0_creaks 57 = .ok (.invokevirtual 38, 3) := by decide +kernel
theorem dX0_creaks_60 : decode cX0_creaks 60 = .ok (.aload_n 0, 1) := by decide +kernel
theorem dX0_creaks_61 : decode cX0_creaks 61 = .ok (.iconst 1, 1) := by decide +kernel
theorem dX0_creaks_62 : decode cX0_creaks 62 = .ok (.iload_n 2, 1) := by decide +kernel
theorem dX0_creaks_63 : decode cX0_creaks 63 = .ok (.invokevirtual 25, 3) := by decide +kernel
theorem dX0_creaks_66 : decode cX0_creaks 66 = .ok (.ineg, 1) := by decide +kernel
theorem dX0_creaks_67 : decode cX0_creaks 67 = .ok (.ireturn, 1) := by decide +kernel
theorem dX0_creaks_68 : decode cX0_creaks 68 = .ok (.aload_n 0, 1) := by decide +kernel
theorem dX0_creaks_69 : decode cX0_creaks 69 = .ok (.bipush 30, 2) := by decide +kernel
theorem dX0_creaks_71 : decode cX0_creaks 71 = .ok (.invokevirtual 38, 3) := by decide +kernel
theorem dX0_creaks_74 : decode cX0_creaks 74 = .ok (.aload_n 0, 1) := by decide +kernel
theorem dX0_creaks_75 : decode cX0_creaks 75 = .ok (.iconst 0, 1) := by decide +kernel
theorem dX0_creaks_76 : decode cX0_creaks 76 = .ok (.iload_n 2, 1) := by decide +kernel
theorem dX0_creaks_77 : decode cX0_creaks 77 = .ok (.iconst 3, 1) := by decide +kernel
theorem dX0_creaks_78 : decode cX0_creaks 78 = .ok (.imul, 1) := by decide +kernel
theorem dX0_creaks_79 : decode cX0_creaks 79 = .ok (.invokevirtual 25, 3) := by decide +kernel
theorem dX0_creaks_82 : decode cX0_creaks 82 = .ok (.ireturn, 1) := by decide +kernel
theorem dX0_creaks_83 : decode cX0_creaks 83 = .ok (.aload_n 0, 1) := by decide +kernel
theorem dX0_creaks_84 : decode cX0_creaks 84 = .ok (.bipush 10, 2) := by decide +kernel
theorem dX0_creaks_86 : decode cX0_creaks 86 = .ok (.invokevirtual 38, 3) := by decide +kernel
theorem dX0_creaks_89 : decode cX0_creaks 89 = .ok (.iload_n 2, 1) := by decide +kernel
theorem dX0_creaks_90 : decode cX0_creaks 90 = .ok (.aload_n 0, 1) := by decide +kernel
theorem dX0_creaks_91 : decode cX0_creaks 91 = .ok (.getfield 19, 3) := by decide +kernel
theorem dX0_creaks_94 : decode cX0_creaks 94 = .ok (.iadd, 1) := by decide +kernel
theorem dX0_creaks_95 : decode cX0_creaks 95 = .ok (.ireturn, 1) := by decide +kernel
theorem dX0_rings_0 : decode cX0_rings 0 = .ok (.iload_n 1, 1) := by decide +kernel
theorem dX0_rings_1 : decode cX0_rings 1 = .ok (.lookupswitch 88 #[(1, 72), (4, 57), (6, 35)], 35) := by decide +kernel
theorem dX0_rings_36 : decode cX0_rings 36 = .ok (.aload_n 0, 1) := by decide +kernel
theorem dX0_rings_37 : decode cX0_rings 37 = .ok (.bipush 70, 2) := by decide +kernel
theorem dX0_rings_39 : decode cX0_rings 39 = .ok (.invokevirtual 38, 3) := by decide +kernel
theorem dX0_rings_42 : decode cX0_rings 42 = .ok (.aload_n 0, 1) := by decide +kernel
theorem dX0_rings_43 : decode cX0_rings 43 = .ok (.iconst 3, 1) := by decide +kernel
theorem dX0_rings_44 : decode cX0_rings 44 = .ok (.iload_n 2, 1) := by decide +kernel
theorem dX0_rings_45 : decode cX0_rings 45 = .ok (.invokevirtual 29, 3) := by decide +kernel
theorem dX0_rings_48 : decode cX0_rings 48 = .ok (.istore_n 3, 1) := by decide +kernel
theorem dX0_rings_49 : decode cX0_rings 49 = .ok (.iload_n 3, 1) := by decide +kernel
theorem dX0_rings_50 : decode cX0_rings 50 = .ok (.aload_n 0, 1) := by decide +kernel
theorem dX0_rings_51 : decode cX0_rings 51 = .ok (.iconst 3, 1) := by decide +kernel
theorem dX0_rings_52 : decode cX0_rings 52 = .ok (.iconst 2, 1) := by decide +kernel
theorem dX0_rings_53 : decode cX0_rings 53 = .ok (.invokevirtual 25, 3) := by decide +kernel
theorem dX0_rings_56 : decode cX0_rings 56 = .ok (.iadd, 1) := by decide +kernel
theorem dX0_rings_57 : decode cX0_rings 57 = .ok (.ireturn, 1) := by decide +kernel
theorem dX0_rings_58 : decode cX0_rings 58 = .ok (.aload_n 0, 1) := by decide +kernel
theorem dX0_rings_59 : decode cX0_rings 59 = .ok (.bipush 51, 2) := by decide +kernel
theorem dX0_rings_61 : decode cX0_rings 61 = .ok (.invokevirtual 38, 3) := by decide +kernel
theorem dX0_rings_64 : decode cX0_rings 64 = .ok (.aload_n 0, 1) := by decide +kernel
theorem dX0_rings_65 : decode cX0_rings 65 = .ok (.iconst 1, 1) := by decide +kernel
theorem dX0_rings_66 : decode cX0_rings 66 = .ok (.iload_n 2, 1) := by decide +kernel
theorem dX0_rings_67 : decode cX0_rings 67 = .ok (.iconst 1, 1) := by decide +kernel
theorem dX0_rings_68 : decode cX0_rings 68 = .ok (.iadd, 1) := by decide +kernel
theorem dX0_rings_69 : decode cX0_rings 69 = .ok (.invokevirtual 29, 3) := by decide +kernel
theorem dX0_rings_72 : decode cX0_rings 72 = .ok (.ireturn, 1) := by decide +kernel
theorem dX0_rings_73 : decode cX0_rings 73 = .ok (.aload_n 0, 1) := by decide +kernel
theorem dX0_rings_74 : decode cX0_rings 74 = .ok (.bipush 20, 2) := by decide +kernel
theorem dX0_rings_76 : decode cX0_rings 76 = .ok (.invokevirtual 38, 3) := by decide +kernel
theorem dX0_rings_79 : decode cX0_rings 79 = .ok (.aload_n 0, 1) := by decide +kernel
theorem dX0_rings_80 : decode cX0_rings 80 = .ok (.iconst 0, 1) := by decide +kernel
theorem dX0_rings_81 : decode cX0_rings 81 = .ok (.iload_n 2, 1) := by decide +kernel
theorem dX0_rings_82 : decode cX0_rings 82 = .ok (.invokevirtual 29, 3) := by decide +kernel
theorem dX0_rings_85 : decode cX0_rings 85 = .ok (.bipush 6, 2) := by decide +kernel
theorem dX0_rings_87 : decode cX0_rings 87 = .ok (.ixor, 1) := by decide +kernel
theorem dX0_rings_88 : decode cX0_rings 88 = .ok (.ireturn, 1) := by decide +kernel
theorem dX0_rings_89 : decode cX0_rings 89 = .ok (.aload_n 0, 1) := by decide +kernel
theorem dX0_rings_90 : decode cX0_rings 90 = .ok (.bipush 11, 2) := by decide +kernel
theorem dX0_rings_92 : decode cX0_rings 92 = .ok (.invokevirtual 38, 3) := by decide +kernel
theorem dX0_rings_95 : decode cX0_rings 95 = .ok (.aload_n 0, 1) := by decide +kernel
theorem dX0_rings_96 : decode cX0_rings 96 = .ok (.aload_n 0, 1) := by decide +kernel
theorem dX0_rings_97 : decode cX0_rings 97 = .ok (.getfield 15, 3) := by decide +kernel
theorem dX0_rings_100 : decode cX0_rings 100 = .ok (.iload_n 2, 1) := by decide +kernel
theorem dX0_rings_101 : decode cX0_rings 101 = .ok (.invokevirtual 25, 3) := by decide +kernel
theorem dX0_rings_104 : decode cX0_rings 104 = .ok (.aload_n 0, 1) := by decide +kernel
theorem dX0_rings_105 : decode cX0_rings 105 = .ok (.getfield 22, 3) := by decide +kernel
theorem dX0_rings_108 : decode cX0_rings 108 = .ok (.isub, 1) := by decide +kernel
theorem dX0_rings_109 : decode cX0_rings 109 = .ok (.ireturn, 1) := by decide +kernel
theorem dX0_tells_0 : decode cX0_tells 0 = .ok (.iload_n 1, 1) := by decide +kernel
theorem dX0_tells_1 : decode cX0_tells 1 = .ok (.tableswitch 74 3 6 #[49, 74, 31, 49], 31) := by decide +kernel
theorem dX0_tells_32 : decode cX0_tells 32 = .ok (.aload_n 0, 1) := by decide +kernel
theorem dX0_tells_33 : decode cX0_tells 33 = .ok (.bipush 60, 2) := by decide +kernel
theorem dX0_tells_35 : decode cX0_tells 35 = .ok (.invokevirtual 38, 3) := by decide +kernel
theorem dX0_tells_38 : decode cX0_tells 38 = .ok (.aload_n 0, 1) := by decide +kernel
theorem dX0_tells_39 : decode cX0_tells 39 = .ok (.iconst 2, 1) := by decide +kernel
theorem dX0_tells_40 : decode cX0_tells 40 = .ok (.iload_n 2, 1) := by decide +kernel
theorem dX0_tells_41 : decode cX0_tells 41 = .ok (.aload_n 0, 1) := by decide +kernel
theorem dX0_tells_42 : decode cX0_tells 42 = .ok (.getfield 19, 3) := by decide +kernel
theorem dX0_tells_45 : decode cX0_tells 45 = .ok (.isub, 1) := by decide +kernel
theorem dX0_tells_46 : decode cX0_tells 46 = .ok (.invokevirtual 32, 3) := by decide +kernel
theorem dX0_tells_49 : decode cX0_tells 49 = .ok (.ireturn, 1) := by decide +kernel
theorem dX0_tells_50 : decode cX0_tells 50 = .ok (.aload_n 0, 1) := by decide +kernel
theorem dX0_tells_51 : decode cX0_tells 51 = .ok (.bipush 40, 2) := by decide +kernel
theorem dX0_tells_53 : decode cX0_tells 53 = .ok (.invokevirtual 38, 3) := by decide +kernel
theorem dX0_tells_56 : decode cX0_tells 56 = .ok (.aload_n 0, 1) := by decide +kernel
theorem dX0_tells_57 : decode cX0_tells 57 = .ok (.iconst 0, 1) := by decide +kernel
theorem dX0_tells_58 : decode cX0_tells 58 = .ok (.iload_n 2, 1) := by decide +kernel
theorem dX0_tells_59 : decode cX0_tells 59 = .ok (.invokevirtual 32, 3) := by decide +kernel
theorem dX0_tells_62 : decode cX0_tells 62 = .ok (.istore_n 3, 1) := by decide +kernel
theorem dX0_tells_63 : decode cX0_tells 63 = .ok (.iload_n 3, 1) := by decide +kernel
theorem dX0_tells_64 : decode cX0_tells 64 = .ok (.aload_n 0, 1) := by decide +kernel
theorem dX0_tells_65 : decode cX0_tells 65 = .ok (.aload_n 0, 1) := by decide +kernel
theorem dX0_tells_66 : decode cX0_tells 66 = .ok (.getfield 15, 3) := by decide +kernel
theorem dX0_tells_69 : decode cX0_tells 69 = .ok (.iconst 1, 1) := by decide +kernel
theorem dX0_tells_70 : decode cX0_tells 70 = .ok (.invokevirtual 29, 3) := by decide +kernel
theorem dX0_tells_73 : decode cX0_tells 73 = .ok (.iadd, 1) := by decide +kernel
theorem dX0_tells_74 : decode cX0_tells 74 = .ok (.ireturn, 1) := by decide +kernel
theorem dX0_tells_75 : decode cX0_tells 75 = .ok (.aload_n 0, 1) := by decide +kernel
theorem dX0_tells_76 : decode cX0_tells 76 = .ok (.bipush 12, 2) := by decide +kernel
theorem dX0_tells_78 : decode cX0_tells 78 = .ok (.invokevirtual 38, 3) := by decide +kernel
theorem dX0_tells_81 : decode cX0_tells 81 = .ok (.aload_n 0, 1) := by decide +kernel
theorem dX0_tells_82 : decode cX0_tells 82 = .ok (.aload_n 0, 1) := by decide +kernel
theorem dX0_tells_83 : decode cX0_tells 83 = .ok (.getfield 15, 3) := by decide +kernel
theorem dX0_tells_86 : decode cX0_tells 86 = .ok (.iload_n 2, 1) := by decide +kernel
theorem dX0_tells_87 : decode cX0_tells 87 = .ok (.invokevirtual 29, 3) := by decide +kernel
theorem dX0_tells_90 : decode cX0_tells 90 = .ok (.iconst 2, 1) := by decide +kernel
theorem dX0_tells_91 : decode cX0_tells 91 = .ok (.imul, 1) := by decide +kernel
theorem dX0_tells_92 : decode cX0_tells 92 = .ok (.ireturn, 1) := by decide +kernel
theorem dX1_init_0 : decode cX1_init 0 = .ok (.aload_n 0, 1) := by decide +kernel
theorem dX1_init_1 : decode cX1_init 1 = .ok (.invokespecial 3, 3) := by decide +kernel
theorem dX1_init_4 : decode cX1_init 4 = .ok (.aload_n 0, 1) := by decide +kernel
theorem dX1_init_5 : decode cX1_init 5 = .ok (.bipush 6, 2) := by decide +kernel
theorem dX1_init_7 : decode cX1_init 7 = .ok (.newarray .int, 2) := by decide +kernel
theorem dX1_init_9 : decode cX1_init 9 = .ok (.putfield 9, 3) := by decide +kernel
theorem dX1_init_12 : decode cX1_init 12 = .ok (.aload_n 0, 1) := by decide +kernel
theorem dX1_init_13 : decode cX1_init 13 = .ok (.bipush 6, 2) := by decide +kernel
theorem dX1_init_15 : decode cX1_init 15 = .ok (.newarray .int, 2) := by decide +kernel
theorem dX1_init_17 : decode cX1_init 17 = .ok (.putfield 15, 3) := by decide +kernel
theorem dX1_init_20 : decode cX1_init 20 = .ok (.aload_n 0, 1) := by decide +kernel
theorem dX1_init_21 : decode cX1_init 21 = .ok (.bipush 6, 2) := by decide +kernel
theorem dX1_init_23 : decode cX1_init 23 = .ok (.newarray .int, 2) := by decide +kernel
theorem dX1_init_25 : decode cX1_init 25 = .ok (.putfield 18, 3) := by decide +kernel
theorem dX1_init_28 : decode cX1_init 28 = .ok (.aload_n 0, 1) := by decide +kernel
theorem dX1_init_29 : decode cX1_init 29 = .ok (.bipush 6, 2) := by decide +kernel
theorem dX1_init_31 : decode cX1_init 31 = .ok (.newarray .int, 2) := by decide +kernel
theorem dX1_init_33 : decode cX1_init 33 = .ok (.putfield 21, 3) := by decide +kernel
theorem dX1_init_36 : decode cX1_init 36 = .ok (.aload_n 0, 1) := by decide +kernel
theorem dX1_init_37 : decode cX1_init 37 = .ok (.bipush 24, 2) := by decide +kernel
theorem dX1_init_39 : decode cX1_init 39 = .ok (.newarray .int, 2) := by decide +kernel
theorem dX1_init_41 : decode cX1_init 41 = .ok (.putfield 24, 3) := by decide +kernel
theorem dX1_init_44 : decode cX1_init 44 = .ok (.aload_n 0, 1) := by decide +kernel
theorem dX1_init_45 : decode cX1_init 45 = .ok (.new 27, 3) := by decide +kernel
theorem dX1_init_48 : decode cX1_init 48 = .ok (.dup, 1) := by decide +kernel
theorem dX1_init_49 : decode cX1_init 49 = .ok (.iconst 5, 1) := by decide +kernel
theorem dX1_init_50 : decode cX1_init 50 = .ok (.invokespecial 29, 3) := by decide +kernel
theorem dX1_init_53 : decode cX1_init 53 = .ok (.putfield 32, 3) := by decide +kernel
theorem dX1_init_56 : decode cX1_init 56 = .ok (.aload_n 0, 1) := by decide +kernel
theorem dX1_init_57 : decode cX1_init 57 = .ok (.new 27, 3) := by decide +kernel
theorem dX1_init_60 : decode cX1_init 60 = .ok (.dup, 1) := by decide +kernel
theorem dX1_init_61 : decode cX1_init 61 = .ok (.bipush 10, 2) := by decide +kernel
theorem dX1_init_63 : decode cX1_init 63 = .ok (.invokespecial 29, 3) := by decide +kernel
theorem dX1_init_66 : decode cX1_init 66 = .ok (.putfield 36, 3) := by decide +kernel
theorem dX1_init_69 : decode cX1_init 69 = .ok (.aload_n 0, 1) := by decide +kernel
theorem dX1_init_70 : decode cX1_init 70 = .ok (.new 27, 3) := by decide +kernel
theorem dX1_init_73 : decode cX1_init 73 = .ok (.dup, 1) := by decide +kernel
theorem dX1_init_74 : decode cX1_init 74 = .ok (.bipush 8, 2) := by decide +kernel
theorem dX1_init_76 : decode cX1_init 76 = .ok (.invokespecial 29, 3) := by decide +kernel
theorem dX1_init_79 : decode cX1_init 79 = .ok (.putfield 39, 3) := by decide +kernel
theorem dX1_init_82 : decode cX1_init 82 = .ok (.aload_n 0, 1) := by decide +kernel
theorem dX1_init_83 : decode cX1_init 83 = .ok (.bipush 6, 2) := by decide +kernel
theorem dX1_init_85 : decode cX1_init 85 = .ok (.newarray .int, 2) := by decide +kernel
theorem dX1_init_87 : decode cX1_init 87 = .ok (.putfield 44, 3) := by decide +kernel
theorem dX1_init_90 : decode cX1_init 90 = .ok (.aload_n 0, 1) := by decide +kernel
theorem dX1_init_91 : decode cX1_init 91 = .ok (.aload_n 1, 1) := by decide +kernel
theorem dX1_init_92 : decode cX1_init 92 = .ok (.putfield 47, 3) := by decide +kernel
theorem dX1_init_95 : decode cX1_init 95 = .ok (.return_, 1) := by decide +kernel
theorem dX1_has_0 : decode cX1_has 0 = .ok (.iload_n 1, 1) := by decide +kernel
theorem dX1_has_1 : decode cX1_has 1 = .ok (.ifCond .lt 15, 3) := by decide +kernel
theorem dX1_has_4 : decode cX1_has 4 = .ok (.iload_n 1, 1) := by decide +kernel
theorem dX1_has_5 : decode cX1_has 5 = .ok (.aload_n 0, 1) := by decide +kernel
theorem dX1_has_6 : decode cX1_has 6 = .ok (.getfield 51, 3) := by decide +kernel
theorem dX1_has_9 : decode cX1_has 9 = .ok (.if_icmp .ge 7, 3) := by decide +kernel
theorem dX1_has_12 : decode cX1_has 12 = .ok (.iconst 1, 1) := by decide +kernel
theorem dX1_has_13 : decode cX1_has 13 = .ok (.goto 4, 3) := by decide +kernel
theorem dX1_has_16 : decode cX1_has 16 = .ok (.iconst 0, 1) := by decide +kernel
theorem dX1_has_17 : decode cX1_has 17 = .ok (.ireturn, 1) := by decide +kernel
theorem dX1_isLost_0 : decode cX1_isLost 0 = .ok (.aload_n 0, 1) := by decide +kernel
theorem dX1_isLost_1 : decode cX1_isLost 1 = .ok (.getfield 21, 3) := by decide +kernel
theorem dX1_isLost_4 : decode cX1_isLost 4 = .ok (.iload_n 1, 1) := by decide +kernel
theorem dX1_isLost_5 : decode cX1_isLost 5 = .ok (.iaload, 1) := by decide +kernel
theorem dX1_isLost_6 : decode cX1_isLost 6 = .ok (.iconst (-1), 1) := by decide +kernel
theorem dX1_isLost_7 : decode cX1_isLost 7 = .ok (.if_icmp .ne 7, 3) := by decide +kernel
theorem dX1_isLost_10 : decode cX1_isLost 10 = .ok (.iconst 1, 1) := by decide +kernel
theorem dX1_isLost_11 : decode cX1_isLost 11 = .ok (.goto 4, 3) := by decide +kernel
theorem dX1_isLost_14 : decode cX1_isLost 14 = .ok (.iconst 0, 1) := by decide +kernel
theorem dX1_isLost_15 : decode cX1_isLost 15 = .ok (.ireturn, 1) := by decide +kernel
theorem dX1_come_0 : decode cX1_come 0 = .ok (.aload_n 0, 1) := by decide +kernel
theorem dX1_come_1 : decode cX1_come 1 = .ok (.getfield 9, 3) := by decide +kernel
theorem dX1_come_4 : decode cX1_come 4 = .ok (.aload_n 0, 1) := by decide +kernel
theorem dX1_come_5 : decode cX1_come 5 = .ok (.getfield 51, 3) := by decide +kernel
theorem dX1_come_8 : decode cX1_come 8 = .ok (.iload_n 1, 1) := by decide +kernel
theorem dX1_come_9 : decode cX1_come 9 = .ok (.iastore, 1) := by decide +kernel
theorem dX1_come_10 : decode cX1_come 10 = .ok (.aload_n 0, 1) := by decide +kernel
theorem dX1_come_11 : decode cX1_come 11 = .ok (.getfield 15, 3) := by decide +kernel
theorem dX1_come_14 : decode cX1_come 14 = .ok (.aload_n 0, 1) := by decide +kernel
theorem dX1_come_15 : decode cX1_come 15 = .ok (.getfield 51, 3) := by decide +kernel
theorem dX1_come_18 : decode cX1_come 18 = .ok (.iload_n 2, 1) := by decide +kernel
theorem dX1_come_19 : decode cX1_come 19 = .ok (.iastore, 1) := by decide +kernel
theorem dX1_come_20 : decode cX1_come 20 = .ok (.aload_n 0, 1) := by decide +kernel
theorem dX1_come_21 : decode cX1_come 21 = .ok (.getfield 18, 3) := by decide +kernel
theorem dX1_come_24 : decode cX1_come 24 = .ok (.aload_n 0, 1) := by decide +kernel
theorem dX1_come_25 : decode cX1_come 25 = .ok (.getfield 51, 3) := by decide +kernel
theorem dX1_come_28 : decode cX1_come 28 = .ok (.iload_n 3, 1) := by decide +kernel
theorem dX1_come_29 : decode cX1_come 29 = .ok (.iastore, 1) := by decide +kernel
theorem dX1_come_30 : decode cX1_come 30 = .ok (.aload_n 0, 1) := by decide +kernel
theorem dX1_come_31 : decode cX1_come 31 = .ok (.getfield 21, 3) := by decide +kernel
theorem dX1_come_34 : decode cX1_come 34 = .ok (.aload_n 0, 1) := by decide +kernel
theorem dX1_come_35 : decode cX1_come 35 = .ok (.getfield 51, 3) := by decide +kernel
theorem dX1_come_38 : decode cX1_come 38 = .ok (.iload 4, 2) := by decide +kernel
theorem dX1_come_40 : decode cX1_come 40 = .ok (.iastore, 1) := by decide +kernel
theorem dX1_come_41 : decode cX1_come 41 = .ok (.aload_n 0, 1) := by decide +kernel
theorem dX1_come_42 : decode cX1_come 42 = .ok (.dup, 1) := by decide +kernel
theorem dX1_come_43 : decode cX1_come 43 = .ok (.getfield 51, 3) := by decide +kernel
theorem dX1_come_46 : decode cX1_come 46 = .ok (.iconst 1, 1) := by decide +kernel
theorem dX1_come_47 : decode cX1_come 47 = .ok (.iadd, 1) := by decide +kernel
theorem dX1_come_48 : decode cX1_come 48 = .ok (.putfield 51, 3) := by decide +kernel
theorem dX1_come_51 : decode cX1_come 51 = .ok (.aload_n 0, 1) := by decide +kernel
theorem dX1_come_52 : decode cX1_come 52 = .ok (.getfield 51, 3) := by decide +kernel
theorem dX1_come_55 : decode cX1_come 55 = .ok (.iconst 1, 1) := by decide +kernel
theorem dX1_come_56 : decode cX1_come 56 = .ok (.isub, 1) := by decide +kernel
theorem dX1_come_57 : decode cX1_come 57 = .ok (.ireturn, 1) := by decide +kernel
theorem dX1_takeSounds_0 : decode cX1_takeSounds 0 = .ok (.aload_n 0, 1) := by decide +kernel
theorem dX1_takeSounds_1 : decode cX1_takeSounds 1 = .ok (.aload_n 1, 1) := by decide +kernel
theorem dX1_takeSounds_2 : decode cX1_takeSounds 2 = .ok (.getfield 51, 3) := by decide +kernel
theorem dX1_takeSounds_5 : decode cX1_takeSounds 5 = .ok (.putfield 51, 3) := by decide +kernel
theorem dX1_takeSounds_8 : decode cX1_takeSounds 8 = .ok (.aload_n 1, 1) := by decide +kernel
theorem dX1_takeSounds_9 : decode cX1_takeSounds 9 = .ok (.getfield 9, 3) := by decide +kernel
theorem dX1_takeSounds_12 : decode cX1_takeSounds 12 = .ok (.iconst 0, 1) := by decide +kernel
theorem dX1_takeSounds_13 : decode cX1_takeSounds 13 = .ok (.aload_n 0, 1) := by decide +kernel
theorem dX1_takeSounds_14 : decode cX1_takeSounds 14 = .ok (.getfield 9, 3) := by decide +kernel
theorem dX1_takeSounds_17 : decode cX1_takeSounds 17 = .ok (.iconst 0, 1) := by decide +kernel
theorem dX1_takeSounds_18 : decode cX1_takeSounds 18 = .ok (.bipush 6, 2) := by decide +kernel
theorem dX1_takeSounds_20 : decode cX1_takeSounds 20 = .ok (.invokestatic 55, 3) := by decide +kernel
theorem dX1_takeSounds_23 : decode cX1_takeSounds 23 = .ok (.aload_n 1, 1) := by decide +kernel
theorem dX1_takeSounds_24 : decode cX1_takeSounds 24 = .ok (.getfield 15, 3) := by decide +kernel
theorem dX1_takeSounds_27 : decode cX1_takeSounds 27 = .ok (.iconst 0, 1) := by decide +kernel
theorem dX1_takeSounds_28 : decode cX1_takeSounds 28 = .ok (.aload_n 0, 1) := by decide +kernel
theorem dX1_takeSounds_29 : decode cX1_takeSounds 29 = .ok (.getfield 15, 3) := by decide +kernel
theorem dX1_takeSounds_32 : decode cX1_takeSounds 32 = .ok (.iconst 0, 1) := by decide +kernel
theorem dX1_takeSounds_33 : decode cX1_takeSounds 33 = .ok (.bipush 6, 2) := by decide +kernel
theorem dX1_takeSounds_35 : decode cX1_takeSounds 35 = .ok (.invokestatic 55, 3) := by decide +kernel
theorem dX1_takeSounds_38 : decode cX1_takeSounds 38 = .ok (.aload_n 1, 1) := by decide +kernel
theorem dX1_takeSounds_39 : decode cX1_takeSounds 39 = .ok (.getfield 18, 3) := by decide +kernel
theorem dX1_takeSounds_42 : decode cX1_takeSounds 42 = .ok (.iconst 0, 1) := by decide +kernel
theorem dX1_takeSounds_43 : decode cX1_takeSounds 43 = .ok (.aload_n 0, 1) := by decide +kernel
theorem dX1_takeSounds_44 : decode cX1_takeSounds 44 = .ok (.getfield 18, 3) := by decide +kernel
theorem dX1_takeSounds_47 : decode cX1_takeSounds 47 = .ok (.iconst 0, 1) := by decide +kernel
theorem dX1_takeSounds_48 : decode cX1_takeSounds 48 = .ok (.bipush 6, 2) := by decide +kernel
theorem dX1_takeSounds_50 : decode cX1_takeSounds 50 = .ok (.invokestatic 55, 3) := by decide +kernel
theorem dX1_takeSounds_53 : decode cX1_takeSounds 53 = .ok (.aload_n 1, 1) := by decide +kernel
theorem dX1_takeSounds_54 : decode cX1_takeSounds 54 = .ok (.getfield 21, 3) := by decide +kernel
theorem dX1_takeSounds_57 : decode cX1_takeSounds 57 = .ok (.iconst 0, 1) := by decide +kernel
theorem dX1_takeSounds_58 : decode cX1_takeSounds 58 = .ok (.aload_n 0, 1) := by decide +kernel
theorem dX1_takeSounds_59 : decode cX1_takeSounds 59 = .ok (.getfield 21, 3) := by decide +kernel
theorem dX1_takeSounds_62 : decode cX1_takeSounds 62 = .ok (.iconst 0, 1) := by decide +kernel
theorem dX1_takeSounds_63 : decode cX1_takeSounds 63 = .ok (.bipush 6, 2) := by decide +kernel
theorem dX1_takeSounds_65 : decode cX1_takeSounds 65 = .ok (.invokestatic 55, 3) := by decide +kernel
theorem dX1_takeSounds_68 : decode cX1_takeSounds 68 = .ok (.aload_n 1, 1) := by decide +kernel
theorem dX1_takeSounds_69 : decode cX1_takeSounds 69 = .ok (.getfield 24, 3) := by decide +kernel
theorem dX1_takeSounds_72 : decode cX1_takeSounds 72 = .ok (.iconst 0, 1) := by decide +kernel
theorem dX1_takeSounds_73 : decode cX1_takeSounds 73 = .ok (.aload_n 0, 1) := by decide +kernel
theorem dX1_takeSounds_74 : decode cX1_takeSounds 74 = .ok (.getfield 24, 3) := by decide +kernel
theorem dX1_takeSounds_77 : decode cX1_takeSounds 77 = .ok (.iconst 0, 1) := by decide +kernel
theorem dX1_takeSounds_78 : decode cX1_takeSounds 78 = .ok (.bipush 24, 2) := by decide +kernel
theorem dX1_takeSounds_80 : decode cX1_takeSounds 80 = .ok (.invokestatic 55, 3) := by decide +kernel
theorem dX1_takeSounds_83 : decode cX1_takeSounds 83 = .ok (.aload_n 0, 1) := by decide +kernel
theorem dX1_takeSounds_84 : decode cX1_takeSounds 84 = .ok (.aload_n 1, 1) := by decide +kernel
theorem dX1_takeSounds_85 : decode cX1_takeSounds 85 = .ok (.getfield 61, 3) := by decide +kernel
theorem dX1_takeSounds_88 : decode cX1_takeSounds 88 = .ok (.putfield 61, 3) := by decide +kernel
theorem dX1_takeSounds_91 : decode cX1_takeSounds 91 = .ok (.aload_n 0, 1) := by decide +kernel
theorem dX1_takeSounds_92 : decode cX1_takeSounds 92 = .ok (.aload_n 1, 1) := by decide +kernel
theorem dX1_takeSounds_93 : decode cX1_takeSounds 93 = .ok (.getfield 47, 3) := by decide +kernel
theorem dX1_takeSounds_96 : decode cX1_takeSounds 96 = .ok (.putfield 47, 3) := by decide +kernel
theorem dX1_takeSounds_99 : decode cX1_takeSounds 99 = .ok (.return_, 1) := by decide +kernel
theorem dX1_takeAll_0 : decode cX1_takeAll 0 = .ok (.aload_n 0, 1) := by decide +kernel
theorem dX1_takeAll_1 : decode cX1_takeAll 1 = .ok (.aload_n 1, 1) := by decide +kernel
theorem dX1_takeAll_2 : decode cX1_takeAll 2 = .ok (.invokevirtual 64, 3) := by decide +kernel
theorem dX1_takeAll_5 : decode cX1_takeAll 5 = .ok (.aload_n 0, 1) := by decide +kernel
theorem dX1_takeAll_6 : decode cX1_takeAll 6 = .ok (.getfield 32, 3) := by decide +kernel
theorem dX1_takeAll_9 : decode cX1_takeAll 9 = .ok (.aload_n 1, 1) := by decide +kernel
theorem dX1_takeAll_10 : decode cX1_takeAll 10 = .ok (.getfield 32, 3) := by decide +kernel
theorem dX1_takeAll_13 : decode cX1_takeAll 13 = .ok (.invokevirtual 68, 3) := by decide +kernel
theorem dX1_takeAll_16 : decode cX1_takeAll 16 = .ok (.aload_n 0, 1) := by decide +kernel
theorem dX1_takeAll_17 : decode cX1_takeAll 17 = .ok (.getfield 36, 3) := by decide +kernel
theorem dX1_takeAll_20 : decode cX1_takeAll 20 = .ok (.aload_n 1, 1) := by decide +kernel
theorem dX1_takeAll_21 : decode cX1_takeAll 21 = .ok (.getfield 36, 3) := by decide +kernel
theorem dX1_takeAll_24 : decode cX1_takeAll 24 = .ok (.invokevirtual 68, 3) := by decide +kernel
theorem dX1_takeAll_27 : decode cX1_takeAll 27 = .ok (.aload_n 0, 1) := by decide +kernel
theorem dX1_takeAll_28 : decode cX1_takeAll 28 = .ok (.getfield 39, 3) := by decide +kernel
theorem dX1_takeAll_31 : decode cX1_takeAll 31 = .ok (.aload_n 1, 1) := by decide +kernel
theorem dX1_takeAll_32 : decode cX1_takeAll 32 = .ok (.getfield 39, 3) := by decide +kernel
theorem dX1_takeAll_35 : decode cX1_takeAll 35 = .ok (.invokevirtual 68, 3) := by decide +kernel
theorem dX1_takeAll_38 : decode cX1_takeAll 38 = .ok (.return_, 1) := by decide +kernel
theorem dX1_wears_0 : decode cX1_wears 0 = .ok (.aload_n 0, 1) := by decide +kernel
theorem dX1_wears_1 : decode cX1_wears 1 = .ok (.getfield 9, 3) := by decide +kernel
theorem dX1_wears_4 : decode cX1_wears 4 = .ok (.iload_n 1, 1) := by decide +kernel
theorem dX1_wears_5 : decode cX1_wears 5 = .ok (.iaload, 1) := by decide +kernel
theorem dX1_wears_6 : decode cX1_wears 6 = .ok (.lookupswitch 65 #[(1, 34), (4, 34), (6, 44)], 34) := by decide +kernel
theorem dX1_wears_40 : decode cX1_wears 40 = .ok (.aload_n 0, 1) := by decide +kernel
theorem dX1_wears_41 : decode cX1_wears 41 = .ok (.getfield 47, 3) := by decide +kernel
theorem dX1_wears_44 : decode cX1_wears 44 = .ok (.getfield 72, 3) := by decide +kernel
theorem dX1_wears_47 : decode cX1_wears 47 = .ok (.iconst 2, 1) := by decide +kernel
theorem dX1_wears_48 : decode cX1_wears 48 = .ok (.idiv, 1) := by decide +kernel
theorem dX1_wears_49 : decode cX1_wears 49 = .ok (.ireturn, 1) := by decide +kernel
theorem dX1_wears_50 : decode cX1_wears 50 = .ok (.aload_n 0, 1) := by decide +kernel
theorem dX1_wears_51 : decode cX1_wears 51 = .ok (.getfield 61, 3) := by decide +kernel
theorem dX1_wears_54 : decode cX1_wears 54 = .ok (.iconst 2, 1) := by decide +kernel
theorem dX1_wears_55 : decode cX1_wears 55 = .ok (.irem, 1) := by decide +kernel
theorem dX1_wears_56 : decode cX1_wears 56 = .ok (.ifCond .ne 7, 3) := by decide +kernel
theorem dX1_wears_59 : decode cX1_wears 59 = .ok (.iconst 0, 1) := by decide +kernel
theorem dX1_wears_60 : decode cX1_wears 60 = .ok (.goto 10, 3) := by decide +kernel
theorem dX1_wears_63 : decode cX1_wears 63 = .ok (.aload_n 0, 1) := by decide +kernel
theorem dX1_wears_64 : decode cX1_wears 64 = .ok (.getfield 47, 3) := by decide +kernel
theorem dX1_wears_67 : decode cX1_wears 67 = .ok (.getfield 72, 3) := by decide +kernel
theorem dX1_wears_70 : decode cX1_wears 70 = .ok (.ireturn, 1) := by decide +kernel
theorem dX1_wears_71 : decode cX1_wears 71 = .ok (.aload_n 0, 1) := by decide +kernel
theorem dX1_wears_72 : decode cX1_wears 72 = .ok (.getfield 47, 3) := by decide +kernel
theorem dX1_wears_75 : decode cX1_wears 75 = .ok (.getfield 72, 3) := by decide +kernel
theorem dX1_wears_78 : decode cX1_wears 78 = .ok (.ireturn, 1) := by decide +kernel
theorem dX1_goYears_0 : decode cX1_goYears 0 = .ok (.iconst 0, 1) := by decide +kernel
theorem dX1_goYears_1 : decode cX1_goYears 1 = .ok (.istore_n 2, 1) := by decide +kernel
theorem dX1_goYears_2 : decode cX1_goYears 2 = .ok (.iload_n 2, 1) := by decide +kernel
theorem dX1_goYears_3 : decode cX1_goYears 3 = .ok (.iload_n 1, 1) := by decide +kernel
theorem dX1_goYears_4 : decode cX1_goYears 4 = .ok (.if_icmp .ge 65, 3) := by decide +kernel
theorem dX1_goYears_7 : decode cX1_goYears 7 = .ok (.iconst 0, 1) := by decide +kernel
theorem dX1_goYears_8 : decode cX1_goYears 8 = .ok (.istore_n 3, 1) := by decide +kernel
theorem dX1_goYears_9 : decode cX1_goYears 9 = .ok (.iload_n 3, 1) := by decide +kernel
theorem dX1_goYears_10 : decode cX1_goYears 10 = .ok (.aload_n 0, 1) := by decide +kernel
theorem dX1_goYears_11 : decode cX1_goYears 11 = .ok (.getfield 51, 3) := by decide +kernel
theorem dX1_goYears_14 : decode cX1_goYears 14 = .ok (.if_icmp .ge 39, 3) := by decide +kernel
theorem dX1_goYears_17 : decode cX1_goYears 17 = .ok (.aload_n 0, 1) := by decide +kernel
theorem dX1_goYears_18 : decode cX1_goYears 18 = .ok (.iload_n 3, 1) := by decide +kernel
theorem dX1_goYears_19 : decode cX1_goYears 19 = .ok (.invokevirtual 75, 3) := by decide +kernel
theorem dX1_goYears_22 : decode cX1_goYears 22 = .ok (.ifCond .ne 25, 3) := by decide +kernel
theorem dX1_goYears_25 : decode cX1_goYears 25 = .ok (.aload_n 0, 1) := by decide +kernel
theorem dX1_goYears_26 : decode cX1_goYears 26 = .ok (.getfield 18, 3) := by decide +kernel
theorem dX1_goYears_29 : decode cX1_goYears 29 = .ok (.iload_n 3, 1) := by decide +kernel
theorem dX1_goYears_30 : decode cX1_goYears 30 = .ok (.iconst 0, 1) := by decide +kernel
theorem dX1_goYears_31 : decode cX1_goYears 31 = .ok (.aload_n 0, 1) := by decide +kernel
theorem dX1_goYears_32 : decode cX1_goYears 32 = .ok (.getfield 18, 3) := by decide +kernel
theorem dX1_goYears_35 : decode cX1_goYears 35 = .ok (.iload_n 3, 1) := by decide +kernel
theorem dX1_goYears_36 : decode cX1_goYears 36 = .ok (.iaload, 1) := by decide +kernel
theorem dX1_goYears_37 : decode cX1_goYears 37 = .ok (.aload_n 0, 1) := by decide +kernel
theorem dX1_goYears_38 : decode cX1_goYears 38 = .ok (.iload_n 3, 1) := by decide +kernel
theorem dX1_goYears_39 : decode cX1_goYears 39 = .ok (.invokevirtual 79, 3) := by decide +kernel
theorem dX1_goYears_42 : decode cX1_goYears 42 = .ok (.isub, 1) := by decide +kernel
theorem dX1_goYears_43 : decode cX1_goYears 43 = .ok (.invokestatic 83, 3) := by decide +kernel
theorem dX1_goYears_46 : decode cX1_goYears 46 = .ok (.iastore, 1) := by decide +kernel
theorem dX1_goYears_47 : decode cX1_goYears 47 = .ok (.iinc 3 1, 3) := by decide +kernel
theorem dX1_goYears_50 : decode cX1_goYears 50 = .ok (.goto (-41), 3) := by decide +kernel
theorem dX1_goYears_53 : decode cX1_goYears 53 = .ok (.aload_n 0, 1) := by decide +kernel
theorem dX1_goYears_54 : decode cX1_goYears 54 = .ok (.dup, 1) := by decide +kernel
theorem dX1_goYears_55 : decode cX1_goYears 55 = .ok (.getfield 61, 3) := by decide +kernel
theorem dX1_goYears_58 : decode cX1_goYears 58 = .ok (.iconst 1, 1) := by decide +kernel
theorem dX1_goYears_59 : decode cX1_goYears 59 = .ok (.iadd, 1) := by decide +kernel
theorem dX1_goYears_60 : decode cX1_goYears 60 = .ok (.putfield 61, 3) := by decide +kernel
theorem dX1_goYears_63 : decode cX1_goYears 63 = .ok (.iinc 2 1, 3) := by decide +kernel
theorem dX1_goYears_66 : decode cX1_goYears 66 = .ok (.goto (-64), 3) := by decide +kernel
theorem dX1_goYears_69 : decode cX1_goYears 69 = .ok (.return_, 1) := by decide +kernel
theorem dX1_go_0 : decode cX1_go 0 = .ok (.iload_n 1, 1) := by decide +kernel
theorem dX1_go_1 : decode cX1_go 1 = .ok (.ifCond .ne 11, 3) := by decide +kernel
theorem dX1_go_4 : decode cX1_go 4 = .ok (.aload_n 0, 1) := by decide +kernel
theorem dX1_go_5 : decode cX1_go 5 = .ok (.iconst 1, 1) := by decide +kernel
theorem dX1_go_6 : decode cX1_go 6 = .ok (.invokevirtual 89, 3) := by decide +kernel
theorem dX1_go_9 : decode cX1_go 9 = .ok (.goto 86, 3) := by decide +kernel
theorem dX1_go_12 : decode cX1_go 12 = .ok (.aload_n 0, 1) := by decide +kernel
theorem dX1_go_13 : decode cX1_go 13 = .ok (.iload_n 2, 1) := by decide +kernel
theorem dX1_go_14 : decode cX1_go 14 = .ok (.invokevirtual 92, 3) := by decide +kernel
theorem dX1_go_17 : decode cX1_go 17 = .ok (.ifCond .eq 78, 3) := by decide +kernel
theorem dX1_go_20 : decode cX1_go 20 = .ok (.aload_n 0, 1) := by decide +kernel
theorem dX1_go_21 : decode cX1_go 21 = .ok (.iload_n 2, 1) := by decide +kernel
theorem dX1_go_22 : decode cX1_go 22 = .ok (.invokevirtual 75, 3) := by decide +kernel
theorem dX1_go_25 : decode cX1_go 25 = .ok (.ifCond .ne 70, 3) := by decide +kernel
theorem dX1_go_28 : decode cX1_go 28 = .ok (.iload_n 1, 1) := by decide +kernel
theorem dX1_go_29 : decode cX1_go 29 = .ok (.iconst 1, 1) := by decide +kernel
theorem dX1_go_30 : decode cX1_go 30 = .ok (.if_icmp .ne 13, 3) := by decide +kernel
theorem dX1_go_33 : decode cX1_go 33 = .ok (.aload_n 0, 1) := by decide +kernel
theorem dX1_go_34 : decode cX1_go 34 = .ok (.getfield 21, 3) := by decide +kernel
theorem dX1_go_37 : decode cX1_go 37 = .ok (.iload_n 2, 1) := by decide +kernel
theorem dX1_go_38 : decode cX1_go 38 = .ok (.iconst (-1), 1) := by decide +kernel
theorem dX1_go_39 : decode cX1_go 39 = .ok (.iastore, 1) := by decide +kernel
theorem dX1_go_40 : decode cX1_go 40 = .ok (.goto 55, 3) := by decide +kernel
theorem dX1_go_43 : decode cX1_go 43 = .ok (.iload_n 1, 1) := by decide +kernel
theorem dX1_go_44 : decode cX1_go 44 = .ok (.iconst 2, 1) := by decide +kernel
theorem dX1_go_45 : decode cX1_go 45 = .ok (.if_icmp .ne 26, 3) := by decide +kernel
theorem dX1_go_48 : decode cX1_go 48 = .ok (.aload_n 0, 1) := by decide +kernel
theorem dX1_go_49 : decode cX1_go 49 = .ok (.getfield 21, 3) := by decide +kernel
theorem dX1_go_52 : decode cX1_go 52 = .ok (.iload_n 2, 1) := by decide +kernel
theorem dX1_go_53 : decode cX1_go 53 = .ok (.iaload, 1) := by decide +kernel
theorem dX1_go_54 : decode cX1_go 54 = .ok (.iconst 4, 1) := by decide +kernel
theorem dX1_go_55 : decode cX1_go 55 = .ok (.if_icmp .ge 16, 3) := by decide +kernel
theorem dX1_go_58 : decode cX1_go 58 = .ok (.aload_n 0, 1) := by decide +kernel
theorem dX1_go_59 : decode cX1_go 59 = .ok (.getfield 21, 3) := by decide +kernel
theorem dX1_go_62 : decode cX1_go 62 = .ok (.iload_n 2, 1) := by decide +kernel
theorem dX1_go_63 : decode cX1_go 63 = .ok (.dup2, 1) := by decide +kernel
theorem dX1_go_64 : decode cX1_go 64 = .ok (.iaload, 1) := by decide +kernel
theorem dX1_go_65 : decode cX1_go 65 = .ok (.iconst 1, 1) := by decide +kernel
theorem dX1_go_66 : decode cX1_go 66 = .ok (.iadd, 1) := by decide +kernel
theorem dX1_go_67 : decode cX1_go 67 = .ok (.iastore, 1) := by decide +kernel
theorem dX1_go_68 : decode cX1_go 68 = .ok (.goto 27, 3) := by decide +kernel
theorem dX1_go_71 : decode cX1_go 71 = .ok (.iload_n 1, 1) := by decide +kernel
theorem dX1_go_72 : decode cX1_go 72 = .ok (.iconst 3, 1) := by decide +kernel
theorem dX1_go_73 : decode cX1_go 73 = .ok (.if_icmp .ne 22, 3) := by decide +kernel
theorem dX1_go_76 : decode cX1_go 76 = .ok (.aload_n 0, 1) := by decide +kernel
theorem dX1_go_77 : decode cX1_go 77 = .ok (.getfield 21, 3) := by decide +kernel
theorem dX1_go_80 : decode cX1_go 80 = .ok (.iload_n 2, 1) := by decide +kernel
theorem dX1_go_81 : decode cX1_go 81 = .ok (.iaload, 1) := by decide +kernel
theorem dX1_go_82 : decode cX1_go 82 = .ok (.ifCond .le 13, 3) := by decide +kernel
theorem dX1_go_85 : decode cX1_go 85 = .ok (.aload_n 0, 1) := by decide +kernel
theorem dX1_go_86 : decode cX1_go 86 = .ok (.getfield 21, 3) := by decide +kernel
theorem dX1_go_89 : decode cX1_go 89 = .ok (.iload_n 2, 1) := by decide +kernel
theorem dX1_go_90 : decode cX1_go 90 = .ok (.dup2, 1) := by decide +kernel
theorem dX1_go_91 : decode cX1_go 91 = .ok (.iaload, 1) := by decide +kernel
theorem dX1_go_92 : decode cX1_go 92 = .ok (.iconst 1, 1) := by decide +kernel
theorem dX1_go_93 : decode cX1_go 93 = .ok (.isub, 1) := by decide +kernel
theorem dX1_go_94 : decode cX1_go 94 = .ok (.iastore, 1) := by decide +kernel
theorem dX1_go_95 : decode cX1_go 95 = .ok (.return_, 1) := by decide +kernel
theorem dX1_voiceIn_0 : decode cX1_voiceIn 0 = .ok (.aload_n 0, 1) := by decide +kernel
theorem dX1_voiceIn_1 : decode cX1_voiceIn 1 = .ok (.getfield 18, 3) := by decide +kernel
theorem dX1_voiceIn_4 : decode cX1_voiceIn 4 = .ok (.iload_n 1, 1) := by decide +kernel
theorem dX1_voiceIn_5 : decode cX1_voiceIn 5 = .ok (.iaload, 1) := by decide +kernel
theorem dX1_voiceIn_6 : decode cX1_voiceIn 6 = .ok (.ifCond .ne 5, 3) := by decide +kernel
theorem dX1_voiceIn_9 : decode cX1_voiceIn 9 = .ok (.iconst 0, 1) := by decide +kernel
theorem dX1_voiceIn_10 : decode cX1_voiceIn 10 = .ok (.ireturn, 1) := by decide +kernel
theorem dX1_voiceIn_11 : decode cX1_voiceIn 11 = .ok (.aload_n 0, 1) := by decide +kernel
theorem dX1_voiceIn_12 : decode cX1_voiceIn 12 = .ok (.getfield 44, 3) := by decide +kernel
theorem dX1_voiceIn_15 : decode cX1_voiceIn 15 = .ok (.iconst 0, 1) := by decide +kernel
theorem dX1_voiceIn_16 : decode cX1_voiceIn 16 = .ok (.iload_n 1, 1) := by decide +kernel
theorem dX1_voiceIn_17 : decode cX1_voiceIn 17 = .ok (.iastore, 1) := by decide +kernel
theorem dX1_voiceIn_18 : decode cX1_voiceIn 18 = .ok (.aload_n 0, 1) := by decide +kernel
theorem dX1_voiceIn_19 : decode cX1_voiceIn 19 = .ok (.getfield 44, 3) := by decide +kernel
theorem dX1_voiceIn_22 : decode cX1_voiceIn 22 = .ok (.iconst 1, 1) := by decide +kernel
theorem dX1_voiceIn_23 : decode cX1_voiceIn 23 = .ok (.iload_n 2, 1) := by decide +kernel
theorem dX1_voiceIn_24 : decode cX1_voiceIn 24 = .ok (.iastore, 1) := by decide +kernel
theorem dX1_voiceIn_25 : decode cX1_voiceIn 25 = .ok (.aload_n 0, 1) := by decide +kernel
theorem dX1_voiceIn_26 : decode cX1_voiceIn 26 = .ok (.getfield 44, 3) := by decide +kernel
theorem dX1_voiceIn_29 : decode cX1_voiceIn 29 = .ok (.iconst 2, 1) := by decide +kernel
theorem dX1_voiceIn_30 : decode cX1_voiceIn 30 = .ok (.aload_n 0, 1) := by decide +kernel
theorem dX1_voiceIn_31 : decode cX1_voiceIn 31 = .ok (.getfield 9, 3) := by decide +kernel
theorem dX1_voiceIn_34 : decode cX1_voiceIn 34 = .ok (.iload_n 1, 1) := by decide +kernel
theorem dX1_voiceIn_35 : decode cX1_voiceIn 35 = .ok (.iaload, 1) := by decide +kernel
theorem dX1_voiceIn_36 : decode cX1_voiceIn 36 = .ok (.iastore, 1) := by decide +kernel
theorem dX1_voiceIn_37 : decode cX1_voiceIn 37 = .ok (.aload_n 0, 1) := by decide +kernel
theorem dX1_voiceIn_38 : decode cX1_voiceIn 38 = .ok (.getfield 44, 3) := by decide +kernel
theorem dX1_voiceIn_41 : decode cX1_voiceIn 41 = .ok (.iconst 3, 1) := by decide +kernel
theorem dX1_voiceIn_42 : decode cX1_voiceIn 42 = .ok (.aload_n 0, 1) := by decide +kernel
theorem dX1_voiceIn_43 : decode cX1_voiceIn 43 = .ok (.getfield 15, 3) := by decide +kernel
theorem dX1_voiceIn_46 : decode cX1_voiceIn 46 = .ok (.iload_n 1, 1) := by decide +kernel
theorem dX1_voiceIn_47 : decode cX1_voiceIn 47 = .ok (.iaload, 1) := by decide +kernel
theorem dX1_voiceIn_48 : decode cX1_voiceIn 48 = .ok (.iastore, 1) := by decide +kernel
theorem dX1_voiceIn_49 : decode cX1_voiceIn 49 = .ok (.aload_n 0, 1) := by decide +kernel
theorem dX1_voiceIn_50 : decode cX1_voiceIn 50 = .ok (.getfield 44, 3) := by decide +kernel
theorem dX1_voiceIn_53 : decode cX1_voiceIn 53 = .ok (.iconst 4, 1) := by decide +kernel
theorem dX1_voiceIn_54 : decode cX1_voiceIn 54 = .ok (.aload_n 0, 1) := by decide +kernel
theorem dX1_voiceIn_55 : decode cX1_voiceIn 55 = .ok (.getfield 18, 3) := by decide +kernel
theorem dX1_voiceIn_58 : decode cX1_voiceIn 58 = .ok (.iload_n 1, 1) := by decide +kernel
theorem dX1_voiceIn_59 : decode cX1_voiceIn 59 = .ok (.iaload, 1) := by decide +kernel
theorem dX1_voiceIn_60 : decode cX1_voiceIn 60 = .ok (.bipush 10, 2) := by decide +kernel
theorem dX1_voiceIn_62 : decode cX1_voiceIn 62 = .ok (.idiv, 1) := by decide +kernel
theorem dX1_voiceIn_63 : decode cX1_voiceIn 63 = .ok (.iastore, 1) := by decide +kernel
theorem dX1_voiceIn_64 : decode cX1_voiceIn 64 = .ok (.aload_n 0, 1) := by decide +kernel
theorem dX1_voiceIn_65 : decode cX1_voiceIn 65 = .ok (.getfield 44, 3) := by decide +kernel
theorem dX1_voiceIn_68 : decode cX1_voiceIn 68 = .ok (.iconst 5, 1) := by decide +kernel
theorem dX1_voiceIn_69 : decode cX1_voiceIn 69 = .ok (.aload_n 0, 1) := by decide +kernel
theorem dX1_voiceIn_70 : decode cX1_voiceIn 70 = .ok (.getfield 61, 3) := by decide +kernel
theorem dX1_voiceIn_73 : decode cX1_voiceIn 73 = .ok (.bipush 10, 2) := by decide +kernel
theorem dX1_voiceIn_75 : decode cX1_voiceIn 75 = .ok (.irem, 1) := by decide +kernel
theorem dX1_voiceIn_76 : decode cX1_voiceIn 76 = .ok (.iastore, 1) := by decide +kernel
theorem dX1_voiceIn_77 : decode cX1_voiceIn 77 = .ok (.aload_n 0, 1) := by decide +kernel
theorem dX1_voiceIn_78 : decode cX1_voiceIn 78 = .ok (.getfield 18, 3) := by decide +kernel
theorem dX1_voiceIn_81 : decode cX1_voiceIn 81 = .ok (.iload_n 1, 1) := by decide +kernel
theorem dX1_voiceIn_82 : decode cX1_voiceIn 82 = .ok (.iaload, 1) := by decide +kernel
theorem dX1_voiceIn_83 : decode cX1_voiceIn 83 = .ok (.istore_n 3, 1) := by decide +kernel
theorem dX1_voiceIn_84 : decode cX1_voiceIn 84 = .ok (.iconst 0, 1) := by decide +kernel
theorem dX1_voiceIn_85 : decode cX1_voiceIn 85 = .ok (.istore 4, 2) := by decide +kernel
theorem dX1_voiceIn_87 : decode cX1_voiceIn 87 = .ok (.iload 4, 2) := by decide +kernel
theorem dX1_voiceIn_89 : decode cX1_voiceIn 89 = .ok (.aload_n 0, 1) := by decide +kernel
theorem dX1_voiceIn_90 : decode cX1_voiceIn 90 = .ok (.getfield 47, 3) := by decide +kernel
theorem dX1_voiceIn_93 : decode cX1_voiceIn 93 = .ok (.getfield 95, 3) := by decide +kernel
theorem dX1_voiceIn_96 : decode cX1_voiceIn 96 = .ok (.if_icmp .ge 38, 3) := by decide +kernel
theorem dX1_voiceIn_99 : decode cX1_voiceIn 99 = .ok (.aload_n 0, 1) := by decide +kernel
theorem dX1_voiceIn_100 : decode cX1_voiceIn 100 = .ok (.getfield 47, 3) := by decide +kernel
theorem dX1_voiceIn_103 : decode cX1_voiceIn 103 = .ok (.iload 4, 2) := by decide +kernel
theorem dX1_voiceIn_105 : decode cX1_voiceIn 105 = .ok (.aload_n 0, 1) := by decide +kernel
theorem dX1_voiceIn_106 : decode cX1_voiceIn 106 = .ok (.getfield 44, 3) := by decide +kernel
theorem dX1_voiceIn_109 : decode cX1_voiceIn 109 = .ok (.invokevirtual 98, 3) := by decide +kernel
theorem dX1_voiceIn_112 : decode cX1_voiceIn 112 = .ok (.ifCond .eq 16, 3) := by decide +kernel
theorem dX1_voiceIn_115 : decode cX1_voiceIn 115 = .ok (.iload_n 3, 1) := by decide +kernel
theorem dX1_voiceIn_116 : decode cX1_voiceIn 116 = .ok (.aload_n 0, 1) := by decide +kernel
theorem dX1_voiceIn_117 : decode cX1_voiceIn 117 = .ok (.getfield 47, 3) := by decide +kernel
theorem dX1_voiceIn_120 : decode cX1_voiceIn 120 = .ok (.getfield 102, 3) := by decide +kernel
theorem dX1_voiceIn_123 : decode cX1_voiceIn 123 = .ok (.iload 4, 2) := by decide +kernel
theorem dX1_voiceIn_125 : decode cX1_voiceIn 125 = .ok (.iaload, 1) := by decide +kernel
theorem dX1_voiceIn_126 : decode cX1_voiceIn 126 = .ok (.iadd, 1) := by decide +kernel
theorem dX1_voiceIn_127 : decode cX1_voiceIn 127 = .ok (.istore_n 3, 1) := by decide +kernel
theorem dX1_voiceIn_128 : decode cX1_voiceIn 128 = .ok (.iinc 4 1, 3) := by decide +kernel
theorem dX1_voiceIn_131 : decode cX1_voiceIn 131 = .ok (.goto (-44), 3) := by decide +kernel
theorem dX1_voiceIn_134 : decode cX1_voiceIn 134 = .ok (.iconst 0, 1) := by decide +kernel
theorem dX1_voiceIn_135 : decode cX1_voiceIn 135 = .ok (.iload_n 3, 1) := by decide +kernel
theorem dX1_voiceIn_136 : decode cX1_voiceIn 136 = .ok (.invokestatic 83, 3) := by decide +kernel
theorem dX1_voiceIn_139 : decode cX1_voiceIn 139 = .ok (.ireturn, 1) := by decide +kernel
theorem dX1_heard_0 : decode cX1_heard 0 = .ok (.iload_n 3, 1) := by decide +kernel
theorem dX1_heard_1 : decode cX1_heard 1 = .ok (.iload 4, 2) := by decide +kernel
theorem dX1_heard_3 : decode cX1_heard 3 = .ok (.isub, 1) := by decide +kernel
theorem dX1_heard_4 : decode cX1_heard 4 = .ok (.invokestatic 105, 3) := by decide +kernel
theorem dX1_heard_7 : decode cX1_heard 7 = .ok (.istore 5, 2) := by decide +kernel
theorem dX1_heard_9 : decode cX1_heard 9 = .ok (.iconst 0, 1) := by decide +kernel
theorem dX1_heard_10 : decode cX1_heard 10 = .ok (.iload_n 2, 1) := by decide +kernel
theorem dX1_heard_11 : decode cX1_heard 11 = .ok (.aload_n 0, 1) := by decide +kernel
theorem dX1_heard_12 : decode cX1_heard 12 = .ok (.getfield 47, 3) := by decide +kernel
theorem dX1_heard_15 : decode cX1_heard 15 = .ok (.getfield 108, 3) := by decide +kernel
theorem dX1_heard_18 : decode cX1_heard 18 = .ok (.iload 5, 2) := by decide +kernel
theorem dX1_heard_20 : decode cX1_heard 20 = .ok (.imul, 1) := by decide +kernel
theorem dX1_heard_21 : decode cX1_heard 21 = .ok (.isub, 1) := by decide +kernel
theorem dX1_heard_22 : decode cX1_heard 22 = .ok (.invokestatic 83, 3) := by decide +kernel
theorem dX1_heard_25 : decode cX1_heard 25 = .ok (.istore 6, 2) := by decide +kernel
theorem dX1_heard_27 : decode cX1_heard 27 = .ok (.iconst 0, 1) := by decide +kernel
theorem dX1_heard_28 : decode cX1_heard 28 = .ok (.iload_n 2, 1) := by decide +kernel
theorem dX1_heard_29 : decode cX1_heard 29 = .ok (.aload_n 0, 1) := by decide +kernel
theorem dX1_heard_30 : decode cX1_heard 30 = .ok (.getfield 47, 3) := by decide +kernel
theorem dX1_heard_33 : decode cX1_heard 33 = .ok (.getfield 108, 3) := by decide +kernel
theorem dX1_heard_36 : decode cX1_heard 36 = .ok (.iconst 2, 1) := by decide +kernel
theorem dX1_heard_37 : decode cX1_heard 37 = .ok (.idiv, 1) := by decide +kernel
theorem dX1_heard_38 : decode cX1_heard 38 = .ok (.iload 5, 2) := by decide +kernel
theorem dX1_heard_40 : decode cX1_heard 40 = .ok (.imul, 1) := by decide +kernel
theorem dX1_heard_41 : decode cX1_heard 41 = .ok (.isub, 1) := by decide +kernel
theorem dX1_heard_42 : decode cX1_heard 42 = .ok (.invokestatic 83, 3) := by decide +kernel
theorem dX1_heard_45 : decode cX1_heard 45 = .ok (.istore 7, 2) := by decide +kernel
theorem dX1_heard_47 : decode cX1_heard 47 = .ok (.aload_n 0, 1) := by decide +kernel
theorem dX1_heard_48 : decode cX1_heard 48 = .ok (.getfield 61, 3) := by decide +kernel
theorem dX1_heard_51 : decode cX1_heard 51 = .ok (.iconst 2, 1) := by decide +kernel
theorem dX1_heard_52 : decode cX1_heard 52 = .ok (.irem, 1) := by decide +kernel
theorem dX1_heard_53 : decode cX1_heard 53 = .ok (.ifCond .ne 10, 3) := by decide +kernel
theorem dX1_heard_56 : decode cX1_heard 56 = .ok (.iload 6, 2) := by decide +kernel
theorem dX1_heard_58 : decode cX1_heard 58 = .ok (.iconst 2, 1) := by decide +kernel
theorem dX1_heard_59 : decode cX1_heard 59 = .ok (.idiv, 1) := by decide +kernel
theorem dX1_heard_60 : decode cX1_heard 60 = .ok (.goto 5, 3) := by decide +kernel
theorem dX1_heard_63 : decode cX1_heard 63 = .ok (.iload 6, 2) := by decide +kernel
theorem dX1_heard_65 : decode cX1_heard 65 = .ok (.istore 8, 2) := by decide +kernel
theorem dX1_heard_67 : decode cX1_heard 67 = .ok (.aload_n 0, 1) := by decide +kernel
theorem dX1_heard_68 : decode cX1_heard 68 = .ok (.getfield 9, 3) := by decide +kernel
theorem dX1_heard_71 : decode cX1_heard 71 = .ok (.iload_n 1, 1) := by decide +kernel
theorem dX1_heard_72 : decode cX1_heard 72 = .ok (.iaload, 1) := by decide +kernel
theorem dX1_heard_73 : decode cX1_heard 73 = .ok (.tableswitch 103 2 6 #[35, 38, 41, 53, 74], 35) := by decide +kernel
theorem dX1_heard_108 : decode cX1_heard 108 = .ok (.iload 8, 2) := by decide +kernel
theorem dX1_heard_110 : decode cX1_heard 110 = .ok (.ireturn, 1) := by decide +kernel
theorem dX1_heard_111 : decode cX1_heard 111 = .ok (.iload 7, 2) := by decide +kernel
theorem dX1_heard_113 : decode cX1_heard 113 = .ok (.ireturn, 1) := by decide +kernel
theorem dX1_heard_114 : decode cX1_heard 114 = .ok (.iload 5, 2) := by decide +kernel
theorem dX1_heard_116 : decode cX1_heard 116 = .ok (.ifCond .ne 8, 3) := by decide +kernel
theorem dX1_heard_119 : decode cX1_heard 119 = .ok (.iload 6, 2) := by decide +kernel
theorem dX1_heard_121 : decode cX1_heard 121 = .ok (.goto 4, 3) := by decide +kernel
theorem dX1_heard_124 : decode cX1_heard 124 = .ok (.iconst 0, 1) := by decide +kernel
theorem dX1_heard_125 : decode cX1_heard 125 = .ok (.ireturn, 1) := by decide +kernel
theorem dX1_heard_126 : decode cX1_heard 126 = .ok (.iload 4, 2) := by decide +kernel
theorem dX1_heard_128 : decode cX1_heard 128 = .ok (.iload_n 3, 1) := by decide +kernel
theorem dX1_heard_129 : decode cX1_heard 129 = .ok (.if_icmp .ge 15, 3) := by decide +kernel
theorem dX1_heard_132 : decode cX1_heard 132 = .ok (.iload 8, 2) := by decide +kernel
theorem dX1_heard_134 : decode cX1_heard 134 = .ok (.aload_n 0, 1) := by decide +kernel
theorem dX1_heard_135 : decode cX1_heard 135 = .ok (.getfield 15, 3) := by decide +kernel
theorem dX1_heard_138 : decode cX1_heard 138 = .ok (.iload_n 1, 1) := by decide +kernel
theorem dX1_heard_139 : decode cX1_heard 139 = .ok (.iaload, 1) := by decide +kernel
theorem dX1_heard_140 : decode cX1_heard 140 = .ok (.iadd, 1) := by decide +kernel
theorem dX1_heard_141 : decode cX1_heard 141 = .ok (.goto 5, 3) := by decide +kernel
theorem dX1_heard_144 : decode cX1_heard 144 = .ok (.iload 8, 2) := by decide +kernel
theorem dX1_heard_146 : decode cX1_heard 146 = .ok (.ireturn, 1) := by decide +kernel
theorem dX1_heard_147 : decode cX1_heard 147 = .ok (.iload 5, 2) := by decide +kernel
theorem dX1_heard_149 : decode cX1_heard 149 = .ok (.ifCond .ne 24, 3) := by decide +kernel
theorem dX1_heard_152 : decode cX1_heard 152 = .ok (.iload 7, 2) := by decide +kernel
theorem dX1_heard_154 : decode cX1_heard 154 = .ok (.aload_n 0, 1) := by decide +kernel
theorem dX1_heard_155 : decode cX1_heard 155 = .ok (.getfield 24, 3) := by decide +kernel
theorem dX1_heard_158 : decode cX1_heard 158 = .ok (.iload_n 1, 1) := by decide +kernel
theorem dX1_heard_159 : decode cX1_heard 159 = .ok (.iconst 4, 1) := by decide +kernel
theorem dX1_heard_160 : decode cX1_heard 160 = .ok (.imul, 1) := by decide +kernel
theorem dX1_heard_161 : decode cX1_heard 161 = .ok (.aload_n 0, 1) := by decide +kernel
theorem dX1_heard_162 : decode cX1_heard 162 = .ok (.getfield 61, 3) := by decide +kernel
theorem dX1_heard_165 : decode cX1_heard 165 = .ok (.iconst 4, 1) := by decide +kernel
theorem dX1_heard_166 : decode cX1_heard 166 = .ok (.irem, 1) := by decide +kernel
theorem dX1_heard_167 : decode cX1_heard 167 = .ok (.iadd, 1) := by decide +kernel
theorem dX1_heard_168 : decode cX1_heard 168 = .ok (.iaload, 1) := by decide +kernel
theorem dX1_heard_169 : decode cX1_heard 169 = .ok (.iadd, 1) := by decide +kernel
theorem dX1_heard_170 : decode cX1_heard 170 = .ok (.goto 5, 3) := by decide +kernel
theorem dX1_heard_173 : decode cX1_heard 173 = .ok (.iload 7, 2) := by decide +kernel
theorem dX1_heard_175 : decode cX1_heard 175 = .ok (.ireturn, 1) := by decide +kernel
theorem dX1_heard_176 : decode cX1_heard 176 = .ok (.iload 6, 2) := by decide +kernel
theorem dX1_heard_178 : decode cX1_heard 178 = .ok (.ireturn, 1) := by decide +kernel
theorem dX1_heardIn_0 : decode cX1_heardIn 0 = .ok (.aload_n 0, 1) := by decide +kernel
theorem dX1_heardIn_1 : decode cX1_heardIn 1 = .ok (.iload_n 1, 1) := by decide +kernel
theorem dX1_heardIn_2 : decode cX1_heardIn 2 = .ok (.invokevirtual 75, 3) := by decide +kernel
theorem dX1_heardIn_5 : decode cX1_heardIn 5 = .ok (.ifCond .eq 5, 3) := by decide +kernel
theorem dX1_heardIn_8 : decode cX1_heardIn 8 = .ok (.iconst 0, 1) := by decide +kernel
theorem dX1_heardIn_9 : decode cX1_heardIn 9 = .ok (.ireturn, 1) := by decide +kernel
theorem dX1_heardIn_10 : decode cX1_heardIn 10 = .ok (.aload_n 0, 1) := by decide +kernel
theorem dX1_heardIn_11 : decode cX1_heardIn 11 = .ok (.iload_n 1, 1) := by decide +kernel
theorem dX1_heardIn_12 : decode cX1_heardIn 12 = .ok (.aload_n 0, 1) := by decide +kernel
theorem dX1_heardIn_13 : decode cX1_heardIn 13 = .ok (.iload_n 1, 1) := by decide +kernel
theorem dX1_heardIn_14 : decode cX1_heardIn 14 = .ok (.aload_n 0, 1) := by decide +kernel
theorem dX1_heardIn_15 : decode cX1_heardIn 15 = .ok (.getfield 21, 3) := by decide +kernel
theorem dX1_heardIn_18 : decode cX1_heardIn 18 = .ok (.iload_n 1, 1) := by decide +kernel
theorem dX1_heardIn_19 : decode cX1_heardIn 19 = .ok (.iaload, 1) := by decide +kernel
theorem dX1_heardIn_20 : decode cX1_heardIn 20 = .ok (.invokevirtual 111, 3) := by decide +kernel
theorem dX1_heardIn_23 : decode cX1_heardIn 23 = .ok (.aload_n 0, 1) := by decide +kernel
theorem dX1_heardIn_24 : decode cX1_heardIn 24 = .ok (.getfield 21, 3) := by decide +kernel
theorem dX1_heardIn_27 : decode cX1_heardIn 27 = .ok (.iload_n 1, 1) := by decide +kernel
theorem dX1_heardIn_28 : decode cX1_heardIn 28 = .ok (.iaload, 1) := by decide +kernel
theorem dX1_heardIn_29 : decode cX1_heardIn 29 = .ok (.iload_n 2, 1) := by decide +kernel
theorem dX1_heardIn_30 : decode cX1_heardIn 30 = .ok (.invokevirtual 114, 3) := by decide +kernel
theorem dX1_heardIn_33 : decode cX1_heardIn 33 = .ok (.ireturn, 1) := by decide +kernel
theorem dX1_noiseOf_0 : decode cX1_noiseOf 0 = .ok (.iconst 0, 1) := by decide +kernel
theorem dX1_noiseOf_1 : decode cX1_noiseOf 1 = .ok (.istore_n 2, 1) := by decide +kernel
theorem dX1_noiseOf_2 : decode cX1_noiseOf 2 = .ok (.iconst 0, 1) := by decide +kernel
theorem dX1_noiseOf_3 : decode cX1_noiseOf 3 = .ok (.istore_n 3, 1) := by decide +kernel
theorem dX1_noiseOf_4 : decode cX1_noiseOf 4 = .ok (.iload_n 3, 1) := by decide +kernel
theorem dX1_noiseOf_5 : decode cX1_noiseOf 5 = .ok (.aload_n 0, 1) := by decide +kernel
theorem dX1_noiseOf_6 : decode cX1_noiseOf 6 = .ok (.getfield 51, 3) := by decide +kernel
theorem dX1_noiseOf_9 : decode cX1_noiseOf 9 = .ok (.if_icmp .ge 18, 3) := by decide +kernel
theorem dX1_noiseOf_12 : decode cX1_noiseOf 12 = .ok (.iload_n 2, 1) := by decide +kernel
theorem dX1_noiseOf_13 : decode cX1_noiseOf 13 = .ok (.aload_n 0, 1) := by decide +kernel
theorem dX1_noiseOf_14 : decode cX1_noiseOf 14 = .ok (.iload_n 3, 1) := by decide +kernel
theorem dX1_noiseOf_15 : decode cX1_noiseOf 15 = .ok (.iload_n 1, 1) := by decide +kernel
theorem dX1_noiseOf_16 : decode cX1_noiseOf 16 = .ok (.invokevirtual 118, 3) := by decide +kernel
theorem dX1_noiseOf_19 : decode cX1_noiseOf 19 = .ok (.iadd, 1) := by decide +kernel
theorem dX1_noiseOf_20 : decode cX1_noiseOf 20 = .ok (.istore_n 2, 1) := by decide +kernel
theorem dX1_noiseOf_21 : decode cX1_noiseOf 21 = .ok (.iinc 3 1, 3) := by decide +kernel
theorem dX1_noiseOf_24 : decode cX1_noiseOf 24 = .ok (.goto (-20), 3) := by decide +kernel
theorem dX1_noiseOf_27 : decode cX1_noiseOf 27 = .ok (.iload_n 2, 1) := by decide +kernel
theorem dX1_noiseOf_28 : decode cX1_noiseOf 28 = .ok (.ireturn, 1) := by decide +kernel
theorem dX1_greatest_0 : decode cX1_greatest 0 = .ok (.iconst 0, 1) := by decide +kernel
theorem dX1_greatest_1 : decode cX1_greatest 1 = .ok (.istore_n 1, 1) := by decide +kernel
theorem dX1_greatest_2 : decode cX1_greatest 2 = .ok (.iconst 0, 1) := by decide +kernel
theorem dX1_greatest_3 : decode cX1_greatest 3 = .ok (.istore_n 2, 1) := by decide +kernel
theorem dX1_greatest_4 : decode cX1_greatest 4 = .ok (.iload_n 2, 1) := by decide +kernel
theorem dX1_greatest_5 : decode cX1_greatest 5 = .ok (.iconst 5, 1) := by decide +kernel
theorem dX1_greatest_6 : decode cX1_greatest 6 = .ok (.if_icmp .ge 19, 3) := by decide +kernel
theorem dX1_greatest_9 : decode cX1_greatest 9 = .ok (.iload_n 1, 1) := by decide +kernel
theorem dX1_greatest_10 : decode cX1_greatest 10 = .ok (.aload_n 0, 1) := by decide +kernel
theorem dX1_greatest_11 : decode cX1_greatest 11 = .ok (.iload_n 2, 1) := by decide +kernel
theorem dX1_greatest_12 : decode cX1_greatest 12 = .ok (.invokevirtual 121, 3) := by decide +kernel
theorem dX1_greatest_15 : decode cX1_greatest 15 = .ok (.invokestatic 83, 3) := by decide +kernel
theorem dX1_greatest_18 : decode cX1_greatest 18 = .ok (.istore_n 1, 1) := by decide +kernel
theorem dX1_greatest_19 : decode cX1_greatest 19 = .ok (.iinc 2 1, 3) := by decide +kernel
theorem dX1_greatest_22 : decode cX1_greatest 22 = .ok (.goto (-18), 3) := by decide +kernel
theorem dX1_greatest_25 : decode cX1_greatest 25 = .ok (.iload_n 1, 1) := by decide +kernel
theorem dX1_greatest_26 : decode cX1_greatest 26 = .ok (.ireturn, 1) := by decide +kernel
theorem dX1_stillHouses_0 : decode cX1_stillHouses 0 = .ok (.iconst 0, 1) := by decide +kernel
theorem dX1_stillHouses_1 : decode cX1_stillHouses 1 = .ok (.istore_n 1, 1) := by decide +kernel
theorem dX1_stillHouses_2 : decode cX1_stillHouses 2 = .ok (.iconst 0, 1) := by decide +kernel
theorem dX1_stillHouses_3 : decode cX1_stillHouses 3 = .ok (.istore_n 2, 1) := by decide +kernel
theorem dX1_stillHouses_4 : decode cX1_stillHouses 4 = .ok (.iload_n 2, 1) := by decide +kernel
theorem dX1_stillHouses_5 : decode cX1_stillHouses 5 = .ok (.iconst 5, 1) := by decide +kernel
theorem dX1_stillHouses_6 : decode cX1_stillHouses 6 = .ok (.if_icmp .ge 30, 3) := by decide +kernel
theorem dX1_stillHouses_9 : decode cX1_stillHouses 9 = .ok (.aload_n 0, 1) := by decide +kernel
theorem dX1_stillHouses_10 : decode cX1_stillHouses 10 = .ok (.iload_n 2, 1) := by decide +kernel
theorem dX1_stillHouses_11 : decode cX1_stillHouses 11 = .ok (.invokevirtual 121, 3) := by decide +kernel
theorem dX1_stillHouses_14 : decode cX1_stillHouses 14 = .ok (.aload_n 0, 1) := by decide +kernel
theorem dX1_stillHouses_15 : decode cX1_stillHouses 15 = .ok (.getfield 47, 3) := by decide +kernel
theorem dX1_stillHouses_18 : decode cX1_stillHouses 18 = .ok (.getfield 124, 3) := by decide +kernel
theorem dX1_stillHouses_21 : decode cX1_stillHouses 21 = .ok (.if_icmp .gt 9, 3) := by decide +kernel
theorem dX1_stillHouses_24 : decode cX1_stillHouses 24 = .ok (.iload_n 1, 1) := by decide +kernel
theorem dX1_stillHouses_25 : decode cX1_stillHouses 25 = .ok (.iconst 1, 1) := by decide +kernel
theorem dX1_stillHouses_26 : decode cX1_stillHouses 26 = .ok (.iload_n 2, 1) := by decide +kernel
theorem dX1_stillHouses_27 : decode cX1_stillHouses 27 = .ok (.ishl, 1) := by decide +kernel
theorem dX1_stillHouses_28 : decode cX1_stillHouses 28 = .ok (.ior, 1) := by decide +kernel
theorem dX1_stillHouses_29 : decode cX1_stillHouses 29 = .ok (.istore_n 1, 1) := by decide +kernel
theorem dX1_stillHouses_30 : decode cX1_stillHouses 30 = .ok (.iinc 2 1, 3) := by decide +kernel
theorem dX1_stillHouses_33 : decode cX1_stillHouses 33 = .ok (.goto (-29), 3) := by decide +kernel
theorem dX1_stillHouses_36 : decode cX1_stillHouses 36 = .ok (.iload_n 1, 1) := by decide +kernel
theorem dX1_stillHouses_37 : decode cX1_stillHouses 37 = .ok (.ireturn, 1) := by decide +kernel
theorem dX2_init_0 : decode cX2_init 0 = .ok (.aload_n 0, 1) := by decide +kernel
theorem dX2_init_1 : decode cX2_init 1 = .ok (.invokespecial 1, 3) := by decide +kernel
theorem dX2_init_4 : decode cX2_init 4 = .ok (.aload_n 0, 1) := by decide +kernel
theorem dX2_init_5 : decode cX2_init 5 = .ok (.iload_n 1, 1) := by decide +kernel
theorem dX2_init_6 : decode cX2_init 6 = .ok (.newarray .int, 2) := by decide +kernel
theorem dX2_init_8 : decode cX2_init 8 = .ok (.putfield 7, 3) := by decide +kernel
theorem dX2_init_11 : decode cX2_init 11 = .ok (.aload_n 0, 1) := by decide +kernel
theorem dX2_init_12 : decode cX2_init 12 = .ok (.iload_n 1, 1) := by decide +kernel
theorem dX2_init_13 : decode cX2_init 13 = .ok (.newarray .int, 2) := by decide +kernel
theorem dX2_init_15 : decode cX2_init 15 = .ok (.putfield 13, 3) := by decide +kernel
theorem dX2_init_18 : decode cX2_init 18 = .ok (.aload_n 0, 1) := by decide +kernel
theorem dX2_init_19 : decode cX2_init 19 = .ok (.iload_n 1, 1) := by decide +kernel
theorem dX2_init_20 : decode cX2_init 20 = .ok (.newarray .int, 2) := by decide +kernel
theorem dX2_init_22 : decode cX2_init 22 = .ok (.putfield 16, 3) := by decide +kernel
theorem dX2_init_25 : decode cX2_init 25 = .ok (.return_, 1) := by decide +kernel
theorem dX2_isFull_0 : decode cX2_isFull 0 = .ok (.aload_n 0, 1) := by decide +kernel
theorem dX2_isFull_1 : decode cX2_isFull 1 = .ok (.getfield 19, 3) := by decide +kernel
theorem dX2_isFull_4 : decode cX2_isFull 4 = .ok (.aload_n 0, 1) := by decide +kernel
theorem dX2_isFull_5 : decode cX2_isFull 5 = .ok (.getfield 7, 3) := by decide +kernel
theorem dX2_isFull_8 : decode cX2_isFull 8 = .ok (.arraylength, 1) := by decide +kernel
theorem dX2_isFull_9 : decode cX2_isFull 9 = .ok (.if_icmp .lt 7, 3) := by decide +kernel
theorem dX2_isFull_12 : decode cX2_isFull 12 = .ok (.iconst 1, 1) := by decide +kernel
theorem dX2_isFull_13 : decode cX2_isFull 13 = .ok (.goto 4, 3) := by decide +kernel
theorem dX2_isFull_16 : decode cX2_isFull 16 = .ok (.iconst 0, 1) := by decide +kernel
theorem dX2_isFull_17 : decode cX2_isFull 17 = .ok (.ireturn, 1) := by decide +kernel
theorem dX2_empty_0 : decode cX2_empty 0 = .ok (.aload_n 0, 1) := by decide +kernel
theorem dX2_empty_1 : decode cX2_empty 1 = .ok (.iconst 0, 1) := by decide +kernel
theorem dX2_empty_2 : decode cX2_empty 2 = .ok (.putfield 19, 3) := by decide +kernel
theorem dX2_empty_5 : decode cX2_empty 5 = .ok (.aload_n 0, 1) := by decide +kernel
theorem dX2_empty_6 : decode cX2_empty 6 = .ok (.getfield 19, 3) := by decide +kernel
theorem dX2_empty_9 : decode cX2_empty 9 = .ok (.ireturn, 1) := by decide +kernel
theorem dX2_add_0 : decode cX2_add 0 = .ok (.aload_n 0, 1) := by decide +kernel
theorem dX2_add_1 : decode cX2_add 1 = .ok (.getfield 7, 3) := by decide +kernel
theorem dX2_add_4 : decode cX2_add 4 = .ok (.aload_n 0, 1) := by decide +kernel
theorem dX2_add_5 : decode cX2_add 5 = .ok (.getfield 19, 3) := by decide +kernel
theorem dX2_add_8 : decode cX2_add 8 = .ok (.iload_n 1, 1) := by decide +kernel
theorem dX2_add_9 : decode cX2_add 9 = .ok (.iastore, 1) := by decide +kernel
theorem dX2_add_10 : decode cX2_add 10 = .ok (.aload_n 0, 1) := by decide +kernel
theorem dX2_add_11 : decode cX2_add 11 = .ok (.getfield 13, 3) := by decide +kernel
theorem dX2_add_14 : decode cX2_add 14 = .ok (.aload_n 0, 1) := by decide +kernel
theorem dX2_add_15 : decode cX2_add 15 = .ok (.getfield 19, 3) := by decide +kernel
theorem dX2_add_18 : decode cX2_add 18 = .ok (.iload_n 2, 1) := by decide +kernel
theorem dX2_add_19 : decode cX2_add 19 = .ok (.iastore, 1) := by decide +kernel
theorem dX2_add_20 : decode cX2_add 20 = .ok (.aload_n 0, 1) := by decide +kernel
theorem dX2_add_21 : decode cX2_add 21 = .ok (.getfield 16, 3) := by decide +kernel
theorem dX2_add_24 : decode cX2_add 24 = .ok (.aload_n 0, 1) := by decide +kernel
theorem dX2_add_25 : decode cX2_add 25 = .ok (.getfield 19, 3) := by decide +kernel
theorem dX2_add_28 : decode cX2_add 28 = .ok (.iload_n 3, 1) := by decide +kernel
theorem dX2_add_29 : decode cX2_add 29 = .ok (.iastore, 1) := by decide +kernel
theorem dX2_add_30 : decode cX2_add 30 = .ok (.aload_n 0, 1) := by decide +kernel
theorem dX2_add_31 : decode cX2_add 31 = .ok (.dup, 1) := by decide +kernel
theorem dX2_add_32 : decode cX2_add 32 = .ok (.getfield 19, 3) := by decide +kernel
theorem dX2_add_35 : decode cX2_add 35 = .ok (.iconst 1, 1) := by decide +kernel
theorem dX2_add_36 : decode cX2_add 36 = .ok (.iadd, 1) := by decide +kernel
theorem dX2_add_37 : decode cX2_add 37 = .ok (.putfield 19, 3) := by decide +kernel
theorem dX2_add_40 : decode cX2_add 40 = .ok (.aload_n 0, 1) := by decide +kernel
theorem dX2_add_41 : decode cX2_add 41 = .ok (.getfield 19, 3) := by decide +kernel
theorem dX2_add_44 : decode cX2_add 44 = .ok (.ireturn, 1) := by decide +kernel
theorem dX2_takeAll_0 : decode cX2_takeAll 0 = .ok (.aload_n 1, 1) := by decide +kernel
theorem dX2_takeAll_1 : decode cX2_takeAll 1 = .ok (.getfield 7, 3) := by decide +kernel
theorem dX2_takeAll_4 : decode cX2_takeAll 4 = .ok (.iconst 0, 1) := by decide +kernel
theorem dX2_takeAll_5 : decode cX2_takeAll 5 = .ok (.aload_n 0, 1) := by decide +kernel
theorem dX2_takeAll_6 : decode cX2_takeAll 6 = .ok (.getfield 7, 3) := by decide +kernel
theorem dX2_takeAll_9 : decode cX2_takeAll 9 = .ok (.iconst 0, 1) := by decide +kernel
theorem dX2_takeAll_10 : decode cX2_takeAll 10 = .ok (.aload_n 0, 1) := by decide +kernel
theorem dX2_takeAll_11 : decode cX2_takeAll 11 = .ok (.getfield 7, 3) := by decide +kernel
theorem dX2_takeAll_14 : decode cX2_takeAll 14 = .ok (.arraylength, 1) := by decide +kernel
theorem dX2_takeAll_15 : decode cX2_takeAll 15 = .ok (.invokestatic 23, 3) := by decide +kernel
theorem dX2_takeAll_18 : decode cX2_takeAll 18 = .ok (.aload_n 1, 1) := by decide +kernel
theorem dX2_takeAll_19 : decode cX2_takeAll 19 = .ok (.getfield 13, 3) := by decide +kernel
theorem dX2_takeAll_22 : decode cX2_takeAll 22 = .ok (.iconst 0, 1) := by decide +kernel
theorem dX2_takeAll_23 : decode cX2_takeAll 23 = .ok (.aload_n 0, 1) := by decide +kernel
theorem dX2_takeAll_24 : decode cX2_takeAll 24 = .ok (.getfield 13, 3) := by decide +kernel
theorem dX2_takeAll_27 : decode cX2_takeAll 27 = .ok (.iconst 0, 1) := by decide +kernel
theorem dX2_takeAll_28 : decode cX2_takeAll 28 = .ok (.aload_n 0, 1) := by decide +kernel
theorem dX2_takeAll_29 : decode cX2_takeAll 29 = .ok (.getfield 13, 3) := by decide +kernel
theorem dX2_takeAll_32 : decode cX2_takeAll 32 = .ok (.arraylength, 1) := by decide +kernel
theorem dX2_takeAll_33 : decode cX2_takeAll 33 = .ok (.invokestatic 23, 3) := by decide +kernel
theorem dX2_takeAll_36 : decode cX2_takeAll 36 = .ok (.aload_n 1, 1) := by decide +kernel
theorem dX2_takeAll_37 : decode cX2_takeAll 37 = .ok (.getfield 16, 3) := by decide +kernel
theorem dX2_takeAll_40 : decode cX2_takeAll 40 = .ok (.iconst 0, 1) := by decide +kernel
theorem dX2_takeAll_41 : decode cX2_takeAll 41 = .ok (.aload_n 0, 1) := by decide +kernel
theorem dX2_takeAll_42 : decode cX2_takeAll 42 = .ok (.getfield 16, 3) := by decide +kernel
theorem dX2_takeAll_45 : decode cX2_takeAll 45 = .ok (.iconst 0, 1) := by decide +kernel
theorem dX2_takeAll_46 : decode cX2_takeAll 46 = .ok (.aload_n 0, 1) := by decide +kernel
theorem dX2_takeAll_47 : decode cX2_takeAll 47 = .ok (.getfield 16, 3) := by decide +kernel
theorem dX2_takeAll_50 : decode cX2_takeAll 50 = .ok (.arraylength, 1) := by decide +kernel
theorem dX2_takeAll_51 : decode cX2_takeAll 51 = .ok (.invokestatic 23, 3) := by decide +kernel
theorem dX2_takeAll_54 : decode cX2_takeAll 54 = .ok (.aload_n 0, 1) := by decide +kernel
theorem dX2_takeAll_55 : decode cX2_takeAll 55 = .ok (.aload_n 1, 1) := by decide +kernel
theorem dX2_takeAll_56 : decode cX2_takeAll 56 = .ok (.getfield 19, 3) := by decide +kernel
theorem dX2_takeAll_59 : decode cX2_takeAll 59 = .ok (.putfield 19, 3) := by decide +kernel
theorem dX2_takeAll_62 : decode cX2_takeAll 62 = .ok (.return_, 1) := by decide +kernel
theorem dX3_init_0 : decode cX3_init 0 = .ok (.aload_n 0, 1) := by decide +kernel
theorem dX3_init_1 : decode cX3_init 1 = .ok (.invokespecial 3, 3) := by decide +kernel
theorem dX3_init_4 : decode cX3_init 4 = .ok (.aload_n 0, 1) := by decide +kernel
theorem dX3_init_5 : decode cX3_init 5 = .ok (.bipush 10, 2) := by decide +kernel
theorem dX3_init_7 : decode cX3_init 7 = .ok (.newarray .int, 2) := by decide +kernel
theorem dX3_init_9 : decode cX3_init 9 = .ok (.putfield 9, 3) := by decide +kernel
theorem dX3_init_12 : decode cX3_init 12 = .ok (.aload_n 0, 1) := by decide +kernel
theorem dX3_init_13 : decode cX3_init 13 = .ok (.bipush 11, 2) := by decide +kernel
theorem dX3_init_15 : decode cX3_init 15 = .ok (.newarray .int, 2) := by decide +kernel
theorem dX3_init_17 : decode cX3_init 17 = .ok (.putfield 15, 3) := by decide +kernel
theorem dX3_init_20 : decode cX3_init 20 = .ok (.aload_n 0, 1) := by decide +kernel
theorem dX3_init_21 : decode cX3_init 21 = .ok (.bipush 100, 2) := by decide +kernel
theorem dX3_init_23 : decode cX3_init 23 = .ok (.newarray .int, 2) := by decide +kernel
theorem dX3_init_25 : decode cX3_init 25 = .ok (.putfield 18, 3) := by decide +kernel
theorem dX3_init_28 : decode cX3_init 28 = .ok (.aload_n 0, 1) := by decide +kernel
theorem dX3_init_29 : decode cX3_init 29 = .ok (.bipush 100, 2) := by decide +kernel
theorem dX3_init_31 : decode cX3_init 31 = .ok (.newarray .int, 2) := by decide +kernel
theorem dX3_init_33 : decode cX3_init 33 = .ok (.putfield 21, 3) := by decide +kernel
theorem dX3_init_36 : decode cX3_init 36 = .ok (.aload_n 0, 1) := by decide +kernel
theorem dX3_init_37 : decode cX3_init 37 = .ok (.bipush 100, 2) := by decide +kernel
theorem dX3_init_39 : decode cX3_init 39 = .ok (.newarray .int, 2) := by decide +kernel
theorem dX3_init_41 : decode cX3_init 41 = .ok (.putfield 24, 3) := by decide +kernel
theorem dX3_init_44 : decode cX3_init 44 = .ok (.aload_n 0, 1) := by decide +kernel
theorem dX3_init_45 : decode cX3_init 45 = .ok (.invokevirtual 27, 3) := by decide +kernel
theorem dX3_init_48 : decode cX3_init 48 = .ok (.return_, 1) := by decide +kernel
theorem dX3_empty_0 : decode cX3_empty 0 = .ok (.aload_n 0, 1) := by decide +kernel
theorem dX3_empty_1 : decode cX3_empty 1 = .ok (.bipush 6, 2) := by decide +kernel
theorem dX3_empty_3 : decode cX3_empty 3 = .ok (.putfield 30, 3) := by decide +kernel
theorem dX3_empty_6 : decode cX3_empty 6 = .ok (.aload_n 0, 1) := by decide +kernel
theorem dX3_empty_7 : decode cX3_empty 7 = .ok (.bipush 10, 2) := by decide +kernel
theorem dX3_empty_9 : decode cX3_empty 9 = .ok (.putfield 34, 3) := by decide +kernel
theorem dX3_empty_12 : decode cX3_empty 12 = .ok (.aload_n 0, 1) := by decide +kernel
theorem dX3_empty_13 : decode cX3_empty 13 = .ok (.iconst 1, 1) := by decide +kernel
theorem dX3_empty_14 : decode cX3_empty 14 = .ok (.putfield 37, 3) := by decide +kernel
theorem dX3_empty_17 : decode cX3_empty 17 = .ok (.aload_n 0, 1) := by decide +kernel
theorem dX3_empty_18 : decode cX3_empty 18 = .ok (.iconst 0, 1) := by decide +kernel
theorem dX3_empty_19 : decode cX3_empty 19 = .ok (.putfield 40, 3) := by decide +kernel
theorem dX3_empty_22 : decode cX3_empty 22 = .ok (.aload_n 0, 1) := by decide +kernel
theorem dX3_empty_23 : decode cX3_empty 23 = .ok (.iconst 0, 1) := by decide +kernel
theorem dX3_empty_24 : decode cX3_empty 24 = .ok (.putfield 43, 3) := by decide +kernel
theorem dX3_empty_27 : decode cX3_empty 27 = .ok (.return_, 1) := by decide +kernel
theorem dX3_add_0 : decode cX3_add 0 = .ok (.aload_n 0, 1) := by decide +kernel
theorem dX3_add_1 : decode cX3_add 1 = .ok (.getfield 43, 3) := by decide +kernel
theorem dX3_add_4 : decode cX3_add 4 = .ok (.bipush 100, 2) := by decide +kernel
theorem dX3_add_6 : decode cX3_add 6 = .ok (.if_icmp .ge 43, 3) := by decide +kernel
theorem dX3_add_9 : decode cX3_add 9 = .ok (.aload_n 0, 1) := by decide +kernel
theorem dX3_add_10 : decode cX3_add 10 = .ok (.getfield 18, 3) := by decide +kernel
theorem dX3_add_13 : decode cX3_add 13 = .ok (.aload_n 0, 1) := by decide +kernel
theorem dX3_add_14 : decode cX3_add 14 = .ok (.getfield 43, 3) := by decide +kernel
theorem dX3_add_17 : decode cX3_add 17 = .ok (.iload_n 1, 1) := by decide +kernel
theorem dX3_add_18 : decode cX3_add 18 = .ok (.iastore, 1) := by decide +kernel
theorem dX3_add_19 : decode cX3_add 19 = .ok (.aload_n 0, 1) := by decide +kernel
theorem dX3_add_20 : decode cX3_add 20 = .ok (.getfield 21, 3) := by decide +kernel
theorem dX3_add_23 : decode cX3_add 23 = .ok (.aload_n 0, 1) := by decide +kernel
theorem dX3_add_24 : decode cX3_add 24 = .ok (.getfield 43, 3) := by decide +kernel
theorem dX3_add_27 : decode cX3_add 27 = .ok (.iload_n 2, 1) := by decide +kernel
theorem dX3_add_28 : decode cX3_add 28 = .ok (.iastore, 1) := by decide +kernel
theorem dX3_add_29 : decode cX3_add 29 = .ok (.aload_n 0, 1) := by decide +kernel
theorem dX3_add_30 : decode cX3_add 30 = .ok (.getfield 24, 3) := by decide +kernel
theorem dX3_add_33 : decode cX3_add 33 = .ok (.aload_n 0, 1) := by decide +kernel
theorem dX3_add_34 : decode cX3_add 34 = .ok (.getfield 43, 3) := by decide +kernel
theorem dX3_add_37 : decode cX3_add 37 = .ok (.iload_n 3, 1) := by decide +kernel
theorem dX3_add_38 : decode cX3_add 38 = .ok (.iastore, 1) := by decide +kernel
theorem dX3_add_39 : decode cX3_add 39 = .ok (.aload_n 0, 1) := by decide +kernel
theorem dX3_add_40 : decode cX3_add 40 = .ok (.dup, 1) := by decide +kernel
theorem dX3_add_41 : decode cX3_add 41 = .ok (.getfield 43, 3) := by decide +kernel
theorem dX3_add_44 : decode cX3_add 44 = .ok (.iconst 1, 1) := by decide +kernel
theorem dX3_add_45 : decode cX3_add 45 = .ok (.iadd, 1) := by decide +kernel
theorem dX3_add_46 : decode cX3_add 46 = .ok (.putfield 43, 3) := by decide +kernel
theorem dX3_add_49 : decode cX3_add 49 = .ok (.return_, 1) := by decide +kernel
theorem dX3_endClause_0 : decode cX3_endClause 0 = .ok (.aload_n 0, 1) := by decide +kernel
theorem dX3_endClause_1 : decode cX3_endClause 1 = .ok (.getfield 40, 3) := by decide +kernel
theorem dX3_endClause_4 : decode cX3_endClause 4 = .ok (.bipush 10, 2) := by decide +kernel
theorem dX3_endClause_6 : decode cX3_endClause 6 = .ok (.if_icmp .ge 36, 3) := by decide +kernel
theorem dX3_endClause_9 : decode cX3_endClause 9 = .ok (.aload_n 0, 1) := by decide +kernel
theorem dX3_endClause_10 : decode cX3_endClause 10 = .ok (.getfield 9, 3) := by decide +kernel
theorem dX3_endClause_13 : decode cX3_endClause 13 = .ok (.aload_n 0, 1) := by decide +kernel
theorem dX3_endClause_14 : decode cX3_endClause 14 = .ok (.getfield 40, 3) := by decide +kernel
theorem dX3_endClause_17 : decode cX3_endClause 17 = .ok (.iload_n 1, 1) := by decide +kernel
theorem dX3_endClause_18 : decode cX3_endClause 18 = .ok (.iastore, 1) := by decide +kernel
theorem dX3_endClause_19 : decode cX3_endClause 19 = .ok (.aload_n 0, 1) := by decide +kernel
theorem dX3_endClause_20 : decode cX3_endClause 20 = .ok (.dup, 1) := by decide +kernel
theorem dX3_endClause_21 : decode cX3_endClause 21 = .ok (.getfield 40, 3) := by decide +kernel
theorem dX3_endClause_24 : decode cX3_endClause 24 = .ok (.iconst 1, 1) := by decide +kernel
theorem dX3_endClause_25 : decode cX3_endClause 25 = .ok (.iadd, 1) := by decide +kernel
theorem dX3_endClause_26 : decode cX3_endClause 26 = .ok (.putfield 40, 3) := by decide +kernel
theorem dX3_endClause_29 : decode cX3_endClause 29 = .ok (.aload_n 0, 1) := by decide +kernel
theorem dX3_endClause_30 : decode cX3_endClause 30 = .ok (.getfield 15, 3) := by decide +kernel
theorem dX3_endClause_33 : decode cX3_endClause 33 = .ok (.aload_n 0, 1) := by decide +kernel
theorem dX3_endClause_34 : decode cX3_endClause 34 = .ok (.getfield 40, 3) := by decide +kernel
theorem dX3_endClause_37 : decode cX3_endClause 37 = .ok (.aload_n 0, 1) := by decide +kernel
theorem dX3_endClause_38 : decode cX3_endClause 38 = .ok (.getfield 43, 3) := by decide +kernel
theorem dX3_endClause_41 : decode cX3_endClause 41 = .ok (.iastore, 1) := by decide +kernel
theorem dX3_endClause_42 : decode cX3_endClause 42 = .ok (.return_, 1) := by decide +kernel
theorem dX3_holds_0 : decode cX3_holds 0 = .ok (.iconst 0, 1) := by decide +kernel
theorem dX3_holds_1 : decode cX3_holds 1 = .ok (.istore_n 3, 1) := by decide +kernel
theorem dX3_holds_2 : decode cX3_holds 2 = .ok (.aload_n 0, 1) := by decide +kernel
theorem dX3_holds_3 : decode cX3_holds 3 = .ok (.getfield 15, 3) := by decide +kernel
theorem dX3_holds_6 : decode cX3_holds 6 = .ok (.iload_n 1, 1) := by decide +kernel
theorem dX3_holds_7 : decode cX3_holds 7 = .ok (.iaload, 1) := by decide +kernel
theorem dX3_holds_8 : decode cX3_holds 8 = .ok (.istore 4, 2) := by decide +kernel
theorem dX3_holds_10 : decode cX3_holds 10 = .ok (.iload 4, 2) := by decide +kernel
theorem dX3_holds_12 : decode cX3_holds 12 = .ok (.aload_n 0, 1) := by decide +kernel
theorem dX3_holds_13 : decode cX3_holds 13 = .ok (.getfield 15, 3) := by decide +kernel
theorem dX3_holds_16 : decode cX3_holds 16 = .ok (.iload_n 1, 1) := by decide +kernel
theorem dX3_holds_17 : decode cX3_holds 17 = .ok (.iconst 1, 1) := by decide +kernel
theorem dX3_holds_18 : decode cX3_holds 18 = .ok (.iadd, 1) := by decide +kernel
theorem dX3_holds_19 : decode cX3_holds 19 = .ok (.iaload, 1) := by decide +kernel
theorem dX3_holds_20 : decode cX3_holds 20 = .ok (.if_icmp .ge 177, 3) := by decide +kernel
theorem dX3_holds_23 : decode cX3_holds 23 = .ok (.aload_n 0, 1) := by decide +kernel
theorem dX3_holds_24 : decode cX3_holds 24 = .ok (.getfield 18, 3) := by decide +kernel
theorem dX3_holds_27 : decode cX3_holds 27 = .ok (.iload 4, 2) := by decide +kernel
theorem dX3_holds_29 : decode cX3_holds 29 = .ok (.iaload, 1) := by decide +kernel
theorem dX3_holds_30 : decode cX3_holds 30 = .ok (.tableswitch 56 6 8 #[26, 33, 45], 26) := by decide +kernel
theorem dX3_holds_56 : decode cX3_holds 56 = .ok (.iload_n 3, 1) := by decide +kernel
theorem dX3_holds_57 : decode cX3_holds 57 = .ok (.iconst 1, 1) := by decide +kernel
theorem dX3_holds_58 : decode cX3_holds 58 = .ok (.ixor, 1) := by decide +kernel
theorem dX3_holds_59 : decode cX3_holds 59 = .ok (.istore_n 3, 1) := by decide +kernel
theorem dX3_holds_60 : decode cX3_holds 60 = .ok (.goto 131, 3) := by decide +kernel
theorem dX3_holds_63 : decode cX3_holds 63 = .ok (.iload_n 3, 1) := by decide +kernel
theorem dX3_holds_64 : decode cX3_holds 64 = .ok (.iconst 1, 1) := by decide +kernel
theorem dX3_holds_65 : decode cX3_holds 65 = .ok (.ishr, 1) := by decide +kernel
theorem dX3_holds_66 : decode cX3_holds 66 = .ok (.iload_n 3, 1) := by decide +kernel
theorem dX3_holds_67 : decode cX3_holds 67 = .ok (.bipush (-2), 2) := by decide +kernel
theorem dX3_holds_69 : decode cX3_holds 69 = .ok (.ior, 1) := by decide +kernel
theorem dX3_holds_70 : decode cX3_holds 70 = .ok (.iand, 1) := by decide +kernel
theorem dX3_holds_71 : decode cX3_holds 71 = .ok (.istore_n 3, 1) := by decide +kernel
theorem dX3_holds_72 : decode cX3_holds 72 = .ok (.goto 119, 3) := by decide +kernel
theorem dX3_holds_75 : decode cX3_holds 75 = .ok (.iload_n 3, 1) := by decide +kernel
theorem dX3_holds_76 : decode cX3_holds 76 = .ok (.iconst 1, 1) := by decide +kernel
theorem dX3_holds_77 : decode cX3_holds 77 = .ok (.ishr, 1) := by decide +kernel
theorem dX3_holds_78 : decode cX3_holds 78 = .ok (.iload_n 3, 1) := by decide +kernel
theorem dX3_holds_79 : decode cX3_holds 79 = .ok (.iconst 1, 1) := by decide +kernel
theorem dX3_holds_80 : decode cX3_holds 80 = .ok (.iand, 1) := by decide +kernel
theorem dX3_holds_81 : decode cX3_holds 81 = .ok (.ior, 1) := by decide +kernel
theorem dX3_holds_82 : decode cX3_holds 82 = .ok (.istore_n 3, 1) := by decide +kernel
theorem dX3_holds_83 : decode cX3_holds 83 = .ok (.goto 108, 3) := by decide +kernel
theorem dX3_holds_86 : decode cX3_holds 86 = .ok (.aload_n 2, 1) := by decide +kernel
theorem dX3_holds_87 : decode cX3_holds 87 = .ok (.aload_n 0, 1) := by decide +kernel
theorem dX3_holds_88 : decode cX3_holds 88 = .ok (.getfield 18, 3) := by decide +kernel
theorem dX3_holds_91 : decode cX3_holds 91 = .ok (.iload 4, 2) := by decide +kernel
theorem dX3_holds_93 : decode cX3_holds 93 = .ok (.iaload, 1) := by decide +kernel
theorem dX3_holds_94 : decode cX3_holds 94 = .ok (.iaload, 1) := by decide +kernel
theorem dX3_holds_95 : decode cX3_holds 95 = .ok (.istore 5, 2) := by decide +kernel
theorem dX3_holds_97 : decode cX3_holds 97 = .ok (.aload_n 0, 1) := by decide +kernel
theorem dX3_holds_98 : decode cX3_holds 98 = .ok (.getfield 21, 3) := by decide +kernel
theorem dX3_holds_101 : decode cX3_holds 101 = .ok (.iload 4, 2) := by decide +kernel
theorem dX3_holds_103 : decode cX3_holds 103 = .ok (.iaload, 1) := by decide +kernel
theorem dX3_holds_104 : decode cX3_holds 104 = .ok (.ifCond .ge 23, 3) := by decide +kernel
theorem dX3_holds_107 : decode cX3_holds 107 = .ok (.iload 5, 2) := by decide +kernel
theorem dX3_holds_109 : decode cX3_holds 109 = .ok (.aload_n 0, 1) := by decide +kernel
theorem dX3_holds_110 : decode cX3_holds 110 = .ok (.getfield 24, 3) := by decide +kernel
theorem dX3_holds_113 : decode cX3_holds 113 = .ok (.iload 4, 2) := by decide +kernel
theorem dX3_holds_115 : decode cX3_holds 115 = .ok (.iaload, 1) := by decide +kernel
theorem dX3_holds_116 : decode cX3_holds 116 = .ok (.if_icmp .ge 7, 3) := by decide +kernel
theorem dX3_holds_119 : decode cX3_holds 119 = .ok (.iconst 1, 1) := by decide +kernel
theorem dX3_holds_120 : decode cX3_holds 120 = .ok (.goto 54, 3) := by decide +kernel
theorem dX3_holds_123 : decode cX3_holds 123 = .ok (.iconst 0, 1) := by decide +kernel
theorem dX3_holds_124 : decode cX3_holds 124 = .ok (.goto 50, 3) := by decide +kernel
theorem dX3_holds_127 : decode cX3_holds 127 = .ok (.aload_n 0, 1) := by decide +kernel
theorem dX3_holds_128 : decode cX3_holds 128 = .ok (.getfield 21, 3) := by decide +kernel
theorem dX3_holds_131 : decode cX3_holds 131 = .ok (.iload 4, 2) := by decide +kernel
theorem dX3_holds_133 : decode cX3_holds 133 = .ok (.iaload, 1) := by decide +kernel
theorem dX3_holds_134 : decode cX3_holds 134 = .ok (.ifCond .le 23, 3) := by decide +kernel
theorem dX3_holds_137 : decode cX3_holds 137 = .ok (.iload 5, 2) := by decide +kernel
theorem dX3_holds_139 : decode cX3_holds 139 = .ok (.aload_n 0, 1) := by decide +kernel
theorem dX3_holds_140 : decode cX3_holds 140 = .ok (.getfield 24, 3) := by decide +kernel
theorem dX3_holds_143 : decode cX3_holds 143 = .ok (.iload 4, 2) := by decide +kernel
theorem dX3_holds_145 : decode cX3_holds 145 = .ok (.iaload, 1) := by decide +kernel
theorem dX3_holds_146 : decode cX3_holds 146 = .ok (.if_icmp .le 7, 3) := by decide +kernel
theorem dX3_holds_149 : decode cX3_holds 149 = .ok (.iconst 1, 1) := by decide +kernel
theorem dX3_holds_150 : decode cX3_holds 150 = .ok (.goto 24, 3) := by decide +kernel
theorem dX3_holds_153 : decode cX3_holds 153 = .ok (.iconst 0, 1) := by decide +kernel
theorem dX3_holds_154 : decode cX3_holds 154 = .ok (.goto 20, 3) := by decide +kernel
theorem dX3_holds_157 : decode cX3_holds 157 = .ok (.iload 5, 2) := by decide +kernel
theorem dX3_holds_159 : decode cX3_holds 159 = .ok (.aload_n 0, 1) := by decide +kernel
theorem dX3_holds_160 : decode cX3_holds 160 = .ok (.getfield 24, 3) := by decide +kernel
theorem dX3_holds_163 : decode cX3_holds 163 = .ok (.iload 4, 2) := by decide +kernel
theorem dX3_holds_165 : decode cX3_holds 165 = .ok (.iaload, 1) := by decide +kernel
theorem dX3_holds_166 : decode cX3_holds 166 = .ok (.if_icmp .ne 7, 3) := by decide +kernel
theorem dX3_holds_169 : decode cX3_holds 169 = .ok (.iconst 1, 1) := by decide +kernel
theorem dX3_holds_170 : decode cX3_holds 170 = .ok (.goto 4, 3) := by decide +kernel
theorem dX3_holds_173 : decode cX3_holds 173 = .ok (.iconst 0, 1) := by decide +kernel
theorem dX3_holds_174 : decode cX3_holds 174 = .ok (.istore 6, 2) := by decide +kernel
theorem dX3_holds_176 : decode cX3_holds 176 = .ok (.iload_n 3, 1) := by decide +kernel
theorem dX3_holds_177 : decode cX3_holds 177 = .ok (.iconst 1, 1) := by decide +kernel
theorem dX3_holds_178 : decode cX3_holds 178 = .ok (.ishl, 1) := by decide +kernel
theorem dX3_holds_179 : decode cX3_holds 179 = .ok (.iload 6, 2) := by decide +kernel
theorem dX3_holds_181 : decode cX3_holds 181 = .ok (.ifCond .eq 7, 3) := by decide +kernel
theorem dX3_holds_184 : decode cX3_holds 184 = .ok (.iconst 1, 1) := by decide +kernel
theorem dX3_holds_185 : decode cX3_holds 185 = .ok (.goto 4, 3) := by decide +kernel
theorem dX3_holds_188 : decode cX3_holds 188 = .ok (.iconst 0, 1) := by decide +kernel
theorem dX3_holds_189 : decode cX3_holds 189 = .ok (.ior, 1) := by decide +kernel
theorem dX3_holds_190 : decode cX3_holds 190 = .ok (.istore_n 3, 1) := by decide +kernel
theorem dX3_holds_191 : decode cX3_holds 191 = .ok (.iinc 4 1, 3) := by decide +kernel
theorem dX3_holds_194 : decode cX3_holds 194 = .ok (.goto (-184), 3) := by decide +kernel
theorem dX3_holds_197 : decode cX3_holds 197 = .ok (.iload_n 3, 1) := by decide +kernel
theorem dX3_holds_198 : decode cX3_holds 198 = .ok (.iconst 1, 1) := by decide +kernel
theorem dX3_holds_199 : decode cX3_holds 199 = .ok (.iand, 1) := by decide +kernel
theorem dX3_holds_200 : decode cX3_holds 200 = .ok (.iconst 1, 1) := by decide +kernel
theorem dX3_holds_201 : decode cX3_holds 201 = .ok (.if_icmp .ne 7, 3) := by decide +kernel
theorem dX3_holds_204 : decode cX3_holds 204 = .ok (.iconst 1, 1) := by decide +kernel
theorem dX3_holds_205 : decode cX3_holds 205 = .ok (.goto 4, 3) := by decide +kernel
theorem dX3_holds_208 : decode cX3_holds 208 = .ok (.iconst 0, 1) := by decide +kernel
theorem dX3_holds_209 : decode cX3_holds 209 = .ok (.ireturn, 1) := by decide +kernel
theorem dX4_init_0 : decode cX4_init 0 = .ok (.aload_n 0, 1) := by decide +kernel
theorem dX4_init_1 : decode cX4_init 1 = .ok (.invokespecial 3, 3) := by decide +kernel
theorem dX4_init_4 : decode cX4_init 4 = .ok (.aload_n 0, 1) := by decide +kernel
theorem dX4_init_5 : decode cX4_init 5 = .ok (.iconst (-1), 1) := by decide +kernel
theorem dX4_init_6 : decode cX4_init 6 = .ok (.putfield 9, 3) := by decide +kernel
theorem dX4_init_9 : decode cX4_init 9 = .ok (.aload_n 0, 1) := by decide +kernel
theorem dX4_init_10 : decode cX4_init 10 = .ok (.bipush 60, 2) := by decide +kernel
theorem dX4_init_12 : decode cX4_init 12 = .ok (.newarray .long, 2) := by decide +kernel
theorem dX4_init_14 : decode cX4_init 14 = .ok (.putfield 15, 3) := by decide +kernel
theorem dX4_init_17 : decode cX4_init 17 = .ok (.return_, 1) := by decide +kernel
theorem dX4_become_0 : decode cX4_become 0 = .ok (.aload_n 0, 1) := by decide +kernel
theorem dX4_become_1 : decode cX4_become 1 = .ok (.iload_n 1, 1) := by decide +kernel
theorem dX4_become_2 : decode cX4_become 2 = .ok (.putfield 9, 3) := by decide +kernel
theorem dX4_become_5 : decode cX4_become 5 = .ok (.aload_n 0, 1) := by decide +kernel
theorem dX4_become_6 : decode cX4_become 6 = .ok (.iload_n 2, 1) := by decide +kernel
theorem dX4_become_7 : decode cX4_become 7 = .ok (.putfield 19, 3) := by decide +kernel
theorem dX4_become_10 : decode cX4_become 10 = .ok (.iconst 0, 1) := by decide +kernel
theorem dX4_become_11 : decode cX4_become 11 = .ok (.istore_n 3, 1) := by decide +kernel
theorem dX4_become_12 : decode cX4_become 12 = .ok (.iload_n 3, 1) := by decide +kernel
theorem dX4_become_13 : decode cX4_become 13 = .ok (.bipush 60, 2) := by decide +kernel
theorem dX4_become_15 : decode cX4_become 15 = .ok (.if_icmp .ge 16, 3) := by decide +kernel
theorem dX4_become_18 : decode cX4_become 18 = .ok (.aload_n 0, 1) := by decide +kernel
theorem dX4_become_19 : decode cX4_become 19 = .ok (.getfield 15, 3) := by decide +kernel
theorem dX4_become_22 : decode cX4_become 22 = .ok (.iload_n 3, 1) := by decide +kernel
theorem dX4_become_23 : decode cX4_become 23 = .ok (.lconst 0, 1) := by decide +kernel
theorem dX4_become_24 : decode cX4_become 24 = .ok (.lastore, 1) := by decide +kernel
theorem dX4_become_25 : decode cX4_become 25 = .ok (.iinc 3 1, 3) := by decide +kernel
theorem dX4_become_28 : decode cX4_become 28 = .ok (.goto (-16), 3) := by decide +kernel
theorem dX4_become_31 : decode cX4_become 31 = .ok (.return_, 1) := by decide +kernel
theorem dX4_hasPlace_0 : decode cX4_hasPlace 0 = .ok (.iload_n 1, 1) := by decide +kernel
theorem dX4_hasPlace_1 : decode cX4_hasPlace 1 = .ok (.ifCond .lt 15, 3) := by decide +kernel
theorem dX4_hasPlace_4 : decode cX4_hasPlace 4 = .ok (.iload_n 1, 1) := by decide +kernel
theorem dX4_hasPlace_5 : decode cX4_hasPlace 5 = .ok (.aload_n 0, 1) := by decide +kernel
theorem dX4_hasPlace_6 : decode cX4_hasPlace 6 = .ok (.getfield 19, 3) := by decide +kernel
theorem dX4_hasPlace_9 : decode cX4_hasPlace 9 = .ok (.if_icmp .ge 7, 3) := by decide +kernel
theorem dX4_hasPlace_12 : decode cX4_hasPlace 12 = .ok (.iconst 1, 1) := by decide +kernel
theorem dX4_hasPlace_13 : decode cX4_hasPlace 13 = .ok (.goto 4, 3) := by decide +kernel
theorem dX4_hasPlace_16 : decode cX4_hasPlace 16 = .ok (.iconst 0, 1) := by decide +kernel
theorem dX4_hasPlace_17 : decode cX4_hasPlace 17 = .ok (.ireturn, 1) := by decide +kernel
theorem dX4_hasPlaces_0 : decode cX4_hasPlaces 0 = .ok (.iload_n 2, 1) := by decide +kernel
theorem dX4_hasPlaces_1 : decode cX4_hasPlaces 1 = .ok (.ifCond .lt 29, 3) := by decide +kernel
theorem dX4_hasPlaces_4 : decode cX4_hasPlaces 4 = .ok (.iload_n 1, 1) := by decide +kernel
theorem dX4_hasPlaces_5 : decode cX4_hasPlaces 5 = .ok (.ifCond .lt 25, 3) := by decide +kernel
theorem dX4_hasPlaces_8 : decode cX4_hasPlaces 8 = .ok (.iload_n 2, 1) := by decide +kernel
theorem dX4_hasPlaces_9 : decode cX4_hasPlaces 9 = .ok (.aload_n 0, 1) := by decide +kernel
theorem dX4_hasPlaces_10 : decode cX4_hasPlaces 10 = .ok (.getfield 19, 3) := by decide +kernel
theorem dX4_hasPlaces_13 : decode cX4_hasPlaces 13 = .ok (.if_icmp .gt 17, 3) := by decide +kernel
theorem dX4_hasPlaces_16 : decode cX4_hasPlaces 16 = .ok (.iload_n 1, 1) := by decide +kernel
theorem dX4_hasPlaces_17 : decode cX4_hasPlaces 17 = .ok (.aload_n 0, 1) := by decide +kernel
theorem dX4_hasPlaces_18 : decode cX4_hasPlaces 18 = .ok (.getfield 19, 3) := by decide +kernel
theorem dX4_hasPlaces_21 : decode cX4_hasPlaces 21 = .ok (.iload_n 2, 1) := by decide +kernel
theorem dX4_hasPlaces_22 : decode cX4_hasPlaces 22 = .ok (.isub, 1) := by decide +kernel
theorem dX4_hasPlaces_23 : decode cX4_hasPlaces 23 = .ok (.if_icmp .gt 7, 3) := by decide +kernel
theorem dX4_hasPlaces_26 : decode cX4_hasPlaces 26 = .ok (.iconst 1, 1) := by decide +kernel
theorem dX4_hasPlaces_27 : decode cX4_hasPlaces 27 = .ok (.goto 4, 3) := by decide +kernel
theorem dX4_hasPlaces_30 : decode cX4_hasPlaces 30 = .ok (.iconst 0, 1) := by decide +kernel
theorem dX4_hasPlaces_31 : decode cX4_hasPlaces 31 = .ok (.ireturn, 1) := by decide +kernel
theorem dX4_put_0 : decode cX4_put 0 = .ok (.aload_n 0, 1) := by decide +kernel
theorem dX4_put_1 : decode cX4_put 1 = .ok (.getfield 9, 3) := by decide +kernel
theorem dX4_put_4 : decode cX4_put 4 = .ok (.tableswitch 80 0 3 #[32, 45, 58, 70], 32) := by decide +kernel
theorem dX4_put_36 : decode cX4_put 36 = .ok (.aload_n 0, 1) := by decide +kernel
theorem dX4_put_37 : decode cX4_put 37 = .ok (.getfield 15, 3) := by decide +kernel
theorem dX4_put_40 : decode cX4_put 40 = .ok (.iload_n 1, 1) := by decide +kernel
theorem dX4_put_41 : decode cX4_put 41 = .ok (.lload_n 2, 1) := by decide +kernel
theorem dX4_put_42 : decode cX4_put 42 = .ok (.l2i, 1) := by decide +kernel
theorem dX4_put_43 : decode cX4_put 43 = .ok (.i2b, 1) := by decide +kernel
theorem dX4_put_44 : decode cX4_put 44 = .ok (.i2l, 1) := by decide +kernel
theorem dX4_put_45 : decode cX4_put 45 = .ok (.lastore, 1) := by decide +kernel
theorem dX4_put_46 : decode cX4_put 46 = .ok (.goto 55, 3) := by decide +kernel
theorem dX4_put_49 : decode cX4_put 49 = .ok (.aload_n 0, 1) := by decide +kernel
theorem dX4_put_50 : decode cX4_put 50 = .ok (.getfield 15, 3) := by decide +kernel
theorem dX4_put_53 : decode cX4_put 53 = .ok (.iload_n 1, 1) := by decide +kernel
theorem dX4_put_54 : decode cX4_put 54 = .ok (.lload_n 2, 1) := by decide +kernel
theorem dX4_put_55 : decode cX4_put 55 = .ok (.l2i, 1) := by decide +kernel
theorem dX4_put_56 : decode cX4_put 56 = .ok (.i2s, 1) := by decide +kernel
theorem dX4_put_57 : decode cX4_put 57 = .ok (.i2l, 1) := by decide +kernel
theorem dX4_put_58 : decode cX4_put 58 = .ok (.lastore, 1) := by decide +kernel
theorem dX4_put_59 : decode cX4_put 59 = .ok (.goto 42, 3) := by decide +kernel
theorem dX4_put_62 : decode cX4_put 62 = .ok (.aload_n 0, 1) := by decide +kernel
theorem dX4_put_63 : decode cX4_put 63 = .ok (.getfield 15, 3) := by decide +kernel
theorem dX4_put_66 : decode cX4_put 66 = .ok (.iload_n 1, 1) := by decide +kernel
theorem dX4_put_67 : decode cX4_put 67 = .ok (.lload_n 2, 1) := by decide +kernel
theorem dX4_put_68 : decode cX4_put 68 = .ok (.l2i, 1) := by decide +kernel
theorem dX4_put_69 : decode cX4_put 69 = .ok (.i2l, 1) := by decide +kernel
theorem dX4_put_70 : decode cX4_put 70 = .ok (.lastore, 1) := by decide +kernel
theorem dX4_put_71 : decode cX4_put 71 = .ok (.goto 30, 3) := by decide +kernel
theorem dX4_put_74 : decode cX4_put 74 = .ok (.aload_n 0, 1) := by decide +kernel
theorem dX4_put_75 : decode cX4_put 75 = .ok (.getfield 15, 3) := by decide +kernel
theorem dX4_put_78 : decode cX4_put 78 = .ok (.iload_n 1, 1) := by decide +kernel
theorem dX4_put_79 : decode cX4_put 79 = .ok (.lload_n 2, 1) := by decide +kernel
theorem dX4_put_80 : decode cX4_put 80 = .ok (.lastore, 1) := by decide +kernel
theorem dX4_put_81 : decode cX4_put 81 = .ok (.goto 20, 3) := by decide +kernel
theorem dX4_put_84 : decode cX4_put 84 = .ok (.aload_n 0, 1) := by decide +kernel
theorem dX4_put_85 : decode cX4_put 85 = .ok (.getfield 15, 3) := by decide +kernel
theorem dX4_put_88 : decode cX4_put 88 = .ok (.iload_n 1, 1) := by decide +kernel
theorem dX4_put_89 : decode cX4_put 89 = .ok (.lload_n 2, 1) := by decide +kernel
theorem dX4_put_90 : decode cX4_put 90 = .ok (.lconst 0, 1) := by decide +kernel
theorem dX4_put_91 : decode cX4_put 91 = .ok (.lcmp, 1) := by decide +kernel
theorem dX4_put_92 : decode cX4_put 92 = .ok (.ifCond .eq 7, 3) := by decide +kernel
theorem dX4_put_95 : decode cX4_put 95 = .ok (.lconst 1, 1) := by decide +kernel
theorem dX4_put_96 : decode cX4_put 96 = .ok (.goto 4, 3) := by decide +kernel
theorem dX4_put_99 : decode cX4_put 99 = .ok (.lconst 0, 1) := by decide +kernel
theorem dX4_put_100 : decode cX4_put 100 = .ok (.lastore, 1) := by decide +kernel
theorem dX4_put_101 : decode cX4_put 101 = .ok (.return_, 1) := by decide +kernel
theorem dX5_init_0 : decode cX5_init 0 = .ok (.aload_n 0, 1) := by decide +kernel
theorem dX5_init_1 : decode cX5_init 1 = .ok (.invokespecial 3, 3) := by decide +kernel
theorem dX5_init_4 : decode cX5_init 4 = .ok (.aload_n 0, 1) := by decide +kernel
theorem dX5_init_5 : decode cX5_init 5 = .ok (.bipush 100, 2) := by decide +kernel
theorem dX5_init_7 : decode cX5_init 7 = .ok (.newarray .byte, 2) := by decide +kernel
theorem dX5_init_9 : decode cX5_init 9 = .ok (.putfield 9, 3) := by decide +kernel
theorem dX5_init_12 : decode cX5_init 12 = .ok (.return_, 1) := by decide +kernel
theorem dX5_grow_0 : decode cX5_grow 0 = .ok (.aload_n 0, 1) := by decide +kernel
theorem dX5_grow_1 : decode cX5_grow 1 = .ok (.getfield 9, 3) := by decide +kernel
theorem dX5_grow_4 : decode cX5_grow 4 = .ok (.aload_n 0, 1) := by decide +kernel
theorem dX5_grow_5 : decode cX5_grow 5 = .ok (.getfield 15, 3) := by decide +kernel
theorem dX5_grow_8 : decode cX5_grow 8 = .ok (.iload_n 1, 1) := by decide +kernel
theorem dX5_grow_9 : decode cX5_grow 9 = .ok (.bastore, 1) := by decide +kernel
theorem dX5_grow_10 : decode cX5_grow 10 = .ok (.aload_n 0, 1) := by decide +kernel
theorem dX5_grow_11 : decode cX5_grow 11 = .ok (.dup, 1) := by decide +kernel
theorem dX5_grow_12 : decode cX5_grow 12 = .ok (.getfield 15, 3) := by decide +kernel
theorem dX5_grow_15 : decode cX5_grow 15 = .ok (.iconst 1, 1) := by decide +kernel
theorem dX5_grow_16 : decode cX5_grow 16 = .ok (.iadd, 1) := by decide +kernel
theorem dX5_grow_17 : decode cX5_grow 17 = .ok (.putfield 15, 3) := by decide +kernel
theorem dX5_grow_20 : decode cX5_grow 20 = .ok (.aload_n 0, 1) := by decide +kernel
theorem dX5_grow_21 : decode cX5_grow 21 = .ok (.getfield 15, 3) := by decide +kernel
theorem dX5_grow_24 : decode cX5_grow 24 = .ok (.ireturn, 1) := by decide +kernel
theorem dX5_makes_0 : decode cX5_makes 0 = .ok (.aload_n 0, 1) := by decide +kernel
theorem dX5_makes_1 : decode cX5_makes 1 = .ok (.aload_n 1, 1) := by decide +kernel
theorem dX5_makes_2 : decode cX5_makes 2 = .ok (.putfield 19, 3) := by decide +kernel
theorem dX5_makes_5 : decode cX5_makes 5 = .ok (.aload_n 0, 1) := by decide +kernel
theorem dX5_makes_6 : decode cX5_makes 6 = .ok (.getfield 19, 3) := by decide +kernel
theorem dX5_makes_9 : decode cX5_makes 9 = .ok (.invokevirtual 23, 3) := by decide +kernel
theorem dX5_makes_12 : decode cX5_makes 12 = .ok (.aload_n 0, 1) := by decide +kernel
theorem dX5_makes_13 : decode cX5_makes 13 = .ok (.iconst 0, 1) := by decide +kernel
theorem dX5_makes_14 : decode cX5_makes 14 = .ok (.putfield 28, 3) := by decide +kernel
theorem dX5_makes_17 : decode cX5_makes 17 = .ok (.aload_n 0, 1) := by decide +kernel
theorem dX5_makes_18 : decode cX5_makes 18 = .ok (.invokevirtual 31, 3) := by decide +kernel
theorem dX5_makes_21 : decode cX5_makes 21 = .ok (.istore_n 2, 1) := by decide +kernel
theorem dX5_makes_22 : decode cX5_makes 22 = .ok (.iconst 1, 1) := by decide +kernel
theorem dX5_makes_23 : decode cX5_makes 23 = .ok (.istore_n 3, 1) := by decide +kernel
theorem dX5_makes_24 : decode cX5_makes 24 = .ok (.iload_n 2, 1) := by decide +kernel
theorem dX5_makes_25 : decode cX5_makes 25 = .ok (.ifCond .eq 29, 3) := by decide +kernel
theorem dX5_makes_28 : decode cX5_makes 28 = .ok (.iload_n 3, 1) := by decide +kernel
theorem dX5_makes_29 : decode cX5_makes 29 = .ok (.bipush 10, 2) := by decide +kernel
theorem dX5_makes_31 : decode cX5_makes 31 = .ok (.if_icmp .ge 23, 3) := by decide +kernel
theorem dX5_makes_34 : decode cX5_makes 34 = .ok (.aload_n 0, 1) := by decide +kernel
theorem dX5_makes_35 : decode cX5_makes 35 = .ok (.bipush 59, 2) := by decide +kernel
theorem dX5_makes_37 : decode cX5_makes 37 = .ok (.invokevirtual 35, 3) := by decide +kernel
theorem dX5_makes_40 : decode cX5_makes 40 = .ok (.ifCond .eq 14, 3) := by decide +kernel
theorem dX5_makes_43 : decode cX5_makes 43 = .ok (.aload_n 0, 1) := by decide +kernel
theorem dX5_makes_44 : decode cX5_makes 44 = .ok (.invokevirtual 31, 3) := by decide +kernel
theorem dX5_makes_47 : decode cX5_makes 47 = .ok (.istore_n 2, 1) := by decide +kernel
theorem dX5_makes_48 : decode cX5_makes 48 = .ok (.iinc 3 1, 3) := by decide +kernel
theorem dX5_makes_51 : decode cX5_makes 51 = .ok (.goto (-27), 3) := by decide +kernel
theorem dX5_makes_54 : decode cX5_makes 54 = .ok (.iload_n 2, 1) := by decide +kernel
theorem dX5_makes_55 : decode cX5_makes 55 = .ok (.ifCond .eq 18, 3) := by decide +kernel
theorem dX5_makes_58 : decode cX5_makes 58 = .ok (.aload_n 0, 1) := by decide +kernel
theorem dX5_makes_59 : decode cX5_makes 59 = .ok (.getfield 28, 3) := by decide +kernel
theorem dX5_makes_62 : decode cX5_makes 62 = .ok (.aload_n 0, 1) := by decide +kernel
theorem dX5_makes_63 : decode cX5_makes 63 = .ok (.getfield 15, 3) := by decide +kernel
theorem dX5_makes_66 : decode cX5_makes 66 = .ok (.if_icmp .ne 7, 3) := by decide +kernel
theorem dX5_makes_69 : decode cX5_makes 69 = .ok (.iconst 1, 1) := by decide +kernel
theorem dX5_makes_70 : decode cX5_makes 70 = .ok (.goto 4, 3) := by decide +kernel
theorem dX5_makes_73 : decode cX5_makes 73 = .ok (.iconst 0, 1) := by decide +kernel
theorem dX5_makes_74 : decode cX5_makes 74 = .ok (.ireturn, 1) := by decide +kernel
theorem dX5_readsClause_0 : decode cX5_readsClause 0 = .ok (.aload_n 0, 1) := by decide +kernel
theorem dX5_readsClause_1 : decode cX5_readsClause 1 = .ok (.invokevirtual 39, 3) := by decide +kernel
theorem dX5_readsClause_4 : decode cX5_readsClause 4 = .ok (.istore_n 1, 1) := by decide +kernel
theorem dX5_readsClause_5 : decode cX5_readsClause 5 = .ok (.iload_n 1, 1) := by decide +kernel
theorem dX5_readsClause_6 : decode cX5_readsClause 6 = .ok (.ifCond .lt 19, 3) := by decide +kernel
theorem dX5_readsClause_9 : decode cX5_readsClause 9 = .ok (.aload_n 0, 1) := by decide +kernel
theorem dX5_readsClause_10 : decode cX5_readsClause 10 = .ok (.bipush 32, 2) := by decide +kernel
theorem dX5_readsClause_12 : decode cX5_readsClause 12 = .ok (.invokevirtual 35, 3) := by decide +kernel
theorem dX5_readsClause_15 : decode cX5_readsClause 15 = .ok (.ifCond .eq 10, 3) := by decide +kernel
theorem dX5_readsClause_18 : decode cX5_readsClause 18 = .ok (.aload_n 0, 1) := by decide +kernel
theorem dX5_readsClause_19 : decode cX5_readsClause 19 = .ok (.invokevirtual 43, 3) := by decide +kernel
theorem dX5_readsClause_22 : decode cX5_readsClause 22 = .ok (.goto 4, 3) := by decide +kernel
theorem dX5_readsClause_25 : decode cX5_readsClause 25 = .ok (.iconst (-1), 1) := by decide +kernel
theorem dX5_readsClause_26 : decode cX5_readsClause 26 = .ok (.istore_n 2, 1) := by decide +kernel
theorem dX5_readsClause_27 : decode cX5_readsClause 27 = .ok (.iload_n 2, 1) := by decide +kernel
theorem dX5_readsClause_28 : decode cX5_readsClause 28 = .ok (.ifCond .ge 5, 3) := by decide +kernel
theorem dX5_readsClause_31 : decode cX5_readsClause 31 = .ok (.iconst 0, 1) := by decide +kernel
theorem dX5_readsClause_32 : decode cX5_readsClause 32 = .ok (.ireturn, 1) := by decide +kernel
theorem dX5_readsClause_33 : decode cX5_readsClause 33 = .ok (.iload_n 1, 1) := by decide +kernel
theorem dX5_readsClause_34 : decode cX5_readsClause 34 = .ok (.tableswitch 56 2 4 #[26, 36, 46], 26) := by decide +kernel
theorem dX5_readsClause_60 : decode cX5_readsClause 60 = .ok (.aload_n 0, 1) := by decide +kernel
theorem dX5_readsClause_61 : decode cX5_readsClause 61 = .ok (.getfield 19, 3) := by decide +kernel
theorem dX5_readsClause_64 : decode cX5_readsClause 64 = .ok (.iload_n 2, 1) := by decide +kernel
theorem dX5_readsClause_65 : decode cX5_readsClause 65 = .ok (.putfield 46, 3) := by decide +kernel
theorem dX5_readsClause_68 : decode cX5_readsClause 68 = .ok (.iconst 1, 1) := by decide +kernel
theorem dX5_readsClause_69 : decode cX5_readsClause 69 = .ok (.ireturn, 1) := by decide +kernel
theorem dX5_readsClause_70 : decode cX5_readsClause 70 = .ok (.aload_n 0, 1) := by decide +kernel
theorem dX5_readsClause_71 : decode cX5_readsClause 71 = .ok (.getfield 19, 3) := by decide +kernel
theorem dX5_readsClause_74 : decode cX5_readsClause 74 = .ok (.iload_n 2, 1) := by decide +kernel
theorem dX5_readsClause_75 : decode cX5_readsClause 75 = .ok (.putfield 49, 3) := by decide +kernel
theorem dX5_readsClause_78 : decode cX5_readsClause 78 = .ok (.iconst 1, 1) := by decide +kernel
theorem dX5_readsClause_79 : decode cX5_readsClause 79 = .ok (.ireturn, 1) := by decide +kernel
theorem dX5_readsClause_80 : decode cX5_readsClause 80 = .ok (.aload_n 0, 1) := by decide +kernel
theorem dX5_readsClause_81 : decode cX5_readsClause 81 = .ok (.getfield 19, 3) := by decide +kernel
theorem dX5_readsClause_84 : decode cX5_readsClause 84 = .ok (.iload_n 2, 1) := by decide +kernel
theorem dX5_readsClause_85 : decode cX5_readsClause 85 = .ok (.putfield 52, 3) := by decide +kernel
theorem dX5_readsClause_88 : decode cX5_readsClause 88 = .ok (.iconst 1, 1) := by decide +kernel
theorem dX5_readsClause_89 : decode cX5_readsClause 89 = .ok (.ireturn, 1) := by decide +kernel
theorem dX5_readsClause_90 : decode cX5_readsClause 90 = .ok (.aload_n 0, 1) := by decide +kernel
theorem dX5_readsClause_91 : decode cX5_readsClause 91 = .ok (.bipush 32, 2) := by decide +kernel
theorem dX5_readsClause_93 : decode cX5_readsClause 93 = .ok (.invokevirtual 35, 3) := by decide +kernel
theorem dX5_readsClause_96 : decode cX5_readsClause 96 = .ok (.ifCond .eq 15, 3) := by decide +kernel
theorem dX5_readsClause_99 : decode cX5_readsClause 99 = .ok (.aload_n 0, 1) := by decide +kernel
theorem dX5_readsClause_100 : decode cX5_readsClause 100 = .ok (.iconst 0, 1) := by decide +kernel
theorem dX5_readsClause_101 : decode cX5_readsClause 101 = .ok (.invokevirtual 55, 3) := by decide +kernel
theorem dX5_readsClause_104 : decode cX5_readsClause 104 = .ok (.ifCond .eq 7, 3) := by decide +kernel
theorem dX5_readsClause_107 : decode cX5_readsClause 107 = .ok (.iconst 1, 1) := by decide +kernel
theorem dX5_readsClause_108 : decode cX5_readsClause 108 = .ok (.goto 4, 3) := by decide +kernel
theorem dX5_readsClause_111 : decode cX5_readsClause 111 = .ok (.iconst 0, 1) := by decide +kernel
theorem dX5_readsClause_112 : decode cX5_readsClause 112 = .ok (.istore_n 3, 1) := by decide +kernel
theorem dX5_readsClause_113 : decode cX5_readsClause 113 = .ok (.aload_n 0, 1) := by decide +kernel
theorem dX5_readsClause_114 : decode cX5_readsClause 114 = .ok (.getfield 19, 3) := by decide +kernel
theorem dX5_readsClause_117 : decode cX5_readsClause 117 = .ok (.iload_n 1, 1) := by decide +kernel
theorem dX5_readsClause_118 : decode cX5_readsClause 118 = .ok (.iconst 1, 1) := by decide +kernel
theorem dX5_readsClause_119 : decode cX5_readsClause 119 = .ok (.if_icmp .ne 8, 3) := by decide +kernel
theorem dX5_readsClause_122 : decode cX5_readsClause 122 = .ok (.iload_n 2, 1) := by decide +kernel
theorem dX5_readsClause_123 : decode cX5_readsClause 123 = .ok (.ineg, 1) := by decide +kernel
theorem dX5_readsClause_124 : decode cX5_readsClause 124 = .ok (.goto 4, 3) := by decide +kernel
theorem dX5_readsClause_127 : decode cX5_readsClause 127 = .ok (.iload_n 2, 1) := by decide +kernel
theorem dX5_readsClause_128 : decode cX5_readsClause 128 = .ok (.invokevirtual 59, 3) := by decide +kernel
theorem dX5_readsClause_131 : decode cX5_readsClause 131 = .ok (.iload_n 3, 1) := by decide +kernel
theorem dX5_readsClause_132 : decode cX5_readsClause 132 = .ok (.ireturn, 1) := by decide +kernel
theorem dX5_readWord_0 : decode cX5_readWord 0 = .ok (.iconst 0, 1) := by decide +kernel
theorem dX5_readWord_1 : decode cX5_readWord 1 = .ok (.istore_n 1, 1) := by decide +kernel
theorem dX5_readWord_2 : decode cX5_readWord 2 = .ok (.iconst 0, 1) := by decide +kernel
theorem dX5_readWord_3 : decode cX5_readWord 3 = .ok (.istore_n 2, 1) := by decide +kernel
theorem dX5_readWord_4 : decode cX5_readWord 4 = .ok (.iload_n 2, 1) := by decide +kernel
theorem dX5_readWord_5 : decode cX5_readWord 5 = .ok (.iconst 5, 1) := by decide +kernel
theorem dX5_readWord_6 : decode cX5_readWord 6 = .ok (.if_icmp .ge 82, 3) := by decide +kernel
theorem dX5_readWord_9 : decode cX5_readWord 9 = .ok (.iconst 0, 1) := by decide +kernel
theorem dX5_readWord_10 : decode cX5_readWord 10 = .ok (.istore_n 3, 1) := by decide +kernel
theorem dX5_readWord_11 : decode cX5_readWord 11 = .ok (.iload_n 3, 1) := by decide +kernel
theorem dX5_readWord_12 : decode cX5_readWord 12 = .ok (.iconst 4, 1) := by decide +kernel
theorem dX5_readWord_13 : decode cX5_readWord 13 = .ok (.if_icmp .ge 46, 3) := by decide +kernel
theorem dX5_readWord_16 : decode cX5_readWord 16 = .ok (.aload_n 0, 1) := by decide +kernel
theorem dX5_readWord_17 : decode cX5_readWord 17 = .ok (.getfield 28, 3) := by decide +kernel
theorem dX5_readWord_20 : decode cX5_readWord 20 = .ok (.iload_n 3, 1) := by decide +kernel
theorem dX5_readWord_21 : decode cX5_readWord 21 = .ok (.iadd, 1) := by decide +kernel
theorem dX5_readWord_22 : decode cX5_readWord 22 = .ok (.aload_n 0, 1) := by decide +kernel
theorem dX5_readWord_23 : decode cX5_readWord 23 = .ok (.getfield 15, 3) := by decide +kernel
theorem dX5_readWord_26 : decode cX5_readWord 26 = .ok (.if_icmp .ge 33, 3) := by decide +kernel
theorem dX5_readWord_29 : decode cX5_readWord 29 = .ok (.aload_n 0, 1) := by decide +kernel
theorem dX5_readWord_30 : decode cX5_readWord 30 = .ok (.getfield 9, 3) := by decide +kernel
theorem dX5_readWord_33 : decode cX5_readWord 33 = .ok (.aload_n 0, 1) := by decide +kernel
theorem dX5_readWord_34 : decode cX5_readWord 34 = .ok (.getfield 28, 3) := by decide +kernel
theorem dX5_readWord_37 : decode cX5_readWord 37 = .ok (.iload_n 3, 1) := by decide +kernel
theorem dX5_readWord_38 : decode cX5_readWord 38 = .ok (.iadd, 1) := by decide +kernel
theorem dX5_readWord_39 : decode cX5_readWord 39 = .ok (.baload, 1) := by decide +kernel
theorem dX5_readWord_40 : decode cX5_readWord 40 = .ok (.ldc 63, 2) := by decide +kernel
theorem dX5_readWord_42 : decode cX5_readWord 42 = .ok (.iload_n 2, 1) := by decide +kernel
theorem dX5_readWord_43 : decode cX5_readWord 43 = .ok (.iconst 4, 1) := by decide +kernel
theorem dX5_readWord_44 : decode cX5_readWord 44 = .ok (.imul, 1) := by decide +kernel
theorem dX5_readWord_45 : decode cX5_readWord 45 = .ok (.iload_n 3, 1) := by decide +kernel
theorem dX5_readWord_46 : decode cX5_readWord 46 = .ok (.iadd, 1) := by decide +kernel
theorem dX5_readWord_47 : decode cX5_readWord 47 = .ok (.invokevirtual 65, 3) := by decide +kernel
theorem dX5_readWord_50 : decode cX5_readWord 50 = .ok (.if_icmp .ne 9, 3) := by decide +kernel
theorem dX5_readWord_53 : decode cX5_readWord 53 = .ok (.iinc 3 1, 3) := by decide +kernel
theorem dX5_readWord_56 : decode cX5_readWord 56 = .ok (.goto (-45), 3) := by decide +kernel
theorem dX5_readWord_59 : decode cX5_readWord 59 = .ok (.iload_n 3, 1) := by decide +kernel
theorem dX5_readWord_60 : decode cX5_readWord 60 = .ok (.iconst 4, 1) := by decide +kernel
theorem dX5_readWord_61 : decode cX5_readWord 61 = .ok (.if_icmp .ne 15, 3) := by decide +kernel
theorem dX5_readWord_64 : decode cX5_readWord 64 = .ok (.aload_n 0, 1) := by decide +kernel
theorem dX5_readWord_65 : decode cX5_readWord 65 = .ok (.dup, 1) := by decide +kernel
theorem dX5_readWord_66 : decode cX5_readWord 66 = .ok (.getfield 28, 3) := by decide +kernel
theorem dX5_readWord_69 : decode cX5_readWord 69 = .ok (.iconst 4, 1) := by decide +kernel
theorem dX5_readWord_70 : decode cX5_readWord 70 = .ok (.iadd, 1) := by decide +kernel
theorem dX5_readWord_71 : decode cX5_readWord 71 = .ok (.putfield 28, 3) := by decide +kernel
theorem dX5_readWord_74 : decode cX5_readWord 74 = .ok (.iload_n 2, 1) := by decide +kernel
theorem dX5_readWord_75 : decode cX5_readWord 75 = .ok (.ireturn, 1) := by decide +kernel
theorem dX5_readWord_76 : decode cX5_readWord 76 = .ok (.iload_n 1, 1) := by decide +kernel
theorem dX5_readWord_77 : decode cX5_readWord 77 = .ok (.iload_n 3, 1) := by decide +kernel
theorem dX5_readWord_78 : decode cX5_readWord 78 = .ok (.invokestatic 71, 3) := by decide +kernel
theorem dX5_readWord_81 : decode cX5_readWord 81 = .ok (.istore_n 1, 1) := by decide +kernel
theorem dX5_readWord_82 : decode cX5_readWord 82 = .ok (.iinc 2 1, 3) := by decide +kernel
theorem dX5_readWord_85 : decode cX5_readWord 85 = .ok (.goto (-81), 3) := by decide +kernel
theorem dX5_readWord_88 : decode cX5_readWord 88 = .ok (.aload_n 0, 1) := by decide +kernel
theorem dX5_readWord_89 : decode cX5_readWord 89 = .ok (.dup, 1) := by decide +kernel
theorem dX5_readWord_90 : decode cX5_readWord 90 = .ok (.getfield 28, 3) := by decide +kernel
theorem dX5_readWord_93 : decode cX5_readWord 93 = .ok (.iload_n 1, 1) := by decide +kernel
theorem dX5_readWord_94 : decode cX5_readWord 94 = .ok (.iadd, 1) := by decide +kernel
theorem dX5_readWord_95 : decode cX5_readWord 95 = .ok (.putfield 28, 3) := by decide +kernel
theorem dX5_readWord_98 : decode cX5_readWord 98 = .ok (.iconst (-1), 1) := by decide +kernel
theorem dX5_readWord_99 : decode cX5_readWord 99 = .ok (.ireturn, 1) := by decide +kernel
theorem dX5_readsAny_0 : decode cX5_readsAny 0 = .ok (.aload_n 0, 1) := by decide +kernel
theorem dX5_readsAny_1 : decode cX5_readsAny 1 = .ok (.iload_n 1, 1) := by decide +kernel
theorem dX5_readsAny_2 : decode cX5_readsAny 2 = .ok (.invokevirtual 77, 3) := by decide +kernel
theorem dX5_readsAny_5 : decode cX5_readsAny 5 = .ok (.istore_n 2, 1) := by decide +kernel
theorem dX5_readsAny_6 : decode cX5_readsAny 6 = .ok (.iconst 0, 1) := by decide +kernel
theorem dX5_readsAny_7 : decode cX5_readsAny 7 = .ok (.istore_n 3, 1) := by decide +kernel
theorem dX5_readsAny_8 : decode cX5_readsAny 8 = .ok (.iload_n 2, 1) := by decide +kernel
theorem dX5_readsAny_9 : decode cX5_readsAny 9 = .ok (.ifCond .eq 41, 3) := by decide +kernel
theorem dX5_readsAny_12 : decode cX5_readsAny 12 = .ok (.iload_n 3, 1) := by decide +kernel
theorem dX5_readsAny_13 : decode cX5_readsAny 13 = .ok (.bipush 100, 2) := by decide +kernel
theorem dX5_readsAny_15 : decode cX5_readsAny 15 = .ok (.if_icmp .ge 35, 3) := by decide +kernel
theorem dX5_readsAny_18 : decode cX5_readsAny 18 = .ok (.aload_n 0, 1) := by decide +kernel
theorem dX5_readsAny_19 : decode cX5_readsAny 19 = .ok (.bipush 124, 2) := by decide +kernel
theorem dX5_readsAny_21 : decode cX5_readsAny 21 = .ok (.invokevirtual 35, 3) := by decide +kernel
theorem dX5_readsAny_24 : decode cX5_readsAny 24 = .ok (.ifCond .eq 26, 3) := by decide +kernel
theorem dX5_readsAny_27 : decode cX5_readsAny 27 = .ok (.aload_n 0, 1) := by decide +kernel
theorem dX5_readsAny_28 : decode cX5_readsAny 28 = .ok (.iload_n 1, 1) := by decide +kernel
theorem dX5_readsAny_29 : decode cX5_readsAny 29 = .ok (.invokevirtual 77, 3) := by decide +kernel
theorem dX5_readsAny_32 : decode cX5_readsAny 32 = .ok (.istore_n 2, 1) := by decide +kernel
theorem dX5_readsAny_33 : decode cX5_readsAny 33 = .ok (.aload_n 0, 1) := by decide +kernel
theorem dX5_readsAny_34 : decode cX5_readsAny 34 = .ok (.getfield 19, 3) := by decide +kernel
theorem dX5_readsAny_37 : decode cX5_readsAny 37 = .ok (.bipush 8, 2) := by decide +kernel
theorem dX5_readsAny_39 : decode cX5_readsAny 39 = .ok (.iconst 0, 1) := by decide +kernel
theorem dX5_readsAny_40 : decode cX5_readsAny 40 = .ok (.iconst 0, 1) := by decide +kernel
theorem dX5_readsAny_41 : decode cX5_readsAny 41 = .ok (.invokevirtual 80, 3) := by decide +kernel
theorem dX5_readsAny_44 : decode cX5_readsAny 44 = .ok (.iinc 3 1, 3) := by decide +kernel
theorem dX5_readsAny_47 : decode cX5_readsAny 47 = .ok (.goto (-39), 3) := by decide +kernel
theorem dX5_readsAny_50 : decode cX5_readsAny 50 = .ok (.iload_n 2, 1) := by decide +kernel
theorem dX5_readsAny_51 : decode cX5_readsAny 51 = .ok (.ireturn, 1) := by decide +kernel
theorem dX5_readsAll_0 : decode cX5_readsAll 0 = .ok (.aload_n 0, 1) := by decide +kernel
theorem dX5_readsAll_1 : decode cX5_readsAll 1 = .ok (.iload_n 1, 1) := by decide +kernel
theorem dX5_readsAll_2 : decode cX5_readsAll 2 = .ok (.invokevirtual 84, 3) := by decide +kernel
theorem dX5_readsAll_5 : decode cX5_readsAll 5 = .ok (.istore_n 2, 1) := by decide +kernel
theorem dX5_readsAll_6 : decode cX5_readsAll 6 = .ok (.iconst 0, 1) := by decide +kernel
theorem dX5_readsAll_7 : decode cX5_readsAll 7 = .ok (.istore_n 3, 1) := by decide +kernel
theorem dX5_readsAll_8 : decode cX5_readsAll 8 = .ok (.iload_n 2, 1) := by decide +kernel
theorem dX5_readsAll_9 : decode cX5_readsAll 9 = .ok (.ifCond .eq 41, 3) := by decide +kernel
theorem dX5_readsAll_12 : decode cX5_readsAll 12 = .ok (.iload_n 3, 1) := by decide +kernel
theorem dX5_readsAll_13 : decode cX5_readsAll 13 = .ok (.bipush 100, 2) := by decide +kernel
theorem dX5_readsAll_15 : decode cX5_readsAll 15 = .ok (.if_icmp .ge 35, 3) := by decide +kernel
theorem dX5_readsAll_18 : decode cX5_readsAll 18 = .ok (.aload_n 0, 1) := by decide +kernel
theorem dX5_readsAll_19 : decode cX5_readsAll 19 = .ok (.bipush 38, 2) := by decide +kernel
theorem dX5_readsAll_21 : decode cX5_readsAll 21 = .ok (.invokevirtual 35, 3) := by decide +kernel
theorem dX5_readsAll_24 : decode cX5_readsAll 24 = .ok (.ifCond .eq 26, 3) := by decide +kernel
theorem dX5_readsAll_27 : decode cX5_readsAll 27 = .ok (.aload_n 0, 1) := by decide +kernel
theorem dX5_readsAll_28 : decode cX5_readsAll 28 = .ok (.iload_n 1, 1) := by decide +kernel
theorem dX5_readsAll_29 : decode cX5_readsAll 29 = .ok (.invokevirtual 84, 3) := by decide +kernel
theorem dX5_readsAll_32 : decode cX5_readsAll 32 = .ok (.istore_n 2, 1) := by decide +kernel
theorem dX5_readsAll_33 : decode cX5_readsAll 33 = .ok (.aload_n 0, 1) := by decide +kernel
theorem dX5_readsAll_34 : decode cX5_readsAll 34 = .ok (.getfield 19, 3) := by decide +kernel
theorem dX5_readsAll_37 : decode cX5_readsAll 37 = .ok (.bipush 7, 2) := by decide +kernel
theorem dX5_readsAll_39 : decode cX5_readsAll 39 = .ok (.iconst 0, 1) := by decide +kernel
theorem dX5_readsAll_40 : decode cX5_readsAll 40 = .ok (.iconst 0, 1) := by decide +kernel
theorem dX5_readsAll_41 : decode cX5_readsAll 41 = .ok (.invokevirtual 80, 3) := by decide +kernel
theorem dX5_readsAll_44 : decode cX5_readsAll 44 = .ok (.iinc 3 1, 3) := by decide +kernel
theorem dX5_readsAll_47 : decode cX5_readsAll 47 = .ok (.goto (-39), 3) := by decide +kernel
theorem dX5_readsAll_50 : decode cX5_readsAll 50 = .ok (.iload_n 2, 1) := by decide +kernel
theorem dX5_readsAll_51 : decode cX5_readsAll 51 = .ok (.ireturn, 1) := by decide +kernel
theorem dX5_readsOne_0 : decode cX5_readsOne 0 = .ok (.iload_n 1, 1) := by decide +kernel
theorem dX5_readsOne_1 : decode cX5_readsOne 1 = .ok (.iconst 4, 1) := by decide +kernel
theorem dX5_readsOne_2 : decode cX5_readsOne 2 = .ok (.if_icmp .ge 33, 3) := by decide +kernel
theorem dX5_readsOne_5 : decode cX5_readsOne 5 = .ok (.aload_n 0, 1) := by decide +kernel
theorem dX5_readsOne_6 : decode cX5_readsOne 6 = .ok (.bipush 33, 2) := by decide +kernel
theorem dX5_readsOne_8 : decode cX5_readsOne 8 = .ok (.invokevirtual 35, 3) := by decide +kernel
theorem dX5_readsOne_11 : decode cX5_readsOne 11 = .ok (.ifCond .eq 24, 3) := by decide +kernel
theorem dX5_readsOne_14 : decode cX5_readsOne 14 = .ok (.aload_n 0, 1) := by decide +kernel
theorem dX5_readsOne_15 : decode cX5_readsOne 15 = .ok (.iload_n 1, 1) := by decide +kernel
theorem dX5_readsOne_16 : decode cX5_readsOne 16 = .ok (.iconst 1, 1) := by decide +kernel
theorem dX5_readsOne_17 : decode cX5_readsOne 17 = .ok (.iadd, 1) := by decide +kernel
theorem dX5_readsOne_18 : decode cX5_readsOne 18 = .ok (.invokevirtual 84, 3) := by decide +kernel
theorem dX5_readsOne_21 : decode cX5_readsOne 21 = .ok (.istore_n 2, 1) := by decide +kernel
theorem dX5_readsOne_22 : decode cX5_readsOne 22 = .ok (.aload_n 0, 1) := by decide +kernel
theorem dX5_readsOne_23 : decode cX5_readsOne 23 = .ok (.getfield 19, 3) := by decide +kernel
theorem dX5_readsOne_26 : decode cX5_readsOne 26 = .ok (.bipush 6, 2) := by decide +kernel
theorem dX5_readsOne_28 : decode cX5_readsOne 28 = .ok (.iconst 0, 1) := by decide +kernel
theorem dX5_readsOne_29 : decode cX5_readsOne 29 = .ok (.iconst 0, 1) := by decide +kernel
theorem dX5_readsOne_30 : decode cX5_readsOne 30 = .ok (.invokevirtual 80, 3) := by decide +kernel
theorem dX5_readsOne_33 : decode cX5_readsOne 33 = .ok (.iload_n 2, 1) := by decide +kernel
theorem dX5_readsOne_34 : decode cX5_readsOne 34 = .ok (.ireturn, 1) := by decide +kernel
theorem dX5_readsOne_35 : decode cX5_readsOne 35 = .ok (.iload_n 1, 1) := by decide +kernel
theorem dX5_readsOne_36 : decode cX5_readsOne 36 = .ok (.iconst 4, 1) := by decide +kernel
theorem dX5_readsOne_37 : decode cX5_readsOne 37 = .ok (.if_icmp .ge 37, 3) := by decide +kernel
theorem dX5_readsOne_40 : decode cX5_readsOne 40 = .ok (.aload_n 0, 1) := by decide +kernel
theorem dX5_readsOne_41 : decode cX5_readsOne 41 = .ok (.bipush 40, 2) := by decide +kernel
theorem dX5_readsOne_43 : decode cX5_readsOne 43 = .ok (.invokevirtual 35, 3) := by decide +kernel
theorem dX5_readsOne_46 : decode cX5_readsOne 46 = .ok (.ifCond .eq 28, 3) := by decide +kernel
theorem dX5_readsOne_49 : decode cX5_readsOne 49 = .ok (.aload_n 0, 1) := by decide +kernel
theorem dX5_readsOne_50 : decode cX5_readsOne 50 = .ok (.iload_n 1, 1) := by decide +kernel
theorem dX5_readsOne_51 : decode cX5_readsOne 51 = .ok (.iconst 1, 1) := by decide +kernel
theorem dX5_readsOne_52 : decode cX5_readsOne 52 = .ok (.iadd, 1) := by decide +kernel
theorem dX5_readsOne_53 : decode cX5_readsOne 53 = .ok (.invokevirtual 55, 3) := by decide +kernel
theorem dX5_readsOne_56 : decode cX5_readsOne 56 = .ok (.ifCond .eq 16, 3) := by decide +kernel
theorem dX5_readsOne_59 : decode cX5_readsOne 59 = .ok (.aload_n 0, 1) := by decide +kernel
theorem dX5_readsOne_60 : decode cX5_readsOne 60 = .ok (.bipush 41, 2) := by decide +kernel
theorem dX5_readsOne_62 : decode cX5_readsOne 62 = .ok (.invokevirtual 35, 3) := by decide +kernel
theorem dX5_readsOne_65 : decode cX5_readsOne 65 = .ok (.ifCond .eq 7, 3) := by decide +kernel
theorem dX5_readsOne_68 : decode cX5_readsOne 68 = .ok (.iconst 1, 1) := by decide +kernel
theorem dX5_readsOne_69 : decode cX5_readsOne 69 = .ok (.goto 4, 3) := by decide +kernel
theorem dX5_readsOne_72 : decode cX5_readsOne 72 = .ok (.iconst 0, 1) := by decide +kernel
theorem dX5_readsOne_73 : decode cX5_readsOne 73 = .ok (.ireturn, 1) := by decide +kernel
theorem dX5_readsOne_74 : decode cX5_readsOne 74 = .ok (.aload_n 0, 1) := by decide +kernel
theorem dX5_readsOne_75 : decode cX5_readsOne 75 = .ok (.invokevirtual 87, 3) := by decide +kernel
theorem dX5_readsOne_78 : decode cX5_readsOne 78 = .ok (.ireturn, 1) := by decide +kernel
theorem dX5_readsTest_0 : decode cX5_readsTest 0 = .ok (.aload_n 0, 1) := by decide +kernel
theorem dX5_readsTest_1 : decode cX5_readsTest 1 = .ok (.ldc 90, 2) := by decide +kernel
theorem dX5_readsTest_3 : decode cX5_readsTest 3 = .ok (.invokevirtual 92, 3) := by decide +kernel
theorem dX5_readsTest_6 : decode cX5_readsTest 6 = .ok (.istore_n 1, 1) := by decide +kernel
theorem dX5_readsTest_7 : decode cX5_readsTest 7 = .ok (.iload_n 1, 1) := by decide +kernel
theorem dX5_readsTest_8 : decode cX5_readsTest 8 = .ok (.ifCond .ge 7, 3) := by decide +kernel
theorem dX5_readsTest_11 : decode cX5_readsTest 11 = .ok (.iconst (-1), 1) := by decide +kernel
theorem dX5_readsTest_12 : decode cX5_readsTest 12 = .ok (.goto 9, 3) := by decide +kernel
theorem dX5_readsTest_15 : decode cX5_readsTest 15 = .ok (.aload_n 0, 1) := by decide +kernel
theorem dX5_readsTest_16 : decode cX5_readsTest 16 = .ok (.ldc 96, 2) := by decide +kernel
theorem dX5_readsTest_18 : decode cX5_readsTest 18 = .ok (.invokevirtual 92, 3) := by decide +kernel
theorem dX5_readsTest_21 : decode cX5_readsTest 21 = .ok (.istore_n 2, 1) := by decide +kernel
theorem dX5_readsTest_22 : decode cX5_readsTest 22 = .ok (.iload_n 2, 1) := by decide +kernel
theorem dX5_readsTest_23 : decode cX5_readsTest 23 = .ok (.ifCond .ge 7, 3) := by decide +kernel
theorem dX5_readsTest_26 : decode cX5_readsTest 26 = .ok (.iconst (-1), 1) := by decide +kernel
theorem dX5_readsTest_27 : decode cX5_readsTest 27 = .ok (.goto 7, 3) := by decide +kernel
theorem dX5_readsTest_30 : decode cX5_readsTest 30 = .ok (.aload_n 0, 1) := by decide +kernel
theorem dX5_readsTest_31 : decode cX5_readsTest 31 = .ok (.invokevirtual 43, 3) := by decide +kernel
theorem dX5_readsTest_34 : decode cX5_readsTest 34 = .ok (.istore_n 3, 1) := by decide +kernel
theorem dX5_readsTest_35 : decode cX5_readsTest 35 = .ok (.iload_n 3, 1) := by decide +kernel
theorem dX5_readsTest_36 : decode cX5_readsTest 36 = .ok (.ifCond .ge 5, 3) := by decide +kernel
theorem dX5_readsTest_39 : decode cX5_readsTest 39 = .ok (.iconst 0, 1) := by decide +kernel
theorem dX5_readsTest_40 : decode cX5_readsTest 40 = .ok (.ireturn, 1) := by decide +kernel
theorem dX5_readsTest_41 : decode cX5_readsTest 41 = .ok (.aload_n 0, 1) := by decide +kernel
theorem dX5_readsTest_42 : decode cX5_readsTest 42 = .ok (.getfield 19, 3) := by decide +kernel
theorem dX5_readsTest_45 : decode cX5_readsTest 45 = .ok (.iload_n 1, 1) := by decide +kernel
theorem dX5_readsTest_46 : decode cX5_readsTest 46 = .ok (.iload_n 2, 1) := by decide +kernel
theorem dX5_readsTest_47 : decode cX5_readsTest 47 = .ok (.iconst 1, 1) := by decide +kernel
theorem dX5_readsTest_48 : decode cX5_readsTest 48 = .ok (.isub, 1) := by decide +kernel
theorem dX5_readsTest_49 : decode cX5_readsTest 49 = .ok (.iload_n 3, 1) := by decide +kernel
theorem dX5_readsTest_50 : decode cX5_readsTest 50 = .ok (.invokevirtual 80, 3) := by decide +kernel
theorem dX5_readsTest_53 : decode cX5_readsTest 53 = .ok (.iconst 1, 1) := by decide +kernel
theorem dX5_readsTest_54 : decode cX5_readsTest 54 = .ok (.ireturn, 1) := by decide +kernel
theorem dX5_readNumber_0 : decode cX5_readNumber 0 = .ok (.aload_n 0, 1) := by decide +kernel
theorem dX5_readNumber_1 : decode cX5_readNumber 1 = .ok (.ldc 98, 2) := by decide +kernel
theorem dX5_readNumber_3 : decode cX5_readNumber 3 = .ok (.invokevirtual 92, 3) := by decide +kernel
theorem dX5_readNumber_6 : decode cX5_readNumber 6 = .ok (.istore_n 1, 1) := by decide +kernel
theorem dX5_readNumber_7 : decode cX5_readNumber 7 = .ok (.iload_n 1, 1) := by decide +kernel
theorem dX5_readNumber_8 : decode cX5_readNumber 8 = .ok (.ifCond .ge 7, 3) := by decide +kernel
theorem dX5_readNumber_11 : decode cX5_readNumber 11 = .ok (.iconst (-1), 1) := by decide +kernel
theorem dX5_readNumber_12 : decode cX5_readNumber 12 = .ok (.goto 9, 3) := by decide +kernel
theorem dX5_readNumber_15 : decode cX5_readNumber 15 = .ok (.aload_n 0, 1) := by decide +kernel
theorem dX5_readNumber_16 : decode cX5_readNumber 16 = .ok (.ldc 98, 2) := by decide +kernel
theorem dX5_readNumber_18 : decode cX5_readNumber 18 = .ok (.invokevirtual 92, 3) := by decide +kernel
theorem dX5_readNumber_21 : decode cX5_readNumber 21 = .ok (.istore_n 2, 1) := by decide +kernel
theorem dX5_readNumber_22 : decode cX5_readNumber 22 = .ok (.iload_n 2, 1) := by decide +kernel
theorem dX5_readNumber_23 : decode cX5_readNumber 23 = .ok (.ifCond .ge 7, 3) := by decide +kernel
theorem dX5_readNumber_26 : decode cX5_readNumber 26 = .ok (.iload_n 1, 1) := by decide +kernel
theorem dX5_readNumber_27 : decode cX5_readNumber 27 = .ok (.goto 9, 3) := by decide +kernel
theorem dX5_readNumber_30 : decode cX5_readNumber 30 = .ok (.bipush 10, 2) := by decide +kernel
theorem dX5_readNumber_32 : decode cX5_readNumber 32 = .ok (.iload_n 1, 1) := by decide +kernel
theorem dX5_readNumber_33 : decode cX5_readNumber 33 = .ok (.imul, 1) := by decide +kernel
theorem dX5_readNumber_34 : decode cX5_readNumber 34 = .ok (.iload_n 2, 1) := by decide +kernel
theorem dX5_readNumber_35 : decode cX5_readNumber 35 = .ok (.iadd, 1) := by decide +kernel
theorem dX5_readNumber_36 : decode cX5_readNumber 36 = .ok (.ireturn, 1) := by decide +kernel
theorem dX5_readOneOf_0 : decode cX5_readOneOf 0 = .ok (.aload_n 0, 1) := by decide +kernel
theorem dX5_readOneOf_1 : decode cX5_readOneOf 1 = .ok (.getfield 28, 3) := by decide +kernel
theorem dX5_readOneOf_4 : decode cX5_readOneOf 4 = .ok (.aload_n 0, 1) := by decide +kernel
theorem dX5_readOneOf_5 : decode cX5_readOneOf 5 = .ok (.getfield 15, 3) := by decide +kernel
theorem dX5_readOneOf_8 : decode cX5_readOneOf 8 = .ok (.if_icmp .ge 20, 3) := by decide +kernel
theorem dX5_readOneOf_11 : decode cX5_readOneOf 11 = .ok (.aload_n 1, 1) := by decide +kernel
theorem dX5_readOneOf_12 : decode cX5_readOneOf 12 = .ok (.aload_n 0, 1) := by decide +kernel
theorem dX5_readOneOf_13 : decode cX5_readOneOf 13 = .ok (.getfield 9, 3) := by decide +kernel
theorem dX5_readOneOf_16 : decode cX5_readOneOf 16 = .ok (.aload_n 0, 1) := by decide +kernel
theorem dX5_readOneOf_17 : decode cX5_readOneOf 17 = .ok (.getfield 28, 3) := by decide +kernel
theorem dX5_readOneOf_20 : decode cX5_readOneOf 20 = .ok (.baload, 1) := by decide +kernel
theorem dX5_readOneOf_21 : decode cX5_readOneOf 21 = .ok (.i2c, 1) := by decide +kernel
theorem dX5_readOneOf_22 : decode cX5_readOneOf 22 = .ok (.invokevirtual 100, 3) := by decide +kernel
theorem dX5_readOneOf_25 : decode cX5_readOneOf 25 = .ok (.goto 4, 3) := by decide +kernel
theorem dX5_readOneOf_28 : decode cX5_readOneOf 28 = .ok (.iconst (-1), 1) := by decide +kernel
theorem dX5_readOneOf_29 : decode cX5_readOneOf 29 = .ok (.istore_n 2, 1) := by decide +kernel
theorem dX5_readOneOf_30 : decode cX5_readOneOf 30 = .ok (.iload_n 2, 1) := by decide +kernel
theorem dX5_readOneOf_31 : decode cX5_readOneOf 31 = .ok (.ifCond .lt 13, 3) := by decide +kernel
theorem dX5_readOneOf_34 : decode cX5_readOneOf 34 = .ok (.aload_n 0, 1) := by decide +kernel
theorem dX5_readOneOf_35 : decode cX5_readOneOf 35 = .ok (.dup, 1) := by decide +kernel
theorem dX5_readOneOf_36 : decode cX5_readOneOf 36 = .ok (.getfield 28, 3) := by decide +kernel
theorem dX5_readOneOf_39 : decode cX5_readOneOf 39 = .ok (.iconst 1, 1) := by decide +kernel
theorem dX5_readOneOf_40 : decode cX5_readOneOf 40 = .ok (.iadd, 1) := by decide +kernel
theorem dX5_readOneOf_41 : decode cX5_readOneOf 41 = .ok (.putfield 28, 3) := by decide +kernel
theorem dX5_readOneOf_44 : decode cX5_readOneOf 44 = .ok (.iload_n 2, 1) := by decide +kernel
theorem dX5_readOneOf_45 : decode cX5_readOneOf 45 = .ok (.ireturn, 1) := by decide +kernel
theorem dX5_readsSign_0 : decode cX5_readsSign 0 = .ok (.aload_n 0, 1) := by decide +kernel
theorem dX5_readsSign_1 : decode cX5_readsSign 1 = .ok (.getfield 28, 3) := by decide +kernel
theorem dX5_readsSign_4 : decode cX5_readsSign 4 = .ok (.aload_n 0, 1) := by decide +kernel
theorem dX5_readsSign_5 : decode cX5_readsSign 5 = .ok (.getfield 15, 3) := by decide +kernel
theorem dX5_readsSign_8 : decode cX5_readsSign 8 = .ok (.if_icmp .ge 16, 3) := by decide +kernel
theorem dX5_readsSign_11 : decode cX5_readsSign 11 = .ok (.aload_n 0, 1) := by decide +kernel
theorem dX5_readsSign_12 : decode cX5_readsSign 12 = .ok (.getfield 9, 3) := by decide +kernel
theorem dX5_readsSign_15 : decode cX5_readsSign 15 = .ok (.aload_n 0, 1) := by decide +kernel
theorem dX5_readsSign_16 : decode cX5_readsSign 16 = .ok (.getfield 28, 3) := by decide +kernel
theorem dX5_readsSign_19 : decode cX5_readsSign 19 = .ok (.baload, 1) := by decide +kernel
theorem dX5_readsSign_20 : decode cX5_readsSign 20 = .ok (.iload_n 1, 1) := by decide +kernel
theorem dX5_readsSign_21 : decode cX5_readsSign 21 = .ok (.if_icmp .eq 5, 3) := by decide +kernel
theorem dX5_readsSign_24 : decode cX5_readsSign 24 = .ok (.iconst 0, 1) := by decide +kernel
theorem dX5_readsSign_25 : decode cX5_readsSign 25 = .ok (.ireturn, 1) := by decide +kernel
theorem dX5_readsSign_26 : decode cX5_readsSign 26 = .ok (.aload_n 0, 1) := by decide +kernel
theorem dX5_readsSign_27 : decode cX5_readsSign 27 = .ok (.dup, 1) := by decide +kernel
theorem dX5_readsSign_28 : decode cX5_readsSign 28 = .ok (.getfield 28, 3) := by decide +kernel
theorem dX5_readsSign_31 : decode cX5_readsSign 31 = .ok (.iconst 1, 1) := by decide +kernel
theorem dX5_readsSign_32 : decode cX5_readsSign 32 = .ok (.iadd, 1) := by decide +kernel
theorem dX5_readsSign_33 : decode cX5_readsSign 33 = .ok (.putfield 28, 3) := by decide +kernel
theorem dX5_readsSign_36 : decode cX5_readsSign 36 = .ok (.iconst 1, 1) := by decide +kernel
theorem dX5_readsSign_37 : decode cX5_readsSign 37 = .ok (.ireturn, 1) := by decide +kernel
theorem dX6_init_0 : decode cX6_init 0 = .ok (.aload_n 0, 1) := by decide +kernel
theorem dX6_init_1 : decode cX6_init 1 = .ok (.invokespecial 3, 3) := by decide +kernel
theorem dX6_init_4 : decode cX6_init 4 = .ok (.aload_n 0, 1) := by decide +kernel
theorem dX6_init_5 : decode cX6_init 5 = .ok (.sipush 150, 3) := by decide +kernel
theorem dX6_init_8 : decode cX6_init 8 = .ok (.newarray .int, 2) := by decide +kernel
theorem dX6_init_10 : decode cX6_init 10 = .ok (.putfield 9, 3) := by decide +kernel
theorem dX6_init_13 : decode cX6_init 13 = .ok (.aload_n 0, 1) := by decide +kernel
theorem dX6_init_14 : decode cX6_init 14 = .ok (.bipush 6, 2) := by decide +kernel
theorem dX6_init_16 : decode cX6_init 16 = .ok (.newarray .int, 2) := by decide +kernel
theorem dX6_init_18 : decode cX6_init 18 = .ok (.putfield 15, 3) := by decide +kernel
theorem dX6_init_21 : decode cX6_init 21 = .ok (.aload_n 0, 1) := by decide +kernel
theorem dX6_init_22 : decode cX6_init 22 = .ok (.iconst 5, 1) := by decide +kernel
theorem dX6_init_23 : decode cX6_init 23 = .ok (.newarray .int, 2) := by decide +kernel
theorem dX6_init_25 : decode cX6_init 25 = .ok (.putfield 18, 3) := by decide +kernel
theorem dX6_init_28 : decode cX6_init 28 = .ok (.aload_n 0, 1) := by decide +kernel
theorem dX6_init_29 : decode cX6_init 29 = .ok (.bipush 6, 2) := by decide +kernel
theorem dX6_init_31 : decode cX6_init 31 = .ok (.newarray .boolean, 2) := by decide +kernel
theorem dX6_init_33 : decode cX6_init 33 = .ok (.putfield 21, 3) := by decide +kernel
theorem dX6_init_36 : decode cX6_init 36 = .ok (.aload_n 0, 1) := by decide +kernel
theorem dX6_init_37 : decode cX6_init 37 = .ok (.bipush 30, 2) := by decide +kernel
theorem dX6_init_39 : decode cX6_init 39 = .ok (.newarray .int, 2) := by decide +kernel
theorem dX6_init_41 : decode cX6_init 41 = .ok (.putfield 25, 3) := by decide +kernel
theorem dX6_init_44 : decode cX6_init 44 = .ok (.aload_n 0, 1) := by decide +kernel
theorem dX6_init_45 : decode cX6_init 45 = .ok (.bipush 35, 2) := by decide +kernel
theorem dX6_init_47 : decode cX6_init 47 = .ok (.newarray .int, 2) := by decide +kernel
theorem dX6_init_49 : decode cX6_init 49 = .ok (.putfield 28, 3) := by decide +kernel
theorem dX6_init_52 : decode cX6_init 52 = .ok (.aload_n 0, 1) := by decide +kernel
theorem dX6_init_53 : decode cX6_init 53 = .ok (.bipush 6, 2) := by decide +kernel
theorem dX6_init_55 : decode cX6_init 55 = .ok (.newarray .int, 2) := by decide +kernel
theorem dX6_init_57 : decode cX6_init 57 = .ok (.putfield 31, 3) := by decide +kernel
theorem dX6_init_60 : decode cX6_init 60 = .ok (.aload_n 0, 1) := by decide +kernel
theorem dX6_init_61 : decode cX6_init 61 = .ok (.iconst 3, 1) := by decide +kernel
theorem dX6_init_62 : decode cX6_init 62 = .ok (.newarray .int, 2) := by decide +kernel
theorem dX6_init_64 : decode cX6_init 64 = .ok (.putfield 34, 3) := by decide +kernel
theorem dX6_init_67 : decode cX6_init 67 = .ok (.return_, 1) := by decide +kernel
theorem dX6_take_0 : decode cX6_take 0 = .ok (.aload_n 0, 1) := by decide +kernel
theorem dX6_take_1 : decode cX6_take 1 = .ok (.aload_n 1, 1) := by decide +kernel
theorem dX6_take_2 : decode cX6_take 2 = .ok (.getfield 37, 3) := by decide +kernel
theorem dX6_take_5 : decode cX6_take 5 = .ok (.putfield 43, 3) := by decide +kernel
theorem dX6_take_8 : decode cX6_take 8 = .ok (.aload_n 0, 1) := by decide +kernel
theorem dX6_take_9 : decode cX6_take 9 = .ok (.aload_n 1, 1) := by decide +kernel
theorem dX6_take_10 : decode cX6_take 10 = .ok (.getfield 44, 3) := by decide +kernel
theorem dX6_take_13 : decode cX6_take 13 = .ok (.getfield 48, 3) := by decide +kernel
theorem dX6_take_16 : decode cX6_take 16 = .ok (.putfield 53, 3) := by decide +kernel
theorem dX6_take_19 : decode cX6_take 19 = .ok (.iconst 0, 1) := by decide +kernel
theorem dX6_take_20 : decode cX6_take 20 = .ok (.istore_n 2, 1) := by decide +kernel
theorem dX6_take_21 : decode cX6_take 21 = .ok (.iload_n 2, 1) := by decide +kernel
theorem dX6_take_22 : decode cX6_take 22 = .ok (.iconst 5, 1) := by decide +kernel
theorem dX6_take_23 : decode cX6_take 23 = .ok (.if_icmp .ge 16, 3) := by decide +kernel
theorem dX6_take_26 : decode cX6_take 26 = .ok (.aload_n 0, 1) := by decide +kernel
theorem dX6_take_27 : decode cX6_take 27 = .ok (.getfield 18, 3) := by decide +kernel
theorem dX6_take_30 : decode cX6_take 30 = .ok (.iload_n 2, 1) := by decide +kernel
theorem dX6_take_31 : decode cX6_take 31 = .ok (.iconst 0, 1) := by decide +kernel
theorem dX6_take_32 : decode cX6_take 32 = .ok (.iastore, 1) := by decide +kernel
theorem dX6_take_33 : decode cX6_take 33 = .ok (.iinc 2 1, 3) := by decide +kernel
theorem dX6_take_36 : decode cX6_take 36 = .ok (.goto (-15), 3) := by decide +kernel
theorem dX6_take_39 : decode cX6_take 39 = .ok (.iconst 0, 1) := by decide +kernel
theorem dX6_take_40 : decode cX6_take 40 = .ok (.istore_n 2, 1) := by decide +kernel
theorem dX6_take_41 : decode cX6_take 41 = .ok (.iload_n 2, 1) := by decide +kernel
theorem dX6_take_42 : decode cX6_take 42 = .ok (.aload_n 0, 1) := by decide +kernel
theorem dX6_take_43 : decode cX6_take 43 = .ok (.getfield 43, 3) := by decide +kernel
theorem dX6_take_46 : decode cX6_take 46 = .ok (.if_icmp .ge 99, 3) := by decide +kernel
theorem dX6_take_49 : decode cX6_take 49 = .ok (.iconst 0, 1) := by decide +kernel
theorem dX6_take_50 : decode cX6_take 50 = .ok (.istore_n 3, 1) := by decide +kernel
theorem dX6_take_51 : decode cX6_take 51 = .ok (.iload_n 3, 1) := by decide +kernel
theorem dX6_take_52 : decode cX6_take 52 = .ok (.iconst 5, 1) := by decide +kernel
theorem dX6_take_53 : decode cX6_take 53 = .ok (.if_icmp .ge 57, 3) := by decide +kernel
theorem dX6_take_56 : decode cX6_take 56 = .ok (.aload_n 1, 1) := by decide +kernel
theorem dX6_take_57 : decode cX6_take 57 = .ok (.iload_n 2, 1) := by decide +kernel
theorem dX6_take_58 : decode cX6_take 58 = .ok (.iload_n 3, 1) := by decide +kernel
theorem dX6_take_59 : decode cX6_take 59 = .ok (.invokevirtual 54, 3) := by decide +kernel
theorem dX6_take_62 : decode cX6_take 62 = .ok (.istore 4, 2) := by decide +kernel
theorem dX6_take_64 : decode cX6_take 64 = .ok (.iconst 0, 1) := by decide +kernel
theorem dX6_take_65 : decode cX6_take 65 = .ok (.istore 5, 2) := by decide +kernel
theorem dX6_take_67 : decode cX6_take 67 = .ok (.iload 5, 2) := by decide +kernel
theorem dX6_take_69 : decode cX6_take 69 = .ok (.iconst 5, 1) := by decide +kernel
theorem dX6_take_70 : decode cX6_take 70 = .ok (.if_icmp .ge 34, 3) := by decide +kernel
theorem dX6_take_73 : decode cX6_take 73 = .ok (.aload_n 0, 1) := by decide +kernel
theorem dX6_take_74 : decode cX6_take 74 = .ok (.getfield 9, 3) := by decide +kernel
theorem dX6_take_77 : decode cX6_take 77 = .ok (.iload_n 2, 1) := by decide +kernel
theorem dX6_take_78 : decode cX6_take 78 = .ok (.iconst 5, 1) := by decide +kernel
theorem dX6_take_79 : decode cX6_take 79 = .ok (.imul, 1) := by decide +kernel
theorem dX6_take_80 : decode cX6_take 80 = .ok (.iload_n 3, 1) := by decide +kernel
theorem dX6_take_81 : decode cX6_take 81 = .ok (.iadd, 1) := by decide +kernel
theorem dX6_take_82 : decode cX6_take 82 = .ok (.iconst 5, 1) := by decide +kernel
theorem dX6_take_83 : decode cX6_take 83 = .ok (.imul, 1) := by decide +kernel
theorem dX6_take_84 : decode cX6_take 84 = .ok (.iload 5, 2) := by decide +kernel
theorem dX6_take_86 : decode cX6_take 86 = .ok (.iadd, 1) := by decide +kernel
theorem dX6_take_87 : decode cX6_take 87 = .ok (.aload_n 1, 1) := by decide +kernel
theorem dX6_take_88 : decode cX6_take 88 = .ok (.iload_n 2, 1) := by decide +kernel
theorem dX6_take_89 : decode cX6_take 89 = .ok (.iload 4, 2) := by decide +kernel
theorem dX6_take_91 : decode cX6_take 91 = .ok (.iload_n 3, 1) := by decide +kernel
theorem dX6_take_92 : decode cX6_take 92 = .ok (.iload 5, 2) := by decide +kernel
theorem dX6_take_94 : decode cX6_take 94 = .ok (.invokevirtual 58, 3) := by decide +kernel
theorem dX6_take_97 : decode cX6_take 97 = .ok (.iastore, 1) := by decide +kernel
theorem dX6_take_98 : decode cX6_take 98 = .ok (.iinc 5 1, 3) := by decide +kernel
theorem dX6_take_101 : decode cX6_take 101 = .ok (.goto (-34), 3) := by decide +kernel
theorem dX6_take_104 : decode cX6_take 104 = .ok (.iinc 3 1, 3) := by decide +kernel
theorem dX6_take_107 : decode cX6_take 107 = .ok (.goto (-56), 3) := by decide +kernel
theorem dX6_take_110 : decode cX6_take 110 = .ok (.aload_n 0, 1) := by decide +kernel
theorem dX6_take_111 : decode cX6_take 111 = .ok (.getfield 21, 3) := by decide +kernel
theorem dX6_take_114 : decode cX6_take 114 = .ok (.iload_n 2, 1) := by decide +kernel
theorem dX6_take_115 : decode cX6_take 115 = .ok (.aload_n 1, 1) := by decide +kernel
theorem dX6_take_116 : decode cX6_take 116 = .ok (.iload_n 2, 1) := by decide +kernel
theorem dX6_take_117 : decode cX6_take 117 = .ok (.invokevirtual 61, 3) := by decide +kernel
theorem dX6_take_120 : decode cX6_take 120 = .ok (.bastore, 1) := by decide +kernel
theorem dX6_take_121 : decode cX6_take 121 = .ok (.aload_n 0, 1) := by decide +kernel
theorem dX6_take_122 : decode cX6_take 122 = .ok (.getfield 15, 3) := by decide +kernel
theorem dX6_take_125 : decode cX6_take 125 = .ok (.iload_n 2, 1) := by decide +kernel
theorem dX6_take_126 : decode cX6_take 126 = .ok (.iconst (-1), 1) := by decide +kernel
theorem dX6_take_127 : decode cX6_take 127 = .ok (.iastore, 1) := by decide +kernel
theorem dX6_take_128 : decode cX6_take 128 = .ok (.aload_n 0, 1) := by decide +kernel
theorem dX6_take_129 : decode cX6_take 129 = .ok (.iload_n 2, 1) := by decide +kernel
theorem dX6_take_130 : decode cX6_take 130 = .ok (.aload_n 1, 1) := by decide +kernel
theorem dX6_take_131 : decode cX6_take 131 = .ok (.getfield 65, 3) := by decide +kernel
theorem dX6_take_134 : decode cX6_take 134 = .ok (.iload_n 2, 1) := by decide +kernel
theorem dX6_take_135 : decode cX6_take 135 = .ok (.iaload, 1) := by decide +kernel
theorem dX6_take_136 : decode cX6_take 136 = .ok (.invokevirtual 66, 3) := by decide +kernel
theorem dX6_take_139 : decode cX6_take 139 = .ok (.iinc 2 1, 3) := by decide +kernel
theorem dX6_take_142 : decode cX6_take 142 = .ok (.goto (-101), 3) := by decide +kernel
theorem dX6_take_145 : decode cX6_take 145 = .ok (.return_, 1) := by decide +kernel
theorem dX6_put_0 : decode cX6_put 0 = .ok (.iconst 0, 1) := by decide +kernel
theorem dX6_put_1 : decode cX6_put 1 = .ok (.istore_n 3, 1) := by decide +kernel
theorem dX6_put_2 : decode cX6_put 2 = .ok (.iload_n 3, 1) := by decide +kernel
theorem dX6_put_3 : decode cX6_put 3 = .ok (.iconst 5, 1) := by decide +kernel
theorem dX6_put_4 : decode cX6_put 4 = .ok (.if_icmp .ge 38, 3) := by decide +kernel
theorem dX6_put_7 : decode cX6_put 7 = .ok (.aload_n 0, 1) := by decide +kernel
theorem dX6_put_8 : decode cX6_put 8 = .ok (.getfield 18, 3) := by decide +kernel
theorem dX6_put_11 : decode cX6_put 11 = .ok (.iload_n 3, 1) := by decide +kernel
theorem dX6_put_12 : decode cX6_put 12 = .ok (.dup2, 1) := by decide +kernel
theorem dX6_put_13 : decode cX6_put 13 = .ok (.iaload, 1) := by decide +kernel
theorem dX6_put_14 : decode cX6_put 14 = .ok (.aload_n 0, 1) := by decide +kernel
theorem dX6_put_15 : decode cX6_put 15 = .ok (.iload_n 1, 1) := by decide +kernel
theorem dX6_put_16 : decode cX6_put 16 = .ok (.iload_n 2, 1) := by decide +kernel
theorem dX6_put_17 : decode cX6_put 17 = .ok (.iload_n 3, 1) := by decide +kernel
theorem dX6_put_18 : decode cX6_put 18 = .ok (.invokevirtual 70, 3) := by decide +kernel
theorem dX6_put_21 : decode cX6_put 21 = .ok (.aload_n 0, 1) := by decide +kernel
theorem dX6_put_22 : decode cX6_put 22 = .ok (.iload_n 1, 1) := by decide +kernel
theorem dX6_put_23 : decode cX6_put 23 = .ok (.aload_n 0, 1) := by decide +kernel
theorem dX6_put_24 : decode cX6_put 24 = .ok (.getfield 15, 3) := by decide +kernel
theorem dX6_put_27 : decode cX6_put 27 = .ok (.iload_n 1, 1) := by decide +kernel
theorem dX6_put_28 : decode cX6_put 28 = .ok (.iaload, 1) := by decide +kernel
theorem dX6_put_29 : decode cX6_put 29 = .ok (.iload_n 3, 1) := by decide +kernel
theorem dX6_put_30 : decode cX6_put 30 = .ok (.invokevirtual 70, 3) := by decide +kernel
theorem dX6_put_33 : decode cX6_put 33 = .ok (.isub, 1) := by decide +kernel
theorem dX6_put_34 : decode cX6_put 34 = .ok (.iadd, 1) := by decide +kernel
theorem dX6_put_35 : decode cX6_put 35 = .ok (.iastore, 1) := by decide +kernel
theorem dX6_put_36 : decode cX6_put 36 = .ok (.iinc 3 1, 3) := by decide +kernel
theorem dX6_put_39 : decode cX6_put 39 = .ok (.goto (-37), 3) := by decide +kernel
theorem dX6_put_42 : decode cX6_put 42 = .ok (.aload_n 0, 1) := by decide +kernel
theorem dX6_put_43 : decode cX6_put 43 = .ok (.getfield 15, 3) := by decide +kernel
theorem dX6_put_46 : decode cX6_put 46 = .ok (.iload_n 1, 1) := by decide +kernel
theorem dX6_put_47 : decode cX6_put 47 = .ok (.iload_n 2, 1) := by decide +kernel
theorem dX6_put_48 : decode cX6_put 48 = .ok (.iastore, 1) := by decide +kernel
theorem dX6_put_49 : decode cX6_put 49 = .ok (.return_, 1) := by decide +kernel
theorem dX6_heardFrom_0 : decode cX6_heardFrom 0 = .ok (.iload_n 2, 1) := by decide +kernel
theorem dX6_heardFrom_1 : decode cX6_heardFrom 1 = .ok (.iconst (-1), 1) := by decide +kernel
theorem dX6_heardFrom_2 : decode cX6_heardFrom 2 = .ok (.if_icmp .ne 7, 3) := by decide +kernel
theorem dX6_heardFrom_5 : decode cX6_heardFrom 5 = .ok (.iconst 0, 1) := by decide +kernel
theorem dX6_heardFrom_6 : decode cX6_heardFrom 6 = .ok (.goto 17, 3) := by decide +kernel
theorem dX6_heardFrom_9 : decode cX6_heardFrom 9 = .ok (.aload_n 0, 1) := by decide +kernel
theorem dX6_heardFrom_10 : decode cX6_heardFrom 10 = .ok (.getfield 9, 3) := by decide +kernel
theorem dX6_heardFrom_13 : decode cX6_heardFrom 13 = .ok (.iload_n 1, 1) := by decide +kernel
theorem dX6_heardFrom_14 : decode cX6_heardFrom 14 = .ok (.iconst 5, 1) := by decide +kernel
theorem dX6_heardFrom_15 : decode cX6_heardFrom 15 = .ok (.imul, 1) := by decide +kernel
theorem dX6_heardFrom_16 : decode cX6_heardFrom 16 = .ok (.iload_n 2, 1) := by decide +kernel
theorem dX6_heardFrom_17 : decode cX6_heardFrom 17 = .ok (.iadd, 1) := by decide +kernel
theorem dX6_heardFrom_18 : decode cX6_heardFrom 18 = .ok (.iconst 5, 1) := by decide +kernel
theorem dX6_heardFrom_19 : decode cX6_heardFrom 19 = .ok (.imul, 1) := by decide +kernel
theorem dX6_heardFrom_20 : decode cX6_heardFrom 20 = .ok (.iload_n 3, 1) := by decide +kernel
theorem dX6_heardFrom_21 : decode cX6_heardFrom 21 = .ok (.iadd, 1) := by decide +kernel
theorem dX6_heardFrom_22 : decode cX6_heardFrom 22 = .ok (.iaload, 1) := by decide +kernel
theorem dX6_heardFrom_23 : decode cX6_heardFrom 23 = .ok (.ireturn, 1) := by decide +kernel
theorem dX6_greatest_0 : decode cX6_greatest 0 = .ok (.iconst 0, 1) := by decide +kernel
theorem dX6_greatest_1 : decode cX6_greatest 1 = .ok (.istore_n 1, 1) := by decide +kernel
theorem dX6_greatest_2 : decode cX6_greatest 2 = .ok (.iconst 0, 1) := by decide +kernel
theorem dX6_greatest_3 : decode cX6_greatest 3 = .ok (.istore_n 2, 1) := by decide +kernel
theorem dX6_greatest_4 : decode cX6_greatest 4 = .ok (.iload_n 2, 1) := by decide +kernel
theorem dX6_greatest_5 : decode cX6_greatest 5 = .ok (.iconst 5, 1) := by decide +kernel
theorem dX6_greatest_6 : decode cX6_greatest 6 = .ok (.if_icmp .ge 20, 3) := by decide +kernel
theorem dX6_greatest_9 : decode cX6_greatest 9 = .ok (.iload_n 1, 1) := by decide +kernel
theorem dX6_greatest_10 : decode cX6_greatest 10 = .ok (.aload_n 0, 1) := by decide +kernel
theorem dX6_greatest_11 : decode cX6_greatest 11 = .ok (.getfield 18, 3) := by decide +kernel
theorem dX6_greatest_14 : decode cX6_greatest 14 = .ok (.iload_n 2, 1) := by decide +kernel
theorem dX6_greatest_15 : decode cX6_greatest 15 = .ok (.iaload, 1) := by decide +kernel
theorem dX6_greatest_16 : decode cX6_greatest 16 = .ok (.invokestatic 74, 3) := by decide +kernel
theorem dX6_greatest_19 : decode cX6_greatest 19 = .ok (.istore_n 1, 1) := by decide +kernel
theorem dX6_greatest_20 : decode cX6_greatest 20 = .ok (.iinc 2 1, 3) := by decide +kernel
theorem dX6_greatest_23 : decode cX6_greatest 23 = .ok (.goto (-19), 3) := by decide +kernel
theorem dX6_greatest_26 : decode cX6_greatest 26 = .ok (.iload_n 1, 1) := by decide +kernel
theorem dX6_greatest_27 : decode cX6_greatest 27 = .ok (.ireturn, 1) := by decide +kernel
theorem dX6_calmestHouse_0 : decode cX6_calmestHouse 0 = .ok (.iconst 0, 1) := by decide +kernel
theorem dX6_calmestHouse_1 : decode cX6_calmestHouse 1 = .ok (.istore_n 2, 1) := by decide +kernel
theorem dX6_calmestHouse_2 : decode cX6_calmestHouse 2 = .ok (.ldc 79, 2) := by decide +kernel
theorem dX6_calmestHouse_4 : decode cX6_calmestHouse 4 = .ok (.istore_n 3, 1) := by decide +kernel
theorem dX6_calmestHouse_5 : decode cX6_calmestHouse 5 = .ok (.iconst 0, 1) := by decide +kernel
theorem dX6_calmestHouse_6 : decode cX6_calmestHouse 6 = .ok (.istore 4, 2) := by decide +kernel
theorem dX6_calmestHouse_8 : decode cX6_calmestHouse 8 = .ok (.iload 4, 2) := by decide +kernel
theorem dX6_calmestHouse_10 : decode cX6_calmestHouse 10 = .ok (.iconst 5, 1) := by decide +kernel
theorem dX6_calmestHouse_11 : decode cX6_calmestHouse 11 = .ok (.if_icmp .ge 34, 3) := by decide +kernel
theorem dX6_calmestHouse_14 : decode cX6_calmestHouse 14 = .ok (.aload_n 0, 1) := by decide +kernel
theorem dX6_calmestHouse_15 : decode cX6_calmestHouse 15 = .ok (.iload_n 1, 1) := by decide +kernel
theorem dX6_calmestHouse_16 : decode cX6_calmestHouse 16 = .ok (.iload 4, 2) := by decide +kernel
theorem dX6_calmestHouse_18 : decode cX6_calmestHouse 18 = .ok (.invokevirtual 66, 3) := by decide +kernel
theorem dX6_calmestHouse_21 : decode cX6_calmestHouse 21 = .ok (.aload_n 0, 1) := by decide +kernel
theorem dX6_calmestHouse_22 : decode cX6_calmestHouse 22 = .ok (.invokevirtual 80, 3) := by decide +kernel
theorem dX6_calmestHouse_25 : decode cX6_calmestHouse 25 = .ok (.istore 5, 2) := by decide +kernel
theorem dX6_calmestHouse_27 : decode cX6_calmestHouse 27 = .ok (.iload 5, 2) := by decide +kernel
theorem dX6_calmestHouse_29 : decode cX6_calmestHouse 29 = .ok (.iload_n 3, 1) := by decide +kernel
theorem dX6_calmestHouse_30 : decode cX6_calmestHouse 30 = .ok (.if_icmp .ge 9, 3) := by decide +kernel
theorem dX6_calmestHouse_33 : decode cX6_calmestHouse 33 = .ok (.iload 5, 2) := by decide +kernel
theorem dX6_calmestHouse_35 : decode cX6_calmestHouse 35 = .ok (.istore_n 3, 1) := by decide +kernel
theorem dX6_calmestHouse_36 : decode cX6_calmestHouse 36 = .ok (.iload 4, 2) := by decide +kernel
theorem dX6_calmestHouse_38 : decode cX6_calmestHouse 38 = .ok (.istore_n 2, 1) := by decide +kernel
theorem dX6_calmestHouse_39 : decode cX6_calmestHouse 39 = .ok (.iinc 4 1, 3) := by decide +kernel
theorem dX6_calmestHouse_42 : decode cX6_calmestHouse 42 = .ok (.goto (-34), 3) := by decide +kernel
theorem dX6_calmestHouse_45 : decode cX6_calmestHouse 45 = .ok (.iload_n 2, 1) := by decide +kernel
theorem dX6_calmestHouse_46 : decode cX6_calmestHouse 46 = .ok (.ireturn, 1) := by decide +kernel
theorem dX6_shareOut_0 : decode cX6_shareOut 0 = .ok (.aload_n 0, 1) := by decide +kernel
theorem dX6_shareOut_1 : decode cX6_shareOut 1 = .ok (.ldc 79, 2) := by decide +kernel
theorem dX6_shareOut_3 : decode cX6_shareOut 3 = .ok (.putfield 84, 3) := by decide +kernel
theorem dX6_shareOut_6 : decode cX6_shareOut 6 = .ok (.aload_n 0, 1) := by decide +kernel
theorem dX6_shareOut_7 : decode cX6_shareOut 7 = .ok (.ldc 79, 2) := by decide +kernel
theorem dX6_shareOut_9 : decode cX6_shareOut 9 = .ok (.putfield 87, 3) := by decide +kernel
theorem dX6_shareOut_12 : decode cX6_shareOut 12 = .ok (.iconst 0, 1) := by decide +kernel
theorem dX6_shareOut_13 : decode cX6_shareOut 13 = .ok (.istore_n 1, 1) := by decide +kernel
theorem dX6_shareOut_14 : decode cX6_shareOut 14 = .ok (.iload_n 1, 1) := by decide +kernel
theorem dX6_shareOut_15 : decode cX6_shareOut 15 = .ok (.iconst 5, 1) := by decide +kernel
theorem dX6_shareOut_16 : decode cX6_shareOut 16 = .ok (.if_icmp .ge 67, 3) := by decide +kernel
theorem dX6_shareOut_19 : decode cX6_shareOut 19 = .ok (.aload_n 0, 1) := by decide +kernel
theorem dX6_shareOut_20 : decode cX6_shareOut 20 = .ok (.getfield 28, 3) := by decide +kernel
theorem dX6_shareOut_23 : decode cX6_shareOut 23 = .ok (.iload_n 1, 1) := by decide +kernel
theorem dX6_shareOut_24 : decode cX6_shareOut 24 = .ok (.iconst 0, 1) := by decide +kernel
theorem dX6_shareOut_25 : decode cX6_shareOut 25 = .ok (.iastore, 1) := by decide +kernel
theorem dX6_shareOut_26 : decode cX6_shareOut 26 = .ok (.iconst 0, 1) := by decide +kernel
theorem dX6_shareOut_27 : decode cX6_shareOut 27 = .ok (.istore_n 2, 1) := by decide +kernel
theorem dX6_shareOut_28 : decode cX6_shareOut 28 = .ok (.iload_n 2, 1) := by decide +kernel
theorem dX6_shareOut_29 : decode cX6_shareOut 29 = .ok (.aload_n 0, 1) := by decide +kernel
theorem dX6_shareOut_30 : decode cX6_shareOut 30 = .ok (.getfield 43, 3) := by decide +kernel
theorem dX6_shareOut_33 : decode cX6_shareOut 33 = .ok (.if_icmp .ge 44, 3) := by decide +kernel
theorem dX6_shareOut_36 : decode cX6_shareOut 36 = .ok (.aload_n 0, 1) := by decide +kernel
theorem dX6_shareOut_37 : decode cX6_shareOut 37 = .ok (.getfield 25, 3) := by decide +kernel
theorem dX6_shareOut_40 : decode cX6_shareOut 40 = .ok (.iload_n 2, 1) := by decide +kernel
theorem dX6_shareOut_41 : decode cX6_shareOut 41 = .ok (.iconst 5, 1) := by decide +kernel
theorem dX6_shareOut_42 : decode cX6_shareOut 42 = .ok (.imul, 1) := by decide +kernel
theorem dX6_shareOut_43 : decode cX6_shareOut 43 = .ok (.iload_n 1, 1) := by decide +kernel
theorem dX6_shareOut_44 : decode cX6_shareOut 44 = .ok (.iadd, 1) := by decide +kernel
theorem dX6_shareOut_45 : decode cX6_shareOut 45 = .ok (.aload_n 0, 1) := by decide +kernel
theorem dX6_shareOut_46 : decode cX6_shareOut 46 = .ok (.iload_n 2, 1) := by decide +kernel
theorem dX6_shareOut_47 : decode cX6_shareOut 47 = .ok (.iload_n 1, 1) := by decide +kernel
theorem dX6_shareOut_48 : decode cX6_shareOut 48 = .ok (.invokevirtual 90, 3) := by decide +kernel
theorem dX6_shareOut_51 : decode cX6_shareOut 51 = .ok (.iastore, 1) := by decide +kernel
theorem dX6_shareOut_52 : decode cX6_shareOut 52 = .ok (.aload_n 0, 1) := by decide +kernel
theorem dX6_shareOut_53 : decode cX6_shareOut 53 = .ok (.getfield 28, 3) := by decide +kernel
theorem dX6_shareOut_56 : decode cX6_shareOut 56 = .ok (.iload_n 1, 1) := by decide +kernel
theorem dX6_shareOut_57 : decode cX6_shareOut 57 = .ok (.dup2, 1) := by decide +kernel
theorem dX6_shareOut_58 : decode cX6_shareOut 58 = .ok (.iaload, 1) := by decide +kernel
theorem dX6_shareOut_59 : decode cX6_shareOut 59 = .ok (.aload_n 0, 1) := by decide +kernel
theorem dX6_shareOut_60 : decode cX6_shareOut 60 = .ok (.getfield 25, 3) := by decide +kernel
theorem dX6_shareOut_63 : decode cX6_shareOut 63 = .ok (.iload_n 2, 1) := by decide +kernel
theorem dX6_shareOut_64 : decode cX6_shareOut 64 = .ok (.iconst 5, 1) := by decide +kernel
theorem dX6_shareOut_65 : decode cX6_shareOut 65 = .ok (.imul, 1) := by decide +kernel
theorem dX6_shareOut_66 : decode cX6_shareOut 66 = .ok (.iload_n 1, 1) := by decide +kernel
theorem dX6_shareOut_67 : decode cX6_shareOut 67 = .ok (.iadd, 1) := by decide +kernel
theorem dX6_shareOut_68 : decode cX6_shareOut 68 = .ok (.iaload, 1) := by decide +kernel
theorem dX6_shareOut_69 : decode cX6_shareOut 69 = .ok (.iadd, 1) := by decide +kernel
theorem dX6_shareOut_70 : decode cX6_shareOut 70 = .ok (.iastore, 1) := by decide +kernel
theorem dX6_shareOut_71 : decode cX6_shareOut 71 = .ok (.iinc 2 1, 3) := by decide +kernel
theorem dX6_shareOut_74 : decode cX6_shareOut 74 = .ok (.goto (-46), 3) := by decide +kernel
theorem dX6_shareOut_77 : decode cX6_shareOut 77 = .ok (.iinc 1 1, 3) := by decide +kernel
theorem dX6_shareOut_80 : decode cX6_shareOut 80 = .ok (.goto (-66), 3) := by decide +kernel
theorem dX6_shareOut_83 : decode cX6_shareOut 83 = .ok (.aload_n 0, 1) := by decide +kernel
theorem dX6_shareOut_84 : decode cX6_shareOut 84 = .ok (.iconst 0, 1) := by decide +kernel
theorem dX6_shareOut_85 : decode cX6_shareOut 85 = .ok (.invokevirtual 93, 3) := by decide +kernel
theorem dX6_shareOut_88 : decode cX6_shareOut 88 = .ok (.return_, 1) := by decide +kernel
theorem dX6_leastHeard_0 : decode cX6_leastHeard 0 = .ok (.aload_n 0, 1) := by decide +kernel
theorem dX6_leastHeard_1 : decode cX6_leastHeard 1 = .ok (.getfield 21, 3) := by decide +kernel
theorem dX6_leastHeard_4 : decode cX6_leastHeard 4 = .ok (.iload_n 1, 1) := by decide +kernel
theorem dX6_leastHeard_5 : decode cX6_leastHeard 5 = .ok (.baload, 1) := by decide +kernel
theorem dX6_leastHeard_6 : decode cX6_leastHeard 6 = .ok (.ifCond .eq 7, 3) := by decide +kernel
theorem dX6_leastHeard_9 : decode cX6_leastHeard 9 = .ok (.iconst 0, 1) := by decide +kernel
theorem dX6_leastHeard_10 : decode cX6_leastHeard 10 = .ok (.goto 5, 3) := by decide +kernel
theorem dX6_leastHeard_13 : decode cX6_leastHeard 13 = .ok (.ldc 79, 2) := by decide +kernel
theorem dX6_leastHeard_15 : decode cX6_leastHeard 15 = .ok (.istore_n 3, 1) := by decide +kernel
theorem dX6_leastHeard_16 : decode cX6_leastHeard 16 = .ok (.iconst 0, 1) := by decide +kernel
theorem dX6_leastHeard_17 : decode cX6_leastHeard 17 = .ok (.istore 4, 2) := by decide +kernel
theorem dX6_leastHeard_19 : decode cX6_leastHeard 19 = .ok (.iload 4, 2) := by decide +kernel
theorem dX6_leastHeard_21 : decode cX6_leastHeard 21 = .ok (.iconst 5, 1) := by decide +kernel
theorem dX6_leastHeard_22 : decode cX6_leastHeard 22 = .ok (.if_icmp .ge 22, 3) := by decide +kernel
theorem dX6_leastHeard_25 : decode cX6_leastHeard 25 = .ok (.iload_n 3, 1) := by decide +kernel
theorem dX6_leastHeard_26 : decode cX6_leastHeard 26 = .ok (.aload_n 0, 1) := by decide +kernel
theorem dX6_leastHeard_27 : decode cX6_leastHeard 27 = .ok (.iload_n 1, 1) := by decide +kernel
theorem dX6_leastHeard_28 : decode cX6_leastHeard 28 = .ok (.iload 4, 2) := by decide +kernel
theorem dX6_leastHeard_30 : decode cX6_leastHeard 30 = .ok (.iload_n 2, 1) := by decide +kernel
theorem dX6_leastHeard_31 : decode cX6_leastHeard 31 = .ok (.invokevirtual 70, 3) := by decide +kernel
theorem dX6_leastHeard_34 : decode cX6_leastHeard 34 = .ok (.invokestatic 97, 3) := by decide +kernel
theorem dX6_leastHeard_37 : decode cX6_leastHeard 37 = .ok (.istore_n 3, 1) := by decide +kernel
theorem dX6_leastHeard_38 : decode cX6_leastHeard 38 = .ok (.iinc 4 1, 3) := by decide +kernel
theorem dX6_leastHeard_41 : decode cX6_leastHeard 41 = .ok (.goto (-22), 3) := by decide +kernel
theorem dX6_leastHeard_44 : decode cX6_leastHeard 44 = .ok (.iload_n 3, 1) := by decide +kernel
theorem dX6_leastHeard_45 : decode cX6_leastHeard 45 = .ok (.ireturn, 1) := by decide +kernel
theorem dX6_shareFrom_0 : decode cX6_shareFrom 0 = .ok (.iload_n 1, 1) := by decide +kernel
theorem dX6_shareFrom_1 : decode cX6_shareFrom 1 = .ok (.aload_n 0, 1) := by decide +kernel
theorem dX6_shareFrom_2 : decode cX6_shareFrom 2 = .ok (.getfield 43, 3) := by decide +kernel
theorem dX6_shareFrom_5 : decode cX6_shareFrom 5 = .ok (.if_icmp .lt 8, 3) := by decide +kernel
theorem dX6_shareFrom_8 : decode cX6_shareFrom 8 = .ok (.aload_n 0, 1) := by decide +kernel
theorem dX6_shareFrom_9 : decode cX6_shareFrom 9 = .ok (.invokevirtual 100, 3) := by decide +kernel
theorem dX6_shareFrom_12 : decode cX6_shareFrom 12 = .ok (.return_, 1) := by decide +kernel
theorem dX6_shareFrom_13 : decode cX6_shareFrom 13 = .ok (.aload_n 0, 1) := by decide +kernel
theorem dX6_shareFrom_14 : decode cX6_shareFrom 14 = .ok (.getfield 21, 3) := by decide +kernel
theorem dX6_shareFrom_17 : decode cX6_shareFrom 17 = .ok (.iload_n 1, 1) := by decide +kernel
theorem dX6_shareFrom_18 : decode cX6_shareFrom 18 = .ok (.baload, 1) := by decide +kernel
theorem dX6_shareFrom_19 : decode cX6_shareFrom 19 = .ok (.ifCond .eq 7, 3) := by decide +kernel
theorem dX6_shareFrom_22 : decode cX6_shareFrom 22 = .ok (.iconst (-1), 1) := by decide +kernel
theorem dX6_shareFrom_23 : decode cX6_shareFrom 23 = .ok (.goto 4, 3) := by decide +kernel
theorem dX6_shareFrom_26 : decode cX6_shareFrom 26 = .ok (.iconst 0, 1) := by decide +kernel
theorem dX6_shareFrom_27 : decode cX6_shareFrom 27 = .ok (.istore_n 2, 1) := by decide +kernel
theorem dX6_shareFrom_28 : decode cX6_shareFrom 28 = .ok (.aload_n 0, 1) := by decide +kernel
theorem dX6_shareFrom_29 : decode cX6_shareFrom 29 = .ok (.getfield 21, 3) := by decide +kernel
theorem dX6_shareFrom_32 : decode cX6_shareFrom 32 = .ok (.iload_n 1, 1) := by decide +kernel
theorem dX6_shareFrom_33 : decode cX6_shareFrom 33 = .ok (.baload, 1) := by decide +kernel
theorem dX6_shareFrom_34 : decode cX6_shareFrom 34 = .ok (.ifCond .eq 7, 3) := by decide +kernel
theorem dX6_shareFrom_37 : decode cX6_shareFrom 37 = .ok (.iconst (-1), 1) := by decide +kernel
theorem dX6_shareFrom_38 : decode cX6_shareFrom 38 = .ok (.goto 4, 3) := by decide +kernel
theorem dX6_shareFrom_41 : decode cX6_shareFrom 41 = .ok (.iconst 4, 1) := by decide +kernel
theorem dX6_shareFrom_42 : decode cX6_shareFrom 42 = .ok (.istore_n 3, 1) := by decide +kernel
theorem dX6_shareFrom_43 : decode cX6_shareFrom 43 = .ok (.iload_n 2, 1) := by decide +kernel
theorem dX6_shareFrom_44 : decode cX6_shareFrom 44 = .ok (.istore 4, 2) := by decide +kernel
theorem dX6_shareFrom_46 : decode cX6_shareFrom 46 = .ok (.iload 4, 2) := by decide +kernel
theorem dX6_shareFrom_48 : decode cX6_shareFrom 48 = .ok (.iload_n 3, 1) := by decide +kernel
theorem dX6_shareFrom_49 : decode cX6_shareFrom 49 = .ok (.if_icmp .gt 26, 3) := by decide +kernel
theorem dX6_shareFrom_52 : decode cX6_shareFrom 52 = .ok (.aload_n 0, 1) := by decide +kernel
theorem dX6_shareFrom_53 : decode cX6_shareFrom 53 = .ok (.iload_n 1, 1) := by decide +kernel
theorem dX6_shareFrom_54 : decode cX6_shareFrom 54 = .ok (.iload 4, 2) := by decide +kernel
theorem dX6_shareFrom_56 : decode cX6_shareFrom 56 = .ok (.invokevirtual 103, 3) := by decide +kernel
theorem dX6_shareFrom_59 : decode cX6_shareFrom 59 = .ok (.ifCond .eq 10, 3) := by decide +kernel
theorem dX6_shareFrom_62 : decode cX6_shareFrom 62 = .ok (.aload_n 0, 1) := by decide +kernel
theorem dX6_shareFrom_63 : decode cX6_shareFrom 63 = .ok (.iload_n 1, 1) := by decide +kernel
theorem dX6_shareFrom_64 : decode cX6_shareFrom 64 = .ok (.iconst 1, 1) := by decide +kernel
theorem dX6_shareFrom_65 : decode cX6_shareFrom 65 = .ok (.iadd, 1) := by decide +kernel
theorem dX6_shareFrom_66 : decode cX6_shareFrom 66 = .ok (.invokevirtual 93, 3) := by decide +kernel
theorem dX6_shareFrom_69 : decode cX6_shareFrom 69 = .ok (.iinc 4 1, 3) := by decide +kernel
theorem dX6_shareFrom_72 : decode cX6_shareFrom 72 = .ok (.goto (-26), 3) := by decide +kernel
theorem dX6_shareFrom_75 : decode cX6_shareFrom 75 = .ok (.return_, 1) := by decide +kernel
theorem dX6_isBetter_0 : decode cX6_isBetter 0 = .ok (.aload_n 0, 1) := by decide +kernel
theorem dX6_isBetter_1 : decode cX6_isBetter 1 = .ok (.getfield 15, 3) := by decide +kernel
theorem dX6_isBetter_4 : decode cX6_isBetter 4 = .ok (.iload_n 1, 1) := by decide +kernel
theorem dX6_isBetter_5 : decode cX6_isBetter 5 = .ok (.iload_n 2, 1) := by decide +kernel
theorem dX6_isBetter_6 : decode cX6_isBetter 6 = .ok (.iastore, 1) := by decide +kernel
theorem dX6_isBetter_7 : decode cX6_isBetter 7 = .ok (.iconst 0, 1) := by decide +kernel
theorem dX6_isBetter_8 : decode cX6_isBetter 8 = .ok (.istore_n 3, 1) := by decide +kernel
theorem dX6_isBetter_9 : decode cX6_isBetter 9 = .ok (.iconst 0, 1) := by decide +kernel
theorem dX6_isBetter_10 : decode cX6_isBetter 10 = .ok (.istore 4, 2) := by decide +kernel
theorem dX6_isBetter_12 : decode cX6_isBetter 12 = .ok (.iconst 0, 1) := by decide +kernel
theorem dX6_isBetter_13 : decode cX6_isBetter 13 = .ok (.istore 5, 2) := by decide +kernel
theorem dX6_isBetter_15 : decode cX6_isBetter 15 = .ok (.iload 5, 2) := by decide +kernel
theorem dX6_isBetter_17 : decode cX6_isBetter 17 = .ok (.iconst 5, 1) := by decide +kernel
theorem dX6_isBetter_18 : decode cX6_isBetter 18 = .ok (.if_icmp .ge 68, 3) := by decide +kernel
theorem dX6_isBetter_21 : decode cX6_isBetter 21 = .ok (.iload_n 1, 1) := by decide +kernel
theorem dX6_isBetter_22 : decode cX6_isBetter 22 = .ok (.iconst 5, 1) := by decide +kernel
theorem dX6_isBetter_23 : decode cX6_isBetter 23 = .ok (.imul, 1) := by decide +kernel
theorem dX6_isBetter_24 : decode cX6_isBetter 24 = .ok (.iload 5, 2) := by decide +kernel
theorem dX6_isBetter_26 : decode cX6_isBetter 26 = .ok (.iadd, 1) := by decide +kernel
theorem dX6_isBetter_27 : decode cX6_isBetter 27 = .ok (.istore 6, 2) := by decide +kernel
theorem dX6_isBetter_29 : decode cX6_isBetter 29 = .ok (.aload_n 0, 1) := by decide +kernel
theorem dX6_isBetter_30 : decode cX6_isBetter 30 = .ok (.getfield 28, 3) := by decide +kernel
theorem dX6_isBetter_33 : decode cX6_isBetter 33 = .ok (.iload 6, 2) := by decide +kernel
theorem dX6_isBetter_35 : decode cX6_isBetter 35 = .ok (.iaload, 1) := by decide +kernel
theorem dX6_isBetter_36 : decode cX6_isBetter 36 = .ok (.aload_n 0, 1) := by decide +kernel
theorem dX6_isBetter_37 : decode cX6_isBetter 37 = .ok (.getfield 25, 3) := by decide +kernel
theorem dX6_isBetter_40 : decode cX6_isBetter 40 = .ok (.iload 6, 2) := by decide +kernel
theorem dX6_isBetter_42 : decode cX6_isBetter 42 = .ok (.iaload, 1) := by decide +kernel
theorem dX6_isBetter_43 : decode cX6_isBetter 43 = .ok (.isub, 1) := by decide +kernel
theorem dX6_isBetter_44 : decode cX6_isBetter 44 = .ok (.aload_n 0, 1) := by decide +kernel
theorem dX6_isBetter_45 : decode cX6_isBetter 45 = .ok (.iload_n 1, 1) := by decide +kernel
theorem dX6_isBetter_46 : decode cX6_isBetter 46 = .ok (.iload_n 2, 1) := by decide +kernel
theorem dX6_isBetter_47 : decode cX6_isBetter 47 = .ok (.iload 5, 2) := by decide +kernel
theorem dX6_isBetter_49 : decode cX6_isBetter 49 = .ok (.invokevirtual 70, 3) := by decide +kernel
theorem dX6_isBetter_52 : decode cX6_isBetter 52 = .ok (.iadd, 1) := by decide +kernel
theorem dX6_isBetter_53 : decode cX6_isBetter 53 = .ok (.istore 7, 2) := by decide +kernel
theorem dX6_isBetter_55 : decode cX6_isBetter 55 = .ok (.aload_n 0, 1) := by decide +kernel
theorem dX6_isBetter_56 : decode cX6_isBetter 56 = .ok (.getfield 28, 3) := by decide +kernel
theorem dX6_isBetter_59 : decode cX6_isBetter 59 = .ok (.iload 6, 2) := by decide +kernel
theorem dX6_isBetter_61 : decode cX6_isBetter 61 = .ok (.iconst 5, 1) := by decide +kernel
theorem dX6_isBetter_62 : decode cX6_isBetter 62 = .ok (.iadd, 1) := by decide +kernel
theorem dX6_isBetter_63 : decode cX6_isBetter 63 = .ok (.iload 7, 2) := by decide +kernel
theorem dX6_isBetter_65 : decode cX6_isBetter 65 = .ok (.iastore, 1) := by decide +kernel
theorem dX6_isBetter_66 : decode cX6_isBetter 66 = .ok (.iload_n 3, 1) := by decide +kernel
theorem dX6_isBetter_67 : decode cX6_isBetter 67 = .ok (.iload 7, 2) := by decide +kernel
theorem dX6_isBetter_69 : decode cX6_isBetter 69 = .ok (.invokestatic 74, 3) := by decide +kernel
theorem dX6_isBetter_72 : decode cX6_isBetter 72 = .ok (.istore_n 3, 1) := by decide +kernel
theorem dX6_isBetter_73 : decode cX6_isBetter 73 = .ok (.iload 4, 2) := by decide +kernel
theorem dX6_isBetter_75 : decode cX6_isBetter 75 = .ok (.iload 7, 2) := by decide +kernel
theorem dX6_isBetter_77 : decode cX6_isBetter 77 = .ok (.iadd, 1) := by decide +kernel
theorem dX6_isBetter_78 : decode cX6_isBetter 78 = .ok (.istore 4, 2) := by decide +kernel
theorem dX6_isBetter_80 : decode cX6_isBetter 80 = .ok (.iinc 5 1, 3) := by decide +kernel
theorem dX6_isBetter_83 : decode cX6_isBetter 83 = .ok (.goto (-68), 3) := by decide +kernel
theorem dX6_isBetter_86 : decode cX6_isBetter 86 = .ok (.iload_n 3, 1) := by decide +kernel
theorem dX6_isBetter_87 : decode cX6_isBetter 87 = .ok (.aload_n 0, 1) := by decide +kernel
theorem dX6_isBetter_88 : decode cX6_isBetter 88 = .ok (.getfield 84, 3) := by decide +kernel
theorem dX6_isBetter_91 : decode cX6_isBetter 91 = .ok (.if_icmp .lt 20, 3) := by decide +kernel
theorem dX6_isBetter_94 : decode cX6_isBetter 94 = .ok (.iload_n 3, 1) := by decide +kernel
theorem dX6_isBetter_95 : decode cX6_isBetter 95 = .ok (.aload_n 0, 1) := by decide +kernel
theorem dX6_isBetter_96 : decode cX6_isBetter 96 = .ok (.getfield 84, 3) := by decide +kernel
theorem dX6_isBetter_99 : decode cX6_isBetter 99 = .ok (.if_icmp .ne 16, 3) := by decide +kernel
theorem dX6_isBetter_102 : decode cX6_isBetter 102 = .ok (.iload 4, 2) := by decide +kernel
theorem dX6_isBetter_104 : decode cX6_isBetter 104 = .ok (.aload_n 0, 1) := by decide +kernel
theorem dX6_isBetter_105 : decode cX6_isBetter 105 = .ok (.getfield 87, 3) := by decide +kernel
theorem dX6_isBetter_108 : decode cX6_isBetter 108 = .ok (.if_icmp .ge 7, 3) := by decide +kernel
theorem dX6_isBetter_111 : decode cX6_isBetter 111 = .ok (.iconst 1, 1) := by decide +kernel
theorem dX6_isBetter_112 : decode cX6_isBetter 112 = .ok (.goto 4, 3) := by decide +kernel
theorem dX6_isBetter_115 : decode cX6_isBetter 115 = .ok (.iconst 0, 1) := by decide +kernel
theorem dX6_isBetter_116 : decode cX6_isBetter 116 = .ok (.ireturn, 1) := by decide +kernel
theorem dX6_keepWay_0 : decode cX6_keepWay 0 = .ok (.aload_n 0, 1) := by decide +kernel
theorem dX6_keepWay_1 : decode cX6_keepWay 1 = .ok (.iconst 0, 1) := by decide +kernel
theorem dX6_keepWay_2 : decode cX6_keepWay 2 = .ok (.putfield 84, 3) := by decide +kernel
theorem dX6_keepWay_5 : decode cX6_keepWay 5 = .ok (.aload_n 0, 1) := by decide +kernel
theorem dX6_keepWay_6 : decode cX6_keepWay 6 = .ok (.iconst 0, 1) := by decide +kernel
theorem dX6_keepWay_7 : decode cX6_keepWay 7 = .ok (.putfield 87, 3) := by decide +kernel
theorem dX6_keepWay_10 : decode cX6_keepWay 10 = .ok (.iconst 0, 1) := by decide +kernel
theorem dX6_keepWay_11 : decode cX6_keepWay 11 = .ok (.istore_n 1, 1) := by decide +kernel
theorem dX6_keepWay_12 : decode cX6_keepWay 12 = .ok (.iload_n 1, 1) := by decide +kernel
theorem dX6_keepWay_13 : decode cX6_keepWay 13 = .ok (.iconst 5, 1) := by decide +kernel
theorem dX6_keepWay_14 : decode cX6_keepWay 14 = .ok (.if_icmp .ge 45, 3) := by decide +kernel
theorem dX6_keepWay_17 : decode cX6_keepWay 17 = .ok (.aload_n 0, 1) := by decide +kernel
theorem dX6_keepWay_18 : decode cX6_keepWay 18 = .ok (.getfield 28, 3) := by decide +kernel
theorem dX6_keepWay_21 : decode cX6_keepWay 21 = .ok (.aload_n 0, 1) := by decide +kernel
theorem dX6_keepWay_22 : decode cX6_keepWay 22 = .ok (.getfield 43, 3) := by decide +kernel
theorem dX6_keepWay_25 : decode cX6_keepWay 25 = .ok (.iconst 5, 1) := by decide +kernel
theorem dX6_keepWay_26 : decode cX6_keepWay 26 = .ok (.imul, 1) := by decide +kernel
theorem dX6_keepWay_27 : decode cX6_keepWay 27 = .ok (.iload_n 1, 1) := by decide +kernel
theorem dX6_keepWay_28 : decode cX6_keepWay 28 = .ok (.iadd, 1) := by decide +kernel
theorem dX6_keepWay_29 : decode cX6_keepWay 29 = .ok (.iaload, 1) := by decide +kernel
theorem dX6_keepWay_30 : decode cX6_keepWay 30 = .ok (.istore_n 2, 1) := by decide +kernel
theorem dX6_keepWay_31 : decode cX6_keepWay 31 = .ok (.aload_n 0, 1) := by decide +kernel
theorem dX6_keepWay_32 : decode cX6_keepWay 32 = .ok (.aload_n 0, 1) := by decide +kernel
theorem dX6_keepWay_33 : decode cX6_keepWay 33 = .ok (.getfield 84, 3) := by decide +kernel
theorem dX6_keepWay_36 : decode cX6_keepWay 36 = .ok (.iload_n 2, 1) := by decide +kernel
theorem dX6_keepWay_37 : decode cX6_keepWay 37 = .ok (.invokestatic 74, 3) := by decide +kernel
theorem dX6_keepWay_40 : decode cX6_keepWay 40 = .ok (.putfield 84, 3) := by decide +kernel
theorem dX6_keepWay_43 : decode cX6_keepWay 43 = .ok (.aload_n 0, 1) := by decide +kernel
theorem dX6_keepWay_44 : decode cX6_keepWay 44 = .ok (.dup, 1) := by decide +kernel
theorem dX6_keepWay_45 : decode cX6_keepWay 45 = .ok (.getfield 87, 3) := by decide +kernel
theorem dX6_keepWay_48 : decode cX6_keepWay 48 = .ok (.iload_n 2, 1) := by decide +kernel
theorem dX6_keepWay_49 : decode cX6_keepWay 49 = .ok (.iadd, 1) := by decide +kernel
theorem dX6_keepWay_50 : decode cX6_keepWay 50 = .ok (.putfield 87, 3) := by decide +kernel
theorem dX6_keepWay_53 : decode cX6_keepWay 53 = .ok (.iinc 1 1, 3) := by decide +kernel
theorem dX6_keepWay_56 : decode cX6_keepWay 56 = .ok (.goto (-44), 3) := by decide +kernel
theorem dX6_keepWay_59 : decode cX6_keepWay 59 = .ok (.iconst 0, 1) := by decide +kernel
theorem dX6_keepWay_60 : decode cX6_keepWay 60 = .ok (.istore_n 1, 1) := by decide +kernel
theorem dX6_keepWay_61 : decode cX6_keepWay 61 = .ok (.iload_n 1, 1) := by decide +kernel
theorem dX6_keepWay_62 : decode cX6_keepWay 62 = .ok (.aload_n 0, 1) := by decide +kernel
theorem dX6_keepWay_63 : decode cX6_keepWay 63 = .ok (.getfield 43, 3) := by decide +kernel
theorem dX6_keepWay_66 : decode cX6_keepWay 66 = .ok (.if_icmp .ge 21, 3) := by decide +kernel
theorem dX6_keepWay_69 : decode cX6_keepWay 69 = .ok (.aload_n 0, 1) := by decide +kernel
theorem dX6_keepWay_70 : decode cX6_keepWay 70 = .ok (.getfield 31, 3) := by decide +kernel
theorem dX6_keepWay_73 : decode cX6_keepWay 73 = .ok (.iload_n 1, 1) := by decide +kernel
theorem dX6_keepWay_74 : decode cX6_keepWay 74 = .ok (.aload_n 0, 1) := by decide +kernel
theorem dX6_keepWay_75 : decode cX6_keepWay 75 = .ok (.getfield 15, 3) := by decide +kernel
theorem dX6_keepWay_78 : decode cX6_keepWay 78 = .ok (.iload_n 1, 1) := by decide +kernel
theorem dX6_keepWay_79 : decode cX6_keepWay 79 = .ok (.iaload, 1) := by decide +kernel
theorem dX6_keepWay_80 : decode cX6_keepWay 80 = .ok (.iastore, 1) := by decide +kernel
theorem dX6_keepWay_81 : decode cX6_keepWay 81 = .ok (.iinc 1 1, 3) := by decide +kernel
theorem dX6_keepWay_84 : decode cX6_keepWay 84 = .ok (.goto (-23), 3) := by decide +kernel
theorem dX6_keepWay_87 : decode cX6_keepWay 87 = .ok (.return_, 1) := by decide +kernel
theorem dX6_bestSwap_0 : decode cX6_bestSwap 0 = .ok (.aload_n 0, 1) := by decide +kernel
theorem dX6_bestSwap_1 : decode cX6_bestSwap 1 = .ok (.invokevirtual 80, 3) := by decide +kernel
theorem dX6_bestSwap_4 : decode cX6_bestSwap 4 = .ok (.istore_n 1, 1) := by decide +kernel
theorem dX6_bestSwap_5 : decode cX6_bestSwap 5 = .ok (.bipush (-5), 2) := by decide +kernel
theorem dX6_bestSwap_7 : decode cX6_bestSwap 7 = .ok (.istore_n 2, 1) := by decide +kernel
theorem dX6_bestSwap_8 : decode cX6_bestSwap 8 = .ok (.iconst 0, 1) := by decide +kernel
theorem dX6_bestSwap_9 : decode cX6_bestSwap 9 = .ok (.istore_n 3, 1) := by decide +kernel
theorem dX6_bestSwap_10 : decode cX6_bestSwap 10 = .ok (.iload_n 3, 1) := by decide +kernel
theorem dX6_bestSwap_11 : decode cX6_bestSwap 11 = .ok (.aload_n 0, 1) := by decide +kernel
theorem dX6_bestSwap_12 : decode cX6_bestSwap 12 = .ok (.getfield 43, 3) := by decide +kernel
theorem dX6_bestSwap_15 : decode cX6_bestSwap 15 = .ok (.if_icmp .ge 85, 3) := by decide +kernel
theorem dX6_bestSwap_18 : decode cX6_bestSwap 18 = .ok (.iload_n 3, 1) := by decide +kernel
theorem dX6_bestSwap_19 : decode cX6_bestSwap 19 = .ok (.iconst 1, 1) := by decide +kernel
theorem dX6_bestSwap_20 : decode cX6_bestSwap 20 = .ok (.iadd, 1) := by decide +kernel
theorem dX6_bestSwap_21 : decode cX6_bestSwap 21 = .ok (.istore 4, 2) := by decide +kernel
theorem dX6_bestSwap_23 : decode cX6_bestSwap 23 = .ok (.iload 4, 2) := by decide +kernel
theorem dX6_bestSwap_25 : decode cX6_bestSwap 25 = .ok (.aload_n 0, 1) := by decide +kernel
theorem dX6_bestSwap_26 : decode cX6_bestSwap 26 = .ok (.getfield 43, 3) := by decide +kernel
theorem dX6_bestSwap_29 : decode cX6_bestSwap 29 = .ok (.if_icmp .ge 65, 3) := by decide +kernel
theorem dX6_bestSwap_32 : decode cX6_bestSwap 32 = .ok (.aload_n 0, 1) := by decide +kernel
theorem dX6_bestSwap_33 : decode cX6_bestSwap 33 = .ok (.getfield 21, 3) := by decide +kernel
theorem dX6_bestSwap_36 : decode cX6_bestSwap 36 = .ok (.iload_n 3, 1) := by decide +kernel
theorem dX6_bestSwap_37 : decode cX6_bestSwap 37 = .ok (.baload, 1) := by decide +kernel
theorem dX6_bestSwap_38 : decode cX6_bestSwap 38 = .ok (.ifCond .ne 50, 3) := by decide +kernel
theorem dX6_bestSwap_41 : decode cX6_bestSwap 41 = .ok (.aload_n 0, 1) := by decide +kernel
theorem dX6_bestSwap_42 : decode cX6_bestSwap 42 = .ok (.getfield 21, 3) := by decide +kernel
theorem dX6_bestSwap_45 : decode cX6_bestSwap 45 = .ok (.iload 4, 2) := by decide +kernel
theorem dX6_bestSwap_47 : decode cX6_bestSwap 47 = .ok (.baload, 1) := by decide +kernel
theorem dX6_bestSwap_48 : decode cX6_bestSwap 48 = .ok (.ifCond .ne 40, 3) := by decide +kernel
theorem dX6_bestSwap_51 : decode cX6_bestSwap 51 = .ok (.aload_n 0, 1) := by decide +kernel
theorem dX6_bestSwap_52 : decode cX6_bestSwap 52 = .ok (.iload_n 3, 1) := by decide +kernel
theorem dX6_bestSwap_53 : decode cX6_bestSwap 53 = .ok (.iload 4, 2) := by decide +kernel
theorem dX6_bestSwap_55 : decode cX6_bestSwap 55 = .ok (.invokevirtual 107, 3) := by decide +kernel
theorem dX6_bestSwap_58 : decode cX6_bestSwap 58 = .ok (.aload_n 0, 1) := by decide +kernel
theorem dX6_bestSwap_59 : decode cX6_bestSwap 59 = .ok (.invokevirtual 80, 3) := by decide +kernel
theorem dX6_bestSwap_62 : decode cX6_bestSwap 62 = .ok (.istore 5, 2) := by decide +kernel
theorem dX6_bestSwap_64 : decode cX6_bestSwap 64 = .ok (.aload_n 0, 1) := by decide +kernel
theorem dX6_bestSwap_65 : decode cX6_bestSwap 65 = .ok (.iload_n 3, 1) := by decide +kernel
theorem dX6_bestSwap_66 : decode cX6_bestSwap 66 = .ok (.iload 4, 2) := by decide +kernel
theorem dX6_bestSwap_68 : decode cX6_bestSwap 68 = .ok (.invokevirtual 107, 3) := by decide +kernel
theorem dX6_bestSwap_71 : decode cX6_bestSwap 71 = .ok (.iload 5, 2) := by decide +kernel
theorem dX6_bestSwap_73 : decode cX6_bestSwap 73 = .ok (.iload_n 1, 1) := by decide +kernel
theorem dX6_bestSwap_74 : decode cX6_bestSwap 74 = .ok (.if_icmp .ge 14, 3) := by decide +kernel
theorem dX6_bestSwap_77 : decode cX6_bestSwap 77 = .ok (.iload 5, 2) := by decide +kernel
theorem dX6_bestSwap_79 : decode cX6_bestSwap 79 = .ok (.istore_n 1, 1) := by decide +kernel
theorem dX6_bestSwap_80 : decode cX6_bestSwap 80 = .ok (.bipush 10, 2) := by decide +kernel
theorem dX6_bestSwap_82 : decode cX6_bestSwap 82 = .ok (.iload_n 3, 1) := by decide +kernel
theorem dX6_bestSwap_83 : decode cX6_bestSwap 83 = .ok (.imul, 1) := by decide +kernel
theorem dX6_bestSwap_84 : decode cX6_bestSwap 84 = .ok (.iload 4, 2) := by decide +kernel
theorem dX6_bestSwap_86 : decode cX6_bestSwap 86 = .ok (.iadd, 1) := by decide +kernel
theorem dX6_bestSwap_87 : decode cX6_bestSwap 87 = .ok (.istore_n 2, 1) := by decide +kernel
theorem dX6_bestSwap_88 : decode cX6_bestSwap 88 = .ok (.iinc 4 1, 3) := by decide +kernel
theorem dX6_bestSwap_91 : decode cX6_bestSwap 91 = .ok (.goto (-68), 3) := by decide +kernel
theorem dX6_bestSwap_94 : decode cX6_bestSwap 94 = .ok (.iinc 3 1, 3) := by decide +kernel
theorem dX6_bestSwap_97 : decode cX6_bestSwap 97 = .ok (.goto (-87), 3) := by decide +kernel
theorem dX6_bestSwap_100 : decode cX6_bestSwap 100 = .ok (.iload_n 2, 1) := by decide +kernel
theorem dX6_bestSwap_101 : decode cX6_bestSwap 101 = .ok (.ireturn, 1) := by decide +kernel
theorem dX6_swap_0 : decode cX6_swap 0 = .ok (.aload_n 0, 1) := by decide +kernel
theorem dX6_swap_1 : decode cX6_swap 1 = .ok (.getfield 15, 3) := by decide +kernel
theorem dX6_swap_4 : decode cX6_swap 4 = .ok (.iload_n 1, 1) := by decide +kernel
theorem dX6_swap_5 : decode cX6_swap 5 = .ok (.iaload, 1) := by decide +kernel
theorem dX6_swap_6 : decode cX6_swap 6 = .ok (.istore_n 3, 1) := by decide +kernel
theorem dX6_swap_7 : decode cX6_swap 7 = .ok (.aload_n 0, 1) := by decide +kernel
theorem dX6_swap_8 : decode cX6_swap 8 = .ok (.iload_n 1, 1) := by decide +kernel
theorem dX6_swap_9 : decode cX6_swap 9 = .ok (.aload_n 0, 1) := by decide +kernel
theorem dX6_swap_10 : decode cX6_swap 10 = .ok (.getfield 15, 3) := by decide +kernel
theorem dX6_swap_13 : decode cX6_swap 13 = .ok (.iload_n 2, 1) := by decide +kernel
theorem dX6_swap_14 : decode cX6_swap 14 = .ok (.iaload, 1) := by decide +kernel
theorem dX6_swap_15 : decode cX6_swap 15 = .ok (.invokevirtual 66, 3) := by decide +kernel
theorem dX6_swap_18 : decode cX6_swap 18 = .ok (.aload_n 0, 1) := by decide +kernel
theorem dX6_swap_19 : decode cX6_swap 19 = .ok (.iload_n 2, 1) := by decide +kernel
theorem dX6_swap_20 : decode cX6_swap 20 = .ok (.iload_n 3, 1) := by decide +kernel
theorem dX6_swap_21 : decode cX6_swap 21 = .ok (.invokevirtual 66, 3) := by decide +kernel
theorem dX6_swap_24 : decode cX6_swap 24 = .ok (.return_, 1) := by decide +kernel
theorem dX6_worstSound_0 : decode cX6_worstSound 0 = .ok (.ldc 79, 2) := by decide +kernel
theorem dX6_worstSound_2 : decode cX6_worstSound 2 = .ok (.istore_n 1, 1) := by decide +kernel
theorem dX6_worstSound_3 : decode cX6_worstSound 3 = .ok (.bipush (-5), 2) := by decide +kernel
theorem dX6_worstSound_5 : decode cX6_worstSound 5 = .ok (.istore_n 2, 1) := by decide +kernel
theorem dX6_worstSound_6 : decode cX6_worstSound 6 = .ok (.iconst 0, 1) := by decide +kernel
theorem dX6_worstSound_7 : decode cX6_worstSound 7 = .ok (.istore_n 3, 1) := by decide +kernel
theorem dX6_worstSound_8 : decode cX6_worstSound 8 = .ok (.iload_n 3, 1) := by decide +kernel
theorem dX6_worstSound_9 : decode cX6_worstSound 9 = .ok (.aload_n 0, 1) := by decide +kernel
theorem dX6_worstSound_10 : decode cX6_worstSound 10 = .ok (.getfield 43, 3) := by decide +kernel
theorem dX6_worstSound_13 : decode cX6_worstSound 13 = .ok (.if_icmp .ge 47, 3) := by decide +kernel
theorem dX6_worstSound_16 : decode cX6_worstSound 16 = .ok (.aload_n 0, 1) := by decide +kernel
theorem dX6_worstSound_17 : decode cX6_worstSound 17 = .ok (.getfield 15, 3) := by decide +kernel
theorem dX6_worstSound_20 : decode cX6_worstSound 20 = .ok (.iload_n 3, 1) := by decide +kernel
theorem dX6_worstSound_21 : decode cX6_worstSound 21 = .ok (.iaload, 1) := by decide +kernel
theorem dX6_worstSound_22 : decode cX6_worstSound 22 = .ok (.istore 4, 2) := by decide +kernel
theorem dX6_worstSound_24 : decode cX6_worstSound 24 = .ok (.aload_n 0, 1) := by decide +kernel
theorem dX6_worstSound_25 : decode cX6_worstSound 25 = .ok (.iload_n 3, 1) := by decide +kernel
theorem dX6_worstSound_26 : decode cX6_worstSound 26 = .ok (.iconst (-1), 1) := by decide +kernel
theorem dX6_worstSound_27 : decode cX6_worstSound 27 = .ok (.invokevirtual 66, 3) := by decide +kernel
theorem dX6_worstSound_30 : decode cX6_worstSound 30 = .ok (.aload_n 0, 1) := by decide +kernel
theorem dX6_worstSound_31 : decode cX6_worstSound 31 = .ok (.invokevirtual 80, 3) := by decide +kernel
theorem dX6_worstSound_34 : decode cX6_worstSound 34 = .ok (.istore 5, 2) := by decide +kernel
theorem dX6_worstSound_36 : decode cX6_worstSound 36 = .ok (.aload_n 0, 1) := by decide +kernel
theorem dX6_worstSound_37 : decode cX6_worstSound 37 = .ok (.iload_n 3, 1) := by decide +kernel
theorem dX6_worstSound_38 : decode cX6_worstSound 38 = .ok (.iload 4, 2) := by decide +kernel
theorem dX6_worstSound_40 : decode cX6_worstSound 40 = .ok (.invokevirtual 66, 3) := by decide +kernel
theorem dX6_worstSound_43 : decode cX6_worstSound 43 = .ok (.iload 5, 2) := by decide +kernel
theorem dX6_worstSound_45 : decode cX6_worstSound 45 = .ok (.iload_n 1, 1) := by decide +kernel
theorem dX6_worstSound_46 : decode cX6_worstSound 46 = .ok (.if_icmp .ge 8, 3) := by decide +kernel
theorem dX6_worstSound_49 : decode cX6_worstSound 49 = .ok (.iload 5, 2) := by decide +kernel
theorem dX6_worstSound_51 : decode cX6_worstSound 51 = .ok (.istore_n 1, 1) := by decide +kernel
theorem dX6_worstSound_52 : decode cX6_worstSound 52 = .ok (.iload_n 3, 1) := by decide +kernel
theorem dX6_worstSound_53 : decode cX6_worstSound 53 = .ok (.istore_n 2, 1) := by decide +kernel
theorem dX6_worstSound_54 : decode cX6_worstSound 54 = .ok (.iinc 3 1, 3) := by decide +kernel
theorem dX6_worstSound_57 : decode cX6_worstSound 57 = .ok (.goto (-49), 3) := by decide +kernel
theorem dX6_worstSound_60 : decode cX6_worstSound 60 = .ok (.iload_n 2, 1) := by decide +kernel
theorem dX6_worstSound_61 : decode cX6_worstSound 61 = .ok (.ireturn, 1) := by decide +kernel
theorem dX6_stillWithoutOne_0 : decode cX6_stillWithoutOne 0 = .ok (.iconst 0, 1) := by decide +kernel
theorem dX6_stillWithoutOne_1 : decode cX6_stillWithoutOne 1 = .ok (.istore_n 2, 1) := by decide +kernel
theorem dX6_stillWithoutOne_2 : decode cX6_stillWithoutOne 2 = .ok (.iconst 0, 1) := by decide +kernel
theorem dX6_stillWithoutOne_3 : decode cX6_stillWithoutOne 3 = .ok (.istore_n 3, 1) := by decide +kernel
theorem dX6_stillWithoutOne_4 : decode cX6_stillWithoutOne 4 = .ok (.iload_n 3, 1) := by decide +kernel
theorem dX6_stillWithoutOne_5 : decode cX6_stillWithoutOne 5 = .ok (.aload_n 0, 1) := by decide +kernel
theorem dX6_stillWithoutOne_6 : decode cX6_stillWithoutOne 6 = .ok (.getfield 43, 3) := by decide +kernel
theorem dX6_stillWithoutOne_9 : decode cX6_stillWithoutOne 9 = .ok (.if_icmp .ge 46, 3) := by decide +kernel
theorem dX6_stillWithoutOne_12 : decode cX6_stillWithoutOne 12 = .ok (.aload_n 0, 1) := by decide +kernel
theorem dX6_stillWithoutOne_13 : decode cX6_stillWithoutOne 13 = .ok (.getfield 15, 3) := by decide +kernel
theorem dX6_stillWithoutOne_16 : decode cX6_stillWithoutOne 16 = .ok (.iload_n 3, 1) := by decide +kernel
theorem dX6_stillWithoutOne_17 : decode cX6_stillWithoutOne 17 = .ok (.iaload, 1) := by decide +kernel
theorem dX6_stillWithoutOne_18 : decode cX6_stillWithoutOne 18 = .ok (.istore 4, 2) := by decide +kernel
theorem dX6_stillWithoutOne_20 : decode cX6_stillWithoutOne 20 = .ok (.aload_n 0, 1) := by decide +kernel
theorem dX6_stillWithoutOne_21 : decode cX6_stillWithoutOne 21 = .ok (.iload_n 3, 1) := by decide +kernel
theorem dX6_stillWithoutOne_22 : decode cX6_stillWithoutOne 22 = .ok (.iconst (-1), 1) := by decide +kernel
theorem dX6_stillWithoutOne_23 : decode cX6_stillWithoutOne 23 = .ok (.invokevirtual 66, 3) := by decide +kernel
theorem dX6_stillWithoutOne_26 : decode cX6_stillWithoutOne 26 = .ok (.aload_n 0, 1) := by decide +kernel
theorem dX6_stillWithoutOne_27 : decode cX6_stillWithoutOne 27 = .ok (.getfield 18, 3) := by decide +kernel
theorem dX6_stillWithoutOne_30 : decode cX6_stillWithoutOne 30 = .ok (.iload_n 1, 1) := by decide +kernel
theorem dX6_stillWithoutOne_31 : decode cX6_stillWithoutOne 31 = .ok (.iaload, 1) := by decide +kernel
theorem dX6_stillWithoutOne_32 : decode cX6_stillWithoutOne 32 = .ok (.aload_n 0, 1) := by decide +kernel
theorem dX6_stillWithoutOne_33 : decode cX6_stillWithoutOne 33 = .ok (.getfield 53, 3) := by decide +kernel
theorem dX6_stillWithoutOne_36 : decode cX6_stillWithoutOne 36 = .ok (.if_icmp .gt 6, 3) := by decide +kernel
theorem dX6_stillWithoutOne_39 : decode cX6_stillWithoutOne 39 = .ok (.iinc 2 1, 3) := by decide +kernel
theorem dX6_stillWithoutOne_42 : decode cX6_stillWithoutOne 42 = .ok (.aload_n 0, 1) := by decide +kernel
theorem dX6_stillWithoutOne_43 : decode cX6_stillWithoutOne 43 = .ok (.iload_n 3, 1) := by decide +kernel
theorem dX6_stillWithoutOne_44 : decode cX6_stillWithoutOne 44 = .ok (.iload 4, 2) := by decide +kernel
theorem dX6_stillWithoutOne_46 : decode cX6_stillWithoutOne 46 = .ok (.invokevirtual 66, 3) := by decide +kernel
theorem dX6_stillWithoutOne_49 : decode cX6_stillWithoutOne 49 = .ok (.iinc 3 1, 3) := by decide +kernel
theorem dX6_stillWithoutOne_52 : decode cX6_stillWithoutOne 52 = .ok (.goto (-48), 3) := by decide +kernel
theorem dX6_stillWithoutOne_55 : decode cX6_stillWithoutOne 55 = .ok (.iload_n 2, 1) := by decide +kernel
theorem dX6_stillWithoutOne_56 : decode cX6_stillWithoutOne 56 = .ok (.ireturn, 1) := by decide +kernel
theorem dX6_fewestSteps_0 : decode cX6_fewestSteps 0 = .ok (.iconst 0, 1) := by decide +kernel
theorem dX6_fewestSteps_1 : decode cX6_fewestSteps 1 = .ok (.istore_n 1, 1) := by decide +kernel
theorem dX6_fewestSteps_2 : decode cX6_fewestSteps 2 = .ok (.iload_n 1, 1) := by decide +kernel
theorem dX6_fewestSteps_3 : decode cX6_fewestSteps 3 = .ok (.iconst 3, 1) := by decide +kernel
theorem dX6_fewestSteps_4 : decode cX6_fewestSteps 4 = .ok (.if_icmp .gt 20, 3) := by decide +kernel
theorem dX6_fewestSteps_7 : decode cX6_fewestSteps 7 = .ok (.aload_n 0, 1) := by decide +kernel
theorem dX6_fewestSteps_8 : decode cX6_fewestSteps 8 = .ok (.iconst 0, 1) := by decide +kernel
theorem dX6_fewestSteps_9 : decode cX6_fewestSteps 9 = .ok (.iload_n 1, 1) := by decide +kernel
theorem dX6_fewestSteps_10 : decode cX6_fewestSteps 10 = .ok (.invokevirtual 110, 3) := by decide +kernel
theorem dX6_fewestSteps_13 : decode cX6_fewestSteps 13 = .ok (.ifCond .eq 5, 3) := by decide +kernel
theorem dX6_fewestSteps_16 : decode cX6_fewestSteps 16 = .ok (.iload_n 1, 1) := by decide +kernel
theorem dX6_fewestSteps_17 : decode cX6_fewestSteps 17 = .ok (.ireturn, 1) := by decide +kernel
theorem dX6_fewestSteps_18 : decode cX6_fewestSteps 18 = .ok (.iinc 1 1, 3) := by decide +kernel
theorem dX6_fewestSteps_21 : decode cX6_fewestSteps 21 = .ok (.goto (-19), 3) := by decide +kernel
theorem dX6_fewestSteps_24 : decode cX6_fewestSteps 24 = .ok (.bipush (-5), 2) := by decide +kernel
theorem dX6_fewestSteps_26 : decode cX6_fewestSteps 26 = .ok (.ireturn, 1) := by decide +kernel
theorem dX6_isStillBy_0 : decode cX6_isStillBy 0 = .ok (.iload_n 1, 1) := by decide +kernel
theorem dX6_isStillBy_1 : decode cX6_isStillBy 1 = .ok (.iload_n 2, 1) := by decide +kernel
theorem dX6_isStillBy_2 : decode cX6_isStillBy 2 = .ok (.if_icmp .lt 20, 3) := by decide +kernel
theorem dX6_isStillBy_5 : decode cX6_isStillBy 5 = .ok (.aload_n 0, 1) := by decide +kernel
theorem dX6_isStillBy_6 : decode cX6_isStillBy 6 = .ok (.invokevirtual 80, 3) := by decide +kernel
theorem dX6_isStillBy_9 : decode cX6_isStillBy 9 = .ok (.aload_n 0, 1) := by decide +kernel
theorem dX6_isStillBy_10 : decode cX6_isStillBy 10 = .ok (.getfield 53, 3) := by decide +kernel
theorem dX6_isStillBy_13 : decode cX6_isStillBy 13 = .ok (.if_icmp .gt 7, 3) := by decide +kernel
theorem dX6_isStillBy_16 : decode cX6_isStillBy 16 = .ok (.iconst 1, 1) := by decide +kernel
theorem dX6_isStillBy_17 : decode cX6_isStillBy 17 = .ok (.goto 4, 3) := by decide +kernel
theorem dX6_isStillBy_20 : decode cX6_isStillBy 20 = .ok (.iconst 0, 1) := by decide +kernel
theorem dX6_isStillBy_21 : decode cX6_isStillBy 21 = .ok (.ireturn, 1) := by decide +kernel
theorem dX6_isStillBy_22 : decode cX6_isStillBy 22 = .ok (.iconst 0, 1) := by decide +kernel
theorem dX6_isStillBy_23 : decode cX6_isStillBy 23 = .ok (.istore_n 3, 1) := by decide +kernel
theorem dX6_isStillBy_24 : decode cX6_isStillBy 24 = .ok (.iload_n 3, 1) := by decide +kernel
theorem dX6_isStillBy_25 : decode cX6_isStillBy 25 = .ok (.aload_n 0, 1) := by decide +kernel
theorem dX6_isStillBy_26 : decode cX6_isStillBy 26 = .ok (.getfield 43, 3) := by decide +kernel
theorem dX6_isStillBy_29 : decode cX6_isStillBy 29 = .ok (.if_icmp .ge 95, 3) := by decide +kernel
theorem dX6_isStillBy_32 : decode cX6_isStillBy 32 = .ok (.aload_n 0, 1) := by decide +kernel
theorem dX6_isStillBy_33 : decode cX6_isStillBy 33 = .ok (.getfield 15, 3) := by decide +kernel
theorem dX6_isStillBy_36 : decode cX6_isStillBy 36 = .ok (.iload_n 3, 1) := by decide +kernel
theorem dX6_isStillBy_37 : decode cX6_isStillBy 37 = .ok (.iaload, 1) := by decide +kernel
theorem dX6_isStillBy_38 : decode cX6_isStillBy 38 = .ok (.istore 4, 2) := by decide +kernel
theorem dX6_isStillBy_40 : decode cX6_isStillBy 40 = .ok (.iload 4, 2) := by decide +kernel
theorem dX6_isStillBy_42 : decode cX6_isStillBy 42 = .ok (.iconst 1, 1) := by decide +kernel
theorem dX6_isStillBy_43 : decode cX6_isStillBy 43 = .ok (.isub, 1) := by decide +kernel
theorem dX6_isStillBy_44 : decode cX6_isStillBy 44 = .ok (.istore 5, 2) := by decide +kernel
theorem dX6_isStillBy_46 : decode cX6_isStillBy 46 = .ok (.iload 5, 2) := by decide +kernel
theorem dX6_isStillBy_48 : decode cX6_isStillBy 48 = .ok (.iload 4, 2) := by decide +kernel
theorem dX6_isStillBy_50 : decode cX6_isStillBy 50 = .ok (.iconst 1, 1) := by decide +kernel
theorem dX6_isStillBy_51 : decode cX6_isStillBy 51 = .ok (.iadd, 1) := by decide +kernel
theorem dX6_isStillBy_52 : decode cX6_isStillBy 52 = .ok (.if_icmp .gt 66, 3) := by decide +kernel
theorem dX6_isStillBy_55 : decode cX6_isStillBy 55 = .ok (.aload_n 0, 1) := by decide +kernel
theorem dX6_isStillBy_56 : decode cX6_isStillBy 56 = .ok (.getfield 21, 3) := by decide +kernel
theorem dX6_isStillBy_59 : decode cX6_isStillBy 59 = .ok (.iload_n 3, 1) := by decide +kernel
theorem dX6_isStillBy_60 : decode cX6_isStillBy 60 = .ok (.baload, 1) := by decide +kernel
theorem dX6_isStillBy_61 : decode cX6_isStillBy 61 = .ok (.ifCond .ne 51, 3) := by decide +kernel
theorem dX6_isStillBy_64 : decode cX6_isStillBy 64 = .ok (.iload 5, 2) := by decide +kernel
theorem dX6_isStillBy_66 : decode cX6_isStillBy 66 = .ok (.invokestatic 113, 3) := by decide +kernel
theorem dX6_isStillBy_69 : decode cX6_isStillBy 69 = .ok (.ifCond .eq 43, 3) := by decide +kernel
theorem dX6_isStillBy_72 : decode cX6_isStillBy 72 = .ok (.aload_n 0, 1) := by decide +kernel
theorem dX6_isStillBy_73 : decode cX6_isStillBy 73 = .ok (.getfield 34, 3) := by decide +kernel
theorem dX6_isStillBy_76 : decode cX6_isStillBy 76 = .ok (.iload_n 1, 1) := by decide +kernel
theorem dX6_isStillBy_77 : decode cX6_isStillBy 77 = .ok (.bipush 10, 2) := by decide +kernel
theorem dX6_isStillBy_79 : decode cX6_isStillBy 79 = .ok (.iload_n 3, 1) := by decide +kernel
theorem dX6_isStillBy_80 : decode cX6_isStillBy 80 = .ok (.imul, 1) := by decide +kernel
theorem dX6_isStillBy_81 : decode cX6_isStillBy 81 = .ok (.iload 5, 2) := by decide +kernel
theorem dX6_isStillBy_83 : decode cX6_isStillBy 83 = .ok (.iadd, 1) := by decide +kernel
theorem dX6_isStillBy_84 : decode cX6_isStillBy 84 = .ok (.iastore, 1) := by decide +kernel
theorem dX6_isStillBy_85 : decode cX6_isStillBy 85 = .ok (.aload_n 0, 1) := by decide +kernel
theorem dX6_isStillBy_86 : decode cX6_isStillBy 86 = .ok (.iload_n 3, 1) := by decide +kernel
theorem dX6_isStillBy_87 : decode cX6_isStillBy 87 = .ok (.iload 5, 2) := by decide +kernel
theorem dX6_isStillBy_89 : decode cX6_isStillBy 89 = .ok (.invokevirtual 66, 3) := by decide +kernel
theorem dX6_isStillBy_92 : decode cX6_isStillBy 92 = .ok (.aload_n 0, 1) := by decide +kernel
theorem dX6_isStillBy_93 : decode cX6_isStillBy 93 = .ok (.iload_n 1, 1) := by decide +kernel
theorem dX6_isStillBy_94 : decode cX6_isStillBy 94 = .ok (.iconst 1, 1) := by decide +kernel
theorem dX6_isStillBy_95 : decode cX6_isStillBy 95 = .ok (.iadd, 1) := by decide +kernel
theorem dX6_isStillBy_96 : decode cX6_isStillBy 96 = .ok (.iload_n 2, 1) := by decide +kernel
theorem dX6_isStillBy_97 : decode cX6_isStillBy 97 = .ok (.invokevirtual 110, 3) := by decide +kernel
theorem dX6_isStillBy_100 : decode cX6_isStillBy 100 = .ok (.ifCond .eq 5, 3) := by decide +kernel
theorem dX6_isStillBy_103 : decode cX6_isStillBy 103 = .ok (.iconst 1, 1) := by decide +kernel
theorem dX6_isStillBy_104 : decode cX6_isStillBy 104 = .ok (.ireturn, 1) := by decide +kernel
theorem dX6_isStillBy_105 : decode cX6_isStillBy 105 = .ok (.aload_n 0, 1) := by decide +kernel
theorem dX6_isStillBy_106 : decode cX6_isStillBy 106 = .ok (.iload_n 3, 1) := by decide +kernel
theorem dX6_isStillBy_107 : decode cX6_isStillBy 107 = .ok (.iload 4, 2) := by decide +kernel
theorem dX6_isStillBy_109 : decode cX6_isStillBy 109 = .ok (.invokevirtual 66, 3) := by decide +kernel
theorem dX6_isStillBy_112 : decode cX6_isStillBy 112 = .ok (.iinc 5 2, 3) := by decide +kernel
theorem dX6_isStillBy_115 : decode cX6_isStillBy 115 = .ok (.goto (-69), 3) := by decide +kernel
theorem dX6_isStillBy_118 : decode cX6_isStillBy 118 = .ok (.iinc 3 1, 3) := by decide +kernel
theorem dX6_isStillBy_121 : decode cX6_isStillBy 121 = .ok (.goto (-97), 3) := by decide +kernel
theorem dX6_isStillBy_124 : decode cX6_isStillBy 124 = .ok (.iconst 0, 1) := by decide +kernel
theorem dX6_isStillBy_125 : decode cX6_isStillBy 125 = .ok (.ireturn, 1) := by decide +kernel
