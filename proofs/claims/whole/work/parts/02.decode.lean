theorem dX0_init_0 : decode cX0_init 0 = .ok (.aload_n 0, 1) := by decide +kernel
theorem dX0_init_1 : decode cX0_init 1 = .ok (.invokespecial 3, 3) := by decide +kernel
theorem dX0_init_4 : decode cX0_init 4 = .ok (.aload_n 0, 1) := by decide +kernel
theorem dX0_init_5 : decode cX0_init 5 = .ok (.bipush 20, 2) := by decide +kernel
theorem dX0_init_7 : decode cX0_init 7 = .ok (.newarray .int, 2) := by decide +kernel
theorem dX0_init_9 : decode cX0_init 9 = .ok (.putfield 9, 3) := by decide +kernel
theorem dX0_init_12 : decode cX0_init 12 = .ok (.aload_n 0, 1) := by decide +kernel
theorem dX0_init_13 : decode cX0_init 13 = .ok (.bipush 20, 2) := by decide +kernel
theorem dX0_init_15 : decode cX0_init 15 = .ok (.newarray .int, 2) := by decide +kernel
theorem dX0_init_17 : decode cX0_init 17 = .ok (.putfield 15, 3) := by decide +kernel
theorem dX0_init_20 : decode cX0_init 20 = .ok (.aload_n 0, 1) := by decide +kernel
theorem dX0_init_21 : decode cX0_init 21 = .ok (.bipush 20, 2) := by decide +kernel
theorem dX0_init_23 : decode cX0_init 23 = .ok (.newarray .int, 2) := by decide +kernel
theorem dX0_init_25 : decode cX0_init 25 = .ok (.putfield 18, 3) := by decide +kernel
theorem dX0_init_28 : decode cX0_init 28 = .ok (.aload_n 0, 1) := by decide +kernel
theorem dX0_init_29 : decode cX0_init 29 = .ok (.bipush 20, 2) := by decide +kernel
theorem dX0_init_31 : decode cX0_init 31 = .ok (.newarray .int, 2) := by decide +kernel
theorem dX0_init_33 : decode cX0_init 33 = .ok (.putfield 21, 3) := by decide +kernel
theorem dX0_init_36 : decode cX0_init 36 = .ok (.aload_n 0, 1) := by decide +kernel
theorem dX0_init_37 : decode cX0_init 37 = .ok (.bipush 20, 2) := by decide +kernel
theorem dX0_init_39 : decode cX0_init 39 = .ok (.newarray .int, 2) := by decide +kernel
theorem dX0_init_41 : decode cX0_init 41 = .ok (.putfield 24, 3) := by decide +kernel
theorem dX0_init_44 : decode cX0_init 44 = .ok (.aload_n 0, 1) := by decide +kernel
theorem dX0_init_45 : decode cX0_init 45 = .ok (.bipush (-9), 2) := by decide +kernel
theorem dX0_init_47 : decode cX0_init 47 = .ok (.putfield 27, 3) := by decide +kernel
theorem dX0_init_50 : decode cX0_init 50 = .ok (.return_, 1) := by decide +kernel
theorem dX0_clear_0 : decode cX0_clear 0 = .ok (.aload_n 0, 1) := by decide +kernel
theorem dX0_clear_1 : decode cX0_clear 1 = .ok (.iconst 0, 1) := by decide +kernel
theorem dX0_clear_2 : decode cX0_clear 2 = .ok (.putfield 31, 3) := by decide +kernel
theorem dX0_clear_5 : decode cX0_clear 5 = .ok (.aload_n 0, 1) := by decide +kernel
theorem dX0_clear_6 : decode cX0_clear 6 = .ok (.iconst 0, 1) := by decide +kernel
theorem dX0_clear_7 : decode cX0_clear 7 = .ok (.putfield 34, 3) := by decide +kernel
theorem dX0_clear_10 : decode cX0_clear 10 = .ok (.aload_n 0, 1) := by decide +kernel
theorem dX0_clear_11 : decode cX0_clear 11 = .ok (.bipush (-9), 2) := by decide +kernel
theorem dX0_clear_13 : decode cX0_clear 13 = .ok (.putfield 27, 3) := by decide +kernel
theorem dX0_clear_16 : decode cX0_clear 16 = .ok (.aload_n 0, 1) := by decide +kernel
theorem dX0_clear_17 : decode cX0_clear 17 = .ok (.iconst 0, 1) := by decide +kernel
theorem dX0_clear_18 : decode cX0_clear 18 = .ok (.putfield 37, 3) := by decide +kernel
theorem dX0_clear_21 : decode cX0_clear 21 = .ok (.return_, 1) := by decide +kernel
theorem dX0_copyFrom_0 : decode cX0_copyFrom 0 = .ok (.aload_n 1, 1) := by decide +kernel
theorem dX0_copyFrom_1 : decode cX0_copyFrom 1 = .ok (.getfield 9, 3) := by decide +kernel
theorem dX0_copyFrom_4 : decode cX0_copyFrom 4 = .ok (.iconst 0, 1) := by decide +kernel
theorem dX0_copyFrom_5 : decode cX0_copyFrom 5 = .ok (.aload_n 0, 1) := by decide +kernel
theorem dX0_copyFrom_6 : decode cX0_copyFrom 6 = .ok (.getfield 9, 3) := by decide +kernel
theorem dX0_copyFrom_9 : decode cX0_copyFrom 9 = .ok (.iconst 0, 1) := by decide +kernel
theorem dX0_copyFrom_10 : decode cX0_copyFrom 10 = .ok (.aload_n 1, 1) := by decide +kernel
theorem dX0_copyFrom_11 : decode cX0_copyFrom 11 = .ok (.getfield 34, 3) := by decide +kernel
theorem dX0_copyFrom_14 : decode cX0_copyFrom 14 = .ok (.invokestatic 40, 3) := by decide +kernel
theorem dX0_copyFrom_17 : decode cX0_copyFrom 17 = .ok (.aload_n 1, 1) := by decide +kernel
theorem dX0_copyFrom_18 : decode cX0_copyFrom 18 = .ok (.getfield 15, 3) := by decide +kernel
theorem dX0_copyFrom_21 : decode cX0_copyFrom 21 = .ok (.iconst 0, 1) := by decide +kernel
theorem dX0_copyFrom_22 : decode cX0_copyFrom 22 = .ok (.aload_n 0, 1) := by decide +kernel
theorem dX0_copyFrom_23 : decode cX0_copyFrom 23 = .ok (.getfield 15, 3) := by decide +kernel
theorem dX0_copyFrom_26 : decode cX0_copyFrom 26 = .ok (.iconst 0, 1) := by decide +kernel
theorem dX0_copyFrom_27 : decode cX0_copyFrom 27 = .ok (.aload_n 1, 1) := by decide +kernel
theorem dX0_copyFrom_28 : decode cX0_copyFrom 28 = .ok (.getfield 34, 3) := by decide +kernel
theorem dX0_copyFrom_31 : decode cX0_copyFrom 31 = .ok (.invokestatic 40, 3) := by decide +kernel
theorem dX0_copyFrom_34 : decode cX0_copyFrom 34 = .ok (.aload_n 1, 1) := by decide +kernel
theorem dX0_copyFrom_35 : decode cX0_copyFrom 35 = .ok (.getfield 18, 3) := by decide +kernel
theorem dX0_copyFrom_38 : decode cX0_copyFrom 38 = .ok (.iconst 0, 1) := by decide +kernel
theorem dX0_copyFrom_39 : decode cX0_copyFrom 39 = .ok (.aload_n 0, 1) := by decide +kernel
theorem dX0_copyFrom_40 : decode cX0_copyFrom 40 = .ok (.getfield 18, 3) := by decide +kernel
theorem dX0_copyFrom_43 : decode cX0_copyFrom 43 = .ok (.iconst 0, 1) := by decide +kernel
theorem dX0_copyFrom_44 : decode cX0_copyFrom 44 = .ok (.aload_n 1, 1) := by decide +kernel
theorem dX0_copyFrom_45 : decode cX0_copyFrom 45 = .ok (.getfield 34, 3) := by decide +kernel
theorem dX0_copyFrom_48 : decode cX0_copyFrom 48 = .ok (.invokestatic 40, 3) := by decide +kernel
theorem dX0_copyFrom_51 : decode cX0_copyFrom 51 = .ok (.aload_n 1, 1) := by decide +kernel
theorem dX0_copyFrom_52 : decode cX0_copyFrom 52 = .ok (.getfield 21, 3) := by decide +kernel
theorem dX0_copyFrom_55 : decode cX0_copyFrom 55 = .ok (.iconst 0, 1) := by decide +kernel
theorem dX0_copyFrom_56 : decode cX0_copyFrom 56 = .ok (.aload_n 0, 1) := by decide +kernel
theorem dX0_copyFrom_57 : decode cX0_copyFrom 57 = .ok (.getfield 21, 3) := by decide +kernel
theorem dX0_copyFrom_60 : decode cX0_copyFrom 60 = .ok (.iconst 0, 1) := by decide +kernel
theorem dX0_copyFrom_61 : decode cX0_copyFrom 61 = .ok (.aload_n 1, 1) := by decide +kernel
theorem dX0_copyFrom_62 : decode cX0_copyFrom 62 = .ok (.getfield 34, 3) := by decide +kernel
theorem dX0_copyFrom_65 : decode cX0_copyFrom 65 = .ok (.invokestatic 40, 3) := by decide +kernel
theorem dX0_copyFrom_68 : decode cX0_copyFrom 68 = .ok (.aload_n 1, 1) := by decide +kernel
theorem dX0_copyFrom_69 : decode cX0_copyFrom 69 = .ok (.getfield 24, 3) := by decide +kernel
theorem dX0_copyFrom_72 : decode cX0_copyFrom 72 = .ok (.iconst 0, 1) := by decide +kernel
theorem dX0_copyFrom_73 : decode cX0_copyFrom 73 = .ok (.aload_n 0, 1) := by decide +kernel
theorem dX0_copyFrom_74 : decode cX0_copyFrom 74 = .ok (.getfield 24, 3) := by decide +kernel
theorem dX0_copyFrom_77 : decode cX0_copyFrom 77 = .ok (.iconst 0, 1) := by decide +kernel
theorem dX0_copyFrom_78 : decode cX0_copyFrom 78 = .ok (.aload_n 1, 1) := by decide +kernel
theorem dX0_copyFrom_79 : decode cX0_copyFrom 79 = .ok (.getfield 34, 3) := by decide +kernel
theorem dX0_copyFrom_82 : decode cX0_copyFrom 82 = .ok (.invokestatic 40, 3) := by decide +kernel
theorem dX0_copyFrom_85 : decode cX0_copyFrom 85 = .ok (.aload_n 0, 1) := by decide +kernel
theorem dX0_copyFrom_86 : decode cX0_copyFrom 86 = .ok (.aload_n 1, 1) := by decide +kernel
theorem dX0_copyFrom_87 : decode cX0_copyFrom 87 = .ok (.getfield 31, 3) := by decide +kernel
theorem dX0_copyFrom_90 : decode cX0_copyFrom 90 = .ok (.putfield 31, 3) := by decide +kernel
theorem dX0_copyFrom_93 : decode cX0_copyFrom 93 = .ok (.aload_n 0, 1) := by decide +kernel
theorem dX0_copyFrom_94 : decode cX0_copyFrom 94 = .ok (.aload_n 1, 1) := by decide +kernel
theorem dX0_copyFrom_95 : decode cX0_copyFrom 95 = .ok (.getfield 34, 3) := by decide +kernel
theorem dX0_copyFrom_98 : decode cX0_copyFrom 98 = .ok (.putfield 34, 3) := by decide +kernel
theorem dX0_copyFrom_101 : decode cX0_copyFrom 101 = .ok (.aload_n 0, 1) := by decide +kernel
theorem dX0_copyFrom_102 : decode cX0_copyFrom 102 = .ok (.aload_n 1, 1) := by decide +kernel
theorem dX0_copyFrom_103 : decode cX0_copyFrom 103 = .ok (.getfield 27, 3) := by decide +kernel
theorem dX0_copyFrom_106 : decode cX0_copyFrom 106 = .ok (.putfield 27, 3) := by decide +kernel
theorem dX0_copyFrom_109 : decode cX0_copyFrom 109 = .ok (.aload_n 0, 1) := by decide +kernel
theorem dX0_copyFrom_110 : decode cX0_copyFrom 110 = .ok (.aload_n 1, 1) := by decide +kernel
theorem dX0_copyFrom_111 : decode cX0_copyFrom 111 = .ok (.getfield 37, 3) := by decide +kernel
theorem dX0_copyFrom_114 : decode cX0_copyFrom 114 = .ok (.putfield 37, 3) := by decide +kernel
theorem dX0_copyFrom_117 : decode cX0_copyFrom 117 = .ok (.return_, 1) := by decide +kernel
theorem dX0_currentDepth_0 : decode cX0_currentDepth 0 = .ok (.aload_n 0, 1) := by decide +kernel
theorem dX0_currentDepth_1 : decode cX0_currentDepth 1 = .ok (.getfield 27, 3) := by decide +kernel
theorem dX0_currentDepth_4 : decode cX0_currentDepth 4 = .ok (.ifCond .ge 7, 3) := by decide +kernel
theorem dX0_currentDepth_7 : decode cX0_currentDepth 7 = .ok (.iconst 0, 1) := by decide +kernel
theorem dX0_currentDepth_8 : decode cX0_currentDepth 8 = .ok (.goto 12, 3) := by decide +kernel
theorem dX0_currentDepth_11 : decode cX0_currentDepth 11 = .ok (.aload_n 0, 1) := by decide +kernel
theorem dX0_currentDepth_12 : decode cX0_currentDepth 12 = .ok (.getfield 18, 3) := by decide +kernel
theorem dX0_currentDepth_15 : decode cX0_currentDepth 15 = .ok (.aload_n 0, 1) := by decide +kernel
theorem dX0_currentDepth_16 : decode cX0_currentDepth 16 = .ok (.getfield 27, 3) := by decide +kernel
theorem dX0_currentDepth_19 : decode cX0_currentDepth 19 = .ok (.iaload, 1) := by decide +kernel
theorem dX0_currentDepth_20 : decode cX0_currentDepth 20 = .ok (.ireturn, 1) := by decide +kernel
theorem dX0_openRefusal_0 : decode cX0_openRefusal 0 = .ok (.aload_n 0, 1) := by decide +kernel
theorem dX0_openRefusal_1 : decode cX0_openRefusal 1 = .ok (.getfield 34, 3) := by decide +kernel
theorem dX0_openRefusal_4 : decode cX0_openRefusal 4 = .ok (.ifCond .le 14, 3) := by decide +kernel
theorem dX0_openRefusal_7 : decode cX0_openRefusal 7 = .ok (.aload_n 0, 1) := by decide +kernel
theorem dX0_openRefusal_8 : decode cX0_openRefusal 8 = .ok (.getfield 27, 3) := by decide +kernel
theorem dX0_openRefusal_11 : decode cX0_openRefusal 11 = .ok (.ifCond .ge 7, 3) := by decide +kernel
theorem dX0_openRefusal_14 : decode cX0_openRefusal 14 = .ok (.iconst 1, 1) := by decide +kernel
theorem dX0_openRefusal_15 : decode cX0_openRefusal 15 = .ok (.goto 4, 3) := by decide +kernel
theorem dX0_openRefusal_18 : decode cX0_openRefusal 18 = .ok (.iconst 0, 1) := by decide +kernel
theorem dX0_openRefusal_19 : decode cX0_openRefusal 19 = .ok (.istore_n 1, 1) := by decide +kernel
theorem dX0_openRefusal_20 : decode cX0_openRefusal 20 = .ok (.iload_n 1, 1) := by decide +kernel
theorem dX0_openRefusal_21 : decode cX0_openRefusal 21 = .ok (.ifCond .ne 12, 3) := by decide +kernel
theorem dX0_openRefusal_24 : decode cX0_openRefusal 24 = .ok (.aload_n 0, 1) := by decide +kernel
theorem dX0_openRefusal_25 : decode cX0_openRefusal 25 = .ok (.invokevirtual 46, 3) := by decide +kernel
theorem dX0_openRefusal_28 : decode cX0_openRefusal 28 = .ok (.bipush 8, 2) := by decide +kernel
theorem dX0_openRefusal_30 : decode cX0_openRefusal 30 = .ok (.if_icmp .lt 6, 3) := by decide +kernel
theorem dX0_openRefusal_33 : decode cX0_openRefusal 33 = .ok (.bipush (-3), 2) := by decide +kernel
theorem dX0_openRefusal_35 : decode cX0_openRefusal 35 = .ok (.ireturn, 1) := by decide +kernel
theorem dX0_openRefusal_36 : decode cX0_openRefusal 36 = .ok (.aload_n 0, 1) := by decide +kernel
theorem dX0_openRefusal_37 : decode cX0_openRefusal 37 = .ok (.getfield 34, 3) := by decide +kernel
theorem dX0_openRefusal_40 : decode cX0_openRefusal 40 = .ok (.bipush 20, 2) := by decide +kernel
theorem dX0_openRefusal_42 : decode cX0_openRefusal 42 = .ok (.if_icmp .lt 8, 3) := by decide +kernel
theorem dX0_openRefusal_45 : decode cX0_openRefusal 45 = .ok (.bipush (-4), 2) := by decide +kernel
theorem dX0_openRefusal_47 : decode cX0_openRefusal 47 = .ok (.goto 5, 3) := by decide +kernel
theorem dX0_openRefusal_50 : decode cX0_openRefusal 50 = .ok (.bipush (-9), 2) := by decide +kernel
theorem dX0_openRefusal_52 : decode cX0_openRefusal 52 = .ok (.ireturn, 1) := by decide +kernel
theorem dX0_enter_0 : decode cX0_enter 0 = .ok (.iload_n 1, 1) := by decide +kernel
theorem dX0_enter_1 : decode cX0_enter 1 = .ok (.ifCond .lt 17, 3) := by decide +kernel
theorem dX0_enter_4 : decode cX0_enter 4 = .ok (.iload_n 1, 1) := by decide +kernel
theorem dX0_enter_5 : decode cX0_enter 5 = .ok (.iconst 5, 1) := by decide +kernel
theorem dX0_enter_6 : decode cX0_enter 6 = .ok (.if_icmp .ge 12, 3) := by decide +kernel
theorem dX0_enter_9 : decode cX0_enter 9 = .ok (.aload_n 0, 1) := by decide +kernel
theorem dX0_enter_10 : decode cX0_enter 10 = .ok (.invokevirtual 50, 3) := by decide +kernel
theorem dX0_enter_13 : decode cX0_enter 13 = .ok (.bipush (-9), 2) := by decide +kernel
theorem dX0_enter_15 : decode cX0_enter 15 = .ok (.if_icmp .eq 5, 3) := by decide +kernel
theorem dX0_enter_18 : decode cX0_enter 18 = .ok (.iconst 0, 1) := by decide +kernel
theorem dX0_enter_19 : decode cX0_enter 19 = .ok (.ireturn, 1) := by decide +kernel
theorem dX0_enter_20 : decode cX0_enter 20 = .ok (.aload_n 0, 1) := by decide +kernel
theorem dX0_enter_21 : decode cX0_enter 21 = .ok (.getfield 27, 3) := by decide +kernel
theorem dX0_enter_24 : decode cX0_enter 24 = .ok (.ifCond .lt 18, 3) := by decide +kernel
theorem dX0_enter_27 : decode cX0_enter 27 = .ok (.aload_n 0, 1) := by decide +kernel
theorem dX0_enter_28 : decode cX0_enter 28 = .ok (.getfield 24, 3) := by decide +kernel
theorem dX0_enter_31 : decode cX0_enter 31 = .ok (.aload_n 0, 1) := by decide +kernel
theorem dX0_enter_32 : decode cX0_enter 32 = .ok (.getfield 27, 3) := by decide +kernel
theorem dX0_enter_35 : decode cX0_enter 35 = .ok (.dup2, 1) := by decide +kernel
theorem dX0_enter_36 : decode cX0_enter 36 = .ok (.iaload, 1) := by decide +kernel
theorem dX0_enter_37 : decode cX0_enter 37 = .ok (.iconst 1, 1) := by decide +kernel
theorem dX0_enter_38 : decode cX0_enter 38 = .ok (.iload_n 1, 1) := by decide +kernel
theorem dX0_enter_39 : decode cX0_enter 39 = .ok (.ishl, 1) := by decide +kernel
theorem dX0_enter_40 : decode cX0_enter 40 = .ok (.ior, 1) := by decide +kernel
theorem dX0_enter_41 : decode cX0_enter 41 = .ok (.iastore, 1) := by decide +kernel
theorem dX0_enter_42 : decode cX0_enter 42 = .ok (.aload_n 0, 1) := by decide +kernel
theorem dX0_enter_43 : decode cX0_enter 43 = .ok (.getfield 9, 3) := by decide +kernel
theorem dX0_enter_46 : decode cX0_enter 46 = .ok (.aload_n 0, 1) := by decide +kernel
theorem dX0_enter_47 : decode cX0_enter 47 = .ok (.getfield 34, 3) := by decide +kernel
theorem dX0_enter_50 : decode cX0_enter 50 = .ok (.iload_n 1, 1) := by decide +kernel
theorem dX0_enter_51 : decode cX0_enter 51 = .ok (.iastore, 1) := by decide +kernel
theorem dX0_enter_52 : decode cX0_enter 52 = .ok (.aload_n 0, 1) := by decide +kernel
theorem dX0_enter_53 : decode cX0_enter 53 = .ok (.getfield 15, 3) := by decide +kernel
theorem dX0_enter_56 : decode cX0_enter 56 = .ok (.aload_n 0, 1) := by decide +kernel
theorem dX0_enter_57 : decode cX0_enter 57 = .ok (.getfield 34, 3) := by decide +kernel
theorem dX0_enter_60 : decode cX0_enter 60 = .ok (.aload_n 0, 1) := by decide +kernel
theorem dX0_enter_61 : decode cX0_enter 61 = .ok (.getfield 27, 3) := by decide +kernel
theorem dX0_enter_64 : decode cX0_enter 64 = .ok (.iastore, 1) := by decide +kernel
theorem dX0_enter_65 : decode cX0_enter 65 = .ok (.aload_n 0, 1) := by decide +kernel
theorem dX0_enter_66 : decode cX0_enter 66 = .ok (.getfield 18, 3) := by decide +kernel
theorem dX0_enter_69 : decode cX0_enter 69 = .ok (.aload_n 0, 1) := by decide +kernel
theorem dX0_enter_70 : decode cX0_enter 70 = .ok (.getfield 34, 3) := by decide +kernel
theorem dX0_enter_73 : decode cX0_enter 73 = .ok (.aload_n 0, 1) := by decide +kernel
theorem dX0_enter_74 : decode cX0_enter 74 = .ok (.invokevirtual 46, 3) := by decide +kernel
theorem dX0_enter_77 : decode cX0_enter 77 = .ok (.iconst 1, 1) := by decide +kernel
theorem dX0_enter_78 : decode cX0_enter 78 = .ok (.iadd, 1) := by decide +kernel
theorem dX0_enter_79 : decode cX0_enter 79 = .ok (.iastore, 1) := by decide +kernel
theorem dX0_enter_80 : decode cX0_enter 80 = .ok (.aload_n 0, 1) := by decide +kernel
theorem dX0_enter_81 : decode cX0_enter 81 = .ok (.getfield 21, 3) := by decide +kernel
theorem dX0_enter_84 : decode cX0_enter 84 = .ok (.aload_n 0, 1) := by decide +kernel
theorem dX0_enter_85 : decode cX0_enter 85 = .ok (.getfield 34, 3) := by decide +kernel
theorem dX0_enter_88 : decode cX0_enter 88 = .ok (.iconst 0, 1) := by decide +kernel
theorem dX0_enter_89 : decode cX0_enter 89 = .ok (.iastore, 1) := by decide +kernel
theorem dX0_enter_90 : decode cX0_enter 90 = .ok (.aload_n 0, 1) := by decide +kernel
theorem dX0_enter_91 : decode cX0_enter 91 = .ok (.getfield 24, 3) := by decide +kernel
theorem dX0_enter_94 : decode cX0_enter 94 = .ok (.aload_n 0, 1) := by decide +kernel
theorem dX0_enter_95 : decode cX0_enter 95 = .ok (.getfield 34, 3) := by decide +kernel
theorem dX0_enter_98 : decode cX0_enter 98 = .ok (.iconst 0, 1) := by decide +kernel
theorem dX0_enter_99 : decode cX0_enter 99 = .ok (.iastore, 1) := by decide +kernel
theorem dX0_enter_100 : decode cX0_enter 100 = .ok (.aload_n 0, 1) := by decide +kernel
theorem dX0_enter_101 : decode cX0_enter 101 = .ok (.dup, 1) := by decide +kernel
theorem dX0_enter_102 : decode cX0_enter 102 = .ok (.getfield 31, 3) := by decide +kernel
theorem dX0_enter_105 : decode cX0_enter 105 = .ok (.iconst 1, 1) := by decide +kernel
theorem dX0_enter_106 : decode cX0_enter 106 = .ok (.aload_n 0, 1) := by decide +kernel
theorem dX0_enter_107 : decode cX0_enter 107 = .ok (.getfield 34, 3) := by decide +kernel
theorem dX0_enter_110 : decode cX0_enter 110 = .ok (.ishl, 1) := by decide +kernel
theorem dX0_enter_111 : decode cX0_enter 111 = .ok (.ior, 1) := by decide +kernel
theorem dX0_enter_112 : decode cX0_enter 112 = .ok (.putfield 31, 3) := by decide +kernel
theorem dX0_enter_115 : decode cX0_enter 115 = .ok (.aload_n 0, 1) := by decide +kernel
theorem dX0_enter_116 : decode cX0_enter 116 = .ok (.aload_n 0, 1) := by decide +kernel
theorem dX0_enter_117 : decode cX0_enter 117 = .ok (.getfield 34, 3) := by decide +kernel
theorem dX0_enter_120 : decode cX0_enter 120 = .ok (.putfield 27, 3) := by decide +kernel
theorem dX0_enter_123 : decode cX0_enter 123 = .ok (.aload_n 0, 1) := by decide +kernel
theorem dX0_enter_124 : decode cX0_enter 124 = .ok (.dup, 1) := by decide +kernel
theorem dX0_enter_125 : decode cX0_enter 125 = .ok (.getfield 34, 3) := by decide +kernel
theorem dX0_enter_128 : decode cX0_enter 128 = .ok (.iconst 1, 1) := by decide +kernel
theorem dX0_enter_129 : decode cX0_enter 129 = .ok (.iadd, 1) := by decide +kernel
theorem dX0_enter_130 : decode cX0_enter 130 = .ok (.putfield 34, 3) := by decide +kernel
theorem dX0_enter_133 : decode cX0_enter 133 = .ok (.aload_n 0, 1) := by decide +kernel
theorem dX0_enter_134 : decode cX0_enter 134 = .ok (.dup, 1) := by decide +kernel
theorem dX0_enter_135 : decode cX0_enter 135 = .ok (.getfield 37, 3) := by decide +kernel
theorem dX0_enter_138 : decode cX0_enter 138 = .ok (.iconst 1, 1) := by decide +kernel
theorem dX0_enter_139 : decode cX0_enter 139 = .ok (.iadd, 1) := by decide +kernel
theorem dX0_enter_140 : decode cX0_enter 140 = .ok (.putfield 37, 3) := by decide +kernel
theorem dX0_enter_143 : decode cX0_enter 143 = .ok (.iconst 1, 1) := by decide +kernel
theorem dX0_enter_144 : decode cX0_enter 144 = .ok (.ireturn, 1) := by decide +kernel
theorem dX0_leave_0 : decode cX0_leave 0 = .ok (.aload_n 0, 1) := by decide +kernel
theorem dX0_leave_1 : decode cX0_leave 1 = .ok (.getfield 27, 3) := by decide +kernel
theorem dX0_leave_4 : decode cX0_leave 4 = .ok (.ifCond .ge 5, 3) := by decide +kernel
theorem dX0_leave_7 : decode cX0_leave 7 = .ok (.iconst 0, 1) := by decide +kernel
theorem dX0_leave_8 : decode cX0_leave 8 = .ok (.ireturn, 1) := by decide +kernel
theorem dX0_leave_9 : decode cX0_leave 9 = .ok (.aload_n 0, 1) := by decide +kernel
theorem dX0_leave_10 : decode cX0_leave 10 = .ok (.dup, 1) := by decide +kernel
theorem dX0_leave_11 : decode cX0_leave 11 = .ok (.getfield 31, 3) := by decide +kernel
theorem dX0_leave_14 : decode cX0_leave 14 = .ok (.iconst 1, 1) := by decide +kernel
theorem dX0_leave_15 : decode cX0_leave 15 = .ok (.aload_n 0, 1) := by decide +kernel
theorem dX0_leave_16 : decode cX0_leave 16 = .ok (.getfield 27, 3) := by decide +kernel
theorem dX0_leave_19 : decode cX0_leave 19 = .ok (.ishl, 1) := by decide +kernel
theorem dX0_leave_20 : decode cX0_leave 20 = .ok (.iconst (-1), 1) := by decide +kernel
theorem dX0_leave_21 : decode cX0_leave 21 = .ok (.ixor, 1) := by decide +kernel
theorem dX0_leave_22 : decode cX0_leave 22 = .ok (.iand, 1) := by decide +kernel
theorem dX0_leave_23 : decode cX0_leave 23 = .ok (.putfield 31, 3) := by decide +kernel
theorem dX0_leave_26 : decode cX0_leave 26 = .ok (.aload_n 0, 1) := by decide +kernel
theorem dX0_leave_27 : decode cX0_leave 27 = .ok (.aload_n 0, 1) := by decide +kernel
theorem dX0_leave_28 : decode cX0_leave 28 = .ok (.getfield 15, 3) := by decide +kernel
theorem dX0_leave_31 : decode cX0_leave 31 = .ok (.aload_n 0, 1) := by decide +kernel
theorem dX0_leave_32 : decode cX0_leave 32 = .ok (.getfield 27, 3) := by decide +kernel
theorem dX0_leave_35 : decode cX0_leave 35 = .ok (.iaload, 1) := by decide +kernel
theorem dX0_leave_36 : decode cX0_leave 36 = .ok (.putfield 27, 3) := by decide +kernel
theorem dX0_leave_39 : decode cX0_leave 39 = .ok (.aload_n 0, 1) := by decide +kernel
theorem dX0_leave_40 : decode cX0_leave 40 = .ok (.dup, 1) := by decide +kernel
theorem dX0_leave_41 : decode cX0_leave 41 = .ok (.getfield 37, 3) := by decide +kernel
theorem dX0_leave_44 : decode cX0_leave 44 = .ok (.iconst 1, 1) := by decide +kernel
theorem dX0_leave_45 : decode cX0_leave 45 = .ok (.iadd, 1) := by decide +kernel
theorem dX0_leave_46 : decode cX0_leave 46 = .ok (.putfield 37, 3) := by decide +kernel
theorem dX0_leave_49 : decode cX0_leave 49 = .ok (.iconst 1, 1) := by decide +kernel
theorem dX0_leave_50 : decode cX0_leave 50 = .ok (.ireturn, 1) := by decide +kernel
theorem dX0_hold_0 : decode cX0_hold 0 = .ok (.iload_n 1, 1) := by decide +kernel
theorem dX0_hold_1 : decode cX0_hold 1 = .ok (.ifCond .lt 16, 3) := by decide +kernel
theorem dX0_hold_4 : decode cX0_hold 4 = .ok (.iload_n 1, 1) := by decide +kernel
theorem dX0_hold_5 : decode cX0_hold 5 = .ok (.bipush 10, 2) := by decide +kernel
theorem dX0_hold_7 : decode cX0_hold 7 = .ok (.if_icmp .ge 10, 3) := by decide +kernel
theorem dX0_hold_10 : decode cX0_hold 10 = .ok (.aload_n 0, 1) := by decide +kernel
theorem dX0_hold_11 : decode cX0_hold 11 = .ok (.getfield 27, 3) := by decide +kernel
theorem dX0_hold_14 : decode cX0_hold 14 = .ok (.ifCond .ge 5, 3) := by decide +kernel
theorem dX0_hold_17 : decode cX0_hold 17 = .ok (.iconst 0, 1) := by decide +kernel
theorem dX0_hold_18 : decode cX0_hold 18 = .ok (.ireturn, 1) := by decide +kernel
theorem dX0_hold_19 : decode cX0_hold 19 = .ok (.aload_n 0, 1) := by decide +kernel
theorem dX0_hold_20 : decode cX0_hold 20 = .ok (.getfield 21, 3) := by decide +kernel
theorem dX0_hold_23 : decode cX0_hold 23 = .ok (.aload_n 0, 1) := by decide +kernel
theorem dX0_hold_24 : decode cX0_hold 24 = .ok (.getfield 27, 3) := by decide +kernel
theorem dX0_hold_27 : decode cX0_hold 27 = .ok (.dup2, 1) := by decide +kernel
theorem dX0_hold_28 : decode cX0_hold 28 = .ok (.iaload, 1) := by decide +kernel
theorem dX0_hold_29 : decode cX0_hold 29 = .ok (.iconst 1, 1) := by decide +kernel
theorem dX0_hold_30 : decode cX0_hold 30 = .ok (.iload_n 1, 1) := by decide +kernel
theorem dX0_hold_31 : decode cX0_hold 31 = .ok (.ishl, 1) := by decide +kernel
theorem dX0_hold_32 : decode cX0_hold 32 = .ok (.ior, 1) := by decide +kernel
theorem dX0_hold_33 : decode cX0_hold 33 = .ok (.iastore, 1) := by decide +kernel
theorem dX0_hold_34 : decode cX0_hold 34 = .ok (.aload_n 0, 1) := by decide +kernel
theorem dX0_hold_35 : decode cX0_hold 35 = .ok (.dup, 1) := by decide +kernel
theorem dX0_hold_36 : decode cX0_hold 36 = .ok (.getfield 37, 3) := by decide +kernel
theorem dX0_hold_39 : decode cX0_hold 39 = .ok (.iconst 1, 1) := by decide +kernel
theorem dX0_hold_40 : decode cX0_hold 40 = .ok (.iadd, 1) := by decide +kernel
theorem dX0_hold_41 : decode cX0_hold 41 = .ok (.putfield 37, 3) := by decide +kernel
theorem dX0_hold_44 : decode cX0_hold 44 = .ok (.iconst 1, 1) := by decide +kernel
theorem dX0_hold_45 : decode cX0_hold 45 = .ok (.ireturn, 1) := by decide +kernel
theorem dX0_fulfilled_0 : decode cX0_fulfilled 0 = .ok (.iconst 1, 1) := by decide +kernel
theorem dX0_fulfilled_1 : decode cX0_fulfilled 1 = .ok (.aload_n 0, 1) := by decide +kernel
theorem dX0_fulfilled_2 : decode cX0_fulfilled 2 = .ok (.getfield 24, 3) := by decide +kernel
theorem dX0_fulfilled_5 : decode cX0_fulfilled 5 = .ok (.iload_n 1, 1) := by decide +kernel
theorem dX0_fulfilled_6 : decode cX0_fulfilled 6 = .ok (.iaload, 1) := by decide +kernel
theorem dX0_fulfilled_7 : decode cX0_fulfilled 7 = .ok (.iconst 1, 1) := by decide +kernel
theorem dX0_fulfilled_8 : decode cX0_fulfilled 8 = .ok (.ishl, 1) := by decide +kernel
theorem dX0_fulfilled_9 : decode cX0_fulfilled 9 = .ok (.ior, 1) := by decide +kernel
theorem dX0_fulfilled_10 : decode cX0_fulfilled 10 = .ok (.aload_n 0, 1) := by decide +kernel
theorem dX0_fulfilled_11 : decode cX0_fulfilled 11 = .ok (.getfield 21, 3) := by decide +kernel
theorem dX0_fulfilled_14 : decode cX0_fulfilled 14 = .ok (.iload_n 1, 1) := by decide +kernel
theorem dX0_fulfilled_15 : decode cX0_fulfilled 15 = .ok (.iaload, 1) := by decide +kernel
theorem dX0_fulfilled_16 : decode cX0_fulfilled 16 = .ok (.bipush 6, 2) := by decide +kernel
theorem dX0_fulfilled_18 : decode cX0_fulfilled 18 = .ok (.ishl, 1) := by decide +kernel
theorem dX0_fulfilled_19 : decode cX0_fulfilled 19 = .ok (.ior, 1) := by decide +kernel
theorem dX0_fulfilled_20 : decode cX0_fulfilled 20 = .ok (.ireturn, 1) := by decide +kernel
theorem dX1_init_0 : decode cX1_init 0 = .ok (.aload_n 0, 1) := by decide +kernel
theorem dX1_init_1 : decode cX1_init 1 = .ok (.invokespecial 3, 3) := by decide +kernel
theorem dX1_init_4 : decode cX1_init 4 = .ok (.aload_n 0, 1) := by decide +kernel
theorem dX1_init_5 : decode cX1_init 5 = .ok (.bipush 20, 2) := by decide +kernel
theorem dX1_init_7 : decode cX1_init 7 = .ok (.newarray .int, 2) := by decide +kernel
theorem dX1_init_9 : decode cX1_init 9 = .ok (.putfield 9, 3) := by decide +kernel
theorem dX1_init_12 : decode cX1_init 12 = .ok (.aload_n 0, 1) := by decide +kernel
theorem dX1_init_13 : decode cX1_init 13 = .ok (.bipush 20, 2) := by decide +kernel
theorem dX1_init_15 : decode cX1_init 15 = .ok (.newarray .int, 2) := by decide +kernel
theorem dX1_init_17 : decode cX1_init 17 = .ok (.putfield 15, 3) := by decide +kernel
theorem dX1_init_20 : decode cX1_init 20 = .ok (.aload_n 0, 1) := by decide +kernel
theorem dX1_init_21 : decode cX1_init 21 = .ok (.bipush 20, 2) := by decide +kernel
theorem dX1_init_23 : decode cX1_init 23 = .ok (.newarray .int, 2) := by decide +kernel
theorem dX1_init_25 : decode cX1_init 25 = .ok (.putfield 18, 3) := by decide +kernel
theorem dX1_init_28 : decode cX1_init 28 = .ok (.aload_n 0, 1) := by decide +kernel
theorem dX1_init_29 : decode cX1_init 29 = .ok (.bipush 20, 2) := by decide +kernel
theorem dX1_init_31 : decode cX1_init 31 = .ok (.newarray .int, 2) := by decide +kernel
theorem dX1_init_33 : decode cX1_init 33 = .ok (.putfield 21, 3) := by decide +kernel
theorem dX1_init_36 : decode cX1_init 36 = .ok (.return_, 1) := by decide +kernel
theorem dX1_match_0 : decode cX1_match 0 = .ok (.aload_n 0, 1) := by decide +kernel
theorem dX1_match_1 : decode cX1_match 1 = .ok (.iconst 0, 1) := by decide +kernel
theorem dX1_match_2 : decode cX1_match 2 = .ok (.putfield 24, 3) := by decide +kernel
theorem dX1_match_5 : decode cX1_match 5 = .ok (.aload_n 0, 1) := by decide +kernel
theorem dX1_match_6 : decode cX1_match 6 = .ok (.iconst 0, 1) := by decide +kernel
theorem dX1_match_7 : decode cX1_match 7 = .ok (.putfield 28, 3) := by decide +kernel
theorem dX1_match_10 : decode cX1_match 10 = .ok (.iconst 0, 1) := by decide +kernel
theorem dX1_match_11 : decode cX1_match 11 = .ok (.istore_n 3, 1) := by decide +kernel
theorem dX1_match_12 : decode cX1_match 12 = .ok (.iload_n 3, 1) := by decide +kernel
theorem dX1_match_13 : decode cX1_match 13 = .ok (.aload_n 1, 1) := by decide +kernel
theorem dX1_match_14 : decode cX1_match 14 = .ok (.getfield 31, 3) := by decide +kernel
theorem dX1_match_17 : decode cX1_match 17 = .ok (.if_icmp .ge 36, 3) := by decide +kernel
theorem dX1_match_20 : decode cX1_match 20 = .ok (.aload_n 0, 1) := by decide +kernel
theorem dX1_match_21 : decode cX1_match 21 = .ok (.iload_n 3, 1) := by decide +kernel
theorem dX1_match_22 : decode cX1_match 22 = .ok (.aload_n 1, 1) := by decide +kernel
theorem dX1_match_23 : decode cX1_match 23 = .ok (.getfield 36, 3) := by decide +kernel
theorem dX1_match_26 : decode cX1_match 26 = .ok (.iload_n 3, 1) := by decide +kernel
theorem dX1_match_27 : decode cX1_match 27 = .ok (.iaload, 1) := by decide +kernel
theorem dX1_match_28 : decode cX1_match 28 = .ok (.invokevirtual 39, 3) := by decide +kernel
theorem dX1_match_31 : decode cX1_match 31 = .ok (.aload_n 0, 1) := by decide +kernel
theorem dX1_match_32 : decode cX1_match 32 = .ok (.aload_n 1, 1) := by decide +kernel
theorem dX1_match_33 : decode cX1_match 33 = .ok (.iload_n 3, 1) := by decide +kernel
theorem dX1_match_34 : decode cX1_match 34 = .ok (.aload_n 2, 1) := by decide +kernel
theorem dX1_match_35 : decode cX1_match 35 = .ok (.invokevirtual 43, 3) := by decide +kernel
theorem dX1_match_38 : decode cX1_match 38 = .ok (.aload_n 0, 1) := by decide +kernel
theorem dX1_match_39 : decode cX1_match 39 = .ok (.iload_n 3, 1) := by decide +kernel
theorem dX1_match_40 : decode cX1_match 40 = .ok (.aload_n 2, 1) := by decide +kernel
theorem dX1_match_41 : decode cX1_match 41 = .ok (.getfield 47, 3) := by decide +kernel
theorem dX1_match_44 : decode cX1_match 44 = .ok (.invokevirtual 52, 3) := by decide +kernel
theorem dX1_match_47 : decode cX1_match 47 = .ok (.iinc 3 1, 3) := by decide +kernel
theorem dX1_match_50 : decode cX1_match 50 = .ok (.goto (-38), 3) := by decide +kernel
theorem dX1_match_53 : decode cX1_match 53 = .ok (.return_, 1) := by decide +kernel
theorem dX1_lookAround_0 : decode cX1_lookAround 0 = .ok (.iload_n 2, 1) := by decide +kernel
theorem dX1_lookAround_1 : decode cX1_lookAround 1 = .ok (.ifCond .lt 12, 3) := by decide +kernel
theorem dX1_lookAround_4 : decode cX1_lookAround 4 = .ok (.iload_n 2, 1) := by decide +kernel
theorem dX1_lookAround_5 : decode cX1_lookAround 5 = .ok (.iload_n 1, 1) := by decide +kernel
theorem dX1_lookAround_6 : decode cX1_lookAround 6 = .ok (.if_icmp .ge 7, 3) := by decide +kernel
theorem dX1_lookAround_9 : decode cX1_lookAround 9 = .ok (.iconst 1, 1) := by decide +kernel
theorem dX1_lookAround_10 : decode cX1_lookAround 10 = .ok (.goto 4, 3) := by decide +kernel
theorem dX1_lookAround_13 : decode cX1_lookAround 13 = .ok (.iconst 0, 1) := by decide +kernel
theorem dX1_lookAround_14 : decode cX1_lookAround 14 = .ok (.istore_n 3, 1) := by decide +kernel
theorem dX1_lookAround_15 : decode cX1_lookAround 15 = .ok (.aload_n 0, 1) := by decide +kernel
theorem dX1_lookAround_16 : decode cX1_lookAround 16 = .ok (.getfield 18, 3) := by decide +kernel
theorem dX1_lookAround_19 : decode cX1_lookAround 19 = .ok (.iload_n 1, 1) := by decide +kernel
theorem dX1_lookAround_20 : decode cX1_lookAround 20 = .ok (.iload_n 3, 1) := by decide +kernel
theorem dX1_lookAround_21 : decode cX1_lookAround 21 = .ok (.ifCond .eq 19, 3) := by decide +kernel
theorem dX1_lookAround_24 : decode cX1_lookAround 24 = .ok (.aload_n 0, 1) := by decide +kernel
theorem dX1_lookAround_25 : decode cX1_lookAround 25 = .ok (.getfield 9, 3) := by decide +kernel
theorem dX1_lookAround_28 : decode cX1_lookAround 28 = .ok (.iload_n 2, 1) := by decide +kernel
theorem dX1_lookAround_29 : decode cX1_lookAround 29 = .ok (.iaload, 1) := by decide +kernel
theorem dX1_lookAround_30 : decode cX1_lookAround 30 = .ok (.aload_n 0, 1) := by decide +kernel
theorem dX1_lookAround_31 : decode cX1_lookAround 31 = .ok (.getfield 18, 3) := by decide +kernel
theorem dX1_lookAround_34 : decode cX1_lookAround 34 = .ok (.iload_n 2, 1) := by decide +kernel
theorem dX1_lookAround_35 : decode cX1_lookAround 35 = .ok (.iaload, 1) := by decide +kernel
theorem dX1_lookAround_36 : decode cX1_lookAround 36 = .ok (.ior, 1) := by decide +kernel
theorem dX1_lookAround_37 : decode cX1_lookAround 37 = .ok (.goto 4, 3) := by decide +kernel
theorem dX1_lookAround_40 : decode cX1_lookAround 40 = .ok (.iconst 0, 1) := by decide +kernel
theorem dX1_lookAround_41 : decode cX1_lookAround 41 = .ok (.iastore, 1) := by decide +kernel
theorem dX1_lookAround_42 : decode cX1_lookAround 42 = .ok (.aload_n 0, 1) := by decide +kernel
theorem dX1_lookAround_43 : decode cX1_lookAround 43 = .ok (.getfield 21, 3) := by decide +kernel
theorem dX1_lookAround_46 : decode cX1_lookAround 46 = .ok (.iload_n 1, 1) := by decide +kernel
theorem dX1_lookAround_47 : decode cX1_lookAround 47 = .ok (.iload_n 3, 1) := by decide +kernel
theorem dX1_lookAround_48 : decode cX1_lookAround 48 = .ok (.ifCond .eq 19, 3) := by decide +kernel
theorem dX1_lookAround_51 : decode cX1_lookAround 51 = .ok (.aload_n 0, 1) := by decide +kernel
theorem dX1_lookAround_52 : decode cX1_lookAround 52 = .ok (.getfield 15, 3) := by decide +kernel
theorem dX1_lookAround_55 : decode cX1_lookAround 55 = .ok (.iload_n 2, 1) := by decide +kernel
theorem dX1_lookAround_56 : decode cX1_lookAround 56 = .ok (.iaload, 1) := by decide +kernel
theorem dX1_lookAround_57 : decode cX1_lookAround 57 = .ok (.aload_n 0, 1) := by decide +kernel
theorem dX1_lookAround_58 : decode cX1_lookAround 58 = .ok (.getfield 21, 3) := by decide +kernel
theorem dX1_lookAround_61 : decode cX1_lookAround 61 = .ok (.iload_n 2, 1) := by decide +kernel
theorem dX1_lookAround_62 : decode cX1_lookAround 62 = .ok (.iaload, 1) := by decide +kernel
theorem dX1_lookAround_63 : decode cX1_lookAround 63 = .ok (.ior, 1) := by decide +kernel
theorem dX1_lookAround_64 : decode cX1_lookAround 64 = .ok (.goto 4, 3) := by decide +kernel
theorem dX1_lookAround_67 : decode cX1_lookAround 67 = .ok (.iconst 0, 1) := by decide +kernel
theorem dX1_lookAround_68 : decode cX1_lookAround 68 = .ok (.iastore, 1) := by decide +kernel
theorem dX1_lookAround_69 : decode cX1_lookAround 69 = .ok (.return_, 1) := by decide +kernel
theorem dX1_matchElement_0 : decode cX1_matchElement 0 = .ok (.aload_n 1, 1) := by decide +kernel
theorem dX1_matchElement_1 : decode cX1_matchElement 1 = .ok (.getfield 36, 3) := by decide +kernel
theorem dX1_matchElement_4 : decode cX1_matchElement 4 = .ok (.iload_n 2, 1) := by decide +kernel
theorem dX1_matchElement_5 : decode cX1_matchElement 5 = .ok (.iaload, 1) := by decide +kernel
theorem dX1_matchElement_6 : decode cX1_matchElement 6 = .ok (.istore 4, 2) := by decide +kernel
theorem dX1_matchElement_8 : decode cX1_matchElement 8 = .ok (.iload 4, 2) := by decide +kernel
theorem dX1_matchElement_10 : decode cX1_matchElement 10 = .ok (.ifCond .lt 13, 3) := by decide +kernel
theorem dX1_matchElement_13 : decode cX1_matchElement 13 = .ok (.iload 4, 2) := by decide +kernel
theorem dX1_matchElement_15 : decode cX1_matchElement 15 = .ok (.iload_n 2, 1) := by decide +kernel
theorem dX1_matchElement_16 : decode cX1_matchElement 16 = .ok (.if_icmp .ge 7, 3) := by decide +kernel
theorem dX1_matchElement_19 : decode cX1_matchElement 19 = .ok (.iconst 1, 1) := by decide +kernel
theorem dX1_matchElement_20 : decode cX1_matchElement 20 = .ok (.goto 4, 3) := by decide +kernel
theorem dX1_matchElement_23 : decode cX1_matchElement 23 = .ok (.iconst 0, 1) := by decide +kernel
theorem dX1_matchElement_24 : decode cX1_matchElement 24 = .ok (.istore 5, 2) := by decide +kernel
theorem dX1_matchElement_26 : decode cX1_matchElement 26 = .ok (.iload 5, 2) := by decide +kernel
theorem dX1_matchElement_28 : decode cX1_matchElement 28 = .ok (.ifCond .eq 13, 3) := by decide +kernel
theorem dX1_matchElement_31 : decode cX1_matchElement 31 = .ok (.aload_n 0, 1) := by decide +kernel
theorem dX1_matchElement_32 : decode cX1_matchElement 32 = .ok (.getfield 9, 3) := by decide +kernel
theorem dX1_matchElement_35 : decode cX1_matchElement 35 = .ok (.iload 4, 2) := by decide +kernel
theorem dX1_matchElement_37 : decode cX1_matchElement 37 = .ok (.iaload, 1) := by decide +kernel
theorem dX1_matchElement_38 : decode cX1_matchElement 38 = .ok (.goto 4, 3) := by decide +kernel
theorem dX1_matchElement_41 : decode cX1_matchElement 41 = .ok (.iconst 0, 1) := by decide +kernel
theorem dX1_matchElement_42 : decode cX1_matchElement 42 = .ok (.istore 6, 2) := by decide +kernel
theorem dX1_matchElement_44 : decode cX1_matchElement 44 = .ok (.iload 5, 2) := by decide +kernel
theorem dX1_matchElement_46 : decode cX1_matchElement 46 = .ok (.ifCond .eq 13, 3) := by decide +kernel
theorem dX1_matchElement_49 : decode cX1_matchElement 49 = .ok (.aload_n 0, 1) := by decide +kernel
theorem dX1_matchElement_50 : decode cX1_matchElement 50 = .ok (.getfield 15, 3) := by decide +kernel
theorem dX1_matchElement_53 : decode cX1_matchElement 53 = .ok (.iload 4, 2) := by decide +kernel
theorem dX1_matchElement_55 : decode cX1_matchElement 55 = .ok (.iaload, 1) := by decide +kernel
theorem dX1_matchElement_56 : decode cX1_matchElement 56 = .ok (.goto 4, 3) := by decide +kernel
theorem dX1_matchElement_59 : decode cX1_matchElement 59 = .ok (.iconst 0, 1) := by decide +kernel
theorem dX1_matchElement_60 : decode cX1_matchElement 60 = .ok (.istore 7, 2) := by decide +kernel
theorem dX1_matchElement_62 : decode cX1_matchElement 62 = .ok (.aload_n 1, 1) := by decide +kernel
theorem dX1_matchElement_63 : decode cX1_matchElement 63 = .ok (.getfield 55, 3) := by decide +kernel
theorem dX1_matchElement_66 : decode cX1_matchElement 66 = .ok (.iload_n 2, 1) := by decide +kernel
theorem dX1_matchElement_67 : decode cX1_matchElement 67 = .ok (.ishr, 1) := by decide +kernel
theorem dX1_matchElement_68 : decode cX1_matchElement 68 = .ok (.iconst 1, 1) := by decide +kernel
theorem dX1_matchElement_69 : decode cX1_matchElement 69 = .ok (.iand, 1) := by decide +kernel
theorem dX1_matchElement_70 : decode cX1_matchElement 70 = .ok (.ifCond .eq 7, 3) := by decide +kernel
theorem dX1_matchElement_73 : decode cX1_matchElement 73 = .ok (.iconst 1, 1) := by decide +kernel
theorem dX1_matchElement_74 : decode cX1_matchElement 74 = .ok (.goto 4, 3) := by decide +kernel
theorem dX1_matchElement_77 : decode cX1_matchElement 77 = .ok (.iconst 0, 1) := by decide +kernel
theorem dX1_matchElement_78 : decode cX1_matchElement 78 = .ok (.istore 8, 2) := by decide +kernel
theorem dX1_matchElement_80 : decode cX1_matchElement 80 = .ok (.aload_n 1, 1) := by decide +kernel
theorem dX1_matchElement_81 : decode cX1_matchElement 81 = .ok (.iload_n 2, 1) := by decide +kernel
theorem dX1_matchElement_82 : decode cX1_matchElement 82 = .ok (.invokevirtual 58, 3) := by decide +kernel
theorem dX1_matchElement_85 : decode cX1_matchElement 85 = .ok (.istore 9, 2) := by decide +kernel
theorem dX1_matchElement_87 : decode cX1_matchElement 87 = .ok (.iconst 0, 1) := by decide +kernel
theorem dX1_matchElement_88 : decode cX1_matchElement 88 = .ok (.istore 10, 2) := by decide +kernel
theorem dX1_matchElement_90 : decode cX1_matchElement 90 = .ok (.iconst 0, 1) := by decide +kernel
theorem dX1_matchElement_91 : decode cX1_matchElement 91 = .ok (.istore 11, 2) := by decide +kernel
theorem dX1_matchElement_93 : decode cX1_matchElement 93 = .ok (.iconst 0, 1) := by decide +kernel
theorem dX1_matchElement_94 : decode cX1_matchElement 94 = .ok (.istore 12, 2) := by decide +kernel
theorem dX1_matchElement_96 : decode cX1_matchElement 96 = .ok (.iload 12, 2) := by decide +kernel
theorem dX1_matchElement_98 : decode cX1_matchElement 98 = .ok (.aload_n 3, 1) := by decide +kernel
theorem dX1_matchElement_99 : decode cX1_matchElement 99 = .ok (.getfield 47, 3) := by decide +kernel
theorem dX1_matchElement_102 : decode cX1_matchElement 102 = .ok (.if_icmp .ge 203, 3) := by decide +kernel
theorem dX1_matchElement_105 : decode cX1_matchElement 105 = .ok (.aload_n 3, 1) := by decide +kernel
theorem dX1_matchElement_106 : decode cX1_matchElement 106 = .ok (.getfield 62, 3) := by decide +kernel
theorem dX1_matchElement_109 : decode cX1_matchElement 109 = .ok (.iload 12, 2) := by decide +kernel
theorem dX1_matchElement_111 : decode cX1_matchElement 111 = .ok (.iaload, 1) := by decide +kernel
theorem dX1_matchElement_112 : decode cX1_matchElement 112 = .ok (.istore 13, 2) := by decide +kernel
theorem dX1_matchElement_114 : decode cX1_matchElement 114 = .ok (.iload 13, 2) := by decide +kernel
theorem dX1_matchElement_116 : decode cX1_matchElement 116 = .ok (.bipush 100, 2) := by decide +kernel
theorem dX1_matchElement_118 : decode cX1_matchElement 118 = .ok (.idiv, 1) := by decide +kernel
theorem dX1_matchElement_119 : decode cX1_matchElement 119 = .ok (.bipush 10, 2) := by decide +kernel
theorem dX1_matchElement_121 : decode cX1_matchElement 121 = .ok (.irem, 1) := by decide +kernel
theorem dX1_matchElement_122 : decode cX1_matchElement 122 = .ok (.istore 14, 2) := by decide +kernel
theorem dX1_matchElement_124 : decode cX1_matchElement 124 = .ok (.iload 14, 2) := by decide +kernel
theorem dX1_matchElement_126 : decode cX1_matchElement 126 = .ok (.iconst 5, 1) := by decide +kernel
theorem dX1_matchElement_127 : decode cX1_matchElement 127 = .ok (.if_icmp .eq 17, 3) := by decide +kernel
theorem dX1_matchElement_130 : decode cX1_matchElement 130 = .ok (.iload 14, 2) := by decide +kernel
theorem dX1_matchElement_132 : decode cX1_matchElement 132 = .ok (.aload_n 1, 1) := by decide +kernel
theorem dX1_matchElement_133 : decode cX1_matchElement 133 = .ok (.getfield 65, 3) := by decide +kernel
theorem dX1_matchElement_136 : decode cX1_matchElement 136 = .ok (.iload_n 2, 1) := by decide +kernel
theorem dX1_matchElement_137 : decode cX1_matchElement 137 = .ok (.iaload, 1) := by decide +kernel
theorem dX1_matchElement_138 : decode cX1_matchElement 138 = .ok (.if_icmp .eq 6, 3) := by decide +kernel
theorem dX1_matchElement_141 : decode cX1_matchElement 141 = .ok (.goto 158, 3) := by decide +kernel
theorem dX1_matchElement_144 : decode cX1_matchElement 144 = .ok (.iload 13, 2) := by decide +kernel
theorem dX1_matchElement_146 : decode cX1_matchElement 146 = .ok (.sipush 1000, 3) := by decide +kernel
theorem dX1_matchElement_149 : decode cX1_matchElement 149 = .ok (.if_icmp .lt 7, 3) := by decide +kernel
theorem dX1_matchElement_152 : decode cX1_matchElement 152 = .ok (.iconst 1, 1) := by decide +kernel
theorem dX1_matchElement_153 : decode cX1_matchElement 153 = .ok (.goto 4, 3) := by decide +kernel
theorem dX1_matchElement_156 : decode cX1_matchElement 156 = .ok (.iconst 0, 1) := by decide +kernel
theorem dX1_matchElement_157 : decode cX1_matchElement 157 = .ok (.istore 15, 2) := by decide +kernel
theorem dX1_matchElement_159 : decode cX1_matchElement 159 = .ok (.iload 9, 2) := by decide +kernel
theorem dX1_matchElement_161 : decode cX1_matchElement 161 = .ok (.iload 13, 2) := by decide +kernel
theorem dX1_matchElement_163 : decode cX1_matchElement 163 = .ok (.bipush 100, 2) := by decide +kernel
theorem dX1_matchElement_165 : decode cX1_matchElement 165 = .ok (.irem, 1) := by decide +kernel
theorem dX1_matchElement_166 : decode cX1_matchElement 166 = .ok (.ishr, 1) := by decide +kernel
theorem dX1_matchElement_167 : decode cX1_matchElement 167 = .ok (.iconst 1, 1) := by decide +kernel
theorem dX1_matchElement_168 : decode cX1_matchElement 168 = .ok (.iand, 1) := by decide +kernel
theorem dX1_matchElement_169 : decode cX1_matchElement 169 = .ok (.ifCond .eq 7, 3) := by decide +kernel
theorem dX1_matchElement_172 : decode cX1_matchElement 172 = .ok (.iconst 1, 1) := by decide +kernel
theorem dX1_matchElement_173 : decode cX1_matchElement 173 = .ok (.goto 4, 3) := by decide +kernel
theorem dX1_matchElement_176 : decode cX1_matchElement 176 = .ok (.iconst 0, 1) := by decide +kernel
theorem dX1_matchElement_177 : decode cX1_matchElement 177 = .ok (.istore 16, 2) := by decide +kernel
theorem dX1_matchElement_179 : decode cX1_matchElement 179 = .ok (.iload 12, 2) := by decide +kernel
theorem dX1_matchElement_181 : decode cX1_matchElement 181 = .ok (.ifCond .ne 16, 3) := by decide +kernel
theorem dX1_matchElement_184 : decode cX1_matchElement 184 = .ok (.iload 15, 2) := by decide +kernel
theorem dX1_matchElement_186 : decode cX1_matchElement 186 = .ok (.ifCond .ne 7, 3) := by decide +kernel
theorem dX1_matchElement_189 : decode cX1_matchElement 189 = .ok (.iload_n 2, 1) := by decide +kernel
theorem dX1_matchElement_190 : decode cX1_matchElement 190 = .ok (.ifCond .ne 7, 3) := by decide +kernel
theorem dX1_matchElement_193 : decode cX1_matchElement 193 = .ok (.iconst 1, 1) := by decide +kernel
theorem dX1_matchElement_194 : decode cX1_matchElement 194 = .ok (.goto 4, 3) := by decide +kernel
theorem dX1_matchElement_197 : decode cX1_matchElement 197 = .ok (.iconst 0, 1) := by decide +kernel
theorem dX1_matchElement_198 : decode cX1_matchElement 198 = .ok (.istore 17, 2) := by decide +kernel
theorem dX1_matchElement_200 : decode cX1_matchElement 200 = .ok (.iload 15, 2) := by decide +kernel
theorem dX1_matchElement_202 : decode cX1_matchElement 202 = .ok (.ifCond .eq 12, 3) := by decide +kernel
theorem dX1_matchElement_205 : decode cX1_matchElement 205 = .ok (.aload_n 0, 1) := by decide +kernel
theorem dX1_matchElement_206 : decode cX1_matchElement 206 = .ok (.getfield 18, 3) := by decide +kernel
theorem dX1_matchElement_209 : decode cX1_matchElement 209 = .ok (.iload_n 2, 1) := by decide +kernel
theorem dX1_matchElement_210 : decode cX1_matchElement 210 = .ok (.iaload, 1) := by decide +kernel
theorem dX1_matchElement_211 : decode cX1_matchElement 211 = .ok (.goto 5, 3) := by decide +kernel
theorem dX1_matchElement_214 : decode cX1_matchElement 214 = .ok (.iload 6, 2) := by decide +kernel
theorem dX1_matchElement_216 : decode cX1_matchElement 216 = .ok (.istore 18, 2) := by decide +kernel
theorem dX1_matchElement_218 : decode cX1_matchElement 218 = .ok (.iload 15, 2) := by decide +kernel
theorem dX1_matchElement_220 : decode cX1_matchElement 220 = .ok (.ifCond .eq 12, 3) := by decide +kernel
theorem dX1_matchElement_223 : decode cX1_matchElement 223 = .ok (.aload_n 0, 1) := by decide +kernel
theorem dX1_matchElement_224 : decode cX1_matchElement 224 = .ok (.getfield 21, 3) := by decide +kernel
theorem dX1_matchElement_227 : decode cX1_matchElement 227 = .ok (.iload_n 2, 1) := by decide +kernel
theorem dX1_matchElement_228 : decode cX1_matchElement 228 = .ok (.iaload, 1) := by decide +kernel
theorem dX1_matchElement_229 : decode cX1_matchElement 229 = .ok (.goto 5, 3) := by decide +kernel
theorem dX1_matchElement_232 : decode cX1_matchElement 232 = .ok (.iload 7, 2) := by decide +kernel
theorem dX1_matchElement_234 : decode cX1_matchElement 234 = .ok (.istore 19, 2) := by decide +kernel
theorem dX1_matchElement_236 : decode cX1_matchElement 236 = .ok (.iload 16, 2) := by decide +kernel
theorem dX1_matchElement_238 : decode cX1_matchElement 238 = .ok (.ifCond .eq 27, 3) := by decide +kernel
theorem dX1_matchElement_241 : decode cX1_matchElement 241 = .ok (.iload 17, 2) := by decide +kernel
theorem dX1_matchElement_243 : decode cX1_matchElement 243 = .ok (.ifCond .ne 13, 3) := by decide +kernel
theorem dX1_matchElement_246 : decode cX1_matchElement 246 = .ok (.iload 18, 2) := by decide +kernel
theorem dX1_matchElement_248 : decode cX1_matchElement 248 = .ok (.iload 12, 2) := by decide +kernel
theorem dX1_matchElement_250 : decode cX1_matchElement 250 = .ok (.invokestatic 68, 3) := by decide +kernel
theorem dX1_matchElement_253 : decode cX1_matchElement 253 = .ok (.ifCond .eq 12, 3) := by decide +kernel
theorem dX1_matchElement_256 : decode cX1_matchElement 256 = .ok (.iload 10, 2) := by decide +kernel
theorem dX1_matchElement_258 : decode cX1_matchElement 258 = .ok (.iconst 1, 1) := by decide +kernel
theorem dX1_matchElement_259 : decode cX1_matchElement 259 = .ok (.iload 12, 2) := by decide +kernel
theorem dX1_matchElement_261 : decode cX1_matchElement 261 = .ok (.ishl, 1) := by decide +kernel
theorem dX1_matchElement_262 : decode cX1_matchElement 262 = .ok (.ior, 1) := by decide +kernel
theorem dX1_matchElement_263 : decode cX1_matchElement 263 = .ok (.istore 10, 2) := by decide +kernel
theorem dX1_matchElement_265 : decode cX1_matchElement 265 = .ok (.iload 16, 2) := by decide +kernel
theorem dX1_matchElement_267 : decode cX1_matchElement 267 = .ok (.ifCond .ne 8, 3) := by decide +kernel
theorem dX1_matchElement_270 : decode cX1_matchElement 270 = .ok (.iload 8, 2) := by decide +kernel
theorem dX1_matchElement_272 : decode cX1_matchElement 272 = .ok (.ifCond .eq 27, 3) := by decide +kernel
theorem dX1_matchElement_275 : decode cX1_matchElement 275 = .ok (.iload 17, 2) := by decide +kernel
theorem dX1_matchElement_277 : decode cX1_matchElement 277 = .ok (.ifCond .ne 13, 3) := by decide +kernel
theorem dX1_matchElement_280 : decode cX1_matchElement 280 = .ok (.iload 19, 2) := by decide +kernel
theorem dX1_matchElement_282 : decode cX1_matchElement 282 = .ok (.iload 12, 2) := by decide +kernel
theorem dX1_matchElement_284 : decode cX1_matchElement 284 = .ok (.invokestatic 68, 3) := by decide +kernel
theorem dX1_matchElement_287 : decode cX1_matchElement 287 = .ok (.ifCond .eq 12, 3) := by decide +kernel
theorem dX1_matchElement_290 : decode cX1_matchElement 290 = .ok (.iload 11, 2) := by decide +kernel
theorem dX1_matchElement_292 : decode cX1_matchElement 292 = .ok (.iconst 1, 1) := by decide +kernel
theorem dX1_matchElement_293 : decode cX1_matchElement 293 = .ok (.iload 12, 2) := by decide +kernel
theorem dX1_matchElement_295 : decode cX1_matchElement 295 = .ok (.ishl, 1) := by decide +kernel
theorem dX1_matchElement_296 : decode cX1_matchElement 296 = .ok (.ior, 1) := by decide +kernel
theorem dX1_matchElement_297 : decode cX1_matchElement 297 = .ok (.istore 11, 2) := by decide +kernel
theorem dX1_matchElement_299 : decode cX1_matchElement 299 = .ok (.iinc 12 1, 3) := by decide +kernel
theorem dX1_matchElement_302 : decode cX1_matchElement 302 = .ok (.goto (-206), 3) := by decide +kernel
theorem dX1_matchElement_305 : decode cX1_matchElement 305 = .ok (.aload_n 0, 1) := by decide +kernel
theorem dX1_matchElement_306 : decode cX1_matchElement 306 = .ok (.getfield 9, 3) := by decide +kernel
theorem dX1_matchElement_309 : decode cX1_matchElement 309 = .ok (.iload_n 2, 1) := by decide +kernel
theorem dX1_matchElement_310 : decode cX1_matchElement 310 = .ok (.iload 10, 2) := by decide +kernel
theorem dX1_matchElement_312 : decode cX1_matchElement 312 = .ok (.iastore, 1) := by decide +kernel
theorem dX1_matchElement_313 : decode cX1_matchElement 313 = .ok (.aload_n 0, 1) := by decide +kernel
theorem dX1_matchElement_314 : decode cX1_matchElement 314 = .ok (.getfield 15, 3) := by decide +kernel
theorem dX1_matchElement_317 : decode cX1_matchElement 317 = .ok (.iload_n 2, 1) := by decide +kernel
theorem dX1_matchElement_318 : decode cX1_matchElement 318 = .ok (.iload 11, 2) := by decide +kernel
theorem dX1_matchElement_320 : decode cX1_matchElement 320 = .ok (.iastore, 1) := by decide +kernel
theorem dX1_matchElement_321 : decode cX1_matchElement 321 = .ok (.return_, 1) := by decide +kernel
theorem dX1_hasPrefix_0 : decode cX1_hasPrefix 0 = .ok (.iload_n 1, 1) := by decide +kernel
theorem dX1_hasPrefix_1 : decode cX1_hasPrefix 1 = .ok (.ifCond .le 17, 3) := by decide +kernel
theorem dX1_hasPrefix_4 : decode cX1_hasPrefix 4 = .ok (.iload_n 0, 1) := by decide +kernel
theorem dX1_hasPrefix_5 : decode cX1_hasPrefix 5 = .ok (.iload_n 1, 1) := by decide +kernel
theorem dX1_hasPrefix_6 : decode cX1_hasPrefix 6 = .ok (.iconst 1, 1) := by decide +kernel
theorem dX1_hasPrefix_7 : decode cX1_hasPrefix 7 = .ok (.isub, 1) := by decide +kernel
theorem dX1_hasPrefix_8 : decode cX1_hasPrefix 8 = .ok (.ishr, 1) := by decide +kernel
theorem dX1_hasPrefix_9 : decode cX1_hasPrefix 9 = .ok (.iconst 1, 1) := by decide +kernel
theorem dX1_hasPrefix_10 : decode cX1_hasPrefix 10 = .ok (.iand, 1) := by decide +kernel
theorem dX1_hasPrefix_11 : decode cX1_hasPrefix 11 = .ok (.ifCond .eq 7, 3) := by decide +kernel
theorem dX1_hasPrefix_14 : decode cX1_hasPrefix 14 = .ok (.iconst 1, 1) := by decide +kernel
theorem dX1_hasPrefix_15 : decode cX1_hasPrefix 15 = .ok (.goto 4, 3) := by decide +kernel
theorem dX1_hasPrefix_18 : decode cX1_hasPrefix 18 = .ok (.iconst 0, 1) := by decide +kernel
theorem dX1_hasPrefix_19 : decode cX1_hasPrefix 19 = .ok (.ireturn, 1) := by decide +kernel
theorem dX1_note_0 : decode cX1_note 0 = .ok (.aload_n 0, 1) := by decide +kernel
theorem dX1_note_1 : decode cX1_note 1 = .ok (.getfield 9, 3) := by decide +kernel
theorem dX1_note_4 : decode cX1_note 4 = .ok (.iload_n 1, 1) := by decide +kernel
theorem dX1_note_5 : decode cX1_note 5 = .ok (.iaload, 1) := by decide +kernel
theorem dX1_note_6 : decode cX1_note 6 = .ok (.iload_n 2, 1) := by decide +kernel
theorem dX1_note_7 : decode cX1_note 7 = .ok (.invokestatic 68, 3) := by decide +kernel
theorem dX1_note_10 : decode cX1_note 10 = .ok (.ifCond .eq 18, 3) := by decide +kernel
theorem dX1_note_13 : decode cX1_note 13 = .ok (.aload_n 0, 1) := by decide +kernel
theorem dX1_note_14 : decode cX1_note 14 = .ok (.dup, 1) := by decide +kernel
theorem dX1_note_15 : decode cX1_note 15 = .ok (.getfield 24, 3) := by decide +kernel
theorem dX1_note_18 : decode cX1_note 18 = .ok (.iconst 1, 1) := by decide +kernel
theorem dX1_note_19 : decode cX1_note 19 = .ok (.iload_n 1, 1) := by decide +kernel
theorem dX1_note_20 : decode cX1_note 20 = .ok (.ishl, 1) := by decide +kernel
theorem dX1_note_21 : decode cX1_note 21 = .ok (.ior, 1) := by decide +kernel
theorem dX1_note_22 : decode cX1_note 22 = .ok (.putfield 24, 3) := by decide +kernel
theorem dX1_note_25 : decode cX1_note 25 = .ok (.goto 28, 3) := by decide +kernel
theorem dX1_note_28 : decode cX1_note 28 = .ok (.aload_n 0, 1) := by decide +kernel
theorem dX1_note_29 : decode cX1_note 29 = .ok (.getfield 15, 3) := by decide +kernel
theorem dX1_note_32 : decode cX1_note 32 = .ok (.iload_n 1, 1) := by decide +kernel
theorem dX1_note_33 : decode cX1_note 33 = .ok (.iaload, 1) := by decide +kernel
theorem dX1_note_34 : decode cX1_note 34 = .ok (.iload_n 2, 1) := by decide +kernel
theorem dX1_note_35 : decode cX1_note 35 = .ok (.invokestatic 68, 3) := by decide +kernel
theorem dX1_note_38 : decode cX1_note 38 = .ok (.ifCond .eq 15, 3) := by decide +kernel
theorem dX1_note_41 : decode cX1_note 41 = .ok (.aload_n 0, 1) := by decide +kernel
theorem dX1_note_42 : decode cX1_note 42 = .ok (.dup, 1) := by decide +kernel
theorem dX1_note_43 : decode cX1_note 43 = .ok (.getfield 28, 3) := by decide +kernel
theorem dX1_note_46 : decode cX1_note 46 = .ok (.iconst 1, 1) := by decide +kernel
theorem dX1_note_47 : decode cX1_note 47 = .ok (.iload_n 1, 1) := by decide +kernel
theorem dX1_note_48 : decode cX1_note 48 = .ok (.ishl, 1) := by decide +kernel
theorem dX1_note_49 : decode cX1_note 49 = .ok (.ior, 1) := by decide +kernel
theorem dX1_note_50 : decode cX1_note 50 = .ok (.putfield 28, 3) := by decide +kernel
theorem dX1_note_53 : decode cX1_note 53 = .ok (.return_, 1) := by decide +kernel
theorem dX2_init_0 : decode cX2_init 0 = .ok (.aload_n 0, 1) := by decide +kernel
theorem dX2_init_1 : decode cX2_init 1 = .ok (.invokespecial 3, 3) := by decide +kernel
theorem dX2_init_4 : decode cX2_init 4 = .ok (.aload_n 0, 1) := by decide +kernel
theorem dX2_init_5 : decode cX2_init 5 = .ok (.iconst 4, 1) := by decide +kernel
theorem dX2_init_6 : decode cX2_init 6 = .ok (.newarray .int, 2) := by decide +kernel
theorem dX2_init_8 : decode cX2_init 8 = .ok (.putfield 9, 3) := by decide +kernel
theorem dX2_init_11 : decode cX2_init 11 = .ok (.aload_n 0, 1) := by decide +kernel
theorem dX2_init_12 : decode cX2_init 12 = .ok (.bipush 20, 2) := by decide +kernel
theorem dX2_init_14 : decode cX2_init 14 = .ok (.newarray .int, 2) := by decide +kernel
theorem dX2_init_16 : decode cX2_init 16 = .ok (.putfield 15, 3) := by decide +kernel
theorem dX2_init_19 : decode cX2_init 19 = .ok (.aload_n 0, 1) := by decide +kernel
theorem dX2_init_20 : decode cX2_init 20 = .ok (.bipush 20, 2) := by decide +kernel
theorem dX2_init_22 : decode cX2_init 22 = .ok (.newarray .int, 2) := by decide +kernel
theorem dX2_init_24 : decode cX2_init 24 = .ok (.putfield 18, 3) := by decide +kernel
theorem dX2_init_27 : decode cX2_init 27 = .ok (.return_, 1) := by decide +kernel
theorem dX2_begin_0 : decode cX2_begin 0 = .ok (.aload_n 0, 1) := by decide +kernel
theorem dX2_begin_1 : decode cX2_begin 1 = .ok (.iconst 0, 1) := by decide +kernel
theorem dX2_begin_2 : decode cX2_begin 2 = .ok (.iload_n 2, 1) := by decide +kernel
theorem dX2_begin_3 : decode cX2_begin 3 = .ok (.aload_n 1, 1) := by decide +kernel
theorem dX2_begin_4 : decode cX2_begin 4 = .ok (.arraylength, 1) := by decide +kernel
theorem dX2_begin_5 : decode cX2_begin 5 = .ok (.iconst 4, 1) := by decide +kernel
theorem dX2_begin_6 : decode cX2_begin 6 = .ok (.invokestatic 21, 3) := by decide +kernel
theorem dX2_begin_9 : decode cX2_begin 9 = .ok (.invokestatic 21, 3) := by decide +kernel
theorem dX2_begin_12 : decode cX2_begin 12 = .ok (.invokestatic 27, 3) := by decide +kernel
theorem dX2_begin_15 : decode cX2_begin 15 = .ok (.putfield 30, 3) := by decide +kernel
theorem dX2_begin_18 : decode cX2_begin 18 = .ok (.aload_n 1, 1) := by decide +kernel
theorem dX2_begin_19 : decode cX2_begin 19 = .ok (.iconst 0, 1) := by decide +kernel
theorem dX2_begin_20 : decode cX2_begin 20 = .ok (.aload_n 0, 1) := by decide +kernel
theorem dX2_begin_21 : decode cX2_begin 21 = .ok (.getfield 9, 3) := by decide +kernel
theorem dX2_begin_24 : decode cX2_begin 24 = .ok (.iconst 0, 1) := by decide +kernel
theorem dX2_begin_25 : decode cX2_begin 25 = .ok (.aload_n 0, 1) := by decide +kernel
theorem dX2_begin_26 : decode cX2_begin 26 = .ok (.getfield 30, 3) := by decide +kernel
theorem dX2_begin_29 : decode cX2_begin 29 = .ok (.invokestatic 34, 3) := by decide +kernel
theorem dX2_begin_32 : decode cX2_begin 32 = .ok (.aload_n 0, 1) := by decide +kernel
theorem dX2_begin_33 : decode cX2_begin 33 = .ok (.iconst 0, 1) := by decide +kernel
theorem dX2_begin_34 : decode cX2_begin 34 = .ok (.putfield 40, 3) := by decide +kernel
theorem dX2_begin_37 : decode cX2_begin 37 = .ok (.aload_n 0, 1) := by decide +kernel
theorem dX2_begin_38 : decode cX2_begin 38 = .ok (.iconst 0, 1) := by decide +kernel
theorem dX2_begin_39 : decode cX2_begin 39 = .ok (.putfield 43, 3) := by decide +kernel
theorem dX2_begin_42 : decode cX2_begin 42 = .ok (.aload_n 0, 1) := by decide +kernel
theorem dX2_begin_43 : decode cX2_begin 43 = .ok (.iconst 0, 1) := by decide +kernel
theorem dX2_begin_44 : decode cX2_begin 44 = .ok (.putfield 46, 3) := by decide +kernel
theorem dX2_begin_47 : decode cX2_begin 47 = .ok (.return_, 1) := by decide +kernel
theorem dX2_copyFrom_0 : decode cX2_copyFrom 0 = .ok (.aload_n 1, 1) := by decide +kernel
theorem dX2_copyFrom_1 : decode cX2_copyFrom 1 = .ok (.getfield 9, 3) := by decide +kernel
theorem dX2_copyFrom_4 : decode cX2_copyFrom 4 = .ok (.iconst 0, 1) := by decide +kernel
theorem dX2_copyFrom_5 : decode cX2_copyFrom 5 = .ok (.aload_n 0, 1) := by decide +kernel
theorem dX2_copyFrom_6 : decode cX2_copyFrom 6 = .ok (.getfield 9, 3) := by decide +kernel
theorem dX2_copyFrom_9 : decode cX2_copyFrom 9 = .ok (.iconst 0, 1) := by decide +kernel
theorem dX2_copyFrom_10 : decode cX2_copyFrom 10 = .ok (.aload_n 1, 1) := by decide +kernel
theorem dX2_copyFrom_11 : decode cX2_copyFrom 11 = .ok (.getfield 30, 3) := by decide +kernel
theorem dX2_copyFrom_14 : decode cX2_copyFrom 14 = .ok (.invokestatic 34, 3) := by decide +kernel
theorem dX2_copyFrom_17 : decode cX2_copyFrom 17 = .ok (.aload_n 1, 1) := by decide +kernel
theorem dX2_copyFrom_18 : decode cX2_copyFrom 18 = .ok (.getfield 15, 3) := by decide +kernel
theorem dX2_copyFrom_21 : decode cX2_copyFrom 21 = .ok (.iconst 0, 1) := by decide +kernel
theorem dX2_copyFrom_22 : decode cX2_copyFrom 22 = .ok (.aload_n 0, 1) := by decide +kernel
theorem dX2_copyFrom_23 : decode cX2_copyFrom 23 = .ok (.getfield 15, 3) := by decide +kernel
theorem dX2_copyFrom_26 : decode cX2_copyFrom 26 = .ok (.iconst 0, 1) := by decide +kernel
theorem dX2_copyFrom_27 : decode cX2_copyFrom 27 = .ok (.aload_n 1, 1) := by decide +kernel
theorem dX2_copyFrom_28 : decode cX2_copyFrom 28 = .ok (.getfield 40, 3) := by decide +kernel
theorem dX2_copyFrom_31 : decode cX2_copyFrom 31 = .ok (.invokestatic 34, 3) := by decide +kernel
theorem dX2_copyFrom_34 : decode cX2_copyFrom 34 = .ok (.aload_n 1, 1) := by decide +kernel
theorem dX2_copyFrom_35 : decode cX2_copyFrom 35 = .ok (.getfield 18, 3) := by decide +kernel
theorem dX2_copyFrom_38 : decode cX2_copyFrom 38 = .ok (.iconst 0, 1) := by decide +kernel
theorem dX2_copyFrom_39 : decode cX2_copyFrom 39 = .ok (.aload_n 0, 1) := by decide +kernel
theorem dX2_copyFrom_40 : decode cX2_copyFrom 40 = .ok (.getfield 18, 3) := by decide +kernel
theorem dX2_copyFrom_43 : decode cX2_copyFrom 43 = .ok (.iconst 0, 1) := by decide +kernel
theorem dX2_copyFrom_44 : decode cX2_copyFrom 44 = .ok (.aload_n 1, 1) := by decide +kernel
theorem dX2_copyFrom_45 : decode cX2_copyFrom 45 = .ok (.getfield 40, 3) := by decide +kernel
theorem dX2_copyFrom_48 : decode cX2_copyFrom 48 = .ok (.invokestatic 34, 3) := by decide +kernel
theorem dX2_copyFrom_51 : decode cX2_copyFrom 51 = .ok (.aload_n 0, 1) := by decide +kernel
theorem dX2_copyFrom_52 : decode cX2_copyFrom 52 = .ok (.aload_n 1, 1) := by decide +kernel
theorem dX2_copyFrom_53 : decode cX2_copyFrom 53 = .ok (.getfield 30, 3) := by decide +kernel
theorem dX2_copyFrom_56 : decode cX2_copyFrom 56 = .ok (.putfield 30, 3) := by decide +kernel
theorem dX2_copyFrom_59 : decode cX2_copyFrom 59 = .ok (.aload_n 0, 1) := by decide +kernel
theorem dX2_copyFrom_60 : decode cX2_copyFrom 60 = .ok (.aload_n 1, 1) := by decide +kernel
theorem dX2_copyFrom_61 : decode cX2_copyFrom 61 = .ok (.getfield 40, 3) := by decide +kernel
theorem dX2_copyFrom_64 : decode cX2_copyFrom 64 = .ok (.putfield 40, 3) := by decide +kernel
theorem dX2_copyFrom_67 : decode cX2_copyFrom 67 = .ok (.aload_n 0, 1) := by decide +kernel
theorem dX2_copyFrom_68 : decode cX2_copyFrom 68 = .ok (.aload_n 1, 1) := by decide +kernel
theorem dX2_copyFrom_69 : decode cX2_copyFrom 69 = .ok (.getfield 43, 3) := by decide +kernel
theorem dX2_copyFrom_72 : decode cX2_copyFrom 72 = .ok (.putfield 43, 3) := by decide +kernel
theorem dX2_copyFrom_75 : decode cX2_copyFrom 75 = .ok (.aload_n 0, 1) := by decide +kernel
theorem dX2_copyFrom_76 : decode cX2_copyFrom 76 = .ok (.aload_n 1, 1) := by decide +kernel
theorem dX2_copyFrom_77 : decode cX2_copyFrom 77 = .ok (.getfield 46, 3) := by decide +kernel
theorem dX2_copyFrom_80 : decode cX2_copyFrom 80 = .ok (.putfield 46, 3) := by decide +kernel
theorem dX2_copyFrom_83 : decode cX2_copyFrom 83 = .ok (.return_, 1) := by decide +kernel
theorem dX2_setLastTest_0 : decode cX2_setLastTest 0 = .ok (.aload_n 0, 1) := by decide +kernel
theorem dX2_setLastTest_1 : decode cX2_setLastTest 1 = .ok (.getfield 30, 3) := by decide +kernel
theorem dX2_setLastTest_4 : decode cX2_setLastTest 4 = .ok (.ifCond .le 43, 3) := by decide +kernel
theorem dX2_setLastTest_7 : decode cX2_setLastTest 7 = .ok (.aload_n 0, 1) := by decide +kernel
theorem dX2_setLastTest_8 : decode cX2_setLastTest 8 = .ok (.getfield 9, 3) := by decide +kernel
theorem dX2_setLastTest_11 : decode cX2_setLastTest 11 = .ok (.aload_n 0, 1) := by decide +kernel
theorem dX2_setLastTest_12 : decode cX2_setLastTest 12 = .ok (.getfield 30, 3) := by decide +kernel
theorem dX2_setLastTest_15 : decode cX2_setLastTest 15 = .ok (.iconst 1, 1) := by decide +kernel
theorem dX2_setLastTest_16 : decode cX2_setLastTest 16 = .ok (.isub, 1) := by decide +kernel
theorem dX2_setLastTest_17 : decode cX2_setLastTest 17 = .ok (.iaload, 1) := by decide +kernel
theorem dX2_setLastTest_18 : decode cX2_setLastTest 18 = .ok (.istore_n 2, 1) := by decide +kernel
theorem dX2_setLastTest_19 : decode cX2_setLastTest 19 = .ok (.aload_n 0, 1) := by decide +kernel
theorem dX2_setLastTest_20 : decode cX2_setLastTest 20 = .ok (.getfield 9, 3) := by decide +kernel
theorem dX2_setLastTest_23 : decode cX2_setLastTest 23 = .ok (.aload_n 0, 1) := by decide +kernel
theorem dX2_setLastTest_24 : decode cX2_setLastTest 24 = .ok (.getfield 30, 3) := by decide +kernel
theorem dX2_setLastTest_27 : decode cX2_setLastTest 27 = .ok (.iconst 1, 1) := by decide +kernel
theorem dX2_setLastTest_28 : decode cX2_setLastTest 28 = .ok (.isub, 1) := by decide +kernel
theorem dX2_setLastTest_29 : decode cX2_setLastTest 29 = .ok (.iload_n 2, 1) := by decide +kernel
theorem dX2_setLastTest_30 : decode cX2_setLastTest 30 = .ok (.iload_n 2, 1) := by decide +kernel
theorem dX2_setLastTest_31 : decode cX2_setLastTest 31 = .ok (.bipush 100, 2) := by decide +kernel
theorem dX2_setLastTest_33 : decode cX2_setLastTest 33 = .ok (.idiv, 1) := by decide +kernel
theorem dX2_setLastTest_34 : decode cX2_setLastTest 34 = .ok (.bipush 10, 2) := by decide +kernel
theorem dX2_setLastTest_36 : decode cX2_setLastTest 36 = .ok (.irem, 1) := by decide +kernel
theorem dX2_setLastTest_37 : decode cX2_setLastTest 37 = .ok (.bipush 100, 2) := by decide +kernel
theorem dX2_setLastTest_39 : decode cX2_setLastTest 39 = .ok (.imul, 1) := by decide +kernel
theorem dX2_setLastTest_40 : decode cX2_setLastTest 40 = .ok (.isub, 1) := by decide +kernel
theorem dX2_setLastTest_41 : decode cX2_setLastTest 41 = .ok (.iload_n 1, 1) := by decide +kernel
theorem dX2_setLastTest_42 : decode cX2_setLastTest 42 = .ok (.bipush 100, 2) := by decide +kernel
theorem dX2_setLastTest_44 : decode cX2_setLastTest 44 = .ok (.imul, 1) := by decide +kernel
theorem dX2_setLastTest_45 : decode cX2_setLastTest 45 = .ok (.iadd, 1) := by decide +kernel
theorem dX2_setLastTest_46 : decode cX2_setLastTest 46 = .ok (.iastore, 1) := by decide +kernel
theorem dX2_setLastTest_47 : decode cX2_setLastTest 47 = .ok (.return_, 1) := by decide +kernel
theorem dX2_beginsLike_0 : decode cX2_beginsLike 0 = .ok (.aload_n 0, 1) := by decide +kernel
theorem dX2_beginsLike_1 : decode cX2_beginsLike 1 = .ok (.getfield 30, 3) := by decide +kernel
theorem dX2_beginsLike_4 : decode cX2_beginsLike 4 = .ok (.iload_n 2, 1) := by decide +kernel
theorem dX2_beginsLike_5 : decode cX2_beginsLike 5 = .ok (.if_icmp .lt 11, 3) := by decide +kernel
theorem dX2_beginsLike_8 : decode cX2_beginsLike 8 = .ok (.aload_n 1, 1) := by decide +kernel
theorem dX2_beginsLike_9 : decode cX2_beginsLike 9 = .ok (.getfield 30, 3) := by decide +kernel
theorem dX2_beginsLike_12 : decode cX2_beginsLike 12 = .ok (.iload_n 2, 1) := by decide +kernel
theorem dX2_beginsLike_13 : decode cX2_beginsLike 13 = .ok (.if_icmp .ge 5, 3) := by decide +kernel
theorem dX2_beginsLike_16 : decode cX2_beginsLike 16 = .ok (.iconst 0, 1) := by decide +kernel
theorem dX2_beginsLike_17 : decode cX2_beginsLike 17 = .ok (.ireturn, 1) := by decide +kernel
theorem dX2_beginsLike_18 : decode cX2_beginsLike 18 = .ok (.iconst 0, 1) := by decide +kernel
theorem dX2_beginsLike_19 : decode cX2_beginsLike 19 = .ok (.istore_n 3, 1) := by decide +kernel
theorem dX2_beginsLike_20 : decode cX2_beginsLike 20 = .ok (.iload_n 3, 1) := by decide +kernel
theorem dX2_beginsLike_21 : decode cX2_beginsLike 21 = .ok (.iload_n 2, 1) := by decide +kernel
theorem dX2_beginsLike_22 : decode cX2_beginsLike 22 = .ok (.if_icmp .ge 26, 3) := by decide +kernel
theorem dX2_beginsLike_25 : decode cX2_beginsLike 25 = .ok (.aload_n 0, 1) := by decide +kernel
theorem dX2_beginsLike_26 : decode cX2_beginsLike 26 = .ok (.getfield 9, 3) := by decide +kernel
theorem dX2_beginsLike_29 : decode cX2_beginsLike 29 = .ok (.iload_n 3, 1) := by decide +kernel
theorem dX2_beginsLike_30 : decode cX2_beginsLike 30 = .ok (.iaload, 1) := by decide +kernel
theorem dX2_beginsLike_31 : decode cX2_beginsLike 31 = .ok (.aload_n 1, 1) := by decide +kernel
theorem dX2_beginsLike_32 : decode cX2_beginsLike 32 = .ok (.getfield 9, 3) := by decide +kernel
theorem dX2_beginsLike_35 : decode cX2_beginsLike 35 = .ok (.iload_n 3, 1) := by decide +kernel
theorem dX2_beginsLike_36 : decode cX2_beginsLike 36 = .ok (.iaload, 1) := by decide +kernel
theorem dX2_beginsLike_37 : decode cX2_beginsLike 37 = .ok (.if_icmp .eq 5, 3) := by decide +kernel
theorem dX2_beginsLike_40 : decode cX2_beginsLike 40 = .ok (.iconst 0, 1) := by decide +kernel
theorem dX2_beginsLike_41 : decode cX2_beginsLike 41 = .ok (.ireturn, 1) := by decide +kernel
theorem dX2_beginsLike_42 : decode cX2_beginsLike 42 = .ok (.iinc 3 1, 3) := by decide +kernel
theorem dX2_beginsLike_45 : decode cX2_beginsLike 45 = .ok (.goto (-25), 3) := by decide +kernel
theorem dX2_beginsLike_48 : decode cX2_beginsLike 48 = .ok (.iconst 1, 1) := by decide +kernel
theorem dX2_beginsLike_49 : decode cX2_beginsLike 49 = .ok (.ireturn, 1) := by decide +kernel
theorem dX2_bufferSize_0 : decode cX2_bufferSize 0 = .ok (.aload_n 1, 1) := by decide +kernel
theorem dX2_bufferSize_1 : decode cX2_bufferSize 1 = .ok (.getfield 49, 3) := by decide +kernel
theorem dX2_bufferSize_4 : decode cX2_bufferSize 4 = .ok (.aload_n 1, 1) := by decide +kernel
theorem dX2_bufferSize_5 : decode cX2_bufferSize 5 = .ok (.getfield 54, 3) := by decide +kernel
theorem dX2_bufferSize_8 : decode cX2_bufferSize 8 = .ok (.aload_n 0, 1) := by decide +kernel
theorem dX2_bufferSize_9 : decode cX2_bufferSize 9 = .ok (.getfield 43, 3) := by decide +kernel
theorem dX2_bufferSize_12 : decode cX2_bufferSize 12 = .ok (.iconst (-1), 1) := by decide +kernel
theorem dX2_bufferSize_13 : decode cX2_bufferSize 13 = .ok (.ixor, 1) := by decide +kernel
theorem dX2_bufferSize_14 : decode cX2_bufferSize 14 = .ok (.iand, 1) := by decide +kernel
theorem dX2_bufferSize_15 : decode cX2_bufferSize 15 = .ok (.ior, 1) := by decide +kernel
theorem dX2_bufferSize_16 : decode cX2_bufferSize 16 = .ok (.invokestatic 57, 3) := by decide +kernel
theorem dX2_bufferSize_19 : decode cX2_bufferSize 19 = .ok (.ireturn, 1) := by decide +kernel
theorem dX2_emit_0 : decode cX2_emit 0 = .ok (.aload_n 1, 1) := by decide +kernel
theorem dX2_emit_1 : decode cX2_emit 1 = .ok (.getfield 49, 3) := by decide +kernel
theorem dX2_emit_4 : decode cX2_emit 4 = .ok (.aload_n 1, 1) := by decide +kernel
theorem dX2_emit_5 : decode cX2_emit 5 = .ok (.getfield 49, 3) := by decide +kernel
theorem dX2_emit_8 : decode cX2_emit 8 = .ok (.ineg, 1) := by decide +kernel
theorem dX2_emit_9 : decode cX2_emit 9 = .ok (.iand, 1) := by decide +kernel
theorem dX2_emit_10 : decode cX2_emit 10 = .ok (.istore_n 3, 1) := by decide +kernel
theorem dX2_emit_11 : decode cX2_emit 11 = .ok (.aload_n 1, 1) := by decide +kernel
theorem dX2_emit_12 : decode cX2_emit 12 = .ok (.getfield 54, 3) := by decide +kernel
theorem dX2_emit_15 : decode cX2_emit 15 = .ok (.aload_n 0, 1) := by decide +kernel
theorem dX2_emit_16 : decode cX2_emit 16 = .ok (.getfield 43, 3) := by decide +kernel
theorem dX2_emit_19 : decode cX2_emit 19 = .ok (.iconst (-1), 1) := by decide +kernel
theorem dX2_emit_20 : decode cX2_emit 20 = .ok (.ixor, 1) := by decide +kernel
theorem dX2_emit_21 : decode cX2_emit 21 = .ok (.iand, 1) := by decide +kernel
theorem dX2_emit_22 : decode cX2_emit 22 = .ok (.iload_n 3, 1) := by decide +kernel
theorem dX2_emit_23 : decode cX2_emit 23 = .ok (.iconst 1, 1) := by decide +kernel
theorem dX2_emit_24 : decode cX2_emit 24 = .ok (.isub, 1) := by decide +kernel
theorem dX2_emit_25 : decode cX2_emit 25 = .ok (.iand, 1) := by decide +kernel
theorem dX2_emit_26 : decode cX2_emit 26 = .ok (.istore 4, 2) := by decide +kernel
theorem dX2_emit_28 : decode cX2_emit 28 = .ok (.iconst 0, 1) := by decide +kernel
theorem dX2_emit_29 : decode cX2_emit 29 = .ok (.istore 5, 2) := by decide +kernel
theorem dX2_emit_31 : decode cX2_emit 31 = .ok (.iconst 0, 1) := by decide +kernel
theorem dX2_emit_32 : decode cX2_emit 32 = .ok (.istore 6, 2) := by decide +kernel
theorem dX2_emit_34 : decode cX2_emit 34 = .ok (.iload 6, 2) := by decide +kernel
theorem dX2_emit_36 : decode cX2_emit 36 = .ok (.bipush 20, 2) := by decide +kernel
theorem dX2_emit_38 : decode cX2_emit 38 = .ok (.if_icmp .ge 62, 3) := by decide +kernel
theorem dX2_emit_41 : decode cX2_emit 41 = .ok (.aload_n 0, 1) := by decide +kernel
theorem dX2_emit_42 : decode cX2_emit 42 = .ok (.getfield 40, 3) := by decide +kernel
theorem dX2_emit_45 : decode cX2_emit 45 = .ok (.bipush 20, 2) := by decide +kernel
theorem dX2_emit_47 : decode cX2_emit 47 = .ok (.if_icmp .ge 53, 3) := by decide +kernel
theorem dX2_emit_50 : decode cX2_emit 50 = .ok (.iload 4, 2) := by decide +kernel
theorem dX2_emit_52 : decode cX2_emit 52 = .ok (.iload 6, 2) := by decide +kernel
theorem dX2_emit_54 : decode cX2_emit 54 = .ok (.ishr, 1) := by decide +kernel
theorem dX2_emit_55 : decode cX2_emit 55 = .ok (.iconst 1, 1) := by decide +kernel
theorem dX2_emit_56 : decode cX2_emit 56 = .ok (.iand, 1) := by decide +kernel
theorem dX2_emit_57 : decode cX2_emit 57 = .ok (.ifCond .eq 37, 3) := by decide +kernel
theorem dX2_emit_60 : decode cX2_emit 60 = .ok (.aload_n 0, 1) := by decide +kernel
theorem dX2_emit_61 : decode cX2_emit 61 = .ok (.getfield 15, 3) := by decide +kernel
theorem dX2_emit_64 : decode cX2_emit 64 = .ok (.aload_n 0, 1) := by decide +kernel
theorem dX2_emit_65 : decode cX2_emit 65 = .ok (.getfield 40, 3) := by decide +kernel
theorem dX2_emit_68 : decode cX2_emit 68 = .ok (.iload 6, 2) := by decide +kernel
theorem dX2_emit_70 : decode cX2_emit 70 = .ok (.iastore, 1) := by decide +kernel
theorem dX2_emit_71 : decode cX2_emit 71 = .ok (.aload_n 0, 1) := by decide +kernel
theorem dX2_emit_72 : decode cX2_emit 72 = .ok (.getfield 18, 3) := by decide +kernel
theorem dX2_emit_75 : decode cX2_emit 75 = .ok (.aload_n 0, 1) := by decide +kernel
theorem dX2_emit_76 : decode cX2_emit 76 = .ok (.getfield 40, 3) := by decide +kernel
theorem dX2_emit_79 : decode cX2_emit 79 = .ok (.iload_n 2, 1) := by decide +kernel
theorem dX2_emit_80 : decode cX2_emit 80 = .ok (.iastore, 1) := by decide +kernel
theorem dX2_emit_81 : decode cX2_emit 81 = .ok (.aload_n 0, 1) := by decide +kernel
theorem dX2_emit_82 : decode cX2_emit 82 = .ok (.dup, 1) := by decide +kernel
theorem dX2_emit_83 : decode cX2_emit 83 = .ok (.getfield 40, 3) := by decide +kernel
theorem dX2_emit_86 : decode cX2_emit 86 = .ok (.iconst 1, 1) := by decide +kernel
theorem dX2_emit_87 : decode cX2_emit 87 = .ok (.iadd, 1) := by decide +kernel
theorem dX2_emit_88 : decode cX2_emit 88 = .ok (.putfield 40, 3) := by decide +kernel
theorem dX2_emit_91 : decode cX2_emit 91 = .ok (.iinc 5 1, 3) := by decide +kernel
theorem dX2_emit_94 : decode cX2_emit 94 = .ok (.iinc 6 1, 3) := by decide +kernel
theorem dX2_emit_97 : decode cX2_emit 97 = .ok (.goto (-63), 3) := by decide +kernel
theorem dX2_emit_100 : decode cX2_emit 100 = .ok (.aload_n 0, 1) := by decide +kernel
theorem dX2_emit_101 : decode cX2_emit 101 = .ok (.dup, 1) := by decide +kernel
theorem dX2_emit_102 : decode cX2_emit 102 = .ok (.getfield 43, 3) := by decide +kernel
theorem dX2_emit_105 : decode cX2_emit 105 = .ok (.iload 4, 2) := by decide +kernel
theorem dX2_emit_107 : decode cX2_emit 107 = .ok (.ior, 1) := by decide +kernel
theorem dX2_emit_108 : decode cX2_emit 108 = .ok (.putfield 43, 3) := by decide +kernel
theorem dX2_emit_111 : decode cX2_emit 111 = .ok (.aload_n 0, 1) := by decide +kernel
theorem dX2_emit_112 : decode cX2_emit 112 = .ok (.aload_n 0, 1) := by decide +kernel
theorem dX2_emit_113 : decode cX2_emit 113 = .ok (.getfield 46, 3) := by decide +kernel
theorem dX2_emit_116 : decode cX2_emit 116 = .ok (.aload_n 0, 1) := by decide +kernel
theorem dX2_emit_117 : decode cX2_emit 117 = .ok (.aload_n 1, 1) := by decide +kernel
theorem dX2_emit_118 : decode cX2_emit 118 = .ok (.invokevirtual 63, 3) := by decide +kernel
theorem dX2_emit_121 : decode cX2_emit 121 = .ok (.invokestatic 27, 3) := by decide +kernel
theorem dX2_emit_124 : decode cX2_emit 124 = .ok (.putfield 46, 3) := by decide +kernel
theorem dX2_emit_127 : decode cX2_emit 127 = .ok (.iload 5, 2) := by decide +kernel
theorem dX2_emit_129 : decode cX2_emit 129 = .ok (.ireturn, 1) := by decide +kernel
theorem dX3_init_0 : decode cX3_init 0 = .ok (.aload_n 0, 1) := by decide +kernel
theorem dX3_init_1 : decode cX3_init 1 = .ok (.invokespecial 3, 3) := by decide +kernel
theorem dX3_init_4 : decode cX3_init 4 = .ok (.aload_n 0, 1) := by decide +kernel
theorem dX3_init_5 : decode cX3_init 5 = .ok (.new 9, 3) := by decide +kernel
theorem dX3_init_8 : decode cX3_init 8 = .ok (.dup, 1) := by decide +kernel
theorem dX3_init_9 : decode cX3_init 9 = .ok (.invokespecial 11, 3) := by decide +kernel
theorem dX3_init_12 : decode cX3_init 12 = .ok (.putfield 12, 3) := by decide +kernel
theorem dX3_init_15 : decode cX3_init 15 = .ok (.aload_n 0, 1) := by decide +kernel
theorem dX3_init_16 : decode cX3_init 16 = .ok (.iconst 5, 1) := by decide +kernel
theorem dX3_init_17 : decode cX3_init 17 = .ok (.anewarray 18, 3) := by decide +kernel
theorem dX3_init_20 : decode cX3_init 20 = .ok (.putfield 20, 3) := by decide +kernel
theorem dX3_init_23 : decode cX3_init 23 = .ok (.iconst 0, 1) := by decide +kernel
theorem dX3_init_24 : decode cX3_init 24 = .ok (.istore_n 1, 1) := by decide +kernel
theorem dX3_init_25 : decode cX3_init 25 = .ok (.iload_n 1, 1) := by decide +kernel
theorem dX3_init_26 : decode cX3_init 26 = .ok (.iconst 5, 1) := by decide +kernel
theorem dX3_init_27 : decode cX3_init 27 = .ok (.if_icmp .ge 22, 3) := by decide +kernel
theorem dX3_init_30 : decode cX3_init 30 = .ok (.aload_n 0, 1) := by decide +kernel
theorem dX3_init_31 : decode cX3_init 31 = .ok (.getfield 20, 3) := by decide +kernel
theorem dX3_init_34 : decode cX3_init 34 = .ok (.iload_n 1, 1) := by decide +kernel
theorem dX3_init_35 : decode cX3_init 35 = .ok (.new 18, 3) := by decide +kernel
theorem dX3_init_38 : decode cX3_init 38 = .ok (.dup, 1) := by decide +kernel
theorem dX3_init_39 : decode cX3_init 39 = .ok (.invokespecial 24, 3) := by decide +kernel
theorem dX3_init_42 : decode cX3_init 42 = .ok (.aastore, 1) := by decide +kernel
theorem dX3_init_43 : decode cX3_init 43 = .ok (.iinc 1 1, 3) := by decide +kernel
theorem dX3_init_46 : decode cX3_init 46 = .ok (.goto (-21), 3) := by decide +kernel
theorem dX3_init_49 : decode cX3_init 49 = .ok (.return_, 1) := by decide +kernel
theorem dX3_clear_0 : decode cX3_clear 0 = .ok (.aload_n 0, 1) := by decide +kernel
theorem dX3_clear_1 : decode cX3_clear 1 = .ok (.getfield 12, 3) := by decide +kernel
theorem dX3_clear_4 : decode cX3_clear 4 = .ok (.invokevirtual 25, 3) := by decide +kernel
theorem dX3_clear_7 : decode cX3_clear 7 = .ok (.aload_n 0, 1) := by decide +kernel
theorem dX3_clear_8 : decode cX3_clear 8 = .ok (.iconst 0, 1) := by decide +kernel
theorem dX3_clear_9 : decode cX3_clear 9 = .ok (.putfield 28, 3) := by decide +kernel
theorem dX3_clear_12 : decode cX3_clear 12 = .ok (.return_, 1) := by decide +kernel
theorem dX3_copyFrom_0 : decode cX3_copyFrom 0 = .ok (.aload_n 0, 1) := by decide +kernel
theorem dX3_copyFrom_1 : decode cX3_copyFrom 1 = .ok (.getfield 12, 3) := by decide +kernel
theorem dX3_copyFrom_4 : decode cX3_copyFrom 4 = .ok (.aload_n 1, 1) := by decide +kernel
theorem dX3_copyFrom_5 : decode cX3_copyFrom 5 = .ok (.getfield 12, 3) := by decide +kernel
theorem dX3_copyFrom_8 : decode cX3_copyFrom 8 = .ok (.invokevirtual 32, 3) := by decide +kernel
theorem dX3_copyFrom_11 : decode cX3_copyFrom 11 = .ok (.aload_n 0, 1) := by decide +kernel
theorem dX3_copyFrom_12 : decode cX3_copyFrom 12 = .ok (.aload_n 1, 1) := by decide +kernel
theorem dX3_copyFrom_13 : decode cX3_copyFrom 13 = .ok (.getfield 28, 3) := by decide +kernel
theorem dX3_copyFrom_16 : decode cX3_copyFrom 16 = .ok (.putfield 28, 3) := by decide +kernel
theorem dX3_copyFrom_19 : decode cX3_copyFrom 19 = .ok (.iconst 0, 1) := by decide +kernel
theorem dX3_copyFrom_20 : decode cX3_copyFrom 20 = .ok (.istore_n 2, 1) := by decide +kernel
theorem dX3_copyFrom_21 : decode cX3_copyFrom 21 = .ok (.iload_n 2, 1) := by decide +kernel
theorem dX3_copyFrom_22 : decode cX3_copyFrom 22 = .ok (.aload_n 0, 1) := by decide +kernel
theorem dX3_copyFrom_23 : decode cX3_copyFrom 23 = .ok (.getfield 28, 3) := by decide +kernel
theorem dX3_copyFrom_26 : decode cX3_copyFrom 26 = .ok (.if_icmp .ge 24, 3) := by decide +kernel
theorem dX3_copyFrom_29 : decode cX3_copyFrom 29 = .ok (.aload_n 0, 1) := by decide +kernel
theorem dX3_copyFrom_30 : decode cX3_copyFrom 30 = .ok (.getfield 20, 3) := by decide +kernel
theorem dX3_copyFrom_33 : decode cX3_copyFrom 33 = .ok (.iload_n 2, 1) := by decide +kernel
theorem dX3_copyFrom_34 : decode cX3_copyFrom 34 = .ok (.aaload, 1) := by decide +kernel
theorem dX3_copyFrom_35 : decode cX3_copyFrom 35 = .ok (.aload_n 1, 1) := by decide +kernel
theorem dX3_copyFrom_36 : decode cX3_copyFrom 36 = .ok (.getfield 20, 3) := by decide +kernel
theorem dX3_copyFrom_39 : decode cX3_copyFrom 39 = .ok (.iload_n 2, 1) := by decide +kernel
theorem dX3_copyFrom_40 : decode cX3_copyFrom 40 = .ok (.aaload, 1) := by decide +kernel
theorem dX3_copyFrom_41 : decode cX3_copyFrom 41 = .ok (.invokevirtual 36, 3) := by decide +kernel
theorem dX3_copyFrom_44 : decode cX3_copyFrom 44 = .ok (.iinc 2 1, 3) := by decide +kernel
theorem dX3_copyFrom_47 : decode cX3_copyFrom 47 = .ok (.goto (-26), 3) := by decide +kernel
theorem dX3_copyFrom_50 : decode cX3_copyFrom 50 = .ok (.return_, 1) := by decide +kernel
theorem dX3_addPath_0 : decode cX3_addPath 0 = .ok (.aload_n 0, 1) := by decide +kernel
theorem dX3_addPath_1 : decode cX3_addPath 1 = .ok (.getfield 28, 3) := by decide +kernel
theorem dX3_addPath_4 : decode cX3_addPath 4 = .ok (.iconst 5, 1) := by decide +kernel
theorem dX3_addPath_5 : decode cX3_addPath 5 = .ok (.if_icmp .ge 27, 3) := by decide +kernel
theorem dX3_addPath_8 : decode cX3_addPath 8 = .ok (.aload_n 0, 1) := by decide +kernel
theorem dX3_addPath_9 : decode cX3_addPath 9 = .ok (.getfield 20, 3) := by decide +kernel
theorem dX3_addPath_12 : decode cX3_addPath 12 = .ok (.aload_n 0, 1) := by decide +kernel
theorem dX3_addPath_13 : decode cX3_addPath 13 = .ok (.getfield 28, 3) := by decide +kernel
theorem dX3_addPath_16 : decode cX3_addPath 16 = .ok (.aaload, 1) := by decide +kernel
theorem dX3_addPath_17 : decode cX3_addPath 17 = .ok (.aload_n 1, 1) := by decide +kernel
theorem dX3_addPath_18 : decode cX3_addPath 18 = .ok (.iload_n 2, 1) := by decide +kernel
theorem dX3_addPath_19 : decode cX3_addPath 19 = .ok (.invokevirtual 39, 3) := by decide +kernel
theorem dX3_addPath_22 : decode cX3_addPath 22 = .ok (.aload_n 0, 1) := by decide +kernel
theorem dX3_addPath_23 : decode cX3_addPath 23 = .ok (.dup, 1) := by decide +kernel
theorem dX3_addPath_24 : decode cX3_addPath 24 = .ok (.getfield 28, 3) := by decide +kernel
theorem dX3_addPath_27 : decode cX3_addPath 27 = .ok (.iconst 1, 1) := by decide +kernel
theorem dX3_addPath_28 : decode cX3_addPath 28 = .ok (.iadd, 1) := by decide +kernel
theorem dX3_addPath_29 : decode cX3_addPath 29 = .ok (.putfield 28, 3) := by decide +kernel
theorem dX3_addPath_32 : decode cX3_addPath 32 = .ok (.return_, 1) := by decide +kernel
theorem dX3_emitAll_0 : decode cX3_emitAll 0 = .ok (.iconst 0, 1) := by decide +kernel
theorem dX3_emitAll_1 : decode cX3_emitAll 1 = .ok (.istore_n 2, 1) := by decide +kernel
theorem dX3_emitAll_2 : decode cX3_emitAll 2 = .ok (.iconst 0, 1) := by decide +kernel
theorem dX3_emitAll_3 : decode cX3_emitAll 3 = .ok (.istore_n 3, 1) := by decide +kernel
theorem dX3_emitAll_4 : decode cX3_emitAll 4 = .ok (.iload_n 3, 1) := by decide +kernel
theorem dX3_emitAll_5 : decode cX3_emitAll 5 = .ok (.aload_n 0, 1) := by decide +kernel
theorem dX3_emitAll_6 : decode cX3_emitAll 6 = .ok (.getfield 28, 3) := by decide +kernel
theorem dX3_emitAll_9 : decode cX3_emitAll 9 = .ok (.if_icmp .ge 18, 3) := by decide +kernel
theorem dX3_emitAll_12 : decode cX3_emitAll 12 = .ok (.iload_n 2, 1) := by decide +kernel
theorem dX3_emitAll_13 : decode cX3_emitAll 13 = .ok (.aload_n 0, 1) := by decide +kernel
theorem dX3_emitAll_14 : decode cX3_emitAll 14 = .ok (.iload_n 3, 1) := by decide +kernel
theorem dX3_emitAll_15 : decode cX3_emitAll 15 = .ok (.aload_n 1, 1) := by decide +kernel
theorem dX3_emitAll_16 : decode cX3_emitAll 16 = .ok (.invokevirtual 43, 3) := by decide +kernel
theorem dX3_emitAll_19 : decode cX3_emitAll 19 = .ok (.iadd, 1) := by decide +kernel
theorem dX3_emitAll_20 : decode cX3_emitAll 20 = .ok (.istore_n 2, 1) := by decide +kernel
theorem dX3_emitAll_21 : decode cX3_emitAll 21 = .ok (.iinc 3 1, 3) := by decide +kernel
theorem dX3_emitAll_24 : decode cX3_emitAll 24 = .ok (.goto (-20), 3) := by decide +kernel
theorem dX3_emitAll_27 : decode cX3_emitAll 27 = .ok (.iload_n 2, 1) := by decide +kernel
theorem dX3_emitAll_28 : decode cX3_emitAll 28 = .ok (.ireturn, 1) := by decide +kernel
theorem dX3_emitOne_0 : decode cX3_emitOne 0 = .ok (.aload_n 2, 1) := by decide +kernel
theorem dX3_emitOne_1 : decode cX3_emitOne 1 = .ok (.aload_n 0, 1) := by decide +kernel
theorem dX3_emitOne_2 : decode cX3_emitOne 2 = .ok (.getfield 12, 3) := by decide +kernel
theorem dX3_emitOne_5 : decode cX3_emitOne 5 = .ok (.aload_n 0, 1) := by decide +kernel
theorem dX3_emitOne_6 : decode cX3_emitOne 6 = .ok (.getfield 20, 3) := by decide +kernel
theorem dX3_emitOne_9 : decode cX3_emitOne 9 = .ok (.iload_n 1, 1) := by decide +kernel
theorem dX3_emitOne_10 : decode cX3_emitOne 10 = .ok (.aaload, 1) := by decide +kernel
theorem dX3_emitOne_11 : decode cX3_emitOne 11 = .ok (.invokevirtual 47, 3) := by decide +kernel
theorem dX3_emitOne_14 : decode cX3_emitOne 14 = .ok (.aload_n 0, 1) := by decide +kernel
theorem dX3_emitOne_15 : decode cX3_emitOne 15 = .ok (.getfield 20, 3) := by decide +kernel
theorem dX3_emitOne_18 : decode cX3_emitOne 18 = .ok (.iload_n 1, 1) := by decide +kernel
theorem dX3_emitOne_19 : decode cX3_emitOne 19 = .ok (.aaload, 1) := by decide +kernel
theorem dX3_emitOne_20 : decode cX3_emitOne 20 = .ok (.aload_n 2, 1) := by decide +kernel
theorem dX3_emitOne_21 : decode cX3_emitOne 21 = .ok (.aload_n 0, 1) := by decide +kernel
theorem dX3_emitOne_22 : decode cX3_emitOne 22 = .ok (.getfield 12, 3) := by decide +kernel
theorem dX3_emitOne_25 : decode cX3_emitOne 25 = .ok (.getfield 53, 3) := by decide +kernel
theorem dX3_emitOne_28 : decode cX3_emitOne 28 = .ok (.invokevirtual 56, 3) := by decide +kernel
theorem dX3_emitOne_31 : decode cX3_emitOne 31 = .ok (.ireturn, 1) := by decide +kernel
theorem dX3_differentPrefixes_0 : decode cX3_differentPrefixes 0 = .ok (.iconst 0, 1) := by decide +kernel
theorem dX3_differentPrefixes_1 : decode cX3_differentPrefixes 1 = .ok (.istore_n 1, 1) := by decide +kernel
theorem dX3_differentPrefixes_2 : decode cX3_differentPrefixes 2 = .ok (.iconst 0, 1) := by decide +kernel
theorem dX3_differentPrefixes_3 : decode cX3_differentPrefixes 3 = .ok (.istore_n 2, 1) := by decide +kernel
theorem dX3_differentPrefixes_4 : decode cX3_differentPrefixes 4 = .ok (.iload_n 2, 1) := by decide +kernel
theorem dX3_differentPrefixes_5 : decode cX3_differentPrefixes 5 = .ok (.aload_n 0, 1) := by decide +kernel
theorem dX3_differentPrefixes_6 : decode cX3_differentPrefixes 6 = .ok (.getfield 28, 3) := by decide +kernel
theorem dX3_differentPrefixes_9 : decode cX3_differentPrefixes 9 = .ok (.if_icmp .ge 42, 3) := by decide +kernel
theorem dX3_differentPrefixes_12 : decode cX3_differentPrefixes 12 = .ok (.iconst 1, 1) := by decide +kernel
theorem dX3_differentPrefixes_13 : decode cX3_differentPrefixes 13 = .ok (.istore_n 3, 1) := by decide +kernel
theorem dX3_differentPrefixes_14 : decode cX3_differentPrefixes 14 = .ok (.iload_n 3, 1) := by decide +kernel
theorem dX3_differentPrefixes_15 : decode cX3_differentPrefixes 15 = .ok (.aload_n 0, 1) := by decide +kernel
theorem dX3_differentPrefixes_16 : decode cX3_differentPrefixes 16 = .ok (.getfield 20, 3) := by decide +kernel
theorem dX3_differentPrefixes_19 : decode cX3_differentPrefixes 19 = .ok (.iload_n 2, 1) := by decide +kernel
theorem dX3_differentPrefixes_20 : decode cX3_differentPrefixes 20 = .ok (.aaload, 1) := by decide +kernel
theorem dX3_differentPrefixes_21 : decode cX3_differentPrefixes 21 = .ok (.getfield 60, 3) := by decide +kernel
theorem dX3_differentPrefixes_24 : decode cX3_differentPrefixes 24 = .ok (.if_icmp .gt 21, 3) := by decide +kernel
theorem dX3_differentPrefixes_27 : decode cX3_differentPrefixes 27 = .ok (.aload_n 0, 1) := by decide +kernel
theorem dX3_differentPrefixes_28 : decode cX3_differentPrefixes 28 = .ok (.iload_n 2, 1) := by decide +kernel
theorem dX3_differentPrefixes_29 : decode cX3_differentPrefixes 29 = .ok (.iload_n 3, 1) := by decide +kernel
theorem dX3_differentPrefixes_30 : decode cX3_differentPrefixes 30 = .ok (.invokevirtual 63, 3) := by decide +kernel
theorem dX3_differentPrefixes_33 : decode cX3_differentPrefixes 33 = .ok (.ifCond .ne 6, 3) := by decide +kernel
theorem dX3_differentPrefixes_36 : decode cX3_differentPrefixes 36 = .ok (.iinc 1 1, 3) := by decide +kernel
theorem dX3_differentPrefixes_39 : decode cX3_differentPrefixes 39 = .ok (.iinc 3 1, 3) := by decide +kernel
theorem dX3_differentPrefixes_42 : decode cX3_differentPrefixes 42 = .ok (.goto (-28), 3) := by decide +kernel
theorem dX3_differentPrefixes_45 : decode cX3_differentPrefixes 45 = .ok (.iinc 2 1, 3) := by decide +kernel
theorem dX3_differentPrefixes_48 : decode cX3_differentPrefixes 48 = .ok (.goto (-44), 3) := by decide +kernel
theorem dX3_differentPrefixes_51 : decode cX3_differentPrefixes 51 = .ok (.iload_n 1, 1) := by decide +kernel
theorem dX3_differentPrefixes_52 : decode cX3_differentPrefixes 52 = .ok (.ireturn, 1) := by decide +kernel
theorem dX3_earlierBeginsLike_0 : decode cX3_earlierBeginsLike 0 = .ok (.iconst 0, 1) := by decide +kernel
theorem dX3_earlierBeginsLike_1 : decode cX3_earlierBeginsLike 1 = .ok (.istore_n 3, 1) := by decide +kernel
theorem dX3_earlierBeginsLike_2 : decode cX3_earlierBeginsLike 2 = .ok (.iload_n 3, 1) := by decide +kernel
theorem dX3_earlierBeginsLike_3 : decode cX3_earlierBeginsLike 3 = .ok (.iload_n 1, 1) := by decide +kernel
theorem dX3_earlierBeginsLike_4 : decode cX3_earlierBeginsLike 4 = .ok (.if_icmp .ge 30, 3) := by decide +kernel
theorem dX3_earlierBeginsLike_7 : decode cX3_earlierBeginsLike 7 = .ok (.aload_n 0, 1) := by decide +kernel
theorem dX3_earlierBeginsLike_8 : decode cX3_earlierBeginsLike 8 = .ok (.getfield 20, 3) := by decide +kernel
theorem dX3_earlierBeginsLike_11 : decode cX3_earlierBeginsLike 11 = .ok (.iload_n 3, 1) := by decide +kernel
theorem dX3_earlierBeginsLike_12 : decode cX3_earlierBeginsLike 12 = .ok (.aaload, 1) := by decide +kernel
theorem dX3_earlierBeginsLike_13 : decode cX3_earlierBeginsLike 13 = .ok (.aload_n 0, 1) := by decide +kernel
theorem dX3_earlierBeginsLike_14 : decode cX3_earlierBeginsLike 14 = .ok (.getfield 20, 3) := by decide +kernel
theorem dX3_earlierBeginsLike_17 : decode cX3_earlierBeginsLike 17 = .ok (.iload_n 1, 1) := by decide +kernel
theorem dX3_earlierBeginsLike_18 : decode cX3_earlierBeginsLike 18 = .ok (.aaload, 1) := by decide +kernel
theorem dX3_earlierBeginsLike_19 : decode cX3_earlierBeginsLike 19 = .ok (.iload_n 2, 1) := by decide +kernel
theorem dX3_earlierBeginsLike_20 : decode cX3_earlierBeginsLike 20 = .ok (.invokevirtual 67, 3) := by decide +kernel
theorem dX3_earlierBeginsLike_23 : decode cX3_earlierBeginsLike 23 = .ok (.ifCond .eq 5, 3) := by decide +kernel
theorem dX3_earlierBeginsLike_26 : decode cX3_earlierBeginsLike 26 = .ok (.iconst 1, 1) := by decide +kernel
theorem dX3_earlierBeginsLike_27 : decode cX3_earlierBeginsLike 27 = .ok (.ireturn, 1) := by decide +kernel
theorem dX3_earlierBeginsLike_28 : decode cX3_earlierBeginsLike 28 = .ok (.iinc 3 1, 3) := by decide +kernel
theorem dX3_earlierBeginsLike_31 : decode cX3_earlierBeginsLike 31 = .ok (.goto (-29), 3) := by decide +kernel
theorem dX3_earlierBeginsLike_34 : decode cX3_earlierBeginsLike 34 = .ok (.iconst 0, 1) := by decide +kernel
theorem dX3_earlierBeginsLike_35 : decode cX3_earlierBeginsLike 35 = .ok (.ireturn, 1) := by decide +kernel
theorem dX4_init_0 : decode cX4_init 0 = .ok (.aload_n 0, 1) := by decide +kernel
theorem dX4_init_1 : decode cX4_init 1 = .ok (.invokespecial 3, 3) := by decide +kernel
theorem dX4_init_4 : decode cX4_init 4 = .ok (.aload_n 0, 1) := by decide +kernel
theorem dX4_init_5 : decode cX4_init 5 = .ok (.iconst 4, 1) := by decide +kernel
theorem dX4_init_6 : decode cX4_init 6 = .ok (.newarray .int, 2) := by decide +kernel
theorem dX4_init_8 : decode cX4_init 8 = .ok (.putfield 9, 3) := by decide +kernel
theorem dX4_init_11 : decode cX4_init 11 = .ok (.return_, 1) := by decide +kernel
theorem dX4_begin_0 : decode cX4_begin 0 = .ok (.aload_n 0, 1) := by decide +kernel
theorem dX4_begin_1 : decode cX4_begin 1 = .ok (.iconst 0, 1) := by decide +kernel
theorem dX4_begin_2 : decode cX4_begin 2 = .ok (.putfield 15, 3) := by decide +kernel
theorem dX4_begin_5 : decode cX4_begin 5 = .ok (.aload_n 0, 1) := by decide +kernel
theorem dX4_begin_6 : decode cX4_begin 6 = .ok (.iconst 0, 1) := by decide +kernel
theorem dX4_begin_7 : decode cX4_begin 7 = .ok (.putfield 19, 3) := by decide +kernel
theorem dX4_begin_10 : decode cX4_begin 10 = .ok (.return_, 1) := by decide +kernel
theorem dX4_mayEnd_0 : decode cX4_mayEnd 0 = .ok (.aload_n 0, 1) := by decide +kernel
theorem dX4_mayEnd_1 : decode cX4_mayEnd 1 = .ok (.getfield 15, 3) := by decide +kernel
theorem dX4_mayEnd_4 : decode cX4_mayEnd 4 = .ok (.iconst 1, 1) := by decide +kernel
theorem dX4_mayEnd_5 : decode cX4_mayEnd 5 = .ok (.if_icmp .eq 11, 3) := by decide +kernel
theorem dX4_mayEnd_8 : decode cX4_mayEnd 8 = .ok (.aload_n 0, 1) := by decide +kernel
theorem dX4_mayEnd_9 : decode cX4_mayEnd 9 = .ok (.getfield 15, 3) := by decide +kernel
theorem dX4_mayEnd_12 : decode cX4_mayEnd 12 = .ok (.iconst 2, 1) := by decide +kernel
theorem dX4_mayEnd_13 : decode cX4_mayEnd 13 = .ok (.if_icmp .ne 7, 3) := by decide +kernel
theorem dX4_mayEnd_16 : decode cX4_mayEnd 16 = .ok (.iconst 1, 1) := by decide +kernel
theorem dX4_mayEnd_17 : decode cX4_mayEnd 17 = .ok (.goto 4, 3) := by decide +kernel
theorem dX4_mayEnd_20 : decode cX4_mayEnd 20 = .ok (.iconst 0, 1) := by decide +kernel
theorem dX4_mayEnd_21 : decode cX4_mayEnd 21 = .ok (.ireturn, 1) := by decide +kernel
theorem dX4_takes_0 : decode cX4_takes 0 = .ok (.aload_n 0, 1) := by decide +kernel
theorem dX4_takes_1 : decode cX4_takes 1 = .ok (.getfield 15, 3) := by decide +kernel
theorem dX4_takes_4 : decode cX4_takes 4 = .ok (.tableswitch 216 0 10 #[60, 77, 101, 111, 117, 123, 146, 168, 174, 192, 199], 60) := by decide +kernel
theorem dX4_takes_64 : decode cX4_takes 64 = .ok (.aload_n 0, 1) := by decide +kernel
theorem dX4_takes_65 : decode cX4_takes 65 = .ok (.iload_n 1, 1) := by decide +kernel
theorem dX4_takes_66 : decode cX4_takes 66 = .ok (.bipush 68, 2) := by decide +kernel
theorem dX4_takes_68 : decode cX4_takes 68 = .ok (.if_icmp .ne 7, 3) := by decide +kernel
theorem dX4_takes_71 : decode cX4_takes 71 = .ok (.iconst 1, 1) := by decide +kernel
theorem dX4_takes_72 : decode cX4_takes 72 = .ok (.goto 4, 3) := by decide +kernel
theorem dX4_takes_75 : decode cX4_takes 75 = .ok (.iconst 0, 1) := by decide +kernel
theorem dX4_takes_76 : decode cX4_takes 76 = .ok (.iconst 1, 1) := by decide +kernel
theorem dX4_takes_77 : decode cX4_takes 77 = .ok (.invokevirtual 22, 3) := by decide +kernel
theorem dX4_takes_80 : decode cX4_takes 80 = .ok (.ireturn, 1) := by decide +kernel
theorem dX4_takes_81 : decode cX4_takes 81 = .ok (.iload_n 1, 1) := by decide +kernel
theorem dX4_takes_82 : decode cX4_takes 82 = .ok (.bipush 113, 2) := by decide +kernel
theorem dX4_takes_84 : decode cX4_takes 84 = .ok (.if_icmp .ne 11, 3) := by decide +kernel
theorem dX4_takes_87 : decode cX4_takes 87 = .ok (.aload_n 0, 1) := by decide +kernel
theorem dX4_takes_88 : decode cX4_takes 88 = .ok (.aload_n 2, 1) := by decide +kernel
theorem dX4_takes_89 : decode cX4_takes 89 = .ok (.invokevirtual 26, 3) := by decide +kernel
theorem dX4_takes_92 : decode cX4_takes 92 = .ok (.goto 12, 3) := by decide +kernel
theorem dX4_takes_95 : decode cX4_takes 95 = .ok (.aload_n 0, 1) := by decide +kernel
theorem dX4_takes_96 : decode cX4_takes 96 = .ok (.iload_n 1, 1) := by decide +kernel
theorem dX4_takes_97 : decode cX4_takes 97 = .ok (.aload_n 2, 1) := by decide +kernel
theorem dX4_takes_98 : decode cX4_takes 98 = .ok (.getfield 30, 3) := by decide +kernel
theorem dX4_takes_101 : decode cX4_takes 101 = .ok (.invokevirtual 36, 3) := by decide +kernel
theorem dX4_takes_104 : decode cX4_takes 104 = .ok (.ireturn, 1) := by decide +kernel
theorem dX4_takes_105 : decode cX4_takes 105 = .ok (.aload_n 0, 1) := by decide +kernel
theorem dX4_takes_106 : decode cX4_takes 106 = .ok (.iload_n 1, 1) := by decide +kernel
theorem dX4_takes_107 : decode cX4_takes 107 = .ok (.aload_n 2, 1) := by decide +kernel
theorem dX4_takes_108 : decode cX4_takes 108 = .ok (.getfield 30, 3) := by decide +kernel
theorem dX4_takes_111 : decode cX4_takes 111 = .ok (.invokevirtual 36, 3) := by decide +kernel
theorem dX4_takes_114 : decode cX4_takes 114 = .ok (.ireturn, 1) := by decide +kernel
theorem dX4_takes_115 : decode cX4_takes 115 = .ok (.aload_n 0, 1) := by decide +kernel
theorem dX4_takes_116 : decode cX4_takes 116 = .ok (.iload_n 1, 1) := by decide +kernel
theorem dX4_takes_117 : decode cX4_takes 117 = .ok (.invokevirtual 40, 3) := by decide +kernel
theorem dX4_takes_120 : decode cX4_takes 120 = .ok (.ireturn, 1) := by decide +kernel
theorem dX4_takes_121 : decode cX4_takes 121 = .ok (.aload_n 0, 1) := by decide +kernel
theorem dX4_takes_122 : decode cX4_takes 122 = .ok (.iload_n 1, 1) := by decide +kernel
theorem dX4_takes_123 : decode cX4_takes 123 = .ok (.invokevirtual 44, 3) := by decide +kernel
theorem dX4_takes_126 : decode cX4_takes 126 = .ok (.ireturn, 1) := by decide +kernel
theorem dX4_takes_127 : decode cX4_takes 127 = .ok (.iload_n 1, 1) := by decide +kernel
theorem dX4_takes_128 : decode cX4_takes 128 = .ok (.bipush 91, 2) := by decide +kernel
theorem dX4_takes_130 : decode cX4_takes 130 = .ok (.if_icmp .ne 13, 3) := by decide +kernel
theorem dX4_takes_133 : decode cX4_takes 133 = .ok (.aload_n 0, 1) := by decide +kernel
theorem dX4_takes_134 : decode cX4_takes 134 = .ok (.iconst 1, 1) := by decide +kernel
theorem dX4_takes_135 : decode cX4_takes 135 = .ok (.bipush 6, 2) := by decide +kernel
theorem dX4_takes_137 : decode cX4_takes 137 = .ok (.invokevirtual 22, 3) := by decide +kernel
theorem dX4_takes_140 : decode cX4_takes 140 = .ok (.goto 9, 3) := by decide +kernel
theorem dX4_takes_143 : decode cX4_takes 143 = .ok (.aload_n 0, 1) := by decide +kernel
theorem dX4_takes_144 : decode cX4_takes 144 = .ok (.iload_n 1, 1) := by decide +kernel
theorem dX4_takes_145 : decode cX4_takes 145 = .ok (.aload_n 2, 1) := by decide +kernel
theorem dX4_takes_146 : decode cX4_takes 146 = .ok (.invokevirtual 47, 3) := by decide +kernel
theorem dX4_takes_149 : decode cX4_takes 149 = .ok (.ireturn, 1) := by decide +kernel
theorem dX4_takes_150 : decode cX4_takes 150 = .ok (.iload_n 1, 1) := by decide +kernel
theorem dX4_takes_151 : decode cX4_takes 151 = .ok (.bipush 61, 2) := by decide +kernel
theorem dX4_takes_153 : decode cX4_takes 153 = .ok (.if_icmp .ne 13, 3) := by decide +kernel
theorem dX4_takes_156 : decode cX4_takes 156 = .ok (.aload_n 0, 1) := by decide +kernel
theorem dX4_takes_157 : decode cX4_takes 157 = .ok (.iconst 1, 1) := by decide +kernel
theorem dX4_takes_158 : decode cX4_takes 158 = .ok (.bipush 7, 2) := by decide +kernel
theorem dX4_takes_160 : decode cX4_takes 160 = .ok (.invokevirtual 22, 3) := by decide +kernel
theorem dX4_takes_163 : decode cX4_takes 163 = .ok (.goto 8, 3) := by decide +kernel
theorem dX4_takes_166 : decode cX4_takes 166 = .ok (.aload_n 0, 1) := by decide +kernel
theorem dX4_takes_167 : decode cX4_takes 167 = .ok (.iload_n 1, 1) := by decide +kernel
theorem dX4_takes_168 : decode cX4_takes 168 = .ok (.invokevirtual 51, 3) := by decide +kernel
theorem dX4_takes_171 : decode cX4_takes 171 = .ok (.ireturn, 1) := by decide +kernel
theorem dX4_takes_172 : decode cX4_takes 172 = .ok (.aload_n 0, 1) := by decide +kernel
theorem dX4_takes_173 : decode cX4_takes 173 = .ok (.iload_n 1, 1) := by decide +kernel
theorem dX4_takes_174 : decode cX4_takes 174 = .ok (.invokevirtual 54, 3) := by decide +kernel
theorem dX4_takes_177 : decode cX4_takes 177 = .ok (.ireturn, 1) := by decide +kernel
theorem dX4_takes_178 : decode cX4_takes 178 = .ok (.aload_n 0, 1) := by decide +kernel
theorem dX4_takes_179 : decode cX4_takes 179 = .ok (.iload_n 1, 1) := by decide +kernel
theorem dX4_takes_180 : decode cX4_takes 180 = .ok (.bipush 93, 2) := by decide +kernel
theorem dX4_takes_182 : decode cX4_takes 182 = .ok (.if_icmp .ne 7, 3) := by decide +kernel
theorem dX4_takes_185 : decode cX4_takes 185 = .ok (.iconst 1, 1) := by decide +kernel
theorem dX4_takes_186 : decode cX4_takes 186 = .ok (.goto 4, 3) := by decide +kernel
theorem dX4_takes_189 : decode cX4_takes 189 = .ok (.iconst 0, 1) := by decide +kernel
theorem dX4_takes_190 : decode cX4_takes 190 = .ok (.bipush 9, 2) := by decide +kernel
theorem dX4_takes_192 : decode cX4_takes 192 = .ok (.invokevirtual 22, 3) := by decide +kernel
theorem dX4_takes_195 : decode cX4_takes 195 = .ok (.ireturn, 1) := by decide +kernel
theorem dX4_takes_196 : decode cX4_takes 196 = .ok (.aload_n 0, 1) := by decide +kernel
theorem dX4_takes_197 : decode cX4_takes 197 = .ok (.iload_n 1, 1) := by decide +kernel
theorem dX4_takes_198 : decode cX4_takes 198 = .ok (.aload_n 2, 1) := by decide +kernel
theorem dX4_takes_199 : decode cX4_takes 199 = .ok (.invokevirtual 47, 3) := by decide +kernel
theorem dX4_takes_202 : decode cX4_takes 202 = .ok (.ireturn, 1) := by decide +kernel
theorem dX4_takes_203 : decode cX4_takes 203 = .ok (.aload_n 0, 1) := by decide +kernel
theorem dX4_takes_204 : decode cX4_takes 204 = .ok (.aload_n 2, 1) := by decide +kernel
theorem dX4_takes_205 : decode cX4_takes 205 = .ok (.getfield 30, 3) := by decide +kernel
theorem dX4_takes_208 : decode cX4_takes 208 = .ok (.iload_n 1, 1) := by decide +kernel
theorem dX4_takes_209 : decode cX4_takes 209 = .ok (.invokestatic 57, 3) := by decide +kernel
theorem dX4_takes_212 : decode cX4_takes 212 = .ok (.invokevirtual 61, 3) := by decide +kernel
theorem dX4_takes_215 : decode cX4_takes 215 = .ok (.iconst 2, 1) := by decide +kernel
theorem dX4_takes_216 : decode cX4_takes 216 = .ok (.invokevirtual 22, 3) := by decide +kernel
theorem dX4_takes_219 : decode cX4_takes 219 = .ok (.ireturn, 1) := by decide +kernel
theorem dX4_takes_220 : decode cX4_takes 220 = .ok (.iconst 0, 1) := by decide +kernel
theorem dX4_takes_221 : decode cX4_takes 221 = .ok (.ireturn, 1) := by decide +kernel
theorem dX4_goesOn_0 : decode cX4_goesOn 0 = .ok (.iload_n 1, 1) := by decide +kernel
theorem dX4_goesOn_1 : decode cX4_goesOn 1 = .ok (.ifCond .eq 8, 3) := by decide +kernel
theorem dX4_goesOn_4 : decode cX4_goesOn 4 = .ok (.aload_n 0, 1) := by decide +kernel
theorem dX4_goesOn_5 : decode cX4_goesOn 5 = .ok (.iload_n 2, 1) := by decide +kernel
theorem dX4_goesOn_6 : decode cX4_goesOn 6 = .ok (.putfield 15, 3) := by decide +kernel
theorem dX4_goesOn_9 : decode cX4_goesOn 9 = .ok (.iload_n 1, 1) := by decide +kernel
theorem dX4_goesOn_10 : decode cX4_goesOn 10 = .ok (.ireturn, 1) := by decide +kernel
theorem dX4_beginsPath_0 : decode cX4_beginsPath 0 = .ok (.aload_n 0, 1) := by decide +kernel
theorem dX4_beginsPath_1 : decode cX4_beginsPath 1 = .ok (.iconst 0, 1) := by decide +kernel
theorem dX4_beginsPath_2 : decode cX4_beginsPath 2 = .ok (.putfield 19, 3) := by decide +kernel
theorem dX4_beginsPath_5 : decode cX4_beginsPath 5 = .ok (.aload_n 0, 1) := by decide +kernel
theorem dX4_beginsPath_6 : decode cX4_beginsPath 6 = .ok (.aload_n 1, 1) := by decide +kernel
theorem dX4_beginsPath_7 : decode cX4_beginsPath 7 = .ok (.getfield 67, 3) := by decide +kernel
theorem dX4_beginsPath_10 : decode cX4_beginsPath 10 = .ok (.iconst 5, 1) := by decide +kernel
theorem dX4_beginsPath_11 : decode cX4_beginsPath 11 = .ok (.if_icmp .ge 7, 3) := by decide +kernel
theorem dX4_beginsPath_14 : decode cX4_beginsPath 14 = .ok (.iconst 1, 1) := by decide +kernel
theorem dX4_beginsPath_15 : decode cX4_beginsPath 15 = .ok (.goto 4, 3) := by decide +kernel
theorem dX4_beginsPath_18 : decode cX4_beginsPath 18 = .ok (.iconst 0, 1) := by decide +kernel
theorem dX4_beginsPath_19 : decode cX4_beginsPath 19 = .ok (.iconst 3, 1) := by decide +kernel
theorem dX4_beginsPath_20 : decode cX4_beginsPath 20 = .ok (.invokevirtual 22, 3) := by decide +kernel
theorem dX4_beginsPath_23 : decode cX4_beginsPath 23 = .ok (.ireturn, 1) := by decide +kernel
theorem dX4_takesEvent_0 : decode cX4_takesEvent 0 = .ok (.iload_n 1, 1) := by decide +kernel
theorem dX4_takesEvent_1 : decode cX4_takesEvent 1 = .ok (.bipush 40, 2) := by decide +kernel
theorem dX4_takesEvent_3 : decode cX4_takesEvent 3 = .ok (.if_icmp .ne 24, 3) := by decide +kernel
theorem dX4_takesEvent_6 : decode cX4_takesEvent 6 = .ok (.aload_n 0, 1) := by decide +kernel
theorem dX4_takesEvent_7 : decode cX4_takesEvent 7 = .ok (.aload_n 2, 1) := by decide +kernel
theorem dX4_takesEvent_8 : decode cX4_takesEvent 8 = .ok (.invokevirtual 70, 3) := by decide +kernel
theorem dX4_takesEvent_11 : decode cX4_takesEvent 11 = .ok (.bipush (-9), 2) := by decide +kernel
theorem dX4_takesEvent_13 : decode cX4_takesEvent 13 = .ok (.if_icmp .ne 7, 3) := by decide +kernel
theorem dX4_takesEvent_16 : decode cX4_takesEvent 16 = .ok (.iconst 1, 1) := by decide +kernel
theorem dX4_takesEvent_17 : decode cX4_takesEvent 17 = .ok (.goto 4, 3) := by decide +kernel
theorem dX4_takesEvent_20 : decode cX4_takesEvent 20 = .ok (.iconst 0, 1) := by decide +kernel
theorem dX4_takesEvent_21 : decode cX4_takesEvent 21 = .ok (.bipush 10, 2) := by decide +kernel
theorem dX4_takesEvent_23 : decode cX4_takesEvent 23 = .ok (.invokevirtual 22, 3) := by decide +kernel
theorem dX4_takesEvent_26 : decode cX4_takesEvent 26 = .ok (.ireturn, 1) := by decide +kernel
theorem dX4_takesEvent_27 : decode cX4_takesEvent 27 = .ok (.iload_n 1, 1) := by decide +kernel
theorem dX4_takesEvent_28 : decode cX4_takesEvent 28 = .ok (.bipush 41, 2) := by decide +kernel
theorem dX4_takesEvent_30 : decode cX4_takesEvent 30 = .ok (.if_icmp .ne 13, 3) := by decide +kernel
theorem dX4_takesEvent_33 : decode cX4_takesEvent 33 = .ok (.aload_n 0, 1) := by decide +kernel
theorem dX4_takesEvent_34 : decode cX4_takesEvent 34 = .ok (.aload_n 2, 1) := by decide +kernel
theorem dX4_takesEvent_35 : decode cX4_takesEvent 35 = .ok (.invokevirtual 74, 3) := by decide +kernel
theorem dX4_takesEvent_38 : decode cX4_takesEvent 38 = .ok (.iconst 2, 1) := by decide +kernel
theorem dX4_takesEvent_39 : decode cX4_takesEvent 39 = .ok (.invokevirtual 22, 3) := by decide +kernel
theorem dX4_takesEvent_42 : decode cX4_takesEvent 42 = .ok (.ireturn, 1) := by decide +kernel
theorem dX4_takesEvent_43 : decode cX4_takesEvent 43 = .ok (.aload_n 0, 1) := by decide +kernel
theorem dX4_takesEvent_44 : decode cX4_takesEvent 44 = .ok (.aload_n 2, 1) := by decide +kernel
theorem dX4_takesEvent_45 : decode cX4_takesEvent 45 = .ok (.iload_n 1, 1) := by decide +kernel
theorem dX4_takesEvent_46 : decode cX4_takesEvent 46 = .ok (.invokestatic 78, 3) := by decide +kernel
theorem dX4_takesEvent_49 : decode cX4_takesEvent 49 = .ok (.invokevirtual 81, 3) := by decide +kernel
theorem dX4_takesEvent_52 : decode cX4_takesEvent 52 = .ok (.iconst 2, 1) := by decide +kernel
theorem dX4_takesEvent_53 : decode cX4_takesEvent 53 = .ok (.invokevirtual 22, 3) := by decide +kernel
theorem dX4_takesEvent_56 : decode cX4_takesEvent 56 = .ok (.ireturn, 1) := by decide +kernel
theorem dX4_takesAxis_0 : decode cX4_takesAxis 0 = .ok (.iload_n 1, 1) := by decide +kernel
theorem dX4_takesAxis_1 : decode cX4_takesAxis 1 = .ok (.bipush 47, 2) := by decide +kernel
theorem dX4_takesAxis_3 : decode cX4_takesAxis 3 = .ok (.if_icmp .eq 9, 3) := by decide +kernel
theorem dX4_takesAxis_6 : decode cX4_takesAxis 6 = .ok (.iload_n 1, 1) := by decide +kernel
theorem dX4_takesAxis_7 : decode cX4_takesAxis 7 = .ok (.bipush 33, 2) := by decide +kernel
theorem dX4_takesAxis_9 : decode cX4_takesAxis 9 = .ok (.if_icmp .ne 7, 3) := by decide +kernel
theorem dX4_takesAxis_12 : decode cX4_takesAxis 12 = .ok (.iconst 1, 1) := by decide +kernel
theorem dX4_takesAxis_13 : decode cX4_takesAxis 13 = .ok (.goto 4, 3) := by decide +kernel
theorem dX4_takesAxis_16 : decode cX4_takesAxis 16 = .ok (.iconst 0, 1) := by decide +kernel
theorem dX4_takesAxis_17 : decode cX4_takesAxis 17 = .ok (.istore_n 2, 1) := by decide +kernel
theorem dX4_takesAxis_18 : decode cX4_takesAxis 18 = .ok (.iload_n 2, 1) := by decide +kernel
theorem dX4_takesAxis_19 : decode cX4_takesAxis 19 = .ok (.ifCond .eq 11, 3) := by decide +kernel
theorem dX4_takesAxis_22 : decode cX4_takesAxis 22 = .ok (.aload_n 0, 1) := by decide +kernel
theorem dX4_takesAxis_23 : decode cX4_takesAxis 23 = .ok (.getfield 19, 3) := by decide +kernel
theorem dX4_takesAxis_26 : decode cX4_takesAxis 26 = .ok (.iconst 4, 1) := by decide +kernel
theorem dX4_takesAxis_27 : decode cX4_takesAxis 27 = .ok (.if_icmp .lt 5, 3) := by decide +kernel
theorem dX4_takesAxis_30 : decode cX4_takesAxis 30 = .ok (.iconst 0, 1) := by decide +kernel
theorem dX4_takesAxis_31 : decode cX4_takesAxis 31 = .ok (.ireturn, 1) := by decide +kernel
theorem dX4_takesAxis_32 : decode cX4_takesAxis 32 = .ok (.aload_n 0, 1) := by decide +kernel
theorem dX4_takesAxis_33 : decode cX4_takesAxis 33 = .ok (.getfield 9, 3) := by decide +kernel
theorem dX4_takesAxis_36 : decode cX4_takesAxis 36 = .ok (.aload_n 0, 1) := by decide +kernel
theorem dX4_takesAxis_37 : decode cX4_takesAxis 37 = .ok (.getfield 19, 3) := by decide +kernel
theorem dX4_takesAxis_40 : decode cX4_takesAxis 40 = .ok (.iload_n 1, 1) := by decide +kernel
theorem dX4_takesAxis_41 : decode cX4_takesAxis 41 = .ok (.bipush 33, 2) := by decide +kernel
theorem dX4_takesAxis_43 : decode cX4_takesAxis 43 = .ok (.if_icmp .ne 9, 3) := by decide +kernel
theorem dX4_takesAxis_46 : decode cX4_takesAxis 46 = .ok (.sipush 1000, 3) := by decide +kernel
theorem dX4_takesAxis_49 : decode cX4_takesAxis 49 = .ok (.goto 4, 3) := by decide +kernel
theorem dX4_takesAxis_52 : decode cX4_takesAxis 52 = .ok (.iconst 0, 1) := by decide +kernel
theorem dX4_takesAxis_53 : decode cX4_takesAxis 53 = .ok (.iastore, 1) := by decide +kernel
theorem dX4_takesAxis_54 : decode cX4_takesAxis 54 = .ok (.aload_n 0, 1) := by decide +kernel
theorem dX4_takesAxis_55 : decode cX4_takesAxis 55 = .ok (.dup, 1) := by decide +kernel
theorem dX4_takesAxis_56 : decode cX4_takesAxis 56 = .ok (.getfield 19, 3) := by decide +kernel
theorem dX4_takesAxis_59 : decode cX4_takesAxis 59 = .ok (.iconst 1, 1) := by decide +kernel
theorem dX4_takesAxis_60 : decode cX4_takesAxis 60 = .ok (.iadd, 1) := by decide +kernel
theorem dX4_takesAxis_61 : decode cX4_takesAxis 61 = .ok (.putfield 19, 3) := by decide +kernel
theorem dX4_takesAxis_64 : decode cX4_takesAxis 64 = .ok (.aload_n 0, 1) := by decide +kernel
theorem dX4_takesAxis_65 : decode cX4_takesAxis 65 = .ok (.iconst 1, 1) := by decide +kernel
theorem dX4_takesAxis_66 : decode cX4_takesAxis 66 = .ok (.iconst 4, 1) := by decide +kernel
theorem dX4_takesAxis_67 : decode cX4_takesAxis 67 = .ok (.invokevirtual 22, 3) := by decide +kernel
theorem dX4_takesAxis_70 : decode cX4_takesAxis 70 = .ok (.ireturn, 1) := by decide +kernel
theorem dX4_takesTest_0 : decode cX4_takesTest 0 = .ok (.iload_n 1, 1) := by decide +kernel
theorem dX4_takesTest_1 : decode cX4_takesTest 1 = .ok (.bipush 42, 2) := by decide +kernel
theorem dX4_takesTest_3 : decode cX4_takesTest 3 = .ok (.if_icmp .ne 7, 3) := by decide +kernel
theorem dX4_takesTest_6 : decode cX4_takesTest 6 = .ok (.iconst 5, 1) := by decide +kernel
theorem dX4_takesTest_7 : decode cX4_takesTest 7 = .ok (.goto 7, 3) := by decide +kernel
theorem dX4_takesTest_10 : decode cX4_takesTest 10 = .ok (.iload_n 1, 1) := by decide +kernel
theorem dX4_takesTest_11 : decode cX4_takesTest 11 = .ok (.invokestatic 57, 3) := by decide +kernel
theorem dX4_takesTest_14 : decode cX4_takesTest 14 = .ok (.istore_n 2, 1) := by decide +kernel
theorem dX4_takesTest_15 : decode cX4_takesTest 15 = .ok (.aload_n 0, 1) := by decide +kernel
theorem dX4_takesTest_16 : decode cX4_takesTest 16 = .ok (.iload_n 2, 1) := by decide +kernel
theorem dX4_takesTest_17 : decode cX4_takesTest 17 = .ok (.ifCond .lt 7, 3) := by decide +kernel
theorem dX4_takesTest_20 : decode cX4_takesTest 20 = .ok (.iconst 1, 1) := by decide +kernel
theorem dX4_takesTest_21 : decode cX4_takesTest 21 = .ok (.goto 4, 3) := by decide +kernel
theorem dX4_takesTest_24 : decode cX4_takesTest 24 = .ok (.iconst 0, 1) := by decide +kernel
theorem dX4_takesTest_25 : decode cX4_takesTest 25 = .ok (.iload_n 2, 1) := by decide +kernel
theorem dX4_takesTest_26 : decode cX4_takesTest 26 = .ok (.bipush 100, 2) := by decide +kernel
theorem dX4_takesTest_28 : decode cX4_takesTest 28 = .ok (.imul, 1) := by decide +kernel
theorem dX4_takesTest_29 : decode cX4_takesTest 29 = .ok (.iconst 5, 1) := by decide +kernel
theorem dX4_takesTest_30 : decode cX4_takesTest 30 = .ok (.invokevirtual 84, 3) := by decide +kernel
theorem dX4_takesTest_33 : decode cX4_takesTest 33 = .ok (.ireturn, 1) := by decide +kernel
theorem dX4_takesChildName_0 : decode cX4_takesChildName 0 = .ok (.iload_n 1, 1) := by decide +kernel
theorem dX4_takesChildName_1 : decode cX4_takesChildName 1 = .ok (.invokestatic 57, 3) := by decide +kernel
theorem dX4_takesChildName_4 : decode cX4_takesChildName 4 = .ok (.istore_n 2, 1) := by decide +kernel
theorem dX4_takesChildName_5 : decode cX4_takesChildName 5 = .ok (.aload_n 0, 1) := by decide +kernel
theorem dX4_takesChildName_6 : decode cX4_takesChildName 6 = .ok (.iload_n 2, 1) := by decide +kernel
theorem dX4_takesChildName_7 : decode cX4_takesChildName 7 = .ok (.ifCond .lt 7, 3) := by decide +kernel
theorem dX4_takesChildName_10 : decode cX4_takesChildName 10 = .ok (.iconst 1, 1) := by decide +kernel
theorem dX4_takesChildName_11 : decode cX4_takesChildName 11 = .ok (.goto 4, 3) := by decide +kernel
theorem dX4_takesChildName_14 : decode cX4_takesChildName 14 = .ok (.iconst 0, 1) := by decide +kernel
theorem dX4_takesChildName_15 : decode cX4_takesChildName 15 = .ok (.iconst 1, 1) := by decide +kernel
theorem dX4_takesChildName_16 : decode cX4_takesChildName 16 = .ok (.iload_n 2, 1) := by decide +kernel
theorem dX4_takesChildName_17 : decode cX4_takesChildName 17 = .ok (.iadd, 1) := by decide +kernel
theorem dX4_takesChildName_18 : decode cX4_takesChildName 18 = .ok (.bipush 8, 2) := by decide +kernel
theorem dX4_takesChildName_20 : decode cX4_takesChildName 20 = .ok (.invokevirtual 84, 3) := by decide +kernel
theorem dX4_takesChildName_23 : decode cX4_takesChildName 23 = .ok (.ireturn, 1) := by decide +kernel
theorem dX4_takesFigure_0 : decode cX4_takesFigure 0 = .ok (.iload_n 1, 1) := by decide +kernel
theorem dX4_takesFigure_1 : decode cX4_takesFigure 1 = .ok (.invokestatic 78, 3) := by decide +kernel
theorem dX4_takesFigure_4 : decode cX4_takesFigure 4 = .ok (.istore_n 2, 1) := by decide +kernel
theorem dX4_takesFigure_5 : decode cX4_takesFigure 5 = .ok (.aload_n 0, 1) := by decide +kernel
theorem dX4_takesFigure_6 : decode cX4_takesFigure 6 = .ok (.iload_n 2, 1) := by decide +kernel
theorem dX4_takesFigure_7 : decode cX4_takesFigure 7 = .ok (.ifCond .lt 7, 3) := by decide +kernel
theorem dX4_takesFigure_10 : decode cX4_takesFigure 10 = .ok (.iconst 1, 1) := by decide +kernel
theorem dX4_takesFigure_11 : decode cX4_takesFigure 11 = .ok (.goto 4, 3) := by decide +kernel
theorem dX4_takesFigure_14 : decode cX4_takesFigure 14 = .ok (.iconst 0, 1) := by decide +kernel
theorem dX4_takesFigure_15 : decode cX4_takesFigure 15 = .ok (.bipush 6, 2) := by decide +kernel
theorem dX4_takesFigure_17 : decode cX4_takesFigure 17 = .ok (.iload_n 2, 1) := by decide +kernel
theorem dX4_takesFigure_18 : decode cX4_takesFigure 18 = .ok (.iadd, 1) := by decide +kernel
theorem dX4_takesFigure_19 : decode cX4_takesFigure 19 = .ok (.bipush 8, 2) := by decide +kernel
theorem dX4_takesFigure_21 : decode cX4_takesFigure 21 = .ok (.invokevirtual 84, 3) := by decide +kernel
theorem dX4_takesFigure_24 : decode cX4_takesFigure 24 = .ok (.ireturn, 1) := by decide +kernel
theorem dX4_addsToStep_0 : decode cX4_addsToStep 0 = .ok (.iload_n 1, 1) := by decide +kernel
theorem dX4_addsToStep_1 : decode cX4_addsToStep 1 = .ok (.ifCond .eq 25, 3) := by decide +kernel
theorem dX4_addsToStep_4 : decode cX4_addsToStep 4 = .ok (.aload_n 0, 1) := by decide +kernel
theorem dX4_addsToStep_5 : decode cX4_addsToStep 5 = .ok (.getfield 19, 3) := by decide +kernel
theorem dX4_addsToStep_8 : decode cX4_addsToStep 8 = .ok (.ifCond .le 18, 3) := by decide +kernel
theorem dX4_addsToStep_11 : decode cX4_addsToStep 11 = .ok (.aload_n 0, 1) := by decide +kernel
theorem dX4_addsToStep_12 : decode cX4_addsToStep 12 = .ok (.getfield 9, 3) := by decide +kernel
theorem dX4_addsToStep_15 : decode cX4_addsToStep 15 = .ok (.aload_n 0, 1) := by decide +kernel
theorem dX4_addsToStep_16 : decode cX4_addsToStep 16 = .ok (.getfield 19, 3) := by decide +kernel
theorem dX4_addsToStep_19 : decode cX4_addsToStep 19 = .ok (.iconst 1, 1) := by decide +kernel
theorem dX4_addsToStep_20 : decode cX4_addsToStep 20 = .ok (.isub, 1) := by decide +kernel
theorem dX4_addsToStep_21 : decode cX4_addsToStep 21 = .ok (.dup2, 1) := by decide +kernel
theorem dX4_addsToStep_22 : decode cX4_addsToStep 22 = .ok (.iaload, 1) := by decide +kernel
theorem dX4_addsToStep_23 : decode cX4_addsToStep 23 = .ok (.iload_n 2, 1) := by decide +kernel
theorem dX4_addsToStep_24 : decode cX4_addsToStep 24 = .ok (.iadd, 1) := by decide +kernel
theorem dX4_addsToStep_25 : decode cX4_addsToStep 25 = .ok (.iastore, 1) := by decide +kernel
theorem dX4_addsToStep_26 : decode cX4_addsToStep 26 = .ok (.aload_n 0, 1) := by decide +kernel
theorem dX4_addsToStep_27 : decode cX4_addsToStep 27 = .ok (.iload_n 1, 1) := by decide +kernel
theorem dX4_addsToStep_28 : decode cX4_addsToStep 28 = .ok (.iload_n 3, 1) := by decide +kernel
theorem dX4_addsToStep_29 : decode cX4_addsToStep 29 = .ok (.invokevirtual 22, 3) := by decide +kernel
theorem dX4_addsToStep_32 : decode cX4_addsToStep 32 = .ok (.ireturn, 1) := by decide +kernel
theorem dX4_takesNextStep_0 : decode cX4_takesNextStep 0 = .ok (.iload_n 1, 1) := by decide +kernel
theorem dX4_takesNextStep_1 : decode cX4_takesNextStep 1 = .ok (.bipush 46, 2) := by decide +kernel
theorem dX4_takesNextStep_3 : decode cX4_takesNextStep 3 = .ok (.if_icmp .eq 9, 3) := by decide +kernel
theorem dX4_takesNextStep_6 : decode cX4_takesNextStep 6 = .ok (.aload_n 0, 1) := by decide +kernel
theorem dX4_takesNextStep_7 : decode cX4_takesNextStep 7 = .ok (.iload_n 1, 1) := by decide +kernel
theorem dX4_takesNextStep_8 : decode cX4_takesNextStep 8 = .ok (.invokevirtual 40, 3) := by decide +kernel
theorem dX4_takesNextStep_11 : decode cX4_takesNextStep 11 = .ok (.ireturn, 1) := by decide +kernel
theorem dX4_takesNextStep_12 : decode cX4_takesNextStep 12 = .ok (.aload_n 2, 1) := by decide +kernel
theorem dX4_takesNextStep_13 : decode cX4_takesNextStep 13 = .ok (.aload_n 0, 1) := by decide +kernel
theorem dX4_takesNextStep_14 : decode cX4_takesNextStep 14 = .ok (.getfield 9, 3) := by decide +kernel
theorem dX4_takesNextStep_17 : decode cX4_takesNextStep 17 = .ok (.aload_n 0, 1) := by decide +kernel
theorem dX4_takesNextStep_18 : decode cX4_takesNextStep 18 = .ok (.getfield 19, 3) := by decide +kernel
theorem dX4_takesNextStep_21 : decode cX4_takesNextStep 21 = .ok (.invokevirtual 88, 3) := by decide +kernel
theorem dX4_takesNextStep_24 : decode cX4_takesNextStep 24 = .ok (.aload_n 0, 1) := by decide +kernel
theorem dX4_takesNextStep_25 : decode cX4_takesNextStep 25 = .ok (.iconst 1, 1) := by decide +kernel
theorem dX4_takesNextStep_26 : decode cX4_takesNextStep 26 = .ok (.iconst 1, 1) := by decide +kernel
theorem dX4_takesNextStep_27 : decode cX4_takesNextStep 27 = .ok (.invokevirtual 22, 3) := by decide +kernel
theorem dX4_takesNextStep_30 : decode cX4_takesNextStep 30 = .ok (.ireturn, 1) := by decide +kernel
theorem dX4_nameOf_0 : decode cX4_nameOf 0 = .ok (.iload_n 0, 1) := by decide +kernel
theorem dX4_nameOf_1 : decode cX4_nameOf 1 = .ok (.bipush 97, 2) := by decide +kernel
theorem dX4_nameOf_3 : decode cX4_nameOf 3 = .ok (.if_icmp .lt 16, 3) := by decide +kernel
theorem dX4_nameOf_6 : decode cX4_nameOf 6 = .ok (.iload_n 0, 1) := by decide +kernel
theorem dX4_nameOf_7 : decode cX4_nameOf 7 = .ok (.bipush 101, 2) := by decide +kernel
theorem dX4_nameOf_9 : decode cX4_nameOf 9 = .ok (.if_icmp .gt 10, 3) := by decide +kernel
theorem dX4_nameOf_12 : decode cX4_nameOf 12 = .ok (.iload_n 0, 1) := by decide +kernel
theorem dX4_nameOf_13 : decode cX4_nameOf 13 = .ok (.bipush 97, 2) := by decide +kernel
theorem dX4_nameOf_15 : decode cX4_nameOf 15 = .ok (.isub, 1) := by decide +kernel
theorem dX4_nameOf_16 : decode cX4_nameOf 16 = .ok (.goto 5, 3) := by decide +kernel
theorem dX4_nameOf_19 : decode cX4_nameOf 19 = .ok (.bipush (-9), 2) := by decide +kernel
theorem dX4_nameOf_21 : decode cX4_nameOf 21 = .ok (.ireturn, 1) := by decide +kernel
theorem dX4_figureOf_0 : decode cX4_figureOf 0 = .ok (.iload_n 0, 1) := by decide +kernel
theorem dX4_figureOf_1 : decode cX4_figureOf 1 = .ok (.bipush 48, 2) := by decide +kernel
theorem dX4_figureOf_3 : decode cX4_figureOf 3 = .ok (.if_icmp .lt 16, 3) := by decide +kernel
theorem dX4_figureOf_6 : decode cX4_figureOf 6 = .ok (.iload_n 0, 1) := by decide +kernel
theorem dX4_figureOf_7 : decode cX4_figureOf 7 = .ok (.bipush 57, 2) := by decide +kernel
theorem dX4_figureOf_9 : decode cX4_figureOf 9 = .ok (.if_icmp .gt 10, 3) := by decide +kernel
theorem dX4_figureOf_12 : decode cX4_figureOf 12 = .ok (.iload_n 0, 1) := by decide +kernel
theorem dX4_figureOf_13 : decode cX4_figureOf 13 = .ok (.bipush 48, 2) := by decide +kernel
theorem dX4_figureOf_15 : decode cX4_figureOf 15 = .ok (.isub, 1) := by decide +kernel
theorem dX4_figureOf_16 : decode cX4_figureOf 16 = .ok (.goto 5, 3) := by decide +kernel
theorem dX4_figureOf_19 : decode cX4_figureOf 19 = .ok (.bipush (-9), 2) := by decide +kernel
theorem dX4_figureOf_21 : decode cX4_figureOf 21 = .ok (.ireturn, 1) := by decide +kernel
theorem dX5_init_0 : decode cX5_init 0 = .ok (.aload_n 0, 1) := by decide +kernel
theorem dX5_init_1 : decode cX5_init 1 = .ok (.invokespecial 1, 3) := by decide +kernel
theorem dX5_init_4 : decode cX5_init 4 = .ok (.aload_n 0, 1) := by decide +kernel
theorem dX5_init_5 : decode cX5_init 5 = .ok (.new 7, 3) := by decide +kernel
theorem dX5_init_8 : decode cX5_init 8 = .ok (.dup, 1) := by decide +kernel
theorem dX5_init_9 : decode cX5_init 9 = .ok (.invokespecial 9, 3) := by decide +kernel
theorem dX5_init_12 : decode cX5_init 12 = .ok (.putfield 10, 3) := by decide +kernel
theorem dX5_init_15 : decode cX5_init 15 = .ok (.aload_n 0, 1) := by decide +kernel
theorem dX5_init_16 : decode cX5_init 16 = .ok (.new 7, 3) := by decide +kernel
theorem dX5_init_19 : decode cX5_init 19 = .ok (.dup, 1) := by decide +kernel
theorem dX5_init_20 : decode cX5_init 20 = .ok (.invokespecial 9, 3) := by decide +kernel
theorem dX5_init_23 : decode cX5_init 23 = .ok (.putfield 16, 3) := by decide +kernel
theorem dX5_init_26 : decode cX5_init 26 = .ok (.aload_n 0, 1) := by decide +kernel
theorem dX5_init_27 : decode cX5_init 27 = .ok (.bipush 14, 2) := by decide +kernel
theorem dX5_init_29 : decode cX5_init 29 = .ok (.anewarray 7, 3) := by decide +kernel
theorem dX5_init_32 : decode cX5_init 32 = .ok (.putfield 19, 3) := by decide +kernel
theorem dX5_init_35 : decode cX5_init 35 = .ok (.aload_n 0, 1) := by decide +kernel
theorem dX5_init_36 : decode cX5_init 36 = .ok (.iconst 2, 1) := by decide +kernel
theorem dX5_init_37 : decode cX5_init 37 = .ok (.anewarray 7, 3) := by decide +kernel
theorem dX5_init_40 : decode cX5_init 40 = .ok (.putfield 23, 3) := by decide +kernel
theorem dX5_init_43 : decode cX5_init 43 = .ok (.aload_n 0, 1) := by decide +kernel
theorem dX5_init_44 : decode cX5_init 44 = .ok (.iconst 2, 1) := by decide +kernel
theorem dX5_init_45 : decode cX5_init 45 = .ok (.newarray .boolean, 2) := by decide +kernel
theorem dX5_init_47 : decode cX5_init 47 = .ok (.putfield 26, 3) := by decide +kernel
theorem dX5_init_50 : decode cX5_init 50 = .ok (.aload_n 0, 1) := by decide +kernel
theorem dX5_init_51 : decode cX5_init 51 = .ok (.new 30, 3) := by decide +kernel
theorem dX5_init_54 : decode cX5_init 54 = .ok (.dup, 1) := by decide +kernel
theorem dX5_init_55 : decode cX5_init 55 = .ok (.invokespecial 32, 3) := by decide +kernel
theorem dX5_init_58 : decode cX5_init 58 = .ok (.putfield 33, 3) := by decide +kernel
theorem dX5_init_61 : decode cX5_init 61 = .ok (.aload_n 0, 1) := by decide +kernel
theorem dX5_init_62 : decode cX5_init 62 = .ok (.new 37, 3) := by decide +kernel
theorem dX5_init_65 : decode cX5_init 65 = .ok (.dup, 1) := by decide +kernel
theorem dX5_init_66 : decode cX5_init 66 = .ok (.invokespecial 39, 3) := by decide +kernel
theorem dX5_init_69 : decode cX5_init 69 = .ok (.putfield 40, 3) := by decide +kernel
theorem dX5_init_72 : decode cX5_init 72 = .ok (.aload_n 0, 1) := by decide +kernel
theorem dX5_init_73 : decode cX5_init 73 = .ok (.bipush 99, 2) := by decide +kernel
theorem dX5_init_75 : decode cX5_init 75 = .ok (.newarray .char, 2) := by decide +kernel
theorem dX5_init_77 : decode cX5_init 77 = .ok (.putfield 44, 3) := by decide +kernel
theorem dX5_init_80 : decode cX5_init 80 = .ok (.aload_n 0, 1) := by decide +kernel
theorem dX5_init_81 : decode cX5_init 81 = .ok (.bipush 6, 2) := by decide +kernel
theorem dX5_init_83 : decode cX5_init 83 = .ok (.newarray .int, 2) := by decide +kernel
theorem dX5_init_85 : decode cX5_init 85 = .ok (.putfield 48, 3) := by decide +kernel
theorem dX5_init_88 : decode cX5_init 88 = .ok (.aload_n 0, 1) := by decide +kernel
theorem dX5_init_89 : decode cX5_init 89 = .ok (.bipush 6, 2) := by decide +kernel
theorem dX5_init_91 : decode cX5_init 91 = .ok (.newarray .int, 2) := by decide +kernel
theorem dX5_init_93 : decode cX5_init 93 = .ok (.putfield 52, 3) := by decide +kernel
theorem dX5_init_96 : decode cX5_init 96 = .ok (.aload_n 0, 1) := by decide +kernel
theorem dX5_init_97 : decode cX5_init 97 = .ok (.iconst 4, 1) := by decide +kernel
theorem dX5_init_98 : decode cX5_init 98 = .ok (.newarray .int, 2) := by decide +kernel
theorem dX5_init_100 : decode cX5_init 100 = .ok (.putfield 55, 3) := by decide +kernel
theorem dX5_init_103 : decode cX5_init 103 = .ok (.aload_n 0, 1) := by decide +kernel
theorem dX5_init_104 : decode cX5_init 104 = .ok (.iconst 5, 1) := by decide +kernel
theorem dX5_init_105 : decode cX5_init 105 = .ok (.newarray .int, 2) := by decide +kernel
theorem dX5_init_107 : decode cX5_init 107 = .ok (.putfield 58, 3) := by decide +kernel
theorem dX5_init_110 : decode cX5_init 110 = .ok (.iconst 0, 1) := by decide +kernel
theorem dX5_init_111 : decode cX5_init 111 = .ok (.istore_n 1, 1) := by decide +kernel
theorem dX5_init_112 : decode cX5_init 112 = .ok (.iload_n 1, 1) := by decide +kernel
theorem dX5_init_113 : decode cX5_init 113 = .ok (.bipush 14, 2) := by decide +kernel
theorem dX5_init_115 : decode cX5_init 115 = .ok (.if_icmp .ge 22, 3) := by decide +kernel
theorem dX5_init_118 : decode cX5_init 118 = .ok (.aload_n 0, 1) := by decide +kernel
theorem dX5_init_119 : decode cX5_init 119 = .ok (.getfield 19, 3) := by decide +kernel
theorem dX5_init_122 : decode cX5_init 122 = .ok (.iload_n 1, 1) := by decide +kernel
theorem dX5_init_123 : decode cX5_init 123 = .ok (.new 7, 3) := by decide +kernel
theorem dX5_init_126 : decode cX5_init 126 = .ok (.dup, 1) := by decide +kernel
theorem dX5_init_127 : decode cX5_init 127 = .ok (.invokespecial 9, 3) := by decide +kernel
theorem dX5_init_130 : decode cX5_init 130 = .ok (.aastore, 1) := by decide +kernel
theorem dX5_init_131 : decode cX5_init 131 = .ok (.iinc 1 1, 3) := by decide +kernel
theorem dX5_init_134 : decode cX5_init 134 = .ok (.goto (-22), 3) := by decide +kernel
theorem dX5_init_137 : decode cX5_init 137 = .ok (.iconst 0, 1) := by decide +kernel
theorem dX5_init_138 : decode cX5_init 138 = .ok (.istore_n 1, 1) := by decide +kernel
theorem dX5_init_139 : decode cX5_init 139 = .ok (.iload_n 1, 1) := by decide +kernel
theorem dX5_init_140 : decode cX5_init 140 = .ok (.iconst 2, 1) := by decide +kernel
theorem dX5_init_141 : decode cX5_init 141 = .ok (.if_icmp .ge 22, 3) := by decide +kernel
theorem dX5_init_144 : decode cX5_init 144 = .ok (.aload_n 0, 1) := by decide +kernel
theorem dX5_init_145 : decode cX5_init 145 = .ok (.getfield 23, 3) := by decide +kernel
theorem dX5_init_148 : decode cX5_init 148 = .ok (.iload_n 1, 1) := by decide +kernel
theorem dX5_init_149 : decode cX5_init 149 = .ok (.new 7, 3) := by decide +kernel
theorem dX5_init_152 : decode cX5_init 152 = .ok (.dup, 1) := by decide +kernel
theorem dX5_init_153 : decode cX5_init 153 = .ok (.invokespecial 9, 3) := by decide +kernel
theorem dX5_init_156 : decode cX5_init 156 = .ok (.aastore, 1) := by decide +kernel
theorem dX5_init_157 : decode cX5_init 157 = .ok (.iinc 1 1, 3) := by decide +kernel
theorem dX5_init_160 : decode cX5_init 160 = .ok (.goto (-21), 3) := by decide +kernel
theorem dX5_init_163 : decode cX5_init 163 = .ok (.return_, 1) := by decide +kernel
theorem dX5_write_0 : decode cX5_write 0 = .ok (.iload_n 1, 1) := by decide +kernel
theorem dX5_write_1 : decode cX5_write 1 = .ok (.ifCond .lt 10, 3) := by decide +kernel
theorem dX5_write_4 : decode cX5_write 4 = .ok (.iload_n 1, 1) := by decide +kernel
theorem dX5_write_5 : decode cX5_write 5 = .ok (.sipush 255, 3) := by decide +kernel
theorem dX5_write_8 : decode cX5_write 8 = .ok (.if_icmp .le 6, 3) := by decide +kernel
theorem dX5_write_11 : decode cX5_write 11 = .ok (.bipush (-2), 2) := by decide +kernel
theorem dX5_write_13 : decode cX5_write 13 = .ok (.ireturn, 1) := by decide +kernel
theorem dX5_write_14 : decode cX5_write 14 = .ok (.aload_n 0, 1) := by decide +kernel
theorem dX5_write_15 : decode cX5_write 15 = .ok (.getfield 61, 3) := by decide +kernel
theorem dX5_write_18 : decode cX5_write 18 = .ok (.bipush 99, 2) := by decide +kernel
theorem dX5_write_20 : decode cX5_write 20 = .ok (.if_icmp .lt 6, 3) := by decide +kernel
theorem dX5_write_23 : decode cX5_write 23 = .ok (.bipush (-4), 2) := by decide +kernel
theorem dX5_write_25 : decode cX5_write 25 = .ok (.ireturn, 1) := by decide +kernel
theorem dX5_write_26 : decode cX5_write 26 = .ok (.aload_n 0, 1) := by decide +kernel
theorem dX5_write_27 : decode cX5_write 27 = .ok (.getfield 44, 3) := by decide +kernel
theorem dX5_write_30 : decode cX5_write 30 = .ok (.aload_n 0, 1) := by decide +kernel
theorem dX5_write_31 : decode cX5_write 31 = .ok (.getfield 61, 3) := by decide +kernel
theorem dX5_write_34 : decode cX5_write 34 = .ok (.iload_n 1, 1) := by decide +kernel
theorem dX5_write_35 : decode cX5_write 35 = .ok (.i2c, 1) := by decide +kernel
theorem dX5_write_36 : decode cX5_write 36 = .ok (.castore, 1) := by decide +kernel
theorem dX5_write_37 : decode cX5_write 37 = .ok (.aload_n 0, 1) := by decide +kernel
theorem dX5_write_38 : decode cX5_write 38 = .ok (.dup, 1) := by decide +kernel
theorem dX5_write_39 : decode cX5_write 39 = .ok (.getfield 61, 3) := by decide +kernel
theorem dX5_write_42 : decode cX5_write 42 = .ok (.iconst 1, 1) := by decide +kernel
theorem dX5_write_43 : decode cX5_write 43 = .ok (.iadd, 1) := by decide +kernel
theorem dX5_write_44 : decode cX5_write 44 = .ok (.putfield 61, 3) := by decide +kernel
theorem dX5_write_47 : decode cX5_write 47 = .ok (.aload_n 0, 1) := by decide +kernel
theorem dX5_write_48 : decode cX5_write 48 = .ok (.getfield 61, 3) := by decide +kernel
theorem dX5_write_51 : decode cX5_write 51 = .ok (.ireturn, 1) := by decide +kernel
theorem dX5_wipe_0 : decode cX5_wipe 0 = .ok (.aload_n 0, 1) := by decide +kernel
theorem dX5_wipe_1 : decode cX5_wipe 1 = .ok (.getfield 61, 3) := by decide +kernel
theorem dX5_wipe_4 : decode cX5_wipe 4 = .ok (.istore_n 1, 1) := by decide +kernel
theorem dX5_wipe_5 : decode cX5_wipe 5 = .ok (.aload_n 0, 1) := by decide +kernel
theorem dX5_wipe_6 : decode cX5_wipe 6 = .ok (.iconst 0, 1) := by decide +kernel
theorem dX5_wipe_7 : decode cX5_wipe 7 = .ok (.putfield 61, 3) := by decide +kernel
theorem dX5_wipe_10 : decode cX5_wipe 10 = .ok (.iload_n 1, 1) := by decide +kernel
theorem dX5_wipe_11 : decode cX5_wipe 11 = .ok (.ireturn, 1) := by decide +kernel
theorem dX5_fault_0 : decode cX5_fault 0 = .ok (.aload_n 0, 1) := by decide +kernel
theorem dX5_fault_1 : decode cX5_fault 1 = .ok (.iconst 0, 1) := by decide +kernel
theorem dX5_fault_2 : decode cX5_fault 2 = .ok (.invokevirtual 65, 3) := by decide +kernel
theorem dX5_fault_5 : decode cX5_fault 5 = .ok (.ireturn, 1) := by decide +kernel
theorem dX5_task_0 : decode cX5_task 0 = .ok (.aload_n 0, 1) := by decide +kernel
theorem dX5_task_1 : decode cX5_task 1 = .ok (.iconst 1, 1) := by decide +kernel
theorem dX5_task_2 : decode cX5_task 2 = .ok (.invokevirtual 65, 3) := by decide +kernel
theorem dX5_task_5 : decode cX5_task 5 = .ok (.bipush (-9), 2) := by decide +kernel
theorem dX5_task_7 : decode cX5_task 7 = .ok (.if_icmp .eq 6, 3) := by decide +kernel
theorem dX5_task_10 : decode cX5_task 10 = .ok (.bipush (-3), 2) := by decide +kernel
theorem dX5_task_12 : decode cX5_task 12 = .ok (.ireturn, 1) := by decide +kernel
theorem dX5_task_13 : decode cX5_task 13 = .ok (.aload_n 0, 1) := by decide +kernel
theorem dX5_task_14 : decode cX5_task 14 = .ok (.getfield 10, 3) := by decide +kernel
theorem dX5_task_17 : decode cX5_task 17 = .ok (.aload_n 0, 1) := by decide +kernel
theorem dX5_task_18 : decode cX5_task 18 = .ok (.getfield 16, 3) := by decide +kernel
theorem dX5_task_21 : decode cX5_task 21 = .ok (.invokevirtual 69, 3) := by decide +kernel
theorem dX5_task_24 : decode cX5_task 24 = .ok (.aload_n 0, 1) := by decide +kernel
theorem dX5_task_25 : decode cX5_task 25 = .ok (.invokevirtual 73, 3) := by decide +kernel
theorem dX5_task_28 : decode cX5_task 28 = .ok (.iconst 0, 1) := by decide +kernel
theorem dX5_task_29 : decode cX5_task 29 = .ok (.istore_n 1, 1) := by decide +kernel
theorem dX5_task_30 : decode cX5_task 30 = .ok (.iload_n 1, 1) := by decide +kernel
theorem dX5_task_31 : decode cX5_task 31 = .ok (.iconst 2, 1) := by decide +kernel
theorem dX5_task_32 : decode cX5_task 32 = .ok (.if_icmp .ge 16, 3) := by decide +kernel
theorem dX5_task_35 : decode cX5_task 35 = .ok (.aload_n 0, 1) := by decide +kernel
theorem dX5_task_36 : decode cX5_task 36 = .ok (.getfield 26, 3) := by decide +kernel
theorem dX5_task_39 : decode cX5_task 39 = .ok (.iload_n 1, 1) := by decide +kernel
theorem dX5_task_40 : decode cX5_task 40 = .ok (.iconst 0, 1) := by decide +kernel
theorem dX5_task_41 : decode cX5_task 41 = .ok (.bastore, 1) := by decide +kernel
theorem dX5_task_42 : decode cX5_task 42 = .ok (.iinc 1 1, 3) := by decide +kernel
theorem dX5_task_45 : decode cX5_task 45 = .ok (.goto (-15), 3) := by decide +kernel
theorem dX5_task_48 : decode cX5_task 48 = .ok (.aload_n 0, 1) := by decide +kernel
theorem dX5_task_49 : decode cX5_task 49 = .ok (.getfield 10, 3) := by decide +kernel
theorem dX5_task_52 : decode cX5_task 52 = .ok (.getfield 76, 3) := by decide +kernel
theorem dX5_task_55 : decode cX5_task 55 = .ok (.ireturn, 1) := by decide +kernel
theorem dX5_about_0 : decode cX5_about 0 = .ok (.iload_n 1, 1) := by decide +kernel
theorem dX5_about_1 : decode cX5_about 1 = .ok (.tableswitch 126 0 8 #[51, 59, 70, 81, 92, 103, 111, 116, 121], 51) := by decide +kernel
theorem dX5_about_52 : decode cX5_about 52 = .ok (.aload_n 0, 1) := by decide +kernel
theorem dX5_about_53 : decode cX5_about 53 = .ok (.getfield 10, 3) := by decide +kernel
theorem dX5_about_56 : decode cX5_about 56 = .ok (.getfield 76, 3) := by decide +kernel
theorem dX5_about_59 : decode cX5_about 59 = .ok (.ireturn, 1) := by decide +kernel
theorem dX5_about_60 : decode cX5_about 60 = .ok (.aload_n 0, 1) := by decide +kernel
theorem dX5_about_61 : decode cX5_about 61 = .ok (.getfield 10, 3) := by decide +kernel
theorem dX5_about_64 : decode cX5_about 64 = .ok (.getfield 79, 3) := by decide +kernel
theorem dX5_about_67 : decode cX5_about 67 = .ok (.getfield 83, 3) := by decide +kernel
theorem dX5_about_70 : decode cX5_about 70 = .ok (.ireturn, 1) := by decide +kernel
theorem dX5_about_71 : decode cX5_about 71 = .ok (.aload_n 0, 1) := by decide +kernel
theorem dX5_about_72 : decode cX5_about 72 = .ok (.getfield 10, 3) := by decide +kernel
theorem dX5_about_75 : decode cX5_about 75 = .ok (.getfield 79, 3) := by decide +kernel
theorem dX5_about_78 : decode cX5_about 78 = .ok (.getfield 88, 3) := by decide +kernel
theorem dX5_about_81 : decode cX5_about 81 = .ok (.ireturn, 1) := by decide +kernel
theorem dX5_about_82 : decode cX5_about 82 = .ok (.aload_n 0, 1) := by decide +kernel
theorem dX5_about_83 : decode cX5_about 83 = .ok (.getfield 10, 3) := by decide +kernel
theorem dX5_about_86 : decode cX5_about 86 = .ok (.getfield 79, 3) := by decide +kernel
theorem dX5_about_89 : decode cX5_about 89 = .ok (.invokevirtual 91, 3) := by decide +kernel
theorem dX5_about_92 : decode cX5_about 92 = .ok (.ireturn, 1) := by decide +kernel
theorem dX5_about_93 : decode cX5_about 93 = .ok (.aload_n 0, 1) := by decide +kernel
theorem dX5_about_94 : decode cX5_about 94 = .ok (.getfield 10, 3) := by decide +kernel
theorem dX5_about_97 : decode cX5_about 97 = .ok (.getfield 79, 3) := by decide +kernel
theorem dX5_about_100 : decode cX5_about 100 = .ok (.getfield 95, 3) := by decide +kernel
theorem dX5_about_103 : decode cX5_about 103 = .ok (.ireturn, 1) := by decide +kernel
theorem dX5_about_104 : decode cX5_about 104 = .ok (.aload_n 0, 1) := by decide +kernel
theorem dX5_about_105 : decode cX5_about 105 = .ok (.getfield 10, 3) := by decide +kernel
theorem dX5_about_108 : decode cX5_about 108 = .ok (.invokevirtual 98, 3) := by decide +kernel
theorem dX5_about_111 : decode cX5_about 111 = .ok (.ireturn, 1) := by decide +kernel
theorem dX5_about_112 : decode cX5_about 112 = .ok (.aload_n 0, 1) := by decide +kernel
theorem dX5_about_113 : decode cX5_about 113 = .ok (.getfield 101, 3) := by decide +kernel
theorem dX5_about_116 : decode cX5_about 116 = .ok (.ireturn, 1) := by decide +kernel
theorem dX5_about_117 : decode cX5_about 117 = .ok (.aload_n 0, 1) := by decide +kernel
theorem dX5_about_118 : decode cX5_about 118 = .ok (.getfield 104, 3) := by decide +kernel
theorem dX5_about_121 : decode cX5_about 121 = .ok (.ireturn, 1) := by decide +kernel
theorem dX5_about_122 : decode cX5_about 122 = .ok (.aload_n 0, 1) := by decide +kernel
theorem dX5_about_123 : decode cX5_about 123 = .ok (.getfield 61, 3) := by decide +kernel
theorem dX5_about_126 : decode cX5_about 126 = .ok (.ireturn, 1) := by decide +kernel
theorem dX5_about_127 : decode cX5_about 127 = .ok (.bipush (-2), 2) := by decide +kernel
theorem dX5_about_129 : decode cX5_about 129 = .ok (.ireturn, 1) := by decide +kernel
theorem dX5_element_0 : decode cX5_element 0 = .ok (.aload_n 0, 1) := by decide +kernel
theorem dX5_element_1 : decode cX5_element 1 = .ok (.iload_n 1, 1) := by decide +kernel
theorem dX5_element_2 : decode cX5_element 2 = .ok (.invokevirtual 107, 3) := by decide +kernel
theorem dX5_element_5 : decode cX5_element 5 = .ok (.ifCond .ne 5, 3) := by decide +kernel
theorem dX5_element_8 : decode cX5_element 8 = .ok (.iconst (-1), 1) := by decide +kernel
theorem dX5_element_9 : decode cX5_element 9 = .ok (.ireturn, 1) := by decide +kernel
theorem dX5_element_10 : decode cX5_element 10 = .ok (.aload_n 0, 1) := by decide +kernel
theorem dX5_element_11 : decode cX5_element 11 = .ok (.getfield 10, 3) := by decide +kernel
theorem dX5_element_14 : decode cX5_element 14 = .ok (.getfield 79, 3) := by decide +kernel
theorem dX5_element_17 : decode cX5_element 17 = .ok (.astore_n 3, 1) := by decide +kernel
theorem dX5_element_18 : decode cX5_element 18 = .ok (.iload_n 2, 1) := by decide +kernel
theorem dX5_element_19 : decode cX5_element 19 = .ok (.tableswitch 81 0 5 #[37, 44, 51, 58, 67, 74], 37) := by decide +kernel
theorem dX5_element_56 : decode cX5_element 56 = .ok (.aload_n 3, 1) := by decide +kernel
theorem dX5_element_57 : decode cX5_element 57 = .ok (.getfield 111, 3) := by decide +kernel
theorem dX5_element_60 : decode cX5_element 60 = .ok (.iload_n 1, 1) := by decide +kernel
theorem dX5_element_61 : decode cX5_element 61 = .ok (.iaload, 1) := by decide +kernel
theorem dX5_element_62 : decode cX5_element 62 = .ok (.ireturn, 1) := by decide +kernel
theorem dX5_element_63 : decode cX5_element 63 = .ok (.aload_n 3, 1) := by decide +kernel
theorem dX5_element_64 : decode cX5_element 64 = .ok (.getfield 114, 3) := by decide +kernel
theorem dX5_element_67 : decode cX5_element 67 = .ok (.iload_n 1, 1) := by decide +kernel
theorem dX5_element_68 : decode cX5_element 68 = .ok (.iaload, 1) := by decide +kernel
theorem dX5_element_69 : decode cX5_element 69 = .ok (.ireturn, 1) := by decide +kernel
theorem dX5_element_70 : decode cX5_element 70 = .ok (.aload_n 3, 1) := by decide +kernel
theorem dX5_element_71 : decode cX5_element 71 = .ok (.getfield 117, 3) := by decide +kernel
theorem dX5_element_74 : decode cX5_element 74 = .ok (.iload_n 1, 1) := by decide +kernel
theorem dX5_element_75 : decode cX5_element 75 = .ok (.iaload, 1) := by decide +kernel
theorem dX5_element_76 : decode cX5_element 76 = .ok (.ireturn, 1) := by decide +kernel
theorem dX5_element_77 : decode cX5_element 77 = .ok (.aload_n 3, 1) := by decide +kernel
theorem dX5_element_78 : decode cX5_element 78 = .ok (.getfield 120, 3) := by decide +kernel
theorem dX5_element_81 : decode cX5_element 81 = .ok (.iload_n 1, 1) := by decide +kernel
theorem dX5_element_82 : decode cX5_element 82 = .ok (.ishr, 1) := by decide +kernel
theorem dX5_element_83 : decode cX5_element 83 = .ok (.iconst 1, 1) := by decide +kernel
theorem dX5_element_84 : decode cX5_element 84 = .ok (.iand, 1) := by decide +kernel
theorem dX5_element_85 : decode cX5_element 85 = .ok (.ireturn, 1) := by decide +kernel
theorem dX5_element_86 : decode cX5_element 86 = .ok (.aload_n 3, 1) := by decide +kernel
theorem dX5_element_87 : decode cX5_element 87 = .ok (.getfield 123, 3) := by decide +kernel
theorem dX5_element_90 : decode cX5_element 90 = .ok (.iload_n 1, 1) := by decide +kernel
theorem dX5_element_91 : decode cX5_element 91 = .ok (.iaload, 1) := by decide +kernel
theorem dX5_element_92 : decode cX5_element 92 = .ok (.ireturn, 1) := by decide +kernel
theorem dX5_element_93 : decode cX5_element 93 = .ok (.aload_n 3, 1) := by decide +kernel
theorem dX5_element_94 : decode cX5_element 94 = .ok (.getfield 126, 3) := by decide +kernel
theorem dX5_element_97 : decode cX5_element 97 = .ok (.iload_n 1, 1) := by decide +kernel
theorem dX5_element_98 : decode cX5_element 98 = .ok (.iaload, 1) := by decide +kernel
theorem dX5_element_99 : decode cX5_element 99 = .ok (.ireturn, 1) := by decide +kernel
theorem dX5_element_100 : decode cX5_element 100 = .ok (.bipush (-2), 2) := by decide +kernel
theorem dX5_element_102 : decode cX5_element 102 = .ok (.ireturn, 1) := by decide +kernel
theorem dX5_path_0 : decode cX5_path 0 = .ok (.aload_n 0, 1) := by decide +kernel
theorem dX5_path_1 : decode cX5_path 1 = .ok (.iload_n 1, 1) := by decide +kernel
theorem dX5_path_2 : decode cX5_path 2 = .ok (.invokevirtual 129, 3) := by decide +kernel
theorem dX5_path_5 : decode cX5_path 5 = .ok (.ifCond .ne 5, 3) := by decide +kernel
theorem dX5_path_8 : decode cX5_path 8 = .ok (.iconst (-1), 1) := by decide +kernel
theorem dX5_path_9 : decode cX5_path 9 = .ok (.ireturn, 1) := by decide +kernel
theorem dX5_path_10 : decode cX5_path 10 = .ok (.iload_n 2, 1) := by decide +kernel
theorem dX5_path_11 : decode cX5_path 11 = .ok (.ifCond .lt 9, 3) := by decide +kernel
theorem dX5_path_14 : decode cX5_path 14 = .ok (.iload_n 2, 1) := by decide +kernel
theorem dX5_path_15 : decode cX5_path 15 = .ok (.bipush 6, 2) := by decide +kernel
theorem dX5_path_17 : decode cX5_path 17 = .ok (.if_icmp .le 6, 3) := by decide +kernel
theorem dX5_path_20 : decode cX5_path 20 = .ok (.bipush (-2), 2) := by decide +kernel
theorem dX5_path_22 : decode cX5_path 22 = .ok (.ireturn, 1) := by decide +kernel
theorem dX5_path_23 : decode cX5_path 23 = .ok (.aload_n 0, 1) := by decide +kernel
theorem dX5_path_24 : decode cX5_path 24 = .ok (.aload_n 0, 1) := by decide +kernel
theorem dX5_path_25 : decode cX5_path 25 = .ok (.getfield 10, 3) := by decide +kernel
theorem dX5_path_28 : decode cX5_path 28 = .ok (.iload_n 1, 1) := by decide +kernel
theorem dX5_path_29 : decode cX5_path 29 = .ok (.iload_n 2, 1) := by decide +kernel
theorem dX5_path_30 : decode cX5_path 30 = .ok (.invokevirtual 132, 3) := by decide +kernel
theorem dX5_path_33 : decode cX5_path 33 = .ok (.ireturn, 1) := by decide +kernel
theorem dX5_step_0 : decode cX5_step 0 = .ok (.aload_n 0, 1) := by decide +kernel
theorem dX5_step_1 : decode cX5_step 1 = .ok (.iload_n 1, 1) := by decide +kernel
theorem dX5_step_2 : decode cX5_step 2 = .ok (.invokevirtual 129, 3) := by decide +kernel
theorem dX5_step_5 : decode cX5_step 5 = .ok (.ifCond .eq 23, 3) := by decide +kernel
theorem dX5_step_8 : decode cX5_step 8 = .ok (.iload_n 2, 1) := by decide +kernel
theorem dX5_step_9 : decode cX5_step 9 = .ok (.ifCond .lt 19, 3) := by decide +kernel
theorem dX5_step_12 : decode cX5_step 12 = .ok (.iload_n 2, 1) := by decide +kernel
theorem dX5_step_13 : decode cX5_step 13 = .ok (.aload_n 0, 1) := by decide +kernel
theorem dX5_step_14 : decode cX5_step 14 = .ok (.getfield 10, 3) := by decide +kernel
theorem dX5_step_17 : decode cX5_step 17 = .ok (.getfield 136, 3) := by decide +kernel
theorem dX5_step_20 : decode cX5_step 20 = .ok (.iload_n 1, 1) := by decide +kernel
theorem dX5_step_21 : decode cX5_step 21 = .ok (.aaload, 1) := by decide +kernel
theorem dX5_step_22 : decode cX5_step 22 = .ok (.getfield 140, 3) := by decide +kernel
theorem dX5_step_25 : decode cX5_step 25 = .ok (.if_icmp .lt 5, 3) := by decide +kernel
theorem dX5_step_28 : decode cX5_step 28 = .ok (.iconst (-1), 1) := by decide +kernel
theorem dX5_step_29 : decode cX5_step 29 = .ok (.ireturn, 1) := by decide +kernel
theorem dX5_step_30 : decode cX5_step 30 = .ok (.aload_n 0, 1) := by decide +kernel
theorem dX5_step_31 : decode cX5_step 31 = .ok (.getfield 10, 3) := by decide +kernel
theorem dX5_step_34 : decode cX5_step 34 = .ok (.getfield 136, 3) := by decide +kernel
theorem dX5_step_37 : decode cX5_step 37 = .ok (.iload_n 1, 1) := by decide +kernel
theorem dX5_step_38 : decode cX5_step 38 = .ok (.aaload, 1) := by decide +kernel
theorem dX5_step_39 : decode cX5_step 39 = .ok (.getfield 145, 3) := by decide +kernel
theorem dX5_step_42 : decode cX5_step 42 = .ok (.iload_n 2, 1) := by decide +kernel
theorem dX5_step_43 : decode cX5_step 43 = .ok (.iaload, 1) := by decide +kernel
theorem dX5_step_44 : decode cX5_step 44 = .ok (.ireturn, 1) := by decide +kernel
theorem dX5_is_0 : decode cX5_is 0 = .ok (.aload_n 0, 1) := by decide +kernel
theorem dX5_is_1 : decode cX5_is 1 = .ok (.iload_n 1, 1) := by decide +kernel
theorem dX5_is_2 : decode cX5_is 2 = .ok (.invokevirtual 129, 3) := by decide +kernel
theorem dX5_is_5 : decode cX5_is 5 = .ok (.ifCond .eq 11, 3) := by decide +kernel
theorem dX5_is_8 : decode cX5_is 8 = .ok (.aload_n 0, 1) := by decide +kernel
theorem dX5_is_9 : decode cX5_is 9 = .ok (.iload_n 2, 1) := by decide +kernel
theorem dX5_is_10 : decode cX5_is 10 = .ok (.invokevirtual 107, 3) := by decide +kernel
theorem dX5_is_13 : decode cX5_is 13 = .ok (.ifCond .ne 5, 3) := by decide +kernel
theorem dX5_is_16 : decode cX5_is 16 = .ok (.iconst (-1), 1) := by decide +kernel
theorem dX5_is_17 : decode cX5_is 17 = .ok (.ireturn, 1) := by decide +kernel
theorem dX5_is_18 : decode cX5_is 18 = .ok (.aload_n 0, 1) := by decide +kernel
theorem dX5_is_19 : decode cX5_is 19 = .ok (.getfield 33, 3) := by decide +kernel
theorem dX5_is_22 : decode cX5_is 22 = .ok (.aload_n 0, 1) := by decide +kernel
theorem dX5_is_23 : decode cX5_is 23 = .ok (.getfield 10, 3) := by decide +kernel
theorem dX5_is_26 : decode cX5_is 26 = .ok (.getfield 79, 3) := by decide +kernel
theorem dX5_is_29 : decode cX5_is 29 = .ok (.aload_n 0, 1) := by decide +kernel
theorem dX5_is_30 : decode cX5_is 30 = .ok (.getfield 10, 3) := by decide +kernel
theorem dX5_is_33 : decode cX5_is 33 = .ok (.getfield 136, 3) := by decide +kernel
theorem dX5_is_36 : decode cX5_is 36 = .ok (.iload_n 1, 1) := by decide +kernel
theorem dX5_is_37 : decode cX5_is 37 = .ok (.aaload, 1) := by decide +kernel
theorem dX5_is_38 : decode cX5_is 38 = .ok (.invokevirtual 148, 3) := by decide +kernel
theorem dX5_is_41 : decode cX5_is 41 = .ok (.aload_n 0, 1) := by decide +kernel
theorem dX5_is_42 : decode cX5_is 42 = .ok (.getfield 33, 3) := by decide +kernel
theorem dX5_is_45 : decode cX5_is 45 = .ok (.getfield 152, 3) := by decide +kernel
theorem dX5_is_48 : decode cX5_is 48 = .ok (.iload_n 2, 1) := by decide +kernel
theorem dX5_is_49 : decode cX5_is 49 = .ok (.ishr, 1) := by decide +kernel
theorem dX5_is_50 : decode cX5_is 50 = .ok (.iconst 1, 1) := by decide +kernel
theorem dX5_is_51 : decode cX5_is 51 = .ok (.iand, 1) := by decide +kernel
theorem dX5_is_52 : decode cX5_is 52 = .ok (.ifCond .eq 5, 3) := by decide +kernel
theorem dX5_is_55 : decode cX5_is 55 = .ok (.iconst 2, 1) := by decide +kernel
theorem dX5_is_56 : decode cX5_is 56 = .ok (.ireturn, 1) := by decide +kernel
theorem dX5_is_57 : decode cX5_is 57 = .ok (.aload_n 0, 1) := by decide +kernel
theorem dX5_is_58 : decode cX5_is 58 = .ok (.getfield 33, 3) := by decide +kernel
theorem dX5_is_61 : decode cX5_is 61 = .ok (.getfield 155, 3) := by decide +kernel
theorem dX5_is_64 : decode cX5_is 64 = .ok (.iload_n 2, 1) := by decide +kernel
theorem dX5_is_65 : decode cX5_is 65 = .ok (.ishr, 1) := by decide +kernel
theorem dX5_is_66 : decode cX5_is 66 = .ok (.iconst 1, 1) := by decide +kernel
theorem dX5_is_67 : decode cX5_is 67 = .ok (.iand, 1) := by decide +kernel
theorem dX5_is_68 : decode cX5_is 68 = .ok (.ireturn, 1) := by decide +kernel
theorem dX5_ends_0 : decode cX5_ends 0 = .ok (.aload_n 0, 1) := by decide +kernel
theorem dX5_ends_1 : decode cX5_ends 1 = .ok (.iload_n 1, 1) := by decide +kernel
theorem dX5_ends_2 : decode cX5_ends 2 = .ok (.invokevirtual 129, 3) := by decide +kernel
theorem dX5_ends_5 : decode cX5_ends 5 = .ok (.ifCond .eq 11, 3) := by decide +kernel
theorem dX5_ends_8 : decode cX5_ends 8 = .ok (.aload_n 0, 1) := by decide +kernel
theorem dX5_ends_9 : decode cX5_ends 9 = .ok (.iload_n 2, 1) := by decide +kernel
theorem dX5_ends_10 : decode cX5_ends 10 = .ok (.invokevirtual 107, 3) := by decide +kernel
theorem dX5_ends_13 : decode cX5_ends 13 = .ok (.ifCond .ne 5, 3) := by decide +kernel
theorem dX5_ends_16 : decode cX5_ends 16 = .ok (.iconst (-1), 1) := by decide +kernel
theorem dX5_ends_17 : decode cX5_ends 17 = .ok (.ireturn, 1) := by decide +kernel
theorem dX5_ends_18 : decode cX5_ends 18 = .ok (.aload_n 0, 1) := by decide +kernel
theorem dX5_ends_19 : decode cX5_ends 19 = .ok (.getfield 33, 3) := by decide +kernel
theorem dX5_ends_22 : decode cX5_ends 22 = .ok (.aload_n 0, 1) := by decide +kernel
theorem dX5_ends_23 : decode cX5_ends 23 = .ok (.getfield 10, 3) := by decide +kernel
theorem dX5_ends_26 : decode cX5_ends 26 = .ok (.getfield 79, 3) := by decide +kernel
theorem dX5_ends_29 : decode cX5_ends 29 = .ok (.aload_n 0, 1) := by decide +kernel
theorem dX5_ends_30 : decode cX5_ends 30 = .ok (.getfield 10, 3) := by decide +kernel
theorem dX5_ends_33 : decode cX5_ends 33 = .ok (.getfield 136, 3) := by decide +kernel
theorem dX5_ends_36 : decode cX5_ends 36 = .ok (.iload_n 1, 1) := by decide +kernel
theorem dX5_ends_37 : decode cX5_ends 37 = .ok (.aaload, 1) := by decide +kernel
theorem dX5_ends_38 : decode cX5_ends 38 = .ok (.invokevirtual 148, 3) := by decide +kernel
theorem dX5_ends_41 : decode cX5_ends 41 = .ok (.aload_n 0, 1) := by decide +kernel
theorem dX5_ends_42 : decode cX5_ends 42 = .ok (.getfield 33, 3) := by decide +kernel
theorem dX5_ends_45 : decode cX5_ends 45 = .ok (.getfield 158, 3) := by decide +kernel
theorem dX5_ends_48 : decode cX5_ends 48 = .ok (.iload_n 2, 1) := by decide +kernel
theorem dX5_ends_49 : decode cX5_ends 49 = .ok (.iaload, 1) := by decide +kernel
theorem dX5_ends_50 : decode cX5_ends 50 = .ok (.ireturn, 1) := by decide +kernel
theorem dX5_out_0 : decode cX5_out 0 = .ok (.aload_n 0, 1) := by decide +kernel
theorem dX5_out_1 : decode cX5_out 1 = .ok (.iload_n 1, 1) := by decide +kernel
theorem dX5_out_2 : decode cX5_out 2 = .ok (.invokevirtual 129, 3) := by decide +kernel
theorem dX5_out_5 : decode cX5_out 5 = .ok (.ifCond .ne 5, 3) := by decide +kernel
theorem dX5_out_8 : decode cX5_out 8 = .ok (.iconst (-1), 1) := by decide +kernel
theorem dX5_out_9 : decode cX5_out 9 = .ok (.ireturn, 1) := by decide +kernel
theorem dX5_out_10 : decode cX5_out 10 = .ok (.aload_n 0, 1) := by decide +kernel
theorem dX5_out_11 : decode cX5_out 11 = .ok (.getfield 10, 3) := by decide +kernel
theorem dX5_out_14 : decode cX5_out 14 = .ok (.getfield 136, 3) := by decide +kernel
theorem dX5_out_17 : decode cX5_out 17 = .ok (.iload_n 1, 1) := by decide +kernel
theorem dX5_out_18 : decode cX5_out 18 = .ok (.aaload, 1) := by decide +kernel
theorem dX5_out_19 : decode cX5_out 19 = .ok (.astore 4, 2) := by decide +kernel
theorem dX5_out_21 : decode cX5_out 21 = .ok (.iload_n 2, 1) := by decide +kernel
theorem dX5_out_22 : decode cX5_out 22 = .ok (.ifCond .lt 12, 3) := by decide +kernel
theorem dX5_out_25 : decode cX5_out 25 = .ok (.iload_n 2, 1) := by decide +kernel
theorem dX5_out_26 : decode cX5_out 26 = .ok (.aload 4, 2) := by decide +kernel
theorem dX5_out_28 : decode cX5_out 28 = .ok (.getfield 161, 3) := by decide +kernel
theorem dX5_out_31 : decode cX5_out 31 = .ok (.if_icmp .lt 6, 3) := by decide +kernel
theorem dX5_out_34 : decode cX5_out 34 = .ok (.bipush (-9), 2) := by decide +kernel
theorem dX5_out_36 : decode cX5_out 36 = .ok (.ireturn, 1) := by decide +kernel
theorem dX5_out_37 : decode cX5_out 37 = .ok (.iload_n 3, 1) := by decide +kernel
theorem dX5_out_38 : decode cX5_out 38 = .ok (.ifCond .eq 13, 3) := by decide +kernel
theorem dX5_out_41 : decode cX5_out 41 = .ok (.aload 4, 2) := by decide +kernel
theorem dX5_out_43 : decode cX5_out 43 = .ok (.getfield 164, 3) := by decide +kernel
theorem dX5_out_46 : decode cX5_out 46 = .ok (.iload_n 2, 1) := by decide +kernel
theorem dX5_out_47 : decode cX5_out 47 = .ok (.iaload, 1) := by decide +kernel
theorem dX5_out_48 : decode cX5_out 48 = .ok (.goto 10, 3) := by decide +kernel
theorem dX5_out_51 : decode cX5_out 51 = .ok (.aload 4, 2) := by decide +kernel
theorem dX5_out_53 : decode cX5_out 53 = .ok (.getfield 167, 3) := by decide +kernel
theorem dX5_out_56 : decode cX5_out 56 = .ok (.iload_n 2, 1) := by decide +kernel
theorem dX5_out_57 : decode cX5_out 57 = .ok (.iaload, 1) := by decide +kernel
theorem dX5_out_58 : decode cX5_out 58 = .ok (.ireturn, 1) := by decide +kernel
theorem dX5_open_0 : decode cX5_open 0 = .ok (.iload_n 1, 1) := by decide +kernel
theorem dX5_open_1 : decode cX5_open 1 = .ok (.ifCond .lt 8, 3) := by decide +kernel
theorem dX5_open_4 : decode cX5_open 4 = .ok (.iload_n 1, 1) := by decide +kernel
theorem dX5_open_5 : decode cX5_open 5 = .ok (.iconst 5, 1) := by decide +kernel
theorem dX5_open_6 : decode cX5_open 6 = .ok (.if_icmp .lt 6, 3) := by decide +kernel
theorem dX5_open_9 : decode cX5_open 9 = .ok (.bipush (-2), 2) := by decide +kernel
theorem dX5_open_11 : decode cX5_open 11 = .ok (.ireturn, 1) := by decide +kernel
theorem dX5_open_12 : decode cX5_open 12 = .ok (.aload_n 0, 1) := by decide +kernel
theorem dX5_open_13 : decode cX5_open 13 = .ok (.getfield 10, 3) := by decide +kernel
theorem dX5_open_16 : decode cX5_open 16 = .ok (.getfield 79, 3) := by decide +kernel
theorem dX5_open_19 : decode cX5_open 19 = .ok (.invokevirtual 170, 3) := by decide +kernel
theorem dX5_open_22 : decode cX5_open 22 = .ok (.istore_n 2, 1) := by decide +kernel
theorem dX5_open_23 : decode cX5_open 23 = .ok (.iload_n 2, 1) := by decide +kernel
theorem dX5_open_24 : decode cX5_open 24 = .ok (.bipush (-9), 2) := by decide +kernel
theorem dX5_open_26 : decode cX5_open 26 = .ok (.if_icmp .eq 5, 3) := by decide +kernel
theorem dX5_open_29 : decode cX5_open 29 = .ok (.iload_n 2, 1) := by decide +kernel
theorem dX5_open_30 : decode cX5_open 30 = .ok (.ireturn, 1) := by decide +kernel
theorem dX5_open_31 : decode cX5_open 31 = .ok (.aload_n 0, 1) := by decide +kernel
theorem dX5_open_32 : decode cX5_open 32 = .ok (.invokevirtual 173, 3) := by decide +kernel
theorem dX5_open_35 : decode cX5_open 35 = .ok (.aload_n 0, 1) := by decide +kernel
theorem dX5_open_36 : decode cX5_open 36 = .ok (.getfield 10, 3) := by decide +kernel
theorem dX5_open_39 : decode cX5_open 39 = .ok (.getfield 79, 3) := by decide +kernel
theorem dX5_open_42 : decode cX5_open 42 = .ok (.iload_n 1, 1) := by decide +kernel
theorem dX5_open_43 : decode cX5_open 43 = .ok (.invokevirtual 176, 3) := by decide +kernel
theorem dX5_open_46 : decode cX5_open 46 = .ok (.pop, 1) := by decide +kernel
theorem dX5_open_47 : decode cX5_open 47 = .ok (.aload_n 0, 1) := by decide +kernel
theorem dX5_open_48 : decode cX5_open 48 = .ok (.getfield 10, 3) := by decide +kernel
theorem dX5_open_51 : decode cX5_open 51 = .ok (.aload_n 0, 1) := by decide +kernel
theorem dX5_open_52 : decode cX5_open 52 = .ok (.getfield 33, 3) := by decide +kernel
theorem dX5_open_55 : decode cX5_open 55 = .ok (.invokevirtual 179, 3) := by decide +kernel
theorem dX5_open_58 : decode cX5_open 58 = .ok (.pop, 1) := by decide +kernel
theorem dX5_open_59 : decode cX5_open 59 = .ok (.aload_n 0, 1) := by decide +kernel
theorem dX5_open_60 : decode cX5_open 60 = .ok (.getfield 10, 3) := by decide +kernel
theorem dX5_open_63 : decode cX5_open 63 = .ok (.getfield 79, 3) := by decide +kernel
theorem dX5_open_66 : decode cX5_open 66 = .ok (.getfield 88, 3) := by decide +kernel
theorem dX5_open_69 : decode cX5_open 69 = .ok (.ireturn, 1) := by decide +kernel
theorem dX5_close_0 : decode cX5_close 0 = .ok (.aload_n 0, 1) := by decide +kernel
theorem dX5_close_1 : decode cX5_close 1 = .ok (.getfield 10, 3) := by decide +kernel
theorem dX5_close_4 : decode cX5_close 4 = .ok (.getfield 79, 3) := by decide +kernel
theorem dX5_close_7 : decode cX5_close 7 = .ok (.getfield 88, 3) := by decide +kernel
theorem dX5_close_10 : decode cX5_close 10 = .ok (.ifCond .ge 6, 3) := by decide +kernel
theorem dX5_close_13 : decode cX5_close 13 = .ok (.bipush (-3), 2) := by decide +kernel
theorem dX5_close_15 : decode cX5_close 15 = .ok (.ireturn, 1) := by decide +kernel
theorem dX5_close_16 : decode cX5_close 16 = .ok (.aload_n 0, 1) := by decide +kernel
theorem dX5_close_17 : decode cX5_close 17 = .ok (.invokevirtual 173, 3) := by decide +kernel
theorem dX5_close_20 : decode cX5_close 20 = .ok (.aload_n 0, 1) := by decide +kernel
theorem dX5_close_21 : decode cX5_close 21 = .ok (.getfield 10, 3) := by decide +kernel
theorem dX5_close_24 : decode cX5_close 24 = .ok (.getfield 79, 3) := by decide +kernel
theorem dX5_close_27 : decode cX5_close 27 = .ok (.invokevirtual 183, 3) := by decide +kernel
theorem dX5_close_30 : decode cX5_close 30 = .ok (.pop, 1) := by decide +kernel
theorem dX5_close_31 : decode cX5_close 31 = .ok (.aload_n 0, 1) := by decide +kernel
theorem dX5_close_32 : decode cX5_close 32 = .ok (.getfield 10, 3) := by decide +kernel
theorem dX5_close_35 : decode cX5_close 35 = .ok (.aload_n 0, 1) := by decide +kernel
theorem dX5_close_36 : decode cX5_close 36 = .ok (.getfield 33, 3) := by decide +kernel
theorem dX5_close_39 : decode cX5_close 39 = .ok (.invokevirtual 179, 3) := by decide +kernel
theorem dX5_close_42 : decode cX5_close 42 = .ok (.ireturn, 1) := by decide +kernel
theorem dX5_tell_0 : decode cX5_tell 0 = .ok (.iload_n 1, 1) := by decide +kernel
theorem dX5_tell_1 : decode cX5_tell 1 = .ok (.ifCond .lt 9, 3) := by decide +kernel
theorem dX5_tell_4 : decode cX5_tell 4 = .ok (.iload_n 1, 1) := by decide +kernel
theorem dX5_tell_5 : decode cX5_tell 5 = .ok (.bipush 10, 2) := by decide +kernel
theorem dX5_tell_7 : decode cX5_tell 7 = .ok (.if_icmp .lt 6, 3) := by decide +kernel
theorem dX5_tell_10 : decode cX5_tell 10 = .ok (.bipush (-2), 2) := by decide +kernel
theorem dX5_tell_12 : decode cX5_tell 12 = .ok (.ireturn, 1) := by decide +kernel
theorem dX5_tell_13 : decode cX5_tell 13 = .ok (.aload_n 0, 1) := by decide +kernel
theorem dX5_tell_14 : decode cX5_tell 14 = .ok (.getfield 10, 3) := by decide +kernel
theorem dX5_tell_17 : decode cX5_tell 17 = .ok (.getfield 79, 3) := by decide +kernel
theorem dX5_tell_20 : decode cX5_tell 20 = .ok (.getfield 88, 3) := by decide +kernel
theorem dX5_tell_23 : decode cX5_tell 23 = .ok (.ifCond .ge 6, 3) := by decide +kernel
theorem dX5_tell_26 : decode cX5_tell 26 = .ok (.bipush (-3), 2) := by decide +kernel
theorem dX5_tell_28 : decode cX5_tell 28 = .ok (.ireturn, 1) := by decide +kernel
theorem dX5_tell_29 : decode cX5_tell 29 = .ok (.aload_n 0, 1) := by decide +kernel
theorem dX5_tell_30 : decode cX5_tell 30 = .ok (.invokevirtual 173, 3) := by decide +kernel
theorem dX5_tell_33 : decode cX5_tell 33 = .ok (.aload_n 0, 1) := by decide +kernel
theorem dX5_tell_34 : decode cX5_tell 34 = .ok (.getfield 10, 3) := by decide +kernel
theorem dX5_tell_37 : decode cX5_tell 37 = .ok (.getfield 79, 3) := by decide +kernel
theorem dX5_tell_40 : decode cX5_tell 40 = .ok (.iload_n 1, 1) := by decide +kernel
theorem dX5_tell_41 : decode cX5_tell 41 = .ok (.invokevirtual 187, 3) := by decide +kernel
theorem dX5_tell_44 : decode cX5_tell 44 = .ok (.pop, 1) := by decide +kernel
theorem dX5_tell_45 : decode cX5_tell 45 = .ok (.aload_n 0, 1) := by decide +kernel
theorem dX5_tell_46 : decode cX5_tell 46 = .ok (.getfield 10, 3) := by decide +kernel
theorem dX5_tell_49 : decode cX5_tell 49 = .ok (.aload_n 0, 1) := by decide +kernel
theorem dX5_tell_50 : decode cX5_tell 50 = .ok (.getfield 33, 3) := by decide +kernel
theorem dX5_tell_53 : decode cX5_tell 53 = .ok (.invokevirtual 179, 3) := by decide +kernel
theorem dX5_tell_56 : decode cX5_tell 56 = .ok (.ireturn, 1) := by decide +kernel
theorem dX5_ask_0 : decode cX5_ask 0 = .ok (.iload_n 1, 1) := by decide +kernel
theorem dX5_ask_1 : decode cX5_ask 1 = .ok (.iconst 1, 1) := by decide +kernel
theorem dX5_ask_2 : decode cX5_ask 2 = .ok (.if_icmp .lt 28, 3) := by decide +kernel
theorem dX5_ask_5 : decode cX5_ask 5 = .ok (.iload_n 1, 1) := by decide +kernel
theorem dX5_ask_6 : decode cX5_ask 6 = .ok (.iconst 4, 1) := by decide +kernel
theorem dX5_ask_7 : decode cX5_ask 7 = .ok (.if_icmp .gt 23, 3) := by decide +kernel
theorem dX5_ask_10 : decode cX5_ask 10 = .ok (.aload_n 0, 1) := by decide +kernel
theorem dX5_ask_11 : decode cX5_ask 11 = .ok (.lload_n 2, 1) := by decide +kernel
theorem dX5_ask_12 : decode cX5_ask 12 = .ok (.sipush 10000, 3) := by decide +kernel
theorem dX5_ask_15 : decode cX5_ask 15 = .ok (.iload_n 1, 1) := by decide +kernel
theorem dX5_ask_16 : decode cX5_ask 16 = .ok (.invokevirtual 190, 3) := by decide +kernel
theorem dX5_ask_19 : decode cX5_ask 19 = .ok (.ifCond .eq 11, 3) := by decide +kernel
theorem dX5_ask_22 : decode cX5_ask 22 = .ok (.aload_n 0, 1) := by decide +kernel
theorem dX5_ask_23 : decode cX5_ask 23 = .ok (.iload_n 1, 1) := by decide +kernel
theorem dX5_ask_24 : decode cX5_ask 24 = .ok (.invokevirtual 194, 3) := by decide +kernel
theorem dX5_ask_27 : decode cX5_ask 27 = .ok (.ifCond .ne 6, 3) := by decide +kernel
theorem dX5_ask_30 : decode cX5_ask 30 = .ok (.bipush (-2), 2) := by decide +kernel
theorem dX5_ask_32 : decode cX5_ask 32 = .ok (.ireturn, 1) := by decide +kernel
theorem dX5_ask_33 : decode cX5_ask 33 = .ok (.aload_n 0, 1) := by decide +kernel
theorem dX5_ask_34 : decode cX5_ask 34 = .ok (.getfield 10, 3) := by decide +kernel
theorem dX5_ask_37 : decode cX5_ask 37 = .ok (.getfield 76, 3) := by decide +kernel
theorem dX5_ask_40 : decode cX5_ask 40 = .ok (.iconst 5, 1) := by decide +kernel
theorem dX5_ask_41 : decode cX5_ask 41 = .ok (.if_icmp .lt 6, 3) := by decide +kernel
theorem dX5_ask_44 : decode cX5_ask 44 = .ok (.bipush (-4), 2) := by decide +kernel
theorem dX5_ask_46 : decode cX5_ask 46 = .ok (.ireturn, 1) := by decide +kernel
theorem dX5_ask_47 : decode cX5_ask 47 = .ok (.aload_n 0, 1) := by decide +kernel
theorem dX5_ask_48 : decode cX5_ask 48 = .ok (.invokevirtual 173, 3) := by decide +kernel
theorem dX5_ask_51 : decode cX5_ask 51 = .ok (.aload_n 0, 1) := by decide +kernel
theorem dX5_ask_52 : decode cX5_ask 52 = .ok (.getfield 10, 3) := by decide +kernel
theorem dX5_ask_55 : decode cX5_ask 55 = .ok (.getfield 76, 3) := by decide +kernel
theorem dX5_ask_58 : decode cX5_ask 58 = .ok (.istore 4, 2) := by decide +kernel
theorem dX5_ask_60 : decode cX5_ask 60 = .ok (.aload_n 0, 1) := by decide +kernel
theorem dX5_ask_61 : decode cX5_ask 61 = .ok (.getfield 10, 3) := by decide +kernel
theorem dX5_ask_64 : decode cX5_ask 64 = .ok (.aload_n 0, 1) := by decide +kernel
theorem dX5_ask_65 : decode cX5_ask 65 = .ok (.getfield 55, 3) := by decide +kernel
theorem dX5_ask_68 : decode cX5_ask 68 = .ok (.iload_n 1, 1) := by decide +kernel
theorem dX5_ask_69 : decode cX5_ask 69 = .ok (.invokevirtual 197, 3) := by decide +kernel
theorem dX5_ask_72 : decode cX5_ask 72 = .ok (.aload_n 0, 1) := by decide +kernel
theorem dX5_ask_73 : decode cX5_ask 73 = .ok (.getfield 10, 3) := by decide +kernel
theorem dX5_ask_76 : decode cX5_ask 76 = .ok (.iload 4, 2) := by decide +kernel
theorem dX5_ask_78 : decode cX5_ask 78 = .ok (.aload_n 0, 1) := by decide +kernel
theorem dX5_ask_79 : decode cX5_ask 79 = .ok (.getfield 33, 3) := by decide +kernel
theorem dX5_ask_82 : decode cX5_ask 82 = .ok (.invokevirtual 201, 3) := by decide +kernel
theorem dX5_ask_85 : decode cX5_ask 85 = .ok (.pop, 1) := by decide +kernel
theorem dX5_ask_86 : decode cX5_ask 86 = .ok (.iload 4, 2) := by decide +kernel
theorem dX5_ask_88 : decode cX5_ask 88 = .ok (.ireturn, 1) := by decide +kernel
theorem dX5_drop_0 : decode cX5_drop 0 = .ok (.aload_n 0, 1) := by decide +kernel
theorem dX5_drop_1 : decode cX5_drop 1 = .ok (.getfield 10, 3) := by decide +kernel
theorem dX5_drop_4 : decode cX5_drop 4 = .ok (.getfield 76, 3) := by decide +kernel
theorem dX5_drop_7 : decode cX5_drop 7 = .ok (.ifCond .gt 6, 3) := by decide +kernel
theorem dX5_drop_10 : decode cX5_drop 10 = .ok (.bipush (-3), 2) := by decide +kernel
theorem dX5_drop_12 : decode cX5_drop 12 = .ok (.ireturn, 1) := by decide +kernel
theorem dX5_drop_13 : decode cX5_drop 13 = .ok (.aload_n 0, 1) := by decide +kernel
theorem dX5_drop_14 : decode cX5_drop 14 = .ok (.invokevirtual 173, 3) := by decide +kernel
theorem dX5_drop_17 : decode cX5_drop 17 = .ok (.aload_n 0, 1) := by decide +kernel
theorem dX5_drop_18 : decode cX5_drop 18 = .ok (.getfield 10, 3) := by decide +kernel
theorem dX5_drop_21 : decode cX5_drop 21 = .ok (.dup, 1) := by decide +kernel
theorem dX5_drop_22 : decode cX5_drop 22 = .ok (.getfield 76, 3) := by decide +kernel
theorem dX5_drop_25 : decode cX5_drop 25 = .ok (.iconst 1, 1) := by decide +kernel
theorem dX5_drop_26 : decode cX5_drop 26 = .ok (.isub, 1) := by decide +kernel
theorem dX5_drop_27 : decode cX5_drop 27 = .ok (.putfield 76, 3) := by decide +kernel
theorem dX5_drop_30 : decode cX5_drop 30 = .ok (.aload_n 0, 1) := by decide +kernel
theorem dX5_drop_31 : decode cX5_drop 31 = .ok (.getfield 10, 3) := by decide +kernel
theorem dX5_drop_34 : decode cX5_drop 34 = .ok (.getfield 76, 3) := by decide +kernel
theorem dX5_drop_37 : decode cX5_drop 37 = .ok (.ireturn, 1) := by decide +kernel
theorem dX5_undo_0 : decode cX5_undo 0 = .ok (.aload_n 0, 1) := by decide +kernel
theorem dX5_undo_1 : decode cX5_undo 1 = .ok (.getfield 101, 3) := by decide +kernel
theorem dX5_undo_4 : decode cX5_undo 4 = .ok (.ifCond .gt 6, 3) := by decide +kernel
theorem dX5_undo_7 : decode cX5_undo 7 = .ok (.bipush (-3), 2) := by decide +kernel
theorem dX5_undo_9 : decode cX5_undo 9 = .ok (.ireturn, 1) := by decide +kernel
theorem dX5_undo_10 : decode cX5_undo 10 = .ok (.aload_n 0, 1) := by decide +kernel
theorem dX5_undo_11 : decode cX5_undo 11 = .ok (.aload_n 0, 1) := by decide +kernel
theorem dX5_undo_12 : decode cX5_undo 12 = .ok (.getfield 205, 3) := by decide +kernel
theorem dX5_undo_15 : decode cX5_undo 15 = .ok (.ifCond .le 12, 3) := by decide +kernel
theorem dX5_undo_18 : decode cX5_undo 18 = .ok (.aload_n 0, 1) := by decide +kernel
theorem dX5_undo_19 : decode cX5_undo 19 = .ok (.getfield 205, 3) := by decide +kernel
theorem dX5_undo_22 : decode cX5_undo 22 = .ok (.iconst 1, 1) := by decide +kernel
theorem dX5_undo_23 : decode cX5_undo 23 = .ok (.isub, 1) := by decide +kernel
theorem dX5_undo_24 : decode cX5_undo 24 = .ok (.goto 5, 3) := by decide +kernel
theorem dX5_undo_27 : decode cX5_undo 27 = .ok (.bipush 13, 2) := by decide +kernel
theorem dX5_undo_29 : decode cX5_undo 29 = .ok (.putfield 205, 3) := by decide +kernel
theorem dX5_undo_32 : decode cX5_undo 32 = .ok (.aload_n 0, 1) := by decide +kernel
theorem dX5_undo_33 : decode cX5_undo 33 = .ok (.getfield 10, 3) := by decide +kernel
theorem dX5_undo_36 : decode cX5_undo 36 = .ok (.aload_n 0, 1) := by decide +kernel
theorem dX5_undo_37 : decode cX5_undo 37 = .ok (.getfield 19, 3) := by decide +kernel
theorem dX5_undo_40 : decode cX5_undo 40 = .ok (.aload_n 0, 1) := by decide +kernel
theorem dX5_undo_41 : decode cX5_undo 41 = .ok (.getfield 205, 3) := by decide +kernel
theorem dX5_undo_44 : decode cX5_undo 44 = .ok (.aaload, 1) := by decide +kernel
theorem dX5_undo_45 : decode cX5_undo 45 = .ok (.invokevirtual 69, 3) := by decide +kernel
theorem dX5_undo_48 : decode cX5_undo 48 = .ok (.aload_n 0, 1) := by decide +kernel
theorem dX5_undo_49 : decode cX5_undo 49 = .ok (.dup, 1) := by decide +kernel
theorem dX5_undo_50 : decode cX5_undo 50 = .ok (.getfield 101, 3) := by decide +kernel
theorem dX5_undo_53 : decode cX5_undo 53 = .ok (.iconst 1, 1) := by decide +kernel
theorem dX5_undo_54 : decode cX5_undo 54 = .ok (.isub, 1) := by decide +kernel
theorem dX5_undo_55 : decode cX5_undo 55 = .ok (.putfield 101, 3) := by decide +kernel
theorem dX5_undo_58 : decode cX5_undo 58 = .ok (.aload_n 0, 1) := by decide +kernel
theorem dX5_undo_59 : decode cX5_undo 59 = .ok (.getfield 101, 3) := by decide +kernel
theorem dX5_undo_62 : decode cX5_undo 62 = .ok (.ireturn, 1) := by decide +kernel
theorem dX5_within_0 : decode cX5_within 0 = .ok (.aload_n 0, 1) := by decide +kernel
theorem dX5_within_1 : decode cX5_within 1 = .ok (.iload_n 1, 1) := by decide +kernel
theorem dX5_within_2 : decode cX5_within 2 = .ok (.invokevirtual 129, 3) := by decide +kernel
theorem dX5_within_5 : decode cX5_within 5 = .ok (.ifCond .eq 11, 3) := by decide +kernel
theorem dX5_within_8 : decode cX5_within 8 = .ok (.aload_n 0, 1) := by decide +kernel
theorem dX5_within_9 : decode cX5_within 9 = .ok (.iload_n 2, 1) := by decide +kernel
theorem dX5_within_10 : decode cX5_within 10 = .ok (.invokevirtual 129, 3) := by decide +kernel
theorem dX5_within_13 : decode cX5_within 13 = .ok (.ifCond .ne 5, 3) := by decide +kernel
theorem dX5_within_16 : decode cX5_within 16 = .ok (.iconst (-1), 1) := by decide +kernel
theorem dX5_within_17 : decode cX5_within 17 = .ok (.ireturn, 1) := by decide +kernel
theorem dX5_within_18 : decode cX5_within 18 = .ok (.aload_n 0, 1) := by decide +kernel
theorem dX5_within_19 : decode cX5_within 19 = .ok (.aload_n 0, 1) := by decide +kernel
theorem dX5_within_20 : decode cX5_within 20 = .ok (.getfield 10, 3) := by decide +kernel
theorem dX5_within_23 : decode cX5_within 23 = .ok (.iload_n 1, 1) := by decide +kernel
theorem dX5_within_24 : decode cX5_within 24 = .ok (.invokevirtual 208, 3) := by decide +kernel
theorem dX5_within_27 : decode cX5_within 27 = .ok (.istore_n 3, 1) := by decide +kernel
theorem dX5_within_28 : decode cX5_within 28 = .ok (.aload_n 0, 1) := by decide +kernel
theorem dX5_within_29 : decode cX5_within 29 = .ok (.aload_n 0, 1) := by decide +kernel
theorem dX5_within_30 : decode cX5_within 30 = .ok (.getfield 10, 3) := by decide +kernel
theorem dX5_within_33 : decode cX5_within 33 = .ok (.iload_n 2, 1) := by decide +kernel
theorem dX5_within_34 : decode cX5_within 34 = .ok (.invokevirtual 208, 3) := by decide +kernel
theorem dX5_within_37 : decode cX5_within 37 = .ok (.istore 4, 2) := by decide +kernel
theorem dX5_within_39 : decode cX5_within 39 = .ok (.iload_n 3, 1) := by decide +kernel
theorem dX5_within_40 : decode cX5_within 40 = .ok (.iload 4, 2) := by decide +kernel
theorem dX5_within_42 : decode cX5_within 42 = .ok (.iconst (-1), 1) := by decide +kernel
theorem dX5_within_43 : decode cX5_within 43 = .ok (.ixor, 1) := by decide +kernel
theorem dX5_within_44 : decode cX5_within 44 = .ok (.iand, 1) := by decide +kernel
theorem dX5_within_45 : decode cX5_within 45 = .ok (.ifCond .ne 7, 3) := by decide +kernel
theorem dX5_within_48 : decode cX5_within 48 = .ok (.iconst 1, 1) := by decide +kernel
theorem dX5_within_49 : decode cX5_within 49 = .ok (.goto 4, 3) := by decide +kernel
theorem dX5_within_52 : decode cX5_within 52 = .ok (.iconst 0, 1) := by decide +kernel
theorem dX5_within_53 : decode cX5_within 53 = .ok (.ireturn, 1) := by decide +kernel
theorem dX5_judge_0 : decode cX5_judge 0 = .ok (.iload_n 1, 1) := by decide +kernel
theorem dX5_judge_1 : decode cX5_judge 1 = .ok (.iconst 1, 1) := by decide +kernel
theorem dX5_judge_2 : decode cX5_judge 2 = .ok (.if_icmp .lt 20, 3) := by decide +kernel
theorem dX5_judge_5 : decode cX5_judge 5 = .ok (.iload_n 1, 1) := by decide +kernel
theorem dX5_judge_6 : decode cX5_judge 6 = .ok (.iconst 4, 1) := by decide +kernel
theorem dX5_judge_7 : decode cX5_judge 7 = .ok (.if_icmp .gt 15, 3) := by decide +kernel
theorem dX5_judge_10 : decode cX5_judge 10 = .ok (.aload_n 0, 1) := by decide +kernel
theorem dX5_judge_11 : decode cX5_judge 11 = .ok (.lload_n 2, 1) := by decide +kernel
theorem dX5_judge_12 : decode cX5_judge 12 = .ok (.sipush 1000, 3) := by decide +kernel
theorem dX5_judge_15 : decode cX5_judge 15 = .ok (.iload_n 1, 1) := by decide +kernel
theorem dX5_judge_16 : decode cX5_judge 16 = .ok (.invokevirtual 190, 3) := by decide +kernel
theorem dX5_judge_19 : decode cX5_judge 19 = .ok (.ifCond .ne 6, 3) := by decide +kernel
theorem dX5_judge_22 : decode cX5_judge 22 = .ok (.bipush (-2), 2) := by decide +kernel
theorem dX5_judge_24 : decode cX5_judge 24 = .ok (.ireturn, 1) := by decide +kernel
theorem dX5_judge_25 : decode cX5_judge 25 = .ok (.aload_n 0, 1) := by decide +kernel
theorem dX5_judge_26 : decode cX5_judge 26 = .ok (.getfield 16, 3) := by decide +kernel
theorem dX5_judge_29 : decode cX5_judge 29 = .ok (.aload_n 0, 1) := by decide +kernel
theorem dX5_judge_30 : decode cX5_judge 30 = .ok (.getfield 10, 3) := by decide +kernel
theorem dX5_judge_33 : decode cX5_judge 33 = .ok (.invokevirtual 69, 3) := by decide +kernel
theorem dX5_judge_36 : decode cX5_judge 36 = .ok (.iconst 0, 1) := by decide +kernel
theorem dX5_judge_37 : decode cX5_judge 37 = .ok (.istore 4, 2) := by decide +kernel
theorem dX5_judge_39 : decode cX5_judge 39 = .ok (.iload 4, 2) := by decide +kernel
theorem dX5_judge_41 : decode cX5_judge 41 = .ok (.iload_n 1, 1) := by decide +kernel
theorem dX5_judge_42 : decode cX5_judge 42 = .ok (.if_icmp .ge 52, 3) := by decide +kernel
theorem dX5_judge_45 : decode cX5_judge 45 = .ok (.aload_n 0, 1) := by decide +kernel
theorem dX5_judge_46 : decode cX5_judge 46 = .ok (.aload_n 0, 1) := by decide +kernel
theorem dX5_judge_47 : decode cX5_judge 47 = .ok (.getfield 55, 3) := by decide +kernel
theorem dX5_judge_50 : decode cX5_judge 50 = .ok (.iload 4, 2) := by decide +kernel
theorem dX5_judge_52 : decode cX5_judge 52 = .ok (.iaload, 1) := by decide +kernel
theorem dX5_judge_53 : decode cX5_judge 53 = .ok (.bipush 100, 2) := by decide +kernel
theorem dX5_judge_55 : decode cX5_judge 55 = .ok (.idiv, 1) := by decide +kernel
theorem dX5_judge_56 : decode cX5_judge 56 = .ok (.aload_n 0, 1) := by decide +kernel
theorem dX5_judge_57 : decode cX5_judge 57 = .ok (.getfield 55, 3) := by decide +kernel
theorem dX5_judge_60 : decode cX5_judge 60 = .ok (.iload 4, 2) := by decide +kernel
theorem dX5_judge_62 : decode cX5_judge 62 = .ok (.iaload, 1) := by decide +kernel
theorem dX5_judge_63 : decode cX5_judge 63 = .ok (.bipush 10, 2) := by decide +kernel
theorem dX5_judge_65 : decode cX5_judge 65 = .ok (.idiv, 1) := by decide +kernel
theorem dX5_judge_66 : decode cX5_judge 66 = .ok (.bipush 10, 2) := by decide +kernel
theorem dX5_judge_68 : decode cX5_judge 68 = .ok (.irem, 1) := by decide +kernel
theorem dX5_judge_69 : decode cX5_judge 69 = .ok (.aload_n 0, 1) := by decide +kernel
theorem dX5_judge_70 : decode cX5_judge 70 = .ok (.getfield 55, 3) := by decide +kernel
theorem dX5_judge_73 : decode cX5_judge 73 = .ok (.iload 4, 2) := by decide +kernel
theorem dX5_judge_75 : decode cX5_judge 75 = .ok (.iaload, 1) := by decide +kernel
theorem dX5_judge_76 : decode cX5_judge 76 = .ok (.bipush 10, 2) := by decide +kernel
theorem dX5_judge_78 : decode cX5_judge 78 = .ok (.irem, 1) := by decide +kernel
theorem dX5_judge_79 : decode cX5_judge 79 = .ok (.invokevirtual 212, 3) := by decide +kernel
theorem dX5_judge_82 : decode cX5_judge 82 = .ok (.ifCond .ne 6, 3) := by decide +kernel
theorem dX5_judge_85 : decode cX5_judge 85 = .ok (.iload 4, 2) := by decide +kernel
theorem dX5_judge_87 : decode cX5_judge 87 = .ok (.ireturn, 1) := by decide +kernel
theorem dX5_judge_88 : decode cX5_judge 88 = .ok (.iinc 4 1, 3) := by decide +kernel
theorem dX5_judge_91 : decode cX5_judge 91 = .ok (.goto (-52), 3) := by decide +kernel
theorem dX5_judge_94 : decode cX5_judge 94 = .ok (.bipush (-9), 2) := by decide +kernel
theorem dX5_judge_96 : decode cX5_judge 96 = .ok (.ireturn, 1) := by decide +kernel
theorem dX5_see_0 : decode cX5_see 0 = .ok (.aload_n 0, 1) := by decide +kernel
theorem dX5_see_1 : decode cX5_see 1 = .ok (.iload_n 1, 1) := by decide +kernel
theorem dX5_see_2 : decode cX5_see 2 = .ok (.invokevirtual 129, 3) := by decide +kernel
theorem dX5_see_5 : decode cX5_see 5 = .ok (.ifCond .ne 5, 3) := by decide +kernel
theorem dX5_see_8 : decode cX5_see 8 = .ok (.iconst (-1), 1) := by decide +kernel
theorem dX5_see_9 : decode cX5_see 9 = .ok (.ireturn, 1) := by decide +kernel
theorem dX5_see_10 : decode cX5_see 10 = .ok (.iload_n 2, 1) := by decide +kernel
theorem dX5_see_11 : decode cX5_see 11 = .ok (.ifCond .lt 9, 3) := by decide +kernel
theorem dX5_see_14 : decode cX5_see 14 = .ok (.iload_n 2, 1) := by decide +kernel
theorem dX5_see_15 : decode cX5_see 15 = .ok (.bipush 20, 2) := by decide +kernel
theorem dX5_see_17 : decode cX5_see 17 = .ok (.if_icmp .le 6, 3) := by decide +kernel
theorem dX5_see_20 : decode cX5_see 20 = .ok (.bipush (-2), 2) := by decide +kernel
theorem dX5_see_22 : decode cX5_see 22 = .ok (.ireturn, 1) := by decide +kernel
theorem dX5_see_23 : decode cX5_see 23 = .ok (.aload_n 0, 1) := by decide +kernel
theorem dX5_see_24 : decode cX5_see 24 = .ok (.getfield 104, 3) := by decide +kernel
theorem dX5_see_27 : decode cX5_see 27 = .ok (.bipush 6, 2) := by decide +kernel
theorem dX5_see_29 : decode cX5_see 29 = .ok (.if_icmp .lt 6, 3) := by decide +kernel
theorem dX5_see_32 : decode cX5_see 32 = .ok (.bipush (-4), 2) := by decide +kernel
theorem dX5_see_34 : decode cX5_see 34 = .ok (.ireturn, 1) := by decide +kernel
theorem dX5_see_35 : decode cX5_see 35 = .ok (.aload_n 0, 1) := by decide +kernel
theorem dX5_see_36 : decode cX5_see 36 = .ok (.getfield 48, 3) := by decide +kernel
theorem dX5_see_39 : decode cX5_see 39 = .ok (.aload_n 0, 1) := by decide +kernel
theorem dX5_see_40 : decode cX5_see 40 = .ok (.getfield 104, 3) := by decide +kernel
theorem dX5_see_43 : decode cX5_see 43 = .ok (.iload_n 1, 1) := by decide +kernel
theorem dX5_see_44 : decode cX5_see 44 = .ok (.iastore, 1) := by decide +kernel
theorem dX5_see_45 : decode cX5_see 45 = .ok (.aload_n 0, 1) := by decide +kernel
theorem dX5_see_46 : decode cX5_see 46 = .ok (.getfield 52, 3) := by decide +kernel
theorem dX5_see_49 : decode cX5_see 49 = .ok (.aload_n 0, 1) := by decide +kernel
theorem dX5_see_50 : decode cX5_see 50 = .ok (.getfield 104, 3) := by decide +kernel
theorem dX5_see_53 : decode cX5_see 53 = .ok (.iload_n 2, 1) := by decide +kernel
theorem dX5_see_54 : decode cX5_see 54 = .ok (.iastore, 1) := by decide +kernel
theorem dX5_see_55 : decode cX5_see 55 = .ok (.aload_n 0, 1) := by decide +kernel
theorem dX5_see_56 : decode cX5_see 56 = .ok (.dup, 1) := by decide +kernel
theorem dX5_see_57 : decode cX5_see 57 = .ok (.getfield 104, 3) := by decide +kernel
theorem dX5_see_60 : decode cX5_see 60 = .ok (.iconst 1, 1) := by decide +kernel
theorem dX5_see_61 : decode cX5_see 61 = .ok (.iadd, 1) := by decide +kernel
theorem dX5_see_62 : decode cX5_see 62 = .ok (.putfield 104, 3) := by decide +kernel
theorem dX5_see_65 : decode cX5_see 65 = .ok (.aload_n 0, 1) := by decide +kernel
theorem dX5_see_66 : decode cX5_see 66 = .ok (.getfield 104, 3) := by decide +kernel
theorem dX5_see_69 : decode cX5_see 69 = .ok (.ireturn, 1) := by decide +kernel
theorem dX5_unsee_0 : decode cX5_unsee 0 = .ok (.aload_n 0, 1) := by decide +kernel
theorem dX5_unsee_1 : decode cX5_unsee 1 = .ok (.getfield 104, 3) := by decide +kernel
theorem dX5_unsee_4 : decode cX5_unsee 4 = .ok (.istore_n 1, 1) := by decide +kernel
theorem dX5_unsee_5 : decode cX5_unsee 5 = .ok (.aload_n 0, 1) := by decide +kernel
theorem dX5_unsee_6 : decode cX5_unsee 6 = .ok (.iconst 0, 1) := by decide +kernel
theorem dX5_unsee_7 : decode cX5_unsee 7 = .ok (.putfield 104, 3) := by decide +kernel
theorem dX5_unsee_10 : decode cX5_unsee 10 = .ok (.iload_n 1, 1) := by decide +kernel
theorem dX5_unsee_11 : decode cX5_unsee 11 = .ok (.ireturn, 1) := by decide +kernel
theorem dX5_which_0 : decode cX5_which 0 = .ok (.iconst 0, 1) := by decide +kernel
theorem dX5_which_1 : decode cX5_which 1 = .ok (.istore_n 1, 1) := by decide +kernel
theorem dX5_which_2 : decode cX5_which 2 = .ok (.iconst 0, 1) := by decide +kernel
theorem dX5_which_3 : decode cX5_which 3 = .ok (.istore_n 2, 1) := by decide +kernel
theorem dX5_which_4 : decode cX5_which 4 = .ok (.iload_n 2, 1) := by decide +kernel
theorem dX5_which_5 : decode cX5_which 5 = .ok (.iconst 5, 1) := by decide +kernel
theorem dX5_which_6 : decode cX5_which 6 = .ok (.if_icmp .gt 23, 3) := by decide +kernel
theorem dX5_which_9 : decode cX5_which 9 = .ok (.aload_n 0, 1) := by decide +kernel
theorem dX5_which_10 : decode cX5_which 10 = .ok (.iload_n 2, 1) := by decide +kernel
theorem dX5_which_11 : decode cX5_which 11 = .ok (.invokevirtual 216, 3) := by decide +kernel
theorem dX5_which_14 : decode cX5_which 14 = .ok (.ifCond .eq 9, 3) := by decide +kernel
theorem dX5_which_17 : decode cX5_which 17 = .ok (.iload_n 1, 1) := by decide +kernel
theorem dX5_which_18 : decode cX5_which 18 = .ok (.iconst 1, 1) := by decide +kernel
theorem dX5_which_19 : decode cX5_which 19 = .ok (.iload_n 2, 1) := by decide +kernel
theorem dX5_which_20 : decode cX5_which 20 = .ok (.ishl, 1) := by decide +kernel
theorem dX5_which_21 : decode cX5_which 21 = .ok (.ior, 1) := by decide +kernel
theorem dX5_which_22 : decode cX5_which 22 = .ok (.istore_n 1, 1) := by decide +kernel
theorem dX5_which_23 : decode cX5_which 23 = .ok (.iinc 2 1, 3) := by decide +kernel
theorem dX5_which_26 : decode cX5_which 26 = .ok (.goto (-22), 3) := by decide +kernel
theorem dX5_which_29 : decode cX5_which 29 = .ok (.iload_n 1, 1) := by decide +kernel
theorem dX5_which_30 : decode cX5_which 30 = .ok (.ireturn, 1) := by decide +kernel
theorem dX5_share_0 : decode cX5_share 0 = .ok (.aload_n 0, 1) := by decide +kernel
theorem dX5_share_1 : decode cX5_share 1 = .ok (.iload_n 1, 1) := by decide +kernel
theorem dX5_share_2 : decode cX5_share 2 = .ok (.invokevirtual 129, 3) := by decide +kernel
theorem dX5_share_5 : decode cX5_share 5 = .ok (.ifCond .ne 5, 3) := by decide +kernel
theorem dX5_share_8 : decode cX5_share 8 = .ok (.iconst (-1), 1) := by decide +kernel
theorem dX5_share_9 : decode cX5_share 9 = .ok (.ireturn, 1) := by decide +kernel
theorem dX5_share_10 : decode cX5_share 10 = .ok (.aload_n 0, 1) := by decide +kernel
theorem dX5_share_11 : decode cX5_share 11 = .ok (.invokevirtual 219, 3) := by decide +kernel
theorem dX5_share_14 : decode cX5_share 14 = .ok (.iconst 0, 1) := by decide +kernel
theorem dX5_share_15 : decode cX5_share 15 = .ok (.istore_n 3, 1) := by decide +kernel
theorem dX5_share_16 : decode cX5_share 16 = .ok (.iconst 0, 1) := by decide +kernel
theorem dX5_share_17 : decode cX5_share 17 = .ok (.istore 4, 2) := by decide +kernel
theorem dX5_share_19 : decode cX5_share 19 = .ok (.iload 4, 2) := by decide +kernel
theorem dX5_share_21 : decode cX5_share 21 = .ok (.aload_n 0, 1) := by decide +kernel
theorem dX5_share_22 : decode cX5_share 22 = .ok (.getfield 10, 3) := by decide +kernel
theorem dX5_share_25 : decode cX5_share 25 = .ok (.getfield 79, 3) := by decide +kernel
theorem dX5_share_28 : decode cX5_share 28 = .ok (.getfield 83, 3) := by decide +kernel
theorem dX5_share_31 : decode cX5_share 31 = .ok (.if_icmp .ge 44, 3) := by decide +kernel
theorem dX5_share_34 : decode cX5_share 34 = .ok (.aload_n 0, 1) := by decide +kernel
theorem dX5_share_35 : decode cX5_share 35 = .ok (.iload 4, 2) := by decide +kernel
theorem dX5_share_37 : decode cX5_share 37 = .ok (.invokevirtual 222, 3) := by decide +kernel
theorem dX5_share_40 : decode cX5_share 40 = .ok (.istore 5, 2) := by decide +kernel
theorem dX5_share_42 : decode cX5_share 42 = .ok (.aload_n 0, 1) := by decide +kernel
theorem dX5_share_43 : decode cX5_share 43 = .ok (.getfield 58, 3) := by decide +kernel
theorem dX5_share_46 : decode cX5_share 46 = .ok (.iload_n 1, 1) := by decide +kernel
theorem dX5_share_47 : decode cX5_share 47 = .ok (.iaload, 1) := by decide +kernel
theorem dX5_share_48 : decode cX5_share 48 = .ok (.iload 4, 2) := by decide +kernel
theorem dX5_share_50 : decode cX5_share 50 = .ok (.ishr, 1) := by decide +kernel
theorem dX5_share_51 : decode cX5_share 51 = .ok (.iconst 1, 1) := by decide +kernel
theorem dX5_share_52 : decode cX5_share 52 = .ok (.iand, 1) := by decide +kernel
theorem dX5_share_53 : decode cX5_share 53 = .ok (.ifCond .eq 16, 3) := by decide +kernel
theorem dX5_share_56 : decode cX5_share 56 = .ok (.iload 5, 2) := by decide +kernel
theorem dX5_share_58 : decode cX5_share 58 = .ok (.ifCond .le 11, 3) := by decide +kernel
theorem dX5_share_61 : decode cX5_share 61 = .ok (.iload_n 3, 1) := by decide +kernel
theorem dX5_share_62 : decode cX5_share 62 = .ok (.bipush 60, 2) := by decide +kernel
theorem dX5_share_64 : decode cX5_share 64 = .ok (.iload 5, 2) := by decide +kernel
theorem dX5_share_66 : decode cX5_share 66 = .ok (.idiv, 1) := by decide +kernel
theorem dX5_share_67 : decode cX5_share 67 = .ok (.iadd, 1) := by decide +kernel
theorem dX5_share_68 : decode cX5_share 68 = .ok (.istore_n 3, 1) := by decide +kernel
theorem dX5_share_69 : decode cX5_share 69 = .ok (.iinc 4 1, 3) := by decide +kernel
theorem dX5_share_72 : decode cX5_share 72 = .ok (.goto (-53), 3) := by decide +kernel
theorem dX5_share_75 : decode cX5_share 75 = .ok (.iload_n 3, 1) := by decide +kernel
theorem dX5_share_76 : decode cX5_share 76 = .ok (.bipush 60, 2) := by decide +kernel
theorem dX5_share_78 : decode cX5_share 78 = .ok (.iload_n 2, 1) := by decide +kernel
theorem dX5_share_79 : decode cX5_share 79 = .ok (.invokestatic 226, 3) := by decide +kernel
theorem dX5_share_82 : decode cX5_share 82 = .ok (.ireturn, 1) := by decide +kernel
theorem dX5_chance_0 : decode cX5_chance 0 = .ok (.iload_n 1, 1) := by decide +kernel
theorem dX5_chance_1 : decode cX5_chance 1 = .ok (.ifCond .lt 19, 3) := by decide +kernel
theorem dX5_chance_4 : decode cX5_chance 4 = .ok (.iload_n 1, 1) := by decide +kernel
theorem dX5_chance_5 : decode cX5_chance 5 = .ok (.bipush 20, 2) := by decide +kernel
theorem dX5_chance_7 : decode cX5_chance 7 = .ok (.if_icmp .gt 13, 3) := by decide +kernel
theorem dX5_chance_10 : decode cX5_chance 10 = .ok (.iload_n 2, 1) := by decide +kernel
theorem dX5_chance_11 : decode cX5_chance 11 = .ok (.ifCond .lt 9, 3) := by decide +kernel
theorem dX5_chance_14 : decode cX5_chance 14 = .ok (.iload_n 2, 1) := by decide +kernel
theorem dX5_chance_15 : decode cX5_chance 15 = .ok (.bipush 10, 2) := by decide +kernel
theorem dX5_chance_17 : decode cX5_chance 17 = .ok (.if_icmp .le 6, 3) := by decide +kernel
theorem dX5_chance_20 : decode cX5_chance 20 = .ok (.bipush (-2), 2) := by decide +kernel
theorem dX5_chance_22 : decode cX5_chance 22 = .ok (.ireturn, 1) := by decide +kernel
theorem dX5_chance_23 : decode cX5_chance 23 = .ok (.aload_n 0, 1) := by decide +kernel
theorem dX5_chance_24 : decode cX5_chance 24 = .ok (.invokevirtual 219, 3) := by decide +kernel
theorem dX5_chance_27 : decode cX5_chance 27 = .ok (.iconst 0, 1) := by decide +kernel
theorem dX5_chance_28 : decode cX5_chance 28 = .ok (.istore 4, 2) := by decide +kernel
theorem dX5_chance_30 : decode cX5_chance 30 = .ok (.iconst 0, 1) := by decide +kernel
theorem dX5_chance_31 : decode cX5_chance 31 = .ok (.istore 5, 2) := by decide +kernel
theorem dX5_chance_33 : decode cX5_chance 33 = .ok (.iconst 0, 1) := by decide +kernel
theorem dX5_chance_34 : decode cX5_chance 34 = .ok (.istore 6, 2) := by decide +kernel
theorem dX5_chance_36 : decode cX5_chance 36 = .ok (.iload 6, 2) := by decide +kernel
theorem dX5_chance_38 : decode cX5_chance 38 = .ok (.iconst 1, 1) := by decide +kernel
theorem dX5_chance_39 : decode cX5_chance 39 = .ok (.aload_n 0, 1) := by decide +kernel
theorem dX5_chance_40 : decode cX5_chance 40 = .ok (.getfield 10, 3) := by decide +kernel
theorem dX5_chance_43 : decode cX5_chance 43 = .ok (.getfield 76, 3) := by decide +kernel
theorem dX5_chance_46 : decode cX5_chance 46 = .ok (.ishl, 1) := by decide +kernel
theorem dX5_chance_47 : decode cX5_chance 47 = .ok (.if_icmp .ge 45, 3) := by decide +kernel
theorem dX5_chance_50 : decode cX5_chance 50 = .ok (.aload_n 0, 1) := by decide +kernel
theorem dX5_chance_51 : decode cX5_chance 51 = .ok (.iload 6, 2) := by decide +kernel
theorem dX5_chance_53 : decode cX5_chance 53 = .ok (.iload_n 2, 1) := by decide +kernel
theorem dX5_chance_54 : decode cX5_chance 54 = .ok (.invokevirtual 230, 3) := by decide +kernel
theorem dX5_chance_57 : decode cX5_chance 57 = .ok (.istore 7, 2) := by decide +kernel
theorem dX5_chance_59 : decode cX5_chance 59 = .ok (.iload 5, 2) := by decide +kernel
theorem dX5_chance_61 : decode cX5_chance 61 = .ok (.iload 7, 2) := by decide +kernel
theorem dX5_chance_63 : decode cX5_chance 63 = .ok (.iadd, 1) := by decide +kernel
theorem dX5_chance_64 : decode cX5_chance 64 = .ok (.istore 5, 2) := by decide +kernel
theorem dX5_chance_66 : decode cX5_chance 66 = .ok (.aload_n 0, 1) := by decide +kernel
theorem dX5_chance_67 : decode cX5_chance 67 = .ok (.iload 6, 2) := by decide +kernel
theorem dX5_chance_69 : decode cX5_chance 69 = .ok (.invokevirtual 234, 3) := by decide +kernel
theorem dX5_chance_72 : decode cX5_chance 72 = .ok (.invokestatic 237, 3) := by decide +kernel
theorem dX5_chance_75 : decode cX5_chance 75 = .ok (.iload_n 1, 1) := by decide +kernel
theorem dX5_chance_76 : decode cX5_chance 76 = .ok (.if_icmp .lt 10, 3) := by decide +kernel
theorem dX5_chance_79 : decode cX5_chance 79 = .ok (.iload 4, 2) := by decide +kernel
theorem dX5_chance_81 : decode cX5_chance 81 = .ok (.iload 7, 2) := by decide +kernel
theorem dX5_chance_83 : decode cX5_chance 83 = .ok (.iadd, 1) := by decide +kernel
theorem dX5_chance_84 : decode cX5_chance 84 = .ok (.istore 4, 2) := by decide +kernel
theorem dX5_chance_86 : decode cX5_chance 86 = .ok (.iinc 6 1, 3) := by decide +kernel
theorem dX5_chance_89 : decode cX5_chance 89 = .ok (.goto (-53), 3) := by decide +kernel
theorem dX5_chance_92 : decode cX5_chance 92 = .ok (.iload 4, 2) := by decide +kernel
theorem dX5_chance_94 : decode cX5_chance 94 = .ok (.iload 5, 2) := by decide +kernel
theorem dX5_chance_96 : decode cX5_chance 96 = .ok (.iload_n 3, 1) := by decide +kernel
theorem dX5_chance_97 : decode cX5_chance 97 = .ok (.invokestatic 226, 3) := by decide +kernel
theorem dX5_chance_100 : decode cX5_chance 100 = .ok (.ireturn, 1) := by decide +kernel
theorem dX5_seed_0 : decode cX5_seed 0 = .ok (.aload_n 0, 1) := by decide +kernel
theorem dX5_seed_1 : decode cX5_seed 1 = .ok (.getfield 242, 3) := by decide +kernel
theorem dX5_seed_4 : decode cX5_seed 4 = .ok (.lstore_n 3, 1) := by decide +kernel
theorem dX5_seed_5 : decode cX5_seed 5 = .ok (.aload_n 0, 1) := by decide +kernel
theorem dX5_seed_6 : decode cX5_seed 6 = .ok (.lload_n 1, 1) := by decide +kernel
theorem dX5_seed_7 : decode cX5_seed 7 = .ok (.putfield 242, 3) := by decide +kernel
theorem dX5_seed_10 : decode cX5_seed 10 = .ok (.lload_n 3, 1) := by decide +kernel
theorem dX5_seed_11 : decode cX5_seed 11 = .ok (.lreturn, 1) := by decide +kernel
theorem dX5_drawn_0 : decode cX5_drawn 0 = .ok (.iload_n 1, 1) := by decide +kernel
theorem dX5_drawn_1 : decode cX5_drawn 1 = .ok (.iconst 1, 1) := by decide +kernel
theorem dX5_drawn_2 : decode cX5_drawn 2 = .ok (.if_icmp .lt 9, 3) := by decide +kernel
theorem dX5_drawn_5 : decode cX5_drawn 5 = .ok (.iload_n 1, 1) := by decide +kernel
theorem dX5_drawn_6 : decode cX5_drawn 6 = .ok (.bipush 30, 2) := by decide +kernel
theorem dX5_drawn_8 : decode cX5_drawn 8 = .ok (.if_icmp .le 6, 3) := by decide +kernel
theorem dX5_drawn_11 : decode cX5_drawn 11 = .ok (.bipush (-2), 2) := by decide +kernel
theorem dX5_drawn_13 : decode cX5_drawn 13 = .ok (.ireturn, 1) := by decide +kernel
theorem dX5_drawn_14 : decode cX5_drawn 14 = .ok (.aload_n 0, 1) := by decide +kernel
theorem dX5_drawn_15 : decode cX5_drawn 15 = .ok (.getfield 16, 3) := by decide +kernel
theorem dX5_drawn_18 : decode cX5_drawn 18 = .ok (.aload_n 0, 1) := by decide +kernel
theorem dX5_drawn_19 : decode cX5_drawn 19 = .ok (.getfield 10, 3) := by decide +kernel
theorem dX5_drawn_22 : decode cX5_drawn 22 = .ok (.invokevirtual 69, 3) := by decide +kernel
theorem dX5_drawn_25 : decode cX5_drawn 25 = .ok (.iconst 0, 1) := by decide +kernel
theorem dX5_drawn_26 : decode cX5_drawn 26 = .ok (.istore_n 2, 1) := by decide +kernel
theorem dX5_drawn_27 : decode cX5_drawn 27 = .ok (.iload_n 2, 1) := by decide +kernel
theorem dX5_drawn_28 : decode cX5_drawn 28 = .ok (.iload_n 1, 1) := by decide +kernel
theorem dX5_drawn_29 : decode cX5_drawn 29 = .ok (.if_icmp .ge 20, 3) := by decide +kernel
theorem dX5_drawn_32 : decode cX5_drawn 32 = .ok (.aload_n 0, 1) := by decide +kernel
theorem dX5_drawn_33 : decode cX5_drawn 33 = .ok (.aload_n 0, 1) := by decide +kernel
theorem dX5_drawn_34 : decode cX5_drawn 34 = .ok (.getfield 16, 3) := by decide +kernel
theorem dX5_drawn_37 : decode cX5_drawn 37 = .ok (.getfield 79, 3) := by decide +kernel
theorem dX5_drawn_40 : decode cX5_drawn 40 = .ok (.invokevirtual 246, 3) := by decide +kernel
theorem dX5_drawn_43 : decode cX5_drawn 43 = .ok (.iinc 2 1, 3) := by decide +kernel
theorem dX5_drawn_46 : decode cX5_drawn 46 = .ok (.goto (-19), 3) := by decide +kernel
theorem dX5_drawn_49 : decode cX5_drawn 49 = .ok (.iconst 0, 1) := by decide +kernel
theorem dX5_drawn_50 : decode cX5_drawn 50 = .ok (.istore_n 2, 1) := by decide +kernel
theorem dX5_drawn_51 : decode cX5_drawn 51 = .ok (.iconst 0, 1) := by decide +kernel
theorem dX5_drawn_52 : decode cX5_drawn 52 = .ok (.istore_n 3, 1) := by decide +kernel
theorem dX5_drawn_53 : decode cX5_drawn 53 = .ok (.iload_n 3, 1) := by decide +kernel
theorem dX5_drawn_54 : decode cX5_drawn 54 = .ok (.aload_n 0, 1) := by decide +kernel
theorem dX5_drawn_55 : decode cX5_drawn 55 = .ok (.getfield 16, 3) := by decide +kernel
theorem dX5_drawn_58 : decode cX5_drawn 58 = .ok (.getfield 76, 3) := by decide +kernel
theorem dX5_drawn_61 : decode cX5_drawn 61 = .ok (.if_icmp .ge 24, 3) := by decide +kernel
theorem dX5_drawn_64 : decode cX5_drawn 64 = .ok (.iload_n 2, 1) := by decide +kernel
theorem dX5_drawn_65 : decode cX5_drawn 65 = .ok (.aload_n 0, 1) := by decide +kernel
theorem dX5_drawn_66 : decode cX5_drawn 66 = .ok (.aload_n 0, 1) := by decide +kernel
theorem dX5_drawn_67 : decode cX5_drawn 67 = .ok (.getfield 16, 3) := by decide +kernel
theorem dX5_drawn_70 : decode cX5_drawn 70 = .ok (.iload_n 3, 1) := by decide +kernel
theorem dX5_drawn_71 : decode cX5_drawn 71 = .ok (.invokevirtual 208, 3) := by decide +kernel
theorem dX5_drawn_74 : decode cX5_drawn 74 = .ok (.invokestatic 237, 3) := by decide +kernel
theorem dX5_drawn_77 : decode cX5_drawn 77 = .ok (.iadd, 1) := by decide +kernel
theorem dX5_drawn_78 : decode cX5_drawn 78 = .ok (.istore_n 2, 1) := by decide +kernel
theorem dX5_drawn_79 : decode cX5_drawn 79 = .ok (.iinc 3 1, 3) := by decide +kernel
theorem dX5_drawn_82 : decode cX5_drawn 82 = .ok (.goto (-29), 3) := by decide +kernel
theorem dX5_drawn_85 : decode cX5_drawn 85 = .ok (.iload_n 2, 1) := by decide +kernel
theorem dX5_drawn_86 : decode cX5_drawn 86 = .ok (.ireturn, 1) := by decide +kernel
theorem dX5_keep_0 : decode cX5_keep 0 = .ok (.iload_n 1, 1) := by decide +kernel
theorem dX5_keep_1 : decode cX5_keep 1 = .ok (.ifCond .lt 8, 3) := by decide +kernel
theorem dX5_keep_4 : decode cX5_keep 4 = .ok (.iload_n 1, 1) := by decide +kernel
theorem dX5_keep_5 : decode cX5_keep 5 = .ok (.iconst 2, 1) := by decide +kernel
theorem dX5_keep_6 : decode cX5_keep 6 = .ok (.if_icmp .lt 5, 3) := by decide +kernel
theorem dX5_keep_9 : decode cX5_keep 9 = .ok (.iconst (-1), 1) := by decide +kernel
theorem dX5_keep_10 : decode cX5_keep 10 = .ok (.ireturn, 1) := by decide +kernel
theorem dX5_keep_11 : decode cX5_keep 11 = .ok (.aload_n 0, 1) := by decide +kernel
theorem dX5_keep_12 : decode cX5_keep 12 = .ok (.getfield 23, 3) := by decide +kernel
theorem dX5_keep_15 : decode cX5_keep 15 = .ok (.iload_n 1, 1) := by decide +kernel
theorem dX5_keep_16 : decode cX5_keep 16 = .ok (.aaload, 1) := by decide +kernel
theorem dX5_keep_17 : decode cX5_keep 17 = .ok (.aload_n 0, 1) := by decide +kernel
theorem dX5_keep_18 : decode cX5_keep 18 = .ok (.getfield 10, 3) := by decide +kernel
theorem dX5_keep_21 : decode cX5_keep 21 = .ok (.invokevirtual 69, 3) := by decide +kernel
theorem dX5_keep_24 : decode cX5_keep 24 = .ok (.aload_n 0, 1) := by decide +kernel
theorem dX5_keep_25 : decode cX5_keep 25 = .ok (.getfield 26, 3) := by decide +kernel
theorem dX5_keep_28 : decode cX5_keep 28 = .ok (.iload_n 1, 1) := by decide +kernel
theorem dX5_keep_29 : decode cX5_keep 29 = .ok (.iconst 1, 1) := by decide +kernel
theorem dX5_keep_30 : decode cX5_keep 30 = .ok (.bastore, 1) := by decide +kernel
theorem dX5_keep_31 : decode cX5_keep 31 = .ok (.aload_n 0, 1) := by decide +kernel
theorem dX5_keep_32 : decode cX5_keep 32 = .ok (.getfield 10, 3) := by decide +kernel
theorem dX5_keep_35 : decode cX5_keep 35 = .ok (.getfield 79, 3) := by decide +kernel
theorem dX5_keep_38 : decode cX5_keep 38 = .ok (.getfield 95, 3) := by decide +kernel
theorem dX5_keep_41 : decode cX5_keep 41 = .ok (.ireturn, 1) := by decide +kernel
theorem dX5_again_0 : decode cX5_again 0 = .ok (.iload_n 1, 1) := by decide +kernel
theorem dX5_again_1 : decode cX5_again 1 = .ok (.ifCond .lt 8, 3) := by decide +kernel
theorem dX5_again_4 : decode cX5_again 4 = .ok (.iload_n 1, 1) := by decide +kernel
theorem dX5_again_5 : decode cX5_again 5 = .ok (.iconst 2, 1) := by decide +kernel
theorem dX5_again_6 : decode cX5_again 6 = .ok (.if_icmp .lt 5, 3) := by decide +kernel
theorem dX5_again_9 : decode cX5_again 9 = .ok (.iconst (-1), 1) := by decide +kernel
theorem dX5_again_10 : decode cX5_again 10 = .ok (.ireturn, 1) := by decide +kernel
theorem dX5_again_11 : decode cX5_again 11 = .ok (.aload_n 0, 1) := by decide +kernel
theorem dX5_again_12 : decode cX5_again 12 = .ok (.getfield 26, 3) := by decide +kernel
theorem dX5_again_15 : decode cX5_again 15 = .ok (.iload_n 1, 1) := by decide +kernel
theorem dX5_again_16 : decode cX5_again 16 = .ok (.baload, 1) := by decide +kernel
theorem dX5_again_17 : decode cX5_again 17 = .ok (.ifCond .ne 6, 3) := by decide +kernel
theorem dX5_again_20 : decode cX5_again 20 = .ok (.bipush (-3), 2) := by decide +kernel
theorem dX5_again_22 : decode cX5_again 22 = .ok (.ireturn, 1) := by decide +kernel
theorem dX5_again_23 : decode cX5_again 23 = .ok (.aload_n 0, 1) := by decide +kernel
theorem dX5_again_24 : decode cX5_again 24 = .ok (.getfield 10, 3) := by decide +kernel
theorem dX5_again_27 : decode cX5_again 27 = .ok (.aload_n 0, 1) := by decide +kernel
theorem dX5_again_28 : decode cX5_again 28 = .ok (.getfield 23, 3) := by decide +kernel
theorem dX5_again_31 : decode cX5_again 31 = .ok (.iload_n 1, 1) := by decide +kernel
theorem dX5_again_32 : decode cX5_again 32 = .ok (.aaload, 1) := by decide +kernel
theorem dX5_again_33 : decode cX5_again 33 = .ok (.invokevirtual 69, 3) := by decide +kernel
theorem dX5_again_36 : decode cX5_again 36 = .ok (.aload_n 0, 1) := by decide +kernel
theorem dX5_again_37 : decode cX5_again 37 = .ok (.invokevirtual 73, 3) := by decide +kernel
theorem dX5_again_40 : decode cX5_again 40 = .ok (.aload_n 0, 1) := by decide +kernel
theorem dX5_again_41 : decode cX5_again 41 = .ok (.getfield 10, 3) := by decide +kernel
theorem dX5_again_44 : decode cX5_again 44 = .ok (.getfield 79, 3) := by decide +kernel
theorem dX5_again_47 : decode cX5_again 47 = .ok (.getfield 95, 3) := by decide +kernel
theorem dX5_again_50 : decode cX5_again 50 = .ok (.ireturn, 1) := by decide +kernel
theorem dX5_isElement_0 : decode cX5_isElement 0 = .ok (.iload_n 1, 1) := by decide +kernel
theorem dX5_isElement_1 : decode cX5_isElement 1 = .ok (.ifCond .lt 21, 3) := by decide +kernel
theorem dX5_isElement_4 : decode cX5_isElement 4 = .ok (.iload_n 1, 1) := by decide +kernel
theorem dX5_isElement_5 : decode cX5_isElement 5 = .ok (.aload_n 0, 1) := by decide +kernel
theorem dX5_isElement_6 : decode cX5_isElement 6 = .ok (.getfield 10, 3) := by decide +kernel
theorem dX5_isElement_9 : decode cX5_isElement 9 = .ok (.getfield 79, 3) := by decide +kernel
theorem dX5_isElement_12 : decode cX5_isElement 12 = .ok (.getfield 83, 3) := by decide +kernel
theorem dX5_isElement_15 : decode cX5_isElement 15 = .ok (.if_icmp .ge 7, 3) := by decide +kernel
theorem dX5_isElement_18 : decode cX5_isElement 18 = .ok (.iconst 1, 1) := by decide +kernel
theorem dX5_isElement_19 : decode cX5_isElement 19 = .ok (.goto 4, 3) := by decide +kernel
theorem dX5_isElement_22 : decode cX5_isElement 22 = .ok (.iconst 0, 1) := by decide +kernel
theorem dX5_isElement_23 : decode cX5_isElement 23 = .ok (.ireturn, 1) := by decide +kernel
theorem dX5_isPath_0 : decode cX5_isPath 0 = .ok (.iload_n 1, 1) := by decide +kernel
theorem dX5_isPath_1 : decode cX5_isPath 1 = .ok (.ifCond .lt 18, 3) := by decide +kernel
theorem dX5_isPath_4 : decode cX5_isPath 4 = .ok (.iload_n 1, 1) := by decide +kernel
theorem dX5_isPath_5 : decode cX5_isPath 5 = .ok (.aload_n 0, 1) := by decide +kernel
theorem dX5_isPath_6 : decode cX5_isPath 6 = .ok (.getfield 10, 3) := by decide +kernel
theorem dX5_isPath_9 : decode cX5_isPath 9 = .ok (.getfield 76, 3) := by decide +kernel
theorem dX5_isPath_12 : decode cX5_isPath 12 = .ok (.if_icmp .ge 7, 3) := by decide +kernel
theorem dX5_isPath_15 : decode cX5_isPath 15 = .ok (.iconst 1, 1) := by decide +kernel
theorem dX5_isPath_16 : decode cX5_isPath 16 = .ok (.goto 4, 3) := by decide +kernel
theorem dX5_isPath_19 : decode cX5_isPath 19 = .ok (.iconst 0, 1) := by decide +kernel
theorem dX5_isPath_20 : decode cX5_isPath 20 = .ok (.ireturn, 1) := by decide +kernel
theorem dX5_readTask_0 : decode cX5_readTask 0 = .ok (.aload_n 0, 1) := by decide +kernel
theorem dX5_readTask_1 : decode cX5_readTask 1 = .ok (.getfield 16, 3) := by decide +kernel
theorem dX5_readTask_4 : decode cX5_readTask 4 = .ok (.invokevirtual 250, 3) := by decide +kernel
theorem dX5_readTask_7 : decode cX5_readTask 7 = .ok (.aload_n 0, 1) := by decide +kernel
theorem dX5_readTask_8 : decode cX5_readTask 8 = .ok (.getfield 40, 3) := by decide +kernel
theorem dX5_readTask_11 : decode cX5_readTask 11 = .ok (.invokevirtual 253, 3) := by decide +kernel
theorem dX5_readTask_14 : decode cX5_readTask 14 = .ok (.iconst 0, 1) := by decide +kernel
theorem dX5_readTask_15 : decode cX5_readTask 15 = .ok (.istore_n 2, 1) := by decide +kernel
theorem dX5_readTask_16 : decode cX5_readTask 16 = .ok (.iload_n 2, 1) := by decide +kernel
theorem dX5_readTask_17 : decode cX5_readTask 17 = .ok (.aload_n 0, 1) := by decide +kernel
theorem dX5_readTask_18 : decode cX5_readTask 18 = .ok (.getfield 61, 3) := by decide +kernel
theorem dX5_readTask_21 : decode cX5_readTask 21 = .ok (.if_icmp .ge 72, 3) := by decide +kernel
theorem dX5_readTask_24 : decode cX5_readTask 24 = .ok (.aload_n 0, 1) := by decide +kernel
theorem dX5_readTask_25 : decode cX5_readTask 25 = .ok (.getfield 16, 3) := by decide +kernel
theorem dX5_readTask_28 : decode cX5_readTask 28 = .ok (.getfield 79, 3) := by decide +kernel
theorem dX5_readTask_31 : decode cX5_readTask 31 = .ok (.getfield 95, 3) := by decide +kernel
theorem dX5_readTask_34 : decode cX5_readTask 34 = .ok (.istore_n 3, 1) := by decide +kernel
theorem dX5_readTask_35 : decode cX5_readTask 35 = .ok (.aload_n 0, 1) := by decide +kernel
theorem dX5_readTask_36 : decode cX5_readTask 36 = .ok (.getfield 40, 3) := by decide +kernel
theorem dX5_readTask_39 : decode cX5_readTask 39 = .ok (.aload_n 0, 1) := by decide +kernel
theorem dX5_readTask_40 : decode cX5_readTask 40 = .ok (.getfield 44, 3) := by decide +kernel
theorem dX5_readTask_43 : decode cX5_readTask 43 = .ok (.iload_n 2, 1) := by decide +kernel
theorem dX5_readTask_44 : decode cX5_readTask 44 = .ok (.caload, 1) := by decide +kernel
theorem dX5_readTask_45 : decode cX5_readTask 45 = .ok (.aload_n 0, 1) := by decide +kernel
theorem dX5_readTask_46 : decode cX5_readTask 46 = .ok (.getfield 16, 3) := by decide +kernel
theorem dX5_readTask_49 : decode cX5_readTask 49 = .ok (.invokevirtual 256, 3) := by decide +kernel
theorem dX5_readTask_52 : decode cX5_readTask 52 = .ok (.ifCond .ne 5, 3) := by decide +kernel
theorem dX5_readTask_55 : decode cX5_readTask 55 = .ok (.iload_n 2, 1) := by decide +kernel
theorem dX5_readTask_56 : decode cX5_readTask 56 = .ok (.ireturn, 1) := by decide +kernel
theorem dX5_readTask_57 : decode cX5_readTask 57 = .ok (.iload_n 1, 1) := by decide +kernel
theorem dX5_readTask_58 : decode cX5_readTask 58 = .ok (.ifCond .eq 29, 3) := by decide +kernel
theorem dX5_readTask_61 : decode cX5_readTask 61 = .ok (.aload_n 0, 1) := by decide +kernel
theorem dX5_readTask_62 : decode cX5_readTask 62 = .ok (.getfield 16, 3) := by decide +kernel
theorem dX5_readTask_65 : decode cX5_readTask 65 = .ok (.getfield 79, 3) := by decide +kernel
theorem dX5_readTask_68 : decode cX5_readTask 68 = .ok (.getfield 95, 3) := by decide +kernel
theorem dX5_readTask_71 : decode cX5_readTask 71 = .ok (.iload_n 3, 1) := by decide +kernel
theorem dX5_readTask_72 : decode cX5_readTask 72 = .ok (.if_icmp .eq 15, 3) := by decide +kernel
theorem dX5_readTask_75 : decode cX5_readTask 75 = .ok (.aload_n 0, 1) := by decide +kernel
theorem dX5_readTask_76 : decode cX5_readTask 76 = .ok (.getfield 16, 3) := by decide +kernel
theorem dX5_readTask_79 : decode cX5_readTask 79 = .ok (.aload_n 0, 1) := by decide +kernel
theorem dX5_readTask_80 : decode cX5_readTask 80 = .ok (.getfield 33, 3) := by decide +kernel
theorem dX5_readTask_83 : decode cX5_readTask 83 = .ok (.invokevirtual 179, 3) := by decide +kernel
theorem dX5_readTask_86 : decode cX5_readTask 86 = .ok (.pop, 1) := by decide +kernel
theorem dX5_readTask_87 : decode cX5_readTask 87 = .ok (.iinc 2 1, 3) := by decide +kernel
theorem dX5_readTask_90 : decode cX5_readTask 90 = .ok (.goto (-74), 3) := by decide +kernel
theorem dX5_readTask_93 : decode cX5_readTask 93 = .ok (.aload_n 0, 1) := by decide +kernel
theorem dX5_readTask_94 : decode cX5_readTask 94 = .ok (.getfield 40, 3) := by decide +kernel
theorem dX5_readTask_97 : decode cX5_readTask 97 = .ok (.invokevirtual 260, 3) := by decide +kernel
theorem dX5_readTask_100 : decode cX5_readTask 100 = .ok (.ifCond .eq 8, 3) := by decide +kernel
theorem dX5_readTask_103 : decode cX5_readTask 103 = .ok (.bipush (-9), 2) := by decide +kernel
theorem dX5_readTask_105 : decode cX5_readTask 105 = .ok (.goto 7, 3) := by decide +kernel
theorem dX5_readTask_108 : decode cX5_readTask 108 = .ok (.aload_n 0, 1) := by decide +kernel
theorem dX5_readTask_109 : decode cX5_readTask 109 = .ok (.getfield 61, 3) := by decide +kernel
theorem dX5_readTask_112 : decode cX5_readTask 112 = .ok (.ireturn, 1) := by decide +kernel
theorem dX5_recordAction_0 : decode cX5_recordAction 0 = .ok (.aload_n 0, 1) := by decide +kernel
theorem dX5_recordAction_1 : decode cX5_recordAction 1 = .ok (.getfield 19, 3) := by decide +kernel
theorem dX5_recordAction_4 : decode cX5_recordAction 4 = .ok (.aload_n 0, 1) := by decide +kernel
theorem dX5_recordAction_5 : decode cX5_recordAction 5 = .ok (.getfield 205, 3) := by decide +kernel
theorem dX5_recordAction_8 : decode cX5_recordAction 8 = .ok (.aaload, 1) := by decide +kernel
theorem dX5_recordAction_9 : decode cX5_recordAction 9 = .ok (.aload_n 0, 1) := by decide +kernel
theorem dX5_recordAction_10 : decode cX5_recordAction 10 = .ok (.getfield 10, 3) := by decide +kernel
theorem dX5_recordAction_13 : decode cX5_recordAction 13 = .ok (.invokevirtual 69, 3) := by decide +kernel
theorem dX5_recordAction_16 : decode cX5_recordAction 16 = .ok (.aload_n 0, 1) := by decide +kernel
theorem dX5_recordAction_17 : decode cX5_recordAction 17 = .ok (.aload_n 0, 1) := by decide +kernel
theorem dX5_recordAction_18 : decode cX5_recordAction 18 = .ok (.getfield 205, 3) := by decide +kernel
theorem dX5_recordAction_21 : decode cX5_recordAction 21 = .ok (.bipush 13, 2) := by decide +kernel
theorem dX5_recordAction_23 : decode cX5_recordAction 23 = .ok (.if_icmp .ge 12, 3) := by decide +kernel
theorem dX5_recordAction_26 : decode cX5_recordAction 26 = .ok (.aload_n 0, 1) := by decide +kernel
theorem dX5_recordAction_27 : decode cX5_recordAction 27 = .ok (.getfield 205, 3) := by decide +kernel
theorem dX5_recordAction_30 : decode cX5_recordAction 30 = .ok (.iconst 1, 1) := by decide +kernel
theorem dX5_recordAction_31 : decode cX5_recordAction 31 = .ok (.iadd, 1) := by decide +kernel
theorem dX5_recordAction_32 : decode cX5_recordAction 32 = .ok (.goto 4, 3) := by decide +kernel
theorem dX5_recordAction_35 : decode cX5_recordAction 35 = .ok (.iconst 0, 1) := by decide +kernel
theorem dX5_recordAction_36 : decode cX5_recordAction 36 = .ok (.putfield 205, 3) := by decide +kernel
theorem dX5_recordAction_39 : decode cX5_recordAction 39 = .ok (.aload_n 0, 1) := by decide +kernel
theorem dX5_recordAction_40 : decode cX5_recordAction 40 = .ok (.getfield 101, 3) := by decide +kernel
theorem dX5_recordAction_43 : decode cX5_recordAction 43 = .ok (.bipush 14, 2) := by decide +kernel
theorem dX5_recordAction_45 : decode cX5_recordAction 45 = .ok (.if_icmp .ge 13, 3) := by decide +kernel
theorem dX5_recordAction_48 : decode cX5_recordAction 48 = .ok (.aload_n 0, 1) := by decide +kernel
theorem dX5_recordAction_49 : decode cX5_recordAction 49 = .ok (.dup, 1) := by decide +kernel
theorem dX5_recordAction_50 : decode cX5_recordAction 50 = .ok (.getfield 101, 3) := by decide +kernel
theorem dX5_recordAction_53 : decode cX5_recordAction 53 = .ok (.iconst 1, 1) := by decide +kernel
theorem dX5_recordAction_54 : decode cX5_recordAction 54 = .ok (.iadd, 1) := by decide +kernel
theorem dX5_recordAction_55 : decode cX5_recordAction 55 = .ok (.putfield 101, 3) := by decide +kernel
theorem dX5_recordAction_58 : decode cX5_recordAction 58 = .ok (.return_, 1) := by decide +kernel
theorem dX5_forgetActions_0 : decode cX5_forgetActions 0 = .ok (.aload_n 0, 1) := by decide +kernel
theorem dX5_forgetActions_1 : decode cX5_forgetActions 1 = .ok (.iconst 0, 1) := by decide +kernel
theorem dX5_forgetActions_2 : decode cX5_forgetActions 2 = .ok (.putfield 101, 3) := by decide +kernel
theorem dX5_forgetActions_5 : decode cX5_forgetActions 5 = .ok (.return_, 1) := by decide +kernel
theorem dX5_answersOf_0 : decode cX5_answersOf 0 = .ok (.aload_n 0, 1) := by decide +kernel
theorem dX5_answersOf_1 : decode cX5_answersOf 1 = .ok (.getfield 33, 3) := by decide +kernel
theorem dX5_answersOf_4 : decode cX5_answersOf 4 = .ok (.aload_n 1, 1) := by decide +kernel
theorem dX5_answersOf_5 : decode cX5_answersOf 5 = .ok (.getfield 79, 3) := by decide +kernel
theorem dX5_answersOf_8 : decode cX5_answersOf 8 = .ok (.aload_n 1, 1) := by decide +kernel
theorem dX5_answersOf_9 : decode cX5_answersOf 9 = .ok (.getfield 136, 3) := by decide +kernel
theorem dX5_answersOf_12 : decode cX5_answersOf 12 = .ok (.iload_n 2, 1) := by decide +kernel
theorem dX5_answersOf_13 : decode cX5_answersOf 13 = .ok (.aaload, 1) := by decide +kernel
theorem dX5_answersOf_14 : decode cX5_answersOf 14 = .ok (.invokevirtual 148, 3) := by decide +kernel
theorem dX5_answersOf_17 : decode cX5_answersOf 17 = .ok (.aload_n 0, 1) := by decide +kernel
theorem dX5_answersOf_18 : decode cX5_answersOf 18 = .ok (.getfield 33, 3) := by decide +kernel
theorem dX5_answersOf_21 : decode cX5_answersOf 21 = .ok (.getfield 152, 3) := by decide +kernel
theorem dX5_answersOf_24 : decode cX5_answersOf 24 = .ok (.ireturn, 1) := by decide +kernel
theorem dX5_pathNumber_0 : decode cX5_pathNumber 0 = .ok (.aload_n 1, 1) := by decide +kernel
theorem dX5_pathNumber_1 : decode cX5_pathNumber 1 = .ok (.getfield 136, 3) := by decide +kernel
theorem dX5_pathNumber_4 : decode cX5_pathNumber 4 = .ok (.iload_n 2, 1) := by decide +kernel
theorem dX5_pathNumber_5 : decode cX5_pathNumber 5 = .ok (.aaload, 1) := by decide +kernel
theorem dX5_pathNumber_6 : decode cX5_pathNumber 6 = .ok (.astore 4, 2) := by decide +kernel
theorem dX5_pathNumber_8 : decode cX5_pathNumber 8 = .ok (.aload_n 0, 1) := by decide +kernel
theorem dX5_pathNumber_9 : decode cX5_pathNumber 9 = .ok (.getfield 33, 3) := by decide +kernel
theorem dX5_pathNumber_12 : decode cX5_pathNumber 12 = .ok (.aload_n 1, 1) := by decide +kernel
theorem dX5_pathNumber_13 : decode cX5_pathNumber 13 = .ok (.getfield 79, 3) := by decide +kernel
theorem dX5_pathNumber_16 : decode cX5_pathNumber 16 = .ok (.aload 4, 2) := by decide +kernel
theorem dX5_pathNumber_18 : decode cX5_pathNumber 18 = .ok (.invokevirtual 148, 3) := by decide +kernel
theorem dX5_pathNumber_21 : decode cX5_pathNumber 21 = .ok (.iload_n 3, 1) := by decide +kernel
theorem dX5_pathNumber_22 : decode cX5_pathNumber 22 = .ok (.tableswitch 77 0 5 #[38, 77, 44, 50, 60, 66], 38) := by decide +kernel
theorem dX5_pathNumber_60 : decode cX5_pathNumber 60 = .ok (.aload 4, 2) := by decide +kernel
theorem dX5_pathNumber_62 : decode cX5_pathNumber 62 = .ok (.getfield 140, 3) := by decide +kernel
theorem dX5_pathNumber_65 : decode cX5_pathNumber 65 = .ok (.ireturn, 1) := by decide +kernel
theorem dX5_pathNumber_66 : decode cX5_pathNumber 66 = .ok (.aload 4, 2) := by decide +kernel
theorem dX5_pathNumber_68 : decode cX5_pathNumber 68 = .ok (.getfield 161, 3) := by decide +kernel
theorem dX5_pathNumber_71 : decode cX5_pathNumber 71 = .ok (.ireturn, 1) := by decide +kernel
theorem dX5_pathNumber_72 : decode cX5_pathNumber 72 = .ok (.aload 4, 2) := by decide +kernel
theorem dX5_pathNumber_74 : decode cX5_pathNumber 74 = .ok (.aload_n 0, 1) := by decide +kernel
theorem dX5_pathNumber_75 : decode cX5_pathNumber 75 = .ok (.getfield 33, 3) := by decide +kernel
theorem dX5_pathNumber_78 : decode cX5_pathNumber 78 = .ok (.invokevirtual 263, 3) := by decide +kernel
theorem dX5_pathNumber_81 : decode cX5_pathNumber 81 = .ok (.ireturn, 1) := by decide +kernel
theorem dX5_pathNumber_82 : decode cX5_pathNumber 82 = .ok (.aload 4, 2) := by decide +kernel
theorem dX5_pathNumber_84 : decode cX5_pathNumber 84 = .ok (.getfield 266, 3) := by decide +kernel
theorem dX5_pathNumber_87 : decode cX5_pathNumber 87 = .ok (.ireturn, 1) := by decide +kernel
theorem dX5_pathNumber_88 : decode cX5_pathNumber 88 = .ok (.aload_n 0, 1) := by decide +kernel
theorem dX5_pathNumber_89 : decode cX5_pathNumber 89 = .ok (.getfield 33, 3) := by decide +kernel
theorem dX5_pathNumber_92 : decode cX5_pathNumber 92 = .ok (.getfield 155, 3) := by decide +kernel
theorem dX5_pathNumber_95 : decode cX5_pathNumber 95 = .ok (.invokestatic 237, 3) := by decide +kernel
theorem dX5_pathNumber_98 : decode cX5_pathNumber 98 = .ok (.ireturn, 1) := by decide +kernel
theorem dX5_pathNumber_99 : decode cX5_pathNumber 99 = .ok (.aload_n 0, 1) := by decide +kernel
theorem dX5_pathNumber_100 : decode cX5_pathNumber 100 = .ok (.getfield 33, 3) := by decide +kernel
theorem dX5_pathNumber_103 : decode cX5_pathNumber 103 = .ok (.getfield 152, 3) := by decide +kernel
theorem dX5_pathNumber_106 : decode cX5_pathNumber 106 = .ok (.invokestatic 237, 3) := by decide +kernel
theorem dX5_pathNumber_109 : decode cX5_pathNumber 109 = .ok (.ireturn, 1) := by decide +kernel
theorem dX5_splits_0 : decode cX5_splits 0 = .ok (.lload_n 1, 1) := by decide +kernel
theorem dX5_splits_1 : decode cX5_splits 1 = .ok (.lconst 0, 1) := by decide +kernel
theorem dX5_splits_2 : decode cX5_splits 2 = .ok (.lcmp, 1) := by decide +kernel
theorem dX5_splits_3 : decode cX5_splits 3 = .ok (.ifCond .lt 18, 3) := by decide +kernel
theorem dX5_splits_6 : decode cX5_splits 6 = .ok (.iload_n 3, 1) := by decide +kernel
theorem dX5_splits_7 : decode cX5_splits 7 = .ok (.iconst 2, 1) := by decide +kernel
theorem dX5_splits_8 : decode cX5_splits 8 = .ok (.if_icmp .lt 13, 3) := by decide +kernel
theorem dX5_splits_11 : decode cX5_splits 11 = .ok (.iload 4, 2) := by decide +kernel
theorem dX5_splits_13 : decode cX5_splits 13 = .ok (.aload_n 0, 1) := by decide +kernel
theorem dX5_splits_14 : decode cX5_splits 14 = .ok (.getfield 55, 3) := by decide +kernel
theorem dX5_splits_17 : decode cX5_splits 17 = .ok (.arraylength, 1) := by decide +kernel
theorem dX5_splits_18 : decode cX5_splits 18 = .ok (.if_icmp .le 5, 3) := by decide +kernel
theorem dX5_splits_21 : decode cX5_splits 21 = .ok (.iconst 0, 1) := by decide +kernel
theorem dX5_splits_22 : decode cX5_splits 22 = .ok (.ireturn, 1) := by decide +kernel
theorem dX5_splits_23 : decode cX5_splits 23 = .ok (.lload_n 1, 1) := by decide +kernel
theorem dX5_splits_24 : decode cX5_splits 24 = .ok (.lstore 5, 2) := by decide +kernel
theorem dX5_splits_26 : decode cX5_splits 26 = .ok (.iload 4, 2) := by decide +kernel
theorem dX5_splits_28 : decode cX5_splits 28 = .ok (.iconst 1, 1) := by decide +kernel
theorem dX5_splits_29 : decode cX5_splits 29 = .ok (.isub, 1) := by decide +kernel
theorem dX5_splits_30 : decode cX5_splits 30 = .ok (.istore 7, 2) := by decide +kernel
theorem dX5_splits_32 : decode cX5_splits 32 = .ok (.iload 7, 2) := by decide +kernel
theorem dX5_splits_34 : decode cX5_splits 34 = .ok (.ifCond .lt 29, 3) := by decide +kernel
theorem dX5_splits_37 : decode cX5_splits 37 = .ok (.aload_n 0, 1) := by decide +kernel
theorem dX5_splits_38 : decode cX5_splits 38 = .ok (.getfield 55, 3) := by decide +kernel
theorem dX5_splits_41 : decode cX5_splits 41 = .ok (.iload 7, 2) := by decide +kernel
theorem dX5_splits_43 : decode cX5_splits 43 = .ok (.lload 5, 2) := by decide +kernel
theorem dX5_splits_45 : decode cX5_splits 45 = .ok (.iload_n 3, 1) := by decide +kernel
theorem dX5_splits_46 : decode cX5_splits 46 = .ok (.i2l, 1) := by decide +kernel
theorem dX5_splits_47 : decode cX5_splits 47 = .ok (.lrem, 1) := by decide +kernel
theorem dX5_splits_48 : decode cX5_splits 48 = .ok (.l2i, 1) := by decide +kernel
theorem dX5_splits_49 : decode cX5_splits 49 = .ok (.iastore, 1) := by decide +kernel
theorem dX5_splits_50 : decode cX5_splits 50 = .ok (.lload 5, 2) := by decide +kernel
theorem dX5_splits_52 : decode cX5_splits 52 = .ok (.iload_n 3, 1) := by decide +kernel
theorem dX5_splits_53 : decode cX5_splits 53 = .ok (.i2l, 1) := by decide +kernel
theorem dX5_splits_54 : decode cX5_splits 54 = .ok (.ldiv, 1) := by decide +kernel
theorem dX5_splits_55 : decode cX5_splits 55 = .ok (.lstore 5, 2) := by decide +kernel
theorem dX5_splits_57 : decode cX5_splits 57 = .ok (.iinc 7 (-1), 3) := by decide +kernel
theorem dX5_splits_60 : decode cX5_splits 60 = .ok (.goto (-28), 3) := by decide +kernel
theorem dX5_splits_63 : decode cX5_splits 63 = .ok (.lload 5, 2) := by decide +kernel
theorem dX5_splits_65 : decode cX5_splits 65 = .ok (.lconst 0, 1) := by decide +kernel
theorem dX5_splits_66 : decode cX5_splits 66 = .ok (.lcmp, 1) := by decide +kernel
theorem dX5_splits_67 : decode cX5_splits 67 = .ok (.ifCond .ne 7, 3) := by decide +kernel
theorem dX5_splits_70 : decode cX5_splits 70 = .ok (.iconst 1, 1) := by decide +kernel
theorem dX5_splits_71 : decode cX5_splits 71 = .ok (.goto 4, 3) := by decide +kernel
theorem dX5_splits_74 : decode cX5_splits 74 = .ok (.iconst 0, 1) := by decide +kernel
theorem dX5_splits_75 : decode cX5_splits 75 = .ok (.ireturn, 1) := by decide +kernel
theorem dX5_partsAreSteps_0 : decode cX5_partsAreSteps 0 = .ok (.iconst 0, 1) := by decide +kernel
theorem dX5_partsAreSteps_1 : decode cX5_partsAreSteps 1 = .ok (.istore_n 2, 1) := by decide +kernel
theorem dX5_partsAreSteps_2 : decode cX5_partsAreSteps 2 = .ok (.iload_n 2, 1) := by decide +kernel
theorem dX5_partsAreSteps_3 : decode cX5_partsAreSteps 3 = .ok (.iload_n 1, 1) := by decide +kernel
theorem dX5_partsAreSteps_4 : decode cX5_partsAreSteps 4 = .ok (.if_icmp .ge 65, 3) := by decide +kernel
theorem dX5_partsAreSteps_7 : decode cX5_partsAreSteps 7 = .ok (.aload_n 0, 1) := by decide +kernel
theorem dX5_partsAreSteps_8 : decode cX5_partsAreSteps 8 = .ok (.getfield 55, 3) := by decide +kernel
theorem dX5_partsAreSteps_11 : decode cX5_partsAreSteps 11 = .ok (.iload_n 2, 1) := by decide +kernel
theorem dX5_partsAreSteps_12 : decode cX5_partsAreSteps 12 = .ok (.iaload, 1) := by decide +kernel
theorem dX5_partsAreSteps_13 : decode cX5_partsAreSteps 13 = .ok (.sipush 1000, 3) := by decide +kernel
theorem dX5_partsAreSteps_16 : decode cX5_partsAreSteps 16 = .ok (.idiv, 1) := by decide +kernel
theorem dX5_partsAreSteps_17 : decode cX5_partsAreSteps 17 = .ok (.istore_n 3, 1) := by decide +kernel
theorem dX5_partsAreSteps_18 : decode cX5_partsAreSteps 18 = .ok (.aload_n 0, 1) := by decide +kernel
theorem dX5_partsAreSteps_19 : decode cX5_partsAreSteps 19 = .ok (.getfield 55, 3) := by decide +kernel
theorem dX5_partsAreSteps_22 : decode cX5_partsAreSteps 22 = .ok (.iload_n 2, 1) := by decide +kernel
theorem dX5_partsAreSteps_23 : decode cX5_partsAreSteps 23 = .ok (.iaload, 1) := by decide +kernel
theorem dX5_partsAreSteps_24 : decode cX5_partsAreSteps 24 = .ok (.bipush 100, 2) := by decide +kernel
theorem dX5_partsAreSteps_26 : decode cX5_partsAreSteps 26 = .ok (.idiv, 1) := by decide +kernel
theorem dX5_partsAreSteps_27 : decode cX5_partsAreSteps 27 = .ok (.bipush 10, 2) := by decide +kernel
theorem dX5_partsAreSteps_29 : decode cX5_partsAreSteps 29 = .ok (.irem, 1) := by decide +kernel
theorem dX5_partsAreSteps_30 : decode cX5_partsAreSteps 30 = .ok (.istore 4, 2) := by decide +kernel
theorem dX5_partsAreSteps_32 : decode cX5_partsAreSteps 32 = .ok (.aload_n 0, 1) := by decide +kernel
theorem dX5_partsAreSteps_33 : decode cX5_partsAreSteps 33 = .ok (.getfield 55, 3) := by decide +kernel
theorem dX5_partsAreSteps_36 : decode cX5_partsAreSteps 36 = .ok (.iload_n 2, 1) := by decide +kernel
theorem dX5_partsAreSteps_37 : decode cX5_partsAreSteps 37 = .ok (.iaload, 1) := by decide +kernel
theorem dX5_partsAreSteps_38 : decode cX5_partsAreSteps 38 = .ok (.bipush 100, 2) := by decide +kernel
theorem dX5_partsAreSteps_40 : decode cX5_partsAreSteps 40 = .ok (.irem, 1) := by decide +kernel
theorem dX5_partsAreSteps_41 : decode cX5_partsAreSteps 41 = .ok (.istore 5, 2) := by decide +kernel
theorem dX5_partsAreSteps_43 : decode cX5_partsAreSteps 43 = .ok (.iload_n 3, 1) := by decide +kernel
theorem dX5_partsAreSteps_44 : decode cX5_partsAreSteps 44 = .ok (.iconst 1, 1) := by decide +kernel
theorem dX5_partsAreSteps_45 : decode cX5_partsAreSteps 45 = .ok (.if_icmp .gt 16, 3) := by decide +kernel
theorem dX5_partsAreSteps_48 : decode cX5_partsAreSteps 48 = .ok (.iload 4, 2) := by decide +kernel
theorem dX5_partsAreSteps_50 : decode cX5_partsAreSteps 50 = .ok (.iconst 5, 1) := by decide +kernel
theorem dX5_partsAreSteps_51 : decode cX5_partsAreSteps 51 = .ok (.if_icmp .gt 10, 3) := by decide +kernel
theorem dX5_partsAreSteps_54 : decode cX5_partsAreSteps 54 = .ok (.iload 5, 2) := by decide +kernel
theorem dX5_partsAreSteps_56 : decode cX5_partsAreSteps 56 = .ok (.bipush 16, 2) := by decide +kernel
theorem dX5_partsAreSteps_58 : decode cX5_partsAreSteps 58 = .ok (.if_icmp .lt 5, 3) := by decide +kernel
theorem dX5_partsAreSteps_61 : decode cX5_partsAreSteps 61 = .ok (.iconst 0, 1) := by decide +kernel
theorem dX5_partsAreSteps_62 : decode cX5_partsAreSteps 62 = .ok (.ireturn, 1) := by decide +kernel
theorem dX5_partsAreSteps_63 : decode cX5_partsAreSteps 63 = .ok (.iinc 2 1, 3) := by decide +kernel
theorem dX5_partsAreSteps_66 : decode cX5_partsAreSteps 66 = .ok (.goto (-64), 3) := by decide +kernel
theorem dX5_partsAreSteps_69 : decode cX5_partsAreSteps 69 = .ok (.iconst 1, 1) := by decide +kernel
theorem dX5_partsAreSteps_70 : decode cX5_partsAreSteps 70 = .ok (.ireturn, 1) := by decide +kernel
theorem dX5_comesTrue_0 : decode cX5_comesTrue 0 = .ok (.iload_n 1, 1) := by decide +kernel
theorem dX5_comesTrue_1 : decode cX5_comesTrue 1 = .ok (.tableswitch 247 1 7 #[43, 71, 102, 130, 161, 192, 223], 43) := by decide +kernel
theorem dX5_comesTrue_44 : decode cX5_comesTrue 44 = .ok (.iload_n 2, 1) := by decide +kernel
theorem dX5_comesTrue_45 : decode cX5_comesTrue 45 = .ok (.ifCond .ne 25, 3) := by decide +kernel
theorem dX5_comesTrue_48 : decode cX5_comesTrue 48 = .ok (.aload_n 0, 1) := by decide +kernel
theorem dX5_comesTrue_49 : decode cX5_comesTrue 49 = .ok (.aload_n 0, 1) := by decide +kernel
theorem dX5_comesTrue_50 : decode cX5_comesTrue 50 = .ok (.getfield 16, 3) := by decide +kernel
theorem dX5_comesTrue_53 : decode cX5_comesTrue 53 = .ok (.getfield 79, 3) := by decide +kernel
theorem dX5_comesTrue_56 : decode cX5_comesTrue 56 = .ok (.iload_n 3, 1) := by decide +kernel
theorem dX5_comesTrue_57 : decode cX5_comesTrue 57 = .ok (.invokevirtual 176, 3) := by decide +kernel
theorem dX5_comesTrue_60 : decode cX5_comesTrue 60 = .ok (.invokevirtual 269, 3) := by decide +kernel
theorem dX5_comesTrue_63 : decode cX5_comesTrue 63 = .ok (.ifCond .eq 7, 3) := by decide +kernel
theorem dX5_comesTrue_66 : decode cX5_comesTrue 66 = .ok (.iconst 1, 1) := by decide +kernel
theorem dX5_comesTrue_67 : decode cX5_comesTrue 67 = .ok (.goto 4, 3) := by decide +kernel
theorem dX5_comesTrue_70 : decode cX5_comesTrue 70 = .ok (.iconst 0, 1) := by decide +kernel
theorem dX5_comesTrue_71 : decode cX5_comesTrue 71 = .ok (.ireturn, 1) := by decide +kernel
theorem dX5_comesTrue_72 : decode cX5_comesTrue 72 = .ok (.iload_n 2, 1) := by decide +kernel
theorem dX5_comesTrue_73 : decode cX5_comesTrue 73 = .ok (.ifCond .ne 28, 3) := by decide +kernel
theorem dX5_comesTrue_76 : decode cX5_comesTrue 76 = .ok (.iload_n 3, 1) := by decide +kernel
theorem dX5_comesTrue_77 : decode cX5_comesTrue 77 = .ok (.ifCond .ne 24, 3) := by decide +kernel
theorem dX5_comesTrue_80 : decode cX5_comesTrue 80 = .ok (.aload_n 0, 1) := by decide +kernel
theorem dX5_comesTrue_81 : decode cX5_comesTrue 81 = .ok (.aload_n 0, 1) := by decide +kernel
theorem dX5_comesTrue_82 : decode cX5_comesTrue 82 = .ok (.getfield 16, 3) := by decide +kernel
theorem dX5_comesTrue_85 : decode cX5_comesTrue 85 = .ok (.getfield 79, 3) := by decide +kernel
theorem dX5_comesTrue_88 : decode cX5_comesTrue 88 = .ok (.invokevirtual 183, 3) := by decide +kernel
theorem dX5_comesTrue_91 : decode cX5_comesTrue 91 = .ok (.invokevirtual 269, 3) := by decide +kernel
theorem dX5_comesTrue_94 : decode cX5_comesTrue 94 = .ok (.ifCond .eq 7, 3) := by decide +kernel
theorem dX5_comesTrue_97 : decode cX5_comesTrue 97 = .ok (.iconst 1, 1) := by decide +kernel
theorem dX5_comesTrue_98 : decode cX5_comesTrue 98 = .ok (.goto 4, 3) := by decide +kernel
theorem dX5_comesTrue_101 : decode cX5_comesTrue 101 = .ok (.iconst 0, 1) := by decide +kernel
theorem dX5_comesTrue_102 : decode cX5_comesTrue 102 = .ok (.ireturn, 1) := by decide +kernel
theorem dX5_comesTrue_103 : decode cX5_comesTrue 103 = .ok (.iload_n 2, 1) := by decide +kernel
theorem dX5_comesTrue_104 : decode cX5_comesTrue 104 = .ok (.ifCond .ne 25, 3) := by decide +kernel
theorem dX5_comesTrue_107 : decode cX5_comesTrue 107 = .ok (.aload_n 0, 1) := by decide +kernel
theorem dX5_comesTrue_108 : decode cX5_comesTrue 108 = .ok (.aload_n 0, 1) := by decide +kernel
theorem dX5_comesTrue_109 : decode cX5_comesTrue 109 = .ok (.getfield 16, 3) := by decide +kernel
theorem dX5_comesTrue_112 : decode cX5_comesTrue 112 = .ok (.getfield 79, 3) := by decide +kernel
theorem dX5_comesTrue_115 : decode cX5_comesTrue 115 = .ok (.iload_n 3, 1) := by decide +kernel
theorem dX5_comesTrue_116 : decode cX5_comesTrue 116 = .ok (.invokevirtual 187, 3) := by decide +kernel
theorem dX5_comesTrue_119 : decode cX5_comesTrue 119 = .ok (.invokevirtual 269, 3) := by decide +kernel
theorem dX5_comesTrue_122 : decode cX5_comesTrue 122 = .ok (.ifCond .eq 7, 3) := by decide +kernel
theorem dX5_comesTrue_125 : decode cX5_comesTrue 125 = .ok (.iconst 1, 1) := by decide +kernel
theorem dX5_comesTrue_126 : decode cX5_comesTrue 126 = .ok (.goto 4, 3) := by decide +kernel
theorem dX5_comesTrue_129 : decode cX5_comesTrue 129 = .ok (.iconst 0, 1) := by decide +kernel
theorem dX5_comesTrue_130 : decode cX5_comesTrue 130 = .ok (.ireturn, 1) := by decide +kernel
theorem dX5_comesTrue_131 : decode cX5_comesTrue 131 = .ok (.iload_n 2, 1) := by decide +kernel
theorem dX5_comesTrue_132 : decode cX5_comesTrue 132 = .ok (.aload_n 0, 1) := by decide +kernel
theorem dX5_comesTrue_133 : decode cX5_comesTrue 133 = .ok (.getfield 16, 3) := by decide +kernel
theorem dX5_comesTrue_136 : decode cX5_comesTrue 136 = .ok (.getfield 76, 3) := by decide +kernel
theorem dX5_comesTrue_139 : decode cX5_comesTrue 139 = .ok (.if_icmp .ge 21, 3) := by decide +kernel
theorem dX5_comesTrue_142 : decode cX5_comesTrue 142 = .ok (.aload_n 0, 1) := by decide +kernel
theorem dX5_comesTrue_143 : decode cX5_comesTrue 143 = .ok (.aload_n 0, 1) := by decide +kernel
theorem dX5_comesTrue_144 : decode cX5_comesTrue 144 = .ok (.getfield 16, 3) := by decide +kernel
theorem dX5_comesTrue_147 : decode cX5_comesTrue 147 = .ok (.iload_n 2, 1) := by decide +kernel
theorem dX5_comesTrue_148 : decode cX5_comesTrue 148 = .ok (.iconst 1, 1) := by decide +kernel
theorem dX5_comesTrue_149 : decode cX5_comesTrue 149 = .ok (.invokevirtual 132, 3) := by decide +kernel
theorem dX5_comesTrue_152 : decode cX5_comesTrue 152 = .ok (.iload_n 3, 1) := by decide +kernel
theorem dX5_comesTrue_153 : decode cX5_comesTrue 153 = .ok (.if_icmp .ne 7, 3) := by decide +kernel
theorem dX5_comesTrue_156 : decode cX5_comesTrue 156 = .ok (.iconst 1, 1) := by decide +kernel
theorem dX5_comesTrue_157 : decode cX5_comesTrue 157 = .ok (.goto 4, 3) := by decide +kernel
theorem dX5_comesTrue_160 : decode cX5_comesTrue 160 = .ok (.iconst 0, 1) := by decide +kernel
theorem dX5_comesTrue_161 : decode cX5_comesTrue 161 = .ok (.ireturn, 1) := by decide +kernel
theorem dX5_comesTrue_162 : decode cX5_comesTrue 162 = .ok (.iload_n 2, 1) := by decide +kernel
theorem dX5_comesTrue_163 : decode cX5_comesTrue 163 = .ok (.aload_n 0, 1) := by decide +kernel
theorem dX5_comesTrue_164 : decode cX5_comesTrue 164 = .ok (.getfield 16, 3) := by decide +kernel
theorem dX5_comesTrue_167 : decode cX5_comesTrue 167 = .ok (.getfield 76, 3) := by decide +kernel
theorem dX5_comesTrue_170 : decode cX5_comesTrue 170 = .ok (.if_icmp .ge 21, 3) := by decide +kernel
theorem dX5_comesTrue_173 : decode cX5_comesTrue 173 = .ok (.aload_n 0, 1) := by decide +kernel
theorem dX5_comesTrue_174 : decode cX5_comesTrue 174 = .ok (.aload_n 0, 1) := by decide +kernel
theorem dX5_comesTrue_175 : decode cX5_comesTrue 175 = .ok (.getfield 16, 3) := by decide +kernel
theorem dX5_comesTrue_178 : decode cX5_comesTrue 178 = .ok (.iload_n 2, 1) := by decide +kernel
theorem dX5_comesTrue_179 : decode cX5_comesTrue 179 = .ok (.iconst 2, 1) := by decide +kernel
theorem dX5_comesTrue_180 : decode cX5_comesTrue 180 = .ok (.invokevirtual 132, 3) := by decide +kernel
theorem dX5_comesTrue_183 : decode cX5_comesTrue 183 = .ok (.iload_n 3, 1) := by decide +kernel
theorem dX5_comesTrue_184 : decode cX5_comesTrue 184 = .ok (.if_icmp .ne 7, 3) := by decide +kernel
theorem dX5_comesTrue_187 : decode cX5_comesTrue 187 = .ok (.iconst 1, 1) := by decide +kernel
theorem dX5_comesTrue_188 : decode cX5_comesTrue 188 = .ok (.goto 4, 3) := by decide +kernel
theorem dX5_comesTrue_191 : decode cX5_comesTrue 191 = .ok (.iconst 0, 1) := by decide +kernel
theorem dX5_comesTrue_192 : decode cX5_comesTrue 192 = .ok (.ireturn, 1) := by decide +kernel
theorem dX5_comesTrue_193 : decode cX5_comesTrue 193 = .ok (.iload_n 2, 1) := by decide +kernel
theorem dX5_comesTrue_194 : decode cX5_comesTrue 194 = .ok (.aload_n 0, 1) := by decide +kernel
theorem dX5_comesTrue_195 : decode cX5_comesTrue 195 = .ok (.getfield 16, 3) := by decide +kernel
theorem dX5_comesTrue_198 : decode cX5_comesTrue 198 = .ok (.getfield 76, 3) := by decide +kernel
theorem dX5_comesTrue_201 : decode cX5_comesTrue 201 = .ok (.if_icmp .ge 21, 3) := by decide +kernel
theorem dX5_comesTrue_204 : decode cX5_comesTrue 204 = .ok (.aload_n 0, 1) := by decide +kernel
theorem dX5_comesTrue_205 : decode cX5_comesTrue 205 = .ok (.aload_n 0, 1) := by decide +kernel
theorem dX5_comesTrue_206 : decode cX5_comesTrue 206 = .ok (.getfield 16, 3) := by decide +kernel
theorem dX5_comesTrue_209 : decode cX5_comesTrue 209 = .ok (.iload_n 2, 1) := by decide +kernel
theorem dX5_comesTrue_210 : decode cX5_comesTrue 210 = .ok (.iconst 3, 1) := by decide +kernel
theorem dX5_comesTrue_211 : decode cX5_comesTrue 211 = .ok (.invokevirtual 132, 3) := by decide +kernel
theorem dX5_comesTrue_214 : decode cX5_comesTrue 214 = .ok (.iload_n 3, 1) := by decide +kernel
theorem dX5_comesTrue_215 : decode cX5_comesTrue 215 = .ok (.if_icmp .ne 7, 3) := by decide +kernel
theorem dX5_comesTrue_218 : decode cX5_comesTrue 218 = .ok (.iconst 1, 1) := by decide +kernel
theorem dX5_comesTrue_219 : decode cX5_comesTrue 219 = .ok (.goto 4, 3) := by decide +kernel
theorem dX5_comesTrue_222 : decode cX5_comesTrue 222 = .ok (.iconst 0, 1) := by decide +kernel
theorem dX5_comesTrue_223 : decode cX5_comesTrue 223 = .ok (.ireturn, 1) := by decide +kernel
theorem dX5_comesTrue_224 : decode cX5_comesTrue 224 = .ok (.iload_n 2, 1) := by decide +kernel
theorem dX5_comesTrue_225 : decode cX5_comesTrue 225 = .ok (.ifCond .ne 21, 3) := by decide +kernel
theorem dX5_comesTrue_228 : decode cX5_comesTrue 228 = .ok (.aload_n 0, 1) := by decide +kernel
theorem dX5_comesTrue_229 : decode cX5_comesTrue 229 = .ok (.getfield 16, 3) := by decide +kernel
theorem dX5_comesTrue_232 : decode cX5_comesTrue 232 = .ok (.getfield 79, 3) := by decide +kernel
theorem dX5_comesTrue_235 : decode cX5_comesTrue 235 = .ok (.invokevirtual 91, 3) := by decide +kernel
theorem dX5_comesTrue_238 : decode cX5_comesTrue 238 = .ok (.iload_n 3, 1) := by decide +kernel
theorem dX5_comesTrue_239 : decode cX5_comesTrue 239 = .ok (.if_icmp .ne 7, 3) := by decide +kernel
theorem dX5_comesTrue_242 : decode cX5_comesTrue 242 = .ok (.iconst 1, 1) := by decide +kernel
theorem dX5_comesTrue_243 : decode cX5_comesTrue 243 = .ok (.goto 4, 3) := by decide +kernel
theorem dX5_comesTrue_246 : decode cX5_comesTrue 246 = .ok (.iconst 0, 1) := by decide +kernel
theorem dX5_comesTrue_247 : decode cX5_comesTrue 247 = .ok (.ireturn, 1) := by decide +kernel
theorem dX5_comesTrue_248 : decode cX5_comesTrue 248 = .ok (.iconst 0, 1) := by decide +kernel
theorem dX5_comesTrue_249 : decode cX5_comesTrue 249 = .ok (.ireturn, 1) := by decide +kernel
theorem dX5_emitsAfter_0 : decode cX5_emitsAfter 0 = .ok (.iload_n 1, 1) := by decide +kernel
theorem dX5_emitsAfter_1 : decode cX5_emitsAfter 1 = .ok (.ifCond .eq 15, 3) := by decide +kernel
theorem dX5_emitsAfter_4 : decode cX5_emitsAfter 4 = .ok (.aload_n 0, 1) := by decide +kernel
theorem dX5_emitsAfter_5 : decode cX5_emitsAfter 5 = .ok (.getfield 16, 3) := by decide +kernel
theorem dX5_emitsAfter_8 : decode cX5_emitsAfter 8 = .ok (.aload_n 0, 1) := by decide +kernel
theorem dX5_emitsAfter_9 : decode cX5_emitsAfter 9 = .ok (.getfield 33, 3) := by decide +kernel
theorem dX5_emitsAfter_12 : decode cX5_emitsAfter 12 = .ok (.invokevirtual 179, 3) := by decide +kernel
theorem dX5_emitsAfter_15 : decode cX5_emitsAfter 15 = .ok (.pop, 1) := by decide +kernel
theorem dX5_emitsAfter_16 : decode cX5_emitsAfter 16 = .ok (.iload_n 1, 1) := by decide +kernel
theorem dX5_emitsAfter_17 : decode cX5_emitsAfter 17 = .ok (.ireturn, 1) := by decide +kernel
theorem dX5_agreesWithAll_0 : decode cX5_agreesWithAll 0 = .ok (.iconst 0, 1) := by decide +kernel
theorem dX5_agreesWithAll_1 : decode cX5_agreesWithAll 1 = .ok (.istore_n 2, 1) := by decide +kernel
theorem dX5_agreesWithAll_2 : decode cX5_agreesWithAll 2 = .ok (.iload_n 2, 1) := by decide +kernel
theorem dX5_agreesWithAll_3 : decode cX5_agreesWithAll 3 = .ok (.aload_n 0, 1) := by decide +kernel
theorem dX5_agreesWithAll_4 : decode cX5_agreesWithAll 4 = .ok (.getfield 104, 3) := by decide +kernel
theorem dX5_agreesWithAll_7 : decode cX5_agreesWithAll 7 = .ok (.if_icmp .ge 41, 3) := by decide +kernel
theorem dX5_agreesWithAll_10 : decode cX5_agreesWithAll 10 = .ok (.aload_n 0, 1) := by decide +kernel
theorem dX5_agreesWithAll_11 : decode cX5_agreesWithAll 11 = .ok (.getfield 48, 3) := by decide +kernel
theorem dX5_agreesWithAll_14 : decode cX5_agreesWithAll 14 = .ok (.iload_n 2, 1) := by decide +kernel
theorem dX5_agreesWithAll_15 : decode cX5_agreesWithAll 15 = .ok (.iaload, 1) := by decide +kernel
theorem dX5_agreesWithAll_16 : decode cX5_agreesWithAll 16 = .ok (.istore_n 3, 1) := by decide +kernel
theorem dX5_agreesWithAll_17 : decode cX5_agreesWithAll 17 = .ok (.aload_n 0, 1) := by decide +kernel
theorem dX5_agreesWithAll_18 : decode cX5_agreesWithAll 18 = .ok (.iload_n 3, 1) := by decide +kernel
theorem dX5_agreesWithAll_19 : decode cX5_agreesWithAll 19 = .ok (.invokevirtual 129, 3) := by decide +kernel
theorem dX5_agreesWithAll_22 : decode cX5_agreesWithAll 22 = .ok (.ifCond .eq 20, 3) := by decide +kernel
theorem dX5_agreesWithAll_25 : decode cX5_agreesWithAll 25 = .ok (.aload_n 0, 1) := by decide +kernel
theorem dX5_agreesWithAll_26 : decode cX5_agreesWithAll 26 = .ok (.iload_n 3, 1) := by decide +kernel
theorem dX5_agreesWithAll_27 : decode cX5_agreesWithAll 27 = .ok (.iload_n 1, 1) := by decide +kernel
theorem dX5_agreesWithAll_28 : decode cX5_agreesWithAll 28 = .ok (.invokevirtual 273, 3) := by decide +kernel
theorem dX5_agreesWithAll_31 : decode cX5_agreesWithAll 31 = .ok (.aload_n 0, 1) := by decide +kernel
theorem dX5_agreesWithAll_32 : decode cX5_agreesWithAll 32 = .ok (.getfield 52, 3) := by decide +kernel
theorem dX5_agreesWithAll_35 : decode cX5_agreesWithAll 35 = .ok (.iload_n 2, 1) := by decide +kernel
theorem dX5_agreesWithAll_36 : decode cX5_agreesWithAll 36 = .ok (.iaload, 1) := by decide +kernel
theorem dX5_agreesWithAll_37 : decode cX5_agreesWithAll 37 = .ok (.if_icmp .eq 5, 3) := by decide +kernel
theorem dX5_agreesWithAll_40 : decode cX5_agreesWithAll 40 = .ok (.iconst 0, 1) := by decide +kernel
theorem dX5_agreesWithAll_41 : decode cX5_agreesWithAll 41 = .ok (.ireturn, 1) := by decide +kernel
theorem dX5_agreesWithAll_42 : decode cX5_agreesWithAll 42 = .ok (.iinc 2 1, 3) := by decide +kernel
theorem dX5_agreesWithAll_45 : decode cX5_agreesWithAll 45 = .ok (.goto (-43), 3) := by decide +kernel
theorem dX5_agreesWithAll_48 : decode cX5_agreesWithAll 48 = .ok (.iconst 1, 1) := by decide +kernel
theorem dX5_agreesWithAll_49 : decode cX5_agreesWithAll 49 = .ok (.ireturn, 1) := by decide +kernel
theorem dX5_answersWithLastTest_0 : decode cX5_answersWithLastTest 0 = .ok (.aload_n 0, 1) := by decide +kernel
theorem dX5_answersWithLastTest_1 : decode cX5_answersWithLastTest 1 = .ok (.getfield 16, 3) := by decide +kernel
theorem dX5_answersWithLastTest_4 : decode cX5_answersWithLastTest 4 = .ok (.getfield 136, 3) := by decide +kernel
theorem dX5_answersWithLastTest_7 : decode cX5_answersWithLastTest 7 = .ok (.iconst 0, 1) := by decide +kernel
theorem dX5_answersWithLastTest_8 : decode cX5_answersWithLastTest 8 = .ok (.aaload, 1) := by decide +kernel
theorem dX5_answersWithLastTest_9 : decode cX5_answersWithLastTest 9 = .ok (.astore_n 3, 1) := by decide +kernel
theorem dX5_answersWithLastTest_10 : decode cX5_answersWithLastTest 10 = .ok (.aload_n 3, 1) := by decide +kernel
theorem dX5_answersWithLastTest_11 : decode cX5_answersWithLastTest 11 = .ok (.aload_n 0, 1) := by decide +kernel
theorem dX5_answersWithLastTest_12 : decode cX5_answersWithLastTest 12 = .ok (.getfield 10, 3) := by decide +kernel
theorem dX5_answersWithLastTest_15 : decode cX5_answersWithLastTest 15 = .ok (.getfield 136, 3) := by decide +kernel
theorem dX5_answersWithLastTest_18 : decode cX5_answersWithLastTest 18 = .ok (.iload_n 1, 1) := by decide +kernel
theorem dX5_answersWithLastTest_19 : decode cX5_answersWithLastTest 19 = .ok (.aaload, 1) := by decide +kernel
theorem dX5_answersWithLastTest_20 : decode cX5_answersWithLastTest 20 = .ok (.invokevirtual 276, 3) := by decide +kernel
theorem dX5_answersWithLastTest_23 : decode cX5_answersWithLastTest 23 = .ok (.aload_n 3, 1) := by decide +kernel
theorem dX5_answersWithLastTest_24 : decode cX5_answersWithLastTest 24 = .ok (.iload_n 2, 1) := by decide +kernel
theorem dX5_answersWithLastTest_25 : decode cX5_answersWithLastTest 25 = .ok (.invokevirtual 279, 3) := by decide +kernel
theorem dX5_answersWithLastTest_28 : decode cX5_answersWithLastTest 28 = .ok (.aload_n 0, 1) := by decide +kernel
theorem dX5_answersWithLastTest_29 : decode cX5_answersWithLastTest 29 = .ok (.getfield 33, 3) := by decide +kernel
theorem dX5_answersWithLastTest_32 : decode cX5_answersWithLastTest 32 = .ok (.aload_n 0, 1) := by decide +kernel
theorem dX5_answersWithLastTest_33 : decode cX5_answersWithLastTest 33 = .ok (.getfield 10, 3) := by decide +kernel
theorem dX5_answersWithLastTest_36 : decode cX5_answersWithLastTest 36 = .ok (.getfield 79, 3) := by decide +kernel
theorem dX5_answersWithLastTest_39 : decode cX5_answersWithLastTest 39 = .ok (.aload_n 3, 1) := by decide +kernel
theorem dX5_answersWithLastTest_40 : decode cX5_answersWithLastTest 40 = .ok (.invokevirtual 148, 3) := by decide +kernel
theorem dX5_answersWithLastTest_43 : decode cX5_answersWithLastTest 43 = .ok (.aload_n 0, 1) := by decide +kernel
theorem dX5_answersWithLastTest_44 : decode cX5_answersWithLastTest 44 = .ok (.getfield 33, 3) := by decide +kernel
theorem dX5_answersWithLastTest_47 : decode cX5_answersWithLastTest 47 = .ok (.getfield 152, 3) := by decide +kernel
theorem dX5_answersWithLastTest_50 : decode cX5_answersWithLastTest 50 = .ok (.invokestatic 237, 3) := by decide +kernel
theorem dX5_answersWithLastTest_53 : decode cX5_answersWithLastTest 53 = .ok (.ireturn, 1) := by decide +kernel
theorem dX5_findAnswerSets_0 : decode cX5_findAnswerSets 0 = .ok (.iconst 0, 1) := by decide +kernel
theorem dX5_findAnswerSets_1 : decode cX5_findAnswerSets 1 = .ok (.istore_n 1, 1) := by decide +kernel
theorem dX5_findAnswerSets_2 : decode cX5_findAnswerSets 2 = .ok (.iload_n 1, 1) := by decide +kernel
theorem dX5_findAnswerSets_3 : decode cX5_findAnswerSets 3 = .ok (.aload_n 0, 1) := by decide +kernel
theorem dX5_findAnswerSets_4 : decode cX5_findAnswerSets 4 = .ok (.getfield 10, 3) := by decide +kernel
theorem dX5_findAnswerSets_7 : decode cX5_findAnswerSets 7 = .ok (.getfield 76, 3) := by decide +kernel
theorem dX5_findAnswerSets_10 : decode cX5_findAnswerSets 10 = .ok (.if_icmp .ge 24, 3) := by decide +kernel
theorem dX5_findAnswerSets_13 : decode cX5_findAnswerSets 13 = .ok (.aload_n 0, 1) := by decide +kernel
theorem dX5_findAnswerSets_14 : decode cX5_findAnswerSets 14 = .ok (.getfield 58, 3) := by decide +kernel
theorem dX5_findAnswerSets_17 : decode cX5_findAnswerSets 17 = .ok (.iload_n 1, 1) := by decide +kernel
theorem dX5_findAnswerSets_18 : decode cX5_findAnswerSets 18 = .ok (.aload_n 0, 1) := by decide +kernel
theorem dX5_findAnswerSets_19 : decode cX5_findAnswerSets 19 = .ok (.aload_n 0, 1) := by decide +kernel
theorem dX5_findAnswerSets_20 : decode cX5_findAnswerSets 20 = .ok (.getfield 10, 3) := by decide +kernel
theorem dX5_findAnswerSets_23 : decode cX5_findAnswerSets 23 = .ok (.iload_n 1, 1) := by decide +kernel
theorem dX5_findAnswerSets_24 : decode cX5_findAnswerSets 24 = .ok (.invokevirtual 208, 3) := by decide +kernel
theorem dX5_findAnswerSets_27 : decode cX5_findAnswerSets 27 = .ok (.iastore, 1) := by decide +kernel
theorem dX5_findAnswerSets_28 : decode cX5_findAnswerSets 28 = .ok (.iinc 1 1, 3) := by decide +kernel
theorem dX5_findAnswerSets_31 : decode cX5_findAnswerSets 31 = .ok (.goto (-29), 3) := by decide +kernel
theorem dX5_findAnswerSets_34 : decode cX5_findAnswerSets 34 = .ok (.return_, 1) := by decide +kernel
theorem dX5_pathsAnswering_0 : decode cX5_pathsAnswering 0 = .ok (.iconst 0, 1) := by decide +kernel
theorem dX5_pathsAnswering_1 : decode cX5_pathsAnswering 1 = .ok (.istore_n 2, 1) := by decide +kernel
theorem dX5_pathsAnswering_2 : decode cX5_pathsAnswering 2 = .ok (.iconst 0, 1) := by decide +kernel
theorem dX5_pathsAnswering_3 : decode cX5_pathsAnswering 3 = .ok (.istore_n 3, 1) := by decide +kernel
theorem dX5_pathsAnswering_4 : decode cX5_pathsAnswering 4 = .ok (.iload_n 3, 1) := by decide +kernel
theorem dX5_pathsAnswering_5 : decode cX5_pathsAnswering 5 = .ok (.aload_n 0, 1) := by decide +kernel
theorem dX5_pathsAnswering_6 : decode cX5_pathsAnswering 6 = .ok (.getfield 10, 3) := by decide +kernel
theorem dX5_pathsAnswering_9 : decode cX5_pathsAnswering 9 = .ok (.getfield 76, 3) := by decide +kernel
theorem dX5_pathsAnswering_12 : decode cX5_pathsAnswering 12 = .ok (.if_icmp .ge 22, 3) := by decide +kernel
theorem dX5_pathsAnswering_15 : decode cX5_pathsAnswering 15 = .ok (.iload_n 2, 1) := by decide +kernel
theorem dX5_pathsAnswering_16 : decode cX5_pathsAnswering 16 = .ok (.aload_n 0, 1) := by decide +kernel
theorem dX5_pathsAnswering_17 : decode cX5_pathsAnswering 17 = .ok (.getfield 58, 3) := by decide +kernel
theorem dX5_pathsAnswering_20 : decode cX5_pathsAnswering 20 = .ok (.iload_n 3, 1) := by decide +kernel
theorem dX5_pathsAnswering_21 : decode cX5_pathsAnswering 21 = .ok (.iaload, 1) := by decide +kernel
theorem dX5_pathsAnswering_22 : decode cX5_pathsAnswering 22 = .ok (.iload_n 1, 1) := by decide +kernel
theorem dX5_pathsAnswering_23 : decode cX5_pathsAnswering 23 = .ok (.ishr, 1) := by decide +kernel
theorem dX5_pathsAnswering_24 : decode cX5_pathsAnswering 24 = .ok (.iconst 1, 1) := by decide +kernel
theorem dX5_pathsAnswering_25 : decode cX5_pathsAnswering 25 = .ok (.iand, 1) := by decide +kernel
theorem dX5_pathsAnswering_26 : decode cX5_pathsAnswering 26 = .ok (.iadd, 1) := by decide +kernel
theorem dX5_pathsAnswering_27 : decode cX5_pathsAnswering 27 = .ok (.istore_n 2, 1) := by decide +kernel
theorem dX5_pathsAnswering_28 : decode cX5_pathsAnswering 28 = .ok (.iinc 3 1, 3) := by decide +kernel
theorem dX5_pathsAnswering_31 : decode cX5_pathsAnswering 31 = .ok (.goto (-27), 3) := by decide +kernel
theorem dX5_pathsAnswering_34 : decode cX5_pathsAnswering 34 = .ok (.iload_n 2, 1) := by decide +kernel
theorem dX5_pathsAnswering_35 : decode cX5_pathsAnswering 35 = .ok (.ireturn, 1) := by decide +kernel
theorem dX5_answersOfAny_0 : decode cX5_answersOfAny 0 = .ok (.iconst 0, 1) := by decide +kernel
theorem dX5_answersOfAny_1 : decode cX5_answersOfAny 1 = .ok (.istore_n 2, 1) := by decide +kernel
theorem dX5_answersOfAny_2 : decode cX5_answersOfAny 2 = .ok (.iconst 0, 1) := by decide +kernel
theorem dX5_answersOfAny_3 : decode cX5_answersOfAny 3 = .ok (.istore_n 3, 1) := by decide +kernel
theorem dX5_answersOfAny_4 : decode cX5_answersOfAny 4 = .ok (.iload_n 3, 1) := by decide +kernel
theorem dX5_answersOfAny_5 : decode cX5_answersOfAny 5 = .ok (.aload_n 0, 1) := by decide +kernel
theorem dX5_answersOfAny_6 : decode cX5_answersOfAny 6 = .ok (.getfield 10, 3) := by decide +kernel
theorem dX5_answersOfAny_9 : decode cX5_answersOfAny 9 = .ok (.getfield 76, 3) := by decide +kernel
theorem dX5_answersOfAny_12 : decode cX5_answersOfAny 12 = .ok (.if_icmp .ge 26, 3) := by decide +kernel
theorem dX5_answersOfAny_15 : decode cX5_answersOfAny 15 = .ok (.iload_n 1, 1) := by decide +kernel
theorem dX5_answersOfAny_16 : decode cX5_answersOfAny 16 = .ok (.iload_n 3, 1) := by decide +kernel
theorem dX5_answersOfAny_17 : decode cX5_answersOfAny 17 = .ok (.ishr, 1) := by decide +kernel
theorem dX5_answersOfAny_18 : decode cX5_answersOfAny 18 = .ok (.iconst 1, 1) := by decide +kernel
theorem dX5_answersOfAny_19 : decode cX5_answersOfAny 19 = .ok (.iand, 1) := by decide +kernel
theorem dX5_answersOfAny_20 : decode cX5_answersOfAny 20 = .ok (.ifCond .eq 12, 3) := by decide +kernel
theorem dX5_answersOfAny_23 : decode cX5_answersOfAny 23 = .ok (.iload_n 2, 1) := by decide +kernel
theorem dX5_answersOfAny_24 : decode cX5_answersOfAny 24 = .ok (.aload_n 0, 1) := by decide +kernel
theorem dX5_answersOfAny_25 : decode cX5_answersOfAny 25 = .ok (.getfield 58, 3) := by decide +kernel
theorem dX5_answersOfAny_28 : decode cX5_answersOfAny 28 = .ok (.iload_n 3, 1) := by decide +kernel
theorem dX5_answersOfAny_29 : decode cX5_answersOfAny 29 = .ok (.iaload, 1) := by decide +kernel
theorem dX5_answersOfAny_30 : decode cX5_answersOfAny 30 = .ok (.ior, 1) := by decide +kernel
theorem dX5_answersOfAny_31 : decode cX5_answersOfAny 31 = .ok (.istore_n 2, 1) := by decide +kernel
theorem dX5_answersOfAny_32 : decode cX5_answersOfAny 32 = .ok (.iinc 3 1, 3) := by decide +kernel
theorem dX5_answersOfAny_35 : decode cX5_answersOfAny 35 = .ok (.goto (-31), 3) := by decide +kernel
theorem dX5_answersOfAny_38 : decode cX5_answersOfAny 38 = .ok (.iload_n 2, 1) := by decide +kernel
theorem dX5_answersOfAny_39 : decode cX5_answersOfAny 39 = .ok (.ireturn, 1) := by decide +kernel
theorem dX5_weightOf_0 : decode cX5_weightOf 0 = .ok (.iconst 1, 1) := by decide +kernel
theorem dX5_weightOf_1 : decode cX5_weightOf 1 = .ok (.istore_n 3, 1) := by decide +kernel
theorem dX5_weightOf_2 : decode cX5_weightOf 2 = .ok (.iconst 0, 1) := by decide +kernel
theorem dX5_weightOf_3 : decode cX5_weightOf 3 = .ok (.istore 4, 2) := by decide +kernel
theorem dX5_weightOf_5 : decode cX5_weightOf 5 = .ok (.iload 4, 2) := by decide +kernel
theorem dX5_weightOf_7 : decode cX5_weightOf 7 = .ok (.aload_n 0, 1) := by decide +kernel
theorem dX5_weightOf_8 : decode cX5_weightOf 8 = .ok (.getfield 10, 3) := by decide +kernel
theorem dX5_weightOf_11 : decode cX5_weightOf 11 = .ok (.getfield 76, 3) := by decide +kernel
theorem dX5_weightOf_14 : decode cX5_weightOf 14 = .ok (.if_icmp .ge 29, 3) := by decide +kernel
theorem dX5_weightOf_17 : decode cX5_weightOf 17 = .ok (.iload_n 3, 1) := by decide +kernel
theorem dX5_weightOf_18 : decode cX5_weightOf 18 = .ok (.iload_n 1, 1) := by decide +kernel
theorem dX5_weightOf_19 : decode cX5_weightOf 19 = .ok (.iload 4, 2) := by decide +kernel
theorem dX5_weightOf_21 : decode cX5_weightOf 21 = .ok (.ishr, 1) := by decide +kernel
theorem dX5_weightOf_22 : decode cX5_weightOf 22 = .ok (.iconst 1, 1) := by decide +kernel
theorem dX5_weightOf_23 : decode cX5_weightOf 23 = .ok (.iand, 1) := by decide +kernel
theorem dX5_weightOf_24 : decode cX5_weightOf 24 = .ok (.ifCond .eq 10, 3) := by decide +kernel
theorem dX5_weightOf_27 : decode cX5_weightOf 27 = .ok (.bipush 10, 2) := by decide +kernel
theorem dX5_weightOf_29 : decode cX5_weightOf 29 = .ok (.iload_n 2, 1) := by decide +kernel
theorem dX5_weightOf_30 : decode cX5_weightOf 30 = .ok (.isub, 1) := by decide +kernel
theorem dX5_weightOf_31 : decode cX5_weightOf 31 = .ok (.goto 4, 3) := by decide +kernel
theorem dX5_weightOf_34 : decode cX5_weightOf 34 = .ok (.iload_n 2, 1) := by decide +kernel
theorem dX5_weightOf_35 : decode cX5_weightOf 35 = .ok (.imul, 1) := by decide +kernel
theorem dX5_weightOf_36 : decode cX5_weightOf 36 = .ok (.istore_n 3, 1) := by decide +kernel
theorem dX5_weightOf_37 : decode cX5_weightOf 37 = .ok (.iinc 4 1, 3) := by decide +kernel
theorem dX5_weightOf_40 : decode cX5_weightOf 40 = .ok (.goto (-35), 3) := by decide +kernel
theorem dX5_weightOf_43 : decode cX5_weightOf 43 = .ok (.iload_n 3, 1) := by decide +kernel
theorem dX5_weightOf_44 : decode cX5_weightOf 44 = .ok (.ireturn, 1) := by decide +kernel
theorem dX5_inLowestTerms_0 : decode cX5_inLowestTerms 0 = .ok (.iload_n 0, 1) := by decide +kernel
theorem dX5_inLowestTerms_1 : decode cX5_inLowestTerms 1 = .ok (.iload_n 1, 1) := by decide +kernel
theorem dX5_inLowestTerms_2 : decode cX5_inLowestTerms 2 = .ok (.invokestatic 283, 3) := by decide +kernel
theorem dX5_inLowestTerms_5 : decode cX5_inLowestTerms 5 = .ok (.istore_n 3, 1) := by decide +kernel
theorem dX5_inLowestTerms_6 : decode cX5_inLowestTerms 6 = .ok (.iload_n 2, 1) := by decide +kernel
theorem dX5_inLowestTerms_7 : decode cX5_inLowestTerms 7 = .ok (.ifCond .eq 7, 3) := by decide +kernel
theorem dX5_inLowestTerms_10 : decode cX5_inLowestTerms 10 = .ok (.iload_n 0, 1) := by decide +kernel
theorem dX5_inLowestTerms_11 : decode cX5_inLowestTerms 11 = .ok (.goto 4, 3) := by decide +kernel
theorem dX5_inLowestTerms_14 : decode cX5_inLowestTerms 14 = .ok (.iload_n 1, 1) := by decide +kernel
theorem dX5_inLowestTerms_15 : decode cX5_inLowestTerms 15 = .ok (.istore 4, 2) := by decide +kernel
theorem dX5_inLowestTerms_17 : decode cX5_inLowestTerms 17 = .ok (.iload_n 3, 1) := by decide +kernel
theorem dX5_inLowestTerms_18 : decode cX5_inLowestTerms 18 = .ok (.ifCond .le 10, 3) := by decide +kernel
theorem dX5_inLowestTerms_21 : decode cX5_inLowestTerms 21 = .ok (.iload 4, 2) := by decide +kernel
theorem dX5_inLowestTerms_23 : decode cX5_inLowestTerms 23 = .ok (.iload_n 3, 1) := by decide +kernel
theorem dX5_inLowestTerms_24 : decode cX5_inLowestTerms 24 = .ok (.idiv, 1) := by decide +kernel
theorem dX5_inLowestTerms_25 : decode cX5_inLowestTerms 25 = .ok (.goto 5, 3) := by decide +kernel
theorem dX5_inLowestTerms_28 : decode cX5_inLowestTerms 28 = .ok (.iload 4, 2) := by decide +kernel
theorem dX5_inLowestTerms_30 : decode cX5_inLowestTerms 30 = .ok (.ireturn, 1) := by decide +kernel
theorem dX5_greatestDivisor_0 : decode cX5_greatestDivisor 0 = .ok (.iload_n 0, 1) := by decide +kernel
theorem dX5_greatestDivisor_1 : decode cX5_greatestDivisor 1 = .ok (.istore_n 2, 1) := by decide +kernel
theorem dX5_greatestDivisor_2 : decode cX5_greatestDivisor 2 = .ok (.iload_n 1, 1) := by decide +kernel
theorem dX5_greatestDivisor_3 : decode cX5_greatestDivisor 3 = .ok (.istore_n 3, 1) := by decide +kernel
theorem dX5_greatestDivisor_4 : decode cX5_greatestDivisor 4 = .ok (.iconst 0, 1) := by decide +kernel
theorem dX5_greatestDivisor_5 : decode cX5_greatestDivisor 5 = .ok (.istore 4, 2) := by decide +kernel
theorem dX5_greatestDivisor_7 : decode cX5_greatestDivisor 7 = .ok (.iload 4, 2) := by decide +kernel
theorem dX5_greatestDivisor_9 : decode cX5_greatestDivisor 9 = .ok (.bipush 64, 2) := by decide +kernel
theorem dX5_greatestDivisor_11 : decode cX5_greatestDivisor 11 = .ok (.if_icmp .ge 23, 3) := by decide +kernel
theorem dX5_greatestDivisor_14 : decode cX5_greatestDivisor 14 = .ok (.iload_n 3, 1) := by decide +kernel
theorem dX5_greatestDivisor_15 : decode cX5_greatestDivisor 15 = .ok (.ifCond .eq 19, 3) := by decide +kernel
theorem dX5_greatestDivisor_18 : decode cX5_greatestDivisor 18 = .ok (.iload_n 2, 1) := by decide +kernel
theorem dX5_greatestDivisor_19 : decode cX5_greatestDivisor 19 = .ok (.iload_n 3, 1) := by decide +kernel
theorem dX5_greatestDivisor_20 : decode cX5_greatestDivisor 20 = .ok (.irem, 1) := by decide +kernel
theorem dX5_greatestDivisor_21 : decode cX5_greatestDivisor 21 = .ok (.istore 5, 2) := by decide +kernel
theorem dX5_greatestDivisor_23 : decode cX5_greatestDivisor 23 = .ok (.iload_n 3, 1) := by decide +kernel
theorem dX5_greatestDivisor_24 : decode cX5_greatestDivisor 24 = .ok (.istore_n 2, 1) := by decide +kernel
theorem dX5_greatestDivisor_25 : decode cX5_greatestDivisor 25 = .ok (.iload 5, 2) := by decide +kernel
theorem dX5_greatestDivisor_27 : decode cX5_greatestDivisor 27 = .ok (.istore_n 3, 1) := by decide +kernel
theorem dX5_greatestDivisor_28 : decode cX5_greatestDivisor 28 = .ok (.iinc 4 1, 3) := by decide +kernel
theorem dX5_greatestDivisor_31 : decode cX5_greatestDivisor 31 = .ok (.goto (-24), 3) := by decide +kernel
theorem dX5_greatestDivisor_34 : decode cX5_greatestDivisor 34 = .ok (.iload_n 2, 1) := by decide +kernel
theorem dX5_greatestDivisor_35 : decode cX5_greatestDivisor 35 = .ok (.ireturn, 1) := by decide +kernel
theorem dX5_drawEvent_0 : decode cX5_drawEvent 0 = .ok (.aload_n 0, 1) := by decide +kernel
theorem dX5_drawEvent_1 : decode cX5_drawEvent 1 = .ok (.aload_n 0, 1) := by decide +kernel
theorem dX5_drawEvent_2 : decode cX5_drawEvent 2 = .ok (.getfield 242, 3) := by decide +kernel
theorem dX5_drawEvent_5 : decode cX5_drawEvent 5 = .ok (.ldc2_w 286, 3) := by decide +kernel
theorem dX5_drawEvent_8 : decode cX5_drawEvent 8 = .ok (.lmul, 1) := by decide +kernel
theorem dX5_drawEvent_9 : decode cX5_drawEvent 9 = .ok (.ldc2_w 288, 3) := by decide +kernel
theorem dX5_drawEvent_12 : decode cX5_drawEvent 12 = .ok (.ladd, 1) := by decide +kernel
theorem dX5_drawEvent_13 : decode cX5_drawEvent 13 = .ok (.putfield 242, 3) := by decide +kernel
theorem dX5_drawEvent_16 : decode cX5_drawEvent 16 = .ok (.aload_n 0, 1) := by decide +kernel
theorem dX5_drawEvent_17 : decode cX5_drawEvent 17 = .ok (.getfield 242, 3) := by decide +kernel
theorem dX5_drawEvent_20 : decode cX5_drawEvent 20 = .ok (.bipush 33, 2) := by decide +kernel
theorem dX5_drawEvent_22 : decode cX5_drawEvent 22 = .ok (.lushr, 1) := by decide +kernel
theorem dX5_drawEvent_23 : decode cX5_drawEvent 23 = .ok (.l2i, 1) := by decide +kernel
theorem dX5_drawEvent_24 : decode cX5_drawEvent 24 = .ok (.istore_n 2, 1) := by decide +kernel
theorem dX5_drawEvent_25 : decode cX5_drawEvent 25 = .ok (.iload_n 2, 1) := by decide +kernel
theorem dX5_drawEvent_26 : decode cX5_drawEvent 26 = .ok (.bipush 8, 2) := by decide +kernel
theorem dX5_drawEvent_28 : decode cX5_drawEvent 28 = .ok (.irem, 1) := by decide +kernel
theorem dX5_drawEvent_29 : decode cX5_drawEvent 29 = .ok (.istore_n 3, 1) := by decide +kernel
theorem dX5_drawEvent_30 : decode cX5_drawEvent 30 = .ok (.iload_n 3, 1) := by decide +kernel
theorem dX5_drawEvent_31 : decode cX5_drawEvent 31 = .ok (.iconst 3, 1) := by decide +kernel
theorem dX5_drawEvent_32 : decode cX5_drawEvent 32 = .ok (.if_icmp .gt 17, 3) := by decide +kernel
theorem dX5_drawEvent_35 : decode cX5_drawEvent 35 = .ok (.aload_n 1, 1) := by decide +kernel
theorem dX5_drawEvent_36 : decode cX5_drawEvent 36 = .ok (.iload_n 2, 1) := by decide +kernel
theorem dX5_drawEvent_37 : decode cX5_drawEvent 37 = .ok (.bipush 8, 2) := by decide +kernel
theorem dX5_drawEvent_39 : decode cX5_drawEvent 39 = .ok (.idiv, 1) := by decide +kernel
theorem dX5_drawEvent_40 : decode cX5_drawEvent 40 = .ok (.iconst 5, 1) := by decide +kernel
theorem dX5_drawEvent_41 : decode cX5_drawEvent 41 = .ok (.irem, 1) := by decide +kernel
theorem dX5_drawEvent_42 : decode cX5_drawEvent 42 = .ok (.invokevirtual 176, 3) := by decide +kernel
theorem dX5_drawEvent_45 : decode cX5_drawEvent 45 = .ok (.pop, 1) := by decide +kernel
theorem dX5_drawEvent_46 : decode cX5_drawEvent 46 = .ok (.goto 28, 3) := by decide +kernel
theorem dX5_drawEvent_49 : decode cX5_drawEvent 49 = .ok (.iload_n 3, 1) := by decide +kernel
theorem dX5_drawEvent_50 : decode cX5_drawEvent 50 = .ok (.iconst 5, 1) := by decide +kernel
theorem dX5_drawEvent_51 : decode cX5_drawEvent 51 = .ok (.if_icmp .gt 11, 3) := by decide +kernel
theorem dX5_drawEvent_54 : decode cX5_drawEvent 54 = .ok (.aload_n 1, 1) := by decide +kernel
theorem dX5_drawEvent_55 : decode cX5_drawEvent 55 = .ok (.invokevirtual 183, 3) := by decide +kernel
theorem dX5_drawEvent_58 : decode cX5_drawEvent 58 = .ok (.pop, 1) := by decide +kernel
theorem dX5_drawEvent_59 : decode cX5_drawEvent 59 = .ok (.goto 15, 3) := by decide +kernel
theorem dX5_drawEvent_62 : decode cX5_drawEvent 62 = .ok (.aload_n 1, 1) := by decide +kernel
theorem dX5_drawEvent_63 : decode cX5_drawEvent 63 = .ok (.iload_n 2, 1) := by decide +kernel
theorem dX5_drawEvent_64 : decode cX5_drawEvent 64 = .ok (.bipush 8, 2) := by decide +kernel
theorem dX5_drawEvent_66 : decode cX5_drawEvent 66 = .ok (.idiv, 1) := by decide +kernel
theorem dX5_drawEvent_67 : decode cX5_drawEvent 67 = .ok (.bipush 10, 2) := by decide +kernel
theorem dX5_drawEvent_69 : decode cX5_drawEvent 69 = .ok (.irem, 1) := by decide +kernel
theorem dX5_drawEvent_70 : decode cX5_drawEvent 70 = .ok (.invokevirtual 187, 3) := by decide +kernel
theorem dX5_drawEvent_73 : decode cX5_drawEvent 73 = .ok (.pop, 1) := by decide +kernel
theorem dX5_drawEvent_74 : decode cX5_drawEvent 74 = .ok (.return_, 1) := by decide +kernel
theorem dX6_init_0 : decode cX6_init 0 = .ok (.aload_n 0, 1) := by decide +kernel
theorem dX6_init_1 : decode cX6_init 1 = .ok (.invokespecial 1, 3) := by decide +kernel
theorem dX6_init_4 : decode cX6_init 4 = .ok (.aload_n 0, 1) := by decide +kernel
theorem dX6_init_5 : decode cX6_init 5 = .ok (.bipush 99, 2) := by decide +kernel
theorem dX6_init_7 : decode cX6_init 7 = .ok (.newarray .int, 2) := by decide +kernel
theorem dX6_init_9 : decode cX6_init 9 = .ok (.putfield 7, 3) := by decide +kernel
theorem dX6_init_12 : decode cX6_init 12 = .ok (.aload_n 0, 1) := by decide +kernel
theorem dX6_init_13 : decode cX6_init 13 = .ok (.sipush 214, 3) := by decide +kernel
theorem dX6_init_16 : decode cX6_init 16 = .ok (.newarray .int, 2) := by decide +kernel
theorem dX6_init_18 : decode cX6_init 18 = .ok (.putfield 13, 3) := by decide +kernel
theorem dX6_init_21 : decode cX6_init 21 = .ok (.aload_n 0, 1) := by decide +kernel
theorem dX6_init_22 : decode cX6_init 22 = .ok (.sipush 214, 3) := by decide +kernel
theorem dX6_init_25 : decode cX6_init 25 = .ok (.newarray .int, 2) := by decide +kernel
theorem dX6_init_27 : decode cX6_init 27 = .ok (.putfield 16, 3) := by decide +kernel
theorem dX6_init_30 : decode cX6_init 30 = .ok (.aload_n 0, 1) := by decide +kernel
theorem dX6_init_31 : decode cX6_init 31 = .ok (.sipush 2996, 3) := by decide +kernel
theorem dX6_init_34 : decode cX6_init 34 = .ok (.newarray .int, 2) := by decide +kernel
theorem dX6_init_36 : decode cX6_init 36 = .ok (.putfield 19, 3) := by decide +kernel
theorem dX6_init_39 : decode cX6_init 39 = .ok (.aload_n 0, 1) := by decide +kernel
theorem dX6_init_40 : decode cX6_init 40 = .ok (.sipush 428, 3) := by decide +kernel
theorem dX6_init_43 : decode cX6_init 43 = .ok (.newarray .int, 2) := by decide +kernel
theorem dX6_init_45 : decode cX6_init 45 = .ok (.putfield 22, 3) := by decide +kernel
theorem dX6_init_48 : decode cX6_init 48 = .ok (.aload_n 0, 1) := by decide +kernel
theorem dX6_init_49 : decode cX6_init 49 = .ok (.iconst 2, 1) := by decide +kernel
theorem dX6_init_50 : decode cX6_init 50 = .ok (.newarray .boolean, 2) := by decide +kernel
theorem dX6_init_52 : decode cX6_init 52 = .ok (.putfield 25, 3) := by decide +kernel
theorem dX6_init_55 : decode cX6_init 55 = .ok (.aload_n 0, 1) := by decide +kernel
theorem dX6_init_56 : decode cX6_init 56 = .ok (.bipush 6, 2) := by decide +kernel
theorem dX6_init_58 : decode cX6_init 58 = .ok (.newarray .int, 2) := by decide +kernel
theorem dX6_init_60 : decode cX6_init 60 = .ok (.putfield 29, 3) := by decide +kernel
