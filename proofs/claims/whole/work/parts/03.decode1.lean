theorem dX0_init_0 : decode cX0_init 0 = .ok (.aload_n 0, 1) := by decide +kernel
theorem dX0_init_1 : decode cX0_init 1 = .ok (.invokespecial 3, 3) := by decide +kernel
theorem dX0_init_4 : decode cX0_init 4 = .ok (.aload_n 0, 1) := by decide +kernel
theorem dX0_init_5 : decode cX0_init 5 = .ok (.bipush 8, 2) := by decide +kernel
theorem dX0_init_7 : decode cX0_init 7 = .ok (.putfield 9, 3) := by decide +kernel
theorem dX0_init_10 : decode cX0_init 10 = .ok (.aload_n 0, 1) := by decide +kernel
theorem dX0_init_11 : decode cX0_init 11 = .ok (.iconst 4, 1) := by decide +kernel
theorem dX0_init_12 : decode cX0_init 12 = .ok (.newarray .int, 2) := by decide +kernel
theorem dX0_init_14 : decode cX0_init 14 = .ok (.putfield 15, 3) := by decide +kernel
theorem dX0_init_17 : decode cX0_init 17 = .ok (.aload_n 0, 1) := by decide +kernel
theorem dX0_init_18 : decode cX0_init 18 = .ok (.iconst 4, 1) := by decide +kernel
theorem dX0_init_19 : decode cX0_init 19 = .ok (.newarray .int, 2) := by decide +kernel
theorem dX0_init_21 : decode cX0_init 21 = .ok (.putfield 19, 3) := by decide +kernel
theorem dX0_init_24 : decode cX0_init 24 = .ok (.aload_n 0, 1) := by decide +kernel
theorem dX0_init_25 : decode cX0_init 25 = .ok (.bipush 6, 2) := by decide +kernel
theorem dX0_init_27 : decode cX0_init 27 = .ok (.newarray .int, 2) := by decide +kernel
theorem dX0_init_29 : decode cX0_init 29 = .ok (.putfield 22, 3) := by decide +kernel
theorem dX0_init_32 : decode cX0_init 32 = .ok (.aload_n 0, 1) := by decide +kernel
theorem dX0_init_33 : decode cX0_init 33 = .ok (.bipush 6, 2) := by decide +kernel
theorem dX0_init_35 : decode cX0_init 35 = .ok (.newarray .int, 2) := by decide +kernel
theorem dX0_init_37 : decode cX0_init 37 = .ok (.putfield 25, 3) := by decide +kernel
theorem dX0_init_40 : decode cX0_init 40 = .ok (.aload_n 0, 1) := by decide +kernel
theorem dX0_init_41 : decode cX0_init 41 = .ok (.bipush 6, 2) := by decide +kernel
theorem dX0_init_43 : decode cX0_init 43 = .ok (.newarray .int, 2) := by decide +kernel
theorem dX0_init_45 : decode cX0_init 45 = .ok (.putfield 28, 3) := by decide +kernel
theorem dX0_init_48 : decode cX0_init 48 = .ok (.aload_n 0, 1) := by decide +kernel
theorem dX0_init_49 : decode cX0_init 49 = .ok (.bipush 6, 2) := by decide +kernel
theorem dX0_init_51 : decode cX0_init 51 = .ok (.newarray .int, 2) := by decide +kernel
theorem dX0_init_53 : decode cX0_init 53 = .ok (.putfield 31, 3) := by decide +kernel
theorem dX0_init_56 : decode cX0_init 56 = .ok (.aload_n 0, 1) := by decide +kernel
theorem dX0_init_57 : decode cX0_init 57 = .ok (.iconst 3, 1) := by decide +kernel
theorem dX0_init_58 : decode cX0_init 58 = .ok (.newarray .int, 2) := by decide +kernel
theorem dX0_init_60 : decode cX0_init 60 = .ok (.putfield 34, 3) := by decide +kernel
theorem dX0_init_63 : decode cX0_init 63 = .ok (.aload_n 0, 1) := by decide +kernel
theorem dX0_init_64 : decode cX0_init 64 = .ok (.iconst 3, 1) := by decide +kernel
theorem dX0_init_65 : decode cX0_init 65 = .ok (.newarray .int, 2) := by decide +kernel
theorem dX0_init_67 : decode cX0_init 67 = .ok (.putfield 37, 3) := by decide +kernel
theorem dX0_init_70 : decode cX0_init 70 = .ok (.return_, 1) := by decide +kernel
theorem dX0_become_0 : decode cX0_become 0 = .ok (.aload_n 0, 1) := by decide +kernel
theorem dX0_become_1 : decode cX0_become 1 = .ok (.aload_n 1, 1) := by decide +kernel
theorem dX0_become_2 : decode cX0_become 2 = .ok (.getfield 9, 3) := by decide +kernel
theorem dX0_become_5 : decode cX0_become 5 = .ok (.putfield 9, 3) := by decide +kernel
theorem dX0_become_8 : decode cX0_become 8 = .ok (.aload_n 0, 1) := by decide +kernel
theorem dX0_become_9 : decode cX0_become 9 = .ok (.aload_n 1, 1) := by decide +kernel
theorem dX0_become_10 : decode cX0_become 10 = .ok (.getfield 40, 3) := by decide +kernel
theorem dX0_become_13 : decode cX0_become 13 = .ok (.putfield 40, 3) := by decide +kernel
theorem dX0_become_16 : decode cX0_become 16 = .ok (.aload_n 1, 1) := by decide +kernel
theorem dX0_become_17 : decode cX0_become 17 = .ok (.getfield 15, 3) := by decide +kernel
theorem dX0_become_20 : decode cX0_become 20 = .ok (.iconst 0, 1) := by decide +kernel
theorem dX0_become_21 : decode cX0_become 21 = .ok (.aload_n 0, 1) := by decide +kernel
theorem dX0_become_22 : decode cX0_become 22 = .ok (.getfield 15, 3) := by decide +kernel
theorem dX0_become_25 : decode cX0_become 25 = .ok (.iconst 0, 1) := by decide +kernel
theorem dX0_become_26 : decode cX0_become 26 = .ok (.iconst 4, 1) := by decide +kernel
theorem dX0_become_27 : decode cX0_become 27 = .ok (.invokestatic 43, 3) := by decide +kernel
theorem dX0_become_30 : decode cX0_become 30 = .ok (.aload_n 1, 1) := by decide +kernel
theorem dX0_become_31 : decode cX0_become 31 = .ok (.getfield 19, 3) := by decide +kernel
theorem dX0_become_34 : decode cX0_become 34 = .ok (.iconst 0, 1) := by decide +kernel
theorem dX0_become_35 : decode cX0_become 35 = .ok (.aload_n 0, 1) := by decide +kernel
theorem dX0_become_36 : decode cX0_become 36 = .ok (.getfield 19, 3) := by decide +kernel
theorem dX0_become_39 : decode cX0_become 39 = .ok (.iconst 0, 1) := by decide +kernel
theorem dX0_become_40 : decode cX0_become 40 = .ok (.iconst 4, 1) := by decide +kernel
theorem dX0_become_41 : decode cX0_become 41 = .ok (.invokestatic 43, 3) := by decide +kernel
theorem dX0_become_44 : decode cX0_become 44 = .ok (.aload_n 0, 1) := by decide +kernel
theorem dX0_become_45 : decode cX0_become 45 = .ok (.aload_n 1, 1) := by decide +kernel
theorem dX0_become_46 : decode cX0_become 46 = .ok (.getfield 49, 3) := by decide +kernel
theorem dX0_become_49 : decode cX0_become 49 = .ok (.putfield 49, 3) := by decide +kernel
theorem dX0_become_52 : decode cX0_become 52 = .ok (.aload_n 1, 1) := by decide +kernel
theorem dX0_become_53 : decode cX0_become 53 = .ok (.getfield 22, 3) := by decide +kernel
theorem dX0_become_56 : decode cX0_become 56 = .ok (.iconst 0, 1) := by decide +kernel
theorem dX0_become_57 : decode cX0_become 57 = .ok (.aload_n 0, 1) := by decide +kernel
theorem dX0_become_58 : decode cX0_become 58 = .ok (.getfield 22, 3) := by decide +kernel
theorem dX0_become_61 : decode cX0_become 61 = .ok (.iconst 0, 1) := by decide +kernel
theorem dX0_become_62 : decode cX0_become 62 = .ok (.bipush 6, 2) := by decide +kernel
theorem dX0_become_64 : decode cX0_become 64 = .ok (.invokestatic 43, 3) := by decide +kernel
theorem dX0_become_67 : decode cX0_become 67 = .ok (.aload_n 1, 1) := by decide +kernel
theorem dX0_become_68 : decode cX0_become 68 = .ok (.getfield 25, 3) := by decide +kernel
theorem dX0_become_71 : decode cX0_become 71 = .ok (.iconst 0, 1) := by decide +kernel
theorem dX0_become_72 : decode cX0_become 72 = .ok (.aload_n 0, 1) := by decide +kernel
theorem dX0_become_73 : decode cX0_become 73 = .ok (.getfield 25, 3) := by decide +kernel
theorem dX0_become_76 : decode cX0_become 76 = .ok (.iconst 0, 1) := by decide +kernel
theorem dX0_become_77 : decode cX0_become 77 = .ok (.bipush 6, 2) := by decide +kernel
theorem dX0_become_79 : decode cX0_become 79 = .ok (.invokestatic 43, 3) := by decide +kernel
theorem dX0_become_82 : decode cX0_become 82 = .ok (.aload_n 1, 1) := by decide +kernel
theorem dX0_become_83 : decode cX0_become 83 = .ok (.getfield 28, 3) := by decide +kernel
theorem dX0_become_86 : decode cX0_become 86 = .ok (.iconst 0, 1) := by decide +kernel
theorem dX0_become_87 : decode cX0_become 87 = .ok (.aload_n 0, 1) := by decide +kernel
theorem dX0_become_88 : decode cX0_become 88 = .ok (.getfield 28, 3) := by decide +kernel
theorem dX0_become_91 : decode cX0_become 91 = .ok (.iconst 0, 1) := by decide +kernel
theorem dX0_become_92 : decode cX0_become 92 = .ok (.bipush 6, 2) := by decide +kernel
theorem dX0_become_94 : decode cX0_become 94 = .ok (.invokestatic 43, 3) := by decide +kernel
theorem dX0_become_97 : decode cX0_become 97 = .ok (.aload_n 1, 1) := by decide +kernel
theorem dX0_become_98 : decode cX0_become 98 = .ok (.getfield 31, 3) := by decide +kernel
theorem dX0_become_101 : decode cX0_become 101 = .ok (.iconst 0, 1) := by decide +kernel
theorem dX0_become_102 : decode cX0_become 102 = .ok (.aload_n 0, 1) := by decide +kernel
theorem dX0_become_103 : decode cX0_become 103 = .ok (.getfield 31, 3) := by decide +kernel
theorem dX0_become_106 : decode cX0_become 106 = .ok (.iconst 0, 1) := by decide +kernel
theorem dX0_become_107 : decode cX0_become 107 = .ok (.bipush 6, 2) := by decide +kernel
theorem dX0_become_109 : decode cX0_become 109 = .ok (.invokestatic 43, 3) := by decide +kernel
theorem dX0_become_112 : decode cX0_become 112 = .ok (.aload_n 0, 1) := by decide +kernel
theorem dX0_become_113 : decode cX0_become 113 = .ok (.aload_n 1, 1) := by decide +kernel
theorem dX0_become_114 : decode cX0_become 114 = .ok (.getfield 52, 3) := by decide +kernel
theorem dX0_become_117 : decode cX0_become 117 = .ok (.putfield 52, 3) := by decide +kernel
theorem dX0_become_120 : decode cX0_become 120 = .ok (.aload_n 1, 1) := by decide +kernel
theorem dX0_become_121 : decode cX0_become 121 = .ok (.getfield 34, 3) := by decide +kernel
theorem dX0_become_124 : decode cX0_become 124 = .ok (.iconst 0, 1) := by decide +kernel
theorem dX0_become_125 : decode cX0_become 125 = .ok (.aload_n 0, 1) := by decide +kernel
theorem dX0_become_126 : decode cX0_become 126 = .ok (.getfield 34, 3) := by decide +kernel
theorem dX0_become_129 : decode cX0_become 129 = .ok (.iconst 0, 1) := by decide +kernel
theorem dX0_become_130 : decode cX0_become 130 = .ok (.iconst 3, 1) := by decide +kernel
theorem dX0_become_131 : decode cX0_become 131 = .ok (.invokestatic 43, 3) := by decide +kernel
theorem dX0_become_134 : decode cX0_become 134 = .ok (.aload_n 1, 1) := by decide +kernel
theorem dX0_become_135 : decode cX0_become 135 = .ok (.getfield 37, 3) := by decide +kernel
theorem dX0_become_138 : decode cX0_become 138 = .ok (.iconst 0, 1) := by decide +kernel
theorem dX0_become_139 : decode cX0_become 139 = .ok (.aload_n 0, 1) := by decide +kernel
theorem dX0_become_140 : decode cX0_become 140 = .ok (.getfield 37, 3) := by decide +kernel
theorem dX0_become_143 : decode cX0_become 143 = .ok (.iconst 0, 1) := by decide +kernel
theorem dX0_become_144 : decode cX0_become 144 = .ok (.iconst 3, 1) := by decide +kernel
theorem dX0_become_145 : decode cX0_become 145 = .ok (.invokestatic 43, 3) := by decide +kernel
theorem dX0_become_148 : decode cX0_become 148 = .ok (.return_, 1) := by decide +kernel
theorem dX0_clear_0 : decode cX0_clear 0 = .ok (.aload_n 0, 1) := by decide +kernel
theorem dX0_clear_1 : decode cX0_clear 1 = .ok (.iload_n 1, 1) := by decide +kernel
theorem dX0_clear_2 : decode cX0_clear 2 = .ok (.putfield 9, 3) := by decide +kernel
theorem dX0_clear_5 : decode cX0_clear 5 = .ok (.aload_n 0, 1) := by decide +kernel
theorem dX0_clear_6 : decode cX0_clear 6 = .ok (.iconst 0, 1) := by decide +kernel
theorem dX0_clear_7 : decode cX0_clear 7 = .ok (.putfield 40, 3) := by decide +kernel
theorem dX0_clear_10 : decode cX0_clear 10 = .ok (.aload_n 0, 1) := by decide +kernel
theorem dX0_clear_11 : decode cX0_clear 11 = .ok (.iconst 0, 1) := by decide +kernel
theorem dX0_clear_12 : decode cX0_clear 12 = .ok (.putfield 49, 3) := by decide +kernel
theorem dX0_clear_15 : decode cX0_clear 15 = .ok (.aload_n 0, 1) := by decide +kernel
theorem dX0_clear_16 : decode cX0_clear 16 = .ok (.iconst 0, 1) := by decide +kernel
theorem dX0_clear_17 : decode cX0_clear 17 = .ok (.putfield 52, 3) := by decide +kernel
theorem dX0_clear_20 : decode cX0_clear 20 = .ok (.return_, 1) := by decide +kernel
theorem dX0_stands_0 : decode cX0_stands 0 = .ok (.aload_n 0, 1) := by decide +kernel
theorem dX0_stands_1 : decode cX0_stands 1 = .ok (.getfield 40, 3) := by decide +kernel
theorem dX0_stands_4 : decode cX0_stands 4 = .ok (.iconst 2, 1) := by decide +kernel
theorem dX0_stands_5 : decode cX0_stands 5 = .ok (.if_icmp .lt 7, 3) := by decide +kernel
theorem dX0_stands_8 : decode cX0_stands 8 = .ok (.iconst 1, 1) := by decide +kernel
theorem dX0_stands_9 : decode cX0_stands 9 = .ok (.goto 4, 3) := by decide +kernel
theorem dX0_stands_12 : decode cX0_stands 12 = .ok (.iconst 0, 1) := by decide +kernel
theorem dX0_stands_13 : decode cX0_stands 13 = .ok (.ireturn, 1) := by decide +kernel
theorem dX0_isPlace_0 : decode cX0_isPlace 0 = .ok (.iload_n 1, 1) := by decide +kernel
theorem dX0_isPlace_1 : decode cX0_isPlace 1 = .ok (.ifCond .lt 15, 3) := by decide +kernel
theorem dX0_isPlace_4 : decode cX0_isPlace 4 = .ok (.iload_n 1, 1) := by decide +kernel
theorem dX0_isPlace_5 : decode cX0_isPlace 5 = .ok (.aload_n 0, 1) := by decide +kernel
theorem dX0_isPlace_6 : decode cX0_isPlace 6 = .ok (.getfield 9, 3) := by decide +kernel
theorem dX0_isPlace_9 : decode cX0_isPlace 9 = .ok (.if_icmp .gt 7, 3) := by decide +kernel
theorem dX0_isPlace_12 : decode cX0_isPlace 12 = .ok (.iconst 1, 1) := by decide +kernel
theorem dX0_isPlace_13 : decode cX0_isPlace 13 = .ok (.goto 4, 3) := by decide +kernel
theorem dX0_isPlace_16 : decode cX0_isPlace 16 = .ok (.iconst 0, 1) := by decide +kernel
theorem dX0_isPlace_17 : decode cX0_isPlace 17 = .ok (.ireturn, 1) := by decide +kernel
theorem dX0_isSupport_0 : decode cX0_isSupport 0 = .ok (.iload_n 1, 1) := by decide +kernel
theorem dX0_isSupport_1 : decode cX0_isSupport 1 = .ok (.ifCond .lt 15, 3) := by decide +kernel
theorem dX0_isSupport_4 : decode cX0_isSupport 4 = .ok (.iload_n 1, 1) := by decide +kernel
theorem dX0_isSupport_5 : decode cX0_isSupport 5 = .ok (.aload_n 0, 1) := by decide +kernel
theorem dX0_isSupport_6 : decode cX0_isSupport 6 = .ok (.getfield 40, 3) := by decide +kernel
theorem dX0_isSupport_9 : decode cX0_isSupport 9 = .ok (.if_icmp .ge 7, 3) := by decide +kernel
theorem dX0_isSupport_12 : decode cX0_isSupport 12 = .ok (.iconst 1, 1) := by decide +kernel
theorem dX0_isSupport_13 : decode cX0_isSupport 13 = .ok (.goto 4, 3) := by decide +kernel
theorem dX0_isSupport_16 : decode cX0_isSupport 16 = .ok (.iconst 0, 1) := by decide +kernel
theorem dX0_isSupport_17 : decode cX0_isSupport 17 = .ok (.ireturn, 1) := by decide +kernel
theorem dX0_isLoad_0 : decode cX0_isLoad 0 = .ok (.iload_n 1, 1) := by decide +kernel
theorem dX0_isLoad_1 : decode cX0_isLoad 1 = .ok (.ifCond .lt 15, 3) := by decide +kernel
theorem dX0_isLoad_4 : decode cX0_isLoad 4 = .ok (.iload_n 1, 1) := by decide +kernel
theorem dX0_isLoad_5 : decode cX0_isLoad 5 = .ok (.aload_n 0, 1) := by decide +kernel
theorem dX0_isLoad_6 : decode cX0_isLoad 6 = .ok (.getfield 49, 3) := by decide +kernel
theorem dX0_isLoad_9 : decode cX0_isLoad 9 = .ok (.if_icmp .ge 7, 3) := by decide +kernel
theorem dX0_isLoad_12 : decode cX0_isLoad 12 = .ok (.iconst 1, 1) := by decide +kernel
theorem dX0_isLoad_13 : decode cX0_isLoad 13 = .ok (.goto 4, 3) := by decide +kernel
theorem dX0_isLoad_16 : decode cX0_isLoad 16 = .ok (.iconst 0, 1) := by decide +kernel
theorem dX0_isLoad_17 : decode cX0_isLoad 17 = .ok (.ireturn, 1) := by decide +kernel
theorem dX0_numberAt_0 : decode cX0_numberAt 0 = .ok (.iconst 0, 1) := by decide +kernel
theorem dX0_numberAt_1 : decode cX0_numberAt 1 = .ok (.istore_n 2, 1) := by decide +kernel
theorem dX0_numberAt_2 : decode cX0_numberAt 2 = .ok (.iload_n 2, 1) := by decide +kernel
theorem dX0_numberAt_3 : decode cX0_numberAt 3 = .ok (.aload_n 0, 1) := by decide +kernel
theorem dX0_numberAt_4 : decode cX0_numberAt 4 = .ok (.getfield 40, 3) := by decide +kernel
theorem dX0_numberAt_7 : decode cX0_numberAt 7 = .ok (.if_icmp .ge 21, 3) := by decide +kernel
theorem dX0_numberAt_10 : decode cX0_numberAt 10 = .ok (.aload_n 0, 1) := by decide +kernel
theorem dX0_numberAt_11 : decode cX0_numberAt 11 = .ok (.getfield 15, 3) := by decide +kernel
theorem dX0_numberAt_14 : decode cX0_numberAt 14 = .ok (.iload_n 2, 1) := by decide +kernel
theorem dX0_numberAt_15 : decode cX0_numberAt 15 = .ok (.iaload, 1) := by decide +kernel
theorem dX0_numberAt_16 : decode cX0_numberAt 16 = .ok (.iload_n 1, 1) := by decide +kernel
theorem dX0_numberAt_17 : decode cX0_numberAt 17 = .ok (.if_icmp .ne 5, 3) := by decide +kernel
theorem dX0_numberAt_20 : decode cX0_numberAt 20 = .ok (.iload_n 2, 1) := by decide +kernel
theorem dX0_numberAt_21 : decode cX0_numberAt 21 = .ok (.ireturn, 1) := by decide +kernel
theorem dX0_numberAt_22 : decode cX0_numberAt 22 = .ok (.iinc 2 1, 3) := by decide +kernel
theorem dX0_numberAt_25 : decode cX0_numberAt 25 = .ok (.goto (-23), 3) := by decide +kernel
theorem dX0_numberAt_28 : decode cX0_numberAt 28 = .ok (.iconst (-1), 1) := by decide +kernel
theorem dX0_numberAt_29 : decode cX0_numberAt 29 = .ok (.ireturn, 1) := by decide +kernel
theorem dX0_together_0 : decode cX0_together 0 = .ok (.iconst 0, 1) := by decide +kernel
theorem dX0_together_1 : decode cX0_together 1 = .ok (.istore_n 1, 1) := by decide +kernel
theorem dX0_together_2 : decode cX0_together 2 = .ok (.iconst 0, 1) := by decide +kernel
theorem dX0_together_3 : decode cX0_together 3 = .ok (.istore_n 2, 1) := by decide +kernel
theorem dX0_together_4 : decode cX0_together 4 = .ok (.iload_n 2, 1) := by decide +kernel
theorem dX0_together_5 : decode cX0_together 5 = .ok (.aload_n 0, 1) := by decide +kernel
theorem dX0_together_6 : decode cX0_together 6 = .ok (.getfield 49, 3) := by decide +kernel
theorem dX0_together_9 : decode cX0_together 9 = .ok (.if_icmp .ge 51, 3) := by decide +kernel
theorem dX0_together_12 : decode cX0_together 12 = .ok (.iload_n 1, 1) := by decide +kernel
theorem dX0_together_13 : decode cX0_together 13 = .ok (.aload_n 0, 1) := by decide +kernel
theorem dX0_together_14 : decode cX0_together 14 = .ok (.getfield 31, 3) := by decide +kernel
theorem dX0_together_17 : decode cX0_together 17 = .ok (.iload_n 2, 1) := by decide +kernel
theorem dX0_together_18 : decode cX0_together 18 = .ok (.iaload, 1) := by decide +kernel
theorem dX0_together_19 : decode cX0_together 19 = .ok (.iconst 1, 1) := by decide +kernel
theorem dX0_together_20 : decode cX0_together 20 = .ok (.if_icmp .ne 12, 3) := by decide +kernel
theorem dX0_together_23 : decode cX0_together 23 = .ok (.aload_n 0, 1) := by decide +kernel
theorem dX0_together_24 : decode cX0_together 24 = .ok (.getfield 28, 3) := by decide +kernel
theorem dX0_together_27 : decode cX0_together 27 = .ok (.iload_n 2, 1) := by decide +kernel
theorem dX0_together_28 : decode cX0_together 28 = .ok (.iaload, 1) := by decide +kernel
theorem dX0_together_29 : decode cX0_together 29 = .ok (.goto 23, 3) := by decide +kernel
theorem dX0_together_32 : decode cX0_together 32 = .ok (.aload_n 0, 1) := by decide +kernel
theorem dX0_together_33 : decode cX0_together 33 = .ok (.getfield 28, 3) := by decide +kernel
theorem dX0_together_36 : decode cX0_together 36 = .ok (.iload_n 2, 1) := by decide +kernel
theorem dX0_together_37 : decode cX0_together 37 = .ok (.iaload, 1) := by decide +kernel
theorem dX0_together_38 : decode cX0_together 38 = .ok (.aload_n 0, 1) := by decide +kernel
theorem dX0_together_39 : decode cX0_together 39 = .ok (.getfield 25, 3) := by decide +kernel
theorem dX0_together_42 : decode cX0_together 42 = .ok (.iload_n 2, 1) := by decide +kernel
theorem dX0_together_43 : decode cX0_together 43 = .ok (.iaload, 1) := by decide +kernel
theorem dX0_together_44 : decode cX0_together 44 = .ok (.aload_n 0, 1) := by decide +kernel
theorem dX0_together_45 : decode cX0_together 45 = .ok (.getfield 22, 3) := by decide +kernel
theorem dX0_together_48 : decode cX0_together 48 = .ok (.iload_n 2, 1) := by decide +kernel
theorem dX0_together_49 : decode cX0_together 49 = .ok (.iaload, 1) := by decide +kernel
theorem dX0_together_50 : decode cX0_together 50 = .ok (.isub, 1) := by decide +kernel
theorem dX0_together_51 : decode cX0_together 51 = .ok (.imul, 1) := by decide +kernel
theorem dX0_together_52 : decode cX0_together 52 = .ok (.iadd, 1) := by decide +kernel
theorem dX0_together_53 : decode cX0_together 53 = .ok (.istore_n 1, 1) := by decide +kernel
theorem dX0_together_54 : decode cX0_together 54 = .ok (.iinc 2 1, 3) := by decide +kernel
theorem dX0_together_57 : decode cX0_together 57 = .ok (.goto (-53), 3) := by decide +kernel
theorem dX0_together_60 : decode cX0_together 60 = .ok (.iload_n 1, 1) := by decide +kernel
theorem dX0_together_61 : decode cX0_together 61 = .ok (.ireturn, 1) := by decide +kernel
theorem dX0_whyNotLength_0 : decode cX0_whyNotLength 0 = .ok (.iload_n 1, 1) := by decide +kernel
theorem dX0_whyNotLength_1 : decode cX0_whyNotLength 1 = .ok (.iconst 2, 1) := by decide +kernel
theorem dX0_whyNotLength_2 : decode cX0_whyNotLength 2 = .ok (.if_icmp .lt 9, 3) := by decide +kernel
theorem dX0_whyNotLength_5 : decode cX0_whyNotLength 5 = .ok (.iload_n 1, 1) := by decide +kernel
theorem dX0_whyNotLength_6 : decode cX0_whyNotLength 6 = .ok (.bipush 10, 2) := by decide +kernel
theorem dX0_whyNotLength_8 : decode cX0_whyNotLength 8 = .ok (.if_icmp .le 7, 3) := by decide +kernel
theorem dX0_whyNotLength_11 : decode cX0_whyNotLength 11 = .ok (.iconst (-1), 1) := by decide +kernel
theorem dX0_whyNotLength_12 : decode cX0_whyNotLength 12 = .ok (.goto 4, 3) := by decide +kernel
theorem dX0_whyNotLength_15 : decode cX0_whyNotLength 15 = .ok (.iconst 0, 1) := by decide +kernel
theorem dX0_whyNotLength_16 : decode cX0_whyNotLength 16 = .ok (.ireturn, 1) := by decide +kernel
theorem dX0_whyNotSupport_0 : decode cX0_whyNotSupport 0 = .ok (.aload_n 0, 1) := by decide +kernel
theorem dX0_whyNotSupport_1 : decode cX0_whyNotSupport 1 = .ok (.iload_n 1, 1) := by decide +kernel
theorem dX0_whyNotSupport_2 : decode cX0_whyNotSupport 2 = .ok (.invokevirtual 55, 3) := by decide +kernel
theorem dX0_whyNotSupport_5 : decode cX0_whyNotSupport 5 = .ok (.ifCond .ne 5, 3) := by decide +kernel
theorem dX0_whyNotSupport_8 : decode cX0_whyNotSupport 8 = .ok (.iconst (-1), 1) := by decide +kernel
theorem dX0_whyNotSupport_9 : decode cX0_whyNotSupport 9 = .ok (.ireturn, 1) := by decide +kernel
theorem dX0_whyNotSupport_10 : decode cX0_whyNotSupport 10 = .ok (.aload_n 0, 1) := by decide +kernel
theorem dX0_whyNotSupport_11 : decode cX0_whyNotSupport 11 = .ok (.iload_n 1, 1) := by decide +kernel
theorem dX0_whyNotSupport_12 : decode cX0_whyNotSupport 12 = .ok (.invokevirtual 59, 3) := by decide +kernel
theorem dX0_whyNotSupport_15 : decode cX0_whyNotSupport 15 = .ok (.ifCond .lt 6, 3) := by decide +kernel
theorem dX0_whyNotSupport_18 : decode cX0_whyNotSupport 18 = .ok (.bipush (-6), 2) := by decide +kernel
theorem dX0_whyNotSupport_20 : decode cX0_whyNotSupport 20 = .ok (.ireturn, 1) := by decide +kernel
theorem dX0_whyNotSupport_21 : decode cX0_whyNotSupport 21 = .ok (.aload_n 0, 1) := by decide +kernel
theorem dX0_whyNotSupport_22 : decode cX0_whyNotSupport 22 = .ok (.getfield 40, 3) := by decide +kernel
theorem dX0_whyNotSupport_25 : decode cX0_whyNotSupport 25 = .ok (.iconst 4, 1) := by decide +kernel
theorem dX0_whyNotSupport_26 : decode cX0_whyNotSupport 26 = .ok (.if_icmp .lt 8, 3) := by decide +kernel
theorem dX0_whyNotSupport_29 : decode cX0_whyNotSupport 29 = .ok (.bipush (-3), 2) := by decide +kernel
theorem dX0_whyNotSupport_31 : decode cX0_whyNotSupport 31 = .ok (.goto 4, 3) := by decide +kernel
theorem dX0_whyNotSupport_34 : decode cX0_whyNotSupport 34 = .ok (.iconst 0, 1) := by decide +kernel
theorem dX0_whyNotSupport_35 : decode cX0_whyNotSupport 35 = .ok (.ireturn, 1) := by decide +kernel
theorem dX0_whyNotAtSupport_0 : decode cX0_whyNotAtSupport 0 = .ok (.aload_n 0, 1) := by decide +kernel
theorem dX0_whyNotAtSupport_1 : decode cX0_whyNotAtSupport 1 = .ok (.iload_n 1, 1) := by decide +kernel
theorem dX0_whyNotAtSupport_2 : decode cX0_whyNotAtSupport 2 = .ok (.invokevirtual 55, 3) := by decide +kernel
theorem dX0_whyNotAtSupport_5 : decode cX0_whyNotAtSupport 5 = .ok (.ifCond .ne 5, 3) := by decide +kernel
theorem dX0_whyNotAtSupport_8 : decode cX0_whyNotAtSupport 8 = .ok (.iconst (-1), 1) := by decide +kernel
theorem dX0_whyNotAtSupport_9 : decode cX0_whyNotAtSupport 9 = .ok (.ireturn, 1) := by decide +kernel
theorem dX0_whyNotAtSupport_10 : decode cX0_whyNotAtSupport 10 = .ok (.aload_n 0, 1) := by decide +kernel
theorem dX0_whyNotAtSupport_11 : decode cX0_whyNotAtSupport 11 = .ok (.iload_n 1, 1) := by decide +kernel
theorem dX0_whyNotAtSupport_12 : decode cX0_whyNotAtSupport 12 = .ok (.invokevirtual 59, 3) := by decide +kernel
theorem dX0_whyNotAtSupport_15 : decode cX0_whyNotAtSupport 15 = .ok (.ifCond .ge 8, 3) := by decide +kernel
theorem dX0_whyNotAtSupport_18 : decode cX0_whyNotAtSupport 18 = .ok (.bipush (-6), 2) := by decide +kernel
theorem dX0_whyNotAtSupport_20 : decode cX0_whyNotAtSupport 20 = .ok (.goto 4, 3) := by decide +kernel
theorem dX0_whyNotAtSupport_23 : decode cX0_whyNotAtSupport 23 = .ok (.iconst 0, 1) := by decide +kernel
theorem dX0_whyNotAtSupport_24 : decode cX0_whyNotAtSupport 24 = .ok (.ireturn, 1) := by decide +kernel
theorem dX0_whyNotPoint_0 : decode cX0_whyNotPoint 0 = .ok (.aload_n 0, 1) := by decide +kernel
theorem dX0_whyNotPoint_1 : decode cX0_whyNotPoint 1 = .ok (.iload_n 1, 1) := by decide +kernel
theorem dX0_whyNotPoint_2 : decode cX0_whyNotPoint 2 = .ok (.invokevirtual 55, 3) := by decide +kernel
theorem dX0_whyNotPoint_5 : decode cX0_whyNotPoint 5 = .ok (.ifCond .eq 10, 3) := by decide +kernel
theorem dX0_whyNotPoint_8 : decode cX0_whyNotPoint 8 = .ok (.iload_n 2, 1) := by decide +kernel
theorem dX0_whyNotPoint_9 : decode cX0_whyNotPoint 9 = .ok (.invokestatic 63, 3) := by decide +kernel
theorem dX0_whyNotPoint_12 : decode cX0_whyNotPoint 12 = .ok (.ifCond .ne 5, 3) := by decide +kernel
theorem dX0_whyNotPoint_15 : decode cX0_whyNotPoint 15 = .ok (.iconst (-1), 1) := by decide +kernel
theorem dX0_whyNotPoint_16 : decode cX0_whyNotPoint 16 = .ok (.ireturn, 1) := by decide +kernel
theorem dX0_whyNotPoint_17 : decode cX0_whyNotPoint 17 = .ok (.aload_n 0, 1) := by decide +kernel
theorem dX0_whyNotPoint_18 : decode cX0_whyNotPoint 18 = .ok (.getfield 49, 3) := by decide +kernel
theorem dX0_whyNotPoint_21 : decode cX0_whyNotPoint 21 = .ok (.bipush 6, 2) := by decide +kernel
theorem dX0_whyNotPoint_23 : decode cX0_whyNotPoint 23 = .ok (.if_icmp .lt 8, 3) := by decide +kernel
theorem dX0_whyNotPoint_26 : decode cX0_whyNotPoint 26 = .ok (.bipush (-3), 2) := by decide +kernel
theorem dX0_whyNotPoint_28 : decode cX0_whyNotPoint 28 = .ok (.goto 4, 3) := by decide +kernel
theorem dX0_whyNotPoint_31 : decode cX0_whyNotPoint 31 = .ok (.iconst 0, 1) := by decide +kernel
theorem dX0_whyNotPoint_32 : decode cX0_whyNotPoint 32 = .ok (.ireturn, 1) := by decide +kernel
theorem dX0_whyNotSpread_0 : decode cX0_whyNotSpread 0 = .ok (.aload_n 0, 1) := by decide +kernel
theorem dX0_whyNotSpread_1 : decode cX0_whyNotSpread 1 = .ok (.iload_n 1, 1) := by decide +kernel
theorem dX0_whyNotSpread_2 : decode cX0_whyNotSpread 2 = .ok (.invokevirtual 55, 3) := by decide +kernel
theorem dX0_whyNotSpread_5 : decode cX0_whyNotSpread 5 = .ok (.ifCond .eq 23, 3) := by decide +kernel
theorem dX0_whyNotSpread_8 : decode cX0_whyNotSpread 8 = .ok (.aload_n 0, 1) := by decide +kernel
theorem dX0_whyNotSpread_9 : decode cX0_whyNotSpread 9 = .ok (.iload_n 2, 1) := by decide +kernel
theorem dX0_whyNotSpread_10 : decode cX0_whyNotSpread 10 = .ok (.invokevirtual 55, 3) := by decide +kernel
theorem dX0_whyNotSpread_13 : decode cX0_whyNotSpread 13 = .ok (.ifCond .eq 15, 3) := by decide +kernel
theorem dX0_whyNotSpread_16 : decode cX0_whyNotSpread 16 = .ok (.iload_n 1, 1) := by decide +kernel
theorem dX0_whyNotSpread_17 : decode cX0_whyNotSpread 17 = .ok (.iload_n 2, 1) := by decide +kernel
theorem dX0_whyNotSpread_18 : decode cX0_whyNotSpread 18 = .ok (.if_icmp .ge 10, 3) := by decide +kernel
theorem dX0_whyNotSpread_21 : decode cX0_whyNotSpread 21 = .ok (.iload_n 3, 1) := by decide +kernel
theorem dX0_whyNotSpread_22 : decode cX0_whyNotSpread 22 = .ok (.invokestatic 63, 3) := by decide +kernel
theorem dX0_whyNotSpread_25 : decode cX0_whyNotSpread 25 = .ok (.ifCond .ne 5, 3) := by decide +kernel
theorem dX0_whyNotSpread_28 : decode cX0_whyNotSpread 28 = .ok (.iconst (-1), 1) := by decide +kernel
theorem dX0_whyNotSpread_29 : decode cX0_whyNotSpread 29 = .ok (.ireturn, 1) := by decide +kernel
theorem dX0_whyNotSpread_30 : decode cX0_whyNotSpread 30 = .ok (.aload_n 0, 1) := by decide +kernel
theorem dX0_whyNotSpread_31 : decode cX0_whyNotSpread 31 = .ok (.getfield 49, 3) := by decide +kernel
theorem dX0_whyNotSpread_34 : decode cX0_whyNotSpread 34 = .ok (.bipush 6, 2) := by decide +kernel
theorem dX0_whyNotSpread_36 : decode cX0_whyNotSpread 36 = .ok (.if_icmp .lt 8, 3) := by decide +kernel
theorem dX0_whyNotSpread_39 : decode cX0_whyNotSpread 39 = .ok (.bipush (-3), 2) := by decide +kernel
theorem dX0_whyNotSpread_41 : decode cX0_whyNotSpread 41 = .ok (.goto 4, 3) := by decide +kernel
theorem dX0_whyNotSpread_44 : decode cX0_whyNotSpread 44 = .ok (.iconst 0, 1) := by decide +kernel
theorem dX0_whyNotSpread_45 : decode cX0_whyNotSpread 45 = .ok (.ireturn, 1) := by decide +kernel
theorem dX0_whyNotAxle_0 : decode cX0_whyNotAxle 0 = .ok (.iload_n 1, 1) := by decide +kernel
theorem dX0_whyNotAxle_1 : decode cX0_whyNotAxle 1 = .ok (.ifCond .lt 20, 3) := by decide +kernel
theorem dX0_whyNotAxle_4 : decode cX0_whyNotAxle 4 = .ok (.iload_n 1, 1) := by decide +kernel
theorem dX0_whyNotAxle_5 : decode cX0_whyNotAxle 5 = .ok (.bipush 9, 2) := by decide +kernel
theorem dX0_whyNotAxle_7 : decode cX0_whyNotAxle 7 = .ok (.if_icmp .gt 14, 3) := by decide +kernel
theorem dX0_whyNotAxle_10 : decode cX0_whyNotAxle 10 = .ok (.iload_n 2, 1) := by decide +kernel
theorem dX0_whyNotAxle_11 : decode cX0_whyNotAxle 11 = .ok (.iconst 1, 1) := by decide +kernel
theorem dX0_whyNotAxle_12 : decode cX0_whyNotAxle 12 = .ok (.if_icmp .lt 9, 3) := by decide +kernel
theorem dX0_whyNotAxle_15 : decode cX0_whyNotAxle 15 = .ok (.iload_n 2, 1) := by decide +kernel
theorem dX0_whyNotAxle_16 : decode cX0_whyNotAxle 16 = .ok (.bipush 9, 2) := by decide +kernel
theorem dX0_whyNotAxle_18 : decode cX0_whyNotAxle 18 = .ok (.if_icmp .le 5, 3) := by decide +kernel
theorem dX0_whyNotAxle_21 : decode cX0_whyNotAxle 21 = .ok (.iconst (-1), 1) := by decide +kernel
theorem dX0_whyNotAxle_22 : decode cX0_whyNotAxle 22 = .ok (.ireturn, 1) := by decide +kernel
theorem dX0_whyNotAxle_23 : decode cX0_whyNotAxle 23 = .ok (.aload_n 0, 1) := by decide +kernel
theorem dX0_whyNotAxle_24 : decode cX0_whyNotAxle 24 = .ok (.getfield 52, 3) := by decide +kernel
theorem dX0_whyNotAxle_27 : decode cX0_whyNotAxle 27 = .ok (.iconst 3, 1) := by decide +kernel
theorem dX0_whyNotAxle_28 : decode cX0_whyNotAxle 28 = .ok (.if_icmp .lt 8, 3) := by decide +kernel
theorem dX0_whyNotAxle_31 : decode cX0_whyNotAxle 31 = .ok (.bipush (-3), 2) := by decide +kernel
theorem dX0_whyNotAxle_33 : decode cX0_whyNotAxle 33 = .ok (.goto 4, 3) := by decide +kernel
theorem dX0_whyNotAxle_36 : decode cX0_whyNotAxle 36 = .ok (.iconst 0, 1) := by decide +kernel
theorem dX0_whyNotAxle_37 : decode cX0_whyNotAxle 37 = .ok (.ireturn, 1) := by decide +kernel
theorem dX0_putSupport_0 : decode cX0_putSupport 0 = .ok (.aload_n 0, 1) := by decide +kernel
theorem dX0_putSupport_1 : decode cX0_putSupport 1 = .ok (.getfield 40, 3) := by decide +kernel
theorem dX0_putSupport_4 : decode cX0_putSupport 4 = .ok (.iconst 4, 1) := by decide +kernel
theorem dX0_putSupport_5 : decode cX0_putSupport 5 = .ok (.if_icmp .lt 6, 3) := by decide +kernel
theorem dX0_putSupport_8 : decode cX0_putSupport 8 = .ok (.bipush (-3), 2) := by decide +kernel
theorem dX0_putSupport_10 : decode cX0_putSupport 10 = .ok (.ireturn, 1) := by decide +kernel
theorem dX0_putSupport_11 : decode cX0_putSupport 11 = .ok (.aload_n 0, 1) := by decide +kernel
theorem dX0_putSupport_12 : decode cX0_putSupport 12 = .ok (.getfield 40, 3) := by decide +kernel
theorem dX0_putSupport_15 : decode cX0_putSupport 15 = .ok (.istore_n 2, 1) := by decide +kernel
theorem dX0_putSupport_16 : decode cX0_putSupport 16 = .ok (.iload_n 2, 1) := by decide +kernel
theorem dX0_putSupport_17 : decode cX0_putSupport 17 = .ok (.ifCond .le 49, 3) := by decide +kernel
theorem dX0_putSupport_20 : decode cX0_putSupport 20 = .ok (.aload_n 0, 1) := by decide +kernel
theorem dX0_putSupport_21 : decode cX0_putSupport 21 = .ok (.getfield 15, 3) := by decide +kernel
theorem dX0_putSupport_24 : decode cX0_putSupport 24 = .ok (.iload_n 2, 1) := by decide +kernel
theorem dX0_putSupport_25 : decode cX0_putSupport 25 = .ok (.iconst 1, 1) := by decide +kernel
theorem dX0_putSupport_26 : decode cX0_putSupport 26 = .ok (.isub, 1) := by decide +kernel
theorem dX0_putSupport_27 : decode cX0_putSupport 27 = .ok (.iaload, 1) := by decide +kernel
theorem dX0_putSupport_28 : decode cX0_putSupport 28 = .ok (.iload_n 1, 1) := by decide +kernel
theorem dX0_putSupport_29 : decode cX0_putSupport 29 = .ok (.if_icmp .le 37, 3) := by decide +kernel
theorem dX0_putSupport_32 : decode cX0_putSupport 32 = .ok (.aload_n 0, 1) := by decide +kernel
theorem dX0_putSupport_33 : decode cX0_putSupport 33 = .ok (.getfield 15, 3) := by decide +kernel
theorem dX0_putSupport_36 : decode cX0_putSupport 36 = .ok (.iload_n 2, 1) := by decide +kernel
theorem dX0_putSupport_37 : decode cX0_putSupport 37 = .ok (.aload_n 0, 1) := by decide +kernel
theorem dX0_putSupport_38 : decode cX0_putSupport 38 = .ok (.getfield 15, 3) := by decide +kernel
theorem dX0_putSupport_41 : decode cX0_putSupport 41 = .ok (.iload_n 2, 1) := by decide +kernel
theorem dX0_putSupport_42 : decode cX0_putSupport 42 = .ok (.iconst 1, 1) := by decide +kernel
theorem dX0_putSupport_43 : decode cX0_putSupport 43 = .ok (.isub, 1) := by decide +kernel
theorem dX0_putSupport_44 : decode cX0_putSupport 44 = .ok (.iaload, 1) := by decide +kernel
theorem dX0_putSupport_45 : decode cX0_putSupport 45 = .ok (.iastore, 1) := by decide +kernel
theorem dX0_putSupport_46 : decode cX0_putSupport 46 = .ok (.aload_n 0, 1) := by decide +kernel
theorem dX0_putSupport_47 : decode cX0_putSupport 47 = .ok (.getfield 19, 3) := by decide +kernel
theorem dX0_putSupport_50 : decode cX0_putSupport 50 = .ok (.iload_n 2, 1) := by decide +kernel
theorem dX0_putSupport_51 : decode cX0_putSupport 51 = .ok (.aload_n 0, 1) := by decide +kernel
theorem dX0_putSupport_52 : decode cX0_putSupport 52 = .ok (.getfield 19, 3) := by decide +kernel
theorem dX0_putSupport_55 : decode cX0_putSupport 55 = .ok (.iload_n 2, 1) := by decide +kernel
theorem dX0_putSupport_56 : decode cX0_putSupport 56 = .ok (.iconst 1, 1) := by decide +kernel
theorem dX0_putSupport_57 : decode cX0_putSupport 57 = .ok (.isub, 1) := by decide +kernel
theorem dX0_putSupport_58 : decode cX0_putSupport 58 = .ok (.iaload, 1) := by decide +kernel
theorem dX0_putSupport_59 : decode cX0_putSupport 59 = .ok (.iastore, 1) := by decide +kernel
theorem dX0_putSupport_60 : decode cX0_putSupport 60 = .ok (.iinc 2 (-1), 3) := by decide +kernel
theorem dX0_putSupport_63 : decode cX0_putSupport 63 = .ok (.goto (-47), 3) := by decide +kernel
theorem dX0_putSupport_66 : decode cX0_putSupport 66 = .ok (.aload_n 0, 1) := by decide +kernel
theorem dX0_putSupport_67 : decode cX0_putSupport 67 = .ok (.getfield 15, 3) := by decide +kernel
theorem dX0_putSupport_70 : decode cX0_putSupport 70 = .ok (.iload_n 2, 1) := by decide +kernel
theorem dX0_putSupport_71 : decode cX0_putSupport 71 = .ok (.iload_n 1, 1) := by decide +kernel
theorem dX0_putSupport_72 : decode cX0_putSupport 72 = .ok (.iastore, 1) := by decide +kernel
theorem dX0_putSupport_73 : decode cX0_putSupport 73 = .ok (.aload_n 0, 1) := by decide +kernel
theorem dX0_putSupport_74 : decode cX0_putSupport 74 = .ok (.getfield 19, 3) := by decide +kernel
theorem dX0_putSupport_77 : decode cX0_putSupport 77 = .ok (.iload_n 2, 1) := by decide +kernel
theorem dX0_putSupport_78 : decode cX0_putSupport 78 = .ok (.iconst 0, 1) := by decide +kernel
theorem dX0_putSupport_79 : decode cX0_putSupport 79 = .ok (.iastore, 1) := by decide +kernel
theorem dX0_putSupport_80 : decode cX0_putSupport 80 = .ok (.aload_n 0, 1) := by decide +kernel
theorem dX0_putSupport_81 : decode cX0_putSupport 81 = .ok (.dup, 1) := by decide +kernel
theorem dX0_putSupport_82 : decode cX0_putSupport 82 = .ok (.getfield 40, 3) := by decide +kernel
theorem dX0_putSupport_85 : decode cX0_putSupport 85 = .ok (.iconst 1, 1) := by decide +kernel
theorem dX0_putSupport_86 : decode cX0_putSupport 86 = .ok (.iadd, 1) := by decide +kernel
theorem dX0_putSupport_87 : decode cX0_putSupport 87 = .ok (.putfield 40, 3) := by decide +kernel
theorem dX0_putSupport_90 : decode cX0_putSupport 90 = .ok (.iload_n 2, 1) := by decide +kernel
theorem dX0_putSupport_91 : decode cX0_putSupport 91 = .ok (.ireturn, 1) := by decide +kernel
theorem dX0_takeSupport_0 : decode cX0_takeSupport 0 = .ok (.aload_n 0, 1) := by decide +kernel
theorem dX0_takeSupport_1 : decode cX0_takeSupport 1 = .ok (.iload_n 1, 1) := by decide +kernel
theorem dX0_takeSupport_2 : decode cX0_takeSupport 2 = .ok (.invokevirtual 66, 3) := by decide +kernel
theorem dX0_takeSupport_5 : decode cX0_takeSupport 5 = .ok (.ifCond .ne 6, 3) := by decide +kernel
theorem dX0_takeSupport_8 : decode cX0_takeSupport 8 = .ok (.bipush (-6), 2) := by decide +kernel
theorem dX0_takeSupport_10 : decode cX0_takeSupport 10 = .ok (.ireturn, 1) := by decide +kernel
theorem dX0_takeSupport_11 : decode cX0_takeSupport 11 = .ok (.iload_n 1, 1) := by decide +kernel
theorem dX0_takeSupport_12 : decode cX0_takeSupport 12 = .ok (.istore_n 2, 1) := by decide +kernel
theorem dX0_takeSupport_13 : decode cX0_takeSupport 13 = .ok (.iload_n 2, 1) := by decide +kernel
theorem dX0_takeSupport_14 : decode cX0_takeSupport 14 = .ok (.iconst 1, 1) := by decide +kernel
theorem dX0_takeSupport_15 : decode cX0_takeSupport 15 = .ok (.iadd, 1) := by decide +kernel
theorem dX0_takeSupport_16 : decode cX0_takeSupport 16 = .ok (.aload_n 0, 1) := by decide +kernel
theorem dX0_takeSupport_17 : decode cX0_takeSupport 17 = .ok (.getfield 40, 3) := by decide +kernel
theorem dX0_takeSupport_20 : decode cX0_takeSupport 20 = .ok (.if_icmp .ge 37, 3) := by decide +kernel
theorem dX0_takeSupport_23 : decode cX0_takeSupport 23 = .ok (.aload_n 0, 1) := by decide +kernel
theorem dX0_takeSupport_24 : decode cX0_takeSupport 24 = .ok (.getfield 15, 3) := by decide +kernel
theorem dX0_takeSupport_27 : decode cX0_takeSupport 27 = .ok (.iload_n 2, 1) := by decide +kernel
theorem dX0_takeSupport_28 : decode cX0_takeSupport 28 = .ok (.aload_n 0, 1) := by decide +kernel
theorem dX0_takeSupport_29 : decode cX0_takeSupport 29 = .ok (.getfield 15, 3) := by decide +kernel
theorem dX0_takeSupport_32 : decode cX0_takeSupport 32 = .ok (.iload_n 2, 1) := by decide +kernel
theorem dX0_takeSupport_33 : decode cX0_takeSupport 33 = .ok (.iconst 1, 1) := by decide +kernel
theorem dX0_takeSupport_34 : decode cX0_takeSupport 34 = .ok (.iadd, 1) := by decide +kernel
theorem dX0_takeSupport_35 : decode cX0_takeSupport 35 = .ok (.iaload, 1) := by decide +kernel
theorem dX0_takeSupport_36 : decode cX0_takeSupport 36 = .ok (.iastore, 1) := by decide +kernel
theorem dX0_takeSupport_37 : decode cX0_takeSupport 37 = .ok (.aload_n 0, 1) := by decide +kernel
theorem dX0_takeSupport_38 : decode cX0_takeSupport 38 = .ok (.getfield 19, 3) := by decide +kernel
theorem dX0_takeSupport_41 : decode cX0_takeSupport 41 = .ok (.iload_n 2, 1) := by decide +kernel
theorem dX0_takeSupport_42 : decode cX0_takeSupport 42 = .ok (.aload_n 0, 1) := by decide +kernel
theorem dX0_takeSupport_43 : decode cX0_takeSupport 43 = .ok (.getfield 19, 3) := by decide +kernel
theorem dX0_takeSupport_46 : decode cX0_takeSupport 46 = .ok (.iload_n 2, 1) := by decide +kernel
theorem dX0_takeSupport_47 : decode cX0_takeSupport 47 = .ok (.iconst 1, 1) := by decide +kernel
theorem dX0_takeSupport_48 : decode cX0_takeSupport 48 = .ok (.iadd, 1) := by decide +kernel
theorem dX0_takeSupport_49 : decode cX0_takeSupport 49 = .ok (.iaload, 1) := by decide +kernel
theorem dX0_takeSupport_50 : decode cX0_takeSupport 50 = .ok (.iastore, 1) := by decide +kernel
theorem dX0_takeSupport_51 : decode cX0_takeSupport 51 = .ok (.iinc 2 1, 3) := by decide +kernel
theorem dX0_takeSupport_54 : decode cX0_takeSupport 54 = .ok (.goto (-41), 3) := by decide +kernel
theorem dX0_takeSupport_57 : decode cX0_takeSupport 57 = .ok (.aload_n 0, 1) := by decide +kernel
theorem dX0_takeSupport_58 : decode cX0_takeSupport 58 = .ok (.dup, 1) := by decide +kernel
theorem dX0_takeSupport_59 : decode cX0_takeSupport 59 = .ok (.getfield 40, 3) := by decide +kernel
theorem dX0_takeSupport_62 : decode cX0_takeSupport 62 = .ok (.iconst 1, 1) := by decide +kernel
theorem dX0_takeSupport_63 : decode cX0_takeSupport 63 = .ok (.isub, 1) := by decide +kernel
theorem dX0_takeSupport_64 : decode cX0_takeSupport 64 = .ok (.putfield 40, 3) := by decide +kernel
theorem dX0_takeSupport_67 : decode cX0_takeSupport 67 = .ok (.aload_n 0, 1) := by decide +kernel
theorem dX0_takeSupport_68 : decode cX0_takeSupport 68 = .ok (.getfield 40, 3) := by decide +kernel
theorem dX0_takeSupport_71 : decode cX0_takeSupport 71 = .ok (.ireturn, 1) := by decide +kernel
theorem dX0_putHinge_0 : decode cX0_putHinge 0 = .ok (.aload_n 0, 1) := by decide +kernel
theorem dX0_putHinge_1 : decode cX0_putHinge 1 = .ok (.iload_n 1, 1) := by decide +kernel
theorem dX0_putHinge_2 : decode cX0_putHinge 2 = .ok (.invokevirtual 66, 3) := by decide +kernel
theorem dX0_putHinge_5 : decode cX0_putHinge 5 = .ok (.ifCond .ne 6, 3) := by decide +kernel
theorem dX0_putHinge_8 : decode cX0_putHinge 8 = .ok (.bipush (-6), 2) := by decide +kernel
theorem dX0_putHinge_10 : decode cX0_putHinge 10 = .ok (.ireturn, 1) := by decide +kernel
theorem dX0_putHinge_11 : decode cX0_putHinge 11 = .ok (.aload_n 0, 1) := by decide +kernel
theorem dX0_putHinge_12 : decode cX0_putHinge 12 = .ok (.getfield 19, 3) := by decide +kernel
theorem dX0_putHinge_15 : decode cX0_putHinge 15 = .ok (.iload_n 1, 1) := by decide +kernel
theorem dX0_putHinge_16 : decode cX0_putHinge 16 = .ok (.iaload, 1) := by decide +kernel
theorem dX0_putHinge_17 : decode cX0_putHinge 17 = .ok (.istore_n 3, 1) := by decide +kernel
theorem dX0_putHinge_18 : decode cX0_putHinge 18 = .ok (.aload_n 0, 1) := by decide +kernel
theorem dX0_putHinge_19 : decode cX0_putHinge 19 = .ok (.getfield 19, 3) := by decide +kernel
theorem dX0_putHinge_22 : decode cX0_putHinge 22 = .ok (.iload_n 1, 1) := by decide +kernel
theorem dX0_putHinge_23 : decode cX0_putHinge 23 = .ok (.iload_n 2, 1) := by decide +kernel
theorem dX0_putHinge_24 : decode cX0_putHinge 24 = .ok (.iastore, 1) := by decide +kernel
theorem dX0_putHinge_25 : decode cX0_putHinge 25 = .ok (.iload_n 3, 1) := by decide +kernel
theorem dX0_putHinge_26 : decode cX0_putHinge 26 = .ok (.ireturn, 1) := by decide +kernel
theorem dX0_putLoad_0 : decode cX0_putLoad 0 = .ok (.aload_n 0, 1) := by decide +kernel
theorem dX0_putLoad_1 : decode cX0_putLoad 1 = .ok (.getfield 49, 3) := by decide +kernel
theorem dX0_putLoad_4 : decode cX0_putLoad 4 = .ok (.bipush 6, 2) := by decide +kernel
theorem dX0_putLoad_6 : decode cX0_putLoad 6 = .ok (.if_icmp .lt 6, 3) := by decide +kernel
theorem dX0_putLoad_9 : decode cX0_putLoad 9 = .ok (.bipush (-3), 2) := by decide +kernel
theorem dX0_putLoad_11 : decode cX0_putLoad 11 = .ok (.ireturn, 1) := by decide +kernel
theorem dX0_putLoad_12 : decode cX0_putLoad 12 = .ok (.aload_n 0, 1) := by decide +kernel
theorem dX0_putLoad_13 : decode cX0_putLoad 13 = .ok (.getfield 22, 3) := by decide +kernel
theorem dX0_putLoad_16 : decode cX0_putLoad 16 = .ok (.aload_n 0, 1) := by decide +kernel
theorem dX0_putLoad_17 : decode cX0_putLoad 17 = .ok (.getfield 49, 3) := by decide +kernel
theorem dX0_putLoad_20 : decode cX0_putLoad 20 = .ok (.iload_n 1, 1) := by decide +kernel
theorem dX0_putLoad_21 : decode cX0_putLoad 21 = .ok (.iastore, 1) := by decide +kernel
theorem dX0_putLoad_22 : decode cX0_putLoad 22 = .ok (.aload_n 0, 1) := by decide +kernel
theorem dX0_putLoad_23 : decode cX0_putLoad 23 = .ok (.getfield 25, 3) := by decide +kernel
theorem dX0_putLoad_26 : decode cX0_putLoad 26 = .ok (.aload_n 0, 1) := by decide +kernel
theorem dX0_putLoad_27 : decode cX0_putLoad 27 = .ok (.getfield 49, 3) := by decide +kernel
theorem dX0_putLoad_30 : decode cX0_putLoad 30 = .ok (.iload_n 2, 1) := by decide +kernel
theorem dX0_putLoad_31 : decode cX0_putLoad 31 = .ok (.iastore, 1) := by decide +kernel
theorem dX0_putLoad_32 : decode cX0_putLoad 32 = .ok (.aload_n 0, 1) := by decide +kernel
theorem dX0_putLoad_33 : decode cX0_putLoad 33 = .ok (.getfield 28, 3) := by decide +kernel
theorem dX0_putLoad_36 : decode cX0_putLoad 36 = .ok (.aload_n 0, 1) := by decide +kernel
theorem dX0_putLoad_37 : decode cX0_putLoad 37 = .ok (.getfield 49, 3) := by decide +kernel
theorem dX0_putLoad_40 : decode cX0_putLoad 40 = .ok (.iload_n 3, 1) := by decide +kernel
theorem dX0_putLoad_41 : decode cX0_putLoad 41 = .ok (.iastore, 1) := by decide +kernel
theorem dX0_putLoad_42 : decode cX0_putLoad 42 = .ok (.aload_n 0, 1) := by decide +kernel
theorem dX0_putLoad_43 : decode cX0_putLoad 43 = .ok (.getfield 31, 3) := by decide +kernel
theorem dX0_putLoad_46 : decode cX0_putLoad 46 = .ok (.aload_n 0, 1) := by decide +kernel
theorem dX0_putLoad_47 : decode cX0_putLoad 47 = .ok (.getfield 49, 3) := by decide +kernel
theorem dX0_putLoad_50 : decode cX0_putLoad 50 = .ok (.iload 4, 2) := by decide +kernel
theorem dX0_putLoad_52 : decode cX0_putLoad 52 = .ok (.iastore, 1) := by decide +kernel
theorem dX0_putLoad_53 : decode cX0_putLoad 53 = .ok (.aload_n 0, 1) := by decide +kernel
theorem dX0_putLoad_54 : decode cX0_putLoad 54 = .ok (.dup, 1) := by decide +kernel
theorem dX0_putLoad_55 : decode cX0_putLoad 55 = .ok (.getfield 49, 3) := by decide +kernel
theorem dX0_putLoad_58 : decode cX0_putLoad 58 = .ok (.iconst 1, 1) := by decide +kernel
theorem dX0_putLoad_59 : decode cX0_putLoad 59 = .ok (.iadd, 1) := by decide +kernel
theorem dX0_putLoad_60 : decode cX0_putLoad 60 = .ok (.putfield 49, 3) := by decide +kernel
theorem dX0_putLoad_63 : decode cX0_putLoad 63 = .ok (.aload_n 0, 1) := by decide +kernel
theorem dX0_putLoad_64 : decode cX0_putLoad 64 = .ok (.getfield 49, 3) := by decide +kernel
theorem dX0_putLoad_67 : decode cX0_putLoad 67 = .ok (.iconst 1, 1) := by decide +kernel
theorem dX0_putLoad_68 : decode cX0_putLoad 68 = .ok (.isub, 1) := by decide +kernel
theorem dX0_putLoad_69 : decode cX0_putLoad 69 = .ok (.ireturn, 1) := by decide +kernel
theorem dX0_takeLoad_0 : decode cX0_takeLoad 0 = .ok (.aload_n 0, 1) := by decide +kernel
theorem dX0_takeLoad_1 : decode cX0_takeLoad 1 = .ok (.iload_n 1, 1) := by decide +kernel
theorem dX0_takeLoad_2 : decode cX0_takeLoad 2 = .ok (.invokevirtual 69, 3) := by decide +kernel
theorem dX0_takeLoad_5 : decode cX0_takeLoad 5 = .ok (.ifCond .ne 5, 3) := by decide +kernel
theorem dX0_takeLoad_8 : decode cX0_takeLoad 8 = .ok (.iconst (-1), 1) := by decide +kernel
theorem dX0_takeLoad_9 : decode cX0_takeLoad 9 = .ok (.ireturn, 1) := by decide +kernel
theorem dX0_takeLoad_10 : decode cX0_takeLoad 10 = .ok (.iload_n 1, 1) := by decide +kernel
theorem dX0_takeLoad_11 : decode cX0_takeLoad 11 = .ok (.istore_n 2, 1) := by decide +kernel
theorem dX0_takeLoad_12 : decode cX0_takeLoad 12 = .ok (.iload_n 2, 1) := by decide +kernel
theorem dX0_takeLoad_13 : decode cX0_takeLoad 13 = .ok (.iconst 1, 1) := by decide +kernel
theorem dX0_takeLoad_14 : decode cX0_takeLoad 14 = .ok (.iadd, 1) := by decide +kernel
theorem dX0_takeLoad_15 : decode cX0_takeLoad 15 = .ok (.aload_n 0, 1) := by decide +kernel
theorem dX0_takeLoad_16 : decode cX0_takeLoad 16 = .ok (.getfield 49, 3) := by decide +kernel
theorem dX0_takeLoad_19 : decode cX0_takeLoad 19 = .ok (.if_icmp .ge 65, 3) := by decide +kernel
theorem dX0_takeLoad_22 : decode cX0_takeLoad 22 = .ok (.aload_n 0, 1) := by decide +kernel
theorem dX0_takeLoad_23 : decode cX0_takeLoad 23 = .ok (.getfield 22, 3) := by decide +kernel
theorem dX0_takeLoad_26 : decode cX0_takeLoad 26 = .ok (.iload_n 2, 1) := by decide +kernel
theorem dX0_takeLoad_27 : decode cX0_takeLoad 27 = .ok (.aload_n 0, 1) := by decide +kernel
theorem dX0_takeLoad_28 : decode cX0_takeLoad 28 = .ok (.getfield 22, 3) := by decide +kernel
theorem dX0_takeLoad_31 : decode cX0_takeLoad 31 = .ok (.iload_n 2, 1) := by decide +kernel
theorem dX0_takeLoad_32 : decode cX0_takeLoad 32 = .ok (.iconst 1, 1) := by decide +kernel
theorem dX0_takeLoad_33 : decode cX0_takeLoad 33 = .ok (.iadd, 1) := by decide +kernel
theorem dX0_takeLoad_34 : decode cX0_takeLoad 34 = .ok (.iaload, 1) := by decide +kernel
theorem dX0_takeLoad_35 : decode cX0_takeLoad 35 = .ok (.iastore, 1) := by decide +kernel
theorem dX0_takeLoad_36 : decode cX0_takeLoad 36 = .ok (.aload_n 0, 1) := by decide +kernel
theorem dX0_takeLoad_37 : decode cX0_takeLoad 37 = .ok (.getfield 25, 3) := by decide +kernel
theorem dX0_takeLoad_40 : decode cX0_takeLoad 40 = .ok (.iload_n 2, 1) := by decide +kernel
theorem dX0_takeLoad_41 : decode cX0_takeLoad 41 = .ok (.aload_n 0, 1) := by decide +kernel
theorem dX0_takeLoad_42 : decode cX0_takeLoad 42 = .ok (.getfield 25, 3) := by decide +kernel
theorem dX0_takeLoad_45 : decode cX0_takeLoad 45 = .ok (.iload_n 2, 1) := by decide +kernel
theorem dX0_takeLoad_46 : decode cX0_takeLoad 46 = .ok (.iconst 1, 1) := by decide +kernel
theorem dX0_takeLoad_47 : decode cX0_takeLoad 47 = .ok (.iadd, 1) := by decide +kernel
theorem dX0_takeLoad_48 : decode cX0_takeLoad 48 = .ok (.iaload, 1) := by decide +kernel
theorem dX0_takeLoad_49 : decode cX0_takeLoad 49 = .ok (.iastore, 1) := by decide +kernel
theorem dX0_takeLoad_50 : decode cX0_takeLoad 50 = .ok (.aload_n 0, 1) := by decide +kernel
theorem dX0_takeLoad_51 : decode cX0_takeLoad 51 = .ok (.getfield 28, 3) := by decide +kernel
theorem dX0_takeLoad_54 : decode cX0_takeLoad 54 = .ok (.iload_n 2, 1) := by decide +kernel
theorem dX0_takeLoad_55 : decode cX0_takeLoad 55 = .ok (.aload_n 0, 1) := by decide +kernel
theorem dX0_takeLoad_56 : decode cX0_takeLoad 56 = .ok (.getfield 28, 3) := by decide +kernel
theorem dX0_takeLoad_59 : decode cX0_takeLoad 59 = .ok (.iload_n 2, 1) := by decide +kernel
theorem dX0_takeLoad_60 : decode cX0_takeLoad 60 = .ok (.iconst 1, 1) := by decide +kernel
theorem dX0_takeLoad_61 : decode cX0_takeLoad 61 = .ok (.iadd, 1) := by decide +kernel
theorem dX0_takeLoad_62 : decode cX0_takeLoad 62 = .ok (.iaload, 1) := by decide +kernel
theorem dX0_takeLoad_63 : decode cX0_takeLoad 63 = .ok (.iastore, 1) := by decide +kernel
theorem dX0_takeLoad_64 : decode cX0_takeLoad 64 = .ok (.aload_n 0, 1) := by decide +kernel
theorem dX0_takeLoad_65 : decode cX0_takeLoad 65 = .ok (.getfield 31, 3) := by decide +kernel
theorem dX0_takeLoad_68 : decode cX0_takeLoad 68 = .ok (.iload_n 2, 1) := by decide +kernel
theorem dX0_takeLoad_69 : decode cX0_takeLoad 69 = .ok (.aload_n 0, 1) := by decide +kernel
theorem dX0_takeLoad_70 : decode cX0_takeLoad 70 = .ok (.getfield 31, 3) := by decide +kernel
theorem dX0_takeLoad_73 : decode cX0_takeLoad 73 = .ok (.iload_n 2, 1) := by decide +kernel
theorem dX0_takeLoad_74 : decode cX0_takeLoad 74 = .ok (.iconst 1, 1) := by decide +kernel
theorem dX0_takeLoad_75 : decode cX0_takeLoad 75 = .ok (.iadd, 1) := by decide +kernel
theorem dX0_takeLoad_76 : decode cX0_takeLoad 76 = .ok (.iaload, 1) := by decide +kernel
theorem dX0_takeLoad_77 : decode cX0_takeLoad 77 = .ok (.iastore, 1) := by decide +kernel
theorem dX0_takeLoad_78 : decode cX0_takeLoad 78 = .ok (.iinc 2 1, 3) := by decide +kernel
theorem dX0_takeLoad_81 : decode cX0_takeLoad 81 = .ok (.goto (-69), 3) := by decide +kernel
theorem dX0_takeLoad_84 : decode cX0_takeLoad 84 = .ok (.aload_n 0, 1) := by decide +kernel
theorem dX0_takeLoad_85 : decode cX0_takeLoad 85 = .ok (.dup, 1) := by decide +kernel
theorem dX0_takeLoad_86 : decode cX0_takeLoad 86 = .ok (.getfield 49, 3) := by decide +kernel
theorem dX0_takeLoad_89 : decode cX0_takeLoad 89 = .ok (.iconst 1, 1) := by decide +kernel
theorem dX0_takeLoad_90 : decode cX0_takeLoad 90 = .ok (.isub, 1) := by decide +kernel
theorem dX0_takeLoad_91 : decode cX0_takeLoad 91 = .ok (.putfield 49, 3) := by decide +kernel
theorem dX0_takeLoad_94 : decode cX0_takeLoad 94 = .ok (.aload_n 0, 1) := by decide +kernel
theorem dX0_takeLoad_95 : decode cX0_takeLoad 95 = .ok (.getfield 49, 3) := by decide +kernel
theorem dX0_takeLoad_98 : decode cX0_takeLoad 98 = .ok (.ireturn, 1) := by decide +kernel
theorem dX0_putAxle_0 : decode cX0_putAxle 0 = .ok (.aload_n 0, 1) := by decide +kernel
theorem dX0_putAxle_1 : decode cX0_putAxle 1 = .ok (.getfield 52, 3) := by decide +kernel
theorem dX0_putAxle_4 : decode cX0_putAxle 4 = .ok (.iconst 3, 1) := by decide +kernel
theorem dX0_putAxle_5 : decode cX0_putAxle 5 = .ok (.if_icmp .lt 6, 3) := by decide +kernel
theorem dX0_putAxle_8 : decode cX0_putAxle 8 = .ok (.bipush (-3), 2) := by decide +kernel
theorem dX0_putAxle_10 : decode cX0_putAxle 10 = .ok (.ireturn, 1) := by decide +kernel
theorem dX0_putAxle_11 : decode cX0_putAxle 11 = .ok (.aload_n 0, 1) := by decide +kernel
theorem dX0_putAxle_12 : decode cX0_putAxle 12 = .ok (.getfield 34, 3) := by decide +kernel
theorem dX0_putAxle_15 : decode cX0_putAxle 15 = .ok (.aload_n 0, 1) := by decide +kernel
theorem dX0_putAxle_16 : decode cX0_putAxle 16 = .ok (.getfield 52, 3) := by decide +kernel
theorem dX0_putAxle_19 : decode cX0_putAxle 19 = .ok (.iload_n 1, 1) := by decide +kernel
theorem dX0_putAxle_20 : decode cX0_putAxle 20 = .ok (.iastore, 1) := by decide +kernel
theorem dX0_putAxle_21 : decode cX0_putAxle 21 = .ok (.aload_n 0, 1) := by decide +kernel
theorem dX0_putAxle_22 : decode cX0_putAxle 22 = .ok (.getfield 37, 3) := by decide +kernel
theorem dX0_putAxle_25 : decode cX0_putAxle 25 = .ok (.aload_n 0, 1) := by decide +kernel
theorem dX0_putAxle_26 : decode cX0_putAxle 26 = .ok (.getfield 52, 3) := by decide +kernel
theorem dX0_putAxle_29 : decode cX0_putAxle 29 = .ok (.iload_n 2, 1) := by decide +kernel
theorem dX0_putAxle_30 : decode cX0_putAxle 30 = .ok (.iastore, 1) := by decide +kernel
theorem dX0_putAxle_31 : decode cX0_putAxle 31 = .ok (.aload_n 0, 1) := by decide +kernel
theorem dX0_putAxle_32 : decode cX0_putAxle 32 = .ok (.dup, 1) := by decide +kernel
theorem dX0_putAxle_33 : decode cX0_putAxle 33 = .ok (.getfield 52, 3) := by decide +kernel
theorem dX0_putAxle_36 : decode cX0_putAxle 36 = .ok (.iconst 1, 1) := by decide +kernel
theorem dX0_putAxle_37 : decode cX0_putAxle 37 = .ok (.iadd, 1) := by decide +kernel
theorem dX0_putAxle_38 : decode cX0_putAxle 38 = .ok (.putfield 52, 3) := by decide +kernel
theorem dX0_putAxle_41 : decode cX0_putAxle 41 = .ok (.aload_n 0, 1) := by decide +kernel
theorem dX0_putAxle_42 : decode cX0_putAxle 42 = .ok (.getfield 52, 3) := by decide +kernel
theorem dX0_putAxle_45 : decode cX0_putAxle 45 = .ok (.ireturn, 1) := by decide +kernel
theorem dX1_init_0 : decode cX1_init 0 = .ok (.aload_n 0, 1) := by decide +kernel
theorem dX1_init_1 : decode cX1_init 1 = .ok (.invokespecial 3, 3) := by decide +kernel
theorem dX1_init_4 : decode cX1_init 4 = .ok (.aload_n 0, 1) := by decide +kernel
theorem dX1_init_5 : decode cX1_init 5 = .ok (.bipush 10, 2) := by decide +kernel
theorem dX1_init_7 : decode cX1_init 7 = .ok (.anewarray 9, 3) := by decide +kernel
theorem dX1_init_10 : decode cX1_init 10 = .ok (.putfield 11, 3) := by decide +kernel
theorem dX1_init_13 : decode cX1_init 13 = .ok (.iconst 0, 1) := by decide +kernel
theorem dX1_init_14 : decode cX1_init 14 = .ok (.istore_n 1, 1) := by decide +kernel
theorem dX1_init_15 : decode cX1_init 15 = .ok (.iload_n 1, 1) := by decide +kernel
theorem dX1_init_16 : decode cX1_init 16 = .ok (.bipush 10, 2) := by decide +kernel
theorem dX1_init_18 : decode cX1_init 18 = .ok (.if_icmp .ge 22, 3) := by decide +kernel
theorem dX1_init_21 : decode cX1_init 21 = .ok (.aload_n 0, 1) := by decide +kernel
theorem dX1_init_22 : decode cX1_init 22 = .ok (.getfield 11, 3) := by decide +kernel
theorem dX1_init_25 : decode cX1_init 25 = .ok (.iload_n 1, 1) := by decide +kernel
theorem dX1_init_26 : decode cX1_init 26 = .ok (.new 9, 3) := by decide +kernel
theorem dX1_init_29 : decode cX1_init 29 = .ok (.dup, 1) := by decide +kernel
theorem dX1_init_30 : decode cX1_init 30 = .ok (.invokespecial 17, 3) := by decide +kernel
theorem dX1_init_33 : decode cX1_init 33 = .ok (.aastore, 1) := by decide +kernel
theorem dX1_init_34 : decode cX1_init 34 = .ok (.iinc 1 1, 3) := by decide +kernel
theorem dX1_init_37 : decode cX1_init 37 = .ok (.goto (-22), 3) := by decide +kernel
theorem dX1_init_40 : decode cX1_init 40 = .ok (.return_, 1) := by decide +kernel
theorem dX1_keep_0 : decode cX1_keep 0 = .ok (.aload_n 0, 1) := by decide +kernel
theorem dX1_keep_1 : decode cX1_keep 1 = .ok (.getfield 11, 3) := by decide +kernel
theorem dX1_keep_4 : decode cX1_keep 4 = .ok (.aload_n 0, 1) := by decide +kernel
theorem dX1_keep_5 : decode cX1_keep 5 = .ok (.getfield 18, 3) := by decide +kernel
theorem dX1_keep_8 : decode cX1_keep 8 = .ok (.aaload, 1) := by decide +kernel
theorem dX1_keep_9 : decode cX1_keep 9 = .ok (.astore_n 2, 1) := by decide +kernel
theorem dX1_keep_10 : decode cX1_keep 10 = .ok (.aload_n 2, 1) := by decide +kernel
theorem dX1_keep_11 : decode cX1_keep 11 = .ok (.ifnull 8, 3) := by decide +kernel
theorem dX1_keep_14 : decode cX1_keep 14 = .ok (.aload_n 2, 1) := by decide +kernel
theorem dX1_keep_15 : decode cX1_keep 15 = .ok (.aload_n 1, 1) := by decide +kernel
theorem dX1_keep_16 : decode cX1_keep 16 = .ok (.invokevirtual 22, 3) := by decide +kernel
theorem dX1_keep_19 : decode cX1_keep 19 = .ok (.aload_n 0, 1) := by decide +kernel
theorem dX1_keep_20 : decode cX1_keep 20 = .ok (.aload_n 0, 1) := by decide +kernel
theorem dX1_keep_21 : decode cX1_keep 21 = .ok (.getfield 18, 3) := by decide +kernel
theorem dX1_keep_24 : decode cX1_keep 24 = .ok (.bipush 9, 2) := by decide +kernel
theorem dX1_keep_26 : decode cX1_keep 26 = .ok (.if_icmp .ne 7, 3) := by decide +kernel
theorem dX1_keep_29 : decode cX1_keep 29 = .ok (.iconst 0, 1) := by decide +kernel
theorem dX1_keep_30 : decode cX1_keep 30 = .ok (.goto 9, 3) := by decide +kernel
theorem dX1_keep_33 : decode cX1_keep 33 = .ok (.aload_n 0, 1) := by decide +kernel
theorem dX1_keep_34 : decode cX1_keep 34 = .ok (.getfield 18, 3) := by decide +kernel
theorem dX1_keep_37 : decode cX1_keep 37 = .ok (.iconst 1, 1) := by decide +kernel
theorem dX1_keep_38 : decode cX1_keep 38 = .ok (.iadd, 1) := by decide +kernel
theorem dX1_keep_39 : decode cX1_keep 39 = .ok (.putfield 18, 3) := by decide +kernel
theorem dX1_keep_42 : decode cX1_keep 42 = .ok (.aload_n 0, 1) := by decide +kernel
theorem dX1_keep_43 : decode cX1_keep 43 = .ok (.aload_n 0, 1) := by decide +kernel
theorem dX1_keep_44 : decode cX1_keep 44 = .ok (.getfield 26, 3) := by decide +kernel
theorem dX1_keep_47 : decode cX1_keep 47 = .ok (.iconst 1, 1) := by decide +kernel
theorem dX1_keep_48 : decode cX1_keep 48 = .ok (.iadd, 1) := by decide +kernel
theorem dX1_keep_49 : decode cX1_keep 49 = .ok (.bipush 10, 2) := by decide +kernel
theorem dX1_keep_51 : decode cX1_keep 51 = .ok (.invokestatic 29, 3) := by decide +kernel
theorem dX1_keep_54 : decode cX1_keep 54 = .ok (.putfield 26, 3) := by decide +kernel
theorem dX1_keep_57 : decode cX1_keep 57 = .ok (.return_, 1) := by decide +kernel
theorem dX1_layBack_0 : decode cX1_layBack 0 = .ok (.aload_n 0, 1) := by decide +kernel
theorem dX1_layBack_1 : decode cX1_layBack 1 = .ok (.aload_n 0, 1) := by decide +kernel
theorem dX1_layBack_2 : decode cX1_layBack 2 = .ok (.getfield 18, 3) := by decide +kernel
theorem dX1_layBack_5 : decode cX1_layBack 5 = .ok (.ifCond .ne 8, 3) := by decide +kernel
theorem dX1_layBack_8 : decode cX1_layBack 8 = .ok (.bipush 9, 2) := by decide +kernel
theorem dX1_layBack_10 : decode cX1_layBack 10 = .ok (.goto 9, 3) := by decide +kernel
theorem dX1_layBack_13 : decode cX1_layBack 13 = .ok (.aload_n 0, 1) := by decide +kernel
theorem dX1_layBack_14 : decode cX1_layBack 14 = .ok (.getfield 18, 3) := by decide +kernel
theorem dX1_layBack_17 : decode cX1_layBack 17 = .ok (.iconst 1, 1) := by decide +kernel
theorem dX1_layBack_18 : decode cX1_layBack 18 = .ok (.isub, 1) := by decide +kernel
theorem dX1_layBack_19 : decode cX1_layBack 19 = .ok (.putfield 18, 3) := by decide +kernel
theorem dX1_layBack_22 : decode cX1_layBack 22 = .ok (.aload_n 0, 1) := by decide +kernel
theorem dX1_layBack_23 : decode cX1_layBack 23 = .ok (.aload_n 0, 1) := by decide +kernel
theorem dX1_layBack_24 : decode cX1_layBack 24 = .ok (.getfield 26, 3) := by decide +kernel
theorem dX1_layBack_27 : decode cX1_layBack 27 = .ok (.iconst 1, 1) := by decide +kernel
theorem dX1_layBack_28 : decode cX1_layBack 28 = .ok (.isub, 1) := by decide +kernel
theorem dX1_layBack_29 : decode cX1_layBack 29 = .ok (.iconst 0, 1) := by decide +kernel
theorem dX1_layBack_30 : decode cX1_layBack 30 = .ok (.invokestatic 35, 3) := by decide +kernel
theorem dX1_layBack_33 : decode cX1_layBack 33 = .ok (.putfield 26, 3) := by decide +kernel
theorem dX1_layBack_36 : decode cX1_layBack 36 = .ok (.aload_n 0, 1) := by decide +kernel
theorem dX1_layBack_37 : decode cX1_layBack 37 = .ok (.getfield 11, 3) := by decide +kernel
theorem dX1_layBack_40 : decode cX1_layBack 40 = .ok (.aload_n 0, 1) := by decide +kernel
theorem dX1_layBack_41 : decode cX1_layBack 41 = .ok (.getfield 18, 3) := by decide +kernel
theorem dX1_layBack_44 : decode cX1_layBack 44 = .ok (.aaload, 1) := by decide +kernel
theorem dX1_layBack_45 : decode cX1_layBack 45 = .ok (.astore_n 2, 1) := by decide +kernel
theorem dX1_layBack_46 : decode cX1_layBack 46 = .ok (.aload_n 2, 1) := by decide +kernel
theorem dX1_layBack_47 : decode cX1_layBack 47 = .ok (.ifnull 8, 3) := by decide +kernel
theorem dX1_layBack_50 : decode cX1_layBack 50 = .ok (.aload_n 1, 1) := by decide +kernel
theorem dX1_layBack_51 : decode cX1_layBack 51 = .ok (.aload_n 2, 1) := by decide +kernel
theorem dX1_layBack_52 : decode cX1_layBack 52 = .ok (.invokevirtual 22, 3) := by decide +kernel
theorem dX1_layBack_55 : decode cX1_layBack 55 = .ok (.return_, 1) := by decide +kernel
theorem dX1_forget_0 : decode cX1_forget 0 = .ok (.aload_n 0, 1) := by decide +kernel
theorem dX1_forget_1 : decode cX1_forget 1 = .ok (.iconst 0, 1) := by decide +kernel
theorem dX1_forget_2 : decode cX1_forget 2 = .ok (.putfield 26, 3) := by decide +kernel
theorem dX1_forget_5 : decode cX1_forget 5 = .ok (.return_, 1) := by decide +kernel
theorem dX2_init_0 : decode cX2_init 0 = .ok (.aload_n 0, 1) := by decide +kernel
theorem dX2_init_1 : decode cX2_init 1 = .ok (.invokespecial 3, 3) := by decide +kernel
theorem dX2_init_4 : decode cX2_init 4 = .ok (.aload_n 0, 1) := by decide +kernel
theorem dX2_init_5 : decode cX2_init 5 = .ok (.lconst 1, 1) := by decide +kernel
theorem dX2_init_6 : decode cX2_init 6 = .ok (.putfield 9, 3) := by decide +kernel
theorem dX2_init_9 : decode cX2_init 9 = .ok (.return_, 1) := by decide +kernel
theorem dX2_become_0 : decode cX2_become 0 = .ok (.lload_n 1, 1) := by decide +kernel
theorem dX2_become_1 : decode cX2_become 1 = .ok (.lload_n 3, 1) := by decide +kernel
theorem dX2_become_2 : decode cX2_become 2 = .ok (.invokestatic 15, 3) := by decide +kernel
theorem dX2_become_5 : decode cX2_become 5 = .ok (.lstore 5, 2) := by decide +kernel
theorem dX2_become_7 : decode cX2_become 7 = .ok (.lload_n 3, 1) := by decide +kernel
theorem dX2_become_8 : decode cX2_become 8 = .ok (.lconst 0, 1) := by decide +kernel
theorem dX2_become_9 : decode cX2_become 9 = .ok (.lcmp, 1) := by decide +kernel
theorem dX2_become_10 : decode cX2_become 10 = .ok (.ifCond .ge 9, 3) := by decide +kernel
theorem dX2_become_13 : decode cX2_become 13 = .ok (.ldc2_w 19, 3) := by decide +kernel
theorem dX2_become_16 : decode cX2_become 16 = .ok (.goto 4, 3) := by decide +kernel
theorem dX2_become_19 : decode cX2_become 19 = .ok (.lconst 1, 1) := by decide +kernel
theorem dX2_become_20 : decode cX2_become 20 = .ok (.lstore 7, 2) := by decide +kernel
theorem dX2_become_22 : decode cX2_become 22 = .ok (.aload_n 0, 1) := by decide +kernel
theorem dX2_become_23 : decode cX2_become 23 = .ok (.lload 7, 2) := by decide +kernel
theorem dX2_become_25 : decode cX2_become 25 = .ok (.lload_n 1, 1) := by decide +kernel
theorem dX2_become_26 : decode cX2_become 26 = .ok (.lload 5, 2) := by decide +kernel
theorem dX2_become_28 : decode cX2_become 28 = .ok (.invokestatic 21, 3) := by decide +kernel
theorem dX2_become_31 : decode cX2_become 31 = .ok (.lmul, 1) := by decide +kernel
theorem dX2_become_32 : decode cX2_become 32 = .ok (.putfield 24, 3) := by decide +kernel
theorem dX2_become_35 : decode cX2_become 35 = .ok (.aload_n 0, 1) := by decide +kernel
theorem dX2_become_36 : decode cX2_become 36 = .ok (.lconst 1, 1) := by decide +kernel
theorem dX2_become_37 : decode cX2_become 37 = .ok (.lload 7, 2) := by decide +kernel
theorem dX2_become_39 : decode cX2_become 39 = .ok (.lload_n 3, 1) := by decide +kernel
theorem dX2_become_40 : decode cX2_become 40 = .ok (.lload 5, 2) := by decide +kernel
theorem dX2_become_42 : decode cX2_become 42 = .ok (.invokestatic 21, 3) := by decide +kernel
theorem dX2_become_45 : decode cX2_become 45 = .ok (.lmul, 1) := by decide +kernel
theorem dX2_become_46 : decode cX2_become 46 = .ok (.invokestatic 27, 3) := by decide +kernel
theorem dX2_become_49 : decode cX2_become 49 = .ok (.putfield 9, 3) := by decide +kernel
theorem dX2_become_52 : decode cX2_become 52 = .ok (.return_, 1) := by decide +kernel
theorem dX2_copy_0 : decode cX2_copy 0 = .ok (.aload_n 0, 1) := by decide +kernel
theorem dX2_copy_1 : decode cX2_copy 1 = .ok (.aload_n 1, 1) := by decide +kernel
theorem dX2_copy_2 : decode cX2_copy 2 = .ok (.getfield 24, 3) := by decide +kernel
theorem dX2_copy_5 : decode cX2_copy 5 = .ok (.putfield 24, 3) := by decide +kernel
theorem dX2_copy_8 : decode cX2_copy 8 = .ok (.aload_n 0, 1) := by decide +kernel
theorem dX2_copy_9 : decode cX2_copy 9 = .ok (.aload_n 1, 1) := by decide +kernel
theorem dX2_copy_10 : decode cX2_copy 10 = .ok (.getfield 9, 3) := by decide +kernel
theorem dX2_copy_13 : decode cX2_copy 13 = .ok (.putfield 9, 3) := by decide +kernel
theorem dX2_copy_16 : decode cX2_copy 16 = .ok (.return_, 1) := by decide +kernel
theorem dX2_told_0 : decode cX2_told 0 = .ok (.iload_n 1, 1) := by decide +kernel
theorem dX2_told_1 : decode cX2_told 1 = .ok (.ifCond .ne 10, 3) := by decide +kernel
theorem dX2_told_4 : decode cX2_told 4 = .ok (.aload_n 0, 1) := by decide +kernel
theorem dX2_told_5 : decode cX2_told 5 = .ok (.getfield 24, 3) := by decide +kernel
theorem dX2_told_8 : decode cX2_told 8 = .ok (.goto 7, 3) := by decide +kernel
theorem dX2_told_11 : decode cX2_told 11 = .ok (.aload_n 0, 1) := by decide +kernel
theorem dX2_told_12 : decode cX2_told 12 = .ok (.getfield 9, 3) := by decide +kernel
theorem dX2_told_15 : decode cX2_told 15 = .ok (.lreturn, 1) := by decide +kernel
theorem dX2_against_0 : decode cX2_against 0 = .ok (.aload_n 0, 1) := by decide +kernel
theorem dX2_against_1 : decode cX2_against 1 = .ok (.getfield 24, 3) := by decide +kernel
theorem dX2_against_4 : decode cX2_against 4 = .ok (.lstore_n 2, 1) := by decide +kernel
theorem dX2_against_5 : decode cX2_against 5 = .ok (.aload_n 0, 1) := by decide +kernel
theorem dX2_against_6 : decode cX2_against 6 = .ok (.getfield 9, 3) := by decide +kernel
theorem dX2_against_9 : decode cX2_against 9 = .ok (.lstore 4, 2) := by decide +kernel
theorem dX2_against_11 : decode cX2_against 11 = .ok (.aload_n 1, 1) := by decide +kernel
theorem dX2_against_12 : decode cX2_against 12 = .ok (.getfield 24, 3) := by decide +kernel
theorem dX2_against_15 : decode cX2_against 15 = .ok (.lstore 6, 2) := by decide +kernel
theorem dX2_against_17 : decode cX2_against 17 = .ok (.aload_n 1, 1) := by decide +kernel
theorem dX2_against_18 : decode cX2_against 18 = .ok (.getfield 9, 3) := by decide +kernel
theorem dX2_against_21 : decode cX2_against 21 = .ok (.lstore 8, 2) := by decide +kernel
theorem dX2_against_23 : decode cX2_against 23 = .ok (.iconst 0, 1) := by decide +kernel
theorem dX2_against_24 : decode cX2_against 24 = .ok (.istore 10, 2) := by decide +kernel
theorem dX2_against_26 : decode cX2_against 26 = .ok (.iload 10, 2) := by decide +kernel
theorem dX2_against_28 : decode cX2_against 28 = .ok (.sipush 200, 3) := by decide +kernel
theorem dX2_against_31 : decode cX2_against 31 = .ok (.if_icmp .ge 122, 3) := by decide +kernel
theorem dX2_against_34 : decode cX2_against 34 = .ok (.lload 4, 2) := by decide +kernel
theorem dX2_against_36 : decode cX2_against 36 = .ok (.lconst 0, 1) := by decide +kernel
theorem dX2_against_37 : decode cX2_against 37 = .ok (.lcmp, 1) := by decide +kernel
theorem dX2_against_38 : decode cX2_against 38 = .ok (.ifCond .le 115, 3) := by decide +kernel
theorem dX2_against_41 : decode cX2_against 41 = .ok (.lload 8, 2) := by decide +kernel
theorem dX2_against_43 : decode cX2_against 43 = .ok (.lconst 0, 1) := by decide +kernel
theorem dX2_against_44 : decode cX2_against 44 = .ok (.lcmp, 1) := by decide +kernel
theorem dX2_against_45 : decode cX2_against 45 = .ok (.ifCond .le 108, 3) := by decide +kernel
theorem dX2_against_48 : decode cX2_against 48 = .ok (.lload_n 2, 1) := by decide +kernel
theorem dX2_against_49 : decode cX2_against 49 = .ok (.lload 4, 2) := by decide +kernel
theorem dX2_against_51 : decode cX2_against 51 = .ok (.invokestatic 32, 3) := by decide +kernel
theorem dX2_against_54 : decode cX2_against 54 = .ok (.lstore 11, 2) := by decide +kernel
theorem dX2_against_56 : decode cX2_against 56 = .ok (.lload 6, 2) := by decide +kernel
theorem dX2_against_58 : decode cX2_against 58 = .ok (.lload 8, 2) := by decide +kernel
theorem dX2_against_60 : decode cX2_against 60 = .ok (.invokestatic 32, 3) := by decide +kernel
theorem dX2_against_63 : decode cX2_against 63 = .ok (.lstore 13, 2) := by decide +kernel
theorem dX2_against_65 : decode cX2_against 65 = .ok (.lload_n 2, 1) := by decide +kernel
theorem dX2_against_66 : decode cX2_against 66 = .ok (.lload 11, 2) := by decide +kernel
theorem dX2_against_68 : decode cX2_against 68 = .ok (.lload 4, 2) := by decide +kernel
theorem dX2_against_70 : decode cX2_against 70 = .ok (.lmul, 1) := by decide +kernel
theorem dX2_against_71 : decode cX2_against 71 = .ok (.lsub, 1) := by decide +kernel
theorem dX2_against_72 : decode cX2_against 72 = .ok (.lstore 15, 2) := by decide +kernel
theorem dX2_against_74 : decode cX2_against 74 = .ok (.lload 6, 2) := by decide +kernel
theorem dX2_against_76 : decode cX2_against 76 = .ok (.lload 13, 2) := by decide +kernel
theorem dX2_against_78 : decode cX2_against 78 = .ok (.lload 8, 2) := by decide +kernel
theorem dX2_against_80 : decode cX2_against 80 = .ok (.lmul, 1) := by decide +kernel
theorem dX2_against_81 : decode cX2_against 81 = .ok (.lsub, 1) := by decide +kernel
theorem dX2_against_82 : decode cX2_against 82 = .ok (.lstore 17, 2) := by decide +kernel
theorem dX2_against_84 : decode cX2_against 84 = .ok (.lload 11, 2) := by decide +kernel
theorem dX2_against_86 : decode cX2_against 86 = .ok (.lload 13, 2) := by decide +kernel
theorem dX2_against_88 : decode cX2_against 88 = .ok (.lcmp, 1) := by decide +kernel
theorem dX2_against_89 : decode cX2_against 89 = .ok (.ifCond .ne 17, 3) := by decide +kernel
theorem dX2_against_92 : decode cX2_against 92 = .ok (.lload 15, 2) := by decide +kernel
theorem dX2_against_94 : decode cX2_against 94 = .ok (.lconst 0, 1) := by decide +kernel
theorem dX2_against_95 : decode cX2_against 95 = .ok (.lcmp, 1) := by decide +kernel
theorem dX2_against_96 : decode cX2_against 96 = .ok (.ifCond .eq 10, 3) := by decide +kernel
theorem dX2_against_99 : decode cX2_against 99 = .ok (.lload 17, 2) := by decide +kernel
theorem dX2_against_101 : decode cX2_against 101 = .ok (.lconst 0, 1) := by decide +kernel
theorem dX2_against_102 : decode cX2_against 102 = .ok (.lcmp, 1) := by decide +kernel
theorem dX2_against_103 : decode cX2_against 103 = .ok (.ifCond .ne 29, 3) := by decide +kernel
theorem dX2_against_106 : decode cX2_against 106 = .ok (.lload 11, 2) := by decide +kernel
theorem dX2_against_108 : decode cX2_against 108 = .ok (.lload 13, 2) := by decide +kernel
theorem dX2_against_110 : decode cX2_against 110 = .ok (.lcmp, 1) := by decide +kernel
theorem dX2_against_111 : decode cX2_against 111 = .ok (.ifCond .eq 13, 3) := by decide +kernel
theorem dX2_against_114 : decode cX2_against 114 = .ok (.lload 11, 2) := by decide +kernel
theorem dX2_against_116 : decode cX2_against 116 = .ok (.lload 13, 2) := by decide +kernel
theorem dX2_against_118 : decode cX2_against 118 = .ok (.invokestatic 35, 3) := by decide +kernel
theorem dX2_against_121 : decode cX2_against 121 = .ok (.goto 10, 3) := by decide +kernel
theorem dX2_against_124 : decode cX2_against 124 = .ok (.lload 15, 2) := by decide +kernel
theorem dX2_against_126 : decode cX2_against 126 = .ok (.lload 17, 2) := by decide +kernel
theorem dX2_against_128 : decode cX2_against 128 = .ok (.invokestatic 35, 3) := by decide +kernel
theorem dX2_against_131 : decode cX2_against 131 = .ok (.ireturn, 1) := by decide +kernel
theorem dX2_against_132 : decode cX2_against 132 = .ok (.lload 8, 2) := by decide +kernel
theorem dX2_against_134 : decode cX2_against 134 = .ok (.lstore_n 2, 1) := by decide +kernel
theorem dX2_against_135 : decode cX2_against 135 = .ok (.lload 4, 2) := by decide +kernel
theorem dX2_against_137 : decode cX2_against 137 = .ok (.lstore 6, 2) := by decide +kernel
theorem dX2_against_139 : decode cX2_against 139 = .ok (.lload 17, 2) := by decide +kernel
theorem dX2_against_141 : decode cX2_against 141 = .ok (.lstore 4, 2) := by decide +kernel
theorem dX2_against_143 : decode cX2_against 143 = .ok (.lload 15, 2) := by decide +kernel
theorem dX2_against_145 : decode cX2_against 145 = .ok (.lstore 8, 2) := by decide +kernel
theorem dX2_against_147 : decode cX2_against 147 = .ok (.iinc 10 1, 3) := by decide +kernel
theorem dX2_against_150 : decode cX2_against 150 = .ok (.goto (-124), 3) := by decide +kernel
theorem dX2_against_153 : decode cX2_against 153 = .ok (.iconst 0, 1) := by decide +kernel
theorem dX2_against_154 : decode cX2_against 154 = .ok (.ireturn, 1) := by decide +kernel
theorem dX3_init_0 : decode cX3_init 0 = .ok (.aload_n 0, 1) := by decide +kernel
theorem dX3_init_1 : decode cX3_init 1 = .ok (.invokespecial 3, 3) := by decide +kernel
theorem dX3_init_4 : decode cX3_init 4 = .ok (.aload_n 0, 1) := by decide +kernel
theorem dX3_init_5 : decode cX3_init 5 = .ok (.sipush 1000, 3) := by decide +kernel
theorem dX3_init_8 : decode cX3_init 8 = .ok (.newarray .byte, 2) := by decide +kernel
theorem dX3_init_10 : decode cX3_init 10 = .ok (.putfield 9, 3) := by decide +kernel
theorem dX3_init_13 : decode cX3_init 13 = .ok (.aload_n 0, 1) := by decide +kernel
theorem dX3_init_14 : decode cX3_init 14 = .ok (.bipush 20, 2) := by decide +kernel
theorem dX3_init_16 : decode cX3_init 16 = .ok (.newarray .byte, 2) := by decide +kernel
theorem dX3_init_18 : decode cX3_init 18 = .ok (.putfield 15, 3) := by decide +kernel
theorem dX3_init_21 : decode cX3_init 21 = .ok (.return_, 1) := by decide +kernel
theorem dX3_put_0 : decode cX3_put 0 = .ok (.aload_n 0, 1) := by decide +kernel
theorem dX3_put_1 : decode cX3_put 1 = .ok (.getfield 18, 3) := by decide +kernel
theorem dX3_put_4 : decode cX3_put 4 = .ok (.sipush 1000, 3) := by decide +kernel
theorem dX3_put_7 : decode cX3_put 7 = .ok (.if_icmp .ge 24, 3) := by decide +kernel
theorem dX3_put_10 : decode cX3_put 10 = .ok (.aload_n 0, 1) := by decide +kernel
theorem dX3_put_11 : decode cX3_put 11 = .ok (.getfield 9, 3) := by decide +kernel
theorem dX3_put_14 : decode cX3_put 14 = .ok (.aload_n 0, 1) := by decide +kernel
theorem dX3_put_15 : decode cX3_put 15 = .ok (.getfield 18, 3) := by decide +kernel
theorem dX3_put_18 : decode cX3_put 18 = .ok (.iload_n 1, 1) := by decide +kernel
theorem dX3_put_19 : decode cX3_put 19 = .ok (.i2b, 1) := by decide +kernel
theorem dX3_put_20 : decode cX3_put 20 = .ok (.bastore, 1) := by decide +kernel
theorem dX3_put_21 : decode cX3_put 21 = .ok (.aload_n 0, 1) := by decide +kernel
theorem dX3_put_22 : decode cX3_put 22 = .ok (.dup, 1) := by decide +kernel
theorem dX3_put_23 : decode cX3_put 23 = .ok (.getfield 18, 3) := by decide +kernel
theorem dX3_put_26 : decode cX3_put 26 = .ok (.iconst 1, 1) := by decide +kernel
theorem dX3_put_27 : decode cX3_put 27 = .ok (.iadd, 1) := by decide +kernel
theorem dX3_put_28 : decode cX3_put 28 = .ok (.putfield 18, 3) := by decide +kernel
theorem dX3_put_31 : decode cX3_put 31 = .ok (.return_, 1) := by decide +kernel
theorem dX3_putNumber_0 : decode cX3_putNumber 0 = .ok (.lload_n 1, 1) := by decide +kernel
theorem dX3_putNumber_1 : decode cX3_putNumber 1 = .ok (.lconst 0, 1) := by decide +kernel
theorem dX3_putNumber_2 : decode cX3_putNumber 2 = .ok (.lcmp, 1) := by decide +kernel
theorem dX3_putNumber_3 : decode cX3_putNumber 3 = .ok (.ifCond .ge 9, 3) := by decide +kernel
theorem dX3_putNumber_6 : decode cX3_putNumber 6 = .ok (.aload_n 0, 1) := by decide +kernel
theorem dX3_putNumber_7 : decode cX3_putNumber 7 = .ok (.bipush 45, 2) := by decide +kernel
theorem dX3_putNumber_9 : decode cX3_putNumber 9 = .ok (.invokevirtual 22, 3) := by decide +kernel
theorem dX3_putNumber_12 : decode cX3_putNumber 12 = .ok (.lload_n 1, 1) := by decide +kernel
theorem dX3_putNumber_13 : decode cX3_putNumber 13 = .ok (.invokestatic 26, 3) := by decide +kernel
theorem dX3_putNumber_16 : decode cX3_putNumber 16 = .ok (.lstore_n 3, 1) := by decide +kernel
theorem dX3_putNumber_17 : decode cX3_putNumber 17 = .ok (.iconst 0, 1) := by decide +kernel
theorem dX3_putNumber_18 : decode cX3_putNumber 18 = .ok (.istore 5, 2) := by decide +kernel
theorem dX3_putNumber_20 : decode cX3_putNumber 20 = .ok (.iconst 0, 1) := by decide +kernel
theorem dX3_putNumber_21 : decode cX3_putNumber 21 = .ok (.istore 6, 2) := by decide +kernel
theorem dX3_putNumber_23 : decode cX3_putNumber 23 = .ok (.iload 6, 2) := by decide +kernel
theorem dX3_putNumber_25 : decode cX3_putNumber 25 = .ok (.bipush 20, 2) := by decide +kernel
theorem dX3_putNumber_27 : decode cX3_putNumber 27 = .ok (.if_icmp .ge 47, 3) := by decide +kernel
theorem dX3_putNumber_30 : decode cX3_putNumber 30 = .ok (.iload 6, 2) := by decide +kernel
theorem dX3_putNumber_32 : decode cX3_putNumber 32 = .ok (.ifCond .eq 9, 3) := by decide +kernel
theorem dX3_putNumber_35 : decode cX3_putNumber 35 = .ok (.lload_n 3, 1) := by decide +kernel
theorem dX3_putNumber_36 : decode cX3_putNumber 36 = .ok (.lconst 0, 1) := by decide +kernel
theorem dX3_putNumber_37 : decode cX3_putNumber 37 = .ok (.lcmp, 1) := by decide +kernel
theorem dX3_putNumber_38 : decode cX3_putNumber 38 = .ok (.ifCond .le 36, 3) := by decide +kernel
theorem dX3_putNumber_41 : decode cX3_putNumber 41 = .ok (.aload_n 0, 1) := by decide +kernel
theorem dX3_putNumber_42 : decode cX3_putNumber 42 = .ok (.getfield 15, 3) := by decide +kernel
theorem dX3_putNumber_45 : decode cX3_putNumber 45 = .ok (.iload 6, 2) := by decide +kernel
theorem dX3_putNumber_47 : decode cX3_putNumber 47 = .ok (.ldc2_w 32, 3) := by decide +kernel
theorem dX3_putNumber_50 : decode cX3_putNumber 50 = .ok (.lload_n 3, 1) := by decide +kernel
theorem dX3_putNumber_51 : decode cX3_putNumber 51 = .ok (.ldc2_w 34, 3) := by decide +kernel
theorem dX3_putNumber_54 : decode cX3_putNumber 54 = .ok (.lrem, 1) := by decide +kernel
theorem dX3_putNumber_55 : decode cX3_putNumber 55 = .ok (.ladd, 1) := by decide +kernel
theorem dX3_putNumber_56 : decode cX3_putNumber 56 = .ok (.l2i, 1) := by decide +kernel
theorem dX3_putNumber_57 : decode cX3_putNumber 57 = .ok (.i2b, 1) := by decide +kernel
theorem dX3_putNumber_58 : decode cX3_putNumber 58 = .ok (.bastore, 1) := by decide +kernel
theorem dX3_putNumber_59 : decode cX3_putNumber 59 = .ok (.lload_n 3, 1) := by decide +kernel
theorem dX3_putNumber_60 : decode cX3_putNumber 60 = .ok (.ldc2_w 34, 3) := by decide +kernel
theorem dX3_putNumber_63 : decode cX3_putNumber 63 = .ok (.ldiv, 1) := by decide +kernel
theorem dX3_putNumber_64 : decode cX3_putNumber 64 = .ok (.lstore_n 3, 1) := by decide +kernel
theorem dX3_putNumber_65 : decode cX3_putNumber 65 = .ok (.iinc 5 1, 3) := by decide +kernel
theorem dX3_putNumber_68 : decode cX3_putNumber 68 = .ok (.iinc 6 1, 3) := by decide +kernel
theorem dX3_putNumber_71 : decode cX3_putNumber 71 = .ok (.goto (-48), 3) := by decide +kernel
theorem dX3_putNumber_74 : decode cX3_putNumber 74 = .ok (.iload 5, 2) := by decide +kernel
theorem dX3_putNumber_76 : decode cX3_putNumber 76 = .ok (.iconst 1, 1) := by decide +kernel
theorem dX3_putNumber_77 : decode cX3_putNumber 77 = .ok (.isub, 1) := by decide +kernel
theorem dX3_putNumber_78 : decode cX3_putNumber 78 = .ok (.istore 6, 2) := by decide +kernel
theorem dX3_putNumber_80 : decode cX3_putNumber 80 = .ok (.iload 6, 2) := by decide +kernel
theorem dX3_putNumber_82 : decode cX3_putNumber 82 = .ok (.ifCond .lt 20, 3) := by decide +kernel
theorem dX3_putNumber_85 : decode cX3_putNumber 85 = .ok (.aload_n 0, 1) := by decide +kernel
theorem dX3_putNumber_86 : decode cX3_putNumber 86 = .ok (.aload_n 0, 1) := by decide +kernel
theorem dX3_putNumber_87 : decode cX3_putNumber 87 = .ok (.getfield 15, 3) := by decide +kernel
theorem dX3_putNumber_90 : decode cX3_putNumber 90 = .ok (.iload 6, 2) := by decide +kernel
theorem dX3_putNumber_92 : decode cX3_putNumber 92 = .ok (.baload, 1) := by decide +kernel
theorem dX3_putNumber_93 : decode cX3_putNumber 93 = .ok (.invokevirtual 22, 3) := by decide +kernel
theorem dX3_putNumber_96 : decode cX3_putNumber 96 = .ok (.iinc 6 (-1), 3) := by decide +kernel
theorem dX3_putNumber_99 : decode cX3_putNumber 99 = .ok (.goto (-19), 3) := by decide +kernel
theorem dX3_putNumber_102 : decode cX3_putNumber 102 = .ok (.return_, 1) := by decide +kernel
theorem dX3_putFraction_0 : decode cX3_putFraction 0 = .ok (.aload_n 0, 1) := by decide +kernel
theorem dX3_putFraction_1 : decode cX3_putFraction 1 = .ok (.aload_n 1, 1) := by decide +kernel
theorem dX3_putFraction_2 : decode cX3_putFraction 2 = .ok (.getfield 36, 3) := by decide +kernel
theorem dX3_putFraction_5 : decode cX3_putFraction 5 = .ok (.invokevirtual 42, 3) := by decide +kernel
theorem dX3_putFraction_8 : decode cX3_putFraction 8 = .ok (.aload_n 1, 1) := by decide +kernel
theorem dX3_putFraction_9 : decode cX3_putFraction 9 = .ok (.getfield 46, 3) := by decide +kernel
theorem dX3_putFraction_12 : decode cX3_putFraction 12 = .ok (.lconst 1, 1) := by decide +kernel
theorem dX3_putFraction_13 : decode cX3_putFraction 13 = .ok (.lcmp, 1) := by decide +kernel
theorem dX3_putFraction_14 : decode cX3_putFraction 14 = .ok (.ifCond .eq 17, 3) := by decide +kernel
theorem dX3_putFraction_17 : decode cX3_putFraction 17 = .ok (.aload_n 0, 1) := by decide +kernel
theorem dX3_putFraction_18 : decode cX3_putFraction 18 = .ok (.bipush 47, 2) := by decide +kernel
theorem dX3_putFraction_20 : decode cX3_putFraction 20 = .ok (.invokevirtual 22, 3) := by decide +kernel
theorem dX3_putFraction_23 : decode cX3_putFraction 23 = .ok (.aload_n 0, 1) := by decide +kernel
theorem dX3_putFraction_24 : decode cX3_putFraction 24 = .ok (.aload_n 1, 1) := by decide +kernel
theorem dX3_putFraction_25 : decode cX3_putFraction 25 = .ok (.getfield 46, 3) := by decide +kernel
theorem dX3_putFraction_28 : decode cX3_putFraction 28 = .ok (.invokevirtual 42, 3) := by decide +kernel
theorem dX3_putFraction_31 : decode cX3_putFraction 31 = .ok (.return_, 1) := by decide +kernel
theorem dX3_putTerm_0 : decode cX3_putTerm 0 = .ok (.aload_n 1, 1) := by decide +kernel
theorem dX3_putTerm_1 : decode cX3_putTerm 1 = .ok (.getfield 36, 3) := by decide +kernel
theorem dX3_putTerm_4 : decode cX3_putTerm 4 = .ok (.lconst 0, 1) := by decide +kernel
theorem dX3_putTerm_5 : decode cX3_putTerm 5 = .ok (.lcmp, 1) := by decide +kernel
theorem dX3_putTerm_6 : decode cX3_putTerm 6 = .ok (.ifCond .ne 4, 3) := by decide +kernel
theorem dX3_putTerm_9 : decode cX3_putTerm 9 = .ok (.return_, 1) := by decide +kernel
theorem dX3_putTerm_10 : decode cX3_putTerm 10 = .ok (.aload_n 1, 1) := by decide +kernel
theorem dX3_putTerm_11 : decode cX3_putTerm 11 = .ok (.getfield 36, 3) := by decide +kernel
theorem dX3_putTerm_14 : decode cX3_putTerm 14 = .ok (.lconst 0, 1) := by decide +kernel
theorem dX3_putTerm_15 : decode cX3_putTerm 15 = .ok (.lcmp, 1) := by decide +kernel
theorem dX3_putTerm_16 : decode cX3_putTerm 16 = .ok (.ifCond .le 9, 3) := by decide +kernel
theorem dX3_putTerm_19 : decode cX3_putTerm 19 = .ok (.aload_n 0, 1) := by decide +kernel
theorem dX3_putTerm_20 : decode cX3_putTerm 20 = .ok (.bipush 43, 2) := by decide +kernel
theorem dX3_putTerm_22 : decode cX3_putTerm 22 = .ok (.invokevirtual 22, 3) := by decide +kernel
theorem dX3_putTerm_25 : decode cX3_putTerm 25 = .ok (.aload_n 0, 1) := by decide +kernel
theorem dX3_putTerm_26 : decode cX3_putTerm 26 = .ok (.aload_n 1, 1) := by decide +kernel
theorem dX3_putTerm_27 : decode cX3_putTerm 27 = .ok (.invokevirtual 49, 3) := by decide +kernel
theorem dX3_putTerm_30 : decode cX3_putTerm 30 = .ok (.iconst 0, 1) := by decide +kernel
theorem dX3_putTerm_31 : decode cX3_putTerm 31 = .ok (.istore_n 3, 1) := by decide +kernel
theorem dX3_putTerm_32 : decode cX3_putTerm 32 = .ok (.iload_n 3, 1) := by decide +kernel
theorem dX3_putTerm_33 : decode cX3_putTerm 33 = .ok (.iload_n 2, 1) := by decide +kernel
theorem dX3_putTerm_34 : decode cX3_putTerm 34 = .ok (.if_icmp .ge 15, 3) := by decide +kernel
theorem dX3_putTerm_37 : decode cX3_putTerm 37 = .ok (.aload_n 0, 1) := by decide +kernel
theorem dX3_putTerm_38 : decode cX3_putTerm 38 = .ok (.bipush 120, 2) := by decide +kernel
theorem dX3_putTerm_40 : decode cX3_putTerm 40 = .ok (.invokevirtual 22, 3) := by decide +kernel
theorem dX3_putTerm_43 : decode cX3_putTerm 43 = .ok (.iinc 3 1, 3) := by decide +kernel
theorem dX3_putTerm_46 : decode cX3_putTerm 46 = .ok (.goto (-14), 3) := by decide +kernel
theorem dX3_putTerm_49 : decode cX3_putTerm 49 = .ok (.return_, 1) := by decide +kernel
theorem dX4_init_0 : decode cX4_init 0 = .ok (.aload_n 0, 1) := by decide +kernel
theorem dX4_init_1 : decode cX4_init 1 = .ok (.invokespecial 1, 3) := by decide +kernel
theorem dX4_init_4 : decode cX4_init 4 = .ok (.aload_n 0, 1) := by decide +kernel
theorem dX4_init_5 : decode cX4_init 5 = .ok (.new 7, 3) := by decide +kernel
theorem dX4_init_8 : decode cX4_init 8 = .ok (.dup, 1) := by decide +kernel
theorem dX4_init_9 : decode cX4_init 9 = .ok (.invokespecial 9, 3) := by decide +kernel
theorem dX4_init_12 : decode cX4_init 12 = .ok (.putfield 10, 3) := by decide +kernel
theorem dX4_init_15 : decode cX4_init 15 = .ok (.aload_n 0, 1) := by decide +kernel
theorem dX4_init_16 : decode cX4_init 16 = .ok (.new 7, 3) := by decide +kernel
theorem dX4_init_19 : decode cX4_init 19 = .ok (.dup, 1) := by decide +kernel
theorem dX4_init_20 : decode cX4_init 20 = .ok (.invokespecial 9, 3) := by decide +kernel
theorem dX4_init_23 : decode cX4_init 23 = .ok (.putfield 16, 3) := by decide +kernel
theorem dX4_init_26 : decode cX4_init 26 = .ok (.aload_n 0, 1) := by decide +kernel
theorem dX4_init_27 : decode cX4_init 27 = .ok (.iload_n 1, 1) := by decide +kernel
theorem dX4_init_28 : decode cX4_init 28 = .ok (.putfield 19, 3) := by decide +kernel
theorem dX4_init_31 : decode cX4_init 31 = .ok (.return_, 1) := by decide +kernel
theorem dX4_offer_0 : decode cX4_offer 0 = .ok (.aload_n 0, 1) := by decide +kernel
theorem dX4_offer_1 : decode cX4_offer 1 = .ok (.getfield 23, 3) := by decide +kernel
theorem dX4_offer_4 : decode cX4_offer 4 = .ok (.ifCond .eq 20, 3) := by decide +kernel
theorem dX4_offer_7 : decode cX4_offer 7 = .ok (.aload_n 0, 1) := by decide +kernel
theorem dX4_offer_8 : decode cX4_offer 8 = .ok (.getfield 19, 3) := by decide +kernel
theorem dX4_offer_11 : decode cX4_offer 11 = .ok (.aload_n 1, 1) := by decide +kernel
theorem dX4_offer_12 : decode cX4_offer 12 = .ok (.aload_n 0, 1) := by decide +kernel
theorem dX4_offer_13 : decode cX4_offer 13 = .ok (.getfield 10, 3) := by decide +kernel
theorem dX4_offer_16 : decode cX4_offer 16 = .ok (.invokevirtual 27, 3) := by decide +kernel
theorem dX4_offer_19 : decode cX4_offer 19 = .ok (.imul, 1) := by decide +kernel
theorem dX4_offer_20 : decode cX4_offer 20 = .ok (.ifCond .gt 4, 3) := by decide +kernel
theorem dX4_offer_23 : decode cX4_offer 23 = .ok (.return_, 1) := by decide +kernel
theorem dX4_offer_24 : decode cX4_offer 24 = .ok (.aload_n 0, 1) := by decide +kernel
theorem dX4_offer_25 : decode cX4_offer 25 = .ok (.getfield 10, 3) := by decide +kernel
theorem dX4_offer_28 : decode cX4_offer 28 = .ok (.aload_n 1, 1) := by decide +kernel
theorem dX4_offer_29 : decode cX4_offer 29 = .ok (.invokevirtual 31, 3) := by decide +kernel
theorem dX4_offer_32 : decode cX4_offer 32 = .ok (.aload_n 0, 1) := by decide +kernel
theorem dX4_offer_33 : decode cX4_offer 33 = .ok (.getfield 16, 3) := by decide +kernel
theorem dX4_offer_36 : decode cX4_offer 36 = .ok (.aload_n 2, 1) := by decide +kernel
theorem dX4_offer_37 : decode cX4_offer 37 = .ok (.invokevirtual 31, 3) := by decide +kernel
theorem dX4_offer_40 : decode cX4_offer 40 = .ok (.aload_n 0, 1) := by decide +kernel
theorem dX4_offer_41 : decode cX4_offer 41 = .ok (.iconst 1, 1) := by decide +kernel
theorem dX4_offer_42 : decode cX4_offer 42 = .ok (.putfield 23, 3) := by decide +kernel
theorem dX4_offer_45 : decode cX4_offer 45 = .ok (.return_, 1) := by decide +kernel
theorem dX5_init_0 : decode cX5_init 0 = .ok (.aload_n 0, 1) := by decide +kernel
theorem dX5_init_1 : decode cX5_init 1 = .ok (.invokespecial 3, 3) := by decide +kernel
theorem dX5_init_4 : decode cX5_init 4 = .ok (.aload_n 0, 1) := by decide +kernel
theorem dX5_init_5 : decode cX5_init 5 = .ok (.new 9, 3) := by decide +kernel
theorem dX5_init_8 : decode cX5_init 8 = .ok (.dup, 1) := by decide +kernel
theorem dX5_init_9 : decode cX5_init 9 = .ok (.invokespecial 11, 3) := by decide +kernel
theorem dX5_init_12 : decode cX5_init 12 = .ok (.putfield 12, 3) := by decide +kernel
theorem dX5_init_15 : decode cX5_init 15 = .ok (.aload_n 0, 1) := by decide +kernel
theorem dX5_init_16 : decode cX5_init 16 = .ok (.bipush 120, 2) := by decide +kernel
theorem dX5_init_18 : decode cX5_init 18 = .ok (.newarray .byte, 2) := by decide +kernel
theorem dX5_init_20 : decode cX5_init 20 = .ok (.putfield 18, 3) := by decide +kernel
theorem dX5_init_23 : decode cX5_init 23 = .ok (.aload_n 0, 1) := by decide +kernel
theorem dX5_init_24 : decode cX5_init 24 = .ok (.iconst 3, 1) := by decide +kernel
theorem dX5_init_25 : decode cX5_init 25 = .ok (.newarray .int, 2) := by decide +kernel
theorem dX5_init_27 : decode cX5_init 27 = .ok (.putfield 22, 3) := by decide +kernel
theorem dX5_init_30 : decode cX5_init 30 = .ok (.return_, 1) := by decide +kernel
theorem dX5_take_0 : decode cX5_take 0 = .ok (.aload_n 0, 1) := by decide +kernel
theorem dX5_take_1 : decode cX5_take 1 = .ok (.getfield 26, 3) := by decide +kernel
theorem dX5_take_4 : decode cX5_take 4 = .ok (.bipush 120, 2) := by decide +kernel
theorem dX5_take_6 : decode cX5_take 6 = .ok (.if_icmp .lt 6, 3) := by decide +kernel
theorem dX5_take_9 : decode cX5_take 9 = .ok (.bipush (-3), 2) := by decide +kernel
theorem dX5_take_11 : decode cX5_take 11 = .ok (.ireturn, 1) := by decide +kernel
theorem dX5_take_12 : decode cX5_take 12 = .ok (.aload_n 0, 1) := by decide +kernel
theorem dX5_take_13 : decode cX5_take 13 = .ok (.getfield 18, 3) := by decide +kernel
theorem dX5_take_16 : decode cX5_take 16 = .ok (.aload_n 0, 1) := by decide +kernel
theorem dX5_take_17 : decode cX5_take 17 = .ok (.getfield 26, 3) := by decide +kernel
theorem dX5_take_20 : decode cX5_take 20 = .ok (.iload_n 1, 1) := by decide +kernel
theorem dX5_take_21 : decode cX5_take 21 = .ok (.i2b, 1) := by decide +kernel
theorem dX5_take_22 : decode cX5_take 22 = .ok (.bastore, 1) := by decide +kernel
theorem dX5_take_23 : decode cX5_take 23 = .ok (.aload_n 0, 1) := by decide +kernel
theorem dX5_take_24 : decode cX5_take 24 = .ok (.dup, 1) := by decide +kernel
theorem dX5_take_25 : decode cX5_take 25 = .ok (.getfield 26, 3) := by decide +kernel
theorem dX5_take_28 : decode cX5_take 28 = .ok (.iconst 1, 1) := by decide +kernel
theorem dX5_take_29 : decode cX5_take 29 = .ok (.iadd, 1) := by decide +kernel
theorem dX5_take_30 : decode cX5_take 30 = .ok (.putfield 26, 3) := by decide +kernel
theorem dX5_take_33 : decode cX5_take 33 = .ok (.aload_n 0, 1) := by decide +kernel
theorem dX5_take_34 : decode cX5_take 34 = .ok (.getfield 26, 3) := by decide +kernel
theorem dX5_take_37 : decode cX5_take 37 = .ok (.ireturn, 1) := by decide +kernel
theorem dX5_readOnto_0 : decode cX5_readOnto 0 = .ok (.aload_n 0, 1) := by decide +kernel
theorem dX5_readOnto_1 : decode cX5_readOnto 1 = .ok (.invokevirtual 30, 3) := by decide +kernel
theorem dX5_readOnto_4 : decode cX5_readOnto 4 = .ok (.istore_n 2, 1) := by decide +kernel
theorem dX5_readOnto_5 : decode cX5_readOnto 5 = .ok (.iload_n 2, 1) := by decide +kernel
theorem dX5_readOnto_6 : decode cX5_readOnto 6 = .ok (.ifCond .lt 9, 3) := by decide +kernel
theorem dX5_readOnto_9 : decode cX5_readOnto 9 = .ok (.sipush (-1000), 3) := by decide +kernel
theorem dX5_readOnto_12 : decode cX5_readOnto 12 = .ok (.iload_n 2, 1) := by decide +kernel
theorem dX5_readOnto_13 : decode cX5_readOnto 13 = .ok (.isub, 1) := by decide +kernel
theorem dX5_readOnto_14 : decode cX5_readOnto 14 = .ok (.ireturn, 1) := by decide +kernel
theorem dX5_readOnto_15 : decode cX5_readOnto 15 = .ok (.aload_n 0, 1) := by decide +kernel
theorem dX5_readOnto_16 : decode cX5_readOnto 16 = .ok (.getfield 12, 3) := by decide +kernel
theorem dX5_readOnto_19 : decode cX5_readOnto 19 = .ok (.aload_n 1, 1) := by decide +kernel
theorem dX5_readOnto_20 : decode cX5_readOnto 20 = .ok (.invokevirtual 34, 3) := by decide +kernel
theorem dX5_readOnto_23 : decode cX5_readOnto 23 = .ok (.iconst 0, 1) := by decide +kernel
theorem dX5_readOnto_24 : decode cX5_readOnto 24 = .ok (.istore_n 3, 1) := by decide +kernel
theorem dX5_readOnto_25 : decode cX5_readOnto 25 = .ok (.aload_n 0, 1) := by decide +kernel
theorem dX5_readOnto_26 : decode cX5_readOnto 26 = .ok (.iconst 0, 1) := by decide +kernel
theorem dX5_readOnto_27 : decode cX5_readOnto 27 = .ok (.putfield 38, 3) := by decide +kernel
theorem dX5_readOnto_30 : decode cX5_readOnto 30 = .ok (.iconst 0, 1) := by decide +kernel
theorem dX5_readOnto_31 : decode cX5_readOnto 31 = .ok (.istore 4, 2) := by decide +kernel
theorem dX5_readOnto_33 : decode cX5_readOnto 33 = .ok (.iload 4, 2) := by decide +kernel
theorem dX5_readOnto_35 : decode cX5_readOnto 35 = .ok (.bipush 120, 2) := by decide +kernel
theorem dX5_readOnto_37 : decode cX5_readOnto 37 = .ok (.if_icmp .ge 62, 3) := by decide +kernel
theorem dX5_readOnto_40 : decode cX5_readOnto 40 = .ok (.aload_n 0, 1) := by decide +kernel
theorem dX5_readOnto_41 : decode cX5_readOnto 41 = .ok (.getfield 38, 3) := by decide +kernel
theorem dX5_readOnto_44 : decode cX5_readOnto 44 = .ok (.aload_n 0, 1) := by decide +kernel
theorem dX5_readOnto_45 : decode cX5_readOnto 45 = .ok (.getfield 26, 3) := by decide +kernel
theorem dX5_readOnto_48 : decode cX5_readOnto 48 = .ok (.if_icmp .ge 51, 3) := by decide +kernel
theorem dX5_readOnto_51 : decode cX5_readOnto 51 = .ok (.aload_n 0, 1) := by decide +kernel
theorem dX5_readOnto_52 : decode cX5_readOnto 52 = .ok (.getfield 38, 3) := by decide +kernel
theorem dX5_readOnto_55 : decode cX5_readOnto 55 = .ok (.istore 5, 2) := by decide +kernel
theorem dX5_readOnto_57 : decode cX5_readOnto 57 = .ok (.aload_n 0, 1) := by decide +kernel
theorem dX5_readOnto_58 : decode cX5_readOnto 58 = .ok (.invokevirtual 41, 3) := by decide +kernel
theorem dX5_readOnto_61 : decode cX5_readOnto 61 = .ok (.pop, 1) := by decide +kernel
theorem dX5_readOnto_62 : decode cX5_readOnto 62 = .ok (.aload_n 0, 1) := by decide +kernel
theorem dX5_readOnto_63 : decode cX5_readOnto 63 = .ok (.invokevirtual 45, 3) := by decide +kernel
theorem dX5_readOnto_66 : decode cX5_readOnto 66 = .ok (.ifCond .eq 10, 3) := by decide +kernel
theorem dX5_readOnto_69 : decode cX5_readOnto 69 = .ok (.sipush (-2000), 3) := by decide +kernel
theorem dX5_readOnto_72 : decode cX5_readOnto 72 = .ok (.iload 5, 2) := by decide +kernel
theorem dX5_readOnto_74 : decode cX5_readOnto 74 = .ok (.isub, 1) := by decide +kernel
theorem dX5_readOnto_75 : decode cX5_readOnto 75 = .ok (.ireturn, 1) := by decide +kernel
theorem dX5_readOnto_76 : decode cX5_readOnto 76 = .ok (.aload_n 0, 1) := by decide +kernel
theorem dX5_readOnto_77 : decode cX5_readOnto 77 = .ok (.invokevirtual 48, 3) := by decide +kernel
theorem dX5_readOnto_80 : decode cX5_readOnto 80 = .ok (.iinc 3 1, 3) := by decide +kernel
theorem dX5_readOnto_83 : decode cX5_readOnto 83 = .ok (.aload_n 0, 1) := by decide +kernel
theorem dX5_readOnto_84 : decode cX5_readOnto 84 = .ok (.dup, 1) := by decide +kernel
theorem dX5_readOnto_85 : decode cX5_readOnto 85 = .ok (.getfield 38, 3) := by decide +kernel
theorem dX5_readOnto_88 : decode cX5_readOnto 88 = .ok (.iconst 1, 1) := by decide +kernel
theorem dX5_readOnto_89 : decode cX5_readOnto 89 = .ok (.iadd, 1) := by decide +kernel
theorem dX5_readOnto_90 : decode cX5_readOnto 90 = .ok (.putfield 38, 3) := by decide +kernel
theorem dX5_readOnto_93 : decode cX5_readOnto 93 = .ok (.iinc 4 1, 3) := by decide +kernel
theorem dX5_readOnto_96 : decode cX5_readOnto 96 = .ok (.goto (-63), 3) := by decide +kernel
theorem dX5_readOnto_99 : decode cX5_readOnto 99 = .ok (.iload_n 3, 1) := by decide +kernel
theorem dX5_readOnto_100 : decode cX5_readOnto 100 = .ok (.ireturn, 1) := by decide +kernel
theorem dX5_placeOfNoText_0 : decode cX5_placeOfNoText 0 = .ok (.aload_n 0, 1) := by decide +kernel
theorem dX5_placeOfNoText_1 : decode cX5_placeOfNoText 1 = .ok (.iconst 0, 1) := by decide +kernel
theorem dX5_placeOfNoText_2 : decode cX5_placeOfNoText 2 = .ok (.putfield 38, 3) := by decide +kernel
theorem dX5_placeOfNoText_5 : decode cX5_placeOfNoText 5 = .ok (.iconst 0, 1) := by decide +kernel
theorem dX5_placeOfNoText_6 : decode cX5_placeOfNoText 6 = .ok (.istore_n 1, 1) := by decide +kernel
theorem dX5_placeOfNoText_7 : decode cX5_placeOfNoText 7 = .ok (.iload_n 1, 1) := by decide +kernel
theorem dX5_placeOfNoText_8 : decode cX5_placeOfNoText 8 = .ok (.bipush 120, 2) := by decide +kernel
theorem dX5_placeOfNoText_10 : decode cX5_placeOfNoText 10 = .ok (.if_icmp .gt 63, 3) := by decide +kernel
theorem dX5_placeOfNoText_13 : decode cX5_placeOfNoText 13 = .ok (.aload_n 0, 1) := by decide +kernel
theorem dX5_placeOfNoText_14 : decode cX5_placeOfNoText 14 = .ok (.invokevirtual 41, 3) := by decide +kernel
theorem dX5_placeOfNoText_17 : decode cX5_placeOfNoText 17 = .ok (.ifCond .ne 8, 3) := by decide +kernel
theorem dX5_placeOfNoText_20 : decode cX5_placeOfNoText 20 = .ok (.aload_n 0, 1) := by decide +kernel
theorem dX5_placeOfNoText_21 : decode cX5_placeOfNoText 21 = .ok (.getfield 38, 3) := by decide +kernel
theorem dX5_placeOfNoText_24 : decode cX5_placeOfNoText 24 = .ok (.ireturn, 1) := by decide +kernel
theorem dX5_placeOfNoText_25 : decode cX5_placeOfNoText 25 = .ok (.aload_n 0, 1) := by decide +kernel
theorem dX5_placeOfNoText_26 : decode cX5_placeOfNoText 26 = .ok (.getfield 38, 3) := by decide +kernel
theorem dX5_placeOfNoText_29 : decode cX5_placeOfNoText 29 = .ok (.aload_n 0, 1) := by decide +kernel
theorem dX5_placeOfNoText_30 : decode cX5_placeOfNoText 30 = .ok (.getfield 26, 3) := by decide +kernel
theorem dX5_placeOfNoText_33 : decode cX5_placeOfNoText 33 = .ok (.if_icmp .lt 5, 3) := by decide +kernel
theorem dX5_placeOfNoText_36 : decode cX5_placeOfNoText 36 = .ok (.iconst (-1), 1) := by decide +kernel
theorem dX5_placeOfNoText_37 : decode cX5_placeOfNoText 37 = .ok (.ireturn, 1) := by decide +kernel
theorem dX5_placeOfNoText_38 : decode cX5_placeOfNoText 38 = .ok (.aload_n 0, 1) := by decide +kernel
theorem dX5_placeOfNoText_39 : decode cX5_placeOfNoText 39 = .ok (.getfield 18, 3) := by decide +kernel
theorem dX5_placeOfNoText_42 : decode cX5_placeOfNoText 42 = .ok (.aload_n 0, 1) := by decide +kernel
theorem dX5_placeOfNoText_43 : decode cX5_placeOfNoText 43 = .ok (.getfield 38, 3) := by decide +kernel
theorem dX5_placeOfNoText_46 : decode cX5_placeOfNoText 46 = .ok (.baload, 1) := by decide +kernel
theorem dX5_placeOfNoText_47 : decode cX5_placeOfNoText 47 = .ok (.bipush 59, 2) := by decide +kernel
theorem dX5_placeOfNoText_49 : decode cX5_placeOfNoText 49 = .ok (.if_icmp .eq 8, 3) := by decide +kernel
theorem dX5_placeOfNoText_52 : decode cX5_placeOfNoText 52 = .ok (.aload_n 0, 1) := by decide +kernel
theorem dX5_placeOfNoText_53 : decode cX5_placeOfNoText 53 = .ok (.getfield 38, 3) := by decide +kernel
theorem dX5_placeOfNoText_56 : decode cX5_placeOfNoText 56 = .ok (.ireturn, 1) := by decide +kernel
theorem dX5_placeOfNoText_57 : decode cX5_placeOfNoText 57 = .ok (.aload_n 0, 1) := by decide +kernel
theorem dX5_placeOfNoText_58 : decode cX5_placeOfNoText 58 = .ok (.dup, 1) := by decide +kernel
theorem dX5_placeOfNoText_59 : decode cX5_placeOfNoText 59 = .ok (.getfield 38, 3) := by decide +kernel
theorem dX5_placeOfNoText_62 : decode cX5_placeOfNoText 62 = .ok (.iconst 1, 1) := by decide +kernel
theorem dX5_placeOfNoText_63 : decode cX5_placeOfNoText 63 = .ok (.iadd, 1) := by decide +kernel
theorem dX5_placeOfNoText_64 : decode cX5_placeOfNoText 64 = .ok (.putfield 38, 3) := by decide +kernel
theorem dX5_placeOfNoText_67 : decode cX5_placeOfNoText 67 = .ok (.iinc 1 1, 3) := by decide +kernel
theorem dX5_placeOfNoText_70 : decode cX5_placeOfNoText 70 = .ok (.goto (-63), 3) := by decide +kernel
theorem dX5_placeOfNoText_73 : decode cX5_placeOfNoText 73 = .ok (.aload_n 0, 1) := by decide +kernel
theorem dX5_placeOfNoText_74 : decode cX5_placeOfNoText 74 = .ok (.getfield 38, 3) := by decide +kernel
theorem dX5_placeOfNoText_77 : decode cX5_placeOfNoText 77 = .ok (.ireturn, 1) := by decide +kernel
theorem dX5_readStatement_0 : decode cX5_readStatement 0 = .ok (.aload_n 0, 1) := by decide +kernel
theorem dX5_readStatement_1 : decode cX5_readStatement 1 = .ok (.getfield 38, 3) := by decide +kernel
theorem dX5_readStatement_4 : decode cX5_readStatement 4 = .ok (.istore_n 1, 1) := by decide +kernel
theorem dX5_readStatement_5 : decode cX5_readStatement 5 = .ok (.iload_n 1, 1) := by decide +kernel
theorem dX5_readStatement_6 : decode cX5_readStatement 6 = .ok (.aload_n 0, 1) := by decide +kernel
theorem dX5_readStatement_7 : decode cX5_readStatement 7 = .ok (.getfield 26, 3) := by decide +kernel
theorem dX5_readStatement_10 : decode cX5_readStatement 10 = .ok (.if_icmp .ge 21, 3) := by decide +kernel
theorem dX5_readStatement_13 : decode cX5_readStatement 13 = .ok (.aload_n 0, 1) := by decide +kernel
theorem dX5_readStatement_14 : decode cX5_readStatement 14 = .ok (.getfield 18, 3) := by decide +kernel
theorem dX5_readStatement_17 : decode cX5_readStatement 17 = .ok (.iload_n 1, 1) := by decide +kernel
theorem dX5_readStatement_18 : decode cX5_readStatement 18 = .ok (.baload, 1) := by decide +kernel
theorem dX5_readStatement_19 : decode cX5_readStatement 19 = .ok (.invokestatic 51, 3) := by decide +kernel
theorem dX5_readStatement_22 : decode cX5_readStatement 22 = .ok (.ifCond .eq 9, 3) := by decide +kernel
theorem dX5_readStatement_25 : decode cX5_readStatement 25 = .ok (.iinc 1 1, 3) := by decide +kernel
theorem dX5_readStatement_28 : decode cX5_readStatement 28 = .ok (.goto (-23), 3) := by decide +kernel
theorem dX5_readStatement_31 : decode cX5_readStatement 31 = .ok (.aload_n 0, 1) := by decide +kernel
theorem dX5_readStatement_32 : decode cX5_readStatement 32 = .ok (.aload_n 0, 1) := by decide +kernel
theorem dX5_readStatement_33 : decode cX5_readStatement 33 = .ok (.aload_n 0, 1) := by decide +kernel
theorem dX5_readStatement_34 : decode cX5_readStatement 34 = .ok (.getfield 38, 3) := by decide +kernel
theorem dX5_readStatement_37 : decode cX5_readStatement 37 = .ok (.iload_n 1, 1) := by decide +kernel
theorem dX5_readStatement_38 : decode cX5_readStatement 38 = .ok (.invokevirtual 55, 3) := by decide +kernel
theorem dX5_readStatement_41 : decode cX5_readStatement 41 = .ok (.putfield 59, 3) := by decide +kernel
theorem dX5_readStatement_44 : decode cX5_readStatement 44 = .ok (.aload_n 0, 1) := by decide +kernel
theorem dX5_readStatement_45 : decode cX5_readStatement 45 = .ok (.getfield 59, 3) := by decide +kernel
theorem dX5_readStatement_48 : decode cX5_readStatement 48 = .ok (.ifCond .ge 5, 3) := by decide +kernel
theorem dX5_readStatement_51 : decode cX5_readStatement 51 = .ok (.iconst 0, 1) := by decide +kernel
theorem dX5_readStatement_52 : decode cX5_readStatement 52 = .ok (.ireturn, 1) := by decide +kernel
theorem dX5_readStatement_53 : decode cX5_readStatement 53 = .ok (.aload_n 0, 1) := by decide +kernel
theorem dX5_readStatement_54 : decode cX5_readStatement 54 = .ok (.iload_n 1, 1) := by decide +kernel
theorem dX5_readStatement_55 : decode cX5_readStatement 55 = .ok (.putfield 38, 3) := by decide +kernel
theorem dX5_readStatement_58 : decode cX5_readStatement 58 = .ok (.iconst 0, 1) := by decide +kernel
theorem dX5_readStatement_59 : decode cX5_readStatement 59 = .ok (.istore_n 2, 1) := by decide +kernel
theorem dX5_readStatement_60 : decode cX5_readStatement 60 = .ok (.iload_n 2, 1) := by decide +kernel
theorem dX5_readStatement_61 : decode cX5_readStatement 61 = .ok (.getstatic 62, 3) := by decide +kernel
theorem dX5_readStatement_64 : decode cX5_readStatement 64 = .ok (.aload_n 0, 1) := by decide +kernel
theorem dX5_readStatement_65 : decode cX5_readStatement 65 = .ok (.getfield 59, 3) := by decide +kernel
theorem dX5_readStatement_68 : decode cX5_readStatement 68 = .ok (.iaload, 1) := by decide +kernel
theorem dX5_readStatement_69 : decode cX5_readStatement 69 = .ok (.if_icmp .ge 56, 3) := by decide +kernel
theorem dX5_readStatement_72 : decode cX5_readStatement 72 = .ok (.iload_n 2, 1) := by decide +kernel
theorem dX5_readStatement_73 : decode cX5_readStatement 73 = .ok (.getstatic 62, 3) := by decide +kernel
theorem dX5_readStatement_76 : decode cX5_readStatement 76 = .ok (.aload_n 0, 1) := by decide +kernel
theorem dX5_readStatement_77 : decode cX5_readStatement 77 = .ok (.getfield 59, 3) := by decide +kernel
theorem dX5_readStatement_80 : decode cX5_readStatement 80 = .ok (.iaload, 1) := by decide +kernel
theorem dX5_readStatement_81 : decode cX5_readStatement 81 = .ok (.iconst 1, 1) := by decide +kernel
theorem dX5_readStatement_82 : decode cX5_readStatement 82 = .ok (.isub, 1) := by decide +kernel
theorem dX5_readStatement_83 : decode cX5_readStatement 83 = .ok (.if_icmp .ne 23, 3) := by decide +kernel
theorem dX5_readStatement_86 : decode cX5_readStatement 86 = .ok (.aload_n 0, 1) := by decide +kernel
theorem dX5_readStatement_87 : decode cX5_readStatement 87 = .ok (.getfield 59, 3) := by decide +kernel
theorem dX5_readStatement_90 : decode cX5_readStatement 90 = .ok (.iconst 3, 1) := by decide +kernel
theorem dX5_readStatement_91 : decode cX5_readStatement 91 = .ok (.if_icmp .eq 11, 3) := by decide +kernel
theorem dX5_readStatement_94 : decode cX5_readStatement 94 = .ok (.aload_n 0, 1) := by decide +kernel
theorem dX5_readStatement_95 : decode cX5_readStatement 95 = .ok (.getfield 59, 3) := by decide +kernel
theorem dX5_readStatement_98 : decode cX5_readStatement 98 = .ok (.iconst 4, 1) := by decide +kernel
theorem dX5_readStatement_99 : decode cX5_readStatement 99 = .ok (.if_icmp .ne 7, 3) := by decide +kernel
theorem dX5_readStatement_102 : decode cX5_readStatement 102 = .ok (.iconst 1, 1) := by decide +kernel
theorem dX5_readStatement_103 : decode cX5_readStatement 103 = .ok (.goto 4, 3) := by decide +kernel
theorem dX5_readStatement_106 : decode cX5_readStatement 106 = .ok (.iconst 0, 1) := by decide +kernel
theorem dX5_readStatement_107 : decode cX5_readStatement 107 = .ok (.istore_n 3, 1) := by decide +kernel
theorem dX5_readStatement_108 : decode cX5_readStatement 108 = .ok (.aload_n 0, 1) := by decide +kernel
theorem dX5_readStatement_109 : decode cX5_readStatement 109 = .ok (.iload_n 2, 1) := by decide +kernel
theorem dX5_readStatement_110 : decode cX5_readStatement 110 = .ok (.iload_n 3, 1) := by decide +kernel
theorem dX5_readStatement_111 : decode cX5_readStatement 111 = .ok (.invokevirtual 65, 3) := by decide +kernel
theorem dX5_readStatement_114 : decode cX5_readStatement 114 = .ok (.ifCond .ne 5, 3) := by decide +kernel
theorem dX5_readStatement_117 : decode cX5_readStatement 117 = .ok (.iconst 0, 1) := by decide +kernel
theorem dX5_readStatement_118 : decode cX5_readStatement 118 = .ok (.ireturn, 1) := by decide +kernel
theorem dX5_readStatement_119 : decode cX5_readStatement 119 = .ok (.iinc 2 1, 3) := by decide +kernel
theorem dX5_readStatement_122 : decode cX5_readStatement 122 = .ok (.goto (-62), 3) := by decide +kernel
theorem dX5_readStatement_125 : decode cX5_readStatement 125 = .ok (.iconst 1, 1) := by decide +kernel
theorem dX5_readStatement_126 : decode cX5_readStatement 126 = .ok (.ireturn, 1) := by decide +kernel
theorem dX5_readNumber_0 : decode cX5_readNumber 0 = .ok (.aload_n 0, 1) := by decide +kernel
theorem dX5_readNumber_1 : decode cX5_readNumber 1 = .ok (.bipush 32, 2) := by decide +kernel
theorem dX5_readNumber_3 : decode cX5_readNumber 3 = .ok (.invokevirtual 69, 3) := by decide +kernel
theorem dX5_readNumber_6 : decode cX5_readNumber 6 = .ok (.ifCond .ne 5, 3) := by decide +kernel
theorem dX5_readNumber_9 : decode cX5_readNumber 9 = .ok (.iconst 0, 1) := by decide +kernel
theorem dX5_readNumber_10 : decode cX5_readNumber 10 = .ok (.ireturn, 1) := by decide +kernel
theorem dX5_readNumber_11 : decode cX5_readNumber 11 = .ok (.aload_n 0, 1) := by decide +kernel
theorem dX5_readNumber_12 : decode cX5_readNumber 12 = .ok (.dup, 1) := by decide +kernel
theorem dX5_readNumber_13 : decode cX5_readNumber 13 = .ok (.getfield 38, 3) := by decide +kernel
theorem dX5_readNumber_16 : decode cX5_readNumber 16 = .ok (.iconst 1, 1) := by decide +kernel
theorem dX5_readNumber_17 : decode cX5_readNumber 17 = .ok (.iadd, 1) := by decide +kernel
theorem dX5_readNumber_18 : decode cX5_readNumber 18 = .ok (.putfield 38, 3) := by decide +kernel
theorem dX5_readNumber_21 : decode cX5_readNumber 21 = .ok (.iload_n 2, 1) := by decide +kernel
theorem dX5_readNumber_22 : decode cX5_readNumber 22 = .ok (.ifCond .eq 16, 3) := by decide +kernel
theorem dX5_readNumber_25 : decode cX5_readNumber 25 = .ok (.aload_n 0, 1) := by decide +kernel
theorem dX5_readNumber_26 : decode cX5_readNumber 26 = .ok (.bipush 45, 2) := by decide +kernel
theorem dX5_readNumber_28 : decode cX5_readNumber 28 = .ok (.invokevirtual 69, 3) := by decide +kernel
theorem dX5_readNumber_31 : decode cX5_readNumber 31 = .ok (.ifCond .eq 7, 3) := by decide +kernel
theorem dX5_readNumber_34 : decode cX5_readNumber 34 = .ok (.iconst 1, 1) := by decide +kernel
theorem dX5_readNumber_35 : decode cX5_readNumber 35 = .ok (.goto 4, 3) := by decide +kernel
theorem dX5_readNumber_38 : decode cX5_readNumber 38 = .ok (.iconst 0, 1) := by decide +kernel
theorem dX5_readNumber_39 : decode cX5_readNumber 39 = .ok (.istore_n 3, 1) := by decide +kernel
theorem dX5_readNumber_40 : decode cX5_readNumber 40 = .ok (.iload_n 3, 1) := by decide +kernel
theorem dX5_readNumber_41 : decode cX5_readNumber 41 = .ok (.ifCond .eq 13, 3) := by decide +kernel
theorem dX5_readNumber_44 : decode cX5_readNumber 44 = .ok (.aload_n 0, 1) := by decide +kernel
theorem dX5_readNumber_45 : decode cX5_readNumber 45 = .ok (.dup, 1) := by decide +kernel
theorem dX5_readNumber_46 : decode cX5_readNumber 46 = .ok (.getfield 38, 3) := by decide +kernel
theorem dX5_readNumber_49 : decode cX5_readNumber 49 = .ok (.iconst 1, 1) := by decide +kernel
theorem dX5_readNumber_50 : decode cX5_readNumber 50 = .ok (.iadd, 1) := by decide +kernel
theorem dX5_readNumber_51 : decode cX5_readNumber 51 = .ok (.putfield 38, 3) := by decide +kernel
theorem dX5_readNumber_54 : decode cX5_readNumber 54 = .ok (.aload_n 0, 1) := by decide +kernel
theorem dX5_readNumber_55 : decode cX5_readNumber 55 = .ok (.invokevirtual 72, 3) := by decide +kernel
theorem dX5_readNumber_58 : decode cX5_readNumber 58 = .ok (.ifCond .ne 5, 3) := by decide +kernel
theorem dX5_readNumber_61 : decode cX5_readNumber 61 = .ok (.iconst 0, 1) := by decide +kernel
theorem dX5_readNumber_62 : decode cX5_readNumber 62 = .ok (.ireturn, 1) := by decide +kernel
theorem dX5_readNumber_63 : decode cX5_readNumber 63 = .ok (.aload_n 0, 1) := by decide +kernel
theorem dX5_readNumber_64 : decode cX5_readNumber 64 = .ok (.getfield 18, 3) := by decide +kernel
theorem dX5_readNumber_67 : decode cX5_readNumber 67 = .ok (.aload_n 0, 1) := by decide +kernel
theorem dX5_readNumber_68 : decode cX5_readNumber 68 = .ok (.getfield 38, 3) := by decide +kernel
theorem dX5_readNumber_71 : decode cX5_readNumber 71 = .ok (.baload, 1) := by decide +kernel
theorem dX5_readNumber_72 : decode cX5_readNumber 72 = .ok (.bipush 48, 2) := by decide +kernel
theorem dX5_readNumber_74 : decode cX5_readNumber 74 = .ok (.isub, 1) := by decide +kernel
theorem dX5_readNumber_75 : decode cX5_readNumber 75 = .ok (.istore 4, 2) := by decide +kernel
theorem dX5_readNumber_77 : decode cX5_readNumber 77 = .ok (.aload_n 0, 1) := by decide +kernel
theorem dX5_readNumber_78 : decode cX5_readNumber 78 = .ok (.dup, 1) := by decide +kernel
theorem dX5_readNumber_79 : decode cX5_readNumber 79 = .ok (.getfield 38, 3) := by decide +kernel
theorem dX5_readNumber_82 : decode cX5_readNumber 82 = .ok (.iconst 1, 1) := by decide +kernel
theorem dX5_readNumber_83 : decode cX5_readNumber 83 = .ok (.iadd, 1) := by decide +kernel
theorem dX5_readNumber_84 : decode cX5_readNumber 84 = .ok (.putfield 38, 3) := by decide +kernel
theorem dX5_readNumber_87 : decode cX5_readNumber 87 = .ok (.aload_n 0, 1) := by decide +kernel
theorem dX5_readNumber_88 : decode cX5_readNumber 88 = .ok (.invokevirtual 72, 3) := by decide +kernel
theorem dX5_readNumber_91 : decode cX5_readNumber 91 = .ok (.ifCond .eq 33, 3) := by decide +kernel
theorem dX5_readNumber_94 : decode cX5_readNumber 94 = .ok (.bipush 10, 2) := by decide +kernel
theorem dX5_readNumber_96 : decode cX5_readNumber 96 = .ok (.iload 4, 2) := by decide +kernel
theorem dX5_readNumber_98 : decode cX5_readNumber 98 = .ok (.imul, 1) := by decide +kernel
theorem dX5_readNumber_99 : decode cX5_readNumber 99 = .ok (.aload_n 0, 1) := by decide +kernel
theorem dX5_readNumber_100 : decode cX5_readNumber 100 = .ok (.getfield 18, 3) := by decide +kernel
theorem dX5_readNumber_103 : decode cX5_readNumber 103 = .ok (.aload_n 0, 1) := by decide +kernel
theorem dX5_readNumber_104 : decode cX5_readNumber 104 = .ok (.getfield 38, 3) := by decide +kernel
theorem dX5_readNumber_107 : decode cX5_readNumber 107 = .ok (.baload, 1) := by decide +kernel
theorem dX5_readNumber_108 : decode cX5_readNumber 108 = .ok (.iadd, 1) := by decide +kernel
theorem dX5_readNumber_109 : decode cX5_readNumber 109 = .ok (.bipush 48, 2) := by decide +kernel
theorem dX5_readNumber_111 : decode cX5_readNumber 111 = .ok (.isub, 1) := by decide +kernel
theorem dX5_readNumber_112 : decode cX5_readNumber 112 = .ok (.istore 4, 2) := by decide +kernel
theorem dX5_readNumber_114 : decode cX5_readNumber 114 = .ok (.aload_n 0, 1) := by decide +kernel
theorem dX5_readNumber_115 : decode cX5_readNumber 115 = .ok (.dup, 1) := by decide +kernel
theorem dX5_readNumber_116 : decode cX5_readNumber 116 = .ok (.getfield 38, 3) := by decide +kernel
theorem dX5_readNumber_119 : decode cX5_readNumber 119 = .ok (.iconst 1, 1) := by decide +kernel
theorem dX5_readNumber_120 : decode cX5_readNumber 120 = .ok (.iadd, 1) := by decide +kernel
theorem dX5_readNumber_121 : decode cX5_readNumber 121 = .ok (.putfield 38, 3) := by decide +kernel
theorem dX5_readNumber_124 : decode cX5_readNumber 124 = .ok (.aload_n 0, 1) := by decide +kernel
theorem dX5_readNumber_125 : decode cX5_readNumber 125 = .ok (.getfield 22, 3) := by decide +kernel
theorem dX5_readNumber_128 : decode cX5_readNumber 128 = .ok (.iload_n 1, 1) := by decide +kernel
theorem dX5_readNumber_129 : decode cX5_readNumber 129 = .ok (.iload_n 3, 1) := by decide +kernel
theorem dX5_readNumber_130 : decode cX5_readNumber 130 = .ok (.ifCond .eq 9, 3) := by decide +kernel
theorem dX5_readNumber_133 : decode cX5_readNumber 133 = .ok (.iload 4, 2) := by decide +kernel
theorem dX5_readNumber_135 : decode cX5_readNumber 135 = .ok (.ineg, 1) := by decide +kernel
theorem dX5_readNumber_136 : decode cX5_readNumber 136 = .ok (.goto 5, 3) := by decide +kernel
theorem dX5_readNumber_139 : decode cX5_readNumber 139 = .ok (.iload 4, 2) := by decide +kernel
theorem dX5_readNumber_141 : decode cX5_readNumber 141 = .ok (.iastore, 1) := by decide +kernel
theorem dX5_readNumber_142 : decode cX5_readNumber 142 = .ok (.iconst 1, 1) := by decide +kernel
theorem dX5_readNumber_143 : decode cX5_readNumber 143 = .ok (.ireturn, 1) := by decide +kernel
theorem dX5_isNext_0 : decode cX5_isNext 0 = .ok (.aload_n 0, 1) := by decide +kernel
theorem dX5_isNext_1 : decode cX5_isNext 1 = .ok (.getfield 38, 3) := by decide +kernel
theorem dX5_isNext_4 : decode cX5_isNext 4 = .ok (.aload_n 0, 1) := by decide +kernel
theorem dX5_isNext_5 : decode cX5_isNext 5 = .ok (.getfield 26, 3) := by decide +kernel
theorem dX5_isNext_8 : decode cX5_isNext 8 = .ok (.if_icmp .ge 20, 3) := by decide +kernel
theorem dX5_isNext_11 : decode cX5_isNext 11 = .ok (.aload_n 0, 1) := by decide +kernel
theorem dX5_isNext_12 : decode cX5_isNext 12 = .ok (.getfield 18, 3) := by decide +kernel
theorem dX5_isNext_15 : decode cX5_isNext 15 = .ok (.aload_n 0, 1) := by decide +kernel
theorem dX5_isNext_16 : decode cX5_isNext 16 = .ok (.getfield 38, 3) := by decide +kernel
theorem dX5_isNext_19 : decode cX5_isNext 19 = .ok (.baload, 1) := by decide +kernel
theorem dX5_isNext_20 : decode cX5_isNext 20 = .ok (.iload_n 1, 1) := by decide +kernel
theorem dX5_isNext_21 : decode cX5_isNext 21 = .ok (.if_icmp .ne 7, 3) := by decide +kernel
theorem dX5_isNext_24 : decode cX5_isNext 24 = .ok (.iconst 1, 1) := by decide +kernel
theorem dX5_isNext_25 : decode cX5_isNext 25 = .ok (.goto 4, 3) := by decide +kernel
theorem dX5_isNext_28 : decode cX5_isNext 28 = .ok (.iconst 0, 1) := by decide +kernel
theorem dX5_isNext_29 : decode cX5_isNext 29 = .ok (.ireturn, 1) := by decide +kernel
theorem dX5_isFigureNext_0 : decode cX5_isFigureNext 0 = .ok (.aload_n 0, 1) := by decide +kernel
theorem dX5_isFigureNext_1 : decode cX5_isFigureNext 1 = .ok (.getfield 38, 3) := by decide +kernel
theorem dX5_isFigureNext_4 : decode cX5_isFigureNext 4 = .ok (.aload_n 0, 1) := by decide +kernel
theorem dX5_isFigureNext_5 : decode cX5_isFigureNext 5 = .ok (.getfield 26, 3) := by decide +kernel
theorem dX5_isFigureNext_8 : decode cX5_isFigureNext 8 = .ok (.if_icmp .ge 35, 3) := by decide +kernel
theorem dX5_isFigureNext_11 : decode cX5_isFigureNext 11 = .ok (.aload_n 0, 1) := by decide +kernel
theorem dX5_isFigureNext_12 : decode cX5_isFigureNext 12 = .ok (.getfield 18, 3) := by decide +kernel
theorem dX5_isFigureNext_15 : decode cX5_isFigureNext 15 = .ok (.aload_n 0, 1) := by decide +kernel
theorem dX5_isFigureNext_16 : decode cX5_isFigureNext 16 = .ok (.getfield 38, 3) := by decide +kernel
theorem dX5_isFigureNext_19 : decode cX5_isFigureNext 19 = .ok (.baload, 1) := by decide +kernel
theorem dX5_isFigureNext_20 : decode cX5_isFigureNext 20 = .ok (.bipush 48, 2) := by decide +kernel
theorem dX5_isFigureNext_22 : decode cX5_isFigureNext 22 = .ok (.if_icmp .lt 21, 3) := by decide +kernel
theorem dX5_isFigureNext_25 : decode cX5_isFigureNext 25 = .ok (.aload_n 0, 1) := by decide +kernel
theorem dX5_isFigureNext_26 : decode cX5_isFigureNext 26 = .ok (.getfield 18, 3) := by decide +kernel
theorem dX5_isFigureNext_29 : decode cX5_isFigureNext 29 = .ok (.aload_n 0, 1) := by decide +kernel
theorem dX5_isFigureNext_30 : decode cX5_isFigureNext 30 = .ok (.getfield 38, 3) := by decide +kernel
theorem dX5_isFigureNext_33 : decode cX5_isFigureNext 33 = .ok (.baload, 1) := by decide +kernel
theorem dX5_isFigureNext_34 : decode cX5_isFigureNext 34 = .ok (.bipush 57, 2) := by decide +kernel
theorem dX5_isFigureNext_36 : decode cX5_isFigureNext 36 = .ok (.if_icmp .gt 7, 3) := by decide +kernel
theorem dX5_isFigureNext_39 : decode cX5_isFigureNext 39 = .ok (.iconst 1, 1) := by decide +kernel
theorem dX5_isFigureNext_40 : decode cX5_isFigureNext 40 = .ok (.goto 4, 3) := by decide +kernel
theorem dX5_isFigureNext_43 : decode cX5_isFigureNext 43 = .ok (.iconst 0, 1) := by decide +kernel
theorem dX5_isFigureNext_44 : decode cX5_isFigureNext 44 = .ok (.ireturn, 1) := by decide +kernel
theorem dX5_isLetter_0 : decode cX5_isLetter 0 = .ok (.iload_n 0, 1) := by decide +kernel
theorem dX5_isLetter_1 : decode cX5_isLetter 1 = .ok (.bipush 97, 2) := by decide +kernel
theorem dX5_isLetter_3 : decode cX5_isLetter 3 = .ok (.if_icmp .lt 13, 3) := by decide +kernel
theorem dX5_isLetter_6 : decode cX5_isLetter 6 = .ok (.iload_n 0, 1) := by decide +kernel
theorem dX5_isLetter_7 : decode cX5_isLetter 7 = .ok (.bipush 122, 2) := by decide +kernel
theorem dX5_isLetter_9 : decode cX5_isLetter 9 = .ok (.if_icmp .gt 7, 3) := by decide +kernel
theorem dX5_isLetter_12 : decode cX5_isLetter 12 = .ok (.iconst 1, 1) := by decide +kernel
theorem dX5_isLetter_13 : decode cX5_isLetter 13 = .ok (.goto 4, 3) := by decide +kernel
theorem dX5_isLetter_16 : decode cX5_isLetter 16 = .ok (.iconst 0, 1) := by decide +kernel
theorem dX5_isLetter_17 : decode cX5_isLetter 17 = .ok (.ireturn, 1) := by decide +kernel
theorem dX5_wordWithin_0 : decode cX5_wordWithin 0 = .ok (.iconst 0, 1) := by decide +kernel
theorem dX5_wordWithin_1 : decode cX5_wordWithin 1 = .ok (.istore_n 3, 1) := by decide +kernel
theorem dX5_wordWithin_2 : decode cX5_wordWithin 2 = .ok (.iload_n 3, 1) := by decide +kernel
theorem dX5_wordWithin_3 : decode cX5_wordWithin 3 = .ok (.bipush 6, 2) := by decide +kernel
theorem dX5_wordWithin_5 : decode cX5_wordWithin 5 = .ok (.if_icmp .ge 24, 3) := by decide +kernel
theorem dX5_wordWithin_8 : decode cX5_wordWithin 8 = .ok (.aload_n 0, 1) := by decide +kernel
theorem dX5_wordWithin_9 : decode cX5_wordWithin 9 = .ok (.iload_n 1, 1) := by decide +kernel
theorem dX5_wordWithin_10 : decode cX5_wordWithin 10 = .ok (.iload_n 2, 1) := by decide +kernel
theorem dX5_wordWithin_11 : decode cX5_wordWithin 11 = .ok (.iload_n 3, 1) := by decide +kernel
theorem dX5_wordWithin_12 : decode cX5_wordWithin 12 = .ok (.invokestatic 75, 3) := by decide +kernel
theorem dX5_wordWithin_15 : decode cX5_wordWithin 15 = .ok (.invokevirtual 79, 3) := by decide +kernel
theorem dX5_wordWithin_18 : decode cX5_wordWithin 18 = .ok (.ifCond .eq 5, 3) := by decide +kernel
theorem dX5_wordWithin_21 : decode cX5_wordWithin 21 = .ok (.iload_n 3, 1) := by decide +kernel
theorem dX5_wordWithin_22 : decode cX5_wordWithin 22 = .ok (.ireturn, 1) := by decide +kernel
theorem dX5_wordWithin_23 : decode cX5_wordWithin 23 = .ok (.iinc 3 1, 3) := by decide +kernel
theorem dX5_wordWithin_26 : decode cX5_wordWithin 26 = .ok (.goto (-24), 3) := by decide +kernel
theorem dX5_wordWithin_29 : decode cX5_wordWithin 29 = .ok (.iconst (-1), 1) := by decide +kernel
theorem dX5_wordWithin_30 : decode cX5_wordWithin 30 = .ok (.ireturn, 1) := by decide +kernel
theorem dX5_spells_0 : decode cX5_spells 0 = .ok (.aload_n 3, 1) := by decide +kernel
theorem dX5_spells_1 : decode cX5_spells 1 = .ok (.invokevirtual 83, 3) := by decide +kernel
theorem dX5_spells_4 : decode cX5_spells 4 = .ok (.iload_n 2, 1) := by decide +kernel
theorem dX5_spells_5 : decode cX5_spells 5 = .ok (.iload_n 1, 1) := by decide +kernel
theorem dX5_spells_6 : decode cX5_spells 6 = .ok (.isub, 1) := by decide +kernel
theorem dX5_spells_7 : decode cX5_spells 7 = .ok (.if_icmp .eq 5, 3) := by decide +kernel
theorem dX5_spells_10 : decode cX5_spells 10 = .ok (.iconst 0, 1) := by decide +kernel
theorem dX5_spells_11 : decode cX5_spells 11 = .ok (.ireturn, 1) := by decide +kernel
theorem dX5_spells_12 : decode cX5_spells 12 = .ok (.iload_n 1, 1) := by decide +kernel
theorem dX5_spells_13 : decode cX5_spells 13 = .ok (.istore 4, 2) := by decide +kernel
theorem dX5_spells_15 : decode cX5_spells 15 = .ok (.iload 4, 2) := by decide +kernel
theorem dX5_spells_17 : decode cX5_spells 17 = .ok (.iload_n 2, 1) := by decide +kernel
theorem dX5_spells_18 : decode cX5_spells 18 = .ok (.if_icmp .ge 29, 3) := by decide +kernel
theorem dX5_spells_21 : decode cX5_spells 21 = .ok (.aload_n 0, 1) := by decide +kernel
theorem dX5_spells_22 : decode cX5_spells 22 = .ok (.getfield 18, 3) := by decide +kernel
theorem dX5_spells_25 : decode cX5_spells 25 = .ok (.iload 4, 2) := by decide +kernel
theorem dX5_spells_27 : decode cX5_spells 27 = .ok (.baload, 1) := by decide +kernel
theorem dX5_spells_28 : decode cX5_spells 28 = .ok (.aload_n 3, 1) := by decide +kernel
theorem dX5_spells_29 : decode cX5_spells 29 = .ok (.iload 4, 2) := by decide +kernel
theorem dX5_spells_31 : decode cX5_spells 31 = .ok (.iload_n 1, 1) := by decide +kernel
theorem dX5_spells_32 : decode cX5_spells 32 = .ok (.isub, 1) := by decide +kernel
theorem dX5_spells_33 : decode cX5_spells 33 = .ok (.invokevirtual 88, 3) := by decide +kernel
theorem dX5_spells_36 : decode cX5_spells 36 = .ok (.if_icmp .eq 5, 3) := by decide +kernel
theorem dX5_spells_39 : decode cX5_spells 39 = .ok (.iconst 0, 1) := by decide +kernel
theorem dX5_spells_40 : decode cX5_spells 40 = .ok (.ireturn, 1) := by decide +kernel
theorem dX5_spells_41 : decode cX5_spells 41 = .ok (.iinc 4 1, 3) := by decide +kernel
theorem dX5_spells_44 : decode cX5_spells 44 = .ok (.goto (-29), 3) := by decide +kernel
theorem dX5_spells_47 : decode cX5_spells 47 = .ok (.iconst 1, 1) := by decide +kernel
theorem dX5_spells_48 : decode cX5_spells 48 = .ok (.ireturn, 1) := by decide +kernel
theorem dX5_spelled_0 : decode cX5_spelled 0 = .ok (.iload_n 0, 1) := by decide +kernel
theorem dX5_spelled_1 : decode cX5_spelled 1 = .ok (.tableswitch 50 0 4 #[35, 38, 41, 44, 47], 35) := by decide +kernel
theorem dX5_spelled_36 : decode cX5_spelled 36 = .ok (.ldc 92, 2) := by decide +kernel
theorem dX5_spelled_38 : decode cX5_spelled 38 = .ok (.areturn, 1) := by decide +kernel
theorem dX5_spelled_39 : decode cX5_spelled 39 = .ok (.ldc 94, 2) := by decide +kernel
theorem dX5_spelled_41 : decode cX5_spelled 41 = .ok (.areturn, 1) := by decide +kernel
theorem dX5_spelled_42 : decode cX5_spelled 42 = .ok (.ldc 96, 2) := by decide +kernel
theorem dX5_spelled_44 : decode cX5_spelled 44 = .ok (.areturn, 1) := by decide +kernel
theorem dX5_spelled_45 : decode cX5_spelled 45 = .ok (.ldc 98, 2) := by decide +kernel
theorem dX5_spelled_47 : decode cX5_spelled 47 = .ok (.areturn, 1) := by decide +kernel
theorem dX5_spelled_48 : decode cX5_spelled 48 = .ok (.ldc 100, 2) := by decide +kernel
theorem dX5_spelled_50 : decode cX5_spelled 50 = .ok (.areturn, 1) := by decide +kernel
theorem dX5_spelled_51 : decode cX5_spelled 51 = .ok (.ldc 102, 2) := by decide +kernel
theorem dX5_spelled_53 : decode cX5_spelled 53 = .ok (.areturn, 1) := by decide +kernel
theorem dX5_whyNotStatement_0 : decode cX5_whyNotStatement 0 = .ok (.aload_n 0, 1) := by decide +kernel
theorem dX5_whyNotStatement_1 : decode cX5_whyNotStatement 1 = .ok (.getfield 59, 3) := by decide +kernel
theorem dX5_whyNotStatement_4 : decode cX5_whyNotStatement 4 = .ok (.tableswitch 124 0 4 #[36, 50, 64, 78, 98], 36) := by decide +kernel
theorem dX5_whyNotStatement_40 : decode cX5_whyNotStatement 40 = .ok (.aload_n 0, 1) := by decide +kernel
theorem dX5_whyNotStatement_41 : decode cX5_whyNotStatement 41 = .ok (.getfield 12, 3) := by decide +kernel
theorem dX5_whyNotStatement_44 : decode cX5_whyNotStatement 44 = .ok (.aload_n 0, 1) := by decide +kernel
theorem dX5_whyNotStatement_45 : decode cX5_whyNotStatement 45 = .ok (.getfield 22, 3) := by decide +kernel
theorem dX5_whyNotStatement_48 : decode cX5_whyNotStatement 48 = .ok (.iconst 0, 1) := by decide +kernel
theorem dX5_whyNotStatement_49 : decode cX5_whyNotStatement 49 = .ok (.iaload, 1) := by decide +kernel
theorem dX5_whyNotStatement_50 : decode cX5_whyNotStatement 50 = .ok (.invokevirtual 104, 3) := by decide +kernel
theorem dX5_whyNotStatement_53 : decode cX5_whyNotStatement 53 = .ok (.ireturn, 1) := by decide +kernel
theorem dX5_whyNotStatement_54 : decode cX5_whyNotStatement 54 = .ok (.aload_n 0, 1) := by decide +kernel
theorem dX5_whyNotStatement_55 : decode cX5_whyNotStatement 55 = .ok (.getfield 12, 3) := by decide +kernel
theorem dX5_whyNotStatement_58 : decode cX5_whyNotStatement 58 = .ok (.aload_n 0, 1) := by decide +kernel
theorem dX5_whyNotStatement_59 : decode cX5_whyNotStatement 59 = .ok (.getfield 22, 3) := by decide +kernel
theorem dX5_whyNotStatement_62 : decode cX5_whyNotStatement 62 = .ok (.iconst 0, 1) := by decide +kernel
theorem dX5_whyNotStatement_63 : decode cX5_whyNotStatement 63 = .ok (.iaload, 1) := by decide +kernel
theorem dX5_whyNotStatement_64 : decode cX5_whyNotStatement 64 = .ok (.invokevirtual 108, 3) := by decide +kernel
theorem dX5_whyNotStatement_67 : decode cX5_whyNotStatement 67 = .ok (.ireturn, 1) := by decide +kernel
theorem dX5_whyNotStatement_68 : decode cX5_whyNotStatement 68 = .ok (.aload_n 0, 1) := by decide +kernel
theorem dX5_whyNotStatement_69 : decode cX5_whyNotStatement 69 = .ok (.getfield 12, 3) := by decide +kernel
theorem dX5_whyNotStatement_72 : decode cX5_whyNotStatement 72 = .ok (.aload_n 0, 1) := by decide +kernel
theorem dX5_whyNotStatement_73 : decode cX5_whyNotStatement 73 = .ok (.getfield 22, 3) := by decide +kernel
theorem dX5_whyNotStatement_76 : decode cX5_whyNotStatement 76 = .ok (.iconst 0, 1) := by decide +kernel
theorem dX5_whyNotStatement_77 : decode cX5_whyNotStatement 77 = .ok (.iaload, 1) := by decide +kernel
theorem dX5_whyNotStatement_78 : decode cX5_whyNotStatement 78 = .ok (.invokevirtual 111, 3) := by decide +kernel
theorem dX5_whyNotStatement_81 : decode cX5_whyNotStatement 81 = .ok (.ireturn, 1) := by decide +kernel
theorem dX5_whyNotStatement_82 : decode cX5_whyNotStatement 82 = .ok (.aload_n 0, 1) := by decide +kernel
theorem dX5_whyNotStatement_83 : decode cX5_whyNotStatement 83 = .ok (.getfield 12, 3) := by decide +kernel
theorem dX5_whyNotStatement_86 : decode cX5_whyNotStatement 86 = .ok (.aload_n 0, 1) := by decide +kernel
theorem dX5_whyNotStatement_87 : decode cX5_whyNotStatement 87 = .ok (.getfield 22, 3) := by decide +kernel
theorem dX5_whyNotStatement_90 : decode cX5_whyNotStatement 90 = .ok (.iconst 0, 1) := by decide +kernel
theorem dX5_whyNotStatement_91 : decode cX5_whyNotStatement 91 = .ok (.iaload, 1) := by decide +kernel
theorem dX5_whyNotStatement_92 : decode cX5_whyNotStatement 92 = .ok (.aload_n 0, 1) := by decide +kernel
theorem dX5_whyNotStatement_93 : decode cX5_whyNotStatement 93 = .ok (.getfield 22, 3) := by decide +kernel
theorem dX5_whyNotStatement_96 : decode cX5_whyNotStatement 96 = .ok (.iconst 1, 1) := by decide +kernel
theorem dX5_whyNotStatement_97 : decode cX5_whyNotStatement 97 = .ok (.iaload, 1) := by decide +kernel
theorem dX5_whyNotStatement_98 : decode cX5_whyNotStatement 98 = .ok (.invokevirtual 114, 3) := by decide +kernel
theorem dX5_whyNotStatement_101 : decode cX5_whyNotStatement 101 = .ok (.ireturn, 1) := by decide +kernel
theorem dX5_whyNotStatement_102 : decode cX5_whyNotStatement 102 = .ok (.aload_n 0, 1) := by decide +kernel
theorem dX5_whyNotStatement_103 : decode cX5_whyNotStatement 103 = .ok (.getfield 12, 3) := by decide +kernel
theorem dX5_whyNotStatement_106 : decode cX5_whyNotStatement 106 = .ok (.aload_n 0, 1) := by decide +kernel
theorem dX5_whyNotStatement_107 : decode cX5_whyNotStatement 107 = .ok (.getfield 22, 3) := by decide +kernel
theorem dX5_whyNotStatement_110 : decode cX5_whyNotStatement 110 = .ok (.iconst 0, 1) := by decide +kernel
theorem dX5_whyNotStatement_111 : decode cX5_whyNotStatement 111 = .ok (.iaload, 1) := by decide +kernel
theorem dX5_whyNotStatement_112 : decode cX5_whyNotStatement 112 = .ok (.aload_n 0, 1) := by decide +kernel
theorem dX5_whyNotStatement_113 : decode cX5_whyNotStatement 113 = .ok (.getfield 22, 3) := by decide +kernel
theorem dX5_whyNotStatement_116 : decode cX5_whyNotStatement 116 = .ok (.iconst 1, 1) := by decide +kernel
theorem dX5_whyNotStatement_117 : decode cX5_whyNotStatement 117 = .ok (.iaload, 1) := by decide +kernel
theorem dX5_whyNotStatement_118 : decode cX5_whyNotStatement 118 = .ok (.aload_n 0, 1) := by decide +kernel
theorem dX5_whyNotStatement_119 : decode cX5_whyNotStatement 119 = .ok (.getfield 22, 3) := by decide +kernel
theorem dX5_whyNotStatement_122 : decode cX5_whyNotStatement 122 = .ok (.iconst 2, 1) := by decide +kernel
theorem dX5_whyNotStatement_123 : decode cX5_whyNotStatement 123 = .ok (.iaload, 1) := by decide +kernel
theorem dX5_whyNotStatement_124 : decode cX5_whyNotStatement 124 = .ok (.invokevirtual 117, 3) := by decide +kernel
theorem dX5_whyNotStatement_127 : decode cX5_whyNotStatement 127 = .ok (.ireturn, 1) := by decide +kernel
theorem dX5_whyNotStatement_128 : decode cX5_whyNotStatement 128 = .ok (.aload_n 0, 1) := by decide +kernel
theorem dX5_whyNotStatement_129 : decode cX5_whyNotStatement 129 = .ok (.getfield 12, 3) := by decide +kernel
theorem dX5_whyNotStatement_132 : decode cX5_whyNotStatement 132 = .ok (.aload_n 0, 1) := by decide +kernel
theorem dX5_whyNotStatement_133 : decode cX5_whyNotStatement 133 = .ok (.getfield 22, 3) := by decide +kernel
theorem dX5_whyNotStatement_136 : decode cX5_whyNotStatement 136 = .ok (.iconst 0, 1) := by decide +kernel
theorem dX5_whyNotStatement_137 : decode cX5_whyNotStatement 137 = .ok (.iaload, 1) := by decide +kernel
theorem dX5_whyNotStatement_138 : decode cX5_whyNotStatement 138 = .ok (.aload_n 0, 1) := by decide +kernel
theorem dX5_whyNotStatement_139 : decode cX5_whyNotStatement 139 = .ok (.getfield 22, 3) := by decide +kernel
theorem dX5_whyNotStatement_142 : decode cX5_whyNotStatement 142 = .ok (.iconst 1, 1) := by decide +kernel
theorem dX5_whyNotStatement_143 : decode cX5_whyNotStatement 143 = .ok (.iaload, 1) := by decide +kernel
theorem dX5_whyNotStatement_144 : decode cX5_whyNotStatement 144 = .ok (.invokevirtual 121, 3) := by decide +kernel
theorem dX5_whyNotStatement_147 : decode cX5_whyNotStatement 147 = .ok (.ireturn, 1) := by decide +kernel
theorem dX5_takeStatement_0 : decode cX5_takeStatement 0 = .ok (.aload_n 0, 1) := by decide +kernel
theorem dX5_takeStatement_1 : decode cX5_takeStatement 1 = .ok (.getfield 59, 3) := by decide +kernel
theorem dX5_takeStatement_4 : decode cX5_takeStatement 4 = .ok (.tableswitch 154 0 4 #[36, 52, 69, 94, 124], 36) := by decide +kernel
theorem dX5_takeStatement_40 : decode cX5_takeStatement 40 = .ok (.aload_n 0, 1) := by decide +kernel
theorem dX5_takeStatement_41 : decode cX5_takeStatement 41 = .ok (.getfield 12, 3) := by decide +kernel
theorem dX5_takeStatement_44 : decode cX5_takeStatement 44 = .ok (.aload_n 0, 1) := by decide +kernel
theorem dX5_takeStatement_45 : decode cX5_takeStatement 45 = .ok (.getfield 22, 3) := by decide +kernel
theorem dX5_takeStatement_48 : decode cX5_takeStatement 48 = .ok (.iconst 0, 1) := by decide +kernel
theorem dX5_takeStatement_49 : decode cX5_takeStatement 49 = .ok (.iaload, 1) := by decide +kernel
theorem dX5_takeStatement_50 : decode cX5_takeStatement 50 = .ok (.invokevirtual 124, 3) := by decide +kernel
theorem dX5_takeStatement_53 : decode cX5_takeStatement 53 = .ok (.goto 125, 3) := by decide +kernel
theorem dX5_takeStatement_56 : decode cX5_takeStatement 56 = .ok (.aload_n 0, 1) := by decide +kernel
theorem dX5_takeStatement_57 : decode cX5_takeStatement 57 = .ok (.getfield 12, 3) := by decide +kernel
theorem dX5_takeStatement_60 : decode cX5_takeStatement 60 = .ok (.aload_n 0, 1) := by decide +kernel
theorem dX5_takeStatement_61 : decode cX5_takeStatement 61 = .ok (.getfield 22, 3) := by decide +kernel
theorem dX5_takeStatement_64 : decode cX5_takeStatement 64 = .ok (.iconst 0, 1) := by decide +kernel
theorem dX5_takeStatement_65 : decode cX5_takeStatement 65 = .ok (.iaload, 1) := by decide +kernel
theorem dX5_takeStatement_66 : decode cX5_takeStatement 66 = .ok (.invokevirtual 128, 3) := by decide +kernel
theorem dX5_takeStatement_69 : decode cX5_takeStatement 69 = .ok (.pop, 1) := by decide +kernel
theorem dX5_takeStatement_70 : decode cX5_takeStatement 70 = .ok (.goto 108, 3) := by decide +kernel
theorem dX5_takeStatement_73 : decode cX5_takeStatement 73 = .ok (.aload_n 0, 1) := by decide +kernel
theorem dX5_takeStatement_74 : decode cX5_takeStatement 74 = .ok (.getfield 12, 3) := by decide +kernel
theorem dX5_takeStatement_77 : decode cX5_takeStatement 77 = .ok (.aload_n 0, 1) := by decide +kernel
theorem dX5_takeStatement_78 : decode cX5_takeStatement 78 = .ok (.getfield 12, 3) := by decide +kernel
theorem dX5_takeStatement_81 : decode cX5_takeStatement 81 = .ok (.aload_n 0, 1) := by decide +kernel
theorem dX5_takeStatement_82 : decode cX5_takeStatement 82 = .ok (.getfield 22, 3) := by decide +kernel
theorem dX5_takeStatement_85 : decode cX5_takeStatement 85 = .ok (.iconst 0, 1) := by decide +kernel
theorem dX5_takeStatement_86 : decode cX5_takeStatement 86 = .ok (.iaload, 1) := by decide +kernel
theorem dX5_takeStatement_87 : decode cX5_takeStatement 87 = .ok (.invokevirtual 131, 3) := by decide +kernel
theorem dX5_takeStatement_90 : decode cX5_takeStatement 90 = .ok (.iconst 1, 1) := by decide +kernel
theorem dX5_takeStatement_91 : decode cX5_takeStatement 91 = .ok (.invokevirtual 134, 3) := by decide +kernel
theorem dX5_takeStatement_94 : decode cX5_takeStatement 94 = .ok (.pop, 1) := by decide +kernel
theorem dX5_takeStatement_95 : decode cX5_takeStatement 95 = .ok (.goto 83, 3) := by decide +kernel
theorem dX5_takeStatement_98 : decode cX5_takeStatement 98 = .ok (.aload_n 0, 1) := by decide +kernel
theorem dX5_takeStatement_99 : decode cX5_takeStatement 99 = .ok (.getfield 12, 3) := by decide +kernel
theorem dX5_takeStatement_102 : decode cX5_takeStatement 102 = .ok (.aload_n 0, 1) := by decide +kernel
theorem dX5_takeStatement_103 : decode cX5_takeStatement 103 = .ok (.getfield 22, 3) := by decide +kernel
theorem dX5_takeStatement_106 : decode cX5_takeStatement 106 = .ok (.iconst 0, 1) := by decide +kernel
theorem dX5_takeStatement_107 : decode cX5_takeStatement 107 = .ok (.iaload, 1) := by decide +kernel
theorem dX5_takeStatement_108 : decode cX5_takeStatement 108 = .ok (.aload_n 0, 1) := by decide +kernel
theorem dX5_takeStatement_109 : decode cX5_takeStatement 109 = .ok (.getfield 22, 3) := by decide +kernel
theorem dX5_takeStatement_112 : decode cX5_takeStatement 112 = .ok (.iconst 0, 1) := by decide +kernel
theorem dX5_takeStatement_113 : decode cX5_takeStatement 113 = .ok (.iaload, 1) := by decide +kernel
theorem dX5_takeStatement_114 : decode cX5_takeStatement 114 = .ok (.aload_n 0, 1) := by decide +kernel
theorem dX5_takeStatement_115 : decode cX5_takeStatement 115 = .ok (.getfield 22, 3) := by decide +kernel
theorem dX5_takeStatement_118 : decode cX5_takeStatement 118 = .ok (.iconst 1, 1) := by decide +kernel
theorem dX5_takeStatement_119 : decode cX5_takeStatement 119 = .ok (.iaload, 1) := by decide +kernel
theorem dX5_takeStatement_120 : decode cX5_takeStatement 120 = .ok (.iconst 1, 1) := by decide +kernel
theorem dX5_takeStatement_121 : decode cX5_takeStatement 121 = .ok (.invokevirtual 137, 3) := by decide +kernel
theorem dX5_takeStatement_124 : decode cX5_takeStatement 124 = .ok (.pop, 1) := by decide +kernel
theorem dX5_takeStatement_125 : decode cX5_takeStatement 125 = .ok (.goto 53, 3) := by decide +kernel
theorem dX5_takeStatement_128 : decode cX5_takeStatement 128 = .ok (.aload_n 0, 1) := by decide +kernel
theorem dX5_takeStatement_129 : decode cX5_takeStatement 129 = .ok (.getfield 12, 3) := by decide +kernel
theorem dX5_takeStatement_132 : decode cX5_takeStatement 132 = .ok (.aload_n 0, 1) := by decide +kernel
theorem dX5_takeStatement_133 : decode cX5_takeStatement 133 = .ok (.getfield 22, 3) := by decide +kernel
theorem dX5_takeStatement_136 : decode cX5_takeStatement 136 = .ok (.iconst 0, 1) := by decide +kernel
theorem dX5_takeStatement_137 : decode cX5_takeStatement 137 = .ok (.iaload, 1) := by decide +kernel
theorem dX5_takeStatement_138 : decode cX5_takeStatement 138 = .ok (.aload_n 0, 1) := by decide +kernel
