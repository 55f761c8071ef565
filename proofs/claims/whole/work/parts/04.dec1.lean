theorem dX6_append_35 : decode cX6_append 35 = .ok (.ldc 57, 2) := by decide +kernel
theorem dX6_append_37 : decode cX6_append 37 = .ok (.invokespecial 59, 3) := by decide +kernel
theorem dX6_append_40 : decode cX6_append 40 = .ok (.athrow, 1) := by decide +kernel
theorem dX6_append_41 : decode cX6_append 41 = .ok (.aload_n 0, 1) := by decide +kernel
theorem dX6_append_42 : decode cX6_append 42 = .ok (.getfield 12, 3) := by decide +kernel
theorem dX6_append_45 : decode cX6_append 45 = .ok (.iload_n 1, 1) := by decide +kernel
theorem dX6_append_46 : decode cX6_append 46 = .ok (.i2c, 1) := by decide +kernel
theorem dX6_append_47 : decode cX6_append 47 = .ok (.invokevirtual 60, 3) := by decide +kernel
theorem dX6_append_50 : decode cX6_append 50 = .ok (.ireturn, 1) := by decide +kernel
theorem dX6_clearText_0 : decode cX6_clearText 0 = .ok (.aload_n 0, 1) := by decide +kernel
theorem dX6_clearText_1 : decode cX6_clearText 1 = .ok (.getfield 12, 3) := by decide +kernel
theorem dX6_clearText_4 : decode cX6_clearText 4 = .ok (.invokevirtual 64, 3) := by decide +kernel
theorem dX6_clearText_7 : decode cX6_clearText 7 = .ok (.ireturn, 1) := by decide +kernel
theorem dX6_errorPosition_0 : decode cX6_errorPosition 0 = .ok (.aload_n 0, 1) := by decide +kernel
theorem dX6_errorPosition_1 : decode cX6_errorPosition 1 = .ok (.getfield 12, 3) := by decide +kernel
theorem dX6_errorPosition_4 : decode cX6_errorPosition 4 = .ok (.aload_n 0, 1) := by decide +kernel
theorem dX6_errorPosition_5 : decode cX6_errorPosition 5 = .ok (.getfield 38, 3) := by decide +kernel
theorem dX6_errorPosition_8 : decode cX6_errorPosition 8 = .ok (.invokevirtual 68, 3) := by decide +kernel
theorem dX6_errorPosition_11 : decode cX6_errorPosition 11 = .ok (.ireturn, 1) := by decide +kernel
theorem dX6_load_0 : decode cX6_load 0 = .ok (.aload_n 0, 1) := by decide +kernel
theorem dX6_load_1 : decode cX6_load 1 = .ok (.getfield 12, 3) := by decide +kernel
theorem dX6_load_4 : decode cX6_load 4 = .ok (.aload_n 0, 1) := by decide +kernel
theorem dX6_load_5 : decode cX6_load 5 = .ok (.getfield 38, 3) := by decide +kernel
theorem dX6_load_8 : decode cX6_load 8 = .ok (.invokevirtual 68, 3) := by decide +kernel
theorem dX6_load_11 : decode cX6_load 11 = .ok (.bipush (-9), 2) := by decide +kernel
theorem dX6_load_13 : decode cX6_load 13 = .ok (.if_icmp .eq 13, 3) := by decide +kernel
theorem dX6_load_16 : decode cX6_load 16 = .ok (.new 55, 3) := by decide +kernel
theorem dX6_load_19 : decode cX6_load 19 = .ok (.dup, 1) := by decide +kernel
theorem dX6_load_20 : decode cX6_load 20 = .ok (.ldc 72, 2) := by decide +kernel
theorem dX6_load_22 : decode cX6_load 22 = .ok (.invokespecial 59, 3) := by decide +kernel
theorem dX6_load_25 : decode cX6_load 25 = .ok (.athrow, 1) := by decide +kernel
theorem dX6_load_26 : decode cX6_load 26 = .ok (.aload_n 0, 1) := by decide +kernel
theorem dX6_load_27 : decode cX6_load 27 = .ok (.getfield 19, 3) := by decide +kernel
theorem dX6_load_30 : decode cX6_load 30 = .ok (.aload_n 0, 1) := by decide +kernel
theorem dX6_load_31 : decode cX6_load 31 = .ok (.getfield 38, 3) := by decide +kernel
theorem dX6_load_34 : decode cX6_load 34 = .ok (.invokevirtual 74, 3) := by decide +kernel
theorem dX6_load_37 : decode cX6_load 37 = .ok (.aload_n 0, 1) := by decide +kernel
theorem dX6_load_38 : decode cX6_load 38 = .ok (.getfield 26, 3) := by decide +kernel
theorem dX6_load_41 : decode cX6_load 41 = .ok (.invokevirtual 78, 3) := by decide +kernel
theorem dX6_load_44 : decode cX6_load 44 = .ok (.iconst 0, 1) := by decide +kernel
theorem dX6_load_45 : decode cX6_load 45 = .ok (.istore_n 1, 1) := by decide +kernel
theorem dX6_load_46 : decode cX6_load 46 = .ok (.iload_n 1, 1) := by decide +kernel
theorem dX6_load_47 : decode cX6_load 47 = .ok (.iconst 2, 1) := by decide +kernel
theorem dX6_load_48 : decode cX6_load 48 = .ok (.if_icmp .ge 16, 3) := by decide +kernel
theorem dX6_load_51 : decode cX6_load 51 = .ok (.aload_n 0, 1) := by decide +kernel
theorem dX6_load_52 : decode cX6_load 52 = .ok (.getfield 34, 3) := by decide +kernel
theorem dX6_load_55 : decode cX6_load 55 = .ok (.iload_n 1, 1) := by decide +kernel
theorem dX6_load_56 : decode cX6_load 56 = .ok (.iconst 0, 1) := by decide +kernel
theorem dX6_load_57 : decode cX6_load 57 = .ok (.bastore, 1) := by decide +kernel
theorem dX6_load_58 : decode cX6_load 58 = .ok (.iinc 1 1, 3) := by decide +kernel
theorem dX6_load_61 : decode cX6_load 61 = .ok (.goto (-15), 3) := by decide +kernel
theorem dX6_load_64 : decode cX6_load 64 = .ok (.aload_n 0, 1) := by decide +kernel
theorem dX6_load_65 : decode cX6_load 65 = .ok (.getfield 19, 3) := by decide +kernel
theorem dX6_load_68 : decode cX6_load 68 = .ok (.invokevirtual 80, 3) := by decide +kernel
theorem dX6_load_71 : decode cX6_load 71 = .ok (.ireturn, 1) := by decide +kernel
theorem dX6_about_0 : decode cX6_about 0 = .ok (.iload_n 1, 1) := by decide +kernel
theorem dX6_about_1 : decode cX6_about 1 = .ok (.tableswitch 135 0 9 #[55, 63, 71, 79, 87, 95, 103, 111, 119, 127], 55) := by decide +kernel
theorem dX6_about_56 : decode cX6_about 56 = .ok (.aload_n 0, 1) := by decide +kernel
theorem dX6_about_57 : decode cX6_about 57 = .ok (.getfield 19, 3) := by decide +kernel
theorem dX6_about_60 : decode cX6_about 60 = .ok (.getfield 83, 3) := by decide +kernel
theorem dX6_about_63 : decode cX6_about 63 = .ok (.ireturn, 1) := by decide +kernel
theorem dX6_about_64 : decode cX6_about 64 = .ok (.aload_n 0, 1) := by decide +kernel
theorem dX6_about_65 : decode cX6_about 65 = .ok (.getfield 19, 3) := by decide +kernel
theorem dX6_about_68 : decode cX6_about 68 = .ok (.getfield 87, 3) := by decide +kernel
theorem dX6_about_71 : decode cX6_about 71 = .ok (.ireturn, 1) := by decide +kernel
theorem dX6_about_72 : decode cX6_about 72 = .ok (.aload_n 0, 1) := by decide +kernel
theorem dX6_about_73 : decode cX6_about 73 = .ok (.getfield 19, 3) := by decide +kernel
theorem dX6_about_76 : decode cX6_about 76 = .ok (.getfield 90, 3) := by decide +kernel
theorem dX6_about_79 : decode cX6_about 79 = .ok (.ireturn, 1) := by decide +kernel
theorem dX6_about_80 : decode cX6_about 80 = .ok (.aload_n 0, 1) := by decide +kernel
theorem dX6_about_81 : decode cX6_about 81 = .ok (.getfield 19, 3) := by decide +kernel
theorem dX6_about_84 : decode cX6_about 84 = .ok (.getfield 93, 3) := by decide +kernel
theorem dX6_about_87 : decode cX6_about 87 = .ok (.ireturn, 1) := by decide +kernel
theorem dX6_about_88 : decode cX6_about 88 = .ok (.aload_n 0, 1) := by decide +kernel
theorem dX6_about_89 : decode cX6_about 89 = .ok (.getfield 19, 3) := by decide +kernel
theorem dX6_about_92 : decode cX6_about 92 = .ok (.getfield 96, 3) := by decide +kernel
theorem dX6_about_95 : decode cX6_about 95 = .ok (.ireturn, 1) := by decide +kernel
theorem dX6_about_96 : decode cX6_about 96 = .ok (.aload_n 0, 1) := by decide +kernel
theorem dX6_about_97 : decode cX6_about 97 = .ok (.getfield 19, 3) := by decide +kernel
theorem dX6_about_100 : decode cX6_about 100 = .ok (.invokevirtual 99, 3) := by decide +kernel
theorem dX6_about_103 : decode cX6_about 103 = .ok (.ireturn, 1) := by decide +kernel
theorem dX6_about_104 : decode cX6_about 104 = .ok (.aload_n 0, 1) := by decide +kernel
theorem dX6_about_105 : decode cX6_about 105 = .ok (.getfield 19, 3) := by decide +kernel
theorem dX6_about_108 : decode cX6_about 108 = .ok (.invokevirtual 80, 3) := by decide +kernel
theorem dX6_about_111 : decode cX6_about 111 = .ok (.ireturn, 1) := by decide +kernel
theorem dX6_about_112 : decode cX6_about 112 = .ok (.aload_n 0, 1) := by decide +kernel
theorem dX6_about_113 : decode cX6_about 113 = .ok (.getfield 19, 3) := by decide +kernel
theorem dX6_about_116 : decode cX6_about 116 = .ok (.invokevirtual 102, 3) := by decide +kernel
theorem dX6_about_119 : decode cX6_about 119 = .ok (.ireturn, 1) := by decide +kernel
theorem dX6_about_120 : decode cX6_about 120 = .ok (.aload_n 0, 1) := by decide +kernel
theorem dX6_about_121 : decode cX6_about 121 = .ok (.getfield 19, 3) := by decide +kernel
theorem dX6_about_124 : decode cX6_about 124 = .ok (.getfield 105, 3) := by decide +kernel
theorem dX6_about_127 : decode cX6_about 127 = .ok (.ireturn, 1) := by decide +kernel
theorem dX6_about_128 : decode cX6_about 128 = .ok (.aload_n 0, 1) := by decide +kernel
theorem dX6_about_129 : decode cX6_about 129 = .ok (.getfield 19, 3) := by decide +kernel
theorem dX6_about_132 : decode cX6_about 132 = .ok (.invokevirtual 108, 3) := by decide +kernel
theorem dX6_about_135 : decode cX6_about 135 = .ok (.ireturn, 1) := by decide +kernel
theorem dX6_about_136 : decode cX6_about 136 = .ok (.new 44, 3) := by decide +kernel
theorem dX6_about_139 : decode cX6_about 139 = .ok (.dup, 1) := by decide +kernel
theorem dX6_about_140 : decode cX6_about 140 = .ok (.ldc 111, 2) := by decide +kernel
theorem dX6_about_142 : decode cX6_about 142 = .ok (.invokespecial 48, 3) := by decide +kernel
theorem dX6_about_145 : decode cX6_about 145 = .ok (.athrow, 1) := by decide +kernel
theorem dX6_master_0 : decode cX6_master 0 = .ok (.aload_n 0, 1) := by decide +kernel
theorem dX6_master_1 : decode cX6_master 1 = .ok (.iload_n 1, 1) := by decide +kernel
theorem dX6_master_2 : decode cX6_master 2 = .ok (.invokevirtual 113, 3) := by decide +kernel
theorem dX6_master_5 : decode cX6_master 5 = .ok (.aload_n 0, 1) := by decide +kernel
theorem dX6_master_6 : decode cX6_master 6 = .ok (.getfield 19, 3) := by decide +kernel
theorem dX6_master_9 : decode cX6_master 9 = .ok (.getfield 117, 3) := by decide +kernel
theorem dX6_master_12 : decode cX6_master 12 = .ok (.iload_n 1, 1) := by decide +kernel
theorem dX6_master_13 : decode cX6_master 13 = .ok (.aaload, 1) := by decide +kernel
theorem dX6_master_14 : decode cX6_master 14 = .ok (.astore_n 3, 1) := by decide +kernel
theorem dX6_master_15 : decode cX6_master 15 = .ok (.iload_n 2, 1) := by decide +kernel
theorem dX6_master_16 : decode cX6_master 16 = .ok (.tableswitch 129 0 10 #[60, 69, 74, 83, 91, 99, 104, 109, 114, 119, 124], 60) := by decide +kernel
theorem dX6_master_76 : decode cX6_master 76 = .ok (.aload_n 0, 1) := by decide +kernel
theorem dX6_master_77 : decode cX6_master 77 = .ok (.getfield 19, 3) := by decide +kernel
theorem dX6_master_80 : decode cX6_master 80 = .ok (.iload_n 1, 1) := by decide +kernel
theorem dX6_master_81 : decode cX6_master 81 = .ok (.invokevirtual 121, 3) := by decide +kernel
theorem dX6_master_84 : decode cX6_master 84 = .ok (.ireturn, 1) := by decide +kernel
theorem dX6_master_85 : decode cX6_master 85 = .ok (.aload_n 3, 1) := by decide +kernel
theorem dX6_master_86 : decode cX6_master 86 = .ok (.invokevirtual 125, 3) := by decide +kernel
theorem dX6_master_89 : decode cX6_master 89 = .ok (.ireturn, 1) := by decide +kernel
theorem dX6_master_90 : decode cX6_master 90 = .ok (.aload_n 0, 1) := by decide +kernel
theorem dX6_master_91 : decode cX6_master 91 = .ok (.getfield 19, 3) := by decide +kernel
theorem dX6_master_94 : decode cX6_master 94 = .ok (.iload_n 1, 1) := by decide +kernel
theorem dX6_master_95 : decode cX6_master 95 = .ok (.invokevirtual 130, 3) := by decide +kernel
theorem dX6_master_98 : decode cX6_master 98 = .ok (.ireturn, 1) := by decide +kernel
theorem dX6_master_99 : decode cX6_master 99 = .ok (.aload_n 3, 1) := by decide +kernel
theorem dX6_master_100 : decode cX6_master 100 = .ok (.getfield 133, 3) := by decide +kernel
theorem dX6_master_103 : decode cX6_master 103 = .ok (.getfield 137, 3) := by decide +kernel
theorem dX6_master_106 : decode cX6_master 106 = .ok (.ireturn, 1) := by decide +kernel
theorem dX6_master_107 : decode cX6_master 107 = .ok (.aload_n 3, 1) := by decide +kernel
theorem dX6_master_108 : decode cX6_master 108 = .ok (.getfield 133, 3) := by decide +kernel
theorem dX6_master_111 : decode cX6_master 111 = .ok (.invokevirtual 142, 3) := by decide +kernel
theorem dX6_master_114 : decode cX6_master 114 = .ok (.ireturn, 1) := by decide +kernel
theorem dX6_master_115 : decode cX6_master 115 = .ok (.aload_n 3, 1) := by decide +kernel
theorem dX6_master_116 : decode cX6_master 116 = .ok (.getfield 145, 3) := by decide +kernel
theorem dX6_master_119 : decode cX6_master 119 = .ok (.ireturn, 1) := by decide +kernel
theorem dX6_master_120 : decode cX6_master 120 = .ok (.aload_n 3, 1) := by decide +kernel
theorem dX6_master_121 : decode cX6_master 121 = .ok (.getfield 148, 3) := by decide +kernel
theorem dX6_master_124 : decode cX6_master 124 = .ok (.ireturn, 1) := by decide +kernel
theorem dX6_master_125 : decode cX6_master 125 = .ok (.aload_n 3, 1) := by decide +kernel
theorem dX6_master_126 : decode cX6_master 126 = .ok (.getfield 151, 3) := by decide +kernel
theorem dX6_master_129 : decode cX6_master 129 = .ok (.ireturn, 1) := by decide +kernel
theorem dX6_master_130 : decode cX6_master 130 = .ok (.aload_n 3, 1) := by decide +kernel
theorem dX6_master_131 : decode cX6_master 131 = .ok (.getfield 154, 3) := by decide +kernel
theorem dX6_master_134 : decode cX6_master 134 = .ok (.ireturn, 1) := by decide +kernel
theorem dX6_master_135 : decode cX6_master 135 = .ok (.aload_n 3, 1) := by decide +kernel
theorem dX6_master_136 : decode cX6_master 136 = .ok (.getfield 157, 3) := by decide +kernel
theorem dX6_master_139 : decode cX6_master 139 = .ok (.ireturn, 1) := by decide +kernel
theorem dX6_master_140 : decode cX6_master 140 = .ok (.aload_n 3, 1) := by decide +kernel
theorem dX6_master_141 : decode cX6_master 141 = .ok (.getfield 160, 3) := by decide +kernel
theorem dX6_master_144 : decode cX6_master 144 = .ok (.ireturn, 1) := by decide +kernel
theorem dX6_master_145 : decode cX6_master 145 = .ok (.new 44, 3) := by decide +kernel
theorem dX6_master_148 : decode cX6_master 148 = .ok (.dup, 1) := by decide +kernel
theorem dX6_master_149 : decode cX6_master 149 = .ok (.ldc 163, 2) := by decide +kernel
theorem dX6_master_151 : decode cX6_master 151 = .ok (.invokespecial 48, 3) := by decide +kernel
theorem dX6_master_154 : decode cX6_master 154 = .ok (.athrow, 1) := by decide +kernel
theorem dX6_owner_0 : decode cX6_owner 0 = .ok (.aload_n 0, 1) := by decide +kernel
theorem dX6_owner_1 : decode cX6_owner 1 = .ok (.iload_n 1, 1) := by decide +kernel
theorem dX6_owner_2 : decode cX6_owner 2 = .ok (.invokevirtual 165, 3) := by decide +kernel
theorem dX6_owner_5 : decode cX6_owner 5 = .ok (.aload_n 0, 1) := by decide +kernel
theorem dX6_owner_6 : decode cX6_owner 6 = .ok (.getfield 19, 3) := by decide +kernel
theorem dX6_owner_9 : decode cX6_owner 9 = .ok (.getfield 168, 3) := by decide +kernel
theorem dX6_owner_12 : decode cX6_owner 12 = .ok (.iload_n 1, 1) := by decide +kernel
theorem dX6_owner_13 : decode cX6_owner 13 = .ok (.iaload, 1) := by decide +kernel
theorem dX6_owner_14 : decode cX6_owner 14 = .ok (.ireturn, 1) := by decide +kernel
theorem dX6_owes_0 : decode cX6_owes 0 = .ok (.aload_n 0, 1) := by decide +kernel
theorem dX6_owes_1 : decode cX6_owes 1 = .ok (.iload_n 1, 1) := by decide +kernel
theorem dX6_owes_2 : decode cX6_owes 2 = .ok (.invokevirtual 113, 3) := by decide +kernel
theorem dX6_owes_5 : decode cX6_owes 5 = .ok (.aload_n 0, 1) := by decide +kernel
theorem dX6_owes_6 : decode cX6_owes 6 = .ok (.iload_n 2, 1) := by decide +kernel
theorem dX6_owes_7 : decode cX6_owes 7 = .ok (.invokevirtual 113, 3) := by decide +kernel
theorem dX6_owes_10 : decode cX6_owes 10 = .ok (.aload_n 0, 1) := by decide +kernel
theorem dX6_owes_11 : decode cX6_owes 11 = .ok (.getfield 19, 3) := by decide +kernel
theorem dX6_owes_14 : decode cX6_owes 14 = .ok (.getfield 117, 3) := by decide +kernel
theorem dX6_owes_17 : decode cX6_owes 17 = .ok (.iload_n 1, 1) := by decide +kernel
theorem dX6_owes_18 : decode cX6_owes 18 = .ok (.aaload, 1) := by decide +kernel
theorem dX6_owes_19 : decode cX6_owes 19 = .ok (.getfield 172, 3) := by decide +kernel
theorem dX6_owes_22 : decode cX6_owes 22 = .ok (.iload_n 2, 1) := by decide +kernel
theorem dX6_owes_23 : decode cX6_owes 23 = .ok (.iaload, 1) := by decide +kernel
theorem dX6_owes_24 : decode cX6_owes 24 = .ok (.ireturn, 1) := by decide +kernel
theorem dX6_burst_0 : decode cX6_burst 0 = .ok (.aload_n 0, 1) := by decide +kernel
theorem dX6_burst_1 : decode cX6_burst 1 = .ok (.iload_n 1, 1) := by decide +kernel
theorem dX6_burst_2 : decode cX6_burst 2 = .ok (.invokevirtual 113, 3) := by decide +kernel
theorem dX6_burst_5 : decode cX6_burst 5 = .ok (.iload_n 2, 1) := by decide +kernel
theorem dX6_burst_6 : decode cX6_burst 6 = .ok (.ifCond .lt 12, 3) := by decide +kernel
theorem dX6_burst_9 : decode cX6_burst 9 = .ok (.iload_n 3, 1) := by decide +kernel
theorem dX6_burst_10 : decode cX6_burst 10 = .ok (.ifCond .lt 8, 3) := by decide +kernel
theorem dX6_burst_13 : decode cX6_burst 13 = .ok (.iload_n 3, 1) := by decide +kernel
theorem dX6_burst_14 : decode cX6_burst 14 = .ok (.iconst 2, 1) := by decide +kernel
theorem dX6_burst_15 : decode cX6_burst 15 = .ok (.if_icmp .le 13, 3) := by decide +kernel
theorem dX6_burst_18 : decode cX6_burst 18 = .ok (.new 44, 3) := by decide +kernel
theorem dX6_burst_21 : decode cX6_burst 21 = .ok (.dup, 1) := by decide +kernel
theorem dX6_burst_22 : decode cX6_burst 22 = .ok (.ldc 175, 2) := by decide +kernel
theorem dX6_burst_24 : decode cX6_burst 24 = .ok (.invokespecial 48, 3) := by decide +kernel
theorem dX6_burst_27 : decode cX6_burst 27 = .ok (.athrow, 1) := by decide +kernel
theorem dX6_burst_28 : decode cX6_burst 28 = .ok (.aload_n 0, 1) := by decide +kernel
theorem dX6_burst_29 : decode cX6_burst 29 = .ok (.getfield 19, 3) := by decide +kernel
theorem dX6_burst_32 : decode cX6_burst 32 = .ok (.getfield 117, 3) := by decide +kernel
theorem dX6_burst_35 : decode cX6_burst 35 = .ok (.iload_n 1, 1) := by decide +kernel
theorem dX6_burst_36 : decode cX6_burst 36 = .ok (.aaload, 1) := by decide +kernel
theorem dX6_burst_37 : decode cX6_burst 37 = .ok (.getfield 133, 3) := by decide +kernel
theorem dX6_burst_40 : decode cX6_burst 40 = .ok (.astore 4, 2) := by decide +kernel
theorem dX6_burst_42 : decode cX6_burst 42 = .ok (.iload_n 2, 1) := by decide +kernel
theorem dX6_burst_43 : decode cX6_burst 43 = .ok (.aload 4, 2) := by decide +kernel
theorem dX6_burst_45 : decode cX6_burst 45 = .ok (.getfield 137, 3) := by decide +kernel
theorem dX6_burst_48 : decode cX6_burst 48 = .ok (.if_icmp .ge 9, 3) := by decide +kernel
theorem dX6_burst_51 : decode cX6_burst 51 = .ok (.iload_n 2, 1) := by decide +kernel
theorem dX6_burst_52 : decode cX6_burst 52 = .ok (.bipush 6, 2) := by decide +kernel
theorem dX6_burst_54 : decode cX6_burst 54 = .ok (.if_icmp .lt 6, 3) := by decide +kernel
theorem dX6_burst_57 : decode cX6_burst 57 = .ok (.bipush (-9), 2) := by decide +kernel
theorem dX6_burst_59 : decode cX6_burst 59 = .ok (.ireturn, 1) := by decide +kernel
theorem dX6_burst_60 : decode cX6_burst 60 = .ok (.iload_n 3, 1) := by decide +kernel
theorem dX6_burst_61 : decode cX6_burst 61 = .ok (.ifCond .ne 11, 3) := by decide +kernel
theorem dX6_burst_64 : decode cX6_burst 64 = .ok (.aload 4, 2) := by decide +kernel
theorem dX6_burst_66 : decode cX6_burst 66 = .ok (.getfield 177, 3) := by decide +kernel
theorem dX6_burst_69 : decode cX6_burst 69 = .ok (.iload_n 2, 1) := by decide +kernel
theorem dX6_burst_70 : decode cX6_burst 70 = .ok (.iaload, 1) := by decide +kernel
theorem dX6_burst_71 : decode cX6_burst 71 = .ok (.ireturn, 1) := by decide +kernel
theorem dX6_burst_72 : decode cX6_burst 72 = .ok (.iload_n 3, 1) := by decide +kernel
theorem dX6_burst_73 : decode cX6_burst 73 = .ok (.iconst 1, 1) := by decide +kernel
theorem dX6_burst_74 : decode cX6_burst 74 = .ok (.if_icmp .ne 11, 3) := by decide +kernel
theorem dX6_burst_77 : decode cX6_burst 77 = .ok (.aload 4, 2) := by decide +kernel
theorem dX6_burst_79 : decode cX6_burst 79 = .ok (.getfield 180, 3) := by decide +kernel
theorem dX6_burst_82 : decode cX6_burst 82 = .ok (.iload_n 2, 1) := by decide +kernel
theorem dX6_burst_83 : decode cX6_burst 83 = .ok (.iaload, 1) := by decide +kernel
theorem dX6_burst_84 : decode cX6_burst 84 = .ok (.ireturn, 1) := by decide +kernel
theorem dX6_burst_85 : decode cX6_burst 85 = .ok (.aload 4, 2) := by decide +kernel
theorem dX6_burst_87 : decode cX6_burst 87 = .ok (.getfield 183, 3) := by decide +kernel
theorem dX6_burst_90 : decode cX6_burst 90 = .ok (.iload_n 2, 1) := by decide +kernel
theorem dX6_burst_91 : decode cX6_burst 91 = .ok (.baload, 1) := by decide +kernel
theorem dX6_burst_92 : decode cX6_burst 92 = .ok (.ifCond .eq 7, 3) := by decide +kernel
theorem dX6_burst_95 : decode cX6_burst 95 = .ok (.iconst 1, 1) := by decide +kernel
theorem dX6_burst_96 : decode cX6_burst 96 = .ok (.goto 4, 3) := by decide +kernel
theorem dX6_burst_99 : decode cX6_burst 99 = .ok (.iconst 0, 1) := by decide +kernel
theorem dX6_burst_100 : decode cX6_burst 100 = .ok (.ireturn, 1) := by decide +kernel
theorem dX6_order_0 : decode cX6_order 0 = .ok (.iload_n 1, 1) := by decide +kernel
theorem dX6_order_1 : decode cX6_order 1 = .ok (.ifCond .ge 13, 3) := by decide +kernel
theorem dX6_order_4 : decode cX6_order 4 = .ok (.new 44, 3) := by decide +kernel
theorem dX6_order_7 : decode cX6_order 7 = .ok (.dup, 1) := by decide +kernel
theorem dX6_order_8 : decode cX6_order 8 = .ok (.ldc 186, 2) := by decide +kernel
theorem dX6_order_10 : decode cX6_order 10 = .ok (.invokespecial 48, 3) := by decide +kernel
theorem dX6_order_13 : decode cX6_order 13 = .ok (.athrow, 1) := by decide +kernel
theorem dX6_order_14 : decode cX6_order 14 = .ok (.iconst 0, 1) := by decide +kernel
theorem dX6_order_15 : decode cX6_order 15 = .ok (.istore_n 2, 1) := by decide +kernel
theorem dX6_order_16 : decode cX6_order 16 = .ok (.iload_n 2, 1) := by decide +kernel
theorem dX6_order_17 : decode cX6_order 17 = .ok (.aload_n 0, 1) := by decide +kernel
theorem dX6_order_18 : decode cX6_order 18 = .ok (.getfield 19, 3) := by decide +kernel
theorem dX6_order_21 : decode cX6_order 21 = .ok (.getfield 83, 3) := by decide +kernel
theorem dX6_order_24 : decode cX6_order 24 = .ok (.if_icmp .ge 23, 3) := by decide +kernel
theorem dX6_order_27 : decode cX6_order 27 = .ok (.aload_n 0, 1) := by decide +kernel
theorem dX6_order_28 : decode cX6_order 28 = .ok (.getfield 19, 3) := by decide +kernel
theorem dX6_order_31 : decode cX6_order 31 = .ok (.iload_n 2, 1) := by decide +kernel
theorem dX6_order_32 : decode cX6_order 32 = .ok (.invokevirtual 188, 3) := by decide +kernel
theorem dX6_order_35 : decode cX6_order 35 = .ok (.iload_n 1, 1) := by decide +kernel
theorem dX6_order_36 : decode cX6_order 36 = .ok (.if_icmp .ne 5, 3) := by decide +kernel
theorem dX6_order_39 : decode cX6_order 39 = .ok (.iload_n 2, 1) := by decide +kernel
theorem dX6_order_40 : decode cX6_order 40 = .ok (.ireturn, 1) := by decide +kernel
theorem dX6_order_41 : decode cX6_order 41 = .ok (.iinc 2 1, 3) := by decide +kernel
theorem dX6_order_44 : decode cX6_order 44 = .ok (.goto (-28), 3) := by decide +kernel
theorem dX6_order_47 : decode cX6_order 47 = .ok (.bipush (-9), 2) := by decide +kernel
theorem dX6_order_49 : decode cX6_order 49 = .ok (.ireturn, 1) := by decide +kernel
theorem dX6_addMaster_0 : decode cX6_addMaster 0 = .ok (.aload_n 0, 1) := by decide +kernel
theorem dX6_addMaster_1 : decode cX6_addMaster 1 = .ok (.getfield 19, 3) := by decide +kernel
theorem dX6_addMaster_4 : decode cX6_addMaster 4 = .ok (.getfield 83, 3) := by decide +kernel
theorem dX6_addMaster_7 : decode cX6_addMaster 7 = .ok (.bipush 6, 2) := by decide +kernel
theorem dX6_addMaster_9 : decode cX6_addMaster 9 = .ok (.if_icmp .lt 13, 3) := by decide +kernel
theorem dX6_addMaster_12 : decode cX6_addMaster 12 = .ok (.new 55, 3) := by decide +kernel
theorem dX6_addMaster_15 : decode cX6_addMaster 15 = .ok (.dup, 1) := by decide +kernel
theorem dX6_addMaster_16 : decode cX6_addMaster 16 = .ok (.ldc 191, 2) := by decide +kernel
theorem dX6_addMaster_18 : decode cX6_addMaster 18 = .ok (.invokespecial 59, 3) := by decide +kernel
theorem dX6_addMaster_21 : decode cX6_addMaster 21 = .ok (.athrow, 1) := by decide +kernel
theorem dX6_addMaster_22 : decode cX6_addMaster 22 = .ok (.aload_n 0, 1) := by decide +kernel
theorem dX6_addMaster_23 : decode cX6_addMaster 23 = .ok (.getfield 26, 3) := by decide +kernel
theorem dX6_addMaster_26 : decode cX6_addMaster 26 = .ok (.aload_n 0, 1) := by decide +kernel
theorem dX6_addMaster_27 : decode cX6_addMaster 27 = .ok (.getfield 19, 3) := by decide +kernel
theorem dX6_addMaster_30 : decode cX6_addMaster 30 = .ok (.invokevirtual 193, 3) := by decide +kernel
theorem dX6_addMaster_33 : decode cX6_addMaster 33 = .ok (.aload_n 0, 1) := by decide +kernel
theorem dX6_addMaster_34 : decode cX6_addMaster 34 = .ok (.getfield 19, 3) := by decide +kernel
theorem dX6_addMaster_37 : decode cX6_addMaster 37 = .ok (.invokevirtual 196, 3) := by decide +kernel
theorem dX6_addMaster_40 : decode cX6_addMaster 40 = .ok (.ireturn, 1) := by decide +kernel
theorem dX6_give_0 : decode cX6_give 0 = .ok (.aload_n 0, 1) := by decide +kernel
theorem dX6_give_1 : decode cX6_give 1 = .ok (.iload_n 1, 1) := by decide +kernel
theorem dX6_give_2 : decode cX6_give 2 = .ok (.invokevirtual 165, 3) := by decide +kernel
theorem dX6_give_5 : decode cX6_give 5 = .ok (.aload_n 0, 1) := by decide +kernel
theorem dX6_give_6 : decode cX6_give 6 = .ok (.iload_n 2, 1) := by decide +kernel
theorem dX6_give_7 : decode cX6_give 7 = .ok (.invokevirtual 113, 3) := by decide +kernel
theorem dX6_give_10 : decode cX6_give 10 = .ok (.aload_n 0, 1) := by decide +kernel
theorem dX6_give_11 : decode cX6_give 11 = .ok (.getfield 19, 3) := by decide +kernel
theorem dX6_give_14 : decode cX6_give 14 = .ok (.getfield 117, 3) := by decide +kernel
theorem dX6_give_17 : decode cX6_give 17 = .ok (.iload_n 2, 1) := by decide +kernel
theorem dX6_give_18 : decode cX6_give 18 = .ok (.aaload, 1) := by decide +kernel
theorem dX6_give_19 : decode cX6_give 19 = .ok (.getfield 199, 3) := by decide +kernel
theorem dX6_give_22 : decode cX6_give 22 = .ok (.ifCond .eq 13, 3) := by decide +kernel
theorem dX6_give_25 : decode cX6_give 25 = .ok (.new 55, 3) := by decide +kernel
theorem dX6_give_28 : decode cX6_give 28 = .ok (.dup, 1) := by decide +kernel
theorem dX6_give_29 : decode cX6_give 29 = .ok (.ldc 203, 2) := by decide +kernel
theorem dX6_give_31 : decode cX6_give 31 = .ok (.invokespecial 59, 3) := by decide +kernel
theorem dX6_give_34 : decode cX6_give 34 = .ok (.athrow, 1) := by decide +kernel
theorem dX6_give_35 : decode cX6_give 35 = .ok (.aload_n 0, 1) := by decide +kernel
theorem dX6_give_36 : decode cX6_give 36 = .ok (.getfield 26, 3) := by decide +kernel
theorem dX6_give_39 : decode cX6_give 39 = .ok (.aload_n 0, 1) := by decide +kernel
theorem dX6_give_40 : decode cX6_give 40 = .ok (.getfield 19, 3) := by decide +kernel
theorem dX6_give_43 : decode cX6_give 43 = .ok (.invokevirtual 193, 3) := by decide +kernel
theorem dX6_give_46 : decode cX6_give 46 = .ok (.aload_n 0, 1) := by decide +kernel
theorem dX6_give_47 : decode cX6_give 47 = .ok (.getfield 19, 3) := by decide +kernel
theorem dX6_give_50 : decode cX6_give 50 = .ok (.getfield 168, 3) := by decide +kernel
theorem dX6_give_53 : decode cX6_give 53 = .ok (.iload_n 1, 1) := by decide +kernel
theorem dX6_give_54 : decode cX6_give 54 = .ok (.iaload, 1) := by decide +kernel
theorem dX6_give_55 : decode cX6_give 55 = .ok (.istore_n 3, 1) := by decide +kernel
theorem dX6_give_56 : decode cX6_give 56 = .ok (.aload_n 0, 1) := by decide +kernel
theorem dX6_give_57 : decode cX6_give 57 = .ok (.getfield 19, 3) := by decide +kernel
theorem dX6_give_60 : decode cX6_give 60 = .ok (.getfield 168, 3) := by decide +kernel
theorem dX6_give_63 : decode cX6_give 63 = .ok (.iload_n 1, 1) := by decide +kernel
theorem dX6_give_64 : decode cX6_give 64 = .ok (.iload_n 2, 1) := by decide +kernel
theorem dX6_give_65 : decode cX6_give 65 = .ok (.iastore, 1) := by decide +kernel
theorem dX6_give_66 : decode cX6_give 66 = .ok (.iload_n 3, 1) := by decide +kernel
theorem dX6_give_67 : decode cX6_give 67 = .ok (.ireturn, 1) := by decide +kernel
theorem dX6_setLatency_0 : decode cX6_setLatency 0 = .ok (.aload_n 0, 1) := by decide +kernel
theorem dX6_setLatency_1 : decode cX6_setLatency 1 = .ok (.iload_n 1, 1) := by decide +kernel
theorem dX6_setLatency_2 : decode cX6_setLatency 2 = .ok (.invokevirtual 205, 3) := by decide +kernel
theorem dX6_setLatency_5 : decode cX6_setLatency 5 = .ok (.iload_n 2, 1) := by decide +kernel
theorem dX6_setLatency_6 : decode cX6_setLatency 6 = .ok (.ifCond .lt 9, 3) := by decide +kernel
theorem dX6_setLatency_9 : decode cX6_setLatency 9 = .ok (.iload_n 2, 1) := by decide +kernel
theorem dX6_setLatency_10 : decode cX6_setLatency 10 = .ok (.bipush 9, 2) := by decide +kernel
theorem dX6_setLatency_12 : decode cX6_setLatency 12 = .ok (.if_icmp .le 13, 3) := by decide +kernel
theorem dX6_setLatency_15 : decode cX6_setLatency 15 = .ok (.new 44, 3) := by decide +kernel
theorem dX6_setLatency_18 : decode cX6_setLatency 18 = .ok (.dup, 1) := by decide +kernel
theorem dX6_setLatency_19 : decode cX6_setLatency 19 = .ok (.ldc 208, 2) := by decide +kernel
theorem dX6_setLatency_21 : decode cX6_setLatency 21 = .ok (.invokespecial 48, 3) := by decide +kernel
theorem dX6_setLatency_24 : decode cX6_setLatency 24 = .ok (.athrow, 1) := by decide +kernel
theorem dX6_setLatency_25 : decode cX6_setLatency 25 = .ok (.aload_n 0, 1) := by decide +kernel
theorem dX6_setLatency_26 : decode cX6_setLatency 26 = .ok (.getfield 26, 3) := by decide +kernel
theorem dX6_setLatency_29 : decode cX6_setLatency 29 = .ok (.aload_n 0, 1) := by decide +kernel
theorem dX6_setLatency_30 : decode cX6_setLatency 30 = .ok (.getfield 19, 3) := by decide +kernel
theorem dX6_setLatency_33 : decode cX6_setLatency 33 = .ok (.invokevirtual 193, 3) := by decide +kernel
theorem dX6_setLatency_36 : decode cX6_setLatency 36 = .ok (.aload_n 0, 1) := by decide +kernel
theorem dX6_setLatency_37 : decode cX6_setLatency 37 = .ok (.getfield 19, 3) := by decide +kernel
theorem dX6_setLatency_40 : decode cX6_setLatency 40 = .ok (.getfield 210, 3) := by decide +kernel
theorem dX6_setLatency_43 : decode cX6_setLatency 43 = .ok (.iload_n 1, 1) := by decide +kernel
theorem dX6_setLatency_44 : decode cX6_setLatency 44 = .ok (.iaload, 1) := by decide +kernel
theorem dX6_setLatency_45 : decode cX6_setLatency 45 = .ok (.istore_n 3, 1) := by decide +kernel
theorem dX6_setLatency_46 : decode cX6_setLatency 46 = .ok (.aload_n 0, 1) := by decide +kernel
theorem dX6_setLatency_47 : decode cX6_setLatency 47 = .ok (.getfield 19, 3) := by decide +kernel
theorem dX6_setLatency_50 : decode cX6_setLatency 50 = .ok (.getfield 210, 3) := by decide +kernel
theorem dX6_setLatency_53 : decode cX6_setLatency 53 = .ok (.iload_n 1, 1) := by decide +kernel
theorem dX6_setLatency_54 : decode cX6_setLatency 54 = .ok (.iload_n 2, 1) := by decide +kernel
theorem dX6_setLatency_55 : decode cX6_setLatency 55 = .ok (.iastore, 1) := by decide +kernel
theorem dX6_setLatency_56 : decode cX6_setLatency 56 = .ok (.iload_n 3, 1) := by decide +kernel
theorem dX6_setLatency_57 : decode cX6_setLatency 57 = .ok (.ireturn, 1) := by decide +kernel
theorem dX6_setCredit_0 : decode cX6_setCredit 0 = .ok (.iload_n 1, 1) := by decide +kernel
theorem dX6_setCredit_1 : decode cX6_setCredit 1 = .ok (.ifCond .lt 9, 3) := by decide +kernel
theorem dX6_setCredit_4 : decode cX6_setCredit 4 = .ok (.iload_n 1, 1) := by decide +kernel
theorem dX6_setCredit_5 : decode cX6_setCredit 5 = .ok (.bipush 9, 2) := by decide +kernel
theorem dX6_setCredit_7 : decode cX6_setCredit 7 = .ok (.if_icmp .le 13, 3) := by decide +kernel
theorem dX6_setCredit_10 : decode cX6_setCredit 10 = .ok (.new 44, 3) := by decide +kernel
theorem dX6_setCredit_13 : decode cX6_setCredit 13 = .ok (.dup, 1) := by decide +kernel
theorem dX6_setCredit_14 : decode cX6_setCredit 14 = .ok (.ldc 213, 2) := by decide +kernel
theorem dX6_setCredit_16 : decode cX6_setCredit 16 = .ok (.invokespecial 48, 3) := by decide +kernel
theorem dX6_setCredit_19 : decode cX6_setCredit 19 = .ok (.athrow, 1) := by decide +kernel
theorem dX6_setCredit_20 : decode cX6_setCredit 20 = .ok (.aload_n 0, 1) := by decide +kernel
theorem dX6_setCredit_21 : decode cX6_setCredit 21 = .ok (.getfield 26, 3) := by decide +kernel
theorem dX6_setCredit_24 : decode cX6_setCredit 24 = .ok (.aload_n 0, 1) := by decide +kernel
theorem dX6_setCredit_25 : decode cX6_setCredit 25 = .ok (.getfield 19, 3) := by decide +kernel
theorem dX6_setCredit_28 : decode cX6_setCredit 28 = .ok (.invokevirtual 193, 3) := by decide +kernel
theorem dX6_setCredit_31 : decode cX6_setCredit 31 = .ok (.aload_n 0, 1) := by decide +kernel
theorem dX6_setCredit_32 : decode cX6_setCredit 32 = .ok (.getfield 19, 3) := by decide +kernel
theorem dX6_setCredit_35 : decode cX6_setCredit 35 = .ok (.getfield 96, 3) := by decide +kernel
theorem dX6_setCredit_38 : decode cX6_setCredit 38 = .ok (.istore_n 2, 1) := by decide +kernel
theorem dX6_setCredit_39 : decode cX6_setCredit 39 = .ok (.aload_n 0, 1) := by decide +kernel
theorem dX6_setCredit_40 : decode cX6_setCredit 40 = .ok (.getfield 19, 3) := by decide +kernel
theorem dX6_setCredit_43 : decode cX6_setCredit 43 = .ok (.iload_n 1, 1) := by decide +kernel
theorem dX6_setCredit_44 : decode cX6_setCredit 44 = .ok (.putfield 96, 3) := by decide +kernel
theorem dX6_setCredit_47 : decode cX6_setCredit 47 = .ok (.iload_n 2, 1) := by decide +kernel
theorem dX6_setCredit_48 : decode cX6_setCredit 48 = .ok (.ireturn, 1) := by decide +kernel
theorem dX6_send_0 : decode cX6_send 0 = .ok (.aload_n 0, 1) := by decide +kernel
theorem dX6_send_1 : decode cX6_send 1 = .ok (.iload_n 1, 1) := by decide +kernel
theorem dX6_send_2 : decode cX6_send 2 = .ok (.invokevirtual 113, 3) := by decide +kernel
theorem dX6_send_5 : decode cX6_send 5 = .ok (.aload_n 0, 1) := by decide +kernel
theorem dX6_send_6 : decode cX6_send 6 = .ok (.iload_n 2, 1) := by decide +kernel
theorem dX6_send_7 : decode cX6_send 7 = .ok (.invokevirtual 205, 3) := by decide +kernel
theorem dX6_send_10 : decode cX6_send 10 = .ok (.iload_n 3, 1) := by decide +kernel
theorem dX6_send_11 : decode cX6_send 11 = .ok (.iconst 1, 1) := by decide +kernel
theorem dX6_send_12 : decode cX6_send 12 = .ok (.if_icmp .lt 9, 3) := by decide +kernel
theorem dX6_send_15 : decode cX6_send 15 = .ok (.iload_n 3, 1) := by decide +kernel
theorem dX6_send_16 : decode cX6_send 16 = .ok (.bipush 8, 2) := by decide +kernel
theorem dX6_send_18 : decode cX6_send 18 = .ok (.if_icmp .le 13, 3) := by decide +kernel
theorem dX6_send_21 : decode cX6_send 21 = .ok (.new 44, 3) := by decide +kernel
theorem dX6_send_24 : decode cX6_send 24 = .ok (.dup, 1) := by decide +kernel
theorem dX6_send_25 : decode cX6_send 25 = .ok (.ldc 215, 2) := by decide +kernel
theorem dX6_send_27 : decode cX6_send 27 = .ok (.invokespecial 48, 3) := by decide +kernel
theorem dX6_send_30 : decode cX6_send 30 = .ok (.athrow, 1) := by decide +kernel
theorem dX6_send_31 : decode cX6_send 31 = .ok (.aload_n 0, 1) := by decide +kernel
theorem dX6_send_32 : decode cX6_send 32 = .ok (.getfield 19, 3) := by decide +kernel
theorem dX6_send_35 : decode cX6_send 35 = .ok (.getfield 117, 3) := by decide +kernel
theorem dX6_send_38 : decode cX6_send 38 = .ok (.iload_n 1, 1) := by decide +kernel
theorem dX6_send_39 : decode cX6_send 39 = .ok (.aaload, 1) := by decide +kernel
theorem dX6_send_40 : decode cX6_send 40 = .ok (.astore 5, 2) := by decide +kernel
theorem dX6_send_42 : decode cX6_send 42 = .ok (.aload 5, 2) := by decide +kernel
theorem dX6_send_44 : decode cX6_send 44 = .ok (.invokevirtual 217, 3) := by decide +kernel
theorem dX6_send_47 : decode cX6_send 47 = .ok (.ifCond .ne 13, 3) := by decide +kernel
theorem dX6_send_50 : decode cX6_send 50 = .ok (.new 55, 3) := by decide +kernel
theorem dX6_send_53 : decode cX6_send 53 = .ok (.dup, 1) := by decide +kernel
theorem dX6_send_54 : decode cX6_send 54 = .ok (.ldc 220, 2) := by decide +kernel
theorem dX6_send_56 : decode cX6_send 56 = .ok (.invokespecial 59, 3) := by decide +kernel
theorem dX6_send_59 : decode cX6_send 59 = .ok (.athrow, 1) := by decide +kernel
theorem dX6_send_60 : decode cX6_send 60 = .ok (.aload_n 0, 1) := by decide +kernel
theorem dX6_send_61 : decode cX6_send 61 = .ok (.getfield 26, 3) := by decide +kernel
theorem dX6_send_64 : decode cX6_send 64 = .ok (.aload_n 0, 1) := by decide +kernel
theorem dX6_send_65 : decode cX6_send 65 = .ok (.getfield 19, 3) := by decide +kernel
theorem dX6_send_68 : decode cX6_send 68 = .ok (.invokevirtual 193, 3) := by decide +kernel
theorem dX6_send_71 : decode cX6_send 71 = .ok (.aload 5, 2) := by decide +kernel
theorem dX6_send_73 : decode cX6_send 73 = .ok (.getfield 133, 3) := by decide +kernel
theorem dX6_send_76 : decode cX6_send 76 = .ok (.iload_n 2, 1) := by decide +kernel
theorem dX6_send_77 : decode cX6_send 77 = .ok (.iload_n 3, 1) := by decide +kernel
theorem dX6_send_78 : decode cX6_send 78 = .ok (.iload 4, 2) := by decide +kernel
theorem dX6_send_80 : decode cX6_send 80 = .ok (.invokevirtual 222, 3) := by decide +kernel
theorem dX6_send_83 : decode cX6_send 83 = .ok (.aload 5, 2) := by decide +kernel
theorem dX6_send_85 : decode cX6_send 85 = .ok (.getfield 133, 3) := by decide +kernel
theorem dX6_send_88 : decode cX6_send 88 = .ok (.getfield 137, 3) := by decide +kernel
theorem dX6_send_91 : decode cX6_send 91 = .ok (.ireturn, 1) := by decide +kernel
theorem dX6_pass_0 : decode cX6_pass 0 = .ok (.iload_n 1, 1) := by decide +kernel
theorem dX6_pass_1 : decode cX6_pass 1 = .ok (.iconst 1, 1) := by decide +kernel
theorem dX6_pass_2 : decode cX6_pass 2 = .ok (.if_icmp .lt 9, 3) := by decide +kernel
theorem dX6_pass_5 : decode cX6_pass 5 = .ok (.iload_n 1, 1) := by decide +kernel
theorem dX6_pass_6 : decode cX6_pass 6 = .ok (.bipush 99, 2) := by decide +kernel
theorem dX6_pass_8 : decode cX6_pass 8 = .ok (.if_icmp .le 13, 3) := by decide +kernel
theorem dX6_pass_11 : decode cX6_pass 11 = .ok (.new 44, 3) := by decide +kernel
theorem dX6_pass_14 : decode cX6_pass 14 = .ok (.dup, 1) := by decide +kernel
theorem dX6_pass_15 : decode cX6_pass 15 = .ok (.ldc 225, 2) := by decide +kernel
theorem dX6_pass_17 : decode cX6_pass 17 = .ok (.invokespecial 48, 3) := by decide +kernel
theorem dX6_pass_20 : decode cX6_pass 20 = .ok (.athrow, 1) := by decide +kernel
theorem dX6_pass_21 : decode cX6_pass 21 = .ok (.aload_n 0, 1) := by decide +kernel
theorem dX6_pass_22 : decode cX6_pass 22 = .ok (.getfield 26, 3) := by decide +kernel
theorem dX6_pass_25 : decode cX6_pass 25 = .ok (.aload_n 0, 1) := by decide +kernel
theorem dX6_pass_26 : decode cX6_pass 26 = .ok (.getfield 19, 3) := by decide +kernel
theorem dX6_pass_29 : decode cX6_pass 29 = .ok (.invokevirtual 193, 3) := by decide +kernel
theorem dX6_pass_32 : decode cX6_pass 32 = .ok (.aload_n 0, 1) := by decide +kernel
theorem dX6_pass_33 : decode cX6_pass 33 = .ok (.getfield 19, 3) := by decide +kernel
theorem dX6_pass_36 : decode cX6_pass 36 = .ok (.getfield 93, 3) := by decide +kernel
theorem dX6_pass_39 : decode cX6_pass 39 = .ok (.istore_n 2, 1) := by decide +kernel
theorem dX6_pass_40 : decode cX6_pass 40 = .ok (.aload_n 0, 1) := by decide +kernel
theorem dX6_pass_41 : decode cX6_pass 41 = .ok (.getfield 19, 3) := by decide +kernel
theorem dX6_pass_44 : decode cX6_pass 44 = .ok (.iload_n 1, 1) := by decide +kernel
theorem dX6_pass_45 : decode cX6_pass 45 = .ok (.invokevirtual 227, 3) := by decide +kernel
theorem dX6_pass_48 : decode cX6_pass 48 = .ok (.iload_n 1, 1) := by decide +kernel
theorem dX6_pass_49 : decode cX6_pass 49 = .ok (.aload_n 0, 1) := by decide +kernel
theorem dX6_pass_50 : decode cX6_pass 50 = .ok (.getfield 19, 3) := by decide +kernel
theorem dX6_pass_53 : decode cX6_pass 53 = .ok (.getfield 93, 3) := by decide +kernel
theorem dX6_pass_56 : decode cX6_pass 56 = .ok (.iload_n 2, 1) := by decide +kernel
theorem dX6_pass_57 : decode cX6_pass 57 = .ok (.isub, 1) := by decide +kernel
theorem dX6_pass_58 : decode cX6_pass 58 = .ok (.isub, 1) := by decide +kernel
theorem dX6_pass_59 : decode cX6_pass 59 = .ok (.ireturn, 1) := by decide +kernel
theorem dX6_forgive_0 : decode cX6_forgive 0 = .ok (.aload_n 0, 1) := by decide +kernel
theorem dX6_forgive_1 : decode cX6_forgive 1 = .ok (.iload_n 1, 1) := by decide +kernel
theorem dX6_forgive_2 : decode cX6_forgive 2 = .ok (.invokevirtual 113, 3) := by decide +kernel
theorem dX6_forgive_5 : decode cX6_forgive 5 = .ok (.aload_n 0, 1) := by decide +kernel
theorem dX6_forgive_6 : decode cX6_forgive 6 = .ok (.iload_n 2, 1) := by decide +kernel
theorem dX6_forgive_7 : decode cX6_forgive 7 = .ok (.invokevirtual 113, 3) := by decide +kernel
theorem dX6_forgive_10 : decode cX6_forgive 10 = .ok (.aload_n 0, 1) := by decide +kernel
theorem dX6_forgive_11 : decode cX6_forgive 11 = .ok (.getfield 26, 3) := by decide +kernel
theorem dX6_forgive_14 : decode cX6_forgive 14 = .ok (.aload_n 0, 1) := by decide +kernel
theorem dX6_forgive_15 : decode cX6_forgive 15 = .ok (.getfield 19, 3) := by decide +kernel
theorem dX6_forgive_18 : decode cX6_forgive 18 = .ok (.invokevirtual 193, 3) := by decide +kernel
theorem dX6_forgive_21 : decode cX6_forgive 21 = .ok (.aload_n 0, 1) := by decide +kernel
theorem dX6_forgive_22 : decode cX6_forgive 22 = .ok (.getfield 19, 3) := by decide +kernel
theorem dX6_forgive_25 : decode cX6_forgive 25 = .ok (.getfield 117, 3) := by decide +kernel
theorem dX6_forgive_28 : decode cX6_forgive 28 = .ok (.iload_n 1, 1) := by decide +kernel
theorem dX6_forgive_29 : decode cX6_forgive 29 = .ok (.aaload, 1) := by decide +kernel
theorem dX6_forgive_30 : decode cX6_forgive 30 = .ok (.getfield 172, 3) := by decide +kernel
theorem dX6_forgive_33 : decode cX6_forgive 33 = .ok (.iload_n 2, 1) := by decide +kernel
theorem dX6_forgive_34 : decode cX6_forgive 34 = .ok (.iaload, 1) := by decide +kernel
theorem dX6_forgive_35 : decode cX6_forgive 35 = .ok (.istore_n 3, 1) := by decide +kernel
theorem dX6_forgive_36 : decode cX6_forgive 36 = .ok (.aload_n 0, 1) := by decide +kernel
theorem dX6_forgive_37 : decode cX6_forgive 37 = .ok (.getfield 19, 3) := by decide +kernel
theorem dX6_forgive_40 : decode cX6_forgive 40 = .ok (.getfield 117, 3) := by decide +kernel
theorem dX6_forgive_43 : decode cX6_forgive 43 = .ok (.iload_n 1, 1) := by decide +kernel
theorem dX6_forgive_44 : decode cX6_forgive 44 = .ok (.aaload, 1) := by decide +kernel
theorem dX6_forgive_45 : decode cX6_forgive 45 = .ok (.getfield 172, 3) := by decide +kernel
theorem dX6_forgive_48 : decode cX6_forgive 48 = .ok (.iload_n 2, 1) := by decide +kernel
theorem dX6_forgive_49 : decode cX6_forgive 49 = .ok (.iconst 0, 1) := by decide +kernel
theorem dX6_forgive_50 : decode cX6_forgive 50 = .ok (.iastore, 1) := by decide +kernel
theorem dX6_forgive_51 : decode cX6_forgive 51 = .ok (.iload_n 3, 1) := by decide +kernel
theorem dX6_forgive_52 : decode cX6_forgive 52 = .ok (.ireturn, 1) := by decide +kernel
theorem dX6_undo_0 : decode cX6_undo 0 = .ok (.aload_n 0, 1) := by decide +kernel
theorem dX6_undo_1 : decode cX6_undo 1 = .ok (.getfield 26, 3) := by decide +kernel
theorem dX6_undo_4 : decode cX6_undo 4 = .ok (.getfield 230, 3) := by decide +kernel
theorem dX6_undo_7 : decode cX6_undo 7 = .ok (.iconst 1, 1) := by decide +kernel
theorem dX6_undo_8 : decode cX6_undo 8 = .ok (.if_icmp .ge 13, 3) := by decide +kernel
theorem dX6_undo_11 : decode cX6_undo 11 = .ok (.new 55, 3) := by decide +kernel
theorem dX6_undo_14 : decode cX6_undo 14 = .ok (.dup, 1) := by decide +kernel
theorem dX6_undo_15 : decode cX6_undo 15 = .ok (.ldc 231, 2) := by decide +kernel
theorem dX6_undo_17 : decode cX6_undo 17 = .ok (.invokespecial 59, 3) := by decide +kernel
theorem dX6_undo_20 : decode cX6_undo 20 = .ok (.athrow, 1) := by decide +kernel
theorem dX6_undo_21 : decode cX6_undo 21 = .ok (.aload_n 0, 1) := by decide +kernel
theorem dX6_undo_22 : decode cX6_undo 22 = .ok (.getfield 26, 3) := by decide +kernel
theorem dX6_undo_25 : decode cX6_undo 25 = .ok (.aload_n 0, 1) := by decide +kernel
theorem dX6_undo_26 : decode cX6_undo 26 = .ok (.getfield 19, 3) := by decide +kernel
theorem dX6_undo_29 : decode cX6_undo 29 = .ok (.invokevirtual 233, 3) := by decide +kernel
theorem dX6_undo_32 : decode cX6_undo 32 = .ok (.aload_n 0, 1) := by decide +kernel
theorem dX6_undo_33 : decode cX6_undo 33 = .ok (.getfield 26, 3) := by decide +kernel
theorem dX6_undo_36 : decode cX6_undo 36 = .ok (.getfield 230, 3) := by decide +kernel
theorem dX6_undo_39 : decode cX6_undo 39 = .ok (.ireturn, 1) := by decide +kernel
theorem dX6_turnIn_0 : decode cX6_turnIn 0 = .ok (.iload_n 1, 1) := by decide +kernel
theorem dX6_turnIn_1 : decode cX6_turnIn 1 = .ok (.ifCond .lt 9, 3) := by decide +kernel
theorem dX6_turnIn_4 : decode cX6_turnIn 4 = .ok (.iload_n 1, 1) := by decide +kernel
theorem dX6_turnIn_5 : decode cX6_turnIn 5 = .ok (.bipush 99, 2) := by decide +kernel
theorem dX6_turnIn_7 : decode cX6_turnIn 7 = .ok (.if_icmp .le 13, 3) := by decide +kernel
theorem dX6_turnIn_10 : decode cX6_turnIn 10 = .ok (.new 44, 3) := by decide +kernel
theorem dX6_turnIn_13 : decode cX6_turnIn 13 = .ok (.dup, 1) := by decide +kernel
theorem dX6_turnIn_14 : decode cX6_turnIn 14 = .ok (.ldc 225, 2) := by decide +kernel
theorem dX6_turnIn_16 : decode cX6_turnIn 16 = .ok (.invokespecial 48, 3) := by decide +kernel
theorem dX6_turnIn_19 : decode cX6_turnIn 19 = .ok (.athrow, 1) := by decide +kernel
theorem dX6_turnIn_20 : decode cX6_turnIn 20 = .ok (.aload_n 0, 1) := by decide +kernel
theorem dX6_turnIn_21 : decode cX6_turnIn 21 = .ok (.getfield 38, 3) := by decide +kernel
theorem dX6_turnIn_24 : decode cX6_turnIn 24 = .ok (.aload_n 0, 1) := by decide +kernel
theorem dX6_turnIn_25 : decode cX6_turnIn 25 = .ok (.getfield 19, 3) := by decide +kernel
theorem dX6_turnIn_28 : decode cX6_turnIn 28 = .ok (.invokevirtual 74, 3) := by decide +kernel
theorem dX6_turnIn_31 : decode cX6_turnIn 31 = .ok (.aload_n 0, 1) := by decide +kernel
theorem dX6_turnIn_32 : decode cX6_turnIn 32 = .ok (.getfield 38, 3) := by decide +kernel
theorem dX6_turnIn_35 : decode cX6_turnIn 35 = .ok (.iload_n 1, 1) := by decide +kernel
theorem dX6_turnIn_36 : decode cX6_turnIn 36 = .ok (.iconst 1, 1) := by decide +kernel
theorem dX6_turnIn_37 : decode cX6_turnIn 37 = .ok (.iadd, 1) := by decide +kernel
theorem dX6_turnIn_38 : decode cX6_turnIn 38 = .ok (.invokevirtual 227, 3) := by decide +kernel
theorem dX6_turnIn_41 : decode cX6_turnIn 41 = .ok (.aload_n 0, 1) := by decide +kernel
theorem dX6_turnIn_42 : decode cX6_turnIn 42 = .ok (.getfield 38, 3) := by decide +kernel
theorem dX6_turnIn_45 : decode cX6_turnIn 45 = .ok (.getfield 105, 3) := by decide +kernel
theorem dX6_turnIn_48 : decode cX6_turnIn 48 = .ok (.ireturn, 1) := by decide +kernel
theorem dX6_doneIn_0 : decode cX6_doneIn 0 = .ok (.aload_n 0, 1) := by decide +kernel
theorem dX6_doneIn_1 : decode cX6_doneIn 1 = .ok (.iload_n 1, 1) := by decide +kernel
theorem dX6_doneIn_2 : decode cX6_doneIn 2 = .ok (.invokevirtual 113, 3) := by decide +kernel
theorem dX6_doneIn_5 : decode cX6_doneIn 5 = .ok (.aload_n 0, 1) := by decide +kernel
theorem dX6_doneIn_6 : decode cX6_doneIn 6 = .ok (.getfield 38, 3) := by decide +kernel
theorem dX6_doneIn_9 : decode cX6_doneIn 9 = .ok (.aload_n 0, 1) := by decide +kernel
theorem dX6_doneIn_10 : decode cX6_doneIn 10 = .ok (.getfield 19, 3) := by decide +kernel
theorem dX6_doneIn_13 : decode cX6_doneIn 13 = .ok (.invokevirtual 74, 3) := by decide +kernel
theorem dX6_doneIn_16 : decode cX6_doneIn 16 = .ok (.aload_n 0, 1) := by decide +kernel
theorem dX6_doneIn_17 : decode cX6_doneIn 17 = .ok (.getfield 38, 3) := by decide +kernel
theorem dX6_doneIn_20 : decode cX6_doneIn 20 = .ok (.iload_n 1, 1) := by decide +kernel
theorem dX6_doneIn_21 : decode cX6_doneIn 21 = .ok (.iload_n 1, 1) := by decide +kernel
theorem dX6_doneIn_22 : decode cX6_doneIn 22 = .ok (.sipush 400, 3) := by decide +kernel
theorem dX6_doneIn_25 : decode cX6_doneIn 25 = .ok (.invokevirtual 236, 3) := by decide +kernel
theorem dX6_doneIn_28 : decode cX6_doneIn 28 = .ok (.istore_n 2, 1) := by decide +kernel
theorem dX6_doneIn_29 : decode cX6_doneIn 29 = .ok (.iload_n 2, 1) := by decide +kernel
theorem dX6_doneIn_30 : decode cX6_doneIn 30 = .ok (.sipush 400, 3) := by decide +kernel
theorem dX6_doneIn_33 : decode cX6_doneIn 33 = .ok (.if_icmp .le 8, 3) := by decide +kernel
theorem dX6_doneIn_36 : decode cX6_doneIn 36 = .ok (.bipush (-9), 2) := by decide +kernel
theorem dX6_doneIn_38 : decode cX6_doneIn 38 = .ok (.goto 4, 3) := by decide +kernel
theorem dX6_doneIn_41 : decode cX6_doneIn 41 = .ok (.iload_n 2, 1) := by decide +kernel
theorem dX6_doneIn_42 : decode cX6_doneIn 42 = .ok (.ireturn, 1) := by decide +kernel
theorem dX6_bestCredit_0 : decode cX6_bestCredit 0 = .ok (.iconst 0, 1) := by decide +kernel
theorem dX6_bestCredit_1 : decode cX6_bestCredit 1 = .ok (.istore_n 1, 1) := by decide +kernel
theorem dX6_bestCredit_2 : decode cX6_bestCredit 2 = .ok (.sipush 401, 3) := by decide +kernel
theorem dX6_bestCredit_5 : decode cX6_bestCredit 5 = .ok (.istore_n 2, 1) := by decide +kernel
theorem dX6_bestCredit_6 : decode cX6_bestCredit 6 = .ok (.iconst 0, 1) := by decide +kernel
theorem dX6_bestCredit_7 : decode cX6_bestCredit 7 = .ok (.istore_n 3, 1) := by decide +kernel
theorem dX6_bestCredit_8 : decode cX6_bestCredit 8 = .ok (.iload_n 3, 1) := by decide +kernel
theorem dX6_bestCredit_9 : decode cX6_bestCredit 9 = .ok (.bipush 9, 2) := by decide +kernel
theorem dX6_bestCredit_11 : decode cX6_bestCredit 11 = .ok (.if_icmp .gt 61, 3) := by decide +kernel
theorem dX6_bestCredit_14 : decode cX6_bestCredit 14 = .ok (.aload_n 0, 1) := by decide +kernel
theorem dX6_bestCredit_15 : decode cX6_bestCredit 15 = .ok (.getfield 38, 3) := by decide +kernel
theorem dX6_bestCredit_18 : decode cX6_bestCredit 18 = .ok (.aload_n 0, 1) := by decide +kernel
theorem dX6_bestCredit_19 : decode cX6_bestCredit 19 = .ok (.getfield 19, 3) := by decide +kernel
theorem dX6_bestCredit_22 : decode cX6_bestCredit 22 = .ok (.invokevirtual 74, 3) := by decide +kernel
theorem dX6_bestCredit_25 : decode cX6_bestCredit 25 = .ok (.aload_n 0, 1) := by decide +kernel
theorem dX6_bestCredit_26 : decode cX6_bestCredit 26 = .ok (.getfield 38, 3) := by decide +kernel
theorem dX6_bestCredit_29 : decode cX6_bestCredit 29 = .ok (.iload_n 3, 1) := by decide +kernel
theorem dX6_bestCredit_30 : decode cX6_bestCredit 30 = .ok (.putfield 96, 3) := by decide +kernel
theorem dX6_bestCredit_33 : decode cX6_bestCredit 33 = .ok (.aload_n 0, 1) := by decide +kernel
theorem dX6_bestCredit_34 : decode cX6_bestCredit 34 = .ok (.getfield 38, 3) := by decide +kernel
theorem dX6_bestCredit_37 : decode cX6_bestCredit 37 = .ok (.iconst 0, 1) := by decide +kernel
theorem dX6_bestCredit_38 : decode cX6_bestCredit 38 = .ok (.aload_n 0, 1) := by decide +kernel
theorem dX6_bestCredit_39 : decode cX6_bestCredit 39 = .ok (.getfield 38, 3) := by decide +kernel
theorem dX6_bestCredit_42 : decode cX6_bestCredit 42 = .ok (.getfield 83, 3) := by decide +kernel
theorem dX6_bestCredit_45 : decode cX6_bestCredit 45 = .ok (.iconst 1, 1) := by decide +kernel
theorem dX6_bestCredit_46 : decode cX6_bestCredit 46 = .ok (.isub, 1) := by decide +kernel
theorem dX6_bestCredit_47 : decode cX6_bestCredit 47 = .ok (.iload_n 2, 1) := by decide +kernel
theorem dX6_bestCredit_48 : decode cX6_bestCredit 48 = .ok (.iconst 1, 1) := by decide +kernel
theorem dX6_bestCredit_49 : decode cX6_bestCredit 49 = .ok (.isub, 1) := by decide +kernel
theorem dX6_bestCredit_50 : decode cX6_bestCredit 50 = .ok (.invokevirtual 236, 3) := by decide +kernel
theorem dX6_bestCredit_53 : decode cX6_bestCredit 53 = .ok (.istore 4, 2) := by decide +kernel
theorem dX6_bestCredit_55 : decode cX6_bestCredit 55 = .ok (.iload 4, 2) := by decide +kernel
theorem dX6_bestCredit_57 : decode cX6_bestCredit 57 = .ok (.iload_n 2, 1) := by decide +kernel
theorem dX6_bestCredit_58 : decode cX6_bestCredit 58 = .ok (.if_icmp .ge 8, 3) := by decide +kernel
theorem dX6_bestCredit_61 : decode cX6_bestCredit 61 = .ok (.iload 4, 2) := by decide +kernel
theorem dX6_bestCredit_63 : decode cX6_bestCredit 63 = .ok (.istore_n 2, 1) := by decide +kernel
theorem dX6_bestCredit_64 : decode cX6_bestCredit 64 = .ok (.iload_n 3, 1) := by decide +kernel
theorem dX6_bestCredit_65 : decode cX6_bestCredit 65 = .ok (.istore_n 1, 1) := by decide +kernel
theorem dX6_bestCredit_66 : decode cX6_bestCredit 66 = .ok (.iinc 3 1, 3) := by decide +kernel
theorem dX6_bestCredit_69 : decode cX6_bestCredit 69 = .ok (.goto (-61), 3) := by decide +kernel
theorem dX6_bestCredit_72 : decode cX6_bestCredit 72 = .ok (.iload_n 1, 1) := by decide +kernel
theorem dX6_bestCredit_73 : decode cX6_bestCredit 73 = .ok (.ireturn, 1) := by decide +kernel
theorem dX6_bestSlot_0 : decode cX6_bestSlot 0 = .ok (.aload_n 0, 1) := by decide +kernel
theorem dX6_bestSlot_1 : decode cX6_bestSlot 1 = .ok (.iload_n 1, 1) := by decide +kernel
theorem dX6_bestSlot_2 : decode cX6_bestSlot 2 = .ok (.invokevirtual 113, 3) := by decide +kernel
theorem dX6_bestSlot_5 : decode cX6_bestSlot 5 = .ok (.aload_n 0, 1) := by decide +kernel
theorem dX6_bestSlot_6 : decode cX6_bestSlot 6 = .ok (.getfield 19, 3) := by decide +kernel
theorem dX6_bestSlot_9 : decode cX6_bestSlot 9 = .ok (.getfield 117, 3) := by decide +kernel
theorem dX6_bestSlot_12 : decode cX6_bestSlot 12 = .ok (.iload_n 1, 1) := by decide +kernel
theorem dX6_bestSlot_13 : decode cX6_bestSlot 13 = .ok (.aaload, 1) := by decide +kernel
theorem dX6_bestSlot_14 : decode cX6_bestSlot 14 = .ok (.getfield 199, 3) := by decide +kernel
theorem dX6_bestSlot_17 : decode cX6_bestSlot 17 = .ok (.ifCond .eq 6, 3) := by decide +kernel
theorem dX6_bestSlot_20 : decode cX6_bestSlot 20 = .ok (.bipush (-9), 2) := by decide +kernel
theorem dX6_bestSlot_22 : decode cX6_bestSlot 22 = .ok (.ireturn, 1) := by decide +kernel
theorem dX6_bestSlot_23 : decode cX6_bestSlot 23 = .ok (.iconst 0, 1) := by decide +kernel
theorem dX6_bestSlot_24 : decode cX6_bestSlot 24 = .ok (.istore_n 2, 1) := by decide +kernel
theorem dX6_bestSlot_25 : decode cX6_bestSlot 25 = .ok (.sipush 401, 3) := by decide +kernel
theorem dX6_bestSlot_28 : decode cX6_bestSlot 28 = .ok (.istore_n 3, 1) := by decide +kernel
theorem dX6_bestSlot_29 : decode cX6_bestSlot 29 = .ok (.iconst 0, 1) := by decide +kernel
theorem dX6_bestSlot_30 : decode cX6_bestSlot 30 = .ok (.istore 4, 2) := by decide +kernel
theorem dX6_bestSlot_32 : decode cX6_bestSlot 32 = .ok (.iload 4, 2) := by decide +kernel
theorem dX6_bestSlot_34 : decode cX6_bestSlot 34 = .ok (.aload_n 0, 1) := by decide +kernel
theorem dX6_bestSlot_35 : decode cX6_bestSlot 35 = .ok (.getfield 19, 3) := by decide +kernel
theorem dX6_bestSlot_38 : decode cX6_bestSlot 38 = .ok (.getfield 87, 3) := by decide +kernel
theorem dX6_bestSlot_41 : decode cX6_bestSlot 41 = .ok (.if_icmp .ge 57, 3) := by decide +kernel
theorem dX6_bestSlot_44 : decode cX6_bestSlot 44 = .ok (.aload_n 0, 1) := by decide +kernel
theorem dX6_bestSlot_45 : decode cX6_bestSlot 45 = .ok (.getfield 38, 3) := by decide +kernel
theorem dX6_bestSlot_48 : decode cX6_bestSlot 48 = .ok (.aload_n 0, 1) := by decide +kernel
theorem dX6_bestSlot_49 : decode cX6_bestSlot 49 = .ok (.getfield 19, 3) := by decide +kernel
theorem dX6_bestSlot_52 : decode cX6_bestSlot 52 = .ok (.invokevirtual 74, 3) := by decide +kernel
theorem dX6_bestSlot_55 : decode cX6_bestSlot 55 = .ok (.aload_n 0, 1) := by decide +kernel
theorem dX6_bestSlot_56 : decode cX6_bestSlot 56 = .ok (.getfield 38, 3) := by decide +kernel
theorem dX6_bestSlot_59 : decode cX6_bestSlot 59 = .ok (.getfield 168, 3) := by decide +kernel
theorem dX6_bestSlot_62 : decode cX6_bestSlot 62 = .ok (.iload 4, 2) := by decide +kernel
theorem dX6_bestSlot_64 : decode cX6_bestSlot 64 = .ok (.iload_n 1, 1) := by decide +kernel
theorem dX6_bestSlot_65 : decode cX6_bestSlot 65 = .ok (.iastore, 1) := by decide +kernel
theorem dX6_bestSlot_66 : decode cX6_bestSlot 66 = .ok (.aload_n 0, 1) := by decide +kernel
theorem dX6_bestSlot_67 : decode cX6_bestSlot 67 = .ok (.getfield 38, 3) := by decide +kernel
theorem dX6_bestSlot_70 : decode cX6_bestSlot 70 = .ok (.iload_n 1, 1) := by decide +kernel
theorem dX6_bestSlot_71 : decode cX6_bestSlot 71 = .ok (.iload_n 1, 1) := by decide +kernel
theorem dX6_bestSlot_72 : decode cX6_bestSlot 72 = .ok (.iload_n 3, 1) := by decide +kernel
theorem dX6_bestSlot_73 : decode cX6_bestSlot 73 = .ok (.iconst 1, 1) := by decide +kernel
theorem dX6_bestSlot_74 : decode cX6_bestSlot 74 = .ok (.isub, 1) := by decide +kernel
theorem dX6_bestSlot_75 : decode cX6_bestSlot 75 = .ok (.invokevirtual 236, 3) := by decide +kernel
theorem dX6_bestSlot_78 : decode cX6_bestSlot 78 = .ok (.istore 5, 2) := by decide +kernel
theorem dX6_bestSlot_80 : decode cX6_bestSlot 80 = .ok (.iload 5, 2) := by decide +kernel
theorem dX6_bestSlot_82 : decode cX6_bestSlot 82 = .ok (.iload_n 3, 1) := by decide +kernel
theorem dX6_bestSlot_83 : decode cX6_bestSlot 83 = .ok (.if_icmp .ge 9, 3) := by decide +kernel
theorem dX6_bestSlot_86 : decode cX6_bestSlot 86 = .ok (.iload 5, 2) := by decide +kernel
theorem dX6_bestSlot_88 : decode cX6_bestSlot 88 = .ok (.istore_n 3, 1) := by decide +kernel
theorem dX6_bestSlot_89 : decode cX6_bestSlot 89 = .ok (.iload 4, 2) := by decide +kernel
theorem dX6_bestSlot_91 : decode cX6_bestSlot 91 = .ok (.istore_n 2, 1) := by decide +kernel
theorem dX6_bestSlot_92 : decode cX6_bestSlot 92 = .ok (.iinc 4 1, 3) := by decide +kernel
theorem dX6_bestSlot_95 : decode cX6_bestSlot 95 = .ok (.goto (-63), 3) := by decide +kernel
theorem dX6_bestSlot_98 : decode cX6_bestSlot 98 = .ok (.iload_n 2, 1) := by decide +kernel
theorem dX6_bestSlot_99 : decode cX6_bestSlot 99 = .ok (.ireturn, 1) := by decide +kernel
theorem dX6_runScript_0 : decode cX6_runScript 0 = .ok (.iload_n 1, 1) := by decide +kernel
theorem dX6_runScript_1 : decode cX6_runScript 1 = .ok (.iconst 1, 1) := by decide +kernel
theorem dX6_runScript_2 : decode cX6_runScript 2 = .ok (.if_icmp .lt 24, 3) := by decide +kernel
theorem dX6_runScript_5 : decode cX6_runScript 5 = .ok (.iload_n 1, 1) := by decide +kernel
theorem dX6_runScript_6 : decode cX6_runScript 6 = .ok (.iconst 3, 1) := by decide +kernel
theorem dX6_runScript_7 : decode cX6_runScript 7 = .ok (.if_icmp .gt 19, 3) := by decide +kernel
theorem dX6_runScript_10 : decode cX6_runScript 10 = .ok (.lload_n 2, 1) := by decide +kernel
theorem dX6_runScript_11 : decode cX6_runScript 11 = .ok (.lconst 0, 1) := by decide +kernel
theorem dX6_runScript_12 : decode cX6_runScript 12 = .ok (.lcmp, 1) := by decide +kernel
theorem dX6_runScript_13 : decode cX6_runScript 13 = .ok (.ifCond .lt 13, 3) := by decide +kernel
theorem dX6_runScript_16 : decode cX6_runScript 16 = .ok (.lload_n 2, 1) := by decide +kernel
theorem dX6_runScript_17 : decode cX6_runScript 17 = .ok (.iload_n 1, 1) := by decide +kernel
theorem dX6_runScript_18 : decode cX6_runScript 18 = .ok (.invokestatic 240, 3) := by decide +kernel
theorem dX6_runScript_21 : decode cX6_runScript 21 = .ok (.lconst 0, 1) := by decide +kernel
theorem dX6_runScript_22 : decode cX6_runScript 22 = .ok (.lcmp, 1) := by decide +kernel
theorem dX6_runScript_23 : decode cX6_runScript 23 = .ok (.ifCond .eq 13, 3) := by decide +kernel
theorem dX6_runScript_26 : decode cX6_runScript 26 = .ok (.new 44, 3) := by decide +kernel
theorem dX6_runScript_29 : decode cX6_runScript 29 = .ok (.dup, 1) := by decide +kernel
theorem dX6_runScript_30 : decode cX6_runScript 30 = .ok (.ldc 244, 2) := by decide +kernel
theorem dX6_runScript_32 : decode cX6_runScript 32 = .ok (.invokespecial 48, 3) := by decide +kernel
theorem dX6_runScript_35 : decode cX6_runScript 35 = .ok (.athrow, 1) := by decide +kernel
theorem dX6_runScript_36 : decode cX6_runScript 36 = .ok (.aload_n 0, 1) := by decide +kernel
theorem dX6_runScript_37 : decode cX6_runScript 37 = .ok (.getfield 38, 3) := by decide +kernel
theorem dX6_runScript_40 : decode cX6_runScript 40 = .ok (.aload_n 0, 1) := by decide +kernel
theorem dX6_runScript_41 : decode cX6_runScript 41 = .ok (.getfield 19, 3) := by decide +kernel
theorem dX6_runScript_44 : decode cX6_runScript 44 = .ok (.invokevirtual 74, 3) := by decide +kernel
theorem dX6_runScript_47 : decode cX6_runScript 47 = .ok (.iconst 0, 1) := by decide +kernel
theorem dX6_runScript_48 : decode cX6_runScript 48 = .ok (.istore 4, 2) := by decide +kernel
theorem dX6_runScript_50 : decode cX6_runScript 50 = .ok (.iload 4, 2) := by decide +kernel
theorem dX6_runScript_52 : decode cX6_runScript 52 = .ok (.iload_n 1, 1) := by decide +kernel
theorem dX6_runScript_53 : decode cX6_runScript 53 = .ok (.if_icmp .ge 38, 3) := by decide +kernel
theorem dX6_runScript_56 : decode cX6_runScript 56 = .ok (.lload_n 2, 1) := by decide +kernel
theorem dX6_runScript_57 : decode cX6_runScript 57 = .ok (.iload_n 1, 1) := by decide +kernel
theorem dX6_runScript_58 : decode cX6_runScript 58 = .ok (.iconst 1, 1) := by decide +kernel
theorem dX6_runScript_59 : decode cX6_runScript 59 = .ok (.isub, 1) := by decide +kernel
theorem dX6_runScript_60 : decode cX6_runScript 60 = .ok (.iload 4, 2) := by decide +kernel
theorem dX6_runScript_62 : decode cX6_runScript 62 = .ok (.isub, 1) := by decide +kernel
theorem dX6_runScript_63 : decode cX6_runScript 63 = .ok (.invokestatic 240, 3) := by decide +kernel
theorem dX6_runScript_66 : decode cX6_runScript 66 = .ok (.ldc2_w 246, 3) := by decide +kernel
theorem dX6_runScript_69 : decode cX6_runScript 69 = .ok (.lrem, 1) := by decide +kernel
theorem dX6_runScript_70 : decode cX6_runScript 70 = .ok (.l2i, 1) := by decide +kernel
theorem dX6_runScript_71 : decode cX6_runScript 71 = .ok (.istore 5, 2) := by decide +kernel
theorem dX6_runScript_73 : decode cX6_runScript 73 = .ok (.aload_n 0, 1) := by decide +kernel
theorem dX6_runScript_74 : decode cX6_runScript 74 = .ok (.iload 5, 2) := by decide +kernel
theorem dX6_runScript_76 : decode cX6_runScript 76 = .ok (.invokevirtual 248, 3) := by decide +kernel
theorem dX6_runScript_79 : decode cX6_runScript 79 = .ok (.ifCond .ne 6, 3) := by decide +kernel
theorem dX6_runScript_82 : decode cX6_runScript 82 = .ok (.iload 4, 2) := by decide +kernel
theorem dX6_runScript_84 : decode cX6_runScript 84 = .ok (.ireturn, 1) := by decide +kernel
theorem dX6_runScript_85 : decode cX6_runScript 85 = .ok (.iinc 4 1, 3) := by decide +kernel
theorem dX6_runScript_88 : decode cX6_runScript 88 = .ok (.goto (-38), 3) := by decide +kernel
theorem dX6_runScript_91 : decode cX6_runScript 91 = .ok (.bipush (-9), 2) := by decide +kernel
theorem dX6_runScript_93 : decode cX6_runScript 93 = .ok (.ireturn, 1) := by decide +kernel
theorem dX6_simulate_0 : decode cX6_simulate 0 = .ok (.iload_n 3, 1) := by decide +kernel
theorem dX6_simulate_1 : decode cX6_simulate 1 = .ok (.iconst 1, 1) := by decide +kernel
theorem dX6_simulate_2 : decode cX6_simulate 2 = .ok (.if_icmp .lt 10, 3) := by decide +kernel
theorem dX6_simulate_5 : decode cX6_simulate 5 = .ok (.iload_n 3, 1) := by decide +kernel
theorem dX6_simulate_6 : decode cX6_simulate 6 = .ok (.sipush 200, 3) := by decide +kernel
theorem dX6_simulate_9 : decode cX6_simulate 9 = .ok (.if_icmp .le 13, 3) := by decide +kernel
theorem dX6_simulate_12 : decode cX6_simulate 12 = .ok (.new 44, 3) := by decide +kernel
theorem dX6_simulate_15 : decode cX6_simulate 15 = .ok (.dup, 1) := by decide +kernel
theorem dX6_simulate_16 : decode cX6_simulate 16 = .ok (.ldc 225, 2) := by decide +kernel
theorem dX6_simulate_18 : decode cX6_simulate 18 = .ok (.invokespecial 48, 3) := by decide +kernel
theorem dX6_simulate_21 : decode cX6_simulate 21 = .ok (.athrow, 1) := by decide +kernel
theorem dX6_simulate_22 : decode cX6_simulate 22 = .ok (.aload_n 0, 1) := by decide +kernel
theorem dX6_simulate_23 : decode cX6_simulate 23 = .ok (.getfield 38, 3) := by decide +kernel
theorem dX6_simulate_26 : decode cX6_simulate 26 = .ok (.aload_n 0, 1) := by decide +kernel
theorem dX6_simulate_27 : decode cX6_simulate 27 = .ok (.getfield 19, 3) := by decide +kernel
theorem dX6_simulate_30 : decode cX6_simulate 30 = .ok (.invokevirtual 74, 3) := by decide +kernel
theorem dX6_simulate_33 : decode cX6_simulate 33 = .ok (.aload_n 0, 1) := by decide +kernel
theorem dX6_simulate_34 : decode cX6_simulate 34 = .ok (.getfield 38, 3) := by decide +kernel
theorem dX6_simulate_37 : decode cX6_simulate 37 = .ok (.getfield 93, 3) := by decide +kernel
theorem dX6_simulate_40 : decode cX6_simulate 40 = .ok (.istore 4, 2) := by decide +kernel
theorem dX6_simulate_42 : decode cX6_simulate 42 = .ok (.lload_n 1, 1) := by decide +kernel
theorem dX6_simulate_43 : decode cX6_simulate 43 = .ok (.lstore 5, 2) := by decide +kernel
theorem dX6_simulate_45 : decode cX6_simulate 45 = .ok (.iconst 0, 1) := by decide +kernel
theorem dX6_simulate_46 : decode cX6_simulate 46 = .ok (.istore 7, 2) := by decide +kernel
theorem dX6_simulate_48 : decode cX6_simulate 48 = .ok (.iload 7, 2) := by decide +kernel
theorem dX6_simulate_50 : decode cX6_simulate 50 = .ok (.iload_n 3, 1) := by decide +kernel
theorem dX6_simulate_51 : decode cX6_simulate 51 = .ok (.if_icmp .ge 38, 3) := by decide +kernel
theorem dX6_simulate_54 : decode cX6_simulate 54 = .ok (.lload 5, 2) := by decide +kernel
theorem dX6_simulate_56 : decode cX6_simulate 56 = .ok (.ldc2_w 252, 3) := by decide +kernel
theorem dX6_simulate_59 : decode cX6_simulate 59 = .ok (.lmul, 1) := by decide +kernel
theorem dX6_simulate_60 : decode cX6_simulate 60 = .ok (.ldc2_w 254, 3) := by decide +kernel
theorem dX6_simulate_63 : decode cX6_simulate 63 = .ok (.ladd, 1) := by decide +kernel
theorem dX6_simulate_64 : decode cX6_simulate 64 = .ok (.lstore 5, 2) := by decide +kernel
theorem dX6_simulate_66 : decode cX6_simulate 66 = .ok (.aload_n 0, 1) := by decide +kernel
theorem dX6_simulate_67 : decode cX6_simulate 67 = .ok (.lload 5, 2) := by decide +kernel
theorem dX6_simulate_69 : decode cX6_simulate 69 = .ok (.bipush 33, 2) := by decide +kernel
theorem dX6_simulate_71 : decode cX6_simulate 71 = .ok (.lushr, 1) := by decide +kernel
theorem dX6_simulate_72 : decode cX6_simulate 72 = .ok (.l2i, 1) := by decide +kernel
theorem dX6_simulate_73 : decode cX6_simulate 73 = .ok (.invokevirtual 256, 3) := by decide +kernel
theorem dX6_simulate_76 : decode cX6_simulate 76 = .ok (.aload_n 0, 1) := by decide +kernel
theorem dX6_simulate_77 : decode cX6_simulate 77 = .ok (.getfield 38, 3) := by decide +kernel
theorem dX6_simulate_80 : decode cX6_simulate 80 = .ok (.invokevirtual 259, 3) := by decide +kernel
theorem dX6_simulate_83 : decode cX6_simulate 83 = .ok (.iinc 7 1, 3) := by decide +kernel
theorem dX6_simulate_86 : decode cX6_simulate 86 = .ok (.goto (-38), 3) := by decide +kernel
theorem dX6_simulate_89 : decode cX6_simulate 89 = .ok (.sipush 1000, 3) := by decide +kernel
theorem dX6_simulate_92 : decode cX6_simulate 92 = .ok (.aload_n 0, 1) := by decide +kernel
theorem dX6_simulate_93 : decode cX6_simulate 93 = .ok (.getfield 38, 3) := by decide +kernel
theorem dX6_simulate_96 : decode cX6_simulate 96 = .ok (.getfield 93, 3) := by decide +kernel
theorem dX6_simulate_99 : decode cX6_simulate 99 = .ok (.iload 4, 2) := by decide +kernel
theorem dX6_simulate_101 : decode cX6_simulate 101 = .ok (.isub, 1) := by decide +kernel
theorem dX6_simulate_102 : decode cX6_simulate 102 = .ok (.imul, 1) := by decide +kernel
theorem dX6_simulate_103 : decode cX6_simulate 103 = .ok (.bipush 10, 2) := by decide +kernel
theorem dX6_simulate_105 : decode cX6_simulate 105 = .ok (.aload_n 0, 1) := by decide +kernel
theorem dX6_simulate_106 : decode cX6_simulate 106 = .ok (.getfield 38, 3) := by decide +kernel
theorem dX6_simulate_109 : decode cX6_simulate 109 = .ok (.invokevirtual 80, 3) := by decide +kernel
theorem dX6_simulate_112 : decode cX6_simulate 112 = .ok (.imul, 1) := by decide +kernel
theorem dX6_simulate_113 : decode cX6_simulate 113 = .ok (.iadd, 1) := by decide +kernel
theorem dX6_simulate_114 : decode cX6_simulate 114 = .ok (.aload_n 0, 1) := by decide +kernel
theorem dX6_simulate_115 : decode cX6_simulate 115 = .ok (.getfield 38, 3) := by decide +kernel
theorem dX6_simulate_118 : decode cX6_simulate 118 = .ok (.invokevirtual 108, 3) := by decide +kernel
theorem dX6_simulate_121 : decode cX6_simulate 121 = .ok (.invokestatic 262, 3) := by decide +kernel
theorem dX6_simulate_124 : decode cX6_simulate 124 = .ok (.iadd, 1) := by decide +kernel
theorem dX6_simulate_125 : decode cX6_simulate 125 = .ok (.ireturn, 1) := by decide +kernel
theorem dX6_save_0 : decode cX6_save 0 = .ok (.aload_n 0, 1) := by decide +kernel
theorem dX6_save_1 : decode cX6_save 1 = .ok (.iload_n 1, 1) := by decide +kernel
theorem dX6_save_2 : decode cX6_save 2 = .ok (.invokevirtual 267, 3) := by decide +kernel
theorem dX6_save_5 : decode cX6_save 5 = .ok (.aload_n 0, 1) := by decide +kernel
theorem dX6_save_6 : decode cX6_save 6 = .ok (.getfield 30, 3) := by decide +kernel
theorem dX6_save_9 : decode cX6_save 9 = .ok (.iload_n 1, 1) := by decide +kernel
theorem dX6_save_10 : decode cX6_save 10 = .ok (.aaload, 1) := by decide +kernel
theorem dX6_save_11 : decode cX6_save 11 = .ok (.aload_n 0, 1) := by decide +kernel
theorem dX6_save_12 : decode cX6_save 12 = .ok (.getfield 19, 3) := by decide +kernel
theorem dX6_save_15 : decode cX6_save 15 = .ok (.invokevirtual 74, 3) := by decide +kernel
theorem dX6_save_18 : decode cX6_save 18 = .ok (.aload_n 0, 1) := by decide +kernel
theorem dX6_save_19 : decode cX6_save 19 = .ok (.getfield 34, 3) := by decide +kernel
theorem dX6_save_22 : decode cX6_save 22 = .ok (.iload_n 1, 1) := by decide +kernel
theorem dX6_save_23 : decode cX6_save 23 = .ok (.iconst 1, 1) := by decide +kernel
theorem dX6_save_24 : decode cX6_save 24 = .ok (.bastore, 1) := by decide +kernel
theorem dX6_save_25 : decode cX6_save 25 = .ok (.aload_n 0, 1) := by decide +kernel
theorem dX6_save_26 : decode cX6_save 26 = .ok (.getfield 19, 3) := by decide +kernel
theorem dX6_save_29 : decode cX6_save 29 = .ok (.getfield 90, 3) := by decide +kernel
theorem dX6_save_32 : decode cX6_save 32 = .ok (.ireturn, 1) := by decide +kernel
theorem dX6_restore_0 : decode cX6_restore 0 = .ok (.aload_n 0, 1) := by decide +kernel
theorem dX6_restore_1 : decode cX6_restore 1 = .ok (.iload_n 1, 1) := by decide +kernel
theorem dX6_restore_2 : decode cX6_restore 2 = .ok (.invokevirtual 267, 3) := by decide +kernel
theorem dX6_restore_5 : decode cX6_restore 5 = .ok (.aload_n 0, 1) := by decide +kernel
theorem dX6_restore_6 : decode cX6_restore 6 = .ok (.getfield 34, 3) := by decide +kernel
theorem dX6_restore_9 : decode cX6_restore 9 = .ok (.iload_n 1, 1) := by decide +kernel
theorem dX6_restore_10 : decode cX6_restore 10 = .ok (.baload, 1) := by decide +kernel
theorem dX6_restore_11 : decode cX6_restore 11 = .ok (.ifCond .ne 14, 3) := by decide +kernel
theorem dX6_restore_14 : decode cX6_restore 14 = .ok (.new 55, 3) := by decide +kernel
theorem dX6_restore_17 : decode cX6_restore 17 = .ok (.dup, 1) := by decide +kernel
theorem dX6_restore_18 : decode cX6_restore 18 = .ok (.ldc_w 270, 3) := by decide +kernel
theorem dX6_restore_21 : decode cX6_restore 21 = .ok (.invokespecial 59, 3) := by decide +kernel
theorem dX6_restore_24 : decode cX6_restore 24 = .ok (.athrow, 1) := by decide +kernel
theorem dX6_restore_25 : decode cX6_restore 25 = .ok (.aload_n 0, 1) := by decide +kernel
theorem dX6_restore_26 : decode cX6_restore 26 = .ok (.getfield 19, 3) := by decide +kernel
theorem dX6_restore_29 : decode cX6_restore 29 = .ok (.aload_n 0, 1) := by decide +kernel
theorem dX6_restore_30 : decode cX6_restore 30 = .ok (.getfield 30, 3) := by decide +kernel
theorem dX6_restore_33 : decode cX6_restore 33 = .ok (.iload_n 1, 1) := by decide +kernel
theorem dX6_restore_34 : decode cX6_restore 34 = .ok (.aaload, 1) := by decide +kernel
theorem dX6_restore_35 : decode cX6_restore 35 = .ok (.invokevirtual 74, 3) := by decide +kernel
theorem dX6_restore_38 : decode cX6_restore 38 = .ok (.aload_n 0, 1) := by decide +kernel
theorem dX6_restore_39 : decode cX6_restore 39 = .ok (.getfield 26, 3) := by decide +kernel
theorem dX6_restore_42 : decode cX6_restore 42 = .ok (.invokevirtual 78, 3) := by decide +kernel
theorem dX6_restore_45 : decode cX6_restore 45 = .ok (.aload_n 0, 1) := by decide +kernel
theorem dX6_restore_46 : decode cX6_restore 46 = .ok (.getfield 19, 3) := by decide +kernel
theorem dX6_restore_49 : decode cX6_restore 49 = .ok (.getfield 90, 3) := by decide +kernel
theorem dX6_restore_52 : decode cX6_restore 52 = .ok (.ireturn, 1) := by decide +kernel
theorem dX6_needMaster_0 : decode cX6_needMaster 0 = .ok (.aload_n 0, 1) := by decide +kernel
theorem dX6_needMaster_1 : decode cX6_needMaster 1 = .ok (.getfield 19, 3) := by decide +kernel
theorem dX6_needMaster_4 : decode cX6_needMaster 4 = .ok (.iload_n 1, 1) := by decide +kernel
theorem dX6_needMaster_5 : decode cX6_needMaster 5 = .ok (.invokevirtual 272, 3) := by decide +kernel
theorem dX6_needMaster_8 : decode cX6_needMaster 8 = .ok (.ifCond .ne 14, 3) := by decide +kernel
theorem dX6_needMaster_11 : decode cX6_needMaster 11 = .ok (.new 275, 3) := by decide +kernel
theorem dX6_needMaster_14 : decode cX6_needMaster 14 = .ok (.dup, 1) := by decide +kernel
theorem dX6_needMaster_15 : decode cX6_needMaster 15 = .ok (.ldc_w 277, 3) := by decide +kernel
theorem dX6_needMaster_18 : decode cX6_needMaster 18 = .ok (.invokespecial 279, 3) := by decide +kernel
theorem dX6_needMaster_21 : decode cX6_needMaster 21 = .ok (.athrow, 1) := by decide +kernel
theorem dX6_needMaster_22 : decode cX6_needMaster 22 = .ok (.return_, 1) := by decide +kernel
theorem dX6_needSlot_0 : decode cX6_needSlot 0 = .ok (.aload_n 0, 1) := by decide +kernel
theorem dX6_needSlot_1 : decode cX6_needSlot 1 = .ok (.getfield 19, 3) := by decide +kernel
theorem dX6_needSlot_4 : decode cX6_needSlot 4 = .ok (.iload_n 1, 1) := by decide +kernel
theorem dX6_needSlot_5 : decode cX6_needSlot 5 = .ok (.invokevirtual 280, 3) := by decide +kernel
theorem dX6_needSlot_8 : decode cX6_needSlot 8 = .ok (.ifCond .ne 14, 3) := by decide +kernel
theorem dX6_needSlot_11 : decode cX6_needSlot 11 = .ok (.new 275, 3) := by decide +kernel
theorem dX6_needSlot_14 : decode cX6_needSlot 14 = .ok (.dup, 1) := by decide +kernel
theorem dX6_needSlot_15 : decode cX6_needSlot 15 = .ok (.ldc_w 283, 3) := by decide +kernel
theorem dX6_needSlot_18 : decode cX6_needSlot 18 = .ok (.invokespecial 279, 3) := by decide +kernel
theorem dX6_needSlot_21 : decode cX6_needSlot 21 = .ok (.athrow, 1) := by decide +kernel
theorem dX6_needSlot_22 : decode cX6_needSlot 22 = .ok (.return_, 1) := by decide +kernel
theorem dX6_needSlave_0 : decode cX6_needSlave 0 = .ok (.iload_n 1, 1) := by decide +kernel
theorem dX6_needSlave_1 : decode cX6_needSlave 1 = .ok (.ifCond .lt 8, 3) := by decide +kernel
theorem dX6_needSlave_4 : decode cX6_needSlave 4 = .ok (.iload_n 1, 1) := by decide +kernel
theorem dX6_needSlave_5 : decode cX6_needSlave 5 = .ok (.iconst 4, 1) := by decide +kernel
theorem dX6_needSlave_6 : decode cX6_needSlave 6 = .ok (.if_icmp .lt 14, 3) := by decide +kernel
theorem dX6_needSlave_9 : decode cX6_needSlave 9 = .ok (.new 275, 3) := by decide +kernel
theorem dX6_needSlave_12 : decode cX6_needSlave 12 = .ok (.dup, 1) := by decide +kernel
theorem dX6_needSlave_13 : decode cX6_needSlave 13 = .ok (.ldc_w 285, 3) := by decide +kernel
theorem dX6_needSlave_16 : decode cX6_needSlave 16 = .ok (.invokespecial 279, 3) := by decide +kernel
theorem dX6_needSlave_19 : decode cX6_needSlave 19 = .ok (.athrow, 1) := by decide +kernel
theorem dX6_needSlave_20 : decode cX6_needSlave 20 = .ok (.return_, 1) := by decide +kernel
theorem dX6_needSaveSlot_0 : decode cX6_needSaveSlot 0 = .ok (.iload_n 1, 1) := by decide +kernel
theorem dX6_needSaveSlot_1 : decode cX6_needSaveSlot 1 = .ok (.ifCond .lt 8, 3) := by decide +kernel
theorem dX6_needSaveSlot_4 : decode cX6_needSaveSlot 4 = .ok (.iload_n 1, 1) := by decide +kernel
theorem dX6_needSaveSlot_5 : decode cX6_needSaveSlot 5 = .ok (.iconst 2, 1) := by decide +kernel
theorem dX6_needSaveSlot_6 : decode cX6_needSaveSlot 6 = .ok (.if_icmp .lt 14, 3) := by decide +kernel
theorem dX6_needSaveSlot_9 : decode cX6_needSaveSlot 9 = .ok (.new 275, 3) := by decide +kernel
theorem dX6_needSaveSlot_12 : decode cX6_needSaveSlot 12 = .ok (.dup, 1) := by decide +kernel
theorem dX6_needSaveSlot_13 : decode cX6_needSaveSlot 13 = .ok (.ldc_w 287, 3) := by decide +kernel
theorem dX6_needSaveSlot_16 : decode cX6_needSaveSlot 16 = .ok (.invokespecial 279, 3) := by decide +kernel
theorem dX6_needSaveSlot_19 : decode cX6_needSaveSlot 19 = .ok (.athrow, 1) := by decide +kernel
theorem dX6_needSaveSlot_20 : decode cX6_needSaveSlot 20 = .ok (.return_, 1) := by decide +kernel
theorem dX6_withoutGroups_0 : decode cX6_withoutGroups 0 = .ok (.lload_n 0, 1) := by decide +kernel
theorem dX6_withoutGroups_1 : decode cX6_withoutGroups 1 = .ok (.lstore_n 3, 1) := by decide +kernel
theorem dX6_withoutGroups_2 : decode cX6_withoutGroups 2 = .ok (.iconst 0, 1) := by decide +kernel
theorem dX6_withoutGroups_3 : decode cX6_withoutGroups 3 = .ok (.istore 5, 2) := by decide +kernel
theorem dX6_withoutGroups_5 : decode cX6_withoutGroups 5 = .ok (.iload 5, 2) := by decide +kernel
theorem dX6_withoutGroups_7 : decode cX6_withoutGroups 7 = .ok (.iload_n 2, 1) := by decide +kernel
theorem dX6_withoutGroups_8 : decode cX6_withoutGroups 8 = .ok (.if_icmp .ge 15, 3) := by decide +kernel
theorem dX6_withoutGroups_11 : decode cX6_withoutGroups 11 = .ok (.lload_n 3, 1) := by decide +kernel
theorem dX6_withoutGroups_12 : decode cX6_withoutGroups 12 = .ok (.ldc2_w 246, 3) := by decide +kernel
theorem dX6_withoutGroups_15 : decode cX6_withoutGroups 15 = .ok (.ldiv, 1) := by decide +kernel
theorem dX6_withoutGroups_16 : decode cX6_withoutGroups 16 = .ok (.lstore_n 3, 1) := by decide +kernel
theorem dX6_withoutGroups_17 : decode cX6_withoutGroups 17 = .ok (.iinc 5 1, 3) := by decide +kernel
theorem dX6_withoutGroups_20 : decode cX6_withoutGroups 20 = .ok (.goto (-15), 3) := by decide +kernel
theorem dX6_withoutGroups_23 : decode cX6_withoutGroups 23 = .ok (.lload_n 3, 1) := by decide +kernel
theorem dX6_withoutGroups_24 : decode cX6_withoutGroups 24 = .ok (.lreturn, 1) := by decide +kernel
theorem dX6_succeeds_0 : decode cX6_succeeds 0 = .ok (.iload_n 1, 1) := by decide +kernel
theorem dX6_succeeds_1 : decode cX6_succeeds 1 = .ok (.sipush 1000, 3) := by decide +kernel
theorem dX6_succeeds_4 : decode cX6_succeeds 4 = .ok (.idiv, 1) := by decide +kernel
theorem dX6_succeeds_5 : decode cX6_succeeds 5 = .ok (.bipush 10, 2) := by decide +kernel
theorem dX6_succeeds_7 : decode cX6_succeeds 7 = .ok (.irem, 1) := by decide +kernel
theorem dX6_succeeds_8 : decode cX6_succeeds 8 = .ok (.istore_n 2, 1) := by decide +kernel
theorem dX6_succeeds_9 : decode cX6_succeeds 9 = .ok (.iload_n 1, 1) := by decide +kernel
theorem dX6_succeeds_10 : decode cX6_succeeds 10 = .ok (.bipush 100, 2) := by decide +kernel
theorem dX6_succeeds_12 : decode cX6_succeeds 12 = .ok (.idiv, 1) := by decide +kernel
theorem dX6_succeeds_13 : decode cX6_succeeds 13 = .ok (.bipush 10, 2) := by decide +kernel
theorem dX6_succeeds_15 : decode cX6_succeeds 15 = .ok (.irem, 1) := by decide +kernel
theorem dX6_succeeds_16 : decode cX6_succeeds 16 = .ok (.istore_n 3, 1) := by decide +kernel
theorem dX6_succeeds_17 : decode cX6_succeeds 17 = .ok (.iload_n 1, 1) := by decide +kernel
theorem dX6_succeeds_18 : decode cX6_succeeds 18 = .ok (.bipush 10, 2) := by decide +kernel
theorem dX6_succeeds_20 : decode cX6_succeeds 20 = .ok (.idiv, 1) := by decide +kernel
theorem dX6_succeeds_21 : decode cX6_succeeds 21 = .ok (.bipush 10, 2) := by decide +kernel
theorem dX6_succeeds_23 : decode cX6_succeeds 23 = .ok (.irem, 1) := by decide +kernel
theorem dX6_succeeds_24 : decode cX6_succeeds 24 = .ok (.istore 4, 2) := by decide +kernel
theorem dX6_succeeds_26 : decode cX6_succeeds 26 = .ok (.iload_n 1, 1) := by decide +kernel
theorem dX6_succeeds_27 : decode cX6_succeeds 27 = .ok (.bipush 10, 2) := by decide +kernel
theorem dX6_succeeds_29 : decode cX6_succeeds 29 = .ok (.irem, 1) := by decide +kernel
theorem dX6_succeeds_30 : decode cX6_succeeds 30 = .ok (.istore 5, 2) := by decide +kernel
theorem dX6_succeeds_32 : decode cX6_succeeds 32 = .ok (.bipush 10, 2) := by decide +kernel
theorem dX6_succeeds_34 : decode cX6_succeeds 34 = .ok (.iload 4, 2) := by decide +kernel
theorem dX6_succeeds_36 : decode cX6_succeeds 36 = .ok (.imul, 1) := by decide +kernel
theorem dX6_succeeds_37 : decode cX6_succeeds 37 = .ok (.iload 5, 2) := by decide +kernel
theorem dX6_succeeds_39 : decode cX6_succeeds 39 = .ok (.iadd, 1) := by decide +kernel
theorem dX6_succeeds_40 : decode cX6_succeeds 40 = .ok (.istore 6, 2) := by decide +kernel
theorem dX6_succeeds_42 : decode cX6_succeeds 42 = .ok (.iload_n 1, 1) := by decide +kernel
theorem dX6_succeeds_43 : decode cX6_succeeds 43 = .ok (.sipush 10000, 3) := by decide +kernel
theorem dX6_succeeds_46 : decode cX6_succeeds 46 = .ok (.idiv, 1) := by decide +kernel
theorem dX6_succeeds_47 : decode cX6_succeeds 47 = .ok (.tableswitch 361 1 9 #[49, 76, 110, 136, 156, 177, 215, 253, 311], 49) := by decide +kernel
theorem dX6_succeeds_96 : decode cX6_succeeds 96 = .ok (.iload_n 2, 1) := by decide +kernel
theorem dX6_succeeds_97 : decode cX6_succeeds 97 = .ok (.ifCond .ne 13, 3) := by decide +kernel
theorem dX6_succeeds_100 : decode cX6_succeeds 100 = .ok (.iload_n 3, 1) := by decide +kernel
theorem dX6_succeeds_101 : decode cX6_succeeds 101 = .ok (.ifCond .ne 9, 3) := by decide +kernel
theorem dX6_succeeds_104 : decode cX6_succeeds 104 = .ok (.iload 6, 2) := by decide +kernel
theorem dX6_succeeds_106 : decode cX6_succeeds 106 = .ok (.iconst 1, 1) := by decide +kernel
theorem dX6_succeeds_107 : decode cX6_succeeds 107 = .ok (.if_icmp .ge 5, 3) := by decide +kernel
theorem dX6_succeeds_110 : decode cX6_succeeds 110 = .ok (.iconst 0, 1) := by decide +kernel
theorem dX6_succeeds_111 : decode cX6_succeeds 111 = .ok (.ireturn, 1) := by decide +kernel
theorem dX6_succeeds_112 : decode cX6_succeeds 112 = .ok (.aload_n 0, 1) := by decide +kernel
theorem dX6_succeeds_113 : decode cX6_succeeds 113 = .ok (.getfield 38, 3) := by decide +kernel
theorem dX6_succeeds_116 : decode cX6_succeeds 116 = .ok (.iload 6, 2) := by decide +kernel
theorem dX6_succeeds_118 : decode cX6_succeeds 118 = .ok (.invokevirtual 227, 3) := by decide +kernel
theorem dX6_succeeds_121 : decode cX6_succeeds 121 = .ok (.iconst 1, 1) := by decide +kernel
theorem dX6_succeeds_122 : decode cX6_succeeds 122 = .ok (.ireturn, 1) := by decide +kernel
theorem dX6_succeeds_123 : decode cX6_succeeds 123 = .ok (.iload 5, 2) := by decide +kernel
theorem dX6_succeeds_125 : decode cX6_succeeds 125 = .ok (.iconst 1, 1) := by decide +kernel
theorem dX6_succeeds_126 : decode cX6_succeeds 126 = .ok (.if_icmp .gt 29, 3) := by decide +kernel
theorem dX6_succeeds_129 : decode cX6_succeeds 129 = .ok (.aload_n 0, 1) := by decide +kernel
theorem dX6_succeeds_130 : decode cX6_succeeds 130 = .ok (.iload_n 2, 1) := by decide +kernel
theorem dX6_succeeds_131 : decode cX6_succeeds 131 = .ok (.iload_n 3, 1) := by decide +kernel
theorem dX6_succeeds_132 : decode cX6_succeeds 132 = .ok (.iload 4, 2) := by decide +kernel
theorem dX6_succeeds_134 : decode cX6_succeeds 134 = .ok (.iload 5, 2) := by decide +kernel
theorem dX6_succeeds_136 : decode cX6_succeeds 136 = .ok (.iconst 1, 1) := by decide +kernel
theorem dX6_succeeds_137 : decode cX6_succeeds 137 = .ok (.if_icmp .ne 7, 3) := by decide +kernel
theorem dX6_succeeds_140 : decode cX6_succeeds 140 = .ok (.iconst 1, 1) := by decide +kernel
theorem dX6_succeeds_141 : decode cX6_succeeds 141 = .ok (.goto 4, 3) := by decide +kernel
theorem dX6_succeeds_144 : decode cX6_succeeds 144 = .ok (.iconst 0, 1) := by decide +kernel
theorem dX6_succeeds_145 : decode cX6_succeeds 145 = .ok (.invokevirtual 289, 3) := by decide +kernel
theorem dX6_succeeds_148 : decode cX6_succeeds 148 = .ok (.ifCond .eq 7, 3) := by decide +kernel
theorem dX6_succeeds_151 : decode cX6_succeeds 151 = .ok (.iconst 1, 1) := by decide +kernel
theorem dX6_succeeds_152 : decode cX6_succeeds 152 = .ok (.goto 4, 3) := by decide +kernel
theorem dX6_succeeds_155 : decode cX6_succeeds 155 = .ok (.iconst 0, 1) := by decide +kernel
theorem dX6_succeeds_156 : decode cX6_succeeds 156 = .ok (.ireturn, 1) := by decide +kernel
theorem dX6_succeeds_157 : decode cX6_succeeds 157 = .ok (.iload 5, 2) := by decide +kernel
theorem dX6_succeeds_159 : decode cX6_succeeds 159 = .ok (.ifCond .ne 22, 3) := by decide +kernel
theorem dX6_succeeds_162 : decode cX6_succeeds 162 = .ok (.aload_n 0, 1) := by decide +kernel
theorem dX6_succeeds_163 : decode cX6_succeeds 163 = .ok (.bipush 10, 2) := by decide +kernel
theorem dX6_succeeds_165 : decode cX6_succeeds 165 = .ok (.iload_n 2, 1) := by decide +kernel
theorem dX6_succeeds_166 : decode cX6_succeeds 166 = .ok (.imul, 1) := by decide +kernel
theorem dX6_succeeds_167 : decode cX6_succeeds 167 = .ok (.iload_n 3, 1) := by decide +kernel
theorem dX6_succeeds_168 : decode cX6_succeeds 168 = .ok (.iadd, 1) := by decide +kernel
theorem dX6_succeeds_169 : decode cX6_succeeds 169 = .ok (.iload 4, 2) := by decide +kernel
theorem dX6_succeeds_171 : decode cX6_succeeds 171 = .ok (.invokevirtual 293, 3) := by decide +kernel
theorem dX6_succeeds_174 : decode cX6_succeeds 174 = .ok (.ifCond .eq 7, 3) := by decide +kernel
theorem dX6_succeeds_177 : decode cX6_succeeds 177 = .ok (.iconst 1, 1) := by decide +kernel
theorem dX6_succeeds_178 : decode cX6_succeeds 178 = .ok (.goto 4, 3) := by decide +kernel
theorem dX6_succeeds_181 : decode cX6_succeeds 181 = .ok (.iconst 0, 1) := by decide +kernel
theorem dX6_succeeds_182 : decode cX6_succeeds 182 = .ok (.ireturn, 1) := by decide +kernel
theorem dX6_succeeds_183 : decode cX6_succeeds 183 = .ok (.iload 6, 2) := by decide +kernel
theorem dX6_succeeds_185 : decode cX6_succeeds 185 = .ok (.ifCond .ne 16, 3) := by decide +kernel
theorem dX6_succeeds_188 : decode cX6_succeeds 188 = .ok (.aload_n 0, 1) := by decide +kernel
theorem dX6_succeeds_189 : decode cX6_succeeds 189 = .ok (.iload_n 2, 1) := by decide +kernel
theorem dX6_succeeds_190 : decode cX6_succeeds 190 = .ok (.iload_n 3, 1) := by decide +kernel
theorem dX6_succeeds_191 : decode cX6_succeeds 191 = .ok (.invokevirtual 297, 3) := by decide +kernel
theorem dX6_succeeds_194 : decode cX6_succeeds 194 = .ok (.ifCond .eq 7, 3) := by decide +kernel
theorem dX6_succeeds_197 : decode cX6_succeeds 197 = .ok (.iconst 1, 1) := by decide +kernel
theorem dX6_succeeds_198 : decode cX6_succeeds 198 = .ok (.goto 4, 3) := by decide +kernel
theorem dX6_succeeds_201 : decode cX6_succeeds 201 = .ok (.iconst 0, 1) := by decide +kernel
theorem dX6_succeeds_202 : decode cX6_succeeds 202 = .ok (.ireturn, 1) := by decide +kernel
theorem dX6_succeeds_203 : decode cX6_succeeds 203 = .ok (.iload_n 3, 1) := by decide +kernel
theorem dX6_succeeds_204 : decode cX6_succeeds 204 = .ok (.ifCond .ne 8, 3) := by decide +kernel
theorem dX6_succeeds_207 : decode cX6_succeeds 207 = .ok (.iload 6, 2) := by decide +kernel
theorem dX6_succeeds_209 : decode cX6_succeeds 209 = .ok (.ifCond .eq 5, 3) := by decide +kernel
theorem dX6_succeeds_212 : decode cX6_succeeds 212 = .ok (.iconst 0, 1) := by decide +kernel
theorem dX6_succeeds_213 : decode cX6_succeeds 213 = .ok (.ireturn, 1) := by decide +kernel
theorem dX6_succeeds_214 : decode cX6_succeeds 214 = .ok (.aload_n 0, 1) := by decide +kernel
theorem dX6_succeeds_215 : decode cX6_succeeds 215 = .ok (.getfield 38, 3) := by decide +kernel
theorem dX6_succeeds_218 : decode cX6_succeeds 218 = .ok (.iload_n 2, 1) := by decide +kernel
theorem dX6_succeeds_219 : decode cX6_succeeds 219 = .ok (.putfield 96, 3) := by decide +kernel
theorem dX6_succeeds_222 : decode cX6_succeeds 222 = .ok (.iconst 1, 1) := by decide +kernel
theorem dX6_succeeds_223 : decode cX6_succeeds 223 = .ok (.ireturn, 1) := by decide +kernel
theorem dX6_succeeds_224 : decode cX6_succeeds 224 = .ok (.iload_n 3, 1) := by decide +kernel
theorem dX6_succeeds_225 : decode cX6_succeeds 225 = .ok (.ifCond .ne 35, 3) := by decide +kernel
theorem dX6_succeeds_228 : decode cX6_succeeds 228 = .ok (.aload_n 0, 1) := by decide +kernel
theorem dX6_succeeds_229 : decode cX6_succeeds 229 = .ok (.getfield 38, 3) := by decide +kernel
theorem dX6_succeeds_232 : decode cX6_succeeds 232 = .ok (.iload_n 2, 1) := by decide +kernel
theorem dX6_succeeds_233 : decode cX6_succeeds 233 = .ok (.invokevirtual 272, 3) := by decide +kernel
theorem dX6_succeeds_236 : decode cX6_succeeds 236 = .ok (.ifCond .eq 24, 3) := by decide +kernel
theorem dX6_succeeds_239 : decode cX6_succeeds 239 = .ok (.aload_n 0, 1) := by decide +kernel
theorem dX6_succeeds_240 : decode cX6_succeeds 240 = .ok (.getfield 38, 3) := by decide +kernel
theorem dX6_succeeds_243 : decode cX6_succeeds 243 = .ok (.getfield 117, 3) := by decide +kernel
theorem dX6_succeeds_246 : decode cX6_succeeds 246 = .ok (.iload_n 2, 1) := by decide +kernel
theorem dX6_succeeds_247 : decode cX6_succeeds 247 = .ok (.aaload, 1) := by decide +kernel
theorem dX6_succeeds_248 : decode cX6_succeeds 248 = .ok (.invokevirtual 125, 3) := by decide +kernel
theorem dX6_succeeds_251 : decode cX6_succeeds 251 = .ok (.iload 6, 2) := by decide +kernel
theorem dX6_succeeds_253 : decode cX6_succeeds 253 = .ok (.if_icmp .gt 7, 3) := by decide +kernel
theorem dX6_succeeds_256 : decode cX6_succeeds 256 = .ok (.iconst 1, 1) := by decide +kernel
theorem dX6_succeeds_257 : decode cX6_succeeds 257 = .ok (.goto 4, 3) := by decide +kernel
theorem dX6_succeeds_260 : decode cX6_succeeds 260 = .ok (.iconst 0, 1) := by decide +kernel
theorem dX6_succeeds_261 : decode cX6_succeeds 261 = .ok (.ireturn, 1) := by decide +kernel
theorem dX6_succeeds_262 : decode cX6_succeeds 262 = .ok (.iload_n 3, 1) := by decide +kernel
theorem dX6_succeeds_263 : decode cX6_succeeds 263 = .ok (.ifCond .ne 35, 3) := by decide +kernel
theorem dX6_succeeds_266 : decode cX6_succeeds 266 = .ok (.aload_n 0, 1) := by decide +kernel
theorem dX6_succeeds_267 : decode cX6_succeeds 267 = .ok (.getfield 38, 3) := by decide +kernel
theorem dX6_succeeds_270 : decode cX6_succeeds 270 = .ok (.iload_n 2, 1) := by decide +kernel
theorem dX6_succeeds_271 : decode cX6_succeeds 271 = .ok (.invokevirtual 272, 3) := by decide +kernel
theorem dX6_succeeds_274 : decode cX6_succeeds 274 = .ok (.ifCond .eq 24, 3) := by decide +kernel
theorem dX6_succeeds_277 : decode cX6_succeeds 277 = .ok (.aload_n 0, 1) := by decide +kernel
theorem dX6_succeeds_278 : decode cX6_succeeds 278 = .ok (.getfield 38, 3) := by decide +kernel
theorem dX6_succeeds_281 : decode cX6_succeeds 281 = .ok (.getfield 117, 3) := by decide +kernel
theorem dX6_succeeds_284 : decode cX6_succeeds 284 = .ok (.iload_n 2, 1) := by decide +kernel
theorem dX6_succeeds_285 : decode cX6_succeeds 285 = .ok (.aaload, 1) := by decide +kernel
theorem dX6_succeeds_286 : decode cX6_succeeds 286 = .ok (.getfield 145, 3) := by decide +kernel
theorem dX6_succeeds_289 : decode cX6_succeeds 289 = .ok (.iload 6, 2) := by decide +kernel
theorem dX6_succeeds_291 : decode cX6_succeeds 291 = .ok (.if_icmp .gt 7, 3) := by decide +kernel
theorem dX6_succeeds_294 : decode cX6_succeeds 294 = .ok (.iconst 1, 1) := by decide +kernel
theorem dX6_succeeds_295 : decode cX6_succeeds 295 = .ok (.goto 4, 3) := by decide +kernel
theorem dX6_succeeds_298 : decode cX6_succeeds 298 = .ok (.iconst 0, 1) := by decide +kernel
theorem dX6_succeeds_299 : decode cX6_succeeds 299 = .ok (.ireturn, 1) := by decide +kernel
theorem dX6_succeeds_300 : decode cX6_succeeds 300 = .ok (.iload_n 3, 1) := by decide +kernel
theorem dX6_succeeds_301 : decode cX6_succeeds 301 = .ok (.ifCond .ne 55, 3) := by decide +kernel
theorem dX6_succeeds_304 : decode cX6_succeeds 304 = .ok (.iload 4, 2) := by decide +kernel
theorem dX6_succeeds_306 : decode cX6_succeeds 306 = .ok (.ifCond .ne 50, 3) := by decide +kernel
theorem dX6_succeeds_309 : decode cX6_succeeds 309 = .ok (.iload 5, 2) := by decide +kernel
theorem dX6_succeeds_311 : decode cX6_succeeds 311 = .ok (.iconst 1, 1) := by decide +kernel
theorem dX6_succeeds_312 : decode cX6_succeeds 312 = .ok (.if_icmp .gt 44, 3) := by decide +kernel
theorem dX6_succeeds_315 : decode cX6_succeeds 315 = .ok (.aload_n 0, 1) := by decide +kernel
theorem dX6_succeeds_316 : decode cX6_succeeds 316 = .ok (.getfield 38, 3) := by decide +kernel
theorem dX6_succeeds_319 : decode cX6_succeeds 319 = .ok (.iload_n 2, 1) := by decide +kernel
theorem dX6_succeeds_320 : decode cX6_succeeds 320 = .ok (.invokevirtual 272, 3) := by decide +kernel
theorem dX6_succeeds_323 : decode cX6_succeeds 323 = .ok (.ifCond .eq 33, 3) := by decide +kernel
theorem dX6_succeeds_326 : decode cX6_succeeds 326 = .ok (.aload_n 0, 1) := by decide +kernel
theorem dX6_succeeds_327 : decode cX6_succeeds 327 = .ok (.getfield 38, 3) := by decide +kernel
theorem dX6_succeeds_330 : decode cX6_succeeds 330 = .ok (.getfield 117, 3) := by decide +kernel
theorem dX6_succeeds_333 : decode cX6_succeeds 333 = .ok (.iload_n 2, 1) := by decide +kernel
theorem dX6_succeeds_334 : decode cX6_succeeds 334 = .ok (.aaload, 1) := by decide +kernel
theorem dX6_succeeds_335 : decode cX6_succeeds 335 = .ok (.getfield 199, 3) := by decide +kernel
theorem dX6_succeeds_338 : decode cX6_succeeds 338 = .ok (.iload 5, 2) := by decide +kernel
theorem dX6_succeeds_340 : decode cX6_succeeds 340 = .ok (.iconst 1, 1) := by decide +kernel
theorem dX6_succeeds_341 : decode cX6_succeeds 341 = .ok (.if_icmp .ne 7, 3) := by decide +kernel
theorem dX6_succeeds_344 : decode cX6_succeeds 344 = .ok (.iconst 1, 1) := by decide +kernel
theorem dX6_succeeds_345 : decode cX6_succeeds 345 = .ok (.goto 4, 3) := by decide +kernel
theorem dX6_succeeds_348 : decode cX6_succeeds 348 = .ok (.iconst 0, 1) := by decide +kernel
theorem dX6_succeeds_349 : decode cX6_succeeds 349 = .ok (.if_icmp .ne 7, 3) := by decide +kernel
theorem dX6_succeeds_352 : decode cX6_succeeds 352 = .ok (.iconst 1, 1) := by decide +kernel
theorem dX6_succeeds_353 : decode cX6_succeeds 353 = .ok (.goto 4, 3) := by decide +kernel
theorem dX6_succeeds_356 : decode cX6_succeeds 356 = .ok (.iconst 0, 1) := by decide +kernel
theorem dX6_succeeds_357 : decode cX6_succeeds 357 = .ok (.ireturn, 1) := by decide +kernel
theorem dX6_succeeds_358 : decode cX6_succeeds 358 = .ok (.iload_n 3, 1) := by decide +kernel
theorem dX6_succeeds_359 : decode cX6_succeeds 359 = .ok (.ifCond .ne 14, 3) := by decide +kernel
theorem dX6_succeeds_362 : decode cX6_succeeds 362 = .ok (.aload_n 0, 1) := by decide +kernel
theorem dX6_succeeds_363 : decode cX6_succeeds 363 = .ok (.getfield 38, 3) := by decide +kernel
theorem dX6_succeeds_366 : decode cX6_succeeds 366 = .ok (.iload_n 2, 1) := by decide +kernel
theorem dX6_succeeds_367 : decode cX6_succeeds 367 = .ok (.invokevirtual 272, 3) := by decide +kernel
theorem dX6_succeeds_370 : decode cX6_succeeds 370 = .ok (.ifCond .ne 5, 3) := by decide +kernel
theorem dX6_succeeds_373 : decode cX6_succeeds 373 = .ok (.iconst 0, 1) := by decide +kernel
theorem dX6_succeeds_374 : decode cX6_succeeds 374 = .ok (.ireturn, 1) := by decide +kernel
theorem dX6_succeeds_375 : decode cX6_succeeds 375 = .ok (.aload_n 0, 1) := by decide +kernel
theorem dX6_succeeds_376 : decode cX6_succeeds 376 = .ok (.getfield 41, 3) := by decide +kernel
theorem dX6_succeeds_379 : decode cX6_succeeds 379 = .ok (.aload_n 0, 1) := by decide +kernel
theorem dX6_succeeds_380 : decode cX6_succeeds 380 = .ok (.getfield 38, 3) := by decide +kernel
theorem dX6_succeeds_383 : decode cX6_succeeds 383 = .ok (.invokevirtual 74, 3) := by decide +kernel
theorem dX6_succeeds_386 : decode cX6_succeeds 386 = .ok (.aload_n 0, 1) := by decide +kernel
theorem dX6_succeeds_387 : decode cX6_succeeds 387 = .ok (.getfield 41, 3) := by decide +kernel
theorem dX6_succeeds_390 : decode cX6_succeeds 390 = .ok (.iload_n 2, 1) := by decide +kernel
theorem dX6_succeeds_391 : decode cX6_succeeds 391 = .ok (.iload_n 2, 1) := by decide +kernel
theorem dX6_succeeds_392 : decode cX6_succeeds 392 = .ok (.iload 6, 2) := by decide +kernel
theorem dX6_succeeds_394 : decode cX6_succeeds 394 = .ok (.invokevirtual 236, 3) := by decide +kernel
theorem dX6_succeeds_397 : decode cX6_succeeds 397 = .ok (.iload 6, 2) := by decide +kernel
theorem dX6_succeeds_399 : decode cX6_succeeds 399 = .ok (.if_icmp .gt 7, 3) := by decide +kernel
theorem dX6_succeeds_402 : decode cX6_succeeds 402 = .ok (.iconst 1, 1) := by decide +kernel
theorem dX6_succeeds_403 : decode cX6_succeeds 403 = .ok (.goto 4, 3) := by decide +kernel
theorem dX6_succeeds_406 : decode cX6_succeeds 406 = .ok (.iconst 0, 1) := by decide +kernel
theorem dX6_succeeds_407 : decode cX6_succeeds 407 = .ok (.ireturn, 1) := by decide +kernel
theorem dX6_succeeds_408 : decode cX6_succeeds 408 = .ok (.iconst 0, 1) := by decide +kernel
theorem dX6_succeeds_409 : decode cX6_succeeds 409 = .ok (.ireturn, 1) := by decide +kernel
theorem dX6_runsSend_0 : decode cX6_runsSend 0 = .ok (.aload_n 0, 1) := by decide +kernel
theorem dX6_runsSend_1 : decode cX6_runsSend 1 = .ok (.getfield 38, 3) := by decide +kernel
theorem dX6_runsSend_4 : decode cX6_runsSend 4 = .ok (.iload_n 1, 1) := by decide +kernel
theorem dX6_runsSend_5 : decode cX6_runsSend 5 = .ok (.invokevirtual 272, 3) := by decide +kernel
theorem dX6_runsSend_8 : decode cX6_runsSend 8 = .ok (.ifCond .eq 34, 3) := by decide +kernel
theorem dX6_runsSend_11 : decode cX6_runsSend 11 = .ok (.iload_n 2, 1) := by decide +kernel
theorem dX6_runsSend_12 : decode cX6_runsSend 12 = .ok (.iconst 4, 1) := by decide +kernel
theorem dX6_runsSend_13 : decode cX6_runsSend 13 = .ok (.if_icmp .ge 29, 3) := by decide +kernel
theorem dX6_runsSend_16 : decode cX6_runsSend 16 = .ok (.iload_n 3, 1) := by decide +kernel
theorem dX6_runsSend_17 : decode cX6_runsSend 17 = .ok (.iconst 1, 1) := by decide +kernel
theorem dX6_runsSend_18 : decode cX6_runsSend 18 = .ok (.if_icmp .lt 24, 3) := by decide +kernel
theorem dX6_runsSend_21 : decode cX6_runsSend 21 = .ok (.iload_n 3, 1) := by decide +kernel
theorem dX6_runsSend_22 : decode cX6_runsSend 22 = .ok (.bipush 8, 2) := by decide +kernel
theorem dX6_runsSend_24 : decode cX6_runsSend 24 = .ok (.if_icmp .gt 18, 3) := by decide +kernel
theorem dX6_runsSend_27 : decode cX6_runsSend 27 = .ok (.aload_n 0, 1) := by decide +kernel
theorem dX6_runsSend_28 : decode cX6_runsSend 28 = .ok (.getfield 38, 3) := by decide +kernel
theorem dX6_runsSend_31 : decode cX6_runsSend 31 = .ok (.getfield 117, 3) := by decide +kernel
theorem dX6_runsSend_34 : decode cX6_runsSend 34 = .ok (.iload_n 1, 1) := by decide +kernel
theorem dX6_runsSend_35 : decode cX6_runsSend 35 = .ok (.aaload, 1) := by decide +kernel
theorem dX6_runsSend_36 : decode cX6_runsSend 36 = .ok (.invokevirtual 217, 3) := by decide +kernel
theorem dX6_runsSend_39 : decode cX6_runsSend 39 = .ok (.ifCond .ne 5, 3) := by decide +kernel
theorem dX6_runsSend_42 : decode cX6_runsSend 42 = .ok (.iconst 0, 1) := by decide +kernel
theorem dX6_runsSend_43 : decode cX6_runsSend 43 = .ok (.ireturn, 1) := by decide +kernel
theorem dX6_runsSend_44 : decode cX6_runsSend 44 = .ok (.aload_n 0, 1) := by decide +kernel
theorem dX6_runsSend_45 : decode cX6_runsSend 45 = .ok (.getfield 38, 3) := by decide +kernel
theorem dX6_runsSend_48 : decode cX6_runsSend 48 = .ok (.getfield 117, 3) := by decide +kernel
theorem dX6_runsSend_51 : decode cX6_runsSend 51 = .ok (.iload_n 1, 1) := by decide +kernel
theorem dX6_runsSend_52 : decode cX6_runsSend 52 = .ok (.aaload, 1) := by decide +kernel
theorem dX6_runsSend_53 : decode cX6_runsSend 53 = .ok (.getfield 133, 3) := by decide +kernel
theorem dX6_runsSend_56 : decode cX6_runsSend 56 = .ok (.iload_n 2, 1) := by decide +kernel
theorem dX6_runsSend_57 : decode cX6_runsSend 57 = .ok (.iload_n 3, 1) := by decide +kernel
theorem dX6_runsSend_58 : decode cX6_runsSend 58 = .ok (.iload 4, 2) := by decide +kernel
theorem dX6_runsSend_60 : decode cX6_runsSend 60 = .ok (.invokevirtual 222, 3) := by decide +kernel
theorem dX6_runsSend_63 : decode cX6_runsSend 63 = .ok (.iconst 1, 1) := by decide +kernel
theorem dX6_runsSend_64 : decode cX6_runsSend 64 = .ok (.ireturn, 1) := by decide +kernel
theorem dX6_runsGive_0 : decode cX6_runsGive 0 = .ok (.aload_n 0, 1) := by decide +kernel
theorem dX6_runsGive_1 : decode cX6_runsGive 1 = .ok (.getfield 38, 3) := by decide +kernel
theorem dX6_runsGive_4 : decode cX6_runsGive 4 = .ok (.iload_n 1, 1) := by decide +kernel
theorem dX6_runsGive_5 : decode cX6_runsGive 5 = .ok (.invokevirtual 280, 3) := by decide +kernel
theorem dX6_runsGive_8 : decode cX6_runsGive 8 = .ok (.ifCond .eq 29, 3) := by decide +kernel
theorem dX6_runsGive_11 : decode cX6_runsGive 11 = .ok (.aload_n 0, 1) := by decide +kernel
theorem dX6_runsGive_12 : decode cX6_runsGive 12 = .ok (.getfield 38, 3) := by decide +kernel
theorem dX6_runsGive_15 : decode cX6_runsGive 15 = .ok (.iload_n 2, 1) := by decide +kernel
theorem dX6_runsGive_16 : decode cX6_runsGive 16 = .ok (.invokevirtual 272, 3) := by decide +kernel
theorem dX6_runsGive_19 : decode cX6_runsGive 19 = .ok (.ifCond .eq 18, 3) := by decide +kernel
theorem dX6_runsGive_22 : decode cX6_runsGive 22 = .ok (.aload_n 0, 1) := by decide +kernel
theorem dX6_runsGive_23 : decode cX6_runsGive 23 = .ok (.getfield 38, 3) := by decide +kernel
theorem dX6_runsGive_26 : decode cX6_runsGive 26 = .ok (.getfield 117, 3) := by decide +kernel
theorem dX6_runsGive_29 : decode cX6_runsGive 29 = .ok (.iload_n 2, 1) := by decide +kernel
theorem dX6_runsGive_30 : decode cX6_runsGive 30 = .ok (.aaload, 1) := by decide +kernel
theorem dX6_runsGive_31 : decode cX6_runsGive 31 = .ok (.getfield 199, 3) := by decide +kernel
theorem dX6_runsGive_34 : decode cX6_runsGive 34 = .ok (.ifCond .eq 5, 3) := by decide +kernel
theorem dX6_runsGive_37 : decode cX6_runsGive 37 = .ok (.iconst 0, 1) := by decide +kernel
theorem dX6_runsGive_38 : decode cX6_runsGive 38 = .ok (.ireturn, 1) := by decide +kernel
theorem dX6_runsGive_39 : decode cX6_runsGive 39 = .ok (.aload_n 0, 1) := by decide +kernel
theorem dX6_runsGive_40 : decode cX6_runsGive 40 = .ok (.getfield 38, 3) := by decide +kernel
theorem dX6_runsGive_43 : decode cX6_runsGive 43 = .ok (.getfield 168, 3) := by decide +kernel
theorem dX6_runsGive_46 : decode cX6_runsGive 46 = .ok (.iload_n 1, 1) := by decide +kernel
theorem dX6_runsGive_47 : decode cX6_runsGive 47 = .ok (.iload_n 2, 1) := by decide +kernel
theorem dX6_runsGive_48 : decode cX6_runsGive 48 = .ok (.iastore, 1) := by decide +kernel
theorem dX6_runsGive_49 : decode cX6_runsGive 49 = .ok (.iconst 1, 1) := by decide +kernel
theorem dX6_runsGive_50 : decode cX6_runsGive 50 = .ok (.ireturn, 1) := by decide +kernel
theorem dX6_runsForgive_0 : decode cX6_runsForgive 0 = .ok (.aload_n 0, 1) := by decide +kernel
theorem dX6_runsForgive_1 : decode cX6_runsForgive 1 = .ok (.getfield 38, 3) := by decide +kernel
theorem dX6_runsForgive_4 : decode cX6_runsForgive 4 = .ok (.iload_n 1, 1) := by decide +kernel
theorem dX6_runsForgive_5 : decode cX6_runsForgive 5 = .ok (.invokevirtual 272, 3) := by decide +kernel
theorem dX6_runsForgive_8 : decode cX6_runsForgive 8 = .ok (.ifCond .eq 14, 3) := by decide +kernel
theorem dX6_runsForgive_11 : decode cX6_runsForgive 11 = .ok (.aload_n 0, 1) := by decide +kernel
theorem dX6_runsForgive_12 : decode cX6_runsForgive 12 = .ok (.getfield 38, 3) := by decide +kernel
theorem dX6_runsForgive_15 : decode cX6_runsForgive 15 = .ok (.iload_n 2, 1) := by decide +kernel
theorem dX6_runsForgive_16 : decode cX6_runsForgive 16 = .ok (.invokevirtual 272, 3) := by decide +kernel
theorem dX6_runsForgive_19 : decode cX6_runsForgive 19 = .ok (.ifCond .ne 5, 3) := by decide +kernel
theorem dX6_runsForgive_22 : decode cX6_runsForgive 22 = .ok (.iconst 0, 1) := by decide +kernel
theorem dX6_runsForgive_23 : decode cX6_runsForgive 23 = .ok (.ireturn, 1) := by decide +kernel
theorem dX6_runsForgive_24 : decode cX6_runsForgive 24 = .ok (.aload_n 0, 1) := by decide +kernel
theorem dX6_runsForgive_25 : decode cX6_runsForgive 25 = .ok (.getfield 38, 3) := by decide +kernel
theorem dX6_runsForgive_28 : decode cX6_runsForgive 28 = .ok (.getfield 117, 3) := by decide +kernel
theorem dX6_runsForgive_31 : decode cX6_runsForgive 31 = .ok (.iload_n 1, 1) := by decide +kernel
theorem dX6_runsForgive_32 : decode cX6_runsForgive 32 = .ok (.aaload, 1) := by decide +kernel
theorem dX6_runsForgive_33 : decode cX6_runsForgive 33 = .ok (.getfield 172, 3) := by decide +kernel
theorem dX6_runsForgive_36 : decode cX6_runsForgive 36 = .ok (.iload_n 2, 1) := by decide +kernel
theorem dX6_runsForgive_37 : decode cX6_runsForgive 37 = .ok (.iconst 0, 1) := by decide +kernel
theorem dX6_runsForgive_38 : decode cX6_runsForgive 38 = .ok (.iastore, 1) := by decide +kernel
theorem dX6_runsForgive_39 : decode cX6_runsForgive 39 = .ok (.iconst 1, 1) := by decide +kernel
theorem dX6_runsForgive_40 : decode cX6_runsForgive 40 = .ok (.ireturn, 1) := by decide +kernel
theorem dX6_drawBurst_0 : decode cX6_drawBurst 0 = .ok (.iload_n 1, 1) := by decide +kernel
theorem dX6_drawBurst_1 : decode cX6_drawBurst 1 = .ok (.ifCond .lt 20, 3) := by decide +kernel
theorem dX6_drawBurst_4 : decode cX6_drawBurst 4 = .ok (.iload_n 1, 1) := by decide +kernel
theorem dX6_drawBurst_5 : decode cX6_drawBurst 5 = .ok (.iconst 3, 1) := by decide +kernel
theorem dX6_drawBurst_6 : decode cX6_drawBurst 6 = .ok (.irem, 1) := by decide +kernel
theorem dX6_drawBurst_7 : decode cX6_drawBurst 7 = .ok (.ifCond .ne 14, 3) := by decide +kernel
theorem dX6_drawBurst_10 : decode cX6_drawBurst 10 = .ok (.aload_n 0, 1) := by decide +kernel
theorem dX6_drawBurst_11 : decode cX6_drawBurst 11 = .ok (.getfield 38, 3) := by decide +kernel
theorem dX6_drawBurst_14 : decode cX6_drawBurst 14 = .ok (.getfield 83, 3) := by decide +kernel
theorem dX6_drawBurst_17 : decode cX6_drawBurst 17 = .ok (.iconst 1, 1) := by decide +kernel
theorem dX6_drawBurst_18 : decode cX6_drawBurst 18 = .ok (.if_icmp .ge 4, 3) := by decide +kernel
theorem dX6_drawBurst_21 : decode cX6_drawBurst 21 = .ok (.return_, 1) := by decide +kernel
theorem dX6_drawBurst_22 : decode cX6_drawBurst 22 = .ok (.aload_n 0, 1) := by decide +kernel
theorem dX6_drawBurst_23 : decode cX6_drawBurst 23 = .ok (.getfield 38, 3) := by decide +kernel
theorem dX6_drawBurst_26 : decode cX6_drawBurst 26 = .ok (.getfield 117, 3) := by decide +kernel
theorem dX6_drawBurst_29 : decode cX6_drawBurst 29 = .ok (.iload_n 1, 1) := by decide +kernel
theorem dX6_drawBurst_30 : decode cX6_drawBurst 30 = .ok (.iconst 4, 1) := by decide +kernel
theorem dX6_drawBurst_31 : decode cX6_drawBurst 31 = .ok (.idiv, 1) := by decide +kernel
theorem dX6_drawBurst_32 : decode cX6_drawBurst 32 = .ok (.aload_n 0, 1) := by decide +kernel
theorem dX6_drawBurst_33 : decode cX6_drawBurst 33 = .ok (.getfield 38, 3) := by decide +kernel
theorem dX6_drawBurst_36 : decode cX6_drawBurst 36 = .ok (.getfield 83, 3) := by decide +kernel
theorem dX6_drawBurst_39 : decode cX6_drawBurst 39 = .ok (.irem, 1) := by decide +kernel
theorem dX6_drawBurst_40 : decode cX6_drawBurst 40 = .ok (.aaload, 1) := by decide +kernel
theorem dX6_drawBurst_41 : decode cX6_drawBurst 41 = .ok (.astore_n 2, 1) := by decide +kernel
theorem dX6_drawBurst_42 : decode cX6_drawBurst 42 = .ok (.aload_n 2, 1) := by decide +kernel
theorem dX6_drawBurst_43 : decode cX6_drawBurst 43 = .ok (.invokevirtual 217, 3) := by decide +kernel
theorem dX6_drawBurst_46 : decode cX6_drawBurst 46 = .ok (.ifCond .eq 42, 3) := by decide +kernel
theorem dX6_drawBurst_49 : decode cX6_drawBurst 49 = .ok (.aload_n 2, 1) := by decide +kernel
theorem dX6_drawBurst_50 : decode cX6_drawBurst 50 = .ok (.getfield 133, 3) := by decide +kernel
theorem dX6_drawBurst_53 : decode cX6_drawBurst 53 = .ok (.iload_n 1, 1) := by decide +kernel
theorem dX6_drawBurst_54 : decode cX6_drawBurst 54 = .ok (.bipush 64, 2) := by decide +kernel
theorem dX6_drawBurst_56 : decode cX6_drawBurst 56 = .ok (.idiv, 1) := by decide +kernel
theorem dX6_drawBurst_57 : decode cX6_drawBurst 57 = .ok (.iconst 4, 1) := by decide +kernel
theorem dX6_drawBurst_58 : decode cX6_drawBurst 58 = .ok (.irem, 1) := by decide +kernel
theorem dX6_drawBurst_59 : decode cX6_drawBurst 59 = .ok (.iconst 1, 1) := by decide +kernel
theorem dX6_drawBurst_60 : decode cX6_drawBurst 60 = .ok (.iload_n 1, 1) := by decide +kernel
theorem dX6_drawBurst_61 : decode cX6_drawBurst 61 = .ok (.sipush 256, 3) := by decide +kernel
theorem dX6_drawBurst_64 : decode cX6_drawBurst 64 = .ok (.idiv, 1) := by decide +kernel
theorem dX6_drawBurst_65 : decode cX6_drawBurst 65 = .ok (.bipush 8, 2) := by decide +kernel
theorem dX6_drawBurst_67 : decode cX6_drawBurst 67 = .ok (.irem, 1) := by decide +kernel
theorem dX6_drawBurst_68 : decode cX6_drawBurst 68 = .ok (.iadd, 1) := by decide +kernel
theorem dX6_drawBurst_69 : decode cX6_drawBurst 69 = .ok (.iload_n 1, 1) := by decide +kernel
theorem dX6_drawBurst_70 : decode cX6_drawBurst 70 = .ok (.sipush 2048, 3) := by decide +kernel
theorem dX6_drawBurst_73 : decode cX6_drawBurst 73 = .ok (.idiv, 1) := by decide +kernel
theorem dX6_drawBurst_74 : decode cX6_drawBurst 74 = .ok (.iconst 2, 1) := by decide +kernel
theorem dX6_drawBurst_75 : decode cX6_drawBurst 75 = .ok (.irem, 1) := by decide +kernel
theorem dX6_drawBurst_76 : decode cX6_drawBurst 76 = .ok (.iconst 1, 1) := by decide +kernel
theorem dX6_drawBurst_77 : decode cX6_drawBurst 77 = .ok (.if_icmp .ne 7, 3) := by decide +kernel
theorem dX6_drawBurst_80 : decode cX6_drawBurst 80 = .ok (.iconst 1, 1) := by decide +kernel
theorem dX6_drawBurst_81 : decode cX6_drawBurst 81 = .ok (.goto 4, 3) := by decide +kernel
theorem dX6_drawBurst_84 : decode cX6_drawBurst 84 = .ok (.iconst 0, 1) := by decide +kernel
theorem dX6_drawBurst_85 : decode cX6_drawBurst 85 = .ok (.invokevirtual 222, 3) := by decide +kernel
theorem dX6_drawBurst_88 : decode cX6_drawBurst 88 = .ok (.return_, 1) := by decide +kernel
theorem dX7_init_0 : decode cX7_init 0 = .ok (.aload_n 0, 1) := by decide +kernel
theorem dX7_init_1 : decode cX7_init 1 = .ok (.invokespecial 1, 3) := by decide +kernel
theorem dX7_init_4 : decode cX7_init 4 = .ok (.aload_n 0, 1) := by decide +kernel
theorem dX7_init_5 : decode cX7_init 5 = .ok (.sipush 291, 3) := by decide +kernel
theorem dX7_init_8 : decode cX7_init 8 = .ok (.newarray .int, 2) := by decide +kernel
theorem dX7_init_10 : decode cX7_init 10 = .ok (.putfield 7, 3) := by decide +kernel
theorem dX7_init_13 : decode cX7_init 13 = .ok (.aload_n 0, 1) := by decide +kernel
theorem dX7_init_14 : decode cX7_init 14 = .ok (.sipush 291, 3) := by decide +kernel
theorem dX7_init_17 : decode cX7_init 17 = .ok (.newarray .int, 2) := by decide +kernel
theorem dX7_init_19 : decode cX7_init 19 = .ok (.putfield 13, 3) := by decide +kernel
theorem dX7_init_22 : decode cX7_init 22 = .ok (.aload_n 0, 1) := by decide +kernel
theorem dX7_init_23 : decode cX7_init 23 = .ok (.sipush 291, 3) := by decide +kernel
theorem dX7_init_26 : decode cX7_init 26 = .ok (.newarray .int, 2) := by decide +kernel
theorem dX7_init_28 : decode cX7_init 28 = .ok (.putfield 16, 3) := by decide +kernel
theorem dX7_init_31 : decode cX7_init 31 = .ok (.aload_n 0, 1) := by decide +kernel
theorem dX7_init_32 : decode cX7_init 32 = .ok (.sipush 4074, 3) := by decide +kernel
theorem dX7_init_35 : decode cX7_init 35 = .ok (.newarray .int, 2) := by decide +kernel
theorem dX7_init_37 : decode cX7_init 37 = .ok (.putfield 19, 3) := by decide +kernel
theorem dX7_init_40 : decode cX7_init 40 = .ok (.aload_n 0, 1) := by decide +kernel
theorem dX7_init_41 : decode cX7_init 41 = .ok (.sipush 582, 3) := by decide +kernel
theorem dX7_init_44 : decode cX7_init 44 = .ok (.newarray .int, 2) := by decide +kernel
theorem dX7_init_46 : decode cX7_init 46 = .ok (.putfield 22, 3) := by decide +kernel
theorem dX7_init_49 : decode cX7_init 49 = .ok (.aload_n 0, 1) := by decide +kernel
theorem dX7_init_50 : decode cX7_init 50 = .ok (.iconst 2, 1) := by decide +kernel
theorem dX7_init_51 : decode cX7_init 51 = .ok (.newarray .boolean, 2) := by decide +kernel
theorem dX7_init_53 : decode cX7_init 53 = .ok (.putfield 25, 3) := by decide +kernel
theorem dX7_init_56 : decode cX7_init 56 = .ok (.aload_n 0, 1) := by decide +kernel
theorem dX7_init_57 : decode cX7_init 57 = .ok (.bipush 120, 2) := by decide +kernel
theorem dX7_init_59 : decode cX7_init 59 = .ok (.newarray .int, 2) := by decide +kernel
theorem dX7_init_61 : decode cX7_init 61 = .ok (.putfield 29, 3) := by decide +kernel
theorem dX7_init_64 : decode cX7_init 64 = .ok (.aload_n 0, 1) := by decide +kernel
theorem dX7_init_65 : decode cX7_init 65 = .ok (.bipush 6, 2) := by decide +kernel
theorem dX7_init_67 : decode cX7_init 67 = .ok (.newarray .int, 2) := by decide +kernel
theorem dX7_init_69 : decode cX7_init 69 = .ok (.putfield 32, 3) := by decide +kernel
theorem dX7_init_72 : decode cX7_init 72 = .ok (.aload_n 0, 1) := by decide +kernel
theorem dX7_init_73 : decode cX7_init 73 = .ok (.iconst 2, 1) := by decide +kernel
theorem dX7_init_74 : decode cX7_init 74 = .ok (.iconst 4, 1) := by decide +kernel
theorem dX7_init_75 : decode cX7_init 75 = .ok (.invokevirtual 35, 3) := by decide +kernel
theorem dX7_init_78 : decode cX7_init 78 = .ok (.return_, 1) := by decide +kernel
theorem dX7_thrown_0 : decode cX7_thrown 0 = .ok (.aload_n 0, 1) := by decide +kernel
theorem dX7_thrown_1 : decode cX7_thrown 1 = .ok (.getfield 39, 3) := by decide +kernel
theorem dX7_thrown_4 : decode cX7_thrown 4 = .ok (.ireturn, 1) := by decide +kernel
theorem dX7_in_0 : decode cX7_in 0 = .ok (.lload_n 0, 1) := by decide +kernel
theorem dX7_in_1 : decode cX7_in 1 = .ok (.lload_n 2, 1) := by decide +kernel
theorem dX7_in_2 : decode cX7_in 2 = .ok (.lcmp, 1) := by decide +kernel
theorem dX7_in_3 : decode cX7_in 3 = .ok (.ifCond .lt 14, 3) := by decide +kernel
theorem dX7_in_6 : decode cX7_in 6 = .ok (.lload_n 0, 1) := by decide +kernel
theorem dX7_in_7 : decode cX7_in 7 = .ok (.lload 4, 2) := by decide +kernel
theorem dX7_in_9 : decode cX7_in 9 = .ok (.lcmp, 1) := by decide +kernel
theorem dX7_in_10 : decode cX7_in 10 = .ok (.ifCond .gt 7, 3) := by decide +kernel
theorem dX7_in_13 : decode cX7_in 13 = .ok (.iconst 1, 1) := by decide +kernel
theorem dX7_in_14 : decode cX7_in 14 = .ok (.goto 4, 3) := by decide +kernel
theorem dX7_in_17 : decode cX7_in 17 = .ok (.iconst 0, 1) := by decide +kernel
theorem dX7_in_18 : decode cX7_in 18 = .ok (.ireturn, 1) := by decide +kernel
theorem dX7_fails_0 : decode cX7_fails 0 = .ok (.aload_n 0, 1) := by decide +kernel
theorem dX7_fails_1 : decode cX7_fails 1 = .ok (.iload_n 1, 1) := by decide +kernel
theorem dX7_fails_2 : decode cX7_fails 2 = .ok (.putfield 39, 3) := by decide +kernel
theorem dX7_fails_5 : decode cX7_fails 5 = .ok (.iconst 0, 1) := by decide +kernel
theorem dX7_fails_6 : decode cX7_fails 6 = .ok (.ireturn, 1) := by decide +kernel
theorem dX7_anew_0 : decode cX7_anew 0 = .ok (.iconst 0, 1) := by decide +kernel
theorem dX7_anew_1 : decode cX7_anew 1 = .ok (.istore_n 3, 1) := by decide +kernel
theorem dX7_anew_2 : decode cX7_anew 2 = .ok (.iload_n 3, 1) := by decide +kernel
theorem dX7_anew_3 : decode cX7_anew 3 = .ok (.sipush 291, 3) := by decide +kernel
theorem dX7_anew_6 : decode cX7_anew 6 = .ok (.if_icmp .ge 16, 3) := by decide +kernel
theorem dX7_anew_9 : decode cX7_anew 9 = .ok (.aload_n 0, 1) := by decide +kernel
theorem dX7_anew_10 : decode cX7_anew 10 = .ok (.getfield 7, 3) := by decide +kernel
theorem dX7_anew_13 : decode cX7_anew 13 = .ok (.iload_n 3, 1) := by decide +kernel
theorem dX7_anew_14 : decode cX7_anew 14 = .ok (.iconst 0, 1) := by decide +kernel
theorem dX7_anew_15 : decode cX7_anew 15 = .ok (.iastore, 1) := by decide +kernel
theorem dX7_anew_16 : decode cX7_anew 16 = .ok (.iinc 3 1, 3) := by decide +kernel
theorem dX7_anew_19 : decode cX7_anew 19 = .ok (.goto (-17), 3) := by decide +kernel
theorem dX7_anew_22 : decode cX7_anew 22 = .ok (.aload_n 0, 1) := by decide +kernel
theorem dX7_anew_23 : decode cX7_anew 23 = .ok (.getfield 7, 3) := by decide +kernel
theorem dX7_anew_26 : decode cX7_anew 26 = .ok (.iconst 0, 1) := by decide +kernel
theorem dX7_anew_27 : decode cX7_anew 27 = .ok (.iload_n 1, 1) := by decide +kernel
theorem dX7_anew_28 : decode cX7_anew 28 = .ok (.iastore, 1) := by decide +kernel
theorem dX7_anew_29 : decode cX7_anew 29 = .ok (.aload_n 0, 1) := by decide +kernel
theorem dX7_anew_30 : decode cX7_anew 30 = .ok (.getfield 7, 3) := by decide +kernel
theorem dX7_anew_33 : decode cX7_anew 33 = .ok (.iconst 1, 1) := by decide +kernel
theorem dX7_anew_34 : decode cX7_anew 34 = .ok (.iload_n 2, 1) := by decide +kernel
theorem dX7_anew_35 : decode cX7_anew 35 = .ok (.iastore, 1) := by decide +kernel
theorem dX7_anew_36 : decode cX7_anew 36 = .ok (.aload_n 0, 1) := by decide +kernel
theorem dX7_anew_37 : decode cX7_anew 37 = .ok (.getfield 7, 3) := by decide +kernel
theorem dX7_anew_40 : decode cX7_anew 40 = .ok (.iconst 4, 1) := by decide +kernel
theorem dX7_anew_41 : decode cX7_anew 41 = .ok (.iconst 4, 1) := by decide +kernel
theorem dX7_anew_42 : decode cX7_anew 42 = .ok (.iastore, 1) := by decide +kernel
theorem dX7_anew_43 : decode cX7_anew 43 = .ok (.aload_n 0, 1) := by decide +kernel
theorem dX7_anew_44 : decode cX7_anew 44 = .ok (.getfield 7, 3) := by decide +kernel
theorem dX7_anew_47 : decode cX7_anew 47 = .ok (.iconst 5, 1) := by decide +kernel
theorem dX7_anew_48 : decode cX7_anew 48 = .ok (.bipush (-9), 2) := by decide +kernel
theorem dX7_anew_50 : decode cX7_anew 50 = .ok (.iastore, 1) := by decide +kernel
theorem dX7_anew_51 : decode cX7_anew 51 = .ok (.iconst 0, 1) := by decide +kernel
theorem dX7_anew_52 : decode cX7_anew 52 = .ok (.istore_n 3, 1) := by decide +kernel
theorem dX7_anew_53 : decode cX7_anew 53 = .ok (.iload_n 3, 1) := by decide +kernel
theorem dX7_anew_54 : decode cX7_anew 54 = .ok (.iconst 4, 1) := by decide +kernel
theorem dX7_anew_55 : decode cX7_anew 55 = .ok (.if_icmp .ge 19, 3) := by decide +kernel
theorem dX7_anew_58 : decode cX7_anew 58 = .ok (.aload_n 0, 1) := by decide +kernel
theorem dX7_anew_59 : decode cX7_anew 59 = .ok (.getfield 7, 3) := by decide +kernel
theorem dX7_anew_62 : decode cX7_anew 62 = .ok (.bipush 7, 2) := by decide +kernel
theorem dX7_anew_64 : decode cX7_anew 64 = .ok (.iload_n 3, 1) := by decide +kernel
theorem dX7_anew_65 : decode cX7_anew 65 = .ok (.iadd, 1) := by decide +kernel
theorem dX7_anew_66 : decode cX7_anew 66 = .ok (.iconst 2, 1) := by decide +kernel
theorem dX7_anew_67 : decode cX7_anew 67 = .ok (.iastore, 1) := by decide +kernel
theorem dX7_anew_68 : decode cX7_anew 68 = .ok (.iinc 3 1, 3) := by decide +kernel
theorem dX7_anew_71 : decode cX7_anew 71 = .ok (.goto (-18), 3) := by decide +kernel
theorem dX7_anew_74 : decode cX7_anew 74 = .ok (.iconst 0, 1) := by decide +kernel
theorem dX7_anew_75 : decode cX7_anew 75 = .ok (.istore_n 3, 1) := by decide +kernel
theorem dX7_anew_76 : decode cX7_anew 76 = .ok (.iload_n 3, 1) := by decide +kernel
theorem dX7_anew_77 : decode cX7_anew 77 = .ok (.iload_n 2, 1) := by decide +kernel
theorem dX7_anew_78 : decode cX7_anew 78 = .ok (.if_icmp .ge 21, 3) := by decide +kernel
theorem dX7_anew_81 : decode cX7_anew 81 = .ok (.aload_n 0, 1) := by decide +kernel
theorem dX7_anew_82 : decode cX7_anew 82 = .ok (.getfield 7, 3) := by decide +kernel
theorem dX7_anew_85 : decode cX7_anew 85 = .ok (.bipush 11, 2) := by decide +kernel
theorem dX7_anew_87 : decode cX7_anew 87 = .ok (.iload_n 3, 1) := by decide +kernel
theorem dX7_anew_88 : decode cX7_anew 88 = .ok (.iadd, 1) := by decide +kernel
theorem dX7_anew_89 : decode cX7_anew 89 = .ok (.iload_n 3, 1) := by decide +kernel
theorem dX7_anew_90 : decode cX7_anew 90 = .ok (.iload_n 1, 1) := by decide +kernel
theorem dX7_anew_91 : decode cX7_anew 91 = .ok (.irem, 1) := by decide +kernel
theorem dX7_anew_92 : decode cX7_anew 92 = .ok (.iastore, 1) := by decide +kernel
theorem dX7_anew_93 : decode cX7_anew 93 = .ok (.iinc 3 1, 3) := by decide +kernel
theorem dX7_anew_96 : decode cX7_anew 96 = .ok (.goto (-20), 3) := by decide +kernel
theorem dX7_anew_99 : decode cX7_anew 99 = .ok (.return_, 1) := by decide +kernel
theorem dX7_copy_0 : decode cX7_copy 0 = .ok (.iconst 0, 1) := by decide +kernel
theorem dX7_copy_1 : decode cX7_copy 1 = .ok (.istore_n 2, 1) := by decide +kernel
theorem dX7_copy_2 : decode cX7_copy 2 = .ok (.iload_n 2, 1) := by decide +kernel
theorem dX7_copy_3 : decode cX7_copy 3 = .ok (.sipush 291, 3) := by decide +kernel
theorem dX7_copy_6 : decode cX7_copy 6 = .ok (.if_icmp .ge 15, 3) := by decide +kernel
theorem dX7_copy_9 : decode cX7_copy 9 = .ok (.aload_n 1, 1) := by decide +kernel
theorem dX7_copy_10 : decode cX7_copy 10 = .ok (.iload_n 2, 1) := by decide +kernel
theorem dX7_copy_11 : decode cX7_copy 11 = .ok (.aload_n 0, 1) := by decide +kernel
theorem dX7_copy_12 : decode cX7_copy 12 = .ok (.iload_n 2, 1) := by decide +kernel
theorem dX7_copy_13 : decode cX7_copy 13 = .ok (.iaload, 1) := by decide +kernel
theorem dX7_copy_14 : decode cX7_copy 14 = .ok (.iastore, 1) := by decide +kernel
theorem dX7_copy_15 : decode cX7_copy 15 = .ok (.iinc 2 1, 3) := by decide +kernel
theorem dX7_copy_18 : decode cX7_copy 18 = .ok (.goto (-16), 3) := by decide +kernel
theorem dX7_copy_21 : decode cX7_copy 21 = .ok (.return_, 1) := by decide +kernel
theorem dX7_remember_0 : decode cX7_remember 0 = .ok (.aload_n 0, 1) := by decide +kernel
theorem dX7_remember_1 : decode cX7_remember 1 = .ok (.getfield 43, 3) := by decide +kernel
theorem dX7_remember_4 : decode cX7_remember 4 = .ok (.bipush 14, 2) := by decide +kernel
theorem dX7_remember_6 : decode cX7_remember 6 = .ok (.if_icmp .ne 44, 3) := by decide +kernel
theorem dX7_remember_9 : decode cX7_remember 9 = .ok (.iconst 0, 1) := by decide +kernel
theorem dX7_remember_10 : decode cX7_remember 10 = .ok (.istore_n 1, 1) := by decide +kernel
theorem dX7_remember_11 : decode cX7_remember 11 = .ok (.iload_n 1, 1) := by decide +kernel
theorem dX7_remember_12 : decode cX7_remember 12 = .ok (.sipush 3783, 3) := by decide +kernel
theorem dX7_remember_15 : decode cX7_remember 15 = .ok (.if_icmp .ge 25, 3) := by decide +kernel
theorem dX7_remember_18 : decode cX7_remember 18 = .ok (.aload_n 0, 1) := by decide +kernel
theorem dX7_remember_19 : decode cX7_remember 19 = .ok (.getfield 19, 3) := by decide +kernel
theorem dX7_remember_22 : decode cX7_remember 22 = .ok (.iload_n 1, 1) := by decide +kernel
theorem dX7_remember_23 : decode cX7_remember 23 = .ok (.aload_n 0, 1) := by decide +kernel
theorem dX7_remember_24 : decode cX7_remember 24 = .ok (.getfield 19, 3) := by decide +kernel
theorem dX7_remember_27 : decode cX7_remember 27 = .ok (.iload_n 1, 1) := by decide +kernel
theorem dX7_remember_28 : decode cX7_remember 28 = .ok (.sipush 291, 3) := by decide +kernel
theorem dX7_remember_31 : decode cX7_remember 31 = .ok (.iadd, 1) := by decide +kernel
theorem dX7_remember_32 : decode cX7_remember 32 = .ok (.iaload, 1) := by decide +kernel
theorem dX7_remember_33 : decode cX7_remember 33 = .ok (.iastore, 1) := by decide +kernel
theorem dX7_remember_34 : decode cX7_remember 34 = .ok (.iinc 1 1, 3) := by decide +kernel
theorem dX7_remember_37 : decode cX7_remember 37 = .ok (.goto (-26), 3) := by decide +kernel
theorem dX7_remember_40 : decode cX7_remember 40 = .ok (.aload_n 0, 1) := by decide +kernel
theorem dX7_remember_41 : decode cX7_remember 41 = .ok (.dup, 1) := by decide +kernel
theorem dX7_remember_42 : decode cX7_remember 42 = .ok (.getfield 43, 3) := by decide +kernel
theorem dX7_remember_45 : decode cX7_remember 45 = .ok (.iconst 1, 1) := by decide +kernel
theorem dX7_remember_46 : decode cX7_remember 46 = .ok (.isub, 1) := by decide +kernel
theorem dX7_remember_47 : decode cX7_remember 47 = .ok (.putfield 43, 3) := by decide +kernel
theorem dX7_remember_50 : decode cX7_remember 50 = .ok (.iconst 0, 1) := by decide +kernel
theorem dX7_remember_51 : decode cX7_remember 51 = .ok (.istore_n 1, 1) := by decide +kernel
theorem dX7_remember_52 : decode cX7_remember 52 = .ok (.iload_n 1, 1) := by decide +kernel
theorem dX7_remember_53 : decode cX7_remember 53 = .ok (.sipush 291, 3) := by decide +kernel
theorem dX7_remember_56 : decode cX7_remember 56 = .ok (.if_icmp .ge 30, 3) := by decide +kernel
theorem dX7_remember_59 : decode cX7_remember 59 = .ok (.aload_n 0, 1) := by decide +kernel
theorem dX7_remember_60 : decode cX7_remember 60 = .ok (.getfield 19, 3) := by decide +kernel
theorem dX7_remember_63 : decode cX7_remember 63 = .ok (.sipush 291, 3) := by decide +kernel
theorem dX7_remember_66 : decode cX7_remember 66 = .ok (.aload_n 0, 1) := by decide +kernel
theorem dX7_remember_67 : decode cX7_remember 67 = .ok (.getfield 43, 3) := by decide +kernel
theorem dX7_remember_70 : decode cX7_remember 70 = .ok (.imul, 1) := by decide +kernel
theorem dX7_remember_71 : decode cX7_remember 71 = .ok (.iload_n 1, 1) := by decide +kernel
theorem dX7_remember_72 : decode cX7_remember 72 = .ok (.iadd, 1) := by decide +kernel
theorem dX7_remember_73 : decode cX7_remember 73 = .ok (.aload_n 0, 1) := by decide +kernel
theorem dX7_remember_74 : decode cX7_remember 74 = .ok (.getfield 7, 3) := by decide +kernel
theorem dX7_remember_77 : decode cX7_remember 77 = .ok (.iload_n 1, 1) := by decide +kernel
theorem dX7_remember_78 : decode cX7_remember 78 = .ok (.iaload, 1) := by decide +kernel
theorem dX7_remember_79 : decode cX7_remember 79 = .ok (.iastore, 1) := by decide +kernel
theorem dX7_remember_80 : decode cX7_remember 80 = .ok (.iinc 1 1, 3) := by decide +kernel
theorem dX7_remember_83 : decode cX7_remember 83 = .ok (.goto (-31), 3) := by decide +kernel
theorem dX7_remember_86 : decode cX7_remember 86 = .ok (.aload_n 0, 1) := by decide +kernel
theorem dX7_remember_87 : decode cX7_remember 87 = .ok (.dup, 1) := by decide +kernel
theorem dX7_remember_88 : decode cX7_remember 88 = .ok (.getfield 43, 3) := by decide +kernel
theorem dX7_remember_91 : decode cX7_remember 91 = .ok (.iconst 1, 1) := by decide +kernel
theorem dX7_remember_92 : decode cX7_remember 92 = .ok (.iadd, 1) := by decide +kernel
theorem dX7_remember_93 : decode cX7_remember 93 = .ok (.putfield 43, 3) := by decide +kernel
theorem dX7_remember_96 : decode cX7_remember 96 = .ok (.return_, 1) := by decide +kernel
theorem dX7_isMaster_0 : decode cX7_isMaster 0 = .ok (.iload_n 1, 1) := by decide +kernel
theorem dX7_isMaster_1 : decode cX7_isMaster 1 = .ok (.i2l, 1) := by decide +kernel
theorem dX7_isMaster_2 : decode cX7_isMaster 2 = .ok (.lconst 0, 1) := by decide +kernel
theorem dX7_isMaster_3 : decode cX7_isMaster 3 = .ok (.aload_n 0, 1) := by decide +kernel
theorem dX7_isMaster_4 : decode cX7_isMaster 4 = .ok (.getfield 7, 3) := by decide +kernel
theorem dX7_isMaster_7 : decode cX7_isMaster 7 = .ok (.iconst 0, 1) := by decide +kernel
theorem dX7_isMaster_8 : decode cX7_isMaster 8 = .ok (.iaload, 1) := by decide +kernel
theorem dX7_isMaster_9 : decode cX7_isMaster 9 = .ok (.iconst 1, 1) := by decide +kernel
theorem dX7_isMaster_10 : decode cX7_isMaster 10 = .ok (.isub, 1) := by decide +kernel
theorem dX7_isMaster_11 : decode cX7_isMaster 11 = .ok (.i2l, 1) := by decide +kernel
theorem dX7_isMaster_12 : decode cX7_isMaster 12 = .ok (.invokestatic 46, 3) := by decide +kernel
theorem dX7_isMaster_15 : decode cX7_isMaster 15 = .ok (.ireturn, 1) := by decide +kernel
theorem dX7_isSlot_0 : decode cX7_isSlot 0 = .ok (.iload_n 1, 1) := by decide +kernel
theorem dX7_isSlot_1 : decode cX7_isSlot 1 = .ok (.i2l, 1) := by decide +kernel
theorem dX7_isSlot_2 : decode cX7_isSlot 2 = .ok (.lconst 0, 1) := by decide +kernel
theorem dX7_isSlot_3 : decode cX7_isSlot 3 = .ok (.aload_n 0, 1) := by decide +kernel
theorem dX7_isSlot_4 : decode cX7_isSlot 4 = .ok (.getfield 7, 3) := by decide +kernel
theorem dX7_isSlot_7 : decode cX7_isSlot 7 = .ok (.iconst 1, 1) := by decide +kernel
theorem dX7_isSlot_8 : decode cX7_isSlot 8 = .ok (.iaload, 1) := by decide +kernel
theorem dX7_isSlot_9 : decode cX7_isSlot 9 = .ok (.iconst 1, 1) := by decide +kernel
theorem dX7_isSlot_10 : decode cX7_isSlot 10 = .ok (.isub, 1) := by decide +kernel
theorem dX7_isSlot_11 : decode cX7_isSlot 11 = .ok (.i2l, 1) := by decide +kernel
theorem dX7_isSlot_12 : decode cX7_isSlot 12 = .ok (.invokestatic 46, 3) := by decide +kernel
theorem dX7_isSlot_15 : decode cX7_isSlot 15 = .ok (.ireturn, 1) := by decide +kernel
theorem dX7_isSlave_0 : decode cX7_isSlave 0 = .ok (.iload_n 0, 1) := by decide +kernel
theorem dX7_isSlave_1 : decode cX7_isSlave 1 = .ok (.i2l, 1) := by decide +kernel
theorem dX7_isSlave_2 : decode cX7_isSlave 2 = .ok (.lconst 0, 1) := by decide +kernel
theorem dX7_isSlave_3 : decode cX7_isSlave 3 = .ok (.ldc2_w 50, 3) := by decide +kernel
theorem dX7_isSlave_6 : decode cX7_isSlave 6 = .ok (.invokestatic 46, 3) := by decide +kernel
theorem dX7_isSlave_9 : decode cX7_isSlave 9 = .ok (.ireturn, 1) := by decide +kernel
theorem dX7_isBankrupt_0 : decode cX7_isBankrupt 0 = .ok (.aload_n 0, 1) := by decide +kernel
theorem dX7_isBankrupt_1 : decode cX7_isBankrupt 1 = .ok (.getfield 7, 3) := by decide +kernel
theorem dX7_isBankrupt_4 : decode cX7_isBankrupt 4 = .ok (.bipush 6, 2) := by decide +kernel
theorem dX7_isBankrupt_6 : decode cX7_isBankrupt 6 = .ok (.iaload, 1) := by decide +kernel
theorem dX7_isBankrupt_7 : decode cX7_isBankrupt 7 = .ok (.iload_n 1, 1) := by decide +kernel
theorem dX7_isBankrupt_8 : decode cX7_isBankrupt 8 = .ok (.ishr, 1) := by decide +kernel
theorem dX7_isBankrupt_9 : decode cX7_isBankrupt 9 = .ok (.iconst 1, 1) := by decide +kernel
theorem dX7_isBankrupt_10 : decode cX7_isBankrupt 10 = .ok (.iand, 1) := by decide +kernel
theorem dX7_isBankrupt_11 : decode cX7_isBankrupt 11 = .ok (.iconst 1, 1) := by decide +kernel
theorem dX7_isBankrupt_12 : decode cX7_isBankrupt 12 = .ok (.if_icmp .ne 7, 3) := by decide +kernel
theorem dX7_isBankrupt_15 : decode cX7_isBankrupt 15 = .ok (.iconst 1, 1) := by decide +kernel
theorem dX7_isBankrupt_16 : decode cX7_isBankrupt 16 = .ok (.goto 4, 3) := by decide +kernel
theorem dX7_isBankrupt_19 : decode cX7_isBankrupt 19 = .ok (.iconst 0, 1) := by decide +kernel
theorem dX7_isBankrupt_20 : decode cX7_isBankrupt 20 = .ok (.ireturn, 1) := by decide +kernel
theorem dX7_at_0 : decode cX7_at 0 = .ok (.bipush 63, 2) := by decide +kernel
theorem dX7_at_2 : decode cX7_at 2 = .ok (.bipush 38, 2) := by decide +kernel
theorem dX7_at_4 : decode cX7_at 4 = .ok (.iload_n 0, 1) := by decide +kernel
theorem dX7_at_5 : decode cX7_at 5 = .ok (.imul, 1) := by decide +kernel
theorem dX7_at_6 : decode cX7_at 6 = .ok (.iadd, 1) := by decide +kernel
theorem dX7_at_7 : decode cX7_at 7 = .ok (.iload_n 1, 1) := by decide +kernel
theorem dX7_at_8 : decode cX7_at 8 = .ok (.iadd, 1) := by decide +kernel
theorem dX7_at_9 : decode cX7_at 9 = .ok (.ireturn, 1) := by decide +kernel
theorem dX7_of_0 : decode cX7_of 0 = .ok (.aload_n 0, 1) := by decide +kernel
theorem dX7_of_1 : decode cX7_of 1 = .ok (.getfield 7, 3) := by decide +kernel
theorem dX7_of_4 : decode cX7_of 4 = .ok (.iload_n 1, 1) := by decide +kernel
theorem dX7_of_5 : decode cX7_of 5 = .ok (.iload_n 2, 1) := by decide +kernel
theorem dX7_of_6 : decode cX7_of 6 = .ok (.invokestatic 52, 3) := by decide +kernel
theorem dX7_of_9 : decode cX7_of 9 = .ok (.iaload, 1) := by decide +kernel
theorem dX7_of_10 : decode cX7_of 10 = .ok (.ireturn, 1) := by decide +kernel
theorem dX7_owed_0 : decode cX7_owed 0 = .ok (.aload_n 0, 1) := by decide +kernel
theorem dX7_owed_1 : decode cX7_owed 1 = .ok (.getfield 7, 3) := by decide +kernel
theorem dX7_owed_4 : decode cX7_owed 4 = .ok (.bipush 27, 2) := by decide +kernel
theorem dX7_owed_6 : decode cX7_owed 6 = .ok (.bipush 6, 2) := by decide +kernel
theorem dX7_owed_8 : decode cX7_owed 8 = .ok (.iload_n 1, 1) := by decide +kernel
theorem dX7_owed_9 : decode cX7_owed 9 = .ok (.imul, 1) := by decide +kernel
theorem dX7_owed_10 : decode cX7_owed 10 = .ok (.iadd, 1) := by decide +kernel
theorem dX7_owed_11 : decode cX7_owed 11 = .ok (.iload_n 2, 1) := by decide +kernel
theorem dX7_owed_12 : decode cX7_owed 12 = .ok (.iadd, 1) := by decide +kernel
theorem dX7_owed_13 : decode cX7_owed 13 = .ok (.iaload, 1) := by decide +kernel
theorem dX7_owed_14 : decode cX7_owed 14 = .ok (.ireturn, 1) := by decide +kernel
theorem dX7_debts_0 : decode cX7_debts 0 = .ok (.iconst 0, 1) := by decide +kernel
theorem dX7_debts_1 : decode cX7_debts 1 = .ok (.istore_n 2, 1) := by decide +kernel
theorem dX7_debts_2 : decode cX7_debts 2 = .ok (.iconst 0, 1) := by decide +kernel
theorem dX7_debts_3 : decode cX7_debts 3 = .ok (.istore_n 3, 1) := by decide +kernel
theorem dX7_debts_4 : decode cX7_debts 4 = .ok (.iload_n 3, 1) := by decide +kernel
theorem dX7_debts_5 : decode cX7_debts 5 = .ok (.bipush 6, 2) := by decide +kernel
theorem dX7_debts_7 : decode cX7_debts 7 = .ok (.if_icmp .ge 18, 3) := by decide +kernel
theorem dX7_debts_10 : decode cX7_debts 10 = .ok (.iload_n 2, 1) := by decide +kernel
theorem dX7_debts_11 : decode cX7_debts 11 = .ok (.aload_n 0, 1) := by decide +kernel
theorem dX7_debts_12 : decode cX7_debts 12 = .ok (.iload_n 1, 1) := by decide +kernel
theorem dX7_debts_13 : decode cX7_debts 13 = .ok (.iload_n 3, 1) := by decide +kernel
theorem dX7_debts_14 : decode cX7_debts 14 = .ok (.invokevirtual 56, 3) := by decide +kernel
theorem dX7_debts_17 : decode cX7_debts 17 = .ok (.iadd, 1) := by decide +kernel
theorem dX7_debts_18 : decode cX7_debts 18 = .ok (.istore_n 2, 1) := by decide +kernel
theorem dX7_debts_19 : decode cX7_debts 19 = .ok (.iinc 3 1, 3) := by decide +kernel
theorem dX7_debts_22 : decode cX7_debts 22 = .ok (.goto (-18), 3) := by decide +kernel
theorem dX7_debts_25 : decode cX7_debts 25 = .ok (.iload_n 2, 1) := by decide +kernel
theorem dX7_debts_26 : decode cX7_debts 26 = .ok (.ireturn, 1) := by decide +kernel
theorem dX7_slotsOf_0 : decode cX7_slotsOf 0 = .ok (.iconst 0, 1) := by decide +kernel
theorem dX7_slotsOf_1 : decode cX7_slotsOf 1 = .ok (.istore_n 2, 1) := by decide +kernel
theorem dX7_slotsOf_2 : decode cX7_slotsOf 2 = .ok (.iconst 0, 1) := by decide +kernel
theorem dX7_slotsOf_3 : decode cX7_slotsOf 3 = .ok (.istore_n 3, 1) := by decide +kernel
theorem dX7_slotsOf_4 : decode cX7_slotsOf 4 = .ok (.iload_n 3, 1) := by decide +kernel
theorem dX7_slotsOf_5 : decode cX7_slotsOf 5 = .ok (.aload_n 0, 1) := by decide +kernel
theorem dX7_slotsOf_6 : decode cX7_slotsOf 6 = .ok (.getfield 7, 3) := by decide +kernel
theorem dX7_slotsOf_9 : decode cX7_slotsOf 9 = .ok (.iconst 1, 1) := by decide +kernel
theorem dX7_slotsOf_10 : decode cX7_slotsOf 10 = .ok (.iaload, 1) := by decide +kernel
theorem dX7_slotsOf_11 : decode cX7_slotsOf 11 = .ok (.if_icmp .ge 30, 3) := by decide +kernel
theorem dX7_slotsOf_14 : decode cX7_slotsOf 14 = .ok (.iload_n 2, 1) := by decide +kernel
theorem dX7_slotsOf_15 : decode cX7_slotsOf 15 = .ok (.aload_n 0, 1) := by decide +kernel
theorem dX7_slotsOf_16 : decode cX7_slotsOf 16 = .ok (.getfield 7, 3) := by decide +kernel
theorem dX7_slotsOf_19 : decode cX7_slotsOf 19 = .ok (.bipush 11, 2) := by decide +kernel
theorem dX7_slotsOf_21 : decode cX7_slotsOf 21 = .ok (.iload_n 3, 1) := by decide +kernel
theorem dX7_slotsOf_22 : decode cX7_slotsOf 22 = .ok (.iadd, 1) := by decide +kernel
theorem dX7_slotsOf_23 : decode cX7_slotsOf 23 = .ok (.iaload, 1) := by decide +kernel
theorem dX7_slotsOf_24 : decode cX7_slotsOf 24 = .ok (.iload_n 1, 1) := by decide +kernel
theorem dX7_slotsOf_25 : decode cX7_slotsOf 25 = .ok (.if_icmp .ne 7, 3) := by decide +kernel
theorem dX7_slotsOf_28 : decode cX7_slotsOf 28 = .ok (.iconst 1, 1) := by decide +kernel
theorem dX7_slotsOf_29 : decode cX7_slotsOf 29 = .ok (.goto 4, 3) := by decide +kernel
theorem dX7_slotsOf_32 : decode cX7_slotsOf 32 = .ok (.iconst 0, 1) := by decide +kernel
theorem dX7_slotsOf_33 : decode cX7_slotsOf 33 = .ok (.iadd, 1) := by decide +kernel
theorem dX7_slotsOf_34 : decode cX7_slotsOf 34 = .ok (.istore_n 2, 1) := by decide +kernel
theorem dX7_slotsOf_35 : decode cX7_slotsOf 35 = .ok (.iinc 3 1, 3) := by decide +kernel
theorem dX7_slotsOf_38 : decode cX7_slotsOf 38 = .ok (.goto (-34), 3) := by decide +kernel
theorem dX7_slotsOf_41 : decode cX7_slotsOf 41 = .ok (.iload_n 2, 1) := by decide +kernel
theorem dX7_slotsOf_42 : decode cX7_slotsOf 42 = .ok (.ireturn, 1) := by decide +kernel
theorem dX7_ready_0 : decode cX7_ready 0 = .ok (.iconst (-1), 1) := by decide +kernel
theorem dX7_ready_1 : decode cX7_ready 1 = .ok (.istore_n 2, 1) := by decide +kernel
theorem dX7_ready_2 : decode cX7_ready 2 = .ok (.aload_n 0, 1) := by decide +kernel
theorem dX7_ready_3 : decode cX7_ready 3 = .ok (.iload_n 1, 1) := by decide +kernel
theorem dX7_ready_4 : decode cX7_ready 4 = .ok (.bipush 7, 2) := by decide +kernel
theorem dX7_ready_6 : decode cX7_ready 6 = .ok (.invokevirtual 59, 3) := by decide +kernel
theorem dX7_ready_9 : decode cX7_ready 9 = .ok (.iconst 1, 1) := by decide +kernel
theorem dX7_ready_10 : decode cX7_ready 10 = .ok (.isub, 1) := by decide +kernel
theorem dX7_ready_11 : decode cX7_ready 11 = .ok (.istore_n 3, 1) := by decide +kernel
theorem dX7_ready_12 : decode cX7_ready 12 = .ok (.iload_n 3, 1) := by decide +kernel
theorem dX7_ready_13 : decode cX7_ready 13 = .ok (.ifCond .lt 33, 3) := by decide +kernel
theorem dX7_ready_16 : decode cX7_ready 16 = .ok (.aload_n 0, 1) := by decide +kernel
theorem dX7_ready_17 : decode cX7_ready 17 = .ok (.iload_n 1, 1) := by decide +kernel
theorem dX7_ready_18 : decode cX7_ready 18 = .ok (.bipush 26, 2) := by decide +kernel
theorem dX7_ready_20 : decode cX7_ready 20 = .ok (.iload_n 3, 1) := by decide +kernel
theorem dX7_ready_21 : decode cX7_ready 21 = .ok (.iadd, 1) := by decide +kernel
theorem dX7_ready_22 : decode cX7_ready 22 = .ok (.invokevirtual 59, 3) := by decide +kernel
theorem dX7_ready_25 : decode cX7_ready 25 = .ok (.aload_n 0, 1) := by decide +kernel
theorem dX7_ready_26 : decode cX7_ready 26 = .ok (.getfield 7, 3) := by decide +kernel
theorem dX7_ready_29 : decode cX7_ready 29 = .ok (.iconst 2, 1) := by decide +kernel
theorem dX7_ready_30 : decode cX7_ready 30 = .ok (.iaload, 1) := by decide +kernel
theorem dX7_ready_31 : decode cX7_ready 31 = .ok (.if_icmp .gt 7, 3) := by decide +kernel
theorem dX7_ready_34 : decode cX7_ready 34 = .ok (.iload_n 3, 1) := by decide +kernel
theorem dX7_ready_35 : decode cX7_ready 35 = .ok (.goto 4, 3) := by decide +kernel
theorem dX7_ready_38 : decode cX7_ready 38 = .ok (.iload_n 2, 1) := by decide +kernel
theorem dX7_ready_39 : decode cX7_ready 39 = .ok (.istore_n 2, 1) := by decide +kernel
theorem dX7_ready_40 : decode cX7_ready 40 = .ok (.iinc 3 (-1), 3) := by decide +kernel
theorem dX7_ready_43 : decode cX7_ready 43 = .ok (.goto (-31), 3) := by decide +kernel
theorem dX7_ready_46 : decode cX7_ready 46 = .ok (.iload_n 2, 1) := by decide +kernel
theorem dX7_ready_47 : decode cX7_ready 47 = .ok (.ireturn, 1) := by decide +kernel
theorem dX7_hasToDo_0 : decode cX7_hasToDo 0 = .ok (.aload_n 0, 1) := by decide +kernel
theorem dX7_hasToDo_1 : decode cX7_hasToDo 1 = .ok (.iload_n 1, 1) := by decide +kernel
theorem dX7_hasToDo_2 : decode cX7_hasToDo 2 = .ok (.iconst 0, 1) := by decide +kernel
theorem dX7_hasToDo_3 : decode cX7_hasToDo 3 = .ok (.invokevirtual 59, 3) := by decide +kernel
theorem dX7_hasToDo_6 : decode cX7_hasToDo 6 = .ok (.ifCond .gt 11, 3) := by decide +kernel
theorem dX7_hasToDo_9 : decode cX7_hasToDo 9 = .ok (.aload_n 0, 1) := by decide +kernel
theorem dX7_hasToDo_10 : decode cX7_hasToDo 10 = .ok (.iload_n 1, 1) := by decide +kernel
theorem dX7_hasToDo_11 : decode cX7_hasToDo 11 = .ok (.invokevirtual 62, 3) := by decide +kernel
theorem dX7_hasToDo_14 : decode cX7_hasToDo 14 = .ok (.ifCond .lt 7, 3) := by decide +kernel
theorem dX7_hasToDo_17 : decode cX7_hasToDo 17 = .ok (.iconst 1, 1) := by decide +kernel
theorem dX7_hasToDo_18 : decode cX7_hasToDo 18 = .ok (.goto 4, 3) := by decide +kernel
theorem dX7_hasToDo_21 : decode cX7_hasToDo 21 = .ok (.iconst 0, 1) := by decide +kernel
theorem dX7_hasToDo_22 : decode cX7_hasToDo 22 = .ok (.ireturn, 1) := by decide +kernel
theorem dX7_creditorOf_0 : decode cX7_creditorOf 0 = .ok (.iconst (-1), 1) := by decide +kernel
theorem dX7_creditorOf_1 : decode cX7_creditorOf 1 = .ok (.istore_n 3, 1) := by decide +kernel
theorem dX7_creditorOf_2 : decode cX7_creditorOf 2 = .ok (.iconst 0, 1) := by decide +kernel
theorem dX7_creditorOf_3 : decode cX7_creditorOf 3 = .ok (.istore 4, 2) := by decide +kernel
theorem dX7_creditorOf_5 : decode cX7_creditorOf 5 = .ok (.iload 4, 2) := by decide +kernel
theorem dX7_creditorOf_7 : decode cX7_creditorOf 7 = .ok (.aload_n 0, 1) := by decide +kernel
theorem dX7_creditorOf_8 : decode cX7_creditorOf 8 = .ok (.getfield 7, 3) := by decide +kernel
theorem dX7_creditorOf_11 : decode cX7_creditorOf 11 = .ok (.iconst 0, 1) := by decide +kernel
theorem dX7_creditorOf_12 : decode cX7_creditorOf 12 = .ok (.iaload, 1) := by decide +kernel
theorem dX7_creditorOf_13 : decode cX7_creditorOf 13 = .ok (.if_icmp .ge 68, 3) := by decide +kernel
theorem dX7_creditorOf_16 : decode cX7_creditorOf 16 = .ok (.aload_n 0, 1) := by decide +kernel
theorem dX7_creditorOf_17 : decode cX7_creditorOf 17 = .ok (.iload_n 1, 1) := by decide +kernel
theorem dX7_creditorOf_18 : decode cX7_creditorOf 18 = .ok (.iload 4, 2) := by decide +kernel
theorem dX7_creditorOf_20 : decode cX7_creditorOf 20 = .ok (.invokevirtual 56, 3) := by decide +kernel
theorem dX7_creditorOf_23 : decode cX7_creditorOf 23 = .ok (.ifCond .le 17, 3) := by decide +kernel
theorem dX7_creditorOf_26 : decode cX7_creditorOf 26 = .ok (.iload_n 2, 1) := by decide +kernel
theorem dX7_creditorOf_27 : decode cX7_creditorOf 27 = .ok (.iload 4, 2) := by decide +kernel
theorem dX7_creditorOf_29 : decode cX7_creditorOf 29 = .ok (.ishr, 1) := by decide +kernel
theorem dX7_creditorOf_30 : decode cX7_creditorOf 30 = .ok (.iconst 1, 1) := by decide +kernel
theorem dX7_creditorOf_31 : decode cX7_creditorOf 31 = .ok (.iand, 1) := by decide +kernel
theorem dX7_creditorOf_32 : decode cX7_creditorOf 32 = .ok (.iconst 1, 1) := by decide +kernel
theorem dX7_creditorOf_33 : decode cX7_creditorOf 33 = .ok (.if_icmp .ne 7, 3) := by decide +kernel
theorem dX7_creditorOf_36 : decode cX7_creditorOf 36 = .ok (.iconst 1, 1) := by decide +kernel
theorem dX7_creditorOf_37 : decode cX7_creditorOf 37 = .ok (.goto 4, 3) := by decide +kernel
theorem dX7_creditorOf_40 : decode cX7_creditorOf 40 = .ok (.iconst 0, 1) := by decide +kernel
theorem dX7_creditorOf_41 : decode cX7_creditorOf 41 = .ok (.istore 5, 2) := by decide +kernel
theorem dX7_creditorOf_43 : decode cX7_creditorOf 43 = .ok (.iload 5, 2) := by decide +kernel
theorem dX7_creditorOf_45 : decode cX7_creditorOf 45 = .ok (.ifCond .eq 28, 3) := by decide +kernel
theorem dX7_creditorOf_48 : decode cX7_creditorOf 48 = .ok (.iload_n 3, 1) := by decide +kernel
theorem dX7_creditorOf_49 : decode cX7_creditorOf 49 = .ok (.ifCond .lt 19, 3) := by decide +kernel
theorem dX7_creditorOf_52 : decode cX7_creditorOf 52 = .ok (.aload_n 0, 1) := by decide +kernel
theorem dX7_creditorOf_53 : decode cX7_creditorOf 53 = .ok (.iload_n 1, 1) := by decide +kernel
theorem dX7_creditorOf_54 : decode cX7_creditorOf 54 = .ok (.iload 4, 2) := by decide +kernel
theorem dX7_creditorOf_56 : decode cX7_creditorOf 56 = .ok (.invokevirtual 56, 3) := by decide +kernel
theorem dX7_creditorOf_59 : decode cX7_creditorOf 59 = .ok (.aload_n 0, 1) := by decide +kernel
theorem dX7_creditorOf_60 : decode cX7_creditorOf 60 = .ok (.iload_n 1, 1) := by decide +kernel
theorem dX7_creditorOf_61 : decode cX7_creditorOf 61 = .ok (.iload_n 3, 1) := by decide +kernel
theorem dX7_creditorOf_62 : decode cX7_creditorOf 62 = .ok (.invokevirtual 56, 3) := by decide +kernel
theorem dX7_creditorOf_65 : decode cX7_creditorOf 65 = .ok (.if_icmp .le 8, 3) := by decide +kernel
theorem dX7_creditorOf_68 : decode cX7_creditorOf 68 = .ok (.iload 4, 2) := by decide +kernel
theorem dX7_creditorOf_70 : decode cX7_creditorOf 70 = .ok (.goto 4, 3) := by decide +kernel
theorem dX7_creditorOf_73 : decode cX7_creditorOf 73 = .ok (.iload_n 3, 1) := by decide +kernel
theorem dX7_creditorOf_74 : decode cX7_creditorOf 74 = .ok (.istore_n 3, 1) := by decide +kernel
theorem dX7_creditorOf_75 : decode cX7_creditorOf 75 = .ok (.iinc 4 1, 3) := by decide +kernel
theorem dX7_creditorOf_78 : decode cX7_creditorOf 78 = .ok (.goto (-73), 3) := by decide +kernel
theorem dX7_creditorOf_81 : decode cX7_creditorOf 81 = .ok (.iload_n 3, 1) := by decide +kernel
theorem dX7_creditorOf_82 : decode cX7_creditorOf 82 = .ok (.ireturn, 1) := by decide +kernel
theorem dX7_longestWaiting_0 : decode cX7_longestWaiting 0 = .ok (.iconst (-1), 1) := by decide +kernel
theorem dX7_longestWaiting_1 : decode cX7_longestWaiting 1 = .ok (.istore_n 2, 1) := by decide +kernel
theorem dX7_longestWaiting_2 : decode cX7_longestWaiting 2 = .ok (.iconst 0, 1) := by decide +kernel
theorem dX7_longestWaiting_3 : decode cX7_longestWaiting 3 = .ok (.istore_n 3, 1) := by decide +kernel
theorem dX7_longestWaiting_4 : decode cX7_longestWaiting 4 = .ok (.iload_n 3, 1) := by decide +kernel
theorem dX7_longestWaiting_5 : decode cX7_longestWaiting 5 = .ok (.aload_n 0, 1) := by decide +kernel
theorem dX7_longestWaiting_6 : decode cX7_longestWaiting 6 = .ok (.getfield 7, 3) := by decide +kernel
theorem dX7_longestWaiting_9 : decode cX7_longestWaiting 9 = .ok (.iconst 0, 1) := by decide +kernel
theorem dX7_longestWaiting_10 : decode cX7_longestWaiting 10 = .ok (.iaload, 1) := by decide +kernel
theorem dX7_longestWaiting_11 : decode cX7_longestWaiting 11 = .ok (.if_icmp .ge 77, 3) := by decide +kernel
theorem dX7_longestWaiting_14 : decode cX7_longestWaiting 14 = .ok (.iload_n 1, 1) := by decide +kernel
theorem dX7_longestWaiting_15 : decode cX7_longestWaiting 15 = .ok (.iload_n 3, 1) := by decide +kernel
theorem dX7_longestWaiting_16 : decode cX7_longestWaiting 16 = .ok (.ishr, 1) := by decide +kernel
theorem dX7_longestWaiting_17 : decode cX7_longestWaiting 17 = .ok (.iconst 1, 1) := by decide +kernel
theorem dX7_longestWaiting_18 : decode cX7_longestWaiting 18 = .ok (.iand, 1) := by decide +kernel
theorem dX7_longestWaiting_19 : decode cX7_longestWaiting 19 = .ok (.iconst 1, 1) := by decide +kernel
theorem dX7_longestWaiting_20 : decode cX7_longestWaiting 20 = .ok (.if_icmp .ne 29, 3) := by decide +kernel
theorem dX7_longestWaiting_23 : decode cX7_longestWaiting 23 = .ok (.aload_n 0, 1) := by decide +kernel
theorem dX7_longestWaiting_24 : decode cX7_longestWaiting 24 = .ok (.iload_n 3, 1) := by decide +kernel
theorem dX7_longestWaiting_25 : decode cX7_longestWaiting 25 = .ok (.invokevirtual 66, 3) := by decide +kernel
theorem dX7_longestWaiting_28 : decode cX7_longestWaiting 28 = .ok (.ifCond .ne 21, 3) := by decide +kernel
theorem dX7_longestWaiting_31 : decode cX7_longestWaiting 31 = .ok (.aload_n 0, 1) := by decide +kernel
theorem dX7_longestWaiting_32 : decode cX7_longestWaiting 32 = .ok (.iload_n 3, 1) := by decide +kernel
theorem dX7_longestWaiting_33 : decode cX7_longestWaiting 33 = .ok (.invokevirtual 70, 3) := by decide +kernel
theorem dX7_longestWaiting_36 : decode cX7_longestWaiting 36 = .ok (.aload_n 0, 1) := by decide +kernel
theorem dX7_longestWaiting_37 : decode cX7_longestWaiting 37 = .ok (.getfield 7, 3) := by decide +kernel
theorem dX7_longestWaiting_40 : decode cX7_longestWaiting 40 = .ok (.iconst 4, 1) := by decide +kernel
theorem dX7_longestWaiting_41 : decode cX7_longestWaiting 41 = .ok (.iaload, 1) := by decide +kernel
theorem dX7_longestWaiting_42 : decode cX7_longestWaiting 42 = .ok (.if_icmp .ge 7, 3) := by decide +kernel
theorem dX7_longestWaiting_45 : decode cX7_longestWaiting 45 = .ok (.iconst 1, 1) := by decide +kernel
theorem dX7_longestWaiting_46 : decode cX7_longestWaiting 46 = .ok (.goto 4, 3) := by decide +kernel
theorem dX7_longestWaiting_49 : decode cX7_longestWaiting 49 = .ok (.iconst 0, 1) := by decide +kernel
theorem dX7_longestWaiting_50 : decode cX7_longestWaiting 50 = .ok (.istore 4, 2) := by decide +kernel
theorem dX7_longestWaiting_52 : decode cX7_longestWaiting 52 = .ok (.iload 4, 2) := by decide +kernel
theorem dX7_longestWaiting_54 : decode cX7_longestWaiting 54 = .ok (.ifCond .eq 26, 3) := by decide +kernel
theorem dX7_longestWaiting_57 : decode cX7_longestWaiting 57 = .ok (.iload_n 2, 1) := by decide +kernel
theorem dX7_longestWaiting_58 : decode cX7_longestWaiting 58 = .ok (.ifCond .lt 18, 3) := by decide +kernel
theorem dX7_longestWaiting_61 : decode cX7_longestWaiting 61 = .ok (.aload_n 0, 1) := by decide +kernel
theorem dX7_longestWaiting_62 : decode cX7_longestWaiting 62 = .ok (.iload_n 3, 1) := by decide +kernel
theorem dX7_longestWaiting_63 : decode cX7_longestWaiting 63 = .ok (.iconst 1, 1) := by decide +kernel
theorem dX7_longestWaiting_64 : decode cX7_longestWaiting 64 = .ok (.invokevirtual 59, 3) := by decide +kernel
theorem dX7_longestWaiting_67 : decode cX7_longestWaiting 67 = .ok (.aload_n 0, 1) := by decide +kernel
theorem dX7_longestWaiting_68 : decode cX7_longestWaiting 68 = .ok (.iload_n 2, 1) := by decide +kernel
theorem dX7_longestWaiting_69 : decode cX7_longestWaiting 69 = .ok (.iconst 1, 1) := by decide +kernel
theorem dX7_longestWaiting_70 : decode cX7_longestWaiting 70 = .ok (.invokevirtual 59, 3) := by decide +kernel
theorem dX7_longestWaiting_73 : decode cX7_longestWaiting 73 = .ok (.if_icmp .le 7, 3) := by decide +kernel
theorem dX7_longestWaiting_76 : decode cX7_longestWaiting 76 = .ok (.iload_n 3, 1) := by decide +kernel
theorem dX7_longestWaiting_77 : decode cX7_longestWaiting 77 = .ok (.goto 4, 3) := by decide +kernel
theorem dX7_longestWaiting_80 : decode cX7_longestWaiting 80 = .ok (.iload_n 2, 1) := by decide +kernel
theorem dX7_longestWaiting_81 : decode cX7_longestWaiting 81 = .ok (.istore_n 2, 1) := by decide +kernel
theorem dX7_longestWaiting_82 : decode cX7_longestWaiting 82 = .ok (.iinc 3 1, 3) := by decide +kernel
theorem dX7_longestWaiting_85 : decode cX7_longestWaiting 85 = .ok (.goto (-81), 3) := by decide +kernel
theorem dX7_longestWaiting_88 : decode cX7_longestWaiting 88 = .ok (.iload_n 2, 1) := by decide +kernel
theorem dX7_longestWaiting_89 : decode cX7_longestWaiting 89 = .ok (.ireturn, 1) := by decide +kernel
theorem dX7_turn_0 : decode cX7_turn 0 = .ok (.aload_n 0, 1) := by decide +kernel
theorem dX7_turn_1 : decode cX7_turn 1 = .ok (.getfield 7, 3) := by decide +kernel
theorem dX7_turn_4 : decode cX7_turn 4 = .ok (.bipush 11, 2) := by decide +kernel
theorem dX7_turn_6 : decode cX7_turn 6 = .ok (.aload_n 0, 1) := by decide +kernel
theorem dX7_turn_7 : decode cX7_turn 7 = .ok (.getfield 7, 3) := by decide +kernel
theorem dX7_turn_10 : decode cX7_turn 10 = .ok (.iconst 2, 1) := by decide +kernel
theorem dX7_turn_11 : decode cX7_turn 11 = .ok (.iaload, 1) := by decide +kernel
theorem dX7_turn_12 : decode cX7_turn 12 = .ok (.aload_n 0, 1) := by decide +kernel
theorem dX7_turn_13 : decode cX7_turn 13 = .ok (.getfield 7, 3) := by decide +kernel
theorem dX7_turn_16 : decode cX7_turn 16 = .ok (.iconst 1, 1) := by decide +kernel
theorem dX7_turn_17 : decode cX7_turn 17 = .ok (.iaload, 1) := by decide +kernel
theorem dX7_turn_18 : decode cX7_turn 18 = .ok (.irem, 1) := by decide +kernel
theorem dX7_turn_19 : decode cX7_turn 19 = .ok (.iadd, 1) := by decide +kernel
theorem dX7_turn_20 : decode cX7_turn 20 = .ok (.iaload, 1) := by decide +kernel
theorem dX7_turn_21 : decode cX7_turn 21 = .ok (.istore_n 2, 1) := by decide +kernel
theorem dX7_turn_22 : decode cX7_turn 22 = .ok (.aload_n 0, 1) := by decide +kernel
theorem dX7_turn_23 : decode cX7_turn 23 = .ok (.iload_n 2, 1) := by decide +kernel
theorem dX7_turn_24 : decode cX7_turn 24 = .ok (.iload_n 1, 1) := by decide +kernel
theorem dX7_turn_25 : decode cX7_turn 25 = .ok (.invokevirtual 73, 3) := by decide +kernel
theorem dX7_turn_28 : decode cX7_turn 28 = .ok (.istore_n 3, 1) := by decide +kernel
theorem dX7_turn_29 : decode cX7_turn 29 = .ok (.iload_n 3, 1) := by decide +kernel
theorem dX7_turn_30 : decode cX7_turn 30 = .ok (.ifCond .lt 37, 3) := by decide +kernel
theorem dX7_turn_33 : decode cX7_turn 33 = .ok (.aload_n 0, 1) := by decide +kernel
theorem dX7_turn_34 : decode cX7_turn 34 = .ok (.getfield 7, 3) := by decide +kernel
theorem dX7_turn_37 : decode cX7_turn 37 = .ok (.bipush 27, 2) := by decide +kernel
theorem dX7_turn_39 : decode cX7_turn 39 = .ok (.bipush 6, 2) := by decide +kernel
theorem dX7_turn_41 : decode cX7_turn 41 = .ok (.iload_n 2, 1) := by decide +kernel
theorem dX7_turn_42 : decode cX7_turn 42 = .ok (.imul, 1) := by decide +kernel
theorem dX7_turn_43 : decode cX7_turn 43 = .ok (.iadd, 1) := by decide +kernel
theorem dX7_turn_44 : decode cX7_turn 44 = .ok (.iload_n 3, 1) := by decide +kernel
theorem dX7_turn_45 : decode cX7_turn 45 = .ok (.iadd, 1) := by decide +kernel
theorem dX7_turn_46 : decode cX7_turn 46 = .ok (.dup2, 1) := by decide +kernel
theorem dX7_turn_47 : decode cX7_turn 47 = .ok (.iaload, 1) := by decide +kernel
theorem dX7_turn_48 : decode cX7_turn 48 = .ok (.iconst 1, 1) := by decide +kernel
theorem dX7_turn_49 : decode cX7_turn 49 = .ok (.isub, 1) := by decide +kernel
theorem dX7_turn_50 : decode cX7_turn 50 = .ok (.iastore, 1) := by decide +kernel
theorem dX7_turn_51 : decode cX7_turn 51 = .ok (.aload_n 0, 1) := by decide +kernel
theorem dX7_turn_52 : decode cX7_turn 52 = .ok (.getfield 7, 3) := by decide +kernel
theorem dX7_turn_55 : decode cX7_turn 55 = .ok (.iload_n 3, 1) := by decide +kernel
theorem dX7_turn_56 : decode cX7_turn 56 = .ok (.iconst 4, 1) := by decide +kernel
theorem dX7_turn_57 : decode cX7_turn 57 = .ok (.invokestatic 52, 3) := by decide +kernel
theorem dX7_turn_60 : decode cX7_turn 60 = .ok (.dup2, 1) := by decide +kernel
theorem dX7_turn_61 : decode cX7_turn 61 = .ok (.iaload, 1) := by decide +kernel
theorem dX7_turn_62 : decode cX7_turn 62 = .ok (.iconst 1, 1) := by decide +kernel
theorem dX7_turn_63 : decode cX7_turn 63 = .ok (.iadd, 1) := by decide +kernel
theorem dX7_turn_64 : decode cX7_turn 64 = .ok (.iastore, 1) := by decide +kernel
theorem dX7_turn_65 : decode cX7_turn 65 = .ok (.iload_n 3, 1) := by decide +kernel
theorem dX7_turn_66 : decode cX7_turn 66 = .ok (.ireturn, 1) := by decide +kernel
theorem dX7_turn_67 : decode cX7_turn 67 = .ok (.iload_n 1, 1) := by decide +kernel
theorem dX7_turn_68 : decode cX7_turn 68 = .ok (.iload_n 2, 1) := by decide +kernel
theorem dX7_turn_69 : decode cX7_turn 69 = .ok (.ishr, 1) := by decide +kernel
theorem dX7_turn_70 : decode cX7_turn 70 = .ok (.iconst 1, 1) := by decide +kernel
theorem dX7_turn_71 : decode cX7_turn 71 = .ok (.iand, 1) := by decide +kernel
theorem dX7_turn_72 : decode cX7_turn 72 = .ok (.iconst 1, 1) := by decide +kernel
theorem dX7_turn_73 : decode cX7_turn 73 = .ok (.if_icmp .ne 19, 3) := by decide +kernel
theorem dX7_turn_76 : decode cX7_turn 76 = .ok (.aload_n 0, 1) := by decide +kernel
theorem dX7_turn_77 : decode cX7_turn 77 = .ok (.getfield 7, 3) := by decide +kernel
theorem dX7_turn_80 : decode cX7_turn 80 = .ok (.iload_n 2, 1) := by decide +kernel
theorem dX7_turn_81 : decode cX7_turn 81 = .ok (.iconst 3, 1) := by decide +kernel
theorem dX7_turn_82 : decode cX7_turn 82 = .ok (.invokestatic 52, 3) := by decide +kernel
theorem dX7_turn_85 : decode cX7_turn 85 = .ok (.dup2, 1) := by decide +kernel
theorem dX7_turn_86 : decode cX7_turn 86 = .ok (.iaload, 1) := by decide +kernel
theorem dX7_turn_87 : decode cX7_turn 87 = .ok (.iconst 1, 1) := by decide +kernel
theorem dX7_turn_88 : decode cX7_turn 88 = .ok (.iadd, 1) := by decide +kernel
theorem dX7_turn_89 : decode cX7_turn 89 = .ok (.iastore, 1) := by decide +kernel
theorem dX7_turn_90 : decode cX7_turn 90 = .ok (.iload_n 2, 1) := by decide +kernel
theorem dX7_turn_91 : decode cX7_turn 91 = .ok (.ireturn, 1) := by decide +kernel
theorem dX7_turn_92 : decode cX7_turn 92 = .ok (.aload_n 0, 1) := by decide +kernel
theorem dX7_turn_93 : decode cX7_turn 93 = .ok (.iload_n 1, 1) := by decide +kernel
theorem dX7_turn_94 : decode cX7_turn 94 = .ok (.invokevirtual 76, 3) := by decide +kernel
theorem dX7_turn_97 : decode cX7_turn 97 = .ok (.istore 4, 2) := by decide +kernel
theorem dX7_turn_99 : decode cX7_turn 99 = .ok (.iload 4, 2) := by decide +kernel
theorem dX7_turn_101 : decode cX7_turn 101 = .ok (.ifCond .lt 37, 3) := by decide +kernel
theorem dX7_turn_104 : decode cX7_turn 104 = .ok (.aload_n 0, 1) := by decide +kernel
theorem dX7_turn_105 : decode cX7_turn 105 = .ok (.getfield 7, 3) := by decide +kernel
theorem dX7_turn_108 : decode cX7_turn 108 = .ok (.bipush 27, 2) := by decide +kernel
theorem dX7_turn_110 : decode cX7_turn 110 = .ok (.bipush 6, 2) := by decide +kernel
theorem dX7_turn_112 : decode cX7_turn 112 = .ok (.iload 4, 2) := by decide +kernel
theorem dX7_turn_114 : decode cX7_turn 114 = .ok (.imul, 1) := by decide +kernel
theorem dX7_turn_115 : decode cX7_turn 115 = .ok (.iadd, 1) := by decide +kernel
theorem dX7_turn_116 : decode cX7_turn 116 = .ok (.iload_n 2, 1) := by decide +kernel
theorem dX7_turn_117 : decode cX7_turn 117 = .ok (.iadd, 1) := by decide +kernel
theorem dX7_turn_118 : decode cX7_turn 118 = .ok (.dup2, 1) := by decide +kernel
theorem dX7_turn_119 : decode cX7_turn 119 = .ok (.iaload, 1) := by decide +kernel
theorem dX7_turn_120 : decode cX7_turn 120 = .ok (.iconst 1, 1) := by decide +kernel
theorem dX7_turn_121 : decode cX7_turn 121 = .ok (.iadd, 1) := by decide +kernel
theorem dX7_turn_122 : decode cX7_turn 122 = .ok (.iastore, 1) := by decide +kernel
theorem dX7_turn_123 : decode cX7_turn 123 = .ok (.aload_n 0, 1) := by decide +kernel
theorem dX7_turn_124 : decode cX7_turn 124 = .ok (.getfield 7, 3) := by decide +kernel
theorem dX7_turn_127 : decode cX7_turn 127 = .ok (.iload 4, 2) := by decide +kernel
theorem dX7_turn_129 : decode cX7_turn 129 = .ok (.iconst 5, 1) := by decide +kernel
theorem dX7_turn_130 : decode cX7_turn 130 = .ok (.invokestatic 52, 3) := by decide +kernel
theorem dX7_turn_133 : decode cX7_turn 133 = .ok (.dup2, 1) := by decide +kernel
theorem dX7_turn_134 : decode cX7_turn 134 = .ok (.iaload, 1) := by decide +kernel
theorem dX7_turn_135 : decode cX7_turn 135 = .ok (.iconst 1, 1) := by decide +kernel
theorem dX7_turn_136 : decode cX7_turn 136 = .ok (.iadd, 1) := by decide +kernel
theorem dX7_turn_137 : decode cX7_turn 137 = .ok (.iastore, 1) := by decide +kernel
theorem dX7_turn_138 : decode cX7_turn 138 = .ok (.iload 4, 2) := by decide +kernel
theorem dX7_turn_140 : decode cX7_turn 140 = .ok (.ireturn, 1) := by decide +kernel
theorem dX7_uses_0 : decode cX7_uses 0 = .ok (.aload_n 0, 1) := by decide +kernel
theorem dX7_uses_1 : decode cX7_uses 1 = .ok (.iload_n 1, 1) := by decide +kernel
theorem dX7_uses_2 : decode cX7_uses 2 = .ok (.invokevirtual 62, 3) := by decide +kernel
theorem dX7_uses_5 : decode cX7_uses 5 = .ok (.istore_n 2, 1) := by decide +kernel
theorem dX7_uses_6 : decode cX7_uses 6 = .ok (.iload_n 2, 1) := by decide +kernel
theorem dX7_uses_7 : decode cX7_uses 7 = .ok (.ifCond .lt 79, 3) := by decide +kernel
theorem dX7_uses_10 : decode cX7_uses 10 = .ok (.iload_n 2, 1) := by decide +kernel
theorem dX7_uses_11 : decode cX7_uses 11 = .ok (.istore_n 3, 1) := by decide +kernel
theorem dX7_uses_12 : decode cX7_uses 12 = .ok (.iload_n 3, 1) := by decide +kernel
theorem dX7_uses_13 : decode cX7_uses 13 = .ok (.aload_n 0, 1) := by decide +kernel
theorem dX7_uses_14 : decode cX7_uses 14 = .ok (.iload_n 1, 1) := by decide +kernel
theorem dX7_uses_15 : decode cX7_uses 15 = .ok (.bipush 7, 2) := by decide +kernel
theorem dX7_uses_17 : decode cX7_uses 17 = .ok (.invokevirtual 59, 3) := by decide +kernel
theorem dX7_uses_20 : decode cX7_uses 20 = .ok (.iconst 1, 1) := by decide +kernel
theorem dX7_uses_21 : decode cX7_uses 21 = .ok (.isub, 1) := by decide +kernel
theorem dX7_uses_22 : decode cX7_uses 22 = .ok (.if_icmp .ge 33, 3) := by decide +kernel
theorem dX7_uses_25 : decode cX7_uses 25 = .ok (.aload_n 0, 1) := by decide +kernel
theorem dX7_uses_26 : decode cX7_uses 26 = .ok (.getfield 7, 3) := by decide +kernel
theorem dX7_uses_29 : decode cX7_uses 29 = .ok (.iload_n 1, 1) := by decide +kernel
theorem dX7_uses_30 : decode cX7_uses 30 = .ok (.bipush 26, 2) := by decide +kernel
theorem dX7_uses_32 : decode cX7_uses 32 = .ok (.iload_n 3, 1) := by decide +kernel
theorem dX7_uses_33 : decode cX7_uses 33 = .ok (.iadd, 1) := by decide +kernel
theorem dX7_uses_34 : decode cX7_uses 34 = .ok (.invokestatic 52, 3) := by decide +kernel
theorem dX7_uses_37 : decode cX7_uses 37 = .ok (.aload_n 0, 1) := by decide +kernel
theorem dX7_uses_38 : decode cX7_uses 38 = .ok (.iload_n 1, 1) := by decide +kernel
theorem dX7_uses_39 : decode cX7_uses 39 = .ok (.bipush 26, 2) := by decide +kernel
theorem dX7_uses_41 : decode cX7_uses 41 = .ok (.iload_n 3, 1) := by decide +kernel
theorem dX7_uses_42 : decode cX7_uses 42 = .ok (.iadd, 1) := by decide +kernel
theorem dX7_uses_43 : decode cX7_uses 43 = .ok (.iconst 1, 1) := by decide +kernel
theorem dX7_uses_44 : decode cX7_uses 44 = .ok (.iadd, 1) := by decide +kernel
theorem dX7_uses_45 : decode cX7_uses 45 = .ok (.invokevirtual 59, 3) := by decide +kernel
theorem dX7_uses_48 : decode cX7_uses 48 = .ok (.iastore, 1) := by decide +kernel
theorem dX7_uses_49 : decode cX7_uses 49 = .ok (.iinc 3 1, 3) := by decide +kernel
theorem dX7_uses_52 : decode cX7_uses 52 = .ok (.goto (-40), 3) := by decide +kernel
theorem dX7_uses_55 : decode cX7_uses 55 = .ok (.aload_n 0, 1) := by decide +kernel
theorem dX7_uses_56 : decode cX7_uses 56 = .ok (.getfield 7, 3) := by decide +kernel
theorem dX7_uses_59 : decode cX7_uses 59 = .ok (.iload_n 1, 1) := by decide +kernel
theorem dX7_uses_60 : decode cX7_uses 60 = .ok (.bipush 7, 2) := by decide +kernel
theorem dX7_uses_62 : decode cX7_uses 62 = .ok (.invokestatic 52, 3) := by decide +kernel
theorem dX7_uses_65 : decode cX7_uses 65 = .ok (.dup2, 1) := by decide +kernel
theorem dX7_uses_66 : decode cX7_uses 66 = .ok (.iaload, 1) := by decide +kernel
theorem dX7_uses_67 : decode cX7_uses 67 = .ok (.iconst 1, 1) := by decide +kernel
theorem dX7_uses_68 : decode cX7_uses 68 = .ok (.isub, 1) := by decide +kernel
theorem dX7_uses_69 : decode cX7_uses 69 = .ok (.iastore, 1) := by decide +kernel
theorem dX7_uses_70 : decode cX7_uses 70 = .ok (.aload_n 0, 1) := by decide +kernel
theorem dX7_uses_71 : decode cX7_uses 71 = .ok (.getfield 7, 3) := by decide +kernel
theorem dX7_uses_74 : decode cX7_uses 74 = .ok (.iload_n 1, 1) := by decide +kernel
theorem dX7_uses_75 : decode cX7_uses 75 = .ok (.bipush 6, 2) := by decide +kernel
theorem dX7_uses_77 : decode cX7_uses 77 = .ok (.invokestatic 52, 3) := by decide +kernel
theorem dX7_uses_80 : decode cX7_uses 80 = .ok (.dup2, 1) := by decide +kernel
theorem dX7_uses_81 : decode cX7_uses 81 = .ok (.iaload, 1) := by decide +kernel
theorem dX7_uses_82 : decode cX7_uses 82 = .ok (.iconst 1, 1) := by decide +kernel
theorem dX7_uses_83 : decode cX7_uses 83 = .ok (.iadd, 1) := by decide +kernel
theorem dX7_uses_84 : decode cX7_uses 84 = .ok (.iastore, 1) := by decide +kernel
theorem dX7_uses_85 : decode cX7_uses 85 = .ok (.return_, 1) := by decide +kernel
theorem dX7_uses_86 : decode cX7_uses 86 = .ok (.aload_n 0, 1) := by decide +kernel
theorem dX7_uses_87 : decode cX7_uses 87 = .ok (.getfield 7, 3) := by decide +kernel
theorem dX7_uses_90 : decode cX7_uses 90 = .ok (.iload_n 1, 1) := by decide +kernel
theorem dX7_uses_91 : decode cX7_uses 91 = .ok (.bipush 9, 2) := by decide +kernel
theorem dX7_uses_93 : decode cX7_uses 93 = .ok (.invokestatic 52, 3) := by decide +kernel
theorem dX7_uses_96 : decode cX7_uses 96 = .ok (.dup2, 1) := by decide +kernel
theorem dX7_uses_97 : decode cX7_uses 97 = .ok (.iaload, 1) := by decide +kernel
theorem dX7_uses_98 : decode cX7_uses 98 = .ok (.iconst 1, 1) := by decide +kernel
theorem dX7_uses_99 : decode cX7_uses 99 = .ok (.isub, 1) := by decide +kernel
theorem dX7_uses_100 : decode cX7_uses 100 = .ok (.iastore, 1) := by decide +kernel
theorem dX7_uses_101 : decode cX7_uses 101 = .ok (.aload_n 0, 1) := by decide +kernel
theorem dX7_uses_102 : decode cX7_uses 102 = .ok (.iload_n 1, 1) := by decide +kernel
theorem dX7_uses_103 : decode cX7_uses 103 = .ok (.bipush 9, 2) := by decide +kernel
theorem dX7_uses_105 : decode cX7_uses 105 = .ok (.invokevirtual 59, 3) := by decide +kernel
theorem dX7_uses_108 : decode cX7_uses 108 = .ok (.ifCond .le 4, 3) := by decide +kernel
theorem dX7_uses_111 : decode cX7_uses 111 = .ok (.return_, 1) := by decide +kernel
theorem dX7_uses_112 : decode cX7_uses 112 = .ok (.aload_n 0, 1) := by decide +kernel
theorem dX7_uses_113 : decode cX7_uses 113 = .ok (.iload_n 1, 1) := by decide +kernel
theorem dX7_uses_114 : decode cX7_uses 114 = .ok (.bipush 10, 2) := by decide +kernel
theorem dX7_uses_116 : decode cX7_uses 116 = .ok (.invokevirtual 59, 3) := by decide +kernel
theorem dX7_uses_119 : decode cX7_uses 119 = .ok (.iconst 1, 1) := by decide +kernel
theorem dX7_uses_120 : decode cX7_uses 120 = .ok (.if_icmp .ne 61, 3) := by decide +kernel
theorem dX7_uses_123 : decode cX7_uses 123 = .ok (.aload_n 0, 1) := by decide +kernel
theorem dX7_uses_124 : decode cX7_uses 124 = .ok (.getfield 7, 3) := by decide +kernel
theorem dX7_uses_127 : decode cX7_uses 127 = .ok (.iload_n 1, 1) := by decide +kernel
theorem dX7_uses_128 : decode cX7_uses 128 = .ok (.bipush 26, 2) := by decide +kernel
theorem dX7_uses_130 : decode cX7_uses 130 = .ok (.aload_n 0, 1) := by decide +kernel
theorem dX7_uses_131 : decode cX7_uses 131 = .ok (.iload_n 1, 1) := by decide +kernel
theorem dX7_uses_132 : decode cX7_uses 132 = .ok (.bipush 7, 2) := by decide +kernel
theorem dX7_uses_134 : decode cX7_uses 134 = .ok (.invokevirtual 59, 3) := by decide +kernel
theorem dX7_uses_137 : decode cX7_uses 137 = .ok (.iadd, 1) := by decide +kernel
theorem dX7_uses_138 : decode cX7_uses 138 = .ok (.invokestatic 52, 3) := by decide +kernel
theorem dX7_uses_141 : decode cX7_uses 141 = .ok (.aload_n 0, 1) := by decide +kernel
theorem dX7_uses_142 : decode cX7_uses 142 = .ok (.getfield 7, 3) := by decide +kernel
theorem dX7_uses_145 : decode cX7_uses 145 = .ok (.iconst 2, 1) := by decide +kernel
theorem dX7_uses_146 : decode cX7_uses 146 = .ok (.iaload, 1) := by decide +kernel
theorem dX7_uses_147 : decode cX7_uses 147 = .ok (.iconst 1, 1) := by decide +kernel
theorem dX7_uses_148 : decode cX7_uses 148 = .ok (.iadd, 1) := by decide +kernel
theorem dX7_uses_149 : decode cX7_uses 149 = .ok (.aload_n 0, 1) := by decide +kernel
theorem dX7_uses_150 : decode cX7_uses 150 = .ok (.getfield 7, 3) := by decide +kernel
theorem dX7_uses_153 : decode cX7_uses 153 = .ok (.bipush 7, 2) := by decide +kernel
theorem dX7_uses_155 : decode cX7_uses 155 = .ok (.aload_n 0, 1) := by decide +kernel
theorem dX7_uses_156 : decode cX7_uses 156 = .ok (.iload_n 1, 1) := by decide +kernel
theorem dX7_uses_157 : decode cX7_uses 157 = .ok (.bipush 8, 2) := by decide +kernel
theorem dX7_uses_159 : decode cX7_uses 159 = .ok (.invokevirtual 59, 3) := by decide +kernel
theorem dX7_uses_162 : decode cX7_uses 162 = .ok (.iadd, 1) := by decide +kernel
theorem dX7_uses_163 : decode cX7_uses 163 = .ok (.iaload, 1) := by decide +kernel
theorem dX7_uses_164 : decode cX7_uses 164 = .ok (.iadd, 1) := by decide +kernel
theorem dX7_uses_165 : decode cX7_uses 165 = .ok (.iastore, 1) := by decide +kernel
theorem dX7_uses_166 : decode cX7_uses 166 = .ok (.aload_n 0, 1) := by decide +kernel
theorem dX7_uses_167 : decode cX7_uses 167 = .ok (.getfield 7, 3) := by decide +kernel
theorem dX7_uses_170 : decode cX7_uses 170 = .ok (.iload_n 1, 1) := by decide +kernel
theorem dX7_uses_171 : decode cX7_uses 171 = .ok (.bipush 7, 2) := by decide +kernel
theorem dX7_uses_173 : decode cX7_uses 173 = .ok (.invokestatic 52, 3) := by decide +kernel
theorem dX7_uses_176 : decode cX7_uses 176 = .ok (.dup2, 1) := by decide +kernel
theorem dX7_uses_177 : decode cX7_uses 177 = .ok (.iaload, 1) := by decide +kernel
theorem dX7_uses_178 : decode cX7_uses 178 = .ok (.iconst 1, 1) := by decide +kernel
theorem dX7_uses_179 : decode cX7_uses 179 = .ok (.iadd, 1) := by decide +kernel
theorem dX7_uses_180 : decode cX7_uses 180 = .ok (.iastore, 1) := by decide +kernel
theorem dX7_uses_181 : decode cX7_uses 181 = .ok (.iconst 0, 1) := by decide +kernel
theorem dX7_uses_182 : decode cX7_uses 182 = .ok (.istore_n 3, 1) := by decide +kernel
theorem dX7_uses_183 : decode cX7_uses 183 = .ok (.iload_n 3, 1) := by decide +kernel
theorem dX7_uses_184 : decode cX7_uses 184 = .ok (.bipush 15, 2) := by decide +kernel
theorem dX7_uses_186 : decode cX7_uses 186 = .ok (.if_icmp .ge 33, 3) := by decide +kernel
theorem dX7_uses_189 : decode cX7_uses 189 = .ok (.aload_n 0, 1) := by decide +kernel
theorem dX7_uses_190 : decode cX7_uses 190 = .ok (.getfield 7, 3) := by decide +kernel
theorem dX7_uses_193 : decode cX7_uses 193 = .ok (.iload_n 1, 1) := by decide +kernel
theorem dX7_uses_194 : decode cX7_uses 194 = .ok (.bipush 8, 2) := by decide +kernel
theorem dX7_uses_196 : decode cX7_uses 196 = .ok (.iload_n 3, 1) := by decide +kernel
theorem dX7_uses_197 : decode cX7_uses 197 = .ok (.iadd, 1) := by decide +kernel
theorem dX7_uses_198 : decode cX7_uses 198 = .ok (.invokestatic 52, 3) := by decide +kernel
theorem dX7_uses_201 : decode cX7_uses 201 = .ok (.aload_n 0, 1) := by decide +kernel
theorem dX7_uses_202 : decode cX7_uses 202 = .ok (.iload_n 1, 1) := by decide +kernel
theorem dX7_uses_203 : decode cX7_uses 203 = .ok (.bipush 8, 2) := by decide +kernel
theorem dX7_uses_205 : decode cX7_uses 205 = .ok (.iload_n 3, 1) := by decide +kernel
theorem dX7_uses_206 : decode cX7_uses 206 = .ok (.iadd, 1) := by decide +kernel
theorem dX7_uses_207 : decode cX7_uses 207 = .ok (.iconst 3, 1) := by decide +kernel
theorem dX7_uses_208 : decode cX7_uses 208 = .ok (.iadd, 1) := by decide +kernel
theorem dX7_uses_209 : decode cX7_uses 209 = .ok (.invokevirtual 59, 3) := by decide +kernel
theorem dX7_uses_212 : decode cX7_uses 212 = .ok (.iastore, 1) := by decide +kernel
theorem dX7_uses_213 : decode cX7_uses 213 = .ok (.iinc 3 1, 3) := by decide +kernel
theorem dX7_uses_216 : decode cX7_uses 216 = .ok (.goto (-33), 3) := by decide +kernel
theorem dX7_uses_219 : decode cX7_uses 219 = .ok (.aload_n 0, 1) := by decide +kernel
theorem dX7_uses_220 : decode cX7_uses 220 = .ok (.getfield 7, 3) := by decide +kernel
theorem dX7_uses_223 : decode cX7_uses 223 = .ok (.iload_n 1, 1) := by decide +kernel
theorem dX7_uses_224 : decode cX7_uses 224 = .ok (.iconst 0, 1) := by decide +kernel
theorem dX7_uses_225 : decode cX7_uses 225 = .ok (.invokestatic 52, 3) := by decide +kernel
theorem dX7_uses_228 : decode cX7_uses 228 = .ok (.dup2, 1) := by decide +kernel
theorem dX7_uses_229 : decode cX7_uses 229 = .ok (.iaload, 1) := by decide +kernel
theorem dX7_uses_230 : decode cX7_uses 230 = .ok (.iconst 1, 1) := by decide +kernel
theorem dX7_uses_231 : decode cX7_uses 231 = .ok (.isub, 1) := by decide +kernel
theorem dX7_uses_232 : decode cX7_uses 232 = .ok (.iastore, 1) := by decide +kernel
theorem dX7_uses_233 : decode cX7_uses 233 = .ok (.return_, 1) := by decide +kernel
theorem dX7_breaks_0 : decode cX7_breaks 0 = .ok (.iconst 0, 1) := by decide +kernel
theorem dX7_breaks_1 : decode cX7_breaks 1 = .ok (.istore_n 2, 1) := by decide +kernel
theorem dX7_breaks_2 : decode cX7_breaks 2 = .ok (.iconst 1, 1) := by decide +kernel
theorem dX7_breaks_3 : decode cX7_breaks 3 = .ok (.istore_n 3, 1) := by decide +kernel
theorem dX7_breaks_4 : decode cX7_breaks 4 = .ok (.iload_n 3, 1) := by decide +kernel
theorem dX7_breaks_5 : decode cX7_breaks 5 = .ok (.aload_n 0, 1) := by decide +kernel
theorem dX7_breaks_6 : decode cX7_breaks 6 = .ok (.getfield 7, 3) := by decide +kernel
theorem dX7_breaks_9 : decode cX7_breaks 9 = .ok (.iconst 0, 1) := by decide +kernel
theorem dX7_breaks_10 : decode cX7_breaks 10 = .ok (.iaload, 1) := by decide +kernel
theorem dX7_breaks_11 : decode cX7_breaks 11 = .ok (.if_icmp .ge 30, 3) := by decide +kernel
theorem dX7_breaks_14 : decode cX7_breaks 14 = .ok (.aload_n 0, 1) := by decide +kernel
theorem dX7_breaks_15 : decode cX7_breaks 15 = .ok (.iload_n 1, 1) := by decide +kernel
theorem dX7_breaks_16 : decode cX7_breaks 16 = .ok (.iload_n 3, 1) := by decide +kernel
theorem dX7_breaks_17 : decode cX7_breaks 17 = .ok (.invokevirtual 56, 3) := by decide +kernel
theorem dX7_breaks_20 : decode cX7_breaks 20 = .ok (.aload_n 0, 1) := by decide +kernel
theorem dX7_breaks_21 : decode cX7_breaks 21 = .ok (.iload_n 1, 1) := by decide +kernel
theorem dX7_breaks_22 : decode cX7_breaks 22 = .ok (.iload_n 2, 1) := by decide +kernel
theorem dX7_breaks_23 : decode cX7_breaks 23 = .ok (.invokevirtual 56, 3) := by decide +kernel
theorem dX7_breaks_26 : decode cX7_breaks 26 = .ok (.if_icmp .le 7, 3) := by decide +kernel
theorem dX7_breaks_29 : decode cX7_breaks 29 = .ok (.iload_n 3, 1) := by decide +kernel
theorem dX7_breaks_30 : decode cX7_breaks 30 = .ok (.goto 4, 3) := by decide +kernel
theorem dX7_breaks_33 : decode cX7_breaks 33 = .ok (.iload_n 2, 1) := by decide +kernel
theorem dX7_breaks_34 : decode cX7_breaks 34 = .ok (.istore_n 2, 1) := by decide +kernel
theorem dX7_breaks_35 : decode cX7_breaks 35 = .ok (.iinc 3 1, 3) := by decide +kernel
theorem dX7_breaks_38 : decode cX7_breaks 38 = .ok (.goto (-34), 3) := by decide +kernel
theorem dX7_breaks_41 : decode cX7_breaks 41 = .ok (.iconst 0, 1) := by decide +kernel
theorem dX7_breaks_42 : decode cX7_breaks 42 = .ok (.istore_n 3, 1) := by decide +kernel
theorem dX7_breaks_43 : decode cX7_breaks 43 = .ok (.iload_n 3, 1) := by decide +kernel
theorem dX7_breaks_44 : decode cX7_breaks 44 = .ok (.aload_n 0, 1) := by decide +kernel
theorem dX7_breaks_45 : decode cX7_breaks 45 = .ok (.getfield 7, 3) := by decide +kernel
theorem dX7_breaks_48 : decode cX7_breaks 48 = .ok (.iconst 1, 1) := by decide +kernel
theorem dX7_breaks_49 : decode cX7_breaks 49 = .ok (.iaload, 1) := by decide +kernel
theorem dX7_breaks_50 : decode cX7_breaks 50 = .ok (.if_icmp .ge 44, 3) := by decide +kernel
theorem dX7_breaks_53 : decode cX7_breaks 53 = .ok (.aload_n 0, 1) := by decide +kernel
theorem dX7_breaks_54 : decode cX7_breaks 54 = .ok (.getfield 7, 3) := by decide +kernel
theorem dX7_breaks_57 : decode cX7_breaks 57 = .ok (.bipush 11, 2) := by decide +kernel
theorem dX7_breaks_59 : decode cX7_breaks 59 = .ok (.iload_n 3, 1) := by decide +kernel
theorem dX7_breaks_60 : decode cX7_breaks 60 = .ok (.iadd, 1) := by decide +kernel
theorem dX7_breaks_61 : decode cX7_breaks 61 = .ok (.aload_n 0, 1) := by decide +kernel
theorem dX7_breaks_62 : decode cX7_breaks 62 = .ok (.getfield 7, 3) := by decide +kernel
theorem dX7_breaks_65 : decode cX7_breaks 65 = .ok (.bipush 11, 2) := by decide +kernel
theorem dX7_breaks_67 : decode cX7_breaks 67 = .ok (.iload_n 3, 1) := by decide +kernel
theorem dX7_breaks_68 : decode cX7_breaks 68 = .ok (.iadd, 1) := by decide +kernel
theorem dX7_breaks_69 : decode cX7_breaks 69 = .ok (.iaload, 1) := by decide +kernel
theorem dX7_breaks_70 : decode cX7_breaks 70 = .ok (.iload_n 1, 1) := by decide +kernel
theorem dX7_breaks_71 : decode cX7_breaks 71 = .ok (.if_icmp .ne 7, 3) := by decide +kernel
theorem dX7_breaks_74 : decode cX7_breaks 74 = .ok (.iload_n 2, 1) := by decide +kernel
theorem dX7_breaks_75 : decode cX7_breaks 75 = .ok (.goto 12, 3) := by decide +kernel
theorem dX7_breaks_78 : decode cX7_breaks 78 = .ok (.aload_n 0, 1) := by decide +kernel
theorem dX7_breaks_79 : decode cX7_breaks 79 = .ok (.getfield 7, 3) := by decide +kernel
theorem dX7_breaks_82 : decode cX7_breaks 82 = .ok (.bipush 11, 2) := by decide +kernel
theorem dX7_breaks_84 : decode cX7_breaks 84 = .ok (.iload_n 3, 1) := by decide +kernel
theorem dX7_breaks_85 : decode cX7_breaks 85 = .ok (.iadd, 1) := by decide +kernel
theorem dX7_breaks_86 : decode cX7_breaks 86 = .ok (.iaload, 1) := by decide +kernel
theorem dX7_breaks_87 : decode cX7_breaks 87 = .ok (.iastore, 1) := by decide +kernel
theorem dX7_breaks_88 : decode cX7_breaks 88 = .ok (.iinc 3 1, 3) := by decide +kernel
theorem dX7_breaks_91 : decode cX7_breaks 91 = .ok (.goto (-48), 3) := by decide +kernel
theorem dX7_breaks_94 : decode cX7_breaks 94 = .ok (.iconst 0, 1) := by decide +kernel
theorem dX7_breaks_95 : decode cX7_breaks 95 = .ok (.istore_n 3, 1) := by decide +kernel
theorem dX7_breaks_96 : decode cX7_breaks 96 = .ok (.iload_n 3, 1) := by decide +kernel
theorem dX7_breaks_97 : decode cX7_breaks 97 = .ok (.bipush 6, 2) := by decide +kernel
theorem dX7_breaks_99 : decode cX7_breaks 99 = .ok (.if_icmp .ge 39, 3) := by decide +kernel
theorem dX7_breaks_102 : decode cX7_breaks 102 = .ok (.aload_n 0, 1) := by decide +kernel
theorem dX7_breaks_103 : decode cX7_breaks 103 = .ok (.getfield 7, 3) := by decide +kernel
theorem dX7_breaks_106 : decode cX7_breaks 106 = .ok (.bipush 27, 2) := by decide +kernel
theorem dX7_breaks_108 : decode cX7_breaks 108 = .ok (.bipush 6, 2) := by decide +kernel
theorem dX7_breaks_110 : decode cX7_breaks 110 = .ok (.iload_n 1, 1) := by decide +kernel
theorem dX7_breaks_111 : decode cX7_breaks 111 = .ok (.imul, 1) := by decide +kernel
theorem dX7_breaks_112 : decode cX7_breaks 112 = .ok (.iadd, 1) := by decide +kernel
theorem dX7_breaks_113 : decode cX7_breaks 113 = .ok (.iload_n 3, 1) := by decide +kernel
theorem dX7_breaks_114 : decode cX7_breaks 114 = .ok (.iadd, 1) := by decide +kernel
theorem dX7_breaks_115 : decode cX7_breaks 115 = .ok (.iconst 0, 1) := by decide +kernel
theorem dX7_breaks_116 : decode cX7_breaks 116 = .ok (.iastore, 1) := by decide +kernel
theorem dX7_breaks_117 : decode cX7_breaks 117 = .ok (.aload_n 0, 1) := by decide +kernel
theorem dX7_breaks_118 : decode cX7_breaks 118 = .ok (.getfield 7, 3) := by decide +kernel
theorem dX7_breaks_121 : decode cX7_breaks 121 = .ok (.bipush 27, 2) := by decide +kernel
theorem dX7_breaks_123 : decode cX7_breaks 123 = .ok (.bipush 6, 2) := by decide +kernel
theorem dX7_breaks_125 : decode cX7_breaks 125 = .ok (.iload_n 3, 1) := by decide +kernel
theorem dX7_breaks_126 : decode cX7_breaks 126 = .ok (.imul, 1) := by decide +kernel
theorem dX7_breaks_127 : decode cX7_breaks 127 = .ok (.iadd, 1) := by decide +kernel
theorem dX7_breaks_128 : decode cX7_breaks 128 = .ok (.iload_n 1, 1) := by decide +kernel
theorem dX7_breaks_129 : decode cX7_breaks 129 = .ok (.iadd, 1) := by decide +kernel
theorem dX7_breaks_130 : decode cX7_breaks 130 = .ok (.iconst 0, 1) := by decide +kernel
theorem dX7_breaks_131 : decode cX7_breaks 131 = .ok (.iastore, 1) := by decide +kernel
theorem dX7_breaks_132 : decode cX7_breaks 132 = .ok (.iinc 3 1, 3) := by decide +kernel
theorem dX7_breaks_135 : decode cX7_breaks 135 = .ok (.goto (-39), 3) := by decide +kernel
theorem dX7_breaks_138 : decode cX7_breaks 138 = .ok (.aload_n 0, 1) := by decide +kernel
theorem dX7_breaks_139 : decode cX7_breaks 139 = .ok (.getfield 7, 3) := by decide +kernel
theorem dX7_breaks_142 : decode cX7_breaks 142 = .ok (.iload_n 1, 1) := by decide +kernel
theorem dX7_breaks_143 : decode cX7_breaks 143 = .ok (.iconst 0, 1) := by decide +kernel
theorem dX7_breaks_144 : decode cX7_breaks 144 = .ok (.invokestatic 52, 3) := by decide +kernel
theorem dX7_breaks_147 : decode cX7_breaks 147 = .ok (.iconst 0, 1) := by decide +kernel
theorem dX7_breaks_148 : decode cX7_breaks 148 = .ok (.iastore, 1) := by decide +kernel
theorem dX7_breaks_149 : decode cX7_breaks 149 = .ok (.aload_n 0, 1) := by decide +kernel
theorem dX7_breaks_150 : decode cX7_breaks 150 = .ok (.getfield 7, 3) := by decide +kernel
theorem dX7_breaks_153 : decode cX7_breaks 153 = .ok (.iload_n 1, 1) := by decide +kernel
theorem dX7_breaks_154 : decode cX7_breaks 154 = .ok (.bipush 7, 2) := by decide +kernel
theorem dX7_breaks_156 : decode cX7_breaks 156 = .ok (.invokestatic 52, 3) := by decide +kernel
theorem dX7_breaks_159 : decode cX7_breaks 159 = .ok (.iconst 0, 1) := by decide +kernel
theorem dX7_breaks_160 : decode cX7_breaks 160 = .ok (.iastore, 1) := by decide +kernel
