theorem dX6_master_134 : decode cX6_master 134 = .ok (.ireturn, 1) := by decide +kernel
theorem dX6_master_135 : decode cX6_master 135 = .ok (.aload_n 3, 1) := by decide +kernel
theorem dX6_master_136 : decode cX6_master 136 = .ok (.getfield 157, 3) := by decide +kernel
theorem dX6_master_139 : decode cX6_master 139 = .ok (.ireturn, 1) := by decide +kernel
theorem dX6_master_140 : decode cX6_master 140 = .ok (.aload_n 3, 1) := by decide +kernel
theorem dX6_master_141 : decode cX6_master 141 = .ok (.getfield 160, 3) := by decide +kernel
theorem dX6_master_144 : decode cX6_master 144 = .ok (.ireturn, 1) := by decide +kernel
theorem dX6_master_145 : decode cX6_master 145 = .ok (.new 44, 3) := by decide +kernel
theorem dX6_master_148 : decode cX6_master 148 = .ok (.dup, 1) := by decide +kernel
theorem dX6_master_149 : decode cX6_master 149 = .ok (.ldc 163, 2) := by decide +kernel
theorem dX6_master_151 : decode cX6_master 151 = .ok (.invokespecial 48, 3) := by decide +kernel
theorem dX6_master_154 : decode cX6_master 154 = .ok (.athrow, 1) := by decide +kernel
theorem dX6_owner_0 : decode cX6_owner 0 = .ok (.aload_n 0, 1) := by decide +kernel
theorem dX6_owner_1 : decode cX6_owner 1 = .ok (.iload_n 1, 1) := by decide +kernel
theorem dX6_owner_2 : decode cX6_owner 2 = .ok (.invokevirtual 165, 3) := by decide +kernel
theorem dX6_owner_5 : decode cX6_owner 5 = .ok (.aload_n 0, 1) := by decide +kernel
theorem dX6_owner_6 : decode cX6_owner 6 = .ok (.getfield 19, 3) := by decide +kernel
theorem dX6_owner_9 : decode cX6_owner 9 = .ok (.getfield 168, 3) := by decide +kernel
theorem dX6_owner_12 : decode cX6_owner 12 = .ok (.iload_n 1, 1) := by decide +kernel
theorem dX6_owner_13 : decode cX6_owner 13 = .ok (.iaload, 1) := by decide +kernel
theorem dX6_owner_14 : decode cX6_owner 14 = .ok (.ireturn, 1) := by decide +kernel
theorem dX6_owes_0 : decode cX6_owes 0 = .ok (.aload_n 0, 1) := by decide +kernel
theorem dX6_owes_1 : decode cX6_owes 1 = .ok (.iload_n 1, 1) := by decide +kernel
theorem dX6_owes_2 : decode cX6_owes 2 = .ok (.invokevirtual 113, 3) := by decide +kernel
theorem dX6_owes_5 : decode cX6_owes 5 = .ok (.aload_n 0, 1) := by decide +kernel
theorem dX6_owes_6 : decode cX6_owes 6 = .ok (.iload_n 2, 1) := by decide +kernel
theorem dX6_owes_7 : decode cX6_owes 7 = .ok (.invokevirtual 113, 3) := by decide +kernel
theorem dX6_owes_10 : decode cX6_owes 10 = .ok (.aload_n 0, 1) := by decide +kernel
theorem dX6_owes_11 : decode cX6_owes 11 = .ok (.getfield 19, 3) := by decide +kernel
theorem dX6_owes_14 : decode cX6_owes 14 = .ok (.getfield 117, 3) := by decide +kernel
theorem dX6_owes_17 : decode cX6_owes 17 = .ok (.iload_n 1, 1) := by decide +kernel
theorem dX6_owes_18 : decode cX6_owes 18 = .ok (.aaload, 1) := by decide +kernel
theorem dX6_owes_19 : decode cX6_owes 19 = .ok (.getfield 172, 3) := by decide +kernel
theorem dX6_owes_22 : decode cX6_owes 22 = .ok (.iload_n 2, 1) := by decide +kernel
theorem dX6_owes_23 : decode cX6_owes 23 = .ok (.iaload, 1) := by decide +kernel
theorem dX6_owes_24 : decode cX6_owes 24 = .ok (.ireturn, 1) := by decide +kernel
theorem dX6_burst_0 : decode cX6_burst 0 = .ok (.aload_n 0, 1) := by decide +kernel
theorem dX6_burst_1 : decode cX6_burst 1 = .ok (.iload_n 1, 1) := by decide +kernel
theorem dX6_burst_2 : decode cX6_burst 2 = .ok (.invokevirtual 113, 3) := by decide +kernel
theorem dX6_burst_5 : decode cX6_burst 5 = .ok (.iload_n 2, 1) := by decide +kernel
theorem dX6_burst_6 : decode cX6_burst 6 = .ok (.ifCond .lt 12, 3) := by decide +kernel
theorem dX6_burst_9 : decode cX6_burst 9 = .ok (.iload_n 3, 1) := by decide +kernel
theorem dX6_burst_10 : decode cX6_burst 10 = .ok (.ifCond .lt 8, 3) := by decide +kernel
theorem dX6_burst_13 : decode cX6_burst 13 = .ok (.iload_n 3, 1) := by decide +kernel
theorem dX6_burst_14 : decode cX6_burst 14 = .ok (.iconst 2, 1) := by decide +kernel
theorem dX6_burst_15 : decode cX6_burst 15 = .ok (.if_icmp .le 13, 3) := by decide +kernel
theorem dX6_burst_18 : decode cX6_burst 18 = .ok (.new 44, 3) := by decide +kernel
theorem dX6_burst_21 : decode cX6_burst 21 = .ok (.dup, 1) := by decide +kernel
theorem dX6_burst_22 : decode cX6_burst 22 = .ok (.ldc 175, 2) := by decide +kernel
theorem dX6_burst_24 : decode cX6_burst 24 = .ok (.invokespecial 48, 3) := by decide +kernel
theorem dX6_burst_27 : decode cX6_burst 27 = .ok (.athrow, 1) := by decide +kernel
theorem dX6_burst_28 : decode cX6_burst 28 = .ok (.aload_n 0, 1) := by decide +kernel
theorem dX6_burst_29 : decode cX6_burst 29 = .ok (.getfield 19, 3) := by decide +kernel
theorem dX6_burst_32 : decode cX6_burst 32 = .ok (.getfield 117, 3) := by decide +kernel
theorem dX6_burst_35 : decode cX6_burst 35 = .ok (.iload_n 1, 1) := by decide +kernel
theorem dX6_burst_36 : decode cX6_burst 36 = .ok (.aaload, 1) := by decide +kernel
theorem dX6_burst_37 : decode cX6_burst 37 = .ok (.getfield 133, 3) := by decide +kernel
theorem dX6_burst_40 : decode cX6_burst 40 = .ok (.astore 4, 2) := by decide +kernel
theorem dX6_burst_42 : decode cX6_burst 42 = .ok (.iload_n 2, 1) := by decide +kernel
theorem dX6_burst_43 : decode cX6_burst 43 = .ok (.aload 4, 2) := by decide +kernel
theorem dX6_burst_45 : decode cX6_burst 45 = .ok (.getfield 137, 3) := by decide +kernel
theorem dX6_burst_48 : decode cX6_burst 48 = .ok (.if_icmp .ge 9, 3) := by decide +kernel
theorem dX6_burst_51 : decode cX6_burst 51 = .ok (.iload_n 2, 1) := by decide +kernel
theorem dX6_burst_52 : decode cX6_burst 52 = .ok (.bipush 6, 2) := by decide +kernel
theorem dX6_burst_54 : decode cX6_burst 54 = .ok (.if_icmp .lt 6, 3) := by decide +kernel
theorem dX6_burst_57 : decode cX6_burst 57 = .ok (.bipush (-9), 2) := by decide +kernel
theorem dX6_burst_59 : decode cX6_burst 59 = .ok (.ireturn, 1) := by decide +kernel
theorem dX6_burst_60 : decode cX6_burst 60 = .ok (.iload_n 3, 1) := by decide +kernel
theorem dX6_burst_61 : decode cX6_burst 61 = .ok (.ifCond .ne 11, 3) := by decide +kernel
theorem dX6_burst_64 : decode cX6_burst 64 = .ok (.aload 4, 2) := by decide +kernel
theorem dX6_burst_66 : decode cX6_burst 66 = .ok (.getfield 177, 3) := by decide +kernel
theorem dX6_burst_69 : decode cX6_burst 69 = .ok (.iload_n 2, 1) := by decide +kernel
theorem dX6_burst_70 : decode cX6_burst 70 = .ok (.iaload, 1) := by decide +kernel
theorem dX6_burst_71 : decode cX6_burst 71 = .ok (.ireturn, 1) := by decide +kernel
theorem dX6_burst_72 : decode cX6_burst 72 = .ok (.iload_n 3, 1) := by decide +kernel
theorem dX6_burst_73 : decode cX6_burst 73 = .ok (.iconst 1, 1) := by decide +kernel
theorem dX6_burst_74 : decode cX6_burst 74 = .ok (.if_icmp .ne 11, 3) := by decide +kernel
theorem dX6_burst_77 : decode cX6_burst 77 = .ok (.aload 4, 2) := by decide +kernel
theorem dX6_burst_79 : decode cX6_burst 79 = .ok (.getfield 180, 3) := by decide +kernel
theorem dX6_burst_82 : decode cX6_burst 82 = .ok (.iload_n 2, 1) := by decide +kernel
theorem dX6_burst_83 : decode cX6_burst 83 = .ok (.iaload, 1) := by decide +kernel
theorem dX6_burst_84 : decode cX6_burst 84 = .ok (.ireturn, 1) := by decide +kernel
theorem dX6_burst_85 : decode cX6_burst 85 = .ok (.aload 4, 2) := by decide +kernel
theorem dX6_burst_87 : decode cX6_burst 87 = .ok (.getfield 183, 3) := by decide +kernel
theorem dX6_burst_90 : decode cX6_burst 90 = .ok (.iload_n 2, 1) := by decide +kernel
theorem dX6_burst_91 : decode cX6_burst 91 = .ok (.baload, 1) := by decide +kernel
theorem dX6_burst_92 : decode cX6_burst 92 = .ok (.ifCond .eq 7, 3) := by decide +kernel
theorem dX6_burst_95 : decode cX6_burst 95 = .ok (.iconst 1, 1) := by decide +kernel
theorem dX6_burst_96 : decode cX6_burst 96 = .ok (.goto 4, 3) := by decide +kernel
theorem dX6_burst_99 : decode cX6_burst 99 = .ok (.iconst 0, 1) := by decide +kernel
theorem dX6_burst_100 : decode cX6_burst 100 = .ok (.ireturn, 1) := by decide +kernel
theorem dX6_order_0 : decode cX6_order 0 = .ok (.iload_n 1, 1) := by decide +kernel
theorem dX6_order_1 : decode cX6_order 1 = .ok (.ifCond .ge 13, 3) := by decide +kernel
theorem dX6_order_4 : decode cX6_order 4 = .ok (.new 44, 3) := by decide +kernel
theorem dX6_order_7 : decode cX6_order 7 = .ok (.dup, 1) := by decide +kernel
theorem dX6_order_8 : decode cX6_order 8 = .ok (.ldc 186, 2) := by decide +kernel
theorem dX6_order_10 : decode cX6_order 10 = .ok (.invokespecial 48, 3) := by decide +kernel
theorem dX6_order_13 : decode cX6_order 13 = .ok (.athrow, 1) := by decide +kernel
theorem dX6_order_14 : decode cX6_order 14 = .ok (.iconst 0, 1) := by decide +kernel
theorem dX6_order_15 : decode cX6_order 15 = .ok (.istore_n 2, 1) := by decide +kernel
theorem dX6_order_16 : decode cX6_order 16 = .ok (.iload_n 2, 1) := by decide +kernel
theorem dX6_order_17 : decode cX6_order 17 = .ok (.aload_n 0, 1) := by decide +kernel
theorem dX6_order_18 : decode cX6_order 18 = .ok (.getfield 19, 3) := by decide +kernel
theorem dX6_order_21 : decode cX6_order 21 = .ok (.getfield 83, 3) := by decide +kernel
theorem dX6_order_24 : decode cX6_order 24 = .ok (.if_icmp .ge 23, 3) := by decide +kernel
theorem dX6_order_27 : decode cX6_order 27 = .ok (.aload_n 0, 1) := by decide +kernel
theorem dX6_order_28 : decode cX6_order 28 = .ok (.getfield 19, 3) := by decide +kernel
theorem dX6_order_31 : decode cX6_order 31 = .ok (.iload_n 2, 1) := by decide +kernel
theorem dX6_order_32 : decode cX6_order 32 = .ok (.invokevirtual 188, 3) := by decide +kernel
theorem dX6_order_35 : decode cX6_order 35 = .ok (.iload_n 1, 1) := by decide +kernel
theorem dX6_order_36 : decode cX6_order 36 = .ok (.if_icmp .ne 5, 3) := by decide +kernel
theorem dX6_order_39 : decode cX6_order 39 = .ok (.iload_n 2, 1) := by decide +kernel
theorem dX6_order_40 : decode cX6_order 40 = .ok (.ireturn, 1) := by decide +kernel
theorem dX6_order_41 : decode cX6_order 41 = .ok (.iinc 2 1, 3) := by decide +kernel
theorem dX6_order_44 : decode cX6_order 44 = .ok (.goto (-28), 3) := by decide +kernel
theorem dX6_order_47 : decode cX6_order 47 = .ok (.bipush (-9), 2) := by decide +kernel
theorem dX6_order_49 : decode cX6_order 49 = .ok (.ireturn, 1) := by decide +kernel
theorem dX6_addMaster_0 : decode cX6_addMaster 0 = .ok (.aload_n 0, 1) := by decide +kernel
theorem dX6_addMaster_1 : decode cX6_addMaster 1 = .ok (.getfield 19, 3) := by decide +kernel
theorem dX6_addMaster_4 : decode cX6_addMaster 4 = .ok (.getfield 83, 3) := by decide +kernel
theorem dX6_addMaster_7 : decode cX6_addMaster 7 = .ok (.bipush 6, 2) := by decide +kernel
theorem dX6_addMaster_9 : decode cX6_addMaster 9 = .ok (.if_icmp .lt 13, 3) := by decide +kernel
theorem dX6_addMaster_12 : decode cX6_addMaster 12 = .ok (.new 55, 3) := by decide +kernel
theorem dX6_addMaster_15 : decode cX6_addMaster 15 = .ok (.dup, 1) := by decide +kernel
theorem dX6_addMaster_16 : decode cX6_addMaster 16 = .ok (.ldc 191, 2) := by decide +kernel
theorem dX6_addMaster_18 : decode cX6_addMaster 18 = .ok (.invokespecial 59, 3) := by decide +kernel
theorem dX6_addMaster_21 : decode cX6_addMaster 21 = .ok (.athrow, 1) := by decide +kernel
theorem dX6_addMaster_22 : decode cX6_addMaster 22 = .ok (.aload_n 0, 1) := by decide +kernel
theorem dX6_addMaster_23 : decode cX6_addMaster 23 = .ok (.getfield 26, 3) := by decide +kernel
theorem dX6_addMaster_26 : decode cX6_addMaster 26 = .ok (.aload_n 0, 1) := by decide +kernel
theorem dX6_addMaster_27 : decode cX6_addMaster 27 = .ok (.getfield 19, 3) := by decide +kernel
theorem dX6_addMaster_30 : decode cX6_addMaster 30 = .ok (.invokevirtual 193, 3) := by decide +kernel
theorem dX6_addMaster_33 : decode cX6_addMaster 33 = .ok (.aload_n 0, 1) := by decide +kernel
theorem dX6_addMaster_34 : decode cX6_addMaster 34 = .ok (.getfield 19, 3) := by decide +kernel
theorem dX6_addMaster_37 : decode cX6_addMaster 37 = .ok (.invokevirtual 196, 3) := by decide +kernel
theorem dX6_addMaster_40 : decode cX6_addMaster 40 = .ok (.ireturn, 1) := by decide +kernel
theorem dX6_give_0 : decode cX6_give 0 = .ok (.aload_n 0, 1) := by decide +kernel
theorem dX6_give_1 : decode cX6_give 1 = .ok (.iload_n 1, 1) := by decide +kernel
theorem dX6_give_2 : decode cX6_give 2 = .ok (.invokevirtual 165, 3) := by decide +kernel
theorem dX6_give_5 : decode cX6_give 5 = .ok (.aload_n 0, 1) := by decide +kernel
theorem dX6_give_6 : decode cX6_give 6 = .ok (.iload_n 2, 1) := by decide +kernel
theorem dX6_give_7 : decode cX6_give 7 = .ok (.invokevirtual 113, 3) := by decide +kernel
theorem dX6_give_10 : decode cX6_give 10 = .ok (.aload_n 0, 1) := by decide +kernel
theorem dX6_give_11 : decode cX6_give 11 = .ok (.getfield 19, 3) := by decide +kernel
theorem dX6_give_14 : decode cX6_give 14 = .ok (.getfield 117, 3) := by decide +kernel
theorem dX6_give_17 : decode cX6_give 17 = .ok (.iload_n 2, 1) := by decide +kernel
theorem dX6_give_18 : decode cX6_give 18 = .ok (.aaload, 1) := by decide +kernel
theorem dX6_give_19 : decode cX6_give 19 = .ok (.getfield 199, 3) := by decide +kernel
theorem dX6_give_22 : decode cX6_give 22 = .ok (.ifCond .eq 13, 3) := by decide +kernel
theorem dX6_give_25 : decode cX6_give 25 = .ok (.new 55, 3) := by decide +kernel
theorem dX6_give_28 : decode cX6_give 28 = .ok (.dup, 1) := by decide +kernel
theorem dX6_give_29 : decode cX6_give 29 = .ok (.ldc 203, 2) := by decide +kernel
theorem dX6_give_31 : decode cX6_give 31 = .ok (.invokespecial 59, 3) := by decide +kernel
theorem dX6_give_34 : decode cX6_give 34 = .ok (.athrow, 1) := by decide +kernel
theorem dX6_give_35 : decode cX6_give 35 = .ok (.aload_n 0, 1) := by decide +kernel
theorem dX6_give_36 : decode cX6_give 36 = .ok (.getfield 26, 3) := by decide +kernel
theorem dX6_give_39 : decode cX6_give 39 = .ok (.aload_n 0, 1) := by decide +kernel
theorem dX6_give_40 : decode cX6_give 40 = .ok (.getfield 19, 3) := by decide +kernel
theorem dX6_give_43 : decode cX6_give 43 = .ok (.invokevirtual 193, 3) := by decide +kernel
theorem dX6_give_46 : decode cX6_give 46 = .ok (.aload_n 0, 1) := by decide +kernel
theorem dX6_give_47 : decode cX6_give 47 = .ok (.getfield 19, 3) := by decide +kernel
theorem dX6_give_50 : decode cX6_give 50 = .ok (.getfield 168, 3) := by decide +kernel
theorem dX6_give_53 : decode cX6_give 53 = .ok (.iload_n 1, 1) := by decide +kernel
theorem dX6_give_54 : decode cX6_give 54 = .ok (.iaload, 1) := by decide +kernel
theorem dX6_give_55 : decode cX6_give 55 = .ok (.istore_n 3, 1) := by decide +kernel
theorem dX6_give_56 : decode cX6_give 56 = .ok (.aload_n 0, 1) := by decide +kernel
theorem dX6_give_57 : decode cX6_give 57 = .ok (.getfield 19, 3) := by decide +kernel
theorem dX6_give_60 : decode cX6_give 60 = .ok (.getfield 168, 3) := by decide +kernel
theorem dX6_give_63 : decode cX6_give 63 = .ok (.iload_n 1, 1) := by decide +kernel
theorem dX6_give_64 : decode cX6_give 64 = .ok (.iload_n 2, 1) := by decide +kernel
theorem dX6_give_65 : decode cX6_give 65 = .ok (.iastore, 1) := by decide +kernel
theorem dX6_give_66 : decode cX6_give 66 = .ok (.iload_n 3, 1) := by decide +kernel
theorem dX6_give_67 : decode cX6_give 67 = .ok (.ireturn, 1) := by decide +kernel
theorem dX6_setLatency_0 : decode cX6_setLatency 0 = .ok (.aload_n 0, 1) := by decide +kernel
theorem dX6_setLatency_1 : decode cX6_setLatency 1 = .ok (.iload_n 1, 1) := by decide +kernel
theorem dX6_setLatency_2 : decode cX6_setLatency 2 = .ok (.invokevirtual 205, 3) := by decide +kernel
theorem dX6_setLatency_5 : decode cX6_setLatency 5 = .ok (.iload_n 2, 1) := by decide +kernel
theorem dX6_setLatency_6 : decode cX6_setLatency 6 = .ok (.ifCond .lt 9, 3) := by decide +kernel
theorem dX6_setLatency_9 : decode cX6_setLatency 9 = .ok (.iload_n 2, 1) := by decide +kernel
theorem dX6_setLatency_10 : decode cX6_setLatency 10 = .ok (.bipush 9, 2) := by decide +kernel
theorem dX6_setLatency_12 : decode cX6_setLatency 12 = .ok (.if_icmp .le 13, 3) := by decide +kernel
theorem dX6_setLatency_15 : decode cX6_setLatency 15 = .ok (.new 44, 3) := by decide +kernel
theorem dX6_setLatency_18 : decode cX6_setLatency 18 = .ok (.dup, 1) := by decide +kernel
theorem dX6_setLatency_19 : decode cX6_setLatency 19 = .ok (.ldc 208, 2) := by decide +kernel
theorem dX6_setLatency_21 : decode cX6_setLatency 21 = .ok (.invokespecial 48, 3) := by decide +kernel
theorem dX6_setLatency_24 : decode cX6_setLatency 24 = .ok (.athrow, 1) := by decide +kernel
theorem dX6_setLatency_25 : decode cX6_setLatency 25 = .ok (.aload_n 0, 1) := by decide +kernel
theorem dX6_setLatency_26 : decode cX6_setLatency 26 = .ok (.getfield 26, 3) := by decide +kernel
theorem dX6_setLatency_29 : decode cX6_setLatency 29 = .ok (.aload_n 0, 1) := by decide +kernel
theorem dX6_setLatency_30 : decode cX6_setLatency 30 = .ok (.getfield 19, 3) := by decide +kernel
theorem dX6_setLatency_33 : decode cX6_setLatency 33 = .ok (.invokevirtual 193, 3) := by decide +kernel
theorem dX6_setLatency_36 : decode cX6_setLatency 36 = .ok (.aload_n 0, 1) := by decide +kernel
theorem dX6_setLatency_37 : decode cX6_setLatency 37 = .ok (.getfield 19, 3) := by decide +kernel
theorem dX6_setLatency_40 : decode cX6_setLatency 40 = .ok (.getfield 210, 3) := by decide +kernel
theorem dX6_setLatency_43 : decode cX6_setLatency 43 = .ok (.iload_n 1, 1) := by decide +kernel
theorem dX6_setLatency_44 : decode cX6_setLatency 44 = .ok (.iaload, 1) := by decide +kernel
theorem dX6_setLatency_45 : decode cX6_setLatency 45 = .ok (.istore_n 3, 1) := by decide +kernel
theorem dX6_setLatency_46 : decode cX6_setLatency 46 = .ok (.aload_n 0, 1) := by decide +kernel
theorem dX6_setLatency_47 : decode cX6_setLatency 47 = .ok (.getfield 19, 3) := by decide +kernel
theorem dX6_setLatency_50 : decode cX6_setLatency 50 = .ok (.getfield 210, 3) := by decide +kernel
theorem dX6_setLatency_53 : decode cX6_setLatency 53 = .ok (.iload_n 1, 1) := by decide +kernel
theorem dX6_setLatency_54 : decode cX6_setLatency 54 = .ok (.iload_n 2, 1) := by decide +kernel
theorem dX6_setLatency_55 : decode cX6_setLatency 55 = .ok (.iastore, 1) := by decide +kernel
theorem dX6_setLatency_56 : decode cX6_setLatency 56 = .ok (.iload_n 3, 1) := by decide +kernel
theorem dX6_setLatency_57 : decode cX6_setLatency 57 = .ok (.ireturn, 1) := by decide +kernel
theorem dX6_setCredit_0 : decode cX6_setCredit 0 = .ok (.iload_n 1, 1) := by decide +kernel
theorem dX6_setCredit_1 : decode cX6_setCredit 1 = .ok (.ifCond .lt 9, 3) := by decide +kernel
theorem dX6_setCredit_4 : decode cX6_setCredit 4 = .ok (.iload_n 1, 1) := by decide +kernel
theorem dX6_setCredit_5 : decode cX6_setCredit 5 = .ok (.bipush 9, 2) := by decide +kernel
theorem dX6_setCredit_7 : decode cX6_setCredit 7 = .ok (.if_icmp .le 13, 3) := by decide +kernel
theorem dX6_setCredit_10 : decode cX6_setCredit 10 = .ok (.new 44, 3) := by decide +kernel
theorem dX6_setCredit_13 : decode cX6_setCredit 13 = .ok (.dup, 1) := by decide +kernel
theorem dX6_setCredit_14 : decode cX6_setCredit 14 = .ok (.ldc 213, 2) := by decide +kernel
theorem dX6_setCredit_16 : decode cX6_setCredit 16 = .ok (.invokespecial 48, 3) := by decide +kernel
theorem dX6_setCredit_19 : decode cX6_setCredit 19 = .ok (.athrow, 1) := by decide +kernel
theorem dX6_setCredit_20 : decode cX6_setCredit 20 = .ok (.aload_n 0, 1) := by decide +kernel
theorem dX6_setCredit_21 : decode cX6_setCredit 21 = .ok (.getfield 26, 3) := by decide +kernel
theorem dX6_setCredit_24 : decode cX6_setCredit 24 = .ok (.aload_n 0, 1) := by decide +kernel
theorem dX6_setCredit_25 : decode cX6_setCredit 25 = .ok (.getfield 19, 3) := by decide +kernel
theorem dX6_setCredit_28 : decode cX6_setCredit 28 = .ok (.invokevirtual 193, 3) := by decide +kernel
theorem dX6_setCredit_31 : decode cX6_setCredit 31 = .ok (.aload_n 0, 1) := by decide +kernel
theorem dX6_setCredit_32 : decode cX6_setCredit 32 = .ok (.getfield 19, 3) := by decide +kernel
theorem dX6_setCredit_35 : decode cX6_setCredit 35 = .ok (.getfield 96, 3) := by decide +kernel
theorem dX6_setCredit_38 : decode cX6_setCredit 38 = .ok (.istore_n 2, 1) := by decide +kernel
theorem dX6_setCredit_39 : decode cX6_setCredit 39 = .ok (.aload_n 0, 1) := by decide +kernel
theorem dX6_setCredit_40 : decode cX6_setCredit 40 = .ok (.getfield 19, 3) := by decide +kernel
theorem dX6_setCredit_43 : decode cX6_setCredit 43 = .ok (.iload_n 1, 1) := by decide +kernel
theorem dX6_setCredit_44 : decode cX6_setCredit 44 = .ok (.putfield 96, 3) := by decide +kernel
theorem dX6_setCredit_47 : decode cX6_setCredit 47 = .ok (.iload_n 2, 1) := by decide +kernel
theorem dX6_setCredit_48 : decode cX6_setCredit 48 = .ok (.ireturn, 1) := by decide +kernel
theorem dX6_send_0 : decode cX6_send 0 = .ok (.aload_n 0, 1) := by decide +kernel
theorem dX6_send_1 : decode cX6_send 1 = .ok (.iload_n 1, 1) := by decide +kernel
theorem dX6_send_2 : decode cX6_send 2 = .ok (.invokevirtual 113, 3) := by decide +kernel
theorem dX6_send_5 : decode cX6_send 5 = .ok (.aload_n 0, 1) := by decide +kernel
theorem dX6_send_6 : decode cX6_send 6 = .ok (.iload_n 2, 1) := by decide +kernel
theorem dX6_send_7 : decode cX6_send 7 = .ok (.invokevirtual 205, 3) := by decide +kernel
theorem dX6_send_10 : decode cX6_send 10 = .ok (.iload_n 3, 1) := by decide +kernel
theorem dX6_send_11 : decode cX6_send 11 = .ok (.iconst 1, 1) := by decide +kernel
theorem dX6_send_12 : decode cX6_send 12 = .ok (.if_icmp .lt 9, 3) := by decide +kernel
theorem dX6_send_15 : decode cX6_send 15 = .ok (.iload_n 3, 1) := by decide +kernel
theorem dX6_send_16 : decode cX6_send 16 = .ok (.bipush 8, 2) := by decide +kernel
theorem dX6_send_18 : decode cX6_send 18 = .ok (.if_icmp .le 13, 3) := by decide +kernel
theorem dX6_send_21 : decode cX6_send 21 = .ok (.new 44, 3) := by decide +kernel
theorem dX6_send_24 : decode cX6_send 24 = .ok (.dup, 1) := by decide +kernel
theorem dX6_send_25 : decode cX6_send 25 = .ok (.ldc 215, 2) := by decide +kernel
theorem dX6_send_27 : decode cX6_send 27 = .ok (.invokespecial 48, 3) := by decide +kernel
theorem dX6_send_30 : decode cX6_send 30 = .ok (.athrow, 1) := by decide +kernel
theorem dX6_send_31 : decode cX6_send 31 = .ok (.aload_n 0, 1) := by decide +kernel
theorem dX6_send_32 : decode cX6_send 32 = .ok (.getfield 19, 3) := by decide +kernel
theorem dX6_send_35 : decode cX6_send 35 = .ok (.getfield 117, 3) := by decide +kernel
theorem dX6_send_38 : decode cX6_send 38 = .ok (.iload_n 1, 1) := by decide +kernel
theorem dX6_send_39 : decode cX6_send 39 = .ok (.aaload, 1) := by decide +kernel
theorem dX6_send_40 : decode cX6_send 40 = .ok (.astore 5, 2) := by decide +kernel
theorem dX6_send_42 : decode cX6_send 42 = .ok (.aload 5, 2) := by decide +kernel
theorem dX6_send_44 : decode cX6_send 44 = .ok (.invokevirtual 217, 3) := by decide +kernel
theorem dX6_send_47 : decode cX6_send 47 = .ok (.ifCond .ne 13, 3) := by decide +kernel
theorem dX6_send_50 : decode cX6_send 50 = .ok (.new 55, 3) := by decide +kernel
theorem dX6_send_53 : decode cX6_send 53 = .ok (.dup, 1) := by decide +kernel
theorem dX6_send_54 : decode cX6_send 54 = .ok (.ldc 220, 2) := by decide +kernel
theorem dX6_send_56 : decode cX6_send 56 = .ok (.invokespecial 59, 3) := by decide +kernel
theorem dX6_send_59 : decode cX6_send 59 = .ok (.athrow, 1) := by decide +kernel
theorem dX6_send_60 : decode cX6_send 60 = .ok (.aload_n 0, 1) := by decide +kernel
theorem dX6_send_61 : decode cX6_send 61 = .ok (.getfield 26, 3) := by decide +kernel
theorem dX6_send_64 : decode cX6_send 64 = .ok (.aload_n 0, 1) := by decide +kernel
theorem dX6_send_65 : decode cX6_send 65 = .ok (.getfield 19, 3) := by decide +kernel
theorem dX6_send_68 : decode cX6_send 68 = .ok (.invokevirtual 193, 3) := by decide +kernel
theorem dX6_send_71 : decode cX6_send 71 = .ok (.aload 5, 2) := by decide +kernel
theorem dX6_send_73 : decode cX6_send 73 = .ok (.getfield 133, 3) := by decide +kernel
theorem dX6_send_76 : decode cX6_send 76 = .ok (.iload_n 2, 1) := by decide +kernel
theorem dX6_send_77 : decode cX6_send 77 = .ok (.iload_n 3, 1) := by decide +kernel
theorem dX6_send_78 : decode cX6_send 78 = .ok (.iload 4, 2) := by decide +kernel
theorem dX6_send_80 : decode cX6_send 80 = .ok (.invokevirtual 222, 3) := by decide +kernel
theorem dX6_send_83 : decode cX6_send 83 = .ok (.aload 5, 2) := by decide +kernel
theorem dX6_send_85 : decode cX6_send 85 = .ok (.getfield 133, 3) := by decide +kernel
theorem dX6_send_88 : decode cX6_send 88 = .ok (.getfield 137, 3) := by decide +kernel
theorem dX6_send_91 : decode cX6_send 91 = .ok (.ireturn, 1) := by decide +kernel
theorem dX6_pass_0 : decode cX6_pass 0 = .ok (.iload_n 1, 1) := by decide +kernel
theorem dX6_pass_1 : decode cX6_pass 1 = .ok (.iconst 1, 1) := by decide +kernel
theorem dX6_pass_2 : decode cX6_pass 2 = .ok (.if_icmp .lt 9, 3) := by decide +kernel
theorem dX6_pass_5 : decode cX6_pass 5 = .ok (.iload_n 1, 1) := by decide +kernel
theorem dX6_pass_6 : decode cX6_pass 6 = .ok (.bipush 99, 2) := by decide +kernel
theorem dX6_pass_8 : decode cX6_pass 8 = .ok (.if_icmp .le 13, 3) := by decide +kernel
theorem dX6_pass_11 : decode cX6_pass 11 = .ok (.new 44, 3) := by decide +kernel
theorem dX6_pass_14 : decode cX6_pass 14 = .ok (.dup, 1) := by decide +kernel
theorem dX6_pass_15 : decode cX6_pass 15 = .ok (.ldc 225, 2) := by decide +kernel
theorem dX6_pass_17 : decode cX6_pass 17 = .ok (.invokespecial 48, 3) := by decide +kernel
theorem dX6_pass_20 : decode cX6_pass 20 = .ok (.athrow, 1) := by decide +kernel
theorem dX6_pass_21 : decode cX6_pass 21 = .ok (.aload_n 0, 1) := by decide +kernel
theorem dX6_pass_22 : decode cX6_pass 22 = .ok (.getfield 26, 3) := by decide +kernel
theorem dX6_pass_25 : decode cX6_pass 25 = .ok (.aload_n 0, 1) := by decide +kernel
theorem dX6_pass_26 : decode cX6_pass 26 = .ok (.getfield 19, 3) := by decide +kernel
theorem dX6_pass_29 : decode cX6_pass 29 = .ok (.invokevirtual 193, 3) := by decide +kernel
theorem dX6_pass_32 : decode cX6_pass 32 = .ok (.aload_n 0, 1) := by decide +kernel
theorem dX6_pass_33 : decode cX6_pass 33 = .ok (.getfield 19, 3) := by decide +kernel
theorem dX6_pass_36 : decode cX6_pass 36 = .ok (.getfield 93, 3) := by decide +kernel
theorem dX6_pass_39 : decode cX6_pass 39 = .ok (.istore_n 2, 1) := by decide +kernel
theorem dX6_pass_40 : decode cX6_pass 40 = .ok (.aload_n 0, 1) := by decide +kernel
theorem dX6_pass_41 : decode cX6_pass 41 = .ok (.getfield 19, 3) := by decide +kernel
theorem dX6_pass_44 : decode cX6_pass 44 = .ok (.iload_n 1, 1) := by decide +kernel
theorem dX6_pass_45 : decode cX6_pass 45 = .ok (.invokevirtual 227, 3) := by decide +kernel
theorem dX6_pass_48 : decode cX6_pass 48 = .ok (.iload_n 1, 1) := by decide +kernel
theorem dX6_pass_49 : decode cX6_pass 49 = .ok (.aload_n 0, 1) := by decide +kernel
theorem dX6_pass_50 : decode cX6_pass 50 = .ok (.getfield 19, 3) := by decide +kernel
theorem dX6_pass_53 : decode cX6_pass 53 = .ok (.getfield 93, 3) := by decide +kernel
theorem dX6_pass_56 : decode cX6_pass 56 = .ok (.iload_n 2, 1) := by decide +kernel
theorem dX6_pass_57 : decode cX6_pass 57 = .ok (.isub, 1) := by decide +kernel
theorem dX6_pass_58 : decode cX6_pass 58 = .ok (.isub, 1) := by decide +kernel
theorem dX6_pass_59 : decode cX6_pass 59 = .ok (.ireturn, 1) := by decide +kernel
theorem dX6_forgive_0 : decode cX6_forgive 0 = .ok (.aload_n 0, 1) := by decide +kernel
theorem dX6_forgive_1 : decode cX6_forgive 1 = .ok (.iload_n 1, 1) := by decide +kernel
theorem dX6_forgive_2 : decode cX6_forgive 2 = .ok (.invokevirtual 113, 3) := by decide +kernel
theorem dX6_forgive_5 : decode cX6_forgive 5 = .ok (.aload_n 0, 1) := by decide +kernel
theorem dX6_forgive_6 : decode cX6_forgive 6 = .ok (.iload_n 2, 1) := by decide +kernel
theorem dX6_forgive_7 : decode cX6_forgive 7 = .ok (.invokevirtual 113, 3) := by decide +kernel
theorem dX6_forgive_10 : decode cX6_forgive 10 = .ok (.aload_n 0, 1) := by decide +kernel
theorem dX6_forgive_11 : decode cX6_forgive 11 = .ok (.getfield 26, 3) := by decide +kernel
theorem dX6_forgive_14 : decode cX6_forgive 14 = .ok (.aload_n 0, 1) := by decide +kernel
theorem dX6_forgive_15 : decode cX6_forgive 15 = .ok (.getfield 19, 3) := by decide +kernel
theorem dX6_forgive_18 : decode cX6_forgive 18 = .ok (.invokevirtual 193, 3) := by decide +kernel
theorem dX6_forgive_21 : decode cX6_forgive 21 = .ok (.aload_n 0, 1) := by decide +kernel
theorem dX6_forgive_22 : decode cX6_forgive 22 = .ok (.getfield 19, 3) := by decide +kernel
theorem dX6_forgive_25 : decode cX6_forgive 25 = .ok (.getfield 117, 3) := by decide +kernel
theorem dX6_forgive_28 : decode cX6_forgive 28 = .ok (.iload_n 1, 1) := by decide +kernel
theorem dX6_forgive_29 : decode cX6_forgive 29 = .ok (.aaload, 1) := by decide +kernel
theorem dX6_forgive_30 : decode cX6_forgive 30 = .ok (.getfield 172, 3) := by decide +kernel
theorem dX6_forgive_33 : decode cX6_forgive 33 = .ok (.iload_n 2, 1) := by decide +kernel
theorem dX6_forgive_34 : decode cX6_forgive 34 = .ok (.iaload, 1) := by decide +kernel
theorem dX6_forgive_35 : decode cX6_forgive 35 = .ok (.istore_n 3, 1) := by decide +kernel
theorem dX6_forgive_36 : decode cX6_forgive 36 = .ok (.aload_n 0, 1) := by decide +kernel
theorem dX6_forgive_37 : decode cX6_forgive 37 = .ok (.getfield 19, 3) := by decide +kernel
theorem dX6_forgive_40 : decode cX6_forgive 40 = .ok (.getfield 117, 3) := by decide +kernel
theorem dX6_forgive_43 : decode cX6_forgive 43 = .ok (.iload_n 1, 1) := by decide +kernel
theorem dX6_forgive_44 : decode cX6_forgive 44 = .ok (.aaload, 1) := by decide +kernel
theorem dX6_forgive_45 : decode cX6_forgive 45 = .ok (.getfield 172, 3) := by decide +kernel
theorem dX6_forgive_48 : decode cX6_forgive 48 = .ok (.iload_n 2, 1) := by decide +kernel
theorem dX6_forgive_49 : decode cX6_forgive 49 = .ok (.iconst 0, 1) := by decide +kernel
theorem dX6_forgive_50 : decode cX6_forgive 50 = .ok (.iastore, 1) := by decide +kernel
theorem dX6_forgive_51 : decode cX6_forgive 51 = .ok (.iload_n 3, 1) := by decide +kernel
theorem dX6_forgive_52 : decode cX6_forgive 52 = .ok (.ireturn, 1) := by decide +kernel
theorem dX6_undo_0 : decode cX6_undo 0 = .ok (.aload_n 0, 1) := by decide +kernel
theorem dX6_undo_1 : decode cX6_undo 1 = .ok (.getfield 26, 3) := by decide +kernel
theorem dX6_undo_4 : decode cX6_undo 4 = .ok (.getfield 230, 3) := by decide +kernel
theorem dX6_undo_7 : decode cX6_undo 7 = .ok (.iconst 1, 1) := by decide +kernel
theorem dX6_undo_8 : decode cX6_undo 8 = .ok (.if_icmp .ge 13, 3) := by decide +kernel
theorem dX6_undo_11 : decode cX6_undo 11 = .ok (.new 55, 3) := by decide +kernel
theorem dX6_undo_14 : decode cX6_undo 14 = .ok (.dup, 1) := by decide +kernel
theorem dX6_undo_15 : decode cX6_undo 15 = .ok (.ldc 231, 2) := by decide +kernel
theorem dX6_undo_17 : decode cX6_undo 17 = .ok (.invokespecial 59, 3) := by decide +kernel
theorem dX6_undo_20 : decode cX6_undo 20 = .ok (.athrow, 1) := by decide +kernel
theorem dX6_undo_21 : decode cX6_undo 21 = .ok (.aload_n 0, 1) := by decide +kernel
theorem dX6_undo_22 : decode cX6_undo 22 = .ok (.getfield 26, 3) := by decide +kernel
theorem dX6_undo_25 : decode cX6_undo 25 = .ok (.aload_n 0, 1) := by decide +kernel
theorem dX6_undo_26 : decode cX6_undo 26 = .ok (.getfield 19, 3) := by decide +kernel
theorem dX6_undo_29 : decode cX6_undo 29 = .ok (.invokevirtual 233, 3) := by decide +kernel
theorem dX6_undo_32 : decode cX6_undo 32 = .ok (.aload_n 0, 1) := by decide +kernel
theorem dX6_undo_33 : decode cX6_undo 33 = .ok (.getfield 26, 3) := by decide +kernel
theorem dX6_undo_36 : decode cX6_undo 36 = .ok (.getfield 230, 3) := by decide +kernel
theorem dX6_undo_39 : decode cX6_undo 39 = .ok (.ireturn, 1) := by decide +kernel
theorem dX6_turnIn_0 : decode cX6_turnIn 0 = .ok (.iload_n 1, 1) := by decide +kernel
theorem dX6_turnIn_1 : decode cX6_turnIn 1 = .ok (.ifCond .lt 9, 3) := by decide +kernel
theorem dX6_turnIn_4 : decode cX6_turnIn 4 = .ok (.iload_n 1, 1) := by decide +kernel
theorem dX6_turnIn_5 : decode cX6_turnIn 5 = .ok (.bipush 99, 2) := by decide +kernel
theorem dX6_turnIn_7 : decode cX6_turnIn 7 = .ok (.if_icmp .le 13, 3) := by decide +kernel
theorem dX6_turnIn_10 : decode cX6_turnIn 10 = .ok (.new 44, 3) := by decide +kernel
theorem dX6_turnIn_13 : decode cX6_turnIn 13 = .ok (.dup, 1) := by decide +kernel
theorem dX6_turnIn_14 : decode cX6_turnIn 14 = .ok (.ldc 225, 2) := by decide +kernel
theorem dX6_turnIn_16 : decode cX6_turnIn 16 = .ok (.invokespecial 48, 3) := by decide +kernel
theorem dX6_turnIn_19 : decode cX6_turnIn 19 = .ok (.athrow, 1) := by decide +kernel
theorem dX6_turnIn_20 : decode cX6_turnIn 20 = .ok (.aload_n 0, 1) := by decide +kernel
theorem dX6_turnIn_21 : decode cX6_turnIn 21 = .ok (.getfield 38, 3) := by decide +kernel
theorem dX6_turnIn_24 : decode cX6_turnIn 24 = .ok (.aload_n 0, 1) := by decide +kernel
theorem dX6_turnIn_25 : decode cX6_turnIn 25 = .ok (.getfield 19, 3) := by decide +kernel
theorem dX6_turnIn_28 : decode cX6_turnIn 28 = .ok (.invokevirtual 74, 3) := by decide +kernel
theorem dX6_turnIn_31 : decode cX6_turnIn 31 = .ok (.aload_n 0, 1) := by decide +kernel
theorem dX6_turnIn_32 : decode cX6_turnIn 32 = .ok (.getfield 38, 3) := by decide +kernel
theorem dX6_turnIn_35 : decode cX6_turnIn 35 = .ok (.iload_n 1, 1) := by decide +kernel
theorem dX6_turnIn_36 : decode cX6_turnIn 36 = .ok (.iconst 1, 1) := by decide +kernel
theorem dX6_turnIn_37 : decode cX6_turnIn 37 = .ok (.iadd, 1) := by decide +kernel
theorem dX6_turnIn_38 : decode cX6_turnIn 38 = .ok (.invokevirtual 227, 3) := by decide +kernel
theorem dX6_turnIn_41 : decode cX6_turnIn 41 = .ok (.aload_n 0, 1) := by decide +kernel
theorem dX6_turnIn_42 : decode cX6_turnIn 42 = .ok (.getfield 38, 3) := by decide +kernel
theorem dX6_turnIn_45 : decode cX6_turnIn 45 = .ok (.getfield 105, 3) := by decide +kernel
theorem dX6_turnIn_48 : decode cX6_turnIn 48 = .ok (.ireturn, 1) := by decide +kernel
theorem dX6_doneIn_0 : decode cX6_doneIn 0 = .ok (.aload_n 0, 1) := by decide +kernel
theorem dX6_doneIn_1 : decode cX6_doneIn 1 = .ok (.iload_n 1, 1) := by decide +kernel
theorem dX6_doneIn_2 : decode cX6_doneIn 2 = .ok (.invokevirtual 113, 3) := by decide +kernel
theorem dX6_doneIn_5 : decode cX6_doneIn 5 = .ok (.aload_n 0, 1) := by decide +kernel
theorem dX6_doneIn_6 : decode cX6_doneIn 6 = .ok (.getfield 38, 3) := by decide +kernel
theorem dX6_doneIn_9 : decode cX6_doneIn 9 = .ok (.aload_n 0, 1) := by decide +kernel
theorem dX6_doneIn_10 : decode cX6_doneIn 10 = .ok (.getfield 19, 3) := by decide +kernel
theorem dX6_doneIn_13 : decode cX6_doneIn 13 = .ok (.invokevirtual 74, 3) := by decide +kernel
theorem dX6_doneIn_16 : decode cX6_doneIn 16 = .ok (.aload_n 0, 1) := by decide +kernel
theorem dX6_doneIn_17 : decode cX6_doneIn 17 = .ok (.getfield 38, 3) := by decide +kernel
theorem dX6_doneIn_20 : decode cX6_doneIn 20 = .ok (.iload_n 1, 1) := by decide +kernel
theorem dX6_doneIn_21 : decode cX6_doneIn 21 = .ok (.iload_n 1, 1) := by decide +kernel
theorem dX6_doneIn_22 : decode cX6_doneIn 22 = .ok (.sipush 400, 3) := by decide +kernel
theorem dX6_doneIn_25 : decode cX6_doneIn 25 = .ok (.invokevirtual 236, 3) := by decide +kernel
theorem dX6_doneIn_28 : decode cX6_doneIn 28 = .ok (.istore_n 2, 1) := by decide +kernel
theorem dX6_doneIn_29 : decode cX6_doneIn 29 = .ok (.iload_n 2, 1) := by decide +kernel
theorem dX6_doneIn_30 : decode cX6_doneIn 30 = .ok (.sipush 400, 3) := by decide +kernel
theorem dX6_doneIn_33 : decode cX6_doneIn 33 = .ok (.if_icmp .le 8, 3) := by decide +kernel
theorem dX6_doneIn_36 : decode cX6_doneIn 36 = .ok (.bipush (-9), 2) := by decide +kernel
theorem dX6_doneIn_38 : decode cX6_doneIn 38 = .ok (.goto 4, 3) := by decide +kernel
theorem dX6_doneIn_41 : decode cX6_doneIn 41 = .ok (.iload_n 2, 1) := by decide +kernel
theorem dX6_doneIn_42 : decode cX6_doneIn 42 = .ok (.ireturn, 1) := by decide +kernel
theorem dX6_bestSlot_0 : decode cX6_bestSlot 0 = .ok (.aload_n 0, 1) := by decide +kernel
theorem dX6_bestSlot_1 : decode cX6_bestSlot 1 = .ok (.iload_n 1, 1) := by decide +kernel
theorem dX6_bestSlot_2 : decode cX6_bestSlot 2 = .ok (.invokevirtual 113, 3) := by decide +kernel
theorem dX6_bestSlot_5 : decode cX6_bestSlot 5 = .ok (.aload_n 0, 1) := by decide +kernel
theorem dX6_bestSlot_6 : decode cX6_bestSlot 6 = .ok (.getfield 19, 3) := by decide +kernel
theorem dX6_bestSlot_9 : decode cX6_bestSlot 9 = .ok (.getfield 117, 3) := by decide +kernel
theorem dX6_bestSlot_12 : decode cX6_bestSlot 12 = .ok (.iload_n 1, 1) := by decide +kernel
theorem dX6_bestSlot_13 : decode cX6_bestSlot 13 = .ok (.aaload, 1) := by decide +kernel
theorem dX6_bestSlot_14 : decode cX6_bestSlot 14 = .ok (.getfield 199, 3) := by decide +kernel
theorem dX6_bestSlot_17 : decode cX6_bestSlot 17 = .ok (.ifCond .eq 6, 3) := by decide +kernel
theorem dX6_bestSlot_20 : decode cX6_bestSlot 20 = .ok (.bipush (-9), 2) := by decide +kernel
theorem dX6_bestSlot_22 : decode cX6_bestSlot 22 = .ok (.ireturn, 1) := by decide +kernel
theorem dX6_bestSlot_23 : decode cX6_bestSlot 23 = .ok (.iconst 0, 1) := by decide +kernel
theorem dX6_bestSlot_24 : decode cX6_bestSlot 24 = .ok (.istore_n 2, 1) := by decide +kernel
theorem dX6_bestSlot_25 : decode cX6_bestSlot 25 = .ok (.sipush 401, 3) := by decide +kernel
theorem dX6_bestSlot_28 : decode cX6_bestSlot 28 = .ok (.istore_n 3, 1) := by decide +kernel
theorem dX6_bestSlot_29 : decode cX6_bestSlot 29 = .ok (.iconst 0, 1) := by decide +kernel
theorem dX6_bestSlot_30 : decode cX6_bestSlot 30 = .ok (.istore 4, 2) := by decide +kernel
theorem dX6_bestSlot_32 : decode cX6_bestSlot 32 = .ok (.iload 4, 2) := by decide +kernel
theorem dX6_bestSlot_34 : decode cX6_bestSlot 34 = .ok (.aload_n 0, 1) := by decide +kernel
theorem dX6_bestSlot_35 : decode cX6_bestSlot 35 = .ok (.getfield 19, 3) := by decide +kernel
theorem dX6_bestSlot_38 : decode cX6_bestSlot 38 = .ok (.getfield 87, 3) := by decide +kernel
theorem dX6_bestSlot_41 : decode cX6_bestSlot 41 = .ok (.if_icmp .ge 57, 3) := by decide +kernel
theorem dX6_bestSlot_44 : decode cX6_bestSlot 44 = .ok (.aload_n 0, 1) := by decide +kernel
theorem dX6_bestSlot_45 : decode cX6_bestSlot 45 = .ok (.getfield 38, 3) := by decide +kernel
theorem dX6_bestSlot_48 : decode cX6_bestSlot 48 = .ok (.aload_n 0, 1) := by decide +kernel
theorem dX6_bestSlot_49 : decode cX6_bestSlot 49 = .ok (.getfield 19, 3) := by decide +kernel
theorem dX6_bestSlot_52 : decode cX6_bestSlot 52 = .ok (.invokevirtual 74, 3) := by decide +kernel
theorem dX6_bestSlot_55 : decode cX6_bestSlot 55 = .ok (.aload_n 0, 1) := by decide +kernel
theorem dX6_bestSlot_56 : decode cX6_bestSlot 56 = .ok (.getfield 38, 3) := by decide +kernel
theorem dX6_bestSlot_59 : decode cX6_bestSlot 59 = .ok (.getfield 168, 3) := by decide +kernel
theorem dX6_bestSlot_62 : decode cX6_bestSlot 62 = .ok (.iload 4, 2) := by decide +kernel
theorem dX6_bestSlot_64 : decode cX6_bestSlot 64 = .ok (.iload_n 1, 1) := by decide +kernel
theorem dX6_bestSlot_65 : decode cX6_bestSlot 65 = .ok (.iastore, 1) := by decide +kernel
theorem dX6_bestSlot_66 : decode cX6_bestSlot 66 = .ok (.aload_n 0, 1) := by decide +kernel
theorem dX6_bestSlot_67 : decode cX6_bestSlot 67 = .ok (.getfield 38, 3) := by decide +kernel
theorem dX6_bestSlot_70 : decode cX6_bestSlot 70 = .ok (.iload_n 1, 1) := by decide +kernel
theorem dX6_bestSlot_71 : decode cX6_bestSlot 71 = .ok (.iload_n 1, 1) := by decide +kernel
theorem dX6_bestSlot_72 : decode cX6_bestSlot 72 = .ok (.iload_n 3, 1) := by decide +kernel
theorem dX6_bestSlot_73 : decode cX6_bestSlot 73 = .ok (.iconst 1, 1) := by decide +kernel
theorem dX6_bestSlot_74 : decode cX6_bestSlot 74 = .ok (.isub, 1) := by decide +kernel
theorem dX6_bestSlot_75 : decode cX6_bestSlot 75 = .ok (.invokevirtual 236, 3) := by decide +kernel
theorem dX6_bestSlot_78 : decode cX6_bestSlot 78 = .ok (.istore 5, 2) := by decide +kernel
theorem dX6_bestSlot_80 : decode cX6_bestSlot 80 = .ok (.iload 5, 2) := by decide +kernel
theorem dX6_bestSlot_82 : decode cX6_bestSlot 82 = .ok (.iload_n 3, 1) := by decide +kernel
theorem dX6_bestSlot_83 : decode cX6_bestSlot 83 = .ok (.if_icmp .ge 9, 3) := by decide +kernel
theorem dX6_bestSlot_86 : decode cX6_bestSlot 86 = .ok (.iload 5, 2) := by decide +kernel
theorem dX6_bestSlot_88 : decode cX6_bestSlot 88 = .ok (.istore_n 3, 1) := by decide +kernel
theorem dX6_bestSlot_89 : decode cX6_bestSlot 89 = .ok (.iload 4, 2) := by decide +kernel
theorem dX6_bestSlot_91 : decode cX6_bestSlot 91 = .ok (.istore_n 2, 1) := by decide +kernel
theorem dX6_bestSlot_92 : decode cX6_bestSlot 92 = .ok (.iinc 4 1, 3) := by decide +kernel
theorem dX6_bestSlot_95 : decode cX6_bestSlot 95 = .ok (.goto (-63), 3) := by decide +kernel
theorem dX6_bestSlot_98 : decode cX6_bestSlot 98 = .ok (.iload_n 2, 1) := by decide +kernel
theorem dX6_bestSlot_99 : decode cX6_bestSlot 99 = .ok (.ireturn, 1) := by decide +kernel
theorem dX6_save_0 : decode cX6_save 0 = .ok (.aload_n 0, 1) := by decide +kernel
theorem dX6_save_1 : decode cX6_save 1 = .ok (.iload_n 1, 1) := by decide +kernel
theorem dX6_save_2 : decode cX6_save 2 = .ok (.invokevirtual 267, 3) := by decide +kernel
theorem dX6_save_5 : decode cX6_save 5 = .ok (.aload_n 0, 1) := by decide +kernel
theorem dX6_save_6 : decode cX6_save 6 = .ok (.getfield 30, 3) := by decide +kernel
theorem dX6_save_9 : decode cX6_save 9 = .ok (.iload_n 1, 1) := by decide +kernel
theorem dX6_save_10 : decode cX6_save 10 = .ok (.aaload, 1) := by decide +kernel
theorem dX6_save_11 : decode cX6_save 11 = .ok (.aload_n 0, 1) := by decide +kernel
theorem dX6_save_12 : decode cX6_save 12 = .ok (.getfield 19, 3) := by decide +kernel
theorem dX6_save_15 : decode cX6_save 15 = .ok (.invokevirtual 74, 3) := by decide +kernel
theorem dX6_save_18 : decode cX6_save 18 = .ok (.aload_n 0, 1) := by decide +kernel
theorem dX6_save_19 : decode cX6_save 19 = .ok (.getfield 34, 3) := by decide +kernel
theorem dX6_save_22 : decode cX6_save 22 = .ok (.iload_n 1, 1) := by decide +kernel
theorem dX6_save_23 : decode cX6_save 23 = .ok (.iconst 1, 1) := by decide +kernel
theorem dX6_save_24 : decode cX6_save 24 = .ok (.bastore, 1) := by decide +kernel
theorem dX6_save_25 : decode cX6_save 25 = .ok (.aload_n 0, 1) := by decide +kernel
theorem dX6_save_26 : decode cX6_save 26 = .ok (.getfield 19, 3) := by decide +kernel
theorem dX6_save_29 : decode cX6_save 29 = .ok (.getfield 90, 3) := by decide +kernel
theorem dX6_save_32 : decode cX6_save 32 = .ok (.ireturn, 1) := by decide +kernel
theorem dX6_restore_0 : decode cX6_restore 0 = .ok (.aload_n 0, 1) := by decide +kernel
theorem dX6_restore_1 : decode cX6_restore 1 = .ok (.iload_n 1, 1) := by decide +kernel
theorem dX6_restore_2 : decode cX6_restore 2 = .ok (.invokevirtual 267, 3) := by decide +kernel
theorem dX6_restore_5 : decode cX6_restore 5 = .ok (.aload_n 0, 1) := by decide +kernel
theorem dX6_restore_6 : decode cX6_restore 6 = .ok (.getfield 34, 3) := by decide +kernel
theorem dX6_restore_9 : decode cX6_restore 9 = .ok (.iload_n 1, 1) := by decide +kernel
theorem dX6_restore_10 : decode cX6_restore 10 = .ok (.baload, 1) := by decide +kernel
theorem dX6_restore_11 : decode cX6_restore 11 = .ok (.ifCond .ne 14, 3) := by decide +kernel
theorem dX6_restore_14 : decode cX6_restore 14 = .ok (.new 55, 3) := by decide +kernel
theorem dX6_restore_17 : decode cX6_restore 17 = .ok (.dup, 1) := by decide +kernel
theorem dX6_restore_18 : decode cX6_restore 18 = .ok (.ldc_w 270, 3) := by decide +kernel
theorem dX6_restore_21 : decode cX6_restore 21 = .ok (.invokespecial 59, 3) := by decide +kernel
theorem dX6_restore_24 : decode cX6_restore 24 = .ok (.athrow, 1) := by decide +kernel
theorem dX6_restore_25 : decode cX6_restore 25 = .ok (.aload_n 0, 1) := by decide +kernel
theorem dX6_restore_26 : decode cX6_restore 26 = .ok (.getfield 19, 3) := by decide +kernel
theorem dX6_restore_29 : decode cX6_restore 29 = .ok (.aload_n 0, 1) := by decide +kernel
theorem dX6_restore_30 : decode cX6_restore 30 = .ok (.getfield 30, 3) := by decide +kernel
theorem dX6_restore_33 : decode cX6_restore 33 = .ok (.iload_n 1, 1) := by decide +kernel
theorem dX6_restore_34 : decode cX6_restore 34 = .ok (.aaload, 1) := by decide +kernel
theorem dX6_restore_35 : decode cX6_restore 35 = .ok (.invokevirtual 74, 3) := by decide +kernel
theorem dX6_restore_38 : decode cX6_restore 38 = .ok (.aload_n 0, 1) := by decide +kernel
theorem dX6_restore_39 : decode cX6_restore 39 = .ok (.getfield 26, 3) := by decide +kernel
theorem dX6_restore_42 : decode cX6_restore 42 = .ok (.invokevirtual 78, 3) := by decide +kernel
theorem dX6_restore_45 : decode cX6_restore 45 = .ok (.aload_n 0, 1) := by decide +kernel
theorem dX6_restore_46 : decode cX6_restore 46 = .ok (.getfield 19, 3) := by decide +kernel
theorem dX6_restore_49 : decode cX6_restore 49 = .ok (.getfield 90, 3) := by decide +kernel
theorem dX6_restore_52 : decode cX6_restore 52 = .ok (.ireturn, 1) := by decide +kernel
theorem dX6_needMaster_0 : decode cX6_needMaster 0 = .ok (.aload_n 0, 1) := by decide +kernel
theorem dX6_needMaster_1 : decode cX6_needMaster 1 = .ok (.getfield 19, 3) := by decide +kernel
theorem dX6_needMaster_4 : decode cX6_needMaster 4 = .ok (.iload_n 1, 1) := by decide +kernel
theorem dX6_needMaster_5 : decode cX6_needMaster 5 = .ok (.invokevirtual 272, 3) := by decide +kernel
theorem dX6_needMaster_8 : decode cX6_needMaster 8 = .ok (.ifCond .ne 14, 3) := by decide +kernel
theorem dX6_needMaster_11 : decode cX6_needMaster 11 = .ok (.new 275, 3) := by decide +kernel
theorem dX6_needMaster_14 : decode cX6_needMaster 14 = .ok (.dup, 1) := by decide +kernel
theorem dX6_needMaster_15 : decode cX6_needMaster 15 = .ok (.ldc_w 277, 3) := by decide +kernel
theorem dX6_needMaster_18 : decode cX6_needMaster 18 = .ok (.invokespecial 279, 3) := by decide +kernel
theorem dX6_needMaster_21 : decode cX6_needMaster 21 = .ok (.athrow, 1) := by decide +kernel
theorem dX6_needMaster_22 : decode cX6_needMaster 22 = .ok (.return_, 1) := by decide +kernel
theorem dX6_needSlot_0 : decode cX6_needSlot 0 = .ok (.aload_n 0, 1) := by decide +kernel
theorem dX6_needSlot_1 : decode cX6_needSlot 1 = .ok (.getfield 19, 3) := by decide +kernel
theorem dX6_needSlot_4 : decode cX6_needSlot 4 = .ok (.iload_n 1, 1) := by decide +kernel
theorem dX6_needSlot_5 : decode cX6_needSlot 5 = .ok (.invokevirtual 280, 3) := by decide +kernel
theorem dX6_needSlot_8 : decode cX6_needSlot 8 = .ok (.ifCond .ne 14, 3) := by decide +kernel
theorem dX6_needSlot_11 : decode cX6_needSlot 11 = .ok (.new 275, 3) := by decide +kernel
theorem dX6_needSlot_14 : decode cX6_needSlot 14 = .ok (.dup, 1) := by decide +kernel
theorem dX6_needSlot_15 : decode cX6_needSlot 15 = .ok (.ldc_w 283, 3) := by decide +kernel
theorem dX6_needSlot_18 : decode cX6_needSlot 18 = .ok (.invokespecial 279, 3) := by decide +kernel
theorem dX6_needSlot_21 : decode cX6_needSlot 21 = .ok (.athrow, 1) := by decide +kernel
theorem dX6_needSlot_22 : decode cX6_needSlot 22 = .ok (.return_, 1) := by decide +kernel
theorem dX6_needSlave_0 : decode cX6_needSlave 0 = .ok (.iload_n 1, 1) := by decide +kernel
theorem dX6_needSlave_1 : decode cX6_needSlave 1 = .ok (.ifCond .lt 8, 3) := by decide +kernel
theorem dX6_needSlave_4 : decode cX6_needSlave 4 = .ok (.iload_n 1, 1) := by decide +kernel
theorem dX6_needSlave_5 : decode cX6_needSlave 5 = .ok (.iconst 4, 1) := by decide +kernel
theorem dX6_needSlave_6 : decode cX6_needSlave 6 = .ok (.if_icmp .lt 14, 3) := by decide +kernel
theorem dX6_needSlave_9 : decode cX6_needSlave 9 = .ok (.new 275, 3) := by decide +kernel
theorem dX6_needSlave_12 : decode cX6_needSlave 12 = .ok (.dup, 1) := by decide +kernel
theorem dX6_needSlave_13 : decode cX6_needSlave 13 = .ok (.ldc_w 285, 3) := by decide +kernel
theorem dX6_needSlave_16 : decode cX6_needSlave 16 = .ok (.invokespecial 279, 3) := by decide +kernel
theorem dX6_needSlave_19 : decode cX6_needSlave 19 = .ok (.athrow, 1) := by decide +kernel
theorem dX6_needSlave_20 : decode cX6_needSlave 20 = .ok (.return_, 1) := by decide +kernel
theorem dX6_needSaveSlot_0 : decode cX6_needSaveSlot 0 = .ok (.iload_n 1, 1) := by decide +kernel
theorem dX6_needSaveSlot_1 : decode cX6_needSaveSlot 1 = .ok (.ifCond .lt 8, 3) := by decide +kernel
theorem dX6_needSaveSlot_4 : decode cX6_needSaveSlot 4 = .ok (.iload_n 1, 1) := by decide +kernel
theorem dX6_needSaveSlot_5 : decode cX6_needSaveSlot 5 = .ok (.iconst 2, 1) := by decide +kernel
theorem dX6_needSaveSlot_6 : decode cX6_needSaveSlot 6 = .ok (.if_icmp .lt 14, 3) := by decide +kernel
theorem dX6_needSaveSlot_9 : decode cX6_needSaveSlot 9 = .ok (.new 275, 3) := by decide +kernel
theorem dX6_needSaveSlot_12 : decode cX6_needSaveSlot 12 = .ok (.dup, 1) := by decide +kernel
theorem dX6_needSaveSlot_13 : decode cX6_needSaveSlot 13 = .ok (.ldc_w 287, 3) := by decide +kernel
theorem dX6_needSaveSlot_16 : decode cX6_needSaveSlot 16 = .ok (.invokespecial 279, 3) := by decide +kernel
theorem dX6_needSaveSlot_19 : decode cX6_needSaveSlot 19 = .ok (.athrow, 1) := by decide +kernel
theorem dX6_needSaveSlot_20 : decode cX6_needSaveSlot 20 = .ok (.return_, 1) := by decide +kernel
theorem dL_cell_0 : decode cL_cell 0 = .ok (.iload_n 1, 1) := by decide +kernel
theorem dL_cell_1 : decode cL_cell 1 = .ok (.aload_n 0, 1) := by decide +kernel
theorem dL_cell_2 : decode cL_cell 2 = .ok (.arraylength, 1) := by decide +kernel
theorem dL_cell_3 : decode cL_cell 3 = .ok (.if_icmp .ge 9, 3) := by decide +kernel
theorem dL_cell_6 : decode cL_cell 6 = .ok (.aload_n 0, 1) := by decide +kernel
theorem dL_cell_7 : decode cL_cell 7 = .ok (.iload_n 1, 1) := by decide +kernel
theorem dL_cell_8 : decode cL_cell 8 = .ok (.iaload, 1) := by decide +kernel
theorem dL_cell_9 : decode cL_cell 9 = .ok (.goto 11, 3) := by decide +kernel
theorem dL_cell_12 : decode cL_cell 12 = .ok (.ldc 7, 2) := by decide +kernel
theorem dL_cell_14 : decode cL_cell 14 = .ok (.iload_n 1, 1) := by decide +kernel
theorem dL_cell_15 : decode cL_cell 15 = .ok (.imul, 1) := by decide +kernel
theorem dL_cell_16 : decode cL_cell 16 = .ok (.sipush 1801, 3) := by decide +kernel
theorem dL_cell_19 : decode cL_cell 19 = .ok (.iadd, 1) := by decide +kernel
theorem dL_cell_20 : decode cL_cell 20 = .ok (.ldc 8, 2) := by decide +kernel
theorem dL_cell_22 : decode cL_cell 22 = .ok (.iand, 1) := by decide +kernel
theorem dL_cell_23 : decode cL_cell 23 = .ok (.ireturn, 1) := by decide +kernel
theorem dL_sound_0 : decode cL_sound 0 = .ok (.iconst 0, 1) := by decide +kernel
theorem dL_sound_1 : decode cL_sound 1 = .ok (.istore_n 1, 1) := by decide +kernel
theorem dL_sound_2 : decode cL_sound 2 = .ok (.iconst 0, 1) := by decide +kernel
theorem dL_sound_3 : decode cL_sound 3 = .ok (.istore_n 2, 1) := by decide +kernel
theorem dL_sound_4 : decode cL_sound 4 = .ok (.iconst 0, 1) := by decide +kernel
theorem dL_sound_5 : decode cL_sound 5 = .ok (.istore_n 3, 1) := by decide +kernel
theorem dL_sound_6 : decode cL_sound 6 = .ok (.iconst 0, 1) := by decide +kernel
theorem dL_sound_7 : decode cL_sound 7 = .ok (.istore 4, 2) := by decide +kernel
theorem dL_sound_9 : decode cL_sound 9 = .ok (.iconst 0, 1) := by decide +kernel
theorem dL_sound_10 : decode cL_sound 10 = .ok (.istore 5, 2) := by decide +kernel
theorem dL_sound_12 : decode cL_sound 12 = .ok (.iconst 0, 1) := by decide +kernel
theorem dL_sound_13 : decode cL_sound 13 = .ok (.istore 6, 2) := by decide +kernel
theorem dL_sound_15 : decode cL_sound 15 = .ok (.iconst 0, 1) := by decide +kernel
theorem dL_sound_16 : decode cL_sound 16 = .ok (.istore 7, 2) := by decide +kernel
theorem dL_sound_18 : decode cL_sound 18 = .ok (.iconst 1, 1) := by decide +kernel
theorem dL_sound_19 : decode cL_sound 19 = .ok (.istore 8, 2) := by decide +kernel
theorem dL_sound_21 : decode cL_sound 21 = .ok (.iconst 0, 1) := by decide +kernel
theorem dL_sound_22 : decode cL_sound 22 = .ok (.istore 9, 2) := by decide +kernel
theorem dL_sound_24 : decode cL_sound 24 = .ok (.iload 9, 2) := by decide +kernel
theorem dL_sound_26 : decode cL_sound 26 = .ok (.aload_n 0, 1) := by decide +kernel
theorem dL_sound_27 : decode cL_sound 27 = .ok (.iconst 0, 1) := by decide +kernel
theorem dL_sound_28 : decode cL_sound 28 = .ok (.invokevirtual 9, 3) := by decide +kernel
theorem dL_sound_31 : decode cL_sound 31 = .ok (.if_icmp .ge 422, 3) := by decide +kernel
theorem dL_sound_34 : decode cL_sound 34 = .ok (.iload 8, 2) := by decide +kernel
theorem dL_sound_36 : decode cL_sound 36 = .ok (.ifCond .eq 417, 3) := by decide +kernel
theorem dL_sound_39 : decode cL_sound 39 = .ok (.iload_n 1, 1) := by decide +kernel
theorem dL_sound_40 : decode cL_sound 40 = .ok (.aload_n 0, 1) := by decide +kernel
theorem dL_sound_41 : decode cL_sound 41 = .ok (.iload 9, 2) := by decide +kernel
theorem dL_sound_43 : decode cL_sound 43 = .ok (.bipush 7, 2) := by decide +kernel
theorem dL_sound_45 : decode cL_sound 45 = .ok (.invokevirtual 15, 3) := by decide +kernel
theorem dL_sound_48 : decode cL_sound 48 = .ok (.aload_n 0, 1) := by decide +kernel
theorem dL_sound_49 : decode cL_sound 49 = .ok (.iload 9, 2) := by decide +kernel
theorem dL_sound_51 : decode cL_sound 51 = .ok (.bipush 8, 2) := by decide +kernel
theorem dL_sound_53 : decode cL_sound 53 = .ok (.invokevirtual 15, 3) := by decide +kernel
theorem dL_sound_56 : decode cL_sound 56 = .ok (.iadd, 1) := by decide +kernel
theorem dL_sound_57 : decode cL_sound 57 = .ok (.aload_n 0, 1) := by decide +kernel
theorem dL_sound_58 : decode cL_sound 58 = .ok (.iload 9, 2) := by decide +kernel
theorem dL_sound_60 : decode cL_sound 60 = .ok (.bipush 9, 2) := by decide +kernel
theorem dL_sound_62 : decode cL_sound 62 = .ok (.invokevirtual 15, 3) := by decide +kernel
theorem dL_sound_65 : decode cL_sound 65 = .ok (.iadd, 1) := by decide +kernel
theorem dL_sound_66 : decode cL_sound 66 = .ok (.iadd, 1) := by decide +kernel
theorem dL_sound_67 : decode cL_sound 67 = .ok (.istore_n 1, 1) := by decide +kernel
theorem dL_sound_68 : decode cL_sound 68 = .ok (.iload_n 2, 1) := by decide +kernel
theorem dL_sound_69 : decode cL_sound 69 = .ok (.aload_n 0, 1) := by decide +kernel
theorem dL_sound_70 : decode cL_sound 70 = .ok (.iload 9, 2) := by decide +kernel
theorem dL_sound_72 : decode cL_sound 72 = .ok (.bipush 8, 2) := by decide +kernel
theorem dL_sound_74 : decode cL_sound 74 = .ok (.invokevirtual 15, 3) := by decide +kernel
theorem dL_sound_77 : decode cL_sound 77 = .ok (.iadd, 1) := by decide +kernel
theorem dL_sound_78 : decode cL_sound 78 = .ok (.istore_n 2, 1) := by decide +kernel
theorem dL_sound_79 : decode cL_sound 79 = .ok (.iload_n 3, 1) := by decide +kernel
theorem dL_sound_80 : decode cL_sound 80 = .ok (.aload_n 0, 1) := by decide +kernel
theorem dL_sound_81 : decode cL_sound 81 = .ok (.iload 9, 2) := by decide +kernel
theorem dL_sound_83 : decode cL_sound 83 = .ok (.bipush 9, 2) := by decide +kernel
theorem dL_sound_85 : decode cL_sound 85 = .ok (.invokevirtual 15, 3) := by decide +kernel
theorem dL_sound_88 : decode cL_sound 88 = .ok (.iadd, 1) := by decide +kernel
theorem dL_sound_89 : decode cL_sound 89 = .ok (.istore_n 3, 1) := by decide +kernel
theorem dL_sound_90 : decode cL_sound 90 = .ok (.iload 4, 2) := by decide +kernel
theorem dL_sound_92 : decode cL_sound 92 = .ok (.aload_n 0, 1) := by decide +kernel
theorem dL_sound_93 : decode cL_sound 93 = .ok (.iload 9, 2) := by decide +kernel
theorem dL_sound_95 : decode cL_sound 95 = .ok (.iconst 0, 1) := by decide +kernel
theorem dL_sound_96 : decode cL_sound 96 = .ok (.invokevirtual 15, 3) := by decide +kernel
theorem dL_sound_99 : decode cL_sound 99 = .ok (.iadd, 1) := by decide +kernel
theorem dL_sound_100 : decode cL_sound 100 = .ok (.istore 4, 2) := by decide +kernel
theorem dL_sound_102 : decode cL_sound 102 = .ok (.iload 5, 2) := by decide +kernel
theorem dL_sound_104 : decode cL_sound 104 = .ok (.aload_n 0, 1) := by decide +kernel
theorem dL_sound_105 : decode cL_sound 105 = .ok (.iload 9, 2) := by decide +kernel
theorem dL_sound_107 : decode cL_sound 107 = .ok (.iconst 1, 1) := by decide +kernel
theorem dL_sound_108 : decode cL_sound 108 = .ok (.invokevirtual 15, 3) := by decide +kernel
theorem dL_sound_111 : decode cL_sound 111 = .ok (.iadd, 1) := by decide +kernel
theorem dL_sound_112 : decode cL_sound 112 = .ok (.istore 5, 2) := by decide +kernel
theorem dL_sound_114 : decode cL_sound 114 = .ok (.iload 6, 2) := by decide +kernel
theorem dL_sound_116 : decode cL_sound 116 = .ok (.aload_n 0, 1) := by decide +kernel
theorem dL_sound_117 : decode cL_sound 117 = .ok (.iload 9, 2) := by decide +kernel
theorem dL_sound_119 : decode cL_sound 119 = .ok (.iconst 2, 1) := by decide +kernel
theorem dL_sound_120 : decode cL_sound 120 = .ok (.invokevirtual 15, 3) := by decide +kernel
theorem dL_sound_123 : decode cL_sound 123 = .ok (.iadd, 1) := by decide +kernel
theorem dL_sound_124 : decode cL_sound 124 = .ok (.istore 6, 2) := by decide +kernel
theorem dL_sound_126 : decode cL_sound 126 = .ok (.iload 7, 2) := by decide +kernel
theorem dL_sound_128 : decode cL_sound 128 = .ok (.aload_n 0, 1) := by decide +kernel
theorem dL_sound_129 : decode cL_sound 129 = .ok (.iload 9, 2) := by decide +kernel
theorem dL_sound_131 : decode cL_sound 131 = .ok (.iconst 3, 1) := by decide +kernel
theorem dL_sound_132 : decode cL_sound 132 = .ok (.invokevirtual 15, 3) := by decide +kernel
theorem dL_sound_135 : decode cL_sound 135 = .ok (.iadd, 1) := by decide +kernel
theorem dL_sound_136 : decode cL_sound 136 = .ok (.istore 7, 2) := by decide +kernel
theorem dL_sound_138 : decode cL_sound 138 = .ok (.iconst 0, 1) := by decide +kernel
theorem dL_sound_139 : decode cL_sound 139 = .ok (.istore 10, 2) := by decide +kernel
theorem dL_sound_141 : decode cL_sound 141 = .ok (.iconst 0, 1) := by decide +kernel
theorem dL_sound_142 : decode cL_sound 142 = .ok (.istore 11, 2) := by decide +kernel
theorem dL_sound_144 : decode cL_sound 144 = .ok (.iconst 0, 1) := by decide +kernel
theorem dL_sound_145 : decode cL_sound 145 = .ok (.istore 12, 2) := by decide +kernel
theorem dL_sound_147 : decode cL_sound 147 = .ok (.iload 12, 2) := by decide +kernel
theorem dL_sound_149 : decode cL_sound 149 = .ok (.aload_n 0, 1) := by decide +kernel
theorem dL_sound_150 : decode cL_sound 150 = .ok (.iconst 0, 1) := by decide +kernel
theorem dL_sound_151 : decode cL_sound 151 = .ok (.invokevirtual 9, 3) := by decide +kernel
theorem dL_sound_154 : decode cL_sound 154 = .ok (.if_icmp .ge 35, 3) := by decide +kernel
theorem dL_sound_157 : decode cL_sound 157 = .ok (.iload 10, 2) := by decide +kernel
theorem dL_sound_159 : decode cL_sound 159 = .ok (.aload_n 0, 1) := by decide +kernel
theorem dL_sound_160 : decode cL_sound 160 = .ok (.iload 9, 2) := by decide +kernel
theorem dL_sound_162 : decode cL_sound 162 = .ok (.iload 12, 2) := by decide +kernel
theorem dL_sound_164 : decode cL_sound 164 = .ok (.invokevirtual 19, 3) := by decide +kernel
theorem dL_sound_167 : decode cL_sound 167 = .ok (.iadd, 1) := by decide +kernel
theorem dL_sound_168 : decode cL_sound 168 = .ok (.istore 10, 2) := by decide +kernel
theorem dL_sound_170 : decode cL_sound 170 = .ok (.iload 11, 2) := by decide +kernel
theorem dL_sound_172 : decode cL_sound 172 = .ok (.aload_n 0, 1) := by decide +kernel
theorem dL_sound_173 : decode cL_sound 173 = .ok (.iload 12, 2) := by decide +kernel
theorem dL_sound_175 : decode cL_sound 175 = .ok (.iload 9, 2) := by decide +kernel
theorem dL_sound_177 : decode cL_sound 177 = .ok (.invokevirtual 19, 3) := by decide +kernel
theorem dL_sound_180 : decode cL_sound 180 = .ok (.iadd, 1) := by decide +kernel
theorem dL_sound_181 : decode cL_sound 181 = .ok (.istore 11, 2) := by decide +kernel
theorem dL_sound_183 : decode cL_sound 183 = .ok (.iinc 12 1, 3) := by decide +kernel
theorem dL_sound_186 : decode cL_sound 186 = .ok (.goto (-39), 3) := by decide +kernel
theorem dL_sound_189 : decode cL_sound 189 = .ok (.iconst 0, 1) := by decide +kernel
theorem dL_sound_190 : decode cL_sound 190 = .ok (.istore 12, 2) := by decide +kernel
theorem dL_sound_192 : decode cL_sound 192 = .ok (.iconst 0, 1) := by decide +kernel
theorem dL_sound_193 : decode cL_sound 193 = .ok (.istore 13, 2) := by decide +kernel
theorem dL_sound_195 : decode cL_sound 195 = .ok (.aload_n 0, 1) := by decide +kernel
theorem dL_sound_196 : decode cL_sound 196 = .ok (.iload 9, 2) := by decide +kernel
theorem dL_sound_198 : decode cL_sound 198 = .ok (.iload 13, 2) := by decide +kernel
theorem dL_sound_200 : decode cL_sound 200 = .ok (.iconst 0, 1) := by decide +kernel
theorem dL_sound_201 : decode cL_sound 201 = .ok (.invokevirtual 22, 3) := by decide +kernel
theorem dL_sound_204 : decode cL_sound 204 = .ok (.ifCond .lt 73, 3) := by decide +kernel
theorem dL_sound_207 : decode cL_sound 207 = .ok (.iload 12, 2) := by decide +kernel
theorem dL_sound_209 : decode cL_sound 209 = .ok (.aload_n 0, 1) := by decide +kernel
theorem dL_sound_210 : decode cL_sound 210 = .ok (.iload 9, 2) := by decide +kernel
theorem dL_sound_212 : decode cL_sound 212 = .ok (.iload 13, 2) := by decide +kernel
theorem dL_sound_214 : decode cL_sound 214 = .ok (.iconst 1, 1) := by decide +kernel
theorem dL_sound_215 : decode cL_sound 215 = .ok (.invokevirtual 22, 3) := by decide +kernel
theorem dL_sound_218 : decode cL_sound 218 = .ok (.iadd, 1) := by decide +kernel
theorem dL_sound_219 : decode cL_sound 219 = .ok (.istore 12, 2) := by decide +kernel
theorem dL_sound_221 : decode cL_sound 221 = .ok (.iload 8, 2) := by decide +kernel
theorem dL_sound_223 : decode cL_sound 223 = .ok (.ifCond .eq 45, 3) := by decide +kernel
theorem dL_sound_226 : decode cL_sound 226 = .ok (.iload 13, 2) := by decide +kernel
theorem dL_sound_228 : decode cL_sound 228 = .ok (.aload_n 0, 1) := by decide +kernel
theorem dL_sound_229 : decode cL_sound 229 = .ok (.iload 9, 2) := by decide +kernel
theorem dL_sound_231 : decode cL_sound 231 = .ok (.iconst 3, 1) := by decide +kernel
theorem dL_sound_232 : decode cL_sound 232 = .ok (.invokevirtual 15, 3) := by decide +kernel
theorem dL_sound_235 : decode cL_sound 235 = .ok (.if_icmp .ge 33, 3) := by decide +kernel
theorem dL_sound_238 : decode cL_sound 238 = .ok (.aload_n 0, 1) := by decide +kernel
theorem dL_sound_239 : decode cL_sound 239 = .ok (.iload 9, 2) := by decide +kernel
theorem dL_sound_241 : decode cL_sound 241 = .ok (.iload 13, 2) := by decide +kernel
theorem dL_sound_243 : decode cL_sound 243 = .ok (.iconst 1, 1) := by decide +kernel
theorem dL_sound_244 : decode cL_sound 244 = .ok (.invokevirtual 22, 3) := by decide +kernel
theorem dL_sound_247 : decode cL_sound 247 = .ok (.ifCond .le 21, 3) := by decide +kernel
theorem dL_sound_250 : decode cL_sound 250 = .ok (.aload_n 0, 1) := by decide +kernel
theorem dL_sound_251 : decode cL_sound 251 = .ok (.iload 9, 2) := by decide +kernel
theorem dL_sound_253 : decode cL_sound 253 = .ok (.iload 13, 2) := by decide +kernel
theorem dL_sound_255 : decode cL_sound 255 = .ok (.iconst 1, 1) := by decide +kernel
theorem dL_sound_256 : decode cL_sound 256 = .ok (.invokevirtual 22, 3) := by decide +kernel
theorem dL_sound_259 : decode cL_sound 259 = .ok (.bipush 9, 2) := by decide +kernel
theorem dL_sound_261 : decode cL_sound 261 = .ok (.if_icmp .ge 7, 3) := by decide +kernel
theorem dL_sound_264 : decode cL_sound 264 = .ok (.iconst 1, 1) := by decide +kernel
theorem dL_sound_265 : decode cL_sound 265 = .ok (.goto 4, 3) := by decide +kernel
theorem dL_sound_268 : decode cL_sound 268 = .ok (.iconst 0, 1) := by decide +kernel
theorem dL_sound_269 : decode cL_sound 269 = .ok (.istore 8, 2) := by decide +kernel
theorem dL_sound_271 : decode cL_sound 271 = .ok (.iinc 13 1, 3) := by decide +kernel
theorem dL_sound_274 : decode cL_sound 274 = .ok (.goto (-79), 3) := by decide +kernel
theorem dL_sound_277 : decode cL_sound 277 = .ok (.iload 8, 2) := by decide +kernel
theorem dL_sound_279 : decode cL_sound 279 = .ok (.ifCond .eq 72, 3) := by decide +kernel
theorem dL_sound_282 : decode cL_sound 282 = .ok (.iload 10, 2) := by decide +kernel
theorem dL_sound_284 : decode cL_sound 284 = .ok (.aload_n 0, 1) := by decide +kernel
theorem dL_sound_285 : decode cL_sound 285 = .ok (.iload 9, 2) := by decide +kernel
theorem dL_sound_287 : decode cL_sound 287 = .ok (.iconst 1, 1) := by decide +kernel
theorem dL_sound_288 : decode cL_sound 288 = .ok (.invokevirtual 15, 3) := by decide +kernel
theorem dL_sound_291 : decode cL_sound 291 = .ok (.if_icmp .ne 60, 3) := by decide +kernel
theorem dL_sound_294 : decode cL_sound 294 = .ok (.iload 11, 2) := by decide +kernel
theorem dL_sound_296 : decode cL_sound 296 = .ok (.aload_n 0, 1) := by decide +kernel
theorem dL_sound_297 : decode cL_sound 297 = .ok (.iload 9, 2) := by decide +kernel
theorem dL_sound_299 : decode cL_sound 299 = .ok (.iconst 2, 1) := by decide +kernel
theorem dL_sound_300 : decode cL_sound 300 = .ok (.invokevirtual 15, 3) := by decide +kernel
theorem dL_sound_303 : decode cL_sound 303 = .ok (.if_icmp .ne 48, 3) := by decide +kernel
theorem dL_sound_306 : decode cL_sound 306 = .ok (.aload_n 0, 1) := by decide +kernel
theorem dL_sound_307 : decode cL_sound 307 = .ok (.iload 9, 2) := by decide +kernel
theorem dL_sound_309 : decode cL_sound 309 = .ok (.iload 9, 2) := by decide +kernel
theorem dL_sound_311 : decode cL_sound 311 = .ok (.invokevirtual 19, 3) := by decide +kernel
theorem dL_sound_314 : decode cL_sound 314 = .ok (.ifCond .ne 37, 3) := by decide +kernel
theorem dL_sound_317 : decode cL_sound 317 = .ok (.iload 12, 2) := by decide +kernel
theorem dL_sound_319 : decode cL_sound 319 = .ok (.aload_n 0, 1) := by decide +kernel
theorem dL_sound_320 : decode cL_sound 320 = .ok (.iload 9, 2) := by decide +kernel
theorem dL_sound_322 : decode cL_sound 322 = .ok (.iconst 4, 1) := by decide +kernel
theorem dL_sound_323 : decode cL_sound 323 = .ok (.invokevirtual 15, 3) := by decide +kernel
theorem dL_sound_326 : decode cL_sound 326 = .ok (.if_icmp .ne 25, 3) := by decide +kernel
theorem dL_sound_329 : decode cL_sound 329 = .ok (.aload_n 0, 1) := by decide +kernel
theorem dL_sound_330 : decode cL_sound 330 = .ok (.iload 9, 2) := by decide +kernel
theorem dL_sound_332 : decode cL_sound 332 = .ok (.iconst 5, 1) := by decide +kernel
theorem dL_sound_333 : decode cL_sound 333 = .ok (.invokevirtual 15, 3) := by decide +kernel
theorem dL_sound_336 : decode cL_sound 336 = .ok (.aload_n 0, 1) := by decide +kernel
theorem dL_sound_337 : decode cL_sound 337 = .ok (.iload 9, 2) := by decide +kernel
theorem dL_sound_339 : decode cL_sound 339 = .ok (.bipush 6, 2) := by decide +kernel
theorem dL_sound_341 : decode cL_sound 341 = .ok (.invokevirtual 15, 3) := by decide +kernel
theorem dL_sound_344 : decode cL_sound 344 = .ok (.if_icmp .gt 7, 3) := by decide +kernel
theorem dL_sound_347 : decode cL_sound 347 = .ok (.iconst 1, 1) := by decide +kernel
theorem dL_sound_348 : decode cL_sound 348 = .ok (.goto 4, 3) := by decide +kernel
theorem dL_sound_351 : decode cL_sound 351 = .ok (.iconst 0, 1) := by decide +kernel
theorem dL_sound_352 : decode cL_sound 352 = .ok (.istore 8, 2) := by decide +kernel
theorem dL_sound_354 : decode cL_sound 354 = .ok (.aload_n 0, 1) := by decide +kernel
theorem dL_sound_355 : decode cL_sound 355 = .ok (.bipush 9, 2) := by decide +kernel
theorem dL_sound_357 : decode cL_sound 357 = .ok (.invokevirtual 9, 3) := by decide +kernel
theorem dL_sound_360 : decode cL_sound 360 = .ok (.iload 9, 2) := by decide +kernel
theorem dL_sound_362 : decode cL_sound 362 = .ok (.ishr, 1) := by decide +kernel
theorem dL_sound_363 : decode cL_sound 363 = .ok (.iconst 1, 1) := by decide +kernel
theorem dL_sound_364 : decode cL_sound 364 = .ok (.iand, 1) := by decide +kernel
theorem dL_sound_365 : decode cL_sound 365 = .ok (.iconst 1, 1) := by decide +kernel
theorem dL_sound_366 : decode cL_sound 366 = .ok (.if_icmp .ne 7, 3) := by decide +kernel
theorem dL_sound_369 : decode cL_sound 369 = .ok (.iconst 1, 1) := by decide +kernel
theorem dL_sound_370 : decode cL_sound 370 = .ok (.goto 4, 3) := by decide +kernel
theorem dL_sound_373 : decode cL_sound 373 = .ok (.iconst 0, 1) := by decide +kernel
theorem dL_sound_374 : decode cL_sound 374 = .ok (.istore 13, 2) := by decide +kernel
theorem dL_sound_376 : decode cL_sound 376 = .ok (.iload 8, 2) := by decide +kernel
theorem dL_sound_378 : decode cL_sound 378 = .ok (.ifCond .eq 66, 3) := by decide +kernel
theorem dL_sound_381 : decode cL_sound 381 = .ok (.iload 13, 2) := by decide +kernel
theorem dL_sound_383 : decode cL_sound 383 = .ok (.ifCond .eq 57, 3) := by decide +kernel
theorem dL_sound_386 : decode cL_sound 386 = .ok (.aload_n 0, 1) := by decide +kernel
theorem dL_sound_387 : decode cL_sound 387 = .ok (.iload 9, 2) := by decide +kernel
theorem dL_sound_389 : decode cL_sound 389 = .ok (.iconst 0, 1) := by decide +kernel
theorem dL_sound_390 : decode cL_sound 390 = .ok (.invokevirtual 15, 3) := by decide +kernel
theorem dL_sound_393 : decode cL_sound 393 = .ok (.aload_n 0, 1) := by decide +kernel
theorem dL_sound_394 : decode cL_sound 394 = .ok (.iload 9, 2) := by decide +kernel
theorem dL_sound_396 : decode cL_sound 396 = .ok (.iconst 1, 1) := by decide +kernel
theorem dL_sound_397 : decode cL_sound 397 = .ok (.invokevirtual 15, 3) := by decide +kernel
theorem dL_sound_400 : decode cL_sound 400 = .ok (.iadd, 1) := by decide +kernel
theorem dL_sound_401 : decode cL_sound 401 = .ok (.aload_n 0, 1) := by decide +kernel
theorem dL_sound_402 : decode cL_sound 402 = .ok (.iload 9, 2) := by decide +kernel
theorem dL_sound_404 : decode cL_sound 404 = .ok (.iconst 2, 1) := by decide +kernel
theorem dL_sound_405 : decode cL_sound 405 = .ok (.invokevirtual 15, 3) := by decide +kernel
theorem dL_sound_408 : decode cL_sound 408 = .ok (.iadd, 1) := by decide +kernel
theorem dL_sound_409 : decode cL_sound 409 = .ok (.aload_n 0, 1) := by decide +kernel
theorem dL_sound_410 : decode cL_sound 410 = .ok (.iload 9, 2) := by decide +kernel
theorem dL_sound_412 : decode cL_sound 412 = .ok (.iconst 3, 1) := by decide +kernel
theorem dL_sound_413 : decode cL_sound 413 = .ok (.invokevirtual 15, 3) := by decide +kernel
theorem dL_sound_416 : decode cL_sound 416 = .ok (.iadd, 1) := by decide +kernel
theorem dL_sound_417 : decode cL_sound 417 = .ok (.ifCond .ne 27, 3) := by decide +kernel
theorem dL_sound_420 : decode cL_sound 420 = .ok (.aload_n 0, 1) := by decide +kernel
theorem dL_sound_421 : decode cL_sound 421 = .ok (.iload 9, 2) := by decide +kernel
theorem dL_sound_423 : decode cL_sound 423 = .ok (.invokevirtual 26, 3) := by decide +kernel
theorem dL_sound_426 : decode cL_sound 426 = .ok (.ifCond .ne 18, 3) := by decide +kernel
theorem dL_sound_429 : decode cL_sound 429 = .ok (.aload_n 0, 1) := by decide +kernel
theorem dL_sound_430 : decode cL_sound 430 = .ok (.iload 9, 2) := by decide +kernel
theorem dL_sound_432 : decode cL_sound 432 = .ok (.invokevirtual 29, 3) := by decide +kernel
theorem dL_sound_435 : decode cL_sound 435 = .ok (.bipush (-9), 2) := by decide +kernel
theorem dL_sound_437 : decode cL_sound 437 = .ok (.if_icmp .ne 7, 3) := by decide +kernel
theorem dL_sound_440 : decode cL_sound 440 = .ok (.iconst 1, 1) := by decide +kernel
theorem dL_sound_441 : decode cL_sound 441 = .ok (.goto 4, 3) := by decide +kernel
theorem dL_sound_444 : decode cL_sound 444 = .ok (.iconst 0, 1) := by decide +kernel
theorem dL_sound_445 : decode cL_sound 445 = .ok (.istore 8, 2) := by decide +kernel
theorem dL_sound_447 : decode cL_sound 447 = .ok (.iinc 9 1, 3) := by decide +kernel
theorem dL_sound_450 : decode cL_sound 450 = .ok (.goto (-426), 3) := by decide +kernel
theorem dL_sound_453 : decode cL_sound 453 = .ok (.iconst 1, 1) := by decide +kernel
theorem dL_sound_454 : decode cL_sound 454 = .ok (.istore 9, 2) := by decide +kernel
theorem dL_sound_456 : decode cL_sound 456 = .ok (.iload 9, 2) := by decide +kernel
theorem dL_sound_458 : decode cL_sound 458 = .ok (.aload_n 0, 1) := by decide +kernel
theorem dL_sound_459 : decode cL_sound 459 = .ok (.iconst 0, 1) := by decide +kernel
theorem dL_sound_460 : decode cL_sound 460 = .ok (.invokevirtual 9, 3) := by decide +kernel
theorem dL_sound_463 : decode cL_sound 463 = .ok (.if_icmp .ge 80, 3) := by decide +kernel
theorem dL_sound_466 : decode cL_sound 466 = .ok (.iload 8, 2) := by decide +kernel
theorem dL_sound_468 : decode cL_sound 468 = .ok (.ifCond .eq 75, 3) := by decide +kernel
theorem dL_sound_471 : decode cL_sound 471 = .ok (.aload_n 0, 1) := by decide +kernel
theorem dL_sound_472 : decode cL_sound 472 = .ok (.iload 9, 2) := by decide +kernel
theorem dL_sound_474 : decode cL_sound 474 = .ok (.iconst 1, 1) := by decide +kernel
theorem dL_sound_475 : decode cL_sound 475 = .ok (.isub, 1) := by decide +kernel
theorem dL_sound_476 : decode cL_sound 476 = .ok (.invokevirtual 32, 3) := by decide +kernel
theorem dL_sound_479 : decode cL_sound 479 = .ok (.istore 10, 2) := by decide +kernel
theorem dL_sound_481 : decode cL_sound 481 = .ok (.aload_n 0, 1) := by decide +kernel
theorem dL_sound_482 : decode cL_sound 482 = .ok (.iload 9, 2) := by decide +kernel
theorem dL_sound_484 : decode cL_sound 484 = .ok (.invokevirtual 32, 3) := by decide +kernel
theorem dL_sound_487 : decode cL_sound 487 = .ok (.istore 11, 2) := by decide +kernel
theorem dL_sound_489 : decode cL_sound 489 = .ok (.aload_n 0, 1) := by decide +kernel
theorem dL_sound_490 : decode cL_sound 490 = .ok (.iload 10, 2) := by decide +kernel
theorem dL_sound_492 : decode cL_sound 492 = .ok (.iconst 1, 1) := by decide +kernel
theorem dL_sound_493 : decode cL_sound 493 = .ok (.invokevirtual 15, 3) := by decide +kernel
theorem dL_sound_496 : decode cL_sound 496 = .ok (.aload_n 0, 1) := by decide +kernel
theorem dL_sound_497 : decode cL_sound 497 = .ok (.iload 11, 2) := by decide +kernel
theorem dL_sound_499 : decode cL_sound 499 = .ok (.iconst 1, 1) := by decide +kernel
theorem dL_sound_500 : decode cL_sound 500 = .ok (.invokevirtual 15, 3) := by decide +kernel
theorem dL_sound_503 : decode cL_sound 503 = .ok (.if_icmp .gt 27, 3) := by decide +kernel
theorem dL_sound_506 : decode cL_sound 506 = .ok (.aload_n 0, 1) := by decide +kernel
theorem dL_sound_507 : decode cL_sound 507 = .ok (.iload 10, 2) := by decide +kernel
theorem dL_sound_509 : decode cL_sound 509 = .ok (.iconst 1, 1) := by decide +kernel
theorem dL_sound_510 : decode cL_sound 510 = .ok (.invokevirtual 15, 3) := by decide +kernel
theorem dL_sound_513 : decode cL_sound 513 = .ok (.aload_n 0, 1) := by decide +kernel
theorem dL_sound_514 : decode cL_sound 514 = .ok (.iload 11, 2) := by decide +kernel
theorem dL_sound_516 : decode cL_sound 516 = .ok (.iconst 1, 1) := by decide +kernel
theorem dL_sound_517 : decode cL_sound 517 = .ok (.invokevirtual 15, 3) := by decide +kernel
theorem dL_sound_520 : decode cL_sound 520 = .ok (.if_icmp .ne 14, 3) := by decide +kernel
theorem dL_sound_523 : decode cL_sound 523 = .ok (.iload 10, 2) := by decide +kernel
theorem dL_sound_525 : decode cL_sound 525 = .ok (.iload 11, 2) := by decide +kernel
theorem dL_sound_527 : decode cL_sound 527 = .ok (.if_icmp .ge 7, 3) := by decide +kernel
theorem dL_sound_530 : decode cL_sound 530 = .ok (.iconst 1, 1) := by decide +kernel
theorem dL_sound_531 : decode cL_sound 531 = .ok (.goto 4, 3) := by decide +kernel
theorem dL_sound_534 : decode cL_sound 534 = .ok (.iconst 0, 1) := by decide +kernel
theorem dL_sound_535 : decode cL_sound 535 = .ok (.istore 8, 2) := by decide +kernel
theorem dL_sound_537 : decode cL_sound 537 = .ok (.iinc 9 1, 3) := by decide +kernel
theorem dL_sound_540 : decode cL_sound 540 = .ok (.goto (-84), 3) := by decide +kernel
theorem dL_sound_543 : decode cL_sound 543 = .ok (.iload 8, 2) := by decide +kernel
theorem dL_sound_545 : decode cL_sound 545 = .ok (.ifCond .eq 82, 3) := by decide +kernel
theorem dL_sound_548 : decode cL_sound 548 = .ok (.iload_n 1, 1) := by decide +kernel
theorem dL_sound_549 : decode cL_sound 549 = .ok (.aload_n 0, 1) := by decide +kernel
theorem dL_sound_550 : decode cL_sound 550 = .ok (.iconst 3, 1) := by decide +kernel
theorem dL_sound_551 : decode cL_sound 551 = .ok (.invokevirtual 9, 3) := by decide +kernel
theorem dL_sound_554 : decode cL_sound 554 = .ok (.iadd, 1) := by decide +kernel
theorem dL_sound_555 : decode cL_sound 555 = .ok (.aload_n 0, 1) := by decide +kernel
theorem dL_sound_556 : decode cL_sound 556 = .ok (.iconst 2, 1) := by decide +kernel
theorem dL_sound_557 : decode cL_sound 557 = .ok (.invokevirtual 9, 3) := by decide +kernel
theorem dL_sound_560 : decode cL_sound 560 = .ok (.if_icmp .ne 67, 3) := by decide +kernel
theorem dL_sound_563 : decode cL_sound 563 = .ok (.iload 4, 2) := by decide +kernel
theorem dL_sound_565 : decode cL_sound 565 = .ok (.aload_n 0, 1) := by decide +kernel
theorem dL_sound_566 : decode cL_sound 566 = .ok (.iconst 1, 1) := by decide +kernel
theorem dL_sound_567 : decode cL_sound 567 = .ok (.invokevirtual 9, 3) := by decide +kernel
theorem dL_sound_570 : decode cL_sound 570 = .ok (.if_icmp .ne 57, 3) := by decide +kernel
theorem dL_sound_573 : decode cL_sound 573 = .ok (.iload 5, 2) := by decide +kernel
theorem dL_sound_575 : decode cL_sound 575 = .ok (.aload_n 0, 1) := by decide +kernel
theorem dL_sound_576 : decode cL_sound 576 = .ok (.iconst 5, 1) := by decide +kernel
theorem dL_sound_577 : decode cL_sound 577 = .ok (.invokevirtual 9, 3) := by decide +kernel
theorem dL_sound_580 : decode cL_sound 580 = .ok (.if_icmp .ne 47, 3) := by decide +kernel
theorem dL_sound_583 : decode cL_sound 583 = .ok (.iload 6, 2) := by decide +kernel
theorem dL_sound_585 : decode cL_sound 585 = .ok (.iload 5, 2) := by decide +kernel
theorem dL_sound_587 : decode cL_sound 587 = .ok (.if_icmp .ne 40, 3) := by decide +kernel
theorem dL_sound_590 : decode cL_sound 590 = .ok (.iload 7, 2) := by decide +kernel
theorem dL_sound_592 : decode cL_sound 592 = .ok (.aload_n 0, 1) := by decide +kernel
theorem dL_sound_593 : decode cL_sound 593 = .ok (.bipush 6, 2) := by decide +kernel
theorem dL_sound_595 : decode cL_sound 595 = .ok (.invokevirtual 9, 3) := by decide +kernel
theorem dL_sound_598 : decode cL_sound 598 = .ok (.if_icmp .ne 29, 3) := by decide +kernel
theorem dL_sound_601 : decode cL_sound 601 = .ok (.iload_n 3, 1) := by decide +kernel
theorem dL_sound_602 : decode cL_sound 602 = .ok (.iload_n 2, 1) := by decide +kernel
theorem dL_sound_603 : decode cL_sound 603 = .ok (.isub, 1) := by decide +kernel
theorem dL_sound_604 : decode cL_sound 604 = .ok (.iload 5, 2) := by decide +kernel
theorem dL_sound_606 : decode cL_sound 606 = .ok (.if_icmp .lt 21, 3) := by decide +kernel
theorem dL_sound_609 : decode cL_sound 609 = .ok (.aload_n 0, 1) := by decide +kernel
theorem dL_sound_610 : decode cL_sound 610 = .ok (.aload_n 0, 1) := by decide +kernel
theorem dL_sound_611 : decode cL_sound 611 = .ok (.iconst 0, 1) := by decide +kernel
theorem dL_sound_612 : decode cL_sound 612 = .ok (.invokevirtual 9, 3) := by decide +kernel
theorem dL_sound_615 : decode cL_sound 615 = .ok (.invokevirtual 32, 3) := by decide +kernel
theorem dL_sound_618 : decode cL_sound 618 = .ok (.bipush (-9), 2) := by decide +kernel
theorem dL_sound_620 : decode cL_sound 620 = .ok (.if_icmp .ne 7, 3) := by decide +kernel
theorem dL_sound_623 : decode cL_sound 623 = .ok (.iconst 1, 1) := by decide +kernel
theorem dL_sound_624 : decode cL_sound 624 = .ok (.goto 4, 3) := by decide +kernel
theorem dL_sound_627 : decode cL_sound 627 = .ok (.iconst 0, 1) := by decide +kernel
theorem dL_sound_628 : decode cL_sound 628 = .ok (.ireturn, 1) := by decide +kernel
theorem dL_tick_0 : decode cL_tick 0 = .ok (.aload_n 0, 1) := by decide +kernel
theorem dL_tick_1 : decode cL_tick 1 = .ok (.iconst 0, 1) := by decide +kernel
theorem dL_tick_2 : decode cL_tick 2 = .ok (.invokevirtual 35, 3) := by decide +kernel
theorem dL_tick_5 : decode cL_tick 5 = .ok (.istore_n 2, 1) := by decide +kernel
theorem dL_tick_6 : decode cL_tick 6 = .ok (.aload_n 0, 1) := by decide +kernel
theorem dL_tick_7 : decode cL_tick 7 = .ok (.iconst 3, 1) := by decide +kernel
theorem dL_tick_8 : decode cL_tick 8 = .ok (.invokevirtual 35, 3) := by decide +kernel
theorem dL_tick_11 : decode cL_tick 11 = .ok (.istore_n 3, 1) := by decide +kernel
theorem dL_tick_12 : decode cL_tick 12 = .ok (.aload_n 0, 1) := by decide +kernel
theorem dL_tick_13 : decode cL_tick 13 = .ok (.iload_n 1, 1) := by decide +kernel
theorem dL_tick_14 : decode cL_tick 14 = .ok (.invokevirtual 26, 3) := by decide +kernel
theorem dL_tick_17 : decode cL_tick 17 = .ok (.istore 4, 2) := by decide +kernel
theorem dL_tick_19 : decode cL_tick 19 = .ok (.aload_n 0, 1) := by decide +kernel
theorem dL_tick_20 : decode cL_tick 20 = .ok (.iconst 3, 1) := by decide +kernel
theorem dL_tick_21 : decode cL_tick 21 = .ok (.invokevirtual 9, 3) := by decide +kernel
theorem dL_tick_24 : decode cL_tick 24 = .ok (.istore 5, 2) := by decide +kernel
theorem dL_tick_26 : decode cL_tick 26 = .ok (.aload_n 0, 1) := by decide +kernel
theorem dL_tick_27 : decode cL_tick 27 = .ok (.iload_n 1, 1) := by decide +kernel
theorem dL_tick_28 : decode cL_tick 28 = .ok (.bipush 10, 2) := by decide +kernel
theorem dL_tick_30 : decode cL_tick 30 = .ok (.invokevirtual 15, 3) := by decide +kernel
theorem dL_tick_33 : decode cL_tick 33 = .ok (.istore 6, 2) := by decide +kernel
theorem dL_tick_35 : decode cL_tick 35 = .ok (.aload_n 0, 1) := by decide +kernel
theorem dL_tick_36 : decode cL_tick 36 = .ok (.iload_n 1, 1) := by decide +kernel
theorem dL_tick_37 : decode cL_tick 37 = .ok (.iconst 4, 1) := by decide +kernel
theorem dL_tick_38 : decode cL_tick 38 = .ok (.invokevirtual 15, 3) := by decide +kernel
theorem dL_tick_41 : decode cL_tick 41 = .ok (.istore 7, 2) := by decide +kernel
theorem dL_tick_43 : decode cL_tick 43 = .ok (.aload_n 0, 1) := by decide +kernel
theorem dL_tick_44 : decode cL_tick 44 = .ok (.iconst 1, 1) := by decide +kernel
theorem dL_tick_45 : decode cL_tick 45 = .ok (.invokevirtual 38, 3) := by decide +kernel
theorem dL_tick_48 : decode cL_tick 48 = .ok (.iload_n 2, 1) := by decide +kernel
theorem dL_tick_49 : decode cL_tick 49 = .ok (.ifCond .ge 7, 3) := by decide +kernel
theorem dL_tick_52 : decode cL_tick 52 = .ok (.iconst 0, 1) := by decide +kernel
theorem dL_tick_53 : decode cL_tick 53 = .ok (.goto 4, 3) := by decide +kernel
theorem dL_tick_56 : decode cL_tick 56 = .ok (.iconst 1, 1) := by decide +kernel
theorem dL_tick_57 : decode cL_tick 57 = .ok (.if_icmp .ne 46, 3) := by decide +kernel
theorem dL_tick_60 : decode cL_tick 60 = .ok (.aload_n 0, 1) := by decide +kernel
theorem dL_tick_61 : decode cL_tick 61 = .ok (.bipush 8, 2) := by decide +kernel
theorem dL_tick_63 : decode cL_tick 63 = .ok (.invokevirtual 9, 3) := by decide +kernel
theorem dL_tick_66 : decode cL_tick 66 = .ok (.iload_n 2, 1) := by decide +kernel
theorem dL_tick_67 : decode cL_tick 67 = .ok (.if_icmp .ne 36, 3) := by decide +kernel
theorem dL_tick_70 : decode cL_tick 70 = .ok (.aload_n 0, 1) := by decide +kernel
theorem dL_tick_71 : decode cL_tick 71 = .ok (.iconst 3, 1) := by decide +kernel
theorem dL_tick_72 : decode cL_tick 72 = .ok (.invokevirtual 9, 3) := by decide +kernel
theorem dL_tick_75 : decode cL_tick 75 = .ok (.iload 5, 2) := by decide +kernel
theorem dL_tick_77 : decode cL_tick 77 = .ok (.iload_n 2, 1) := by decide +kernel
theorem dL_tick_78 : decode cL_tick 78 = .ok (.ifCond .ge 7, 3) := by decide +kernel
theorem dL_tick_81 : decode cL_tick 81 = .ok (.iconst 1, 1) := by decide +kernel
theorem dL_tick_82 : decode cL_tick 82 = .ok (.goto 4, 3) := by decide +kernel
theorem dL_tick_85 : decode cL_tick 85 = .ok (.iconst 0, 1) := by decide +kernel
theorem dL_tick_86 : decode cL_tick 86 = .ok (.iadd, 1) := by decide +kernel
theorem dL_tick_87 : decode cL_tick 87 = .ok (.if_icmp .ne 16, 3) := by decide +kernel
theorem dL_tick_90 : decode cL_tick 90 = .ok (.aload_n 0, 1) := by decide +kernel
theorem dL_tick_91 : decode cL_tick 91 = .ok (.iconst 2, 1) := by decide +kernel
theorem dL_tick_92 : decode cL_tick 92 = .ok (.invokevirtual 35, 3) := by decide +kernel
theorem dL_tick_95 : decode cL_tick 95 = .ok (.iload_n 3, 1) := by decide +kernel
theorem dL_tick_96 : decode cL_tick 96 = .ok (.if_icmp .ne 7, 3) := by decide +kernel
theorem dL_tick_99 : decode cL_tick 99 = .ok (.iconst 1, 1) := by decide +kernel
theorem dL_tick_100 : decode cL_tick 100 = .ok (.goto 4, 3) := by decide +kernel
theorem dL_tick_103 : decode cL_tick 103 = .ok (.iconst 0, 1) := by decide +kernel
theorem dL_tick_104 : decode cL_tick 104 = .ok (.istore 8, 2) := by decide +kernel
theorem dL_tick_106 : decode cL_tick 106 = .ok (.iload 8, 2) := by decide +kernel
theorem dL_tick_108 : decode cL_tick 108 = .ok (.ifCond .eq 39, 3) := by decide +kernel
theorem dL_tick_111 : decode cL_tick 111 = .ok (.iload 4, 2) := by decide +kernel
theorem dL_tick_113 : decode cL_tick 113 = .ok (.iconst 1, 1) := by decide +kernel
theorem dL_tick_114 : decode cL_tick 114 = .ok (.if_icmp .lt 29, 3) := by decide +kernel
theorem dL_tick_117 : decode cL_tick 117 = .ok (.aload_n 0, 1) := by decide +kernel
theorem dL_tick_118 : decode cL_tick 118 = .ok (.iload_n 1, 1) := by decide +kernel
theorem dL_tick_119 : decode cL_tick 119 = .ok (.invokevirtual 26, 3) := by decide +kernel
theorem dL_tick_122 : decode cL_tick 122 = .ok (.iload 4, 2) := by decide +kernel
theorem dL_tick_124 : decode cL_tick 124 = .ok (.iconst 1, 1) := by decide +kernel
theorem dL_tick_125 : decode cL_tick 125 = .ok (.isub, 1) := by decide +kernel
theorem dL_tick_126 : decode cL_tick 126 = .ok (.if_icmp .eq 17, 3) := by decide +kernel
theorem dL_tick_129 : decode cL_tick 129 = .ok (.aload_n 0, 1) := by decide +kernel
theorem dL_tick_130 : decode cL_tick 130 = .ok (.bipush 9, 2) := by decide +kernel
theorem dL_tick_132 : decode cL_tick 132 = .ok (.invokevirtual 9, 3) := by decide +kernel
theorem dL_tick_135 : decode cL_tick 135 = .ok (.iload_n 1, 1) := by decide +kernel
theorem dL_tick_136 : decode cL_tick 136 = .ok (.ishr, 1) := by decide +kernel
theorem dL_tick_137 : decode cL_tick 137 = .ok (.iconst 1, 1) := by decide +kernel
theorem dL_tick_138 : decode cL_tick 138 = .ok (.iand, 1) := by decide +kernel
theorem dL_tick_139 : decode cL_tick 139 = .ok (.iconst 1, 1) := by decide +kernel
theorem dL_tick_140 : decode cL_tick 140 = .ok (.if_icmp .ne 7, 3) := by decide +kernel
theorem dL_tick_143 : decode cL_tick 143 = .ok (.iconst 1, 1) := by decide +kernel
theorem dL_tick_144 : decode cL_tick 144 = .ok (.goto 4, 3) := by decide +kernel
theorem dL_tick_147 : decode cL_tick 147 = .ok (.iconst 0, 1) := by decide +kernel
theorem dL_tick_148 : decode cL_tick 148 = .ok (.istore 8, 2) := by decide +kernel
theorem dL_tick_150 : decode cL_tick 150 = .ok (.iload 8, 2) := by decide +kernel
theorem dL_tick_152 : decode cL_tick 152 = .ok (.ifCond .eq 54, 3) := by decide +kernel
theorem dL_tick_155 : decode cL_tick 155 = .ok (.aload_n 0, 1) := by decide +kernel
theorem dL_tick_156 : decode cL_tick 156 = .ok (.bipush 9, 2) := by decide +kernel
theorem dL_tick_158 : decode cL_tick 158 = .ok (.invokevirtual 9, 3) := by decide +kernel
theorem dL_tick_161 : decode cL_tick 161 = .ok (.iload_n 1, 1) := by decide +kernel
theorem dL_tick_162 : decode cL_tick 162 = .ok (.ishr, 1) := by decide +kernel
theorem dL_tick_163 : decode cL_tick 163 = .ok (.iconst 1, 1) := by decide +kernel
theorem dL_tick_164 : decode cL_tick 164 = .ok (.iand, 1) := by decide +kernel
theorem dL_tick_165 : decode cL_tick 165 = .ok (.iconst 1, 1) := by decide +kernel
theorem dL_tick_166 : decode cL_tick 166 = .ok (.if_icmp .eq 36, 3) := by decide +kernel
theorem dL_tick_169 : decode cL_tick 169 = .ok (.aload_n 0, 1) := by decide +kernel
theorem dL_tick_170 : decode cL_tick 170 = .ok (.iload_n 1, 1) := by decide +kernel
theorem dL_tick_171 : decode cL_tick 171 = .ok (.bipush 10, 2) := by decide +kernel
theorem dL_tick_173 : decode cL_tick 173 = .ok (.invokevirtual 15, 3) := by decide +kernel
theorem dL_tick_176 : decode cL_tick 176 = .ok (.iload 6, 2) := by decide +kernel
theorem dL_tick_178 : decode cL_tick 178 = .ok (.isub, 1) := by decide +kernel
theorem dL_tick_179 : decode cL_tick 179 = .ok (.iload 7, 2) := by decide +kernel
theorem dL_tick_181 : decode cL_tick 181 = .ok (.iadd, 1) := by decide +kernel
theorem dL_tick_182 : decode cL_tick 182 = .ok (.aload_n 0, 1) := by decide +kernel
theorem dL_tick_183 : decode cL_tick 183 = .ok (.iload_n 1, 1) := by decide +kernel
theorem dL_tick_184 : decode cL_tick 184 = .ok (.iconst 4, 1) := by decide +kernel
theorem dL_tick_185 : decode cL_tick 185 = .ok (.invokevirtual 15, 3) := by decide +kernel
theorem dL_tick_188 : decode cL_tick 188 = .ok (.isub, 1) := by decide +kernel
theorem dL_tick_189 : decode cL_tick 189 = .ok (.iload_n 2, 1) := by decide +kernel
theorem dL_tick_190 : decode cL_tick 190 = .ok (.iload_n 1, 1) := by decide +kernel
theorem dL_tick_191 : decode cL_tick 191 = .ok (.if_icmp .ne 7, 3) := by decide +kernel
theorem dL_tick_194 : decode cL_tick 194 = .ok (.iconst 1, 1) := by decide +kernel
theorem dL_tick_195 : decode cL_tick 195 = .ok (.goto 4, 3) := by decide +kernel
theorem dL_tick_198 : decode cL_tick 198 = .ok (.iconst 0, 1) := by decide +kernel
theorem dL_tick_199 : decode cL_tick 199 = .ok (.if_icmp .ne 7, 3) := by decide +kernel
theorem dL_tick_202 : decode cL_tick 202 = .ok (.iconst 1, 1) := by decide +kernel
theorem dL_tick_203 : decode cL_tick 203 = .ok (.goto 4, 3) := by decide +kernel
theorem dL_tick_206 : decode cL_tick 206 = .ok (.iconst 0, 1) := by decide +kernel
theorem dL_tick_207 : decode cL_tick 207 = .ok (.istore 8, 2) := by decide +kernel
theorem dL_tick_209 : decode cL_tick 209 = .ok (.iconst 0, 1) := by decide +kernel
theorem dL_tick_210 : decode cL_tick 210 = .ok (.istore 9, 2) := by decide +kernel
theorem dL_tick_212 : decode cL_tick 212 = .ok (.iload 9, 2) := by decide +kernel
theorem dL_tick_214 : decode cL_tick 214 = .ok (.aload_n 0, 1) := by decide +kernel
theorem dL_tick_215 : decode cL_tick 215 = .ok (.iconst 0, 1) := by decide +kernel
theorem dL_tick_216 : decode cL_tick 216 = .ok (.invokevirtual 9, 3) := by decide +kernel
theorem dL_tick_219 : decode cL_tick 219 = .ok (.if_icmp .ge 40, 3) := by decide +kernel
theorem dL_tick_222 : decode cL_tick 222 = .ok (.iload 8, 2) := by decide +kernel
theorem dL_tick_224 : decode cL_tick 224 = .ok (.ifCond .eq 35, 3) := by decide +kernel
theorem dL_tick_227 : decode cL_tick 227 = .ok (.aload_n 0, 1) := by decide +kernel
theorem dL_tick_228 : decode cL_tick 228 = .ok (.iload 9, 2) := by decide +kernel
theorem dL_tick_230 : decode cL_tick 230 = .ok (.iconst 1, 1) := by decide +kernel
theorem dL_tick_231 : decode cL_tick 231 = .ok (.invokevirtual 15, 3) := by decide +kernel
theorem dL_tick_234 : decode cL_tick 234 = .ok (.iconst 4, 1) := by decide +kernel
theorem dL_tick_235 : decode cL_tick 235 = .ok (.aload_n 0, 1) := by decide +kernel
theorem dL_tick_236 : decode cL_tick 236 = .ok (.iload 9, 2) := by decide +kernel
theorem dL_tick_238 : decode cL_tick 238 = .ok (.iconst 0, 1) := by decide +kernel
theorem dL_tick_239 : decode cL_tick 239 = .ok (.invokevirtual 15, 3) := by decide +kernel
theorem dL_tick_242 : decode cL_tick 242 = .ok (.imul, 1) := by decide +kernel
theorem dL_tick_243 : decode cL_tick 243 = .ok (.if_icmp .gt 7, 3) := by decide +kernel
theorem dL_tick_246 : decode cL_tick 246 = .ok (.iconst 1, 1) := by decide +kernel
theorem dL_tick_247 : decode cL_tick 247 = .ok (.goto 4, 3) := by decide +kernel
theorem dL_tick_250 : decode cL_tick 250 = .ok (.iconst 0, 1) := by decide +kernel
theorem dL_tick_251 : decode cL_tick 251 = .ok (.istore 8, 2) := by decide +kernel
theorem dL_tick_253 : decode cL_tick 253 = .ok (.iinc 9 1, 3) := by decide +kernel
theorem dL_tick_256 : decode cL_tick 256 = .ok (.goto (-44), 3) := by decide +kernel
theorem dL_tick_259 : decode cL_tick 259 = .ok (.iload 8, 2) := by decide +kernel
theorem dL_tick_261 : decode cL_tick 261 = .ok (.ireturn, 1) := by decide +kernel
theorem dL_acts_0 : decode cL_acts 0 = .ok (.iload_n 1, 1) := by decide +kernel
theorem dL_acts_1 : decode cL_acts 1 = .ok (.iconst 3, 1) := by decide +kernel
theorem dL_acts_2 : decode cL_acts 2 = .ok (.ishr, 1) := by decide +kernel
theorem dL_acts_3 : decode cL_acts 3 = .ok (.istore_n 2, 1) := by decide +kernel
theorem dL_acts_4 : decode cL_acts 4 = .ok (.iload_n 2, 1) := by decide +kernel
theorem dL_acts_5 : decode cL_acts 5 = .ok (.aload_n 0, 1) := by decide +kernel
theorem dL_acts_6 : decode cL_acts 6 = .ok (.iconst 0, 1) := by decide +kernel
theorem dL_acts_7 : decode cL_acts 7 = .ok (.invokevirtual 9, 3) := by decide +kernel
theorem dL_acts_10 : decode cL_acts 10 = .ok (.irem, 1) := by decide +kernel
theorem dL_acts_11 : decode cL_acts 11 = .ok (.istore_n 3, 1) := by decide +kernel
theorem dL_acts_12 : decode cL_acts 12 = .ok (.iload_n 2, 1) := by decide +kernel
theorem dL_acts_13 : decode cL_acts 13 = .ok (.iconst 3, 1) := by decide +kernel
theorem dL_acts_14 : decode cL_acts 14 = .ok (.ishr, 1) := by decide +kernel
theorem dL_acts_15 : decode cL_acts 15 = .ok (.aload_n 0, 1) := by decide +kernel
theorem dL_acts_16 : decode cL_acts 16 = .ok (.iconst 0, 1) := by decide +kernel
theorem dL_acts_17 : decode cL_acts 17 = .ok (.invokevirtual 9, 3) := by decide +kernel
theorem dL_acts_20 : decode cL_acts 20 = .ok (.irem, 1) := by decide +kernel
theorem dL_acts_21 : decode cL_acts 21 = .ok (.istore 4, 2) := by decide +kernel
theorem dL_acts_23 : decode cL_acts 23 = .ok (.iload_n 1, 1) := by decide +kernel
theorem dL_acts_24 : decode cL_acts 24 = .ok (.bipush 7, 2) := by decide +kernel
theorem dL_acts_26 : decode cL_acts 26 = .ok (.iand, 1) := by decide +kernel
theorem dL_acts_27 : decode cL_acts 27 = .ok (.tableswitch 345 0 6 #[41, 41, 41, 180, 180, 186, 249], 41) := by decide +kernel
theorem dL_acts_68 : decode cL_acts 68 = .ok (.aload_n 0, 1) := by decide +kernel
theorem dL_acts_69 : decode cL_acts 69 = .ok (.iload_n 3, 1) := by decide +kernel
theorem dL_acts_70 : decode cL_acts 70 = .ok (.iconst 3, 1) := by decide +kernel
theorem dL_acts_71 : decode cL_acts 71 = .ok (.invokevirtual 15, 3) := by decide +kernel
theorem dL_acts_74 : decode cL_acts 74 = .ok (.istore 5, 2) := by decide +kernel
theorem dL_acts_76 : decode cL_acts 76 = .ok (.iload 5, 2) := by decide +kernel
theorem dL_acts_78 : decode cL_acts 78 = .ok (.bipush 6, 2) := by decide +kernel
theorem dL_acts_80 : decode cL_acts 80 = .ok (.if_icmp .ge 20, 3) := by decide +kernel
theorem dL_acts_83 : decode cL_acts 83 = .ok (.aload_n 0, 1) := by decide +kernel
theorem dL_acts_84 : decode cL_acts 84 = .ok (.bipush 9, 2) := by decide +kernel
theorem dL_acts_86 : decode cL_acts 86 = .ok (.invokevirtual 9, 3) := by decide +kernel
theorem dL_acts_89 : decode cL_acts 89 = .ok (.iload_n 3, 1) := by decide +kernel
theorem dL_acts_90 : decode cL_acts 90 = .ok (.ishr, 1) := by decide +kernel
theorem dL_acts_91 : decode cL_acts 91 = .ok (.iconst 1, 1) := by decide +kernel
theorem dL_acts_92 : decode cL_acts 92 = .ok (.iand, 1) := by decide +kernel
theorem dL_acts_93 : decode cL_acts 93 = .ok (.ifCond .ne 7, 3) := by decide +kernel
theorem dL_acts_96 : decode cL_acts 96 = .ok (.iconst 1, 1) := by decide +kernel
theorem dL_acts_97 : decode cL_acts 97 = .ok (.goto 4, 3) := by decide +kernel
theorem dL_acts_100 : decode cL_acts 100 = .ok (.iconst 0, 1) := by decide +kernel
theorem dL_acts_101 : decode cL_acts 101 = .ok (.istore 6, 2) := by decide +kernel
theorem dL_acts_103 : decode cL_acts 103 = .ok (.iconst 1, 1) := by decide +kernel
theorem dL_acts_104 : decode cL_acts 104 = .ok (.iload_n 2, 1) := by decide +kernel
theorem dL_acts_105 : decode cL_acts 105 = .ok (.bipush 6, 2) := by decide +kernel
theorem dL_acts_107 : decode cL_acts 107 = .ok (.ishr, 1) := by decide +kernel
theorem dL_acts_108 : decode cL_acts 108 = .ok (.bipush 8, 2) := by decide +kernel
theorem dL_acts_110 : decode cL_acts 110 = .ok (.irem, 1) := by decide +kernel
theorem dL_acts_111 : decode cL_acts 111 = .ok (.iadd, 1) := by decide +kernel
theorem dL_acts_112 : decode cL_acts 112 = .ok (.istore 7, 2) := by decide +kernel
theorem dL_acts_114 : decode cL_acts 114 = .ok (.iload_n 2, 1) := by decide +kernel
theorem dL_acts_115 : decode cL_acts 115 = .ok (.bipush 9, 2) := by decide +kernel
theorem dL_acts_117 : decode cL_acts 117 = .ok (.ishr, 1) := by decide +kernel
theorem dL_acts_118 : decode cL_acts 118 = .ok (.iconst 4, 1) := by decide +kernel
theorem dL_acts_119 : decode cL_acts 119 = .ok (.irem, 1) := by decide +kernel
theorem dL_acts_120 : decode cL_acts 120 = .ok (.istore 8, 2) := by decide +kernel
theorem dL_acts_122 : decode cL_acts 122 = .ok (.iload 6, 2) := by decide +kernel
theorem dL_acts_124 : decode cL_acts 124 = .ok (.ifCond .eq 77, 3) := by decide +kernel
theorem dL_acts_127 : decode cL_acts 127 = .ok (.aload_n 0, 1) := by decide +kernel
theorem dL_acts_128 : decode cL_acts 128 = .ok (.iload_n 3, 1) := by decide +kernel
theorem dL_acts_129 : decode cL_acts 129 = .ok (.iload 8, 2) := by decide +kernel
theorem dL_acts_131 : decode cL_acts 131 = .ok (.iload 7, 2) := by decide +kernel
theorem dL_acts_133 : decode cL_acts 133 = .ok (.iload_n 2, 1) := by decide +kernel
theorem dL_acts_134 : decode cL_acts 134 = .ok (.bipush 11, 2) := by decide +kernel
theorem dL_acts_136 : decode cL_acts 136 = .ok (.ishr, 1) := by decide +kernel
theorem dL_acts_137 : decode cL_acts 137 = .ok (.iconst 1, 1) := by decide +kernel
theorem dL_acts_138 : decode cL_acts 138 = .ok (.iand, 1) := by decide +kernel
theorem dL_acts_139 : decode cL_acts 139 = .ok (.iconst 1, 1) := by decide +kernel
theorem dL_acts_140 : decode cL_acts 140 = .ok (.if_icmp .ne 7, 3) := by decide +kernel
theorem dL_acts_143 : decode cL_acts 143 = .ok (.iconst 1, 1) := by decide +kernel
theorem dL_acts_144 : decode cL_acts 144 = .ok (.goto 4, 3) := by decide +kernel
theorem dL_acts_147 : decode cL_acts 147 = .ok (.iconst 0, 1) := by decide +kernel
theorem dL_acts_148 : decode cL_acts 148 = .ok (.invokevirtual 41, 3) := by decide +kernel
theorem dL_acts_151 : decode cL_acts 151 = .ok (.iload 5, 2) := by decide +kernel
theorem dL_acts_153 : decode cL_acts 153 = .ok (.iconst 1, 1) := by decide +kernel
theorem dL_acts_154 : decode cL_acts 154 = .ok (.iadd, 1) := by decide +kernel
theorem dL_acts_155 : decode cL_acts 155 = .ok (.if_icmp .ne 50, 3) := by decide +kernel
theorem dL_acts_158 : decode cL_acts 158 = .ok (.aload_n 0, 1) := by decide +kernel
theorem dL_acts_159 : decode cL_acts 159 = .ok (.iload_n 3, 1) := by decide +kernel
theorem dL_acts_160 : decode cL_acts 160 = .ok (.iload 5, 2) := by decide +kernel
theorem dL_acts_162 : decode cL_acts 162 = .ok (.iconst 0, 1) := by decide +kernel
theorem dL_acts_163 : decode cL_acts 163 = .ok (.invokevirtual 22, 3) := by decide +kernel
theorem dL_acts_166 : decode cL_acts 166 = .ok (.iload 8, 2) := by decide +kernel
theorem dL_acts_168 : decode cL_acts 168 = .ok (.if_icmp .ne 37, 3) := by decide +kernel
theorem dL_acts_171 : decode cL_acts 171 = .ok (.aload_n 0, 1) := by decide +kernel
theorem dL_acts_172 : decode cL_acts 172 = .ok (.iload_n 3, 1) := by decide +kernel
theorem dL_acts_173 : decode cL_acts 173 = .ok (.iload 5, 2) := by decide +kernel
theorem dL_acts_175 : decode cL_acts 175 = .ok (.iconst 1, 1) := by decide +kernel
theorem dL_acts_176 : decode cL_acts 176 = .ok (.invokevirtual 22, 3) := by decide +kernel
theorem dL_acts_179 : decode cL_acts 179 = .ok (.iload 7, 2) := by decide +kernel
theorem dL_acts_181 : decode cL_acts 181 = .ok (.if_icmp .ne 24, 3) := by decide +kernel
theorem dL_acts_184 : decode cL_acts 184 = .ok (.aload_n 0, 1) := by decide +kernel
theorem dL_acts_185 : decode cL_acts 185 = .ok (.iload_n 3, 1) := by decide +kernel
theorem dL_acts_186 : decode cL_acts 186 = .ok (.iload 5, 2) := by decide +kernel
theorem dL_acts_188 : decode cL_acts 188 = .ok (.iconst 2, 1) := by decide +kernel
theorem dL_acts_189 : decode cL_acts 189 = .ok (.invokevirtual 22, 3) := by decide +kernel
theorem dL_acts_192 : decode cL_acts 192 = .ok (.iload_n 2, 1) := by decide +kernel
theorem dL_acts_193 : decode cL_acts 193 = .ok (.bipush 11, 2) := by decide +kernel
theorem dL_acts_195 : decode cL_acts 195 = .ok (.ishr, 1) := by decide +kernel
theorem dL_acts_196 : decode cL_acts 196 = .ok (.iconst 1, 1) := by decide +kernel
theorem dL_acts_197 : decode cL_acts 197 = .ok (.iand, 1) := by decide +kernel
theorem dL_acts_198 : decode cL_acts 198 = .ok (.if_icmp .ne 7, 3) := by decide +kernel
theorem dL_acts_201 : decode cL_acts 201 = .ok (.iconst 1, 1) := by decide +kernel
theorem dL_acts_202 : decode cL_acts 202 = .ok (.goto 4, 3) := by decide +kernel
theorem dL_acts_205 : decode cL_acts 205 = .ok (.iconst 0, 1) := by decide +kernel
theorem dL_acts_206 : decode cL_acts 206 = .ok (.ireturn, 1) := by decide +kernel
theorem dL_acts_207 : decode cL_acts 207 = .ok (.aload_n 0, 1) := by decide +kernel
theorem dL_acts_208 : decode cL_acts 208 = .ok (.iload_n 3, 1) := by decide +kernel
theorem dL_acts_209 : decode cL_acts 209 = .ok (.invokestatic 45, 3) := by decide +kernel
theorem dL_acts_212 : decode cL_acts 212 = .ok (.ireturn, 1) := by decide +kernel
theorem dL_acts_213 : decode cL_acts 213 = .ok (.iconst 1, 1) := by decide +kernel
theorem dL_acts_214 : decode cL_acts 214 = .ok (.iload_n 2, 1) := by decide +kernel
theorem dL_acts_215 : decode cL_acts 215 = .ok (.iconst 4, 1) := by decide +kernel
theorem dL_acts_216 : decode cL_acts 216 = .ok (.ishr, 1) := by decide +kernel
theorem dL_acts_217 : decode cL_acts 217 = .ok (.bipush 20, 2) := by decide +kernel
theorem dL_acts_219 : decode cL_acts 219 = .ok (.irem, 1) := by decide +kernel
theorem dL_acts_220 : decode cL_acts 220 = .ok (.iadd, 1) := by decide +kernel
theorem dL_acts_221 : decode cL_acts 221 = .ok (.istore 9, 2) := by decide +kernel
theorem dL_acts_223 : decode cL_acts 223 = .ok (.aload_n 0, 1) := by decide +kernel
theorem dL_acts_224 : decode cL_acts 224 = .ok (.iconst 2, 1) := by decide +kernel
theorem dL_acts_225 : decode cL_acts 225 = .ok (.invokevirtual 9, 3) := by decide +kernel
theorem dL_acts_228 : decode cL_acts 228 = .ok (.istore 10, 2) := by decide +kernel
theorem dL_acts_230 : decode cL_acts 230 = .ok (.aload_n 0, 1) := by decide +kernel
theorem dL_acts_231 : decode cL_acts 231 = .ok (.iconst 3, 1) := by decide +kernel
theorem dL_acts_232 : decode cL_acts 232 = .ok (.invokevirtual 9, 3) := by decide +kernel
theorem dL_acts_235 : decode cL_acts 235 = .ok (.istore 11, 2) := by decide +kernel
theorem dL_acts_237 : decode cL_acts 237 = .ok (.aload_n 0, 1) := by decide +kernel
theorem dL_acts_238 : decode cL_acts 238 = .ok (.iload 9, 2) := by decide +kernel
theorem dL_acts_240 : decode cL_acts 240 = .ok (.invokevirtual 38, 3) := by decide +kernel
theorem dL_acts_243 : decode cL_acts 243 = .ok (.iload 9, 2) := by decide +kernel
theorem dL_acts_245 : decode cL_acts 245 = .ok (.aload_n 0, 1) := by decide +kernel
theorem dL_acts_246 : decode cL_acts 246 = .ok (.iconst 3, 1) := by decide +kernel
theorem dL_acts_247 : decode cL_acts 247 = .ok (.invokevirtual 9, 3) := by decide +kernel
theorem dL_acts_250 : decode cL_acts 250 = .ok (.iload 11, 2) := by decide +kernel
theorem dL_acts_252 : decode cL_acts 252 = .ok (.isub, 1) := by decide +kernel
theorem dL_acts_253 : decode cL_acts 253 = .ok (.isub, 1) := by decide +kernel
theorem dL_acts_254 : decode cL_acts 254 = .ok (.if_icmp .ne 20, 3) := by decide +kernel
theorem dL_acts_257 : decode cL_acts 257 = .ok (.aload_n 0, 1) := by decide +kernel
theorem dL_acts_258 : decode cL_acts 258 = .ok (.iconst 2, 1) := by decide +kernel
theorem dL_acts_259 : decode cL_acts 259 = .ok (.invokevirtual 9, 3) := by decide +kernel
theorem dL_acts_262 : decode cL_acts 262 = .ok (.iload 10, 2) := by decide +kernel
theorem dL_acts_264 : decode cL_acts 264 = .ok (.iload 9, 2) := by decide +kernel
theorem dL_acts_266 : decode cL_acts 266 = .ok (.iadd, 1) := by decide +kernel
theorem dL_acts_267 : decode cL_acts 267 = .ok (.if_icmp .ne 7, 3) := by decide +kernel
theorem dL_acts_270 : decode cL_acts 270 = .ok (.iconst 1, 1) := by decide +kernel
theorem dL_acts_271 : decode cL_acts 271 = .ok (.goto 4, 3) := by decide +kernel
theorem dL_acts_274 : decode cL_acts 274 = .ok (.iconst 0, 1) := by decide +kernel
theorem dL_acts_275 : decode cL_acts 275 = .ok (.ireturn, 1) := by decide +kernel
theorem dL_acts_276 : decode cL_acts 276 = .ok (.iload_n 2, 1) := by decide +kernel
theorem dL_acts_277 : decode cL_acts 277 = .ok (.iconst 3, 1) := by decide +kernel
theorem dL_acts_278 : decode cL_acts 278 = .ok (.ishr, 1) := by decide +kernel
theorem dL_acts_279 : decode cL_acts 279 = .ok (.aload_n 0, 1) := by decide +kernel
theorem dL_acts_280 : decode cL_acts 280 = .ok (.iconst 1, 1) := by decide +kernel
theorem dL_acts_281 : decode cL_acts 281 = .ok (.invokevirtual 9, 3) := by decide +kernel
theorem dL_acts_284 : decode cL_acts 284 = .ok (.irem, 1) := by decide +kernel
theorem dL_acts_285 : decode cL_acts 285 = .ok (.istore 12, 2) := by decide +kernel
theorem dL_acts_287 : decode cL_acts 287 = .ok (.aload_n 0, 1) := by decide +kernel
theorem dL_acts_288 : decode cL_acts 288 = .ok (.iload 12, 2) := by decide +kernel
theorem dL_acts_290 : decode cL_acts 290 = .ok (.invokevirtual 51, 3) := by decide +kernel
theorem dL_acts_293 : decode cL_acts 293 = .ok (.istore 13, 2) := by decide +kernel
theorem dL_acts_295 : decode cL_acts 295 = .ok (.iload_n 2, 1) := by decide +kernel
theorem dL_acts_296 : decode cL_acts 296 = .ok (.bipush 8, 2) := by decide +kernel
theorem dL_acts_298 : decode cL_acts 298 = .ok (.ishr, 1) := by decide +kernel
theorem dL_acts_299 : decode cL_acts 299 = .ok (.iconst 1, 1) := by decide +kernel
theorem dL_acts_300 : decode cL_acts 300 = .ok (.iand, 1) := by decide +kernel
theorem dL_acts_301 : decode cL_acts 301 = .ok (.iconst 1, 1) := by decide +kernel
theorem dL_acts_302 : decode cL_acts 302 = .ok (.if_icmp .ne 28, 3) := by decide +kernel
theorem dL_acts_305 : decode cL_acts 305 = .ok (.aload_n 0, 1) := by decide +kernel
theorem dL_acts_306 : decode cL_acts 306 = .ok (.iload_n 2, 1) := by decide +kernel
theorem dL_acts_307 : decode cL_acts 307 = .ok (.iconst 4, 1) := by decide +kernel
theorem dL_acts_308 : decode cL_acts 308 = .ok (.irem, 1) := by decide +kernel
theorem dL_acts_309 : decode cL_acts 309 = .ok (.iload_n 2, 1) := by decide +kernel
theorem dL_acts_310 : decode cL_acts 310 = .ok (.bipush 9, 2) := by decide +kernel
theorem dL_acts_312 : decode cL_acts 312 = .ok (.ishr, 1) := by decide +kernel
theorem dL_acts_313 : decode cL_acts 313 = .ok (.bipush 10, 2) := by decide +kernel
theorem dL_acts_315 : decode cL_acts 315 = .ok (.irem, 1) := by decide +kernel
theorem dL_acts_316 : decode cL_acts 316 = .ok (.invokevirtual 54, 3) := by decide +kernel
theorem dL_acts_319 : decode cL_acts 319 = .ok (.ifCond .lt 7, 3) := by decide +kernel
theorem dL_acts_322 : decode cL_acts 322 = .ok (.iconst 1, 1) := by decide +kernel
theorem dL_acts_323 : decode cL_acts 323 = .ok (.goto 48, 3) := by decide +kernel
theorem dL_acts_326 : decode cL_acts 326 = .ok (.iconst 0, 1) := by decide +kernel
theorem dL_acts_327 : decode cL_acts 327 = .ok (.goto 44, 3) := by decide +kernel
theorem dL_acts_330 : decode cL_acts 330 = .ok (.aload_n 0, 1) := by decide +kernel
theorem dL_acts_331 : decode cL_acts 331 = .ok (.bipush 9, 2) := by decide +kernel
theorem dL_acts_333 : decode cL_acts 333 = .ok (.invokevirtual 9, 3) := by decide +kernel
theorem dL_acts_336 : decode cL_acts 336 = .ok (.iload_n 3, 1) := by decide +kernel
theorem dL_acts_337 : decode cL_acts 337 = .ok (.ishr, 1) := by decide +kernel
theorem dL_acts_338 : decode cL_acts 338 = .ok (.iconst 1, 1) := by decide +kernel
theorem dL_acts_339 : decode cL_acts 339 = .ok (.iand, 1) := by decide +kernel
theorem dL_acts_340 : decode cL_acts 340 = .ok (.iconst 1, 1) := by decide +kernel
theorem dL_acts_341 : decode cL_acts 341 = .ok (.if_icmp .eq 25, 3) := by decide +kernel
theorem dL_acts_344 : decode cL_acts 344 = .ok (.aload_n 0, 1) := by decide +kernel
theorem dL_acts_345 : decode cL_acts 345 = .ok (.iload 12, 2) := by decide +kernel
theorem dL_acts_347 : decode cL_acts 347 = .ok (.iload_n 3, 1) := by decide +kernel
theorem dL_acts_348 : decode cL_acts 348 = .ok (.invokevirtual 57, 3) := by decide +kernel
theorem dL_acts_351 : decode cL_acts 351 = .ok (.iload 13, 2) := by decide +kernel
theorem dL_acts_353 : decode cL_acts 353 = .ok (.if_icmp .ne 17, 3) := by decide +kernel
theorem dL_acts_356 : decode cL_acts 356 = .ok (.aload_n 0, 1) := by decide +kernel
theorem dL_acts_357 : decode cL_acts 357 = .ok (.iload 12, 2) := by decide +kernel
theorem dL_acts_359 : decode cL_acts 359 = .ok (.invokevirtual 51, 3) := by decide +kernel
theorem dL_acts_362 : decode cL_acts 362 = .ok (.iload_n 3, 1) := by decide +kernel
theorem dL_acts_363 : decode cL_acts 363 = .ok (.if_icmp .ne 7, 3) := by decide +kernel
theorem dL_acts_366 : decode cL_acts 366 = .ok (.iconst 1, 1) := by decide +kernel
theorem dL_acts_367 : decode cL_acts 367 = .ok (.goto 4, 3) := by decide +kernel
theorem dL_acts_370 : decode cL_acts 370 = .ok (.iconst 0, 1) := by decide +kernel
theorem dL_acts_371 : decode cL_acts 371 = .ok (.ireturn, 1) := by decide +kernel
theorem dL_acts_372 : decode cL_acts 372 = .ok (.aload_n 0, 1) := by decide +kernel
theorem dL_acts_373 : decode cL_acts 373 = .ok (.iload_n 3, 1) := by decide +kernel
theorem dL_acts_374 : decode cL_acts 374 = .ok (.iload 4, 2) := by decide +kernel
theorem dL_acts_376 : decode cL_acts 376 = .ok (.invokevirtual 19, 3) := by decide +kernel
theorem dL_acts_379 : decode cL_acts 379 = .ok (.istore 14, 2) := by decide +kernel
theorem dL_acts_381 : decode cL_acts 381 = .ok (.iload_n 2, 1) := by decide +kernel
theorem dL_acts_382 : decode cL_acts 382 = .ok (.bipush 12, 2) := by decide +kernel
theorem dL_acts_384 : decode cL_acts 384 = .ok (.iand, 1) := by decide +kernel
theorem dL_acts_385 : decode cL_acts 385 = .ok (.ifCond .ne 33, 3) := by decide +kernel
theorem dL_acts_388 : decode cL_acts 388 = .ok (.aload_n 0, 1) := by decide +kernel
theorem dL_acts_389 : decode cL_acts 389 = .ok (.iload_n 3, 1) := by decide +kernel
theorem dL_acts_390 : decode cL_acts 390 = .ok (.iload 4, 2) := by decide +kernel
theorem dL_acts_392 : decode cL_acts 392 = .ok (.invokevirtual 60, 3) := by decide +kernel
theorem dL_acts_395 : decode cL_acts 395 = .ok (.iload 14, 2) := by decide +kernel
theorem dL_acts_397 : decode cL_acts 397 = .ok (.if_icmp .ne 17, 3) := by decide +kernel
theorem dL_acts_400 : decode cL_acts 400 = .ok (.aload_n 0, 1) := by decide +kernel
theorem dL_acts_401 : decode cL_acts 401 = .ok (.iload_n 3, 1) := by decide +kernel
theorem dL_acts_402 : decode cL_acts 402 = .ok (.iload 4, 2) := by decide +kernel
theorem dL_acts_404 : decode cL_acts 404 = .ok (.invokevirtual 19, 3) := by decide +kernel
theorem dL_acts_407 : decode cL_acts 407 = .ok (.ifCond .ne 7, 3) := by decide +kernel
theorem dL_acts_410 : decode cL_acts 410 = .ok (.iconst 1, 1) := by decide +kernel
theorem dL_acts_411 : decode cL_acts 411 = .ok (.goto 79, 3) := by decide +kernel
theorem dL_acts_414 : decode cL_acts 414 = .ok (.iconst 0, 1) := by decide +kernel
theorem dL_acts_415 : decode cL_acts 415 = .ok (.goto 75, 3) := by decide +kernel
theorem dL_acts_418 : decode cL_acts 418 = .ok (.iload_n 2, 1) := by decide +kernel
theorem dL_acts_419 : decode cL_acts 419 = .ok (.bipush 12, 2) := by decide +kernel
theorem dL_acts_421 : decode cL_acts 421 = .ok (.iand, 1) := by decide +kernel
theorem dL_acts_422 : decode cL_acts 422 = .ok (.iconst 4, 1) := by decide +kernel
theorem dL_acts_423 : decode cL_acts 423 = .ok (.if_icmp .ne 35, 3) := by decide +kernel
theorem dL_acts_426 : decode cL_acts 426 = .ok (.aload_n 0, 1) := by decide +kernel
theorem dL_acts_427 : decode cL_acts 427 = .ok (.iconst 0, 1) := by decide +kernel
theorem dL_acts_428 : decode cL_acts 428 = .ok (.invokevirtual 9, 3) := by decide +kernel
theorem dL_acts_431 : decode cL_acts 431 = .ok (.bipush 6, 2) := by decide +kernel
theorem dL_acts_433 : decode cL_acts 433 = .ok (.if_icmp .ge 25, 3) := by decide +kernel
theorem dL_acts_436 : decode cL_acts 436 = .ok (.aload_n 0, 1) := by decide +kernel
theorem dL_acts_437 : decode cL_acts 437 = .ok (.invokevirtual 63, 3) := by decide +kernel
theorem dL_acts_440 : decode cL_acts 440 = .ok (.aload_n 0, 1) := by decide +kernel
theorem dL_acts_441 : decode cL_acts 441 = .ok (.iconst 0, 1) := by decide +kernel
theorem dL_acts_442 : decode cL_acts 442 = .ok (.invokevirtual 9, 3) := by decide +kernel
theorem dL_acts_445 : decode cL_acts 445 = .ok (.iconst 1, 1) := by decide +kernel
theorem dL_acts_446 : decode cL_acts 446 = .ok (.isub, 1) := by decide +kernel
theorem dL_acts_447 : decode cL_acts 447 = .ok (.if_icmp .ne 7, 3) := by decide +kernel
theorem dL_acts_450 : decode cL_acts 450 = .ok (.iconst 1, 1) := by decide +kernel
theorem dL_acts_451 : decode cL_acts 451 = .ok (.goto 39, 3) := by decide +kernel
theorem dL_acts_454 : decode cL_acts 454 = .ok (.iconst 0, 1) := by decide +kernel
theorem dL_acts_455 : decode cL_acts 455 = .ok (.goto 35, 3) := by decide +kernel
theorem dL_acts_458 : decode cL_acts 458 = .ok (.aload_n 0, 1) := by decide +kernel
theorem dL_acts_459 : decode cL_acts 459 = .ok (.iload_n 2, 1) := by decide +kernel
theorem dL_acts_460 : decode cL_acts 460 = .ok (.iconst 5, 1) := by decide +kernel
theorem dL_acts_461 : decode cL_acts 461 = .ok (.ishr, 1) := by decide +kernel
theorem dL_acts_462 : decode cL_acts 462 = .ok (.bipush 10, 2) := by decide +kernel
theorem dL_acts_464 : decode cL_acts 464 = .ok (.irem, 1) := by decide +kernel
theorem dL_acts_465 : decode cL_acts 465 = .ok (.invokevirtual 67, 3) := by decide +kernel
theorem dL_acts_468 : decode cL_acts 468 = .ok (.ifCond .lt 21, 3) := by decide +kernel
theorem dL_acts_471 : decode cL_acts 471 = .ok (.aload_n 0, 1) := by decide +kernel
theorem dL_acts_472 : decode cL_acts 472 = .ok (.iconst 4, 1) := by decide +kernel
theorem dL_acts_473 : decode cL_acts 473 = .ok (.invokevirtual 9, 3) := by decide +kernel
theorem dL_acts_476 : decode cL_acts 476 = .ok (.iload_n 2, 1) := by decide +kernel
theorem dL_acts_477 : decode cL_acts 477 = .ok (.iconst 5, 1) := by decide +kernel
theorem dL_acts_478 : decode cL_acts 478 = .ok (.ishr, 1) := by decide +kernel
theorem dL_acts_479 : decode cL_acts 479 = .ok (.bipush 10, 2) := by decide +kernel
theorem dL_acts_481 : decode cL_acts 481 = .ok (.irem, 1) := by decide +kernel
theorem dL_acts_482 : decode cL_acts 482 = .ok (.if_icmp .ne 7, 3) := by decide +kernel
theorem dL_acts_485 : decode cL_acts 485 = .ok (.iconst 1, 1) := by decide +kernel
theorem dL_acts_486 : decode cL_acts 486 = .ok (.goto 4, 3) := by decide +kernel
theorem dL_acts_489 : decode cL_acts 489 = .ok (.iconst 0, 1) := by decide +kernel
theorem dL_acts_490 : decode cL_acts 490 = .ok (.ireturn, 1) := by decide +kernel
theorem dL_law_0 : decode cL_law 0 = .ok (.new 10, 3) := by decide +kernel
theorem dL_law_3 : decode cL_law 3 = .ok (.dup, 1) := by decide +kernel
theorem dL_law_4 : decode cL_law 4 = .ok (.invokespecial 70, 3) := by decide +kernel
theorem dL_law_7 : decode cL_law 7 = .ok (.astore_n 1, 1) := by decide +kernel
theorem dL_law_8 : decode cL_law 8 = .ok (.aload_n 1, 1) := by decide +kernel
theorem dL_law_9 : decode cL_law 9 = .ok (.iconst 0, 1) := by decide +kernel
theorem dL_law_10 : decode cL_law 10 = .ok (.invokevirtual 9, 3) := by decide +kernel
theorem dL_law_13 : decode cL_law 13 = .ok (.iconst 2, 1) := by decide +kernel
theorem dL_law_14 : decode cL_law 14 = .ok (.if_icmp .ne 59, 3) := by decide +kernel
theorem dL_law_17 : decode cL_law 17 = .ok (.aload_n 1, 1) := by decide +kernel
theorem dL_law_18 : decode cL_law 18 = .ok (.iconst 1, 1) := by decide +kernel
theorem dL_law_19 : decode cL_law 19 = .ok (.invokevirtual 9, 3) := by decide +kernel
theorem dL_law_22 : decode cL_law 22 = .ok (.iconst 4, 1) := by decide +kernel
theorem dL_law_23 : decode cL_law 23 = .ok (.if_icmp .ne 50, 3) := by decide +kernel
theorem dL_law_26 : decode cL_law 26 = .ok (.aload_n 1, 1) := by decide +kernel
theorem dL_law_27 : decode cL_law 27 = .ok (.iconst 4, 1) := by decide +kernel
theorem dL_law_28 : decode cL_law 28 = .ok (.invokevirtual 9, 3) := by decide +kernel
theorem dL_law_31 : decode cL_law 31 = .ok (.iconst 4, 1) := by decide +kernel
theorem dL_law_32 : decode cL_law 32 = .ok (.if_icmp .ne 41, 3) := by decide +kernel
theorem dL_law_35 : decode cL_law 35 = .ok (.aload_n 1, 1) := by decide +kernel
theorem dL_law_36 : decode cL_law 36 = .ok (.bipush 8, 2) := by decide +kernel
theorem dL_law_38 : decode cL_law 38 = .ok (.invokevirtual 9, 3) := by decide +kernel
theorem dL_law_41 : decode cL_law 41 = .ok (.bipush (-9), 2) := by decide +kernel
theorem dL_law_43 : decode cL_law 43 = .ok (.if_icmp .ne 30, 3) := by decide +kernel
theorem dL_law_46 : decode cL_law 46 = .ok (.aload_n 1, 1) := by decide +kernel
theorem dL_law_47 : decode cL_law 47 = .ok (.invokestatic 71, 3) := by decide +kernel
theorem dL_law_50 : decode cL_law 50 = .ok (.ifCond .eq 23, 3) := by decide +kernel
theorem dL_law_53 : decode cL_law 53 = .ok (.aload_n 1, 1) := by decide +kernel
theorem dL_law_54 : decode cL_law 54 = .ok (.invokevirtual 75, 3) := by decide +kernel
theorem dL_law_57 : decode cL_law 57 = .ok (.ifCond .ne 16, 3) := by decide +kernel
theorem dL_law_60 : decode cL_law 60 = .ok (.aload_n 1, 1) := by decide +kernel
theorem dL_law_61 : decode cL_law 61 = .ok (.iconst 3, 1) := by decide +kernel
theorem dL_law_62 : decode cL_law 62 = .ok (.invokevirtual 51, 3) := by decide +kernel
theorem dL_law_65 : decode cL_law 65 = .ok (.iconst 1, 1) := by decide +kernel
theorem dL_law_66 : decode cL_law 66 = .ok (.if_icmp .ne 7, 3) := by decide +kernel
theorem dL_law_69 : decode cL_law 69 = .ok (.iconst 1, 1) := by decide +kernel
theorem dL_law_70 : decode cL_law 70 = .ok (.goto 4, 3) := by decide +kernel
theorem dL_law_73 : decode cL_law 73 = .ok (.iconst 0, 1) := by decide +kernel
theorem dL_law_74 : decode cL_law 74 = .ok (.istore_n 2, 1) := by decide +kernel
theorem dL_law_75 : decode cL_law 75 = .ok (.iconst 0, 1) := by decide +kernel
theorem dL_law_76 : decode cL_law 76 = .ok (.istore_n 3, 1) := by decide +kernel
theorem dL_law_77 : decode cL_law 77 = .ok (.iload_n 3, 1) := by decide +kernel
theorem dL_law_78 : decode cL_law 78 = .ok (.bipush 44, 2) := by decide +kernel
theorem dL_law_80 : decode cL_law 80 = .ok (.if_icmp .ge 38, 3) := by decide +kernel
theorem dL_law_83 : decode cL_law 83 = .ok (.iload_n 2, 1) := by decide +kernel
theorem dL_law_84 : decode cL_law 84 = .ok (.ifCond .eq 34, 3) := by decide +kernel
theorem dL_law_87 : decode cL_law 87 = .ok (.aload_n 1, 1) := by decide +kernel
theorem dL_law_88 : decode cL_law 88 = .ok (.aload_n 0, 1) := by decide +kernel
theorem dL_law_89 : decode cL_law 89 = .ok (.iload_n 3, 1) := by decide +kernel
theorem dL_law_90 : decode cL_law 90 = .ok (.invokestatic 78, 3) := by decide +kernel
theorem dL_law_93 : decode cL_law 93 = .ok (.invokestatic 82, 3) := by decide +kernel
theorem dL_law_96 : decode cL_law 96 = .ok (.ifCond .eq 14, 3) := by decide +kernel
theorem dL_law_99 : decode cL_law 99 = .ok (.aload_n 1, 1) := by decide +kernel
theorem dL_law_100 : decode cL_law 100 = .ok (.invokestatic 71, 3) := by decide +kernel
theorem dL_law_103 : decode cL_law 103 = .ok (.ifCond .eq 7, 3) := by decide +kernel
theorem dL_law_106 : decode cL_law 106 = .ok (.iconst 1, 1) := by decide +kernel
theorem dL_law_107 : decode cL_law 107 = .ok (.goto 4, 3) := by decide +kernel
theorem dL_law_110 : decode cL_law 110 = .ok (.iconst 0, 1) := by decide +kernel
theorem dL_law_111 : decode cL_law 111 = .ok (.istore_n 2, 1) := by decide +kernel
theorem dL_law_112 : decode cL_law 112 = .ok (.iinc 3 1, 3) := by decide +kernel
theorem dL_law_115 : decode cL_law 115 = .ok (.goto (-38), 3) := by decide +kernel
theorem dL_law_118 : decode cL_law 118 = .ok (.aload_n 1, 1) := by decide +kernel
theorem dL_law_119 : decode cL_law 119 = .ok (.iconst 2, 1) := by decide +kernel
theorem dL_law_120 : decode cL_law 120 = .ok (.invokevirtual 9, 3) := by decide +kernel
theorem dL_law_123 : decode cL_law 123 = .ok (.istore_n 3, 1) := by decide +kernel
theorem dL_law_124 : decode cL_law 124 = .ok (.aload_n 1, 1) := by decide +kernel
theorem dL_law_125 : decode cL_law 125 = .ok (.iconst 5, 1) := by decide +kernel
theorem dL_law_126 : decode cL_law 126 = .ok (.invokevirtual 9, 3) := by decide +kernel
theorem dL_law_129 : decode cL_law 129 = .ok (.istore 4, 2) := by decide +kernel
theorem dL_law_131 : decode cL_law 131 = .ok (.aload_n 1, 1) := by decide +kernel
theorem dL_law_132 : decode cL_law 132 = .ok (.bipush 7, 2) := by decide +kernel
theorem dL_law_134 : decode cL_law 134 = .ok (.invokevirtual 35, 3) := by decide +kernel
theorem dL_law_137 : decode cL_law 137 = .ok (.istore 5, 2) := by decide +kernel
theorem dL_law_139 : decode cL_law 139 = .ok (.iload_n 2, 1) := by decide +kernel
theorem dL_law_140 : decode cL_law 140 = .ok (.ifCond .eq 62, 3) := by decide +kernel
theorem dL_law_143 : decode cL_law 143 = .ok (.aload_n 1, 1) := by decide +kernel
theorem dL_law_144 : decode cL_law 144 = .ok (.iconst 0, 1) := by decide +kernel
theorem dL_law_145 : decode cL_law 145 = .ok (.invokevirtual 85, 3) := by decide +kernel
theorem dL_law_148 : decode cL_law 148 = .ok (.iload_n 3, 1) := by decide +kernel
theorem dL_law_149 : decode cL_law 149 = .ok (.if_icmp .ne 53, 3) := by decide +kernel
theorem dL_law_152 : decode cL_law 152 = .ok (.aload_n 1, 1) := by decide +kernel
theorem dL_law_153 : decode cL_law 153 = .ok (.bipush 40, 2) := by decide +kernel
theorem dL_law_155 : decode cL_law 155 = .ok (.invokevirtual 38, 3) := by decide +kernel
theorem dL_law_158 : decode cL_law 158 = .ok (.ifCond .lt 44, 3) := by decide +kernel
theorem dL_law_161 : decode cL_law 161 = .ok (.aload_n 1, 1) := by decide +kernel
theorem dL_law_162 : decode cL_law 162 = .ok (.invokevirtual 88, 3) := by decide +kernel
theorem dL_law_165 : decode cL_law 165 = .ok (.ifCond .lt 37, 3) := by decide +kernel
theorem dL_law_168 : decode cL_law 168 = .ok (.aload_n 1, 1) := by decide +kernel
theorem dL_law_169 : decode cL_law 169 = .ok (.iconst 2, 1) := by decide +kernel
theorem dL_law_170 : decode cL_law 170 = .ok (.invokevirtual 9, 3) := by decide +kernel
theorem dL_law_173 : decode cL_law 173 = .ok (.iload_n 3, 1) := by decide +kernel
theorem dL_law_174 : decode cL_law 174 = .ok (.if_icmp .ne 28, 3) := by decide +kernel
theorem dL_law_177 : decode cL_law 177 = .ok (.aload_n 1, 1) := by decide +kernel
theorem dL_law_178 : decode cL_law 178 = .ok (.iconst 5, 1) := by decide +kernel
theorem dL_law_179 : decode cL_law 179 = .ok (.invokevirtual 9, 3) := by decide +kernel
theorem dL_law_182 : decode cL_law 182 = .ok (.iload 4, 2) := by decide +kernel
theorem dL_law_184 : decode cL_law 184 = .ok (.if_icmp .ne 18, 3) := by decide +kernel
theorem dL_law_187 : decode cL_law 187 = .ok (.aload_n 1, 1) := by decide +kernel
theorem dL_law_188 : decode cL_law 188 = .ok (.bipush 7, 2) := by decide +kernel
theorem dL_law_190 : decode cL_law 190 = .ok (.invokevirtual 35, 3) := by decide +kernel
theorem dL_law_193 : decode cL_law 193 = .ok (.iload 5, 2) := by decide +kernel
theorem dL_law_195 : decode cL_law 195 = .ok (.if_icmp .ne 7, 3) := by decide +kernel
theorem dL_law_198 : decode cL_law 198 = .ok (.iconst 1, 1) := by decide +kernel
theorem dL_law_199 : decode cL_law 199 = .ok (.goto 4, 3) := by decide +kernel
theorem dL_law_202 : decode cL_law 202 = .ok (.iconst 0, 1) := by decide +kernel
theorem dL_law_203 : decode cL_law 203 = .ok (.istore_n 2, 1) := by decide +kernel
theorem dL_law_204 : decode cL_law 204 = .ok (.iload_n 2, 1) := by decide +kernel
theorem dL_law_205 : decode cL_law 205 = .ok (.ifCond .eq 43, 3) := by decide +kernel
theorem dL_law_208 : decode cL_law 208 = .ok (.aload_n 1, 1) := by decide +kernel
theorem dL_law_209 : decode cL_law 209 = .ok (.bipush 9, 2) := by decide +kernel
theorem dL_law_211 : decode cL_law 211 = .ok (.invokevirtual 38, 3) := by decide +kernel
theorem dL_law_214 : decode cL_law 214 = .ok (.ifCond .lt 34, 3) := by decide +kernel
theorem dL_law_217 : decode cL_law 217 = .ok (.aload_n 1, 1) := by decide +kernel
theorem dL_law_218 : decode cL_law 218 = .ok (.iconst 0, 1) := by decide +kernel
theorem dL_law_219 : decode cL_law 219 = .ok (.invokevirtual 91, 3) := by decide +kernel
theorem dL_law_222 : decode cL_law 222 = .ok (.iload_n 3, 1) := by decide +kernel
theorem dL_law_223 : decode cL_law 223 = .ok (.if_icmp .ne 25, 3) := by decide +kernel
theorem dL_law_226 : decode cL_law 226 = .ok (.aload_n 1, 1) := by decide +kernel
theorem dL_law_227 : decode cL_law 227 = .ok (.bipush 7, 2) := by decide +kernel
theorem dL_law_229 : decode cL_law 229 = .ok (.invokevirtual 35, 3) := by decide +kernel
theorem dL_law_232 : decode cL_law 232 = .ok (.iload 5, 2) := by decide +kernel
theorem dL_law_234 : decode cL_law 234 = .ok (.if_icmp .ne 14, 3) := by decide +kernel
theorem dL_law_237 : decode cL_law 237 = .ok (.aload_n 1, 1) := by decide +kernel
theorem dL_law_238 : decode cL_law 238 = .ok (.invokestatic 71, 3) := by decide +kernel
theorem dL_law_241 : decode cL_law 241 = .ok (.ifCond .eq 7, 3) := by decide +kernel
theorem dL_law_244 : decode cL_law 244 = .ok (.iconst 1, 1) := by decide +kernel
theorem dL_law_245 : decode cL_law 245 = .ok (.goto 4, 3) := by decide +kernel
theorem dL_law_248 : decode cL_law 248 = .ok (.iconst 0, 1) := by decide +kernel
theorem dL_law_249 : decode cL_law 249 = .ok (.ireturn, 1) := by decide +kernel
