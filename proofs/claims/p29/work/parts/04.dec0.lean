theorem dJ9_floorMod_7cf53_0 : decode cJ9_floorMod_7cf53 0 = .ok (.iload_n 0, 1) := by decide +kernel
theorem dJ9_floorMod_7cf53_1 : decode cJ9_floorMod_7cf53 1 = .ok (.iload_n 1, 1) := by decide +kernel
theorem dJ9_floorMod_7cf53_2 : decode cJ9_floorMod_7cf53 2 = .ok (.irem, 1) := by decide +kernel
theorem dJ9_floorMod_7cf53_3 : decode cJ9_floorMod_7cf53 3 = .ok (.istore_n 2, 1) := by decide +kernel
theorem dJ9_floorMod_7cf53_4 : decode cJ9_floorMod_7cf53 4 = .ok (.iload_n 0, 1) := by decide +kernel
theorem dJ9_floorMod_7cf53_5 : decode cJ9_floorMod_7cf53 5 = .ok (.iload_n 1, 1) := by decide +kernel
theorem dJ9_floorMod_7cf53_6 : decode cJ9_floorMod_7cf53 6 = .ok (.ixor, 1) := by decide +kernel
theorem dJ9_floorMod_7cf53_7 : decode cJ9_floorMod_7cf53 7 = .ok (.ifCond .ge 11, 3) := by decide +kernel
theorem dJ9_floorMod_7cf53_10 : decode cJ9_floorMod_7cf53 10 = .ok (.iload_n 2, 1) := by decide +kernel
theorem dJ9_floorMod_7cf53_11 : decode cJ9_floorMod_7cf53 11 = .ok (.ifCond .eq 7, 3) := by decide +kernel
theorem dJ9_floorMod_7cf53_14 : decode cJ9_floorMod_7cf53 14 = .ok (.iload_n 2, 1) := by decide +kernel
theorem dJ9_floorMod_7cf53_15 : decode cJ9_floorMod_7cf53 15 = .ok (.iload_n 1, 1) := by decide +kernel
theorem dJ9_floorMod_7cf53_16 : decode cJ9_floorMod_7cf53 16 = .ok (.iadd, 1) := by decide +kernel
theorem dJ9_floorMod_7cf53_17 : decode cJ9_floorMod_7cf53 17 = .ok (.ireturn, 1) := by decide +kernel
theorem dJ9_floorMod_7cf53_18 : decode cJ9_floorMod_7cf53 18 = .ok (.iload_n 2, 1) := by decide +kernel
theorem dJ9_floorMod_7cf53_19 : decode cJ9_floorMod_7cf53 19 = .ok (.ireturn, 1) := by decide +kernel
theorem dJ9_max_7cf53_0 : decode cJ9_max_7cf53 0 = .ok (.iload_n 0, 1) := by decide +kernel
theorem dJ9_max_7cf53_1 : decode cJ9_max_7cf53 1 = .ok (.iload_n 1, 1) := by decide +kernel
theorem dJ9_max_7cf53_2 : decode cJ9_max_7cf53 2 = .ok (.if_icmp .lt 7, 3) := by decide +kernel
theorem dJ9_max_7cf53_5 : decode cJ9_max_7cf53 5 = .ok (.iload_n 0, 1) := by decide +kernel
theorem dJ9_max_7cf53_6 : decode cJ9_max_7cf53 6 = .ok (.goto 4, 3) := by decide +kernel
theorem dJ9_max_7cf53_9 : decode cJ9_max_7cf53 9 = .ok (.iload_n 1, 1) := by decide +kernel
theorem dJ9_max_7cf53_10 : decode cJ9_max_7cf53 10 = .ok (.ireturn, 1) := by decide +kernel
theorem dJ9_min_7cf53_0 : decode cJ9_min_7cf53 0 = .ok (.iload_n 0, 1) := by decide +kernel
theorem dJ9_min_7cf53_1 : decode cJ9_min_7cf53 1 = .ok (.iload_n 1, 1) := by decide +kernel
theorem dJ9_min_7cf53_2 : decode cJ9_min_7cf53 2 = .ok (.if_icmp .gt 7, 3) := by decide +kernel
theorem dJ9_min_7cf53_5 : decode cJ9_min_7cf53 5 = .ok (.iload_n 0, 1) := by decide +kernel
theorem dJ9_min_7cf53_6 : decode cJ9_min_7cf53 6 = .ok (.goto 4, 3) := by decide +kernel
theorem dJ9_min_7cf53_9 : decode cJ9_min_7cf53 9 = .ok (.iload_n 1, 1) := by decide +kernel
theorem dJ9_min_7cf53_10 : decode cJ9_min_7cf53 10 = .ok (.ireturn, 1) := by decide +kernel
theorem dX0_init_0 : decode cX0_init 0 = .ok (.aload_n 0, 1) := by decide +kernel
theorem dX0_init_1 : decode cX0_init 1 = .ok (.invokespecial 3, 3) := by decide +kernel
theorem dX0_init_4 : decode cX0_init 4 = .ok (.aload_n 0, 1) := by decide +kernel
theorem dX0_init_5 : decode cX0_init 5 = .ok (.bipush 10, 2) := by decide +kernel
theorem dX0_init_7 : decode cX0_init 7 = .ok (.newarray .int, 2) := by decide +kernel
theorem dX0_init_9 : decode cX0_init 9 = .ok (.putfield 9, 3) := by decide +kernel
theorem dX0_init_12 : decode cX0_init 12 = .ok (.return_, 1) := by decide +kernel
theorem dX0_copyFrom_0 : decode cX0_copyFrom 0 = .ok (.aload_n 0, 1) := by decide +kernel
theorem dX0_copyFrom_1 : decode cX0_copyFrom 1 = .ok (.aload_n 1, 1) := by decide +kernel
theorem dX0_copyFrom_2 : decode cX0_copyFrom 2 = .ok (.getfield 15, 3) := by decide +kernel
theorem dX0_copyFrom_5 : decode cX0_copyFrom 5 = .ok (.putfield 15, 3) := by decide +kernel
theorem dX0_copyFrom_8 : decode cX0_copyFrom 8 = .ok (.iconst 0, 1) := by decide +kernel
theorem dX0_copyFrom_9 : decode cX0_copyFrom 9 = .ok (.istore_n 2, 1) := by decide +kernel
theorem dX0_copyFrom_10 : decode cX0_copyFrom 10 = .ok (.iload_n 2, 1) := by decide +kernel
theorem dX0_copyFrom_11 : decode cX0_copyFrom 11 = .ok (.aload_n 0, 1) := by decide +kernel
theorem dX0_copyFrom_12 : decode cX0_copyFrom 12 = .ok (.getfield 15, 3) := by decide +kernel
theorem dX0_copyFrom_15 : decode cX0_copyFrom 15 = .ok (.if_icmp .ge 27, 3) := by decide +kernel
theorem dX0_copyFrom_18 : decode cX0_copyFrom 18 = .ok (.iload_n 2, 1) := by decide +kernel
theorem dX0_copyFrom_19 : decode cX0_copyFrom 19 = .ok (.bipush 10, 2) := by decide +kernel
theorem dX0_copyFrom_21 : decode cX0_copyFrom 21 = .ok (.if_icmp .ge 21, 3) := by decide +kernel
theorem dX0_copyFrom_24 : decode cX0_copyFrom 24 = .ok (.aload_n 0, 1) := by decide +kernel
theorem dX0_copyFrom_25 : decode cX0_copyFrom 25 = .ok (.getfield 9, 3) := by decide +kernel
theorem dX0_copyFrom_28 : decode cX0_copyFrom 28 = .ok (.iload_n 2, 1) := by decide +kernel
theorem dX0_copyFrom_29 : decode cX0_copyFrom 29 = .ok (.aload_n 1, 1) := by decide +kernel
theorem dX0_copyFrom_30 : decode cX0_copyFrom 30 = .ok (.getfield 9, 3) := by decide +kernel
theorem dX0_copyFrom_33 : decode cX0_copyFrom 33 = .ok (.iload_n 2, 1) := by decide +kernel
theorem dX0_copyFrom_34 : decode cX0_copyFrom 34 = .ok (.iaload, 1) := by decide +kernel
theorem dX0_copyFrom_35 : decode cX0_copyFrom 35 = .ok (.iastore, 1) := by decide +kernel
theorem dX0_copyFrom_36 : decode cX0_copyFrom 36 = .ok (.iinc 2 1, 3) := by decide +kernel
theorem dX0_copyFrom_39 : decode cX0_copyFrom 39 = .ok (.goto (-29), 3) := by decide +kernel
theorem dX0_copyFrom_42 : decode cX0_copyFrom 42 = .ok (.return_, 1) := by decide +kernel
theorem dX0_add_0 : decode cX0_add 0 = .ok (.aload_n 0, 1) := by decide +kernel
theorem dX0_add_1 : decode cX0_add 1 = .ok (.getfield 15, 3) := by decide +kernel
theorem dX0_add_4 : decode cX0_add 4 = .ok (.ifCond .lt 12, 3) := by decide +kernel
theorem dX0_add_7 : decode cX0_add 7 = .ok (.aload_n 0, 1) := by decide +kernel
theorem dX0_add_8 : decode cX0_add 8 = .ok (.getfield 15, 3) := by decide +kernel
theorem dX0_add_11 : decode cX0_add 11 = .ok (.bipush 10, 2) := by decide +kernel
theorem dX0_add_13 : decode cX0_add 13 = .ok (.if_icmp .lt 4, 3) := by decide +kernel
theorem dX0_add_16 : decode cX0_add 16 = .ok (.return_, 1) := by decide +kernel
theorem dX0_add_17 : decode cX0_add 17 = .ok (.aload_n 0, 1) := by decide +kernel
theorem dX0_add_18 : decode cX0_add 18 = .ok (.getfield 9, 3) := by decide +kernel
theorem dX0_add_21 : decode cX0_add 21 = .ok (.aload_n 0, 1) := by decide +kernel
theorem dX0_add_22 : decode cX0_add 22 = .ok (.getfield 15, 3) := by decide +kernel
theorem dX0_add_25 : decode cX0_add 25 = .ok (.iload_n 1, 1) := by decide +kernel
theorem dX0_add_26 : decode cX0_add 26 = .ok (.iastore, 1) := by decide +kernel
theorem dX0_add_27 : decode cX0_add 27 = .ok (.aload_n 0, 1) := by decide +kernel
theorem dX0_add_28 : decode cX0_add 28 = .ok (.dup, 1) := by decide +kernel
theorem dX0_add_29 : decode cX0_add 29 = .ok (.getfield 15, 3) := by decide +kernel
theorem dX0_add_32 : decode cX0_add 32 = .ok (.iconst 1, 1) := by decide +kernel
theorem dX0_add_33 : decode cX0_add 33 = .ok (.iadd, 1) := by decide +kernel
theorem dX0_add_34 : decode cX0_add 34 = .ok (.putfield 15, 3) := by decide +kernel
theorem dX0_add_37 : decode cX0_add 37 = .ok (.return_, 1) := by decide +kernel
theorem dX0_firstReady_0 : decode cX0_firstReady 0 = .ok (.iconst 0, 1) := by decide +kernel
theorem dX0_firstReady_1 : decode cX0_firstReady 1 = .ok (.istore_n 2, 1) := by decide +kernel
theorem dX0_firstReady_2 : decode cX0_firstReady 2 = .ok (.iload_n 2, 1) := by decide +kernel
theorem dX0_firstReady_3 : decode cX0_firstReady 3 = .ok (.aload_n 0, 1) := by decide +kernel
theorem dX0_firstReady_4 : decode cX0_firstReady 4 = .ok (.getfield 15, 3) := by decide +kernel
theorem dX0_firstReady_7 : decode cX0_firstReady 7 = .ok (.if_icmp .ge 27, 3) := by decide +kernel
theorem dX0_firstReady_10 : decode cX0_firstReady 10 = .ok (.iload_n 2, 1) := by decide +kernel
theorem dX0_firstReady_11 : decode cX0_firstReady 11 = .ok (.bipush 10, 2) := by decide +kernel
theorem dX0_firstReady_13 : decode cX0_firstReady 13 = .ok (.if_icmp .ge 21, 3) := by decide +kernel
theorem dX0_firstReady_16 : decode cX0_firstReady 16 = .ok (.aload_n 0, 1) := by decide +kernel
theorem dX0_firstReady_17 : decode cX0_firstReady 17 = .ok (.getfield 9, 3) := by decide +kernel
theorem dX0_firstReady_20 : decode cX0_firstReady 20 = .ok (.iload_n 2, 1) := by decide +kernel
theorem dX0_firstReady_21 : decode cX0_firstReady 21 = .ok (.iaload, 1) := by decide +kernel
theorem dX0_firstReady_22 : decode cX0_firstReady 22 = .ok (.iload_n 1, 1) := by decide +kernel
theorem dX0_firstReady_23 : decode cX0_firstReady 23 = .ok (.if_icmp .gt 5, 3) := by decide +kernel
theorem dX0_firstReady_26 : decode cX0_firstReady 26 = .ok (.iload_n 2, 1) := by decide +kernel
theorem dX0_firstReady_27 : decode cX0_firstReady 27 = .ok (.ireturn, 1) := by decide +kernel
theorem dX0_firstReady_28 : decode cX0_firstReady 28 = .ok (.iinc 2 1, 3) := by decide +kernel
theorem dX0_firstReady_31 : decode cX0_firstReady 31 = .ok (.goto (-29), 3) := by decide +kernel
theorem dX0_firstReady_34 : decode cX0_firstReady 34 = .ok (.bipush (-9), 2) := by decide +kernel
theorem dX0_firstReady_36 : decode cX0_firstReady 36 = .ok (.ireturn, 1) := by decide +kernel
theorem dX0_remove_0 : decode cX0_remove 0 = .ok (.iload_n 1, 1) := by decide +kernel
theorem dX0_remove_1 : decode cX0_remove 1 = .ok (.ifCond .lt 11, 3) := by decide +kernel
theorem dX0_remove_4 : decode cX0_remove 4 = .ok (.iload_n 1, 1) := by decide +kernel
theorem dX0_remove_5 : decode cX0_remove 5 = .ok (.aload_n 0, 1) := by decide +kernel
theorem dX0_remove_6 : decode cX0_remove 6 = .ok (.getfield 15, 3) := by decide +kernel
theorem dX0_remove_9 : decode cX0_remove 9 = .ok (.if_icmp .lt 4, 3) := by decide +kernel
theorem dX0_remove_12 : decode cX0_remove 12 = .ok (.return_, 1) := by decide +kernel
theorem dX0_remove_13 : decode cX0_remove 13 = .ok (.iload_n 1, 1) := by decide +kernel
theorem dX0_remove_14 : decode cX0_remove 14 = .ok (.iconst 1, 1) := by decide +kernel
theorem dX0_remove_15 : decode cX0_remove 15 = .ok (.iadd, 1) := by decide +kernel
theorem dX0_remove_16 : decode cX0_remove 16 = .ok (.istore_n 2, 1) := by decide +kernel
theorem dX0_remove_17 : decode cX0_remove 17 = .ok (.iload_n 2, 1) := by decide +kernel
theorem dX0_remove_18 : decode cX0_remove 18 = .ok (.aload_n 0, 1) := by decide +kernel
theorem dX0_remove_19 : decode cX0_remove 19 = .ok (.getfield 15, 3) := by decide +kernel
theorem dX0_remove_22 : decode cX0_remove 22 = .ok (.if_icmp .ge 29, 3) := by decide +kernel
theorem dX0_remove_25 : decode cX0_remove 25 = .ok (.iload_n 2, 1) := by decide +kernel
theorem dX0_remove_26 : decode cX0_remove 26 = .ok (.bipush 10, 2) := by decide +kernel
theorem dX0_remove_28 : decode cX0_remove 28 = .ok (.if_icmp .ge 23, 3) := by decide +kernel
theorem dX0_remove_31 : decode cX0_remove 31 = .ok (.aload_n 0, 1) := by decide +kernel
theorem dX0_remove_32 : decode cX0_remove 32 = .ok (.getfield 9, 3) := by decide +kernel
theorem dX0_remove_35 : decode cX0_remove 35 = .ok (.iload_n 2, 1) := by decide +kernel
theorem dX0_remove_36 : decode cX0_remove 36 = .ok (.iconst 1, 1) := by decide +kernel
theorem dX0_remove_37 : decode cX0_remove 37 = .ok (.isub, 1) := by decide +kernel
theorem dX0_remove_38 : decode cX0_remove 38 = .ok (.aload_n 0, 1) := by decide +kernel
theorem dX0_remove_39 : decode cX0_remove 39 = .ok (.getfield 9, 3) := by decide +kernel
theorem dX0_remove_42 : decode cX0_remove 42 = .ok (.iload_n 2, 1) := by decide +kernel
theorem dX0_remove_43 : decode cX0_remove 43 = .ok (.iaload, 1) := by decide +kernel
theorem dX0_remove_44 : decode cX0_remove 44 = .ok (.iastore, 1) := by decide +kernel
theorem dX0_remove_45 : decode cX0_remove 45 = .ok (.iinc 2 1, 3) := by decide +kernel
theorem dX0_remove_48 : decode cX0_remove 48 = .ok (.goto (-31), 3) := by decide +kernel
theorem dX0_remove_51 : decode cX0_remove 51 = .ok (.aload_n 0, 1) := by decide +kernel
theorem dX0_remove_52 : decode cX0_remove 52 = .ok (.dup, 1) := by decide +kernel
theorem dX0_remove_53 : decode cX0_remove 53 = .ok (.getfield 15, 3) := by decide +kernel
theorem dX0_remove_56 : decode cX0_remove 56 = .ok (.iconst 1, 1) := by decide +kernel
theorem dX0_remove_57 : decode cX0_remove 57 = .ok (.isub, 1) := by decide +kernel
theorem dX0_remove_58 : decode cX0_remove 58 = .ok (.putfield 15, 3) := by decide +kernel
theorem dX0_remove_61 : decode cX0_remove 61 = .ok (.return_, 1) := by decide +kernel
theorem dX1_init_0 : decode cX1_init 0 = .ok (.aload_n 0, 1) := by decide +kernel
theorem dX1_init_1 : decode cX1_init 1 = .ok (.invokespecial 3, 3) := by decide +kernel
theorem dX1_init_4 : decode cX1_init 4 = .ok (.aload_n 0, 1) := by decide +kernel
theorem dX1_init_5 : decode cX1_init 5 = .ok (.bipush 6, 2) := by decide +kernel
theorem dX1_init_7 : decode cX1_init 7 = .ok (.newarray .int, 2) := by decide +kernel
theorem dX1_init_9 : decode cX1_init 9 = .ok (.putfield 9, 3) := by decide +kernel
theorem dX1_init_12 : decode cX1_init 12 = .ok (.aload_n 0, 1) := by decide +kernel
theorem dX1_init_13 : decode cX1_init 13 = .ok (.bipush 6, 2) := by decide +kernel
theorem dX1_init_15 : decode cX1_init 15 = .ok (.newarray .int, 2) := by decide +kernel
theorem dX1_init_17 : decode cX1_init 17 = .ok (.putfield 15, 3) := by decide +kernel
theorem dX1_init_20 : decode cX1_init 20 = .ok (.aload_n 0, 1) := by decide +kernel
theorem dX1_init_21 : decode cX1_init 21 = .ok (.bipush 6, 2) := by decide +kernel
theorem dX1_init_23 : decode cX1_init 23 = .ok (.newarray .boolean, 2) := by decide +kernel
theorem dX1_init_25 : decode cX1_init 25 = .ok (.putfield 18, 3) := by decide +kernel
theorem dX1_init_28 : decode cX1_init 28 = .ok (.return_, 1) := by decide +kernel
theorem dX1_copyFrom_0 : decode cX1_copyFrom 0 = .ok (.aload_n 0, 1) := by decide +kernel
theorem dX1_copyFrom_1 : decode cX1_copyFrom 1 = .ok (.aload_n 1, 1) := by decide +kernel
theorem dX1_copyFrom_2 : decode cX1_copyFrom 2 = .ok (.getfield 22, 3) := by decide +kernel
theorem dX1_copyFrom_5 : decode cX1_copyFrom 5 = .ok (.putfield 22, 3) := by decide +kernel
theorem dX1_copyFrom_8 : decode cX1_copyFrom 8 = .ok (.iconst 0, 1) := by decide +kernel
theorem dX1_copyFrom_9 : decode cX1_copyFrom 9 = .ok (.istore_n 2, 1) := by decide +kernel
theorem dX1_copyFrom_10 : decode cX1_copyFrom 10 = .ok (.iload_n 2, 1) := by decide +kernel
theorem dX1_copyFrom_11 : decode cX1_copyFrom 11 = .ok (.aload_n 0, 1) := by decide +kernel
theorem dX1_copyFrom_12 : decode cX1_copyFrom 12 = .ok (.getfield 22, 3) := by decide +kernel
theorem dX1_copyFrom_15 : decode cX1_copyFrom 15 = .ok (.if_icmp .ge 51, 3) := by decide +kernel
theorem dX1_copyFrom_18 : decode cX1_copyFrom 18 = .ok (.iload_n 2, 1) := by decide +kernel
theorem dX1_copyFrom_19 : decode cX1_copyFrom 19 = .ok (.bipush 6, 2) := by decide +kernel
theorem dX1_copyFrom_21 : decode cX1_copyFrom 21 = .ok (.if_icmp .ge 45, 3) := by decide +kernel
theorem dX1_copyFrom_24 : decode cX1_copyFrom 24 = .ok (.aload_n 0, 1) := by decide +kernel
theorem dX1_copyFrom_25 : decode cX1_copyFrom 25 = .ok (.getfield 9, 3) := by decide +kernel
theorem dX1_copyFrom_28 : decode cX1_copyFrom 28 = .ok (.iload_n 2, 1) := by decide +kernel
theorem dX1_copyFrom_29 : decode cX1_copyFrom 29 = .ok (.aload_n 1, 1) := by decide +kernel
theorem dX1_copyFrom_30 : decode cX1_copyFrom 30 = .ok (.getfield 9, 3) := by decide +kernel
theorem dX1_copyFrom_33 : decode cX1_copyFrom 33 = .ok (.iload_n 2, 1) := by decide +kernel
theorem dX1_copyFrom_34 : decode cX1_copyFrom 34 = .ok (.iaload, 1) := by decide +kernel
theorem dX1_copyFrom_35 : decode cX1_copyFrom 35 = .ok (.iastore, 1) := by decide +kernel
theorem dX1_copyFrom_36 : decode cX1_copyFrom 36 = .ok (.aload_n 0, 1) := by decide +kernel
theorem dX1_copyFrom_37 : decode cX1_copyFrom 37 = .ok (.getfield 15, 3) := by decide +kernel
theorem dX1_copyFrom_40 : decode cX1_copyFrom 40 = .ok (.iload_n 2, 1) := by decide +kernel
theorem dX1_copyFrom_41 : decode cX1_copyFrom 41 = .ok (.aload_n 1, 1) := by decide +kernel
theorem dX1_copyFrom_42 : decode cX1_copyFrom 42 = .ok (.getfield 15, 3) := by decide +kernel
theorem dX1_copyFrom_45 : decode cX1_copyFrom 45 = .ok (.iload_n 2, 1) := by decide +kernel
theorem dX1_copyFrom_46 : decode cX1_copyFrom 46 = .ok (.iaload, 1) := by decide +kernel
theorem dX1_copyFrom_47 : decode cX1_copyFrom 47 = .ok (.iastore, 1) := by decide +kernel
theorem dX1_copyFrom_48 : decode cX1_copyFrom 48 = .ok (.aload_n 0, 1) := by decide +kernel
theorem dX1_copyFrom_49 : decode cX1_copyFrom 49 = .ok (.getfield 18, 3) := by decide +kernel
theorem dX1_copyFrom_52 : decode cX1_copyFrom 52 = .ok (.iload_n 2, 1) := by decide +kernel
theorem dX1_copyFrom_53 : decode cX1_copyFrom 53 = .ok (.aload_n 1, 1) := by decide +kernel
theorem dX1_copyFrom_54 : decode cX1_copyFrom 54 = .ok (.getfield 18, 3) := by decide +kernel
theorem dX1_copyFrom_57 : decode cX1_copyFrom 57 = .ok (.iload_n 2, 1) := by decide +kernel
theorem dX1_copyFrom_58 : decode cX1_copyFrom 58 = .ok (.baload, 1) := by decide +kernel
theorem dX1_copyFrom_59 : decode cX1_copyFrom 59 = .ok (.bastore, 1) := by decide +kernel
theorem dX1_copyFrom_60 : decode cX1_copyFrom 60 = .ok (.iinc 2 1, 3) := by decide +kernel
theorem dX1_copyFrom_63 : decode cX1_copyFrom 63 = .ok (.goto (-53), 3) := by decide +kernel
theorem dX1_copyFrom_66 : decode cX1_copyFrom 66 = .ok (.return_, 1) := by decide +kernel
theorem dX1_isFull_0 : decode cX1_isFull 0 = .ok (.aload_n 0, 1) := by decide +kernel
theorem dX1_isFull_1 : decode cX1_isFull 1 = .ok (.getfield 22, 3) := by decide +kernel
theorem dX1_isFull_4 : decode cX1_isFull 4 = .ok (.bipush 6, 2) := by decide +kernel
theorem dX1_isFull_6 : decode cX1_isFull 6 = .ok (.if_icmp .lt 7, 3) := by decide +kernel
theorem dX1_isFull_9 : decode cX1_isFull 9 = .ok (.iconst 1, 1) := by decide +kernel
theorem dX1_isFull_10 : decode cX1_isFull 10 = .ok (.goto 4, 3) := by decide +kernel
theorem dX1_isFull_13 : decode cX1_isFull 13 = .ok (.iconst 0, 1) := by decide +kernel
theorem dX1_isFull_14 : decode cX1_isFull 14 = .ok (.ireturn, 1) := by decide +kernel
theorem dX1_add_0 : decode cX1_add 0 = .ok (.aload_n 0, 1) := by decide +kernel
theorem dX1_add_1 : decode cX1_add 1 = .ok (.getfield 22, 3) := by decide +kernel
theorem dX1_add_4 : decode cX1_add 4 = .ok (.ifCond .lt 12, 3) := by decide +kernel
theorem dX1_add_7 : decode cX1_add 7 = .ok (.aload_n 0, 1) := by decide +kernel
theorem dX1_add_8 : decode cX1_add 8 = .ok (.getfield 22, 3) := by decide +kernel
theorem dX1_add_11 : decode cX1_add 11 = .ok (.bipush 6, 2) := by decide +kernel
theorem dX1_add_13 : decode cX1_add 13 = .ok (.if_icmp .lt 4, 3) := by decide +kernel
theorem dX1_add_16 : decode cX1_add 16 = .ok (.return_, 1) := by decide +kernel
theorem dX1_add_17 : decode cX1_add 17 = .ok (.aload_n 0, 1) := by decide +kernel
theorem dX1_add_18 : decode cX1_add 18 = .ok (.getfield 9, 3) := by decide +kernel
theorem dX1_add_21 : decode cX1_add 21 = .ok (.aload_n 0, 1) := by decide +kernel
theorem dX1_add_22 : decode cX1_add 22 = .ok (.getfield 22, 3) := by decide +kernel
theorem dX1_add_25 : decode cX1_add 25 = .ok (.iload_n 1, 1) := by decide +kernel
theorem dX1_add_26 : decode cX1_add 26 = .ok (.iastore, 1) := by decide +kernel
theorem dX1_add_27 : decode cX1_add 27 = .ok (.aload_n 0, 1) := by decide +kernel
theorem dX1_add_28 : decode cX1_add 28 = .ok (.getfield 15, 3) := by decide +kernel
theorem dX1_add_31 : decode cX1_add 31 = .ok (.aload_n 0, 1) := by decide +kernel
theorem dX1_add_32 : decode cX1_add 32 = .ok (.getfield 22, 3) := by decide +kernel
theorem dX1_add_35 : decode cX1_add 35 = .ok (.iload_n 2, 1) := by decide +kernel
theorem dX1_add_36 : decode cX1_add 36 = .ok (.iastore, 1) := by decide +kernel
theorem dX1_add_37 : decode cX1_add 37 = .ok (.aload_n 0, 1) := by decide +kernel
theorem dX1_add_38 : decode cX1_add 38 = .ok (.getfield 18, 3) := by decide +kernel
theorem dX1_add_41 : decode cX1_add 41 = .ok (.aload_n 0, 1) := by decide +kernel
theorem dX1_add_42 : decode cX1_add 42 = .ok (.getfield 22, 3) := by decide +kernel
theorem dX1_add_45 : decode cX1_add 45 = .ok (.iload_n 3, 1) := by decide +kernel
theorem dX1_add_46 : decode cX1_add 46 = .ok (.bastore, 1) := by decide +kernel
theorem dX1_add_47 : decode cX1_add 47 = .ok (.aload_n 0, 1) := by decide +kernel
theorem dX1_add_48 : decode cX1_add 48 = .ok (.dup, 1) := by decide +kernel
theorem dX1_add_49 : decode cX1_add 49 = .ok (.getfield 22, 3) := by decide +kernel
theorem dX1_add_52 : decode cX1_add 52 = .ok (.iconst 1, 1) := by decide +kernel
theorem dX1_add_53 : decode cX1_add 53 = .ok (.iadd, 1) := by decide +kernel
theorem dX1_add_54 : decode cX1_add 54 = .ok (.putfield 22, 3) := by decide +kernel
theorem dX1_add_57 : decode cX1_add 57 = .ok (.return_, 1) := by decide +kernel
theorem dX1_allWords_0 : decode cX1_allWords 0 = .ok (.iconst 0, 1) := by decide +kernel
theorem dX1_allWords_1 : decode cX1_allWords 1 = .ok (.istore_n 1, 1) := by decide +kernel
theorem dX1_allWords_2 : decode cX1_allWords 2 = .ok (.iconst 0, 1) := by decide +kernel
theorem dX1_allWords_3 : decode cX1_allWords 3 = .ok (.istore_n 2, 1) := by decide +kernel
theorem dX1_allWords_4 : decode cX1_allWords 4 = .ok (.iload_n 2, 1) := by decide +kernel
theorem dX1_allWords_5 : decode cX1_allWords 5 = .ok (.aload_n 0, 1) := by decide +kernel
theorem dX1_allWords_6 : decode cX1_allWords 6 = .ok (.getfield 22, 3) := by decide +kernel
theorem dX1_allWords_9 : decode cX1_allWords 9 = .ok (.if_icmp .ge 24, 3) := by decide +kernel
theorem dX1_allWords_12 : decode cX1_allWords 12 = .ok (.iload_n 2, 1) := by decide +kernel
theorem dX1_allWords_13 : decode cX1_allWords 13 = .ok (.bipush 6, 2) := by decide +kernel
theorem dX1_allWords_15 : decode cX1_allWords 15 = .ok (.if_icmp .ge 18, 3) := by decide +kernel
theorem dX1_allWords_18 : decode cX1_allWords 18 = .ok (.iload_n 1, 1) := by decide +kernel
theorem dX1_allWords_19 : decode cX1_allWords 19 = .ok (.aload_n 0, 1) := by decide +kernel
theorem dX1_allWords_20 : decode cX1_allWords 20 = .ok (.getfield 15, 3) := by decide +kernel
theorem dX1_allWords_23 : decode cX1_allWords 23 = .ok (.iload_n 2, 1) := by decide +kernel
theorem dX1_allWords_24 : decode cX1_allWords 24 = .ok (.iaload, 1) := by decide +kernel
theorem dX1_allWords_25 : decode cX1_allWords 25 = .ok (.iadd, 1) := by decide +kernel
theorem dX1_allWords_26 : decode cX1_allWords 26 = .ok (.istore_n 1, 1) := by decide +kernel
theorem dX1_allWords_27 : decode cX1_allWords 27 = .ok (.iinc 2 1, 3) := by decide +kernel
theorem dX1_allWords_30 : decode cX1_allWords 30 = .ok (.goto (-26), 3) := by decide +kernel
theorem dX1_allWords_33 : decode cX1_allWords 33 = .ok (.iload_n 1, 1) := by decide +kernel
theorem dX1_allWords_34 : decode cX1_allWords 34 = .ok (.ireturn, 1) := by decide +kernel
theorem dX1_removeFirst_0 : decode cX1_removeFirst 0 = .ok (.iconst 1, 1) := by decide +kernel
theorem dX1_removeFirst_1 : decode cX1_removeFirst 1 = .ok (.istore_n 1, 1) := by decide +kernel
theorem dX1_removeFirst_2 : decode cX1_removeFirst 2 = .ok (.iload_n 1, 1) := by decide +kernel
theorem dX1_removeFirst_3 : decode cX1_removeFirst 3 = .ok (.aload_n 0, 1) := by decide +kernel
theorem dX1_removeFirst_4 : decode cX1_removeFirst 4 = .ok (.getfield 22, 3) := by decide +kernel
theorem dX1_removeFirst_7 : decode cX1_removeFirst 7 = .ok (.if_icmp .ge 57, 3) := by decide +kernel
theorem dX1_removeFirst_10 : decode cX1_removeFirst 10 = .ok (.iload_n 1, 1) := by decide +kernel
theorem dX1_removeFirst_11 : decode cX1_removeFirst 11 = .ok (.bipush 6, 2) := by decide +kernel
theorem dX1_removeFirst_13 : decode cX1_removeFirst 13 = .ok (.if_icmp .ge 51, 3) := by decide +kernel
theorem dX1_removeFirst_16 : decode cX1_removeFirst 16 = .ok (.aload_n 0, 1) := by decide +kernel
theorem dX1_removeFirst_17 : decode cX1_removeFirst 17 = .ok (.getfield 9, 3) := by decide +kernel
theorem dX1_removeFirst_20 : decode cX1_removeFirst 20 = .ok (.iload_n 1, 1) := by decide +kernel
theorem dX1_removeFirst_21 : decode cX1_removeFirst 21 = .ok (.iconst 1, 1) := by decide +kernel
theorem dX1_removeFirst_22 : decode cX1_removeFirst 22 = .ok (.isub, 1) := by decide +kernel
theorem dX1_removeFirst_23 : decode cX1_removeFirst 23 = .ok (.aload_n 0, 1) := by decide +kernel
theorem dX1_removeFirst_24 : decode cX1_removeFirst 24 = .ok (.getfield 9, 3) := by decide +kernel
theorem dX1_removeFirst_27 : decode cX1_removeFirst 27 = .ok (.iload_n 1, 1) := by decide +kernel
theorem dX1_removeFirst_28 : decode cX1_removeFirst 28 = .ok (.iaload, 1) := by decide +kernel
theorem dX1_removeFirst_29 : decode cX1_removeFirst 29 = .ok (.iastore, 1) := by decide +kernel
theorem dX1_removeFirst_30 : decode cX1_removeFirst 30 = .ok (.aload_n 0, 1) := by decide +kernel
theorem dX1_removeFirst_31 : decode cX1_removeFirst 31 = .ok (.getfield 15, 3) := by decide +kernel
theorem dX1_removeFirst_34 : decode cX1_removeFirst 34 = .ok (.iload_n 1, 1) := by decide +kernel
theorem dX1_removeFirst_35 : decode cX1_removeFirst 35 = .ok (.iconst 1, 1) := by decide +kernel
theorem dX1_removeFirst_36 : decode cX1_removeFirst 36 = .ok (.isub, 1) := by decide +kernel
theorem dX1_removeFirst_37 : decode cX1_removeFirst 37 = .ok (.aload_n 0, 1) := by decide +kernel
theorem dX1_removeFirst_38 : decode cX1_removeFirst 38 = .ok (.getfield 15, 3) := by decide +kernel
theorem dX1_removeFirst_41 : decode cX1_removeFirst 41 = .ok (.iload_n 1, 1) := by decide +kernel
theorem dX1_removeFirst_42 : decode cX1_removeFirst 42 = .ok (.iaload, 1) := by decide +kernel
theorem dX1_removeFirst_43 : decode cX1_removeFirst 43 = .ok (.iastore, 1) := by decide +kernel
theorem dX1_removeFirst_44 : decode cX1_removeFirst 44 = .ok (.aload_n 0, 1) := by decide +kernel
theorem dX1_removeFirst_45 : decode cX1_removeFirst 45 = .ok (.getfield 18, 3) := by decide +kernel
theorem dX1_removeFirst_48 : decode cX1_removeFirst 48 = .ok (.iload_n 1, 1) := by decide +kernel
theorem dX1_removeFirst_49 : decode cX1_removeFirst 49 = .ok (.iconst 1, 1) := by decide +kernel
theorem dX1_removeFirst_50 : decode cX1_removeFirst 50 = .ok (.isub, 1) := by decide +kernel
theorem dX1_removeFirst_51 : decode cX1_removeFirst 51 = .ok (.aload_n 0, 1) := by decide +kernel
theorem dX1_removeFirst_52 : decode cX1_removeFirst 52 = .ok (.getfield 18, 3) := by decide +kernel
theorem dX1_removeFirst_55 : decode cX1_removeFirst 55 = .ok (.iload_n 1, 1) := by decide +kernel
theorem dX1_removeFirst_56 : decode cX1_removeFirst 56 = .ok (.baload, 1) := by decide +kernel
theorem dX1_removeFirst_57 : decode cX1_removeFirst 57 = .ok (.bastore, 1) := by decide +kernel
theorem dX1_removeFirst_58 : decode cX1_removeFirst 58 = .ok (.iinc 1 1, 3) := by decide +kernel
theorem dX1_removeFirst_61 : decode cX1_removeFirst 61 = .ok (.goto (-59), 3) := by decide +kernel
theorem dX1_removeFirst_64 : decode cX1_removeFirst 64 = .ok (.aload_n 0, 1) := by decide +kernel
theorem dX1_removeFirst_65 : decode cX1_removeFirst 65 = .ok (.dup, 1) := by decide +kernel
theorem dX1_removeFirst_66 : decode cX1_removeFirst 66 = .ok (.getfield 22, 3) := by decide +kernel
theorem dX1_removeFirst_69 : decode cX1_removeFirst 69 = .ok (.iconst 1, 1) := by decide +kernel
theorem dX1_removeFirst_70 : decode cX1_removeFirst 70 = .ok (.isub, 1) := by decide +kernel
theorem dX1_removeFirst_71 : decode cX1_removeFirst 71 = .ok (.putfield 22, 3) := by decide +kernel
theorem dX1_removeFirst_74 : decode cX1_removeFirst 74 = .ok (.return_, 1) := by decide +kernel
theorem dX3_init_0 : decode cX3_init 0 = .ok (.aload_n 0, 1) := by decide +kernel
theorem dX3_init_1 : decode cX3_init 1 = .ok (.invokespecial 3, 3) := by decide +kernel
theorem dX3_init_4 : decode cX3_init 4 = .ok (.aload_n 0, 1) := by decide +kernel
theorem dX3_init_5 : decode cX3_init 5 = .ok (.bipush 120, 2) := by decide +kernel
theorem dX3_init_7 : decode cX3_init 7 = .ok (.newarray .char, 2) := by decide +kernel
theorem dX3_init_9 : decode cX3_init 9 = .ok (.putfield 9, 3) := by decide +kernel
theorem dX3_init_12 : decode cX3_init 12 = .ok (.return_, 1) := by decide +kernel
theorem dX3_readInto_0 : decode cX3_readInto 0 = .ok (.aload_n 0, 1) := by decide +kernel
theorem dX3_readInto_1 : decode cX3_readInto 1 = .ok (.iconst 0, 1) := by decide +kernel
theorem dX3_readInto_2 : decode cX3_readInto 2 = .ok (.putfield 19, 3) := by decide +kernel
theorem dX3_readInto_5 : decode cX3_readInto 5 = .ok (.aload_n 0, 1) := by decide +kernel
theorem dX3_readInto_6 : decode cX3_readInto 6 = .ok (.iconst 0, 1) := by decide +kernel
theorem dX3_readInto_7 : decode cX3_readInto 7 = .ok (.putfield 22, 3) := by decide +kernel
theorem dX3_readInto_10 : decode cX3_readInto 10 = .ok (.aload_n 0, 1) := by decide +kernel
theorem dX3_readInto_11 : decode cX3_readInto 11 = .ok (.bipush 85, 2) := by decide +kernel
theorem dX3_readInto_13 : decode cX3_readInto 13 = .ok (.bipush 85, 2) := by decide +kernel
theorem dX3_readInto_15 : decode cX3_readInto 15 = .ok (.invokevirtual 26, 3) := by decide +kernel
theorem dX3_readInto_18 : decode cX3_readInto 18 = .ok (.pop, 1) := by decide +kernel
theorem dX3_readInto_19 : decode cX3_readInto 19 = .ok (.aload_n 0, 1) := by decide +kernel
theorem dX3_readInto_20 : decode cX3_readInto 20 = .ok (.iconst 2, 1) := by decide +kernel
theorem dX3_readInto_21 : decode cX3_readInto 21 = .ok (.bipush 6, 2) := by decide +kernel
theorem dX3_readInto_23 : decode cX3_readInto 23 = .ok (.invokevirtual 30, 3) := by decide +kernel
theorem dX3_readInto_26 : decode cX3_readInto 26 = .ok (.istore_n 2, 1) := by decide +kernel
theorem dX3_readInto_27 : decode cX3_readInto 27 = .ok (.aload_n 0, 1) := by decide +kernel
theorem dX3_readInto_28 : decode cX3_readInto 28 = .ok (.iconst 2, 1) := by decide +kernel
theorem dX3_readInto_29 : decode cX3_readInto 29 = .ok (.bipush 16, 2) := by decide +kernel
theorem dX3_readInto_31 : decode cX3_readInto 31 = .ok (.invokevirtual 34, 3) := by decide +kernel
theorem dX3_readInto_34 : decode cX3_readInto 34 = .ok (.istore_n 3, 1) := by decide +kernel
theorem dX3_readInto_35 : decode cX3_readInto 35 = .ok (.aload_n 0, 1) := by decide +kernel
theorem dX3_readInto_36 : decode cX3_readInto 36 = .ok (.getfield 22, 3) := by decide +kernel
theorem dX3_readInto_39 : decode cX3_readInto 39 = .ok (.ifCond .ne 9, 3) := by decide +kernel
theorem dX3_readInto_42 : decode cX3_readInto 42 = .ok (.aload_n 1, 1) := by decide +kernel
theorem dX3_readInto_43 : decode cX3_readInto 43 = .ok (.iload_n 2, 1) := by decide +kernel
theorem dX3_readInto_44 : decode cX3_readInto 44 = .ok (.iload_n 3, 1) := by decide +kernel
theorem dX3_readInto_45 : decode cX3_readInto 45 = .ok (.invokevirtual 37, 3) := by decide +kernel
theorem dX3_readInto_48 : decode cX3_readInto 48 = .ok (.iconst 0, 1) := by decide +kernel
theorem dX3_readInto_49 : decode cX3_readInto 49 = .ok (.istore 4, 2) := by decide +kernel
theorem dX3_readInto_51 : decode cX3_readInto 51 = .ok (.iload 4, 2) := by decide +kernel
theorem dX3_readInto_53 : decode cX3_readInto 53 = .ok (.bipush 120, 2) := by decide +kernel
theorem dX3_readInto_55 : decode cX3_readInto 55 = .ok (.if_icmp .ge 32, 3) := by decide +kernel
theorem dX3_readInto_58 : decode cX3_readInto 58 = .ok (.aload_n 0, 1) := by decide +kernel
theorem dX3_readInto_59 : decode cX3_readInto 59 = .ok (.getfield 22, 3) := by decide +kernel
theorem dX3_readInto_62 : decode cX3_readInto 62 = .ok (.ifCond .ne 25, 3) := by decide +kernel
theorem dX3_readInto_65 : decode cX3_readInto 65 = .ok (.aload_n 0, 1) := by decide +kernel
theorem dX3_readInto_66 : decode cX3_readInto 66 = .ok (.getfield 19, 3) := by decide +kernel
theorem dX3_readInto_69 : decode cX3_readInto 69 = .ok (.aload_n 0, 1) := by decide +kernel
theorem dX3_readInto_70 : decode cX3_readInto 70 = .ok (.getfield 15, 3) := by decide +kernel
theorem dX3_readInto_73 : decode cX3_readInto 73 = .ok (.if_icmp .ge 14, 3) := by decide +kernel
theorem dX3_readInto_76 : decode cX3_readInto 76 = .ok (.aload_n 0, 1) := by decide +kernel
theorem dX3_readInto_77 : decode cX3_readInto 77 = .ok (.aload_n 1, 1) := by decide +kernel
theorem dX3_readInto_78 : decode cX3_readInto 78 = .ok (.invokevirtual 43, 3) := by decide +kernel
theorem dX3_readInto_81 : decode cX3_readInto 81 = .ok (.iinc 4 1, 3) := by decide +kernel
theorem dX3_readInto_84 : decode cX3_readInto 84 = .ok (.goto (-33), 3) := by decide +kernel
theorem dX3_readInto_87 : decode cX3_readInto 87 = .ok (.aload_n 0, 1) := by decide +kernel
theorem dX3_readInto_88 : decode cX3_readInto 88 = .ok (.getfield 22, 3) := by decide +kernel
theorem dX3_readInto_91 : decode cX3_readInto 91 = .ok (.ifCond .eq 10, 3) := by decide +kernel
theorem dX3_readInto_94 : decode cX3_readInto 94 = .ok (.aload_n 0, 1) := by decide +kernel
theorem dX3_readInto_95 : decode cX3_readInto 95 = .ok (.getfield 19, 3) := by decide +kernel
theorem dX3_readInto_98 : decode cX3_readInto 98 = .ok (.goto 5, 3) := by decide +kernel
theorem dX3_readInto_101 : decode cX3_readInto 101 = .ok (.bipush (-9), 2) := by decide +kernel
theorem dX3_readInto_103 : decode cX3_readInto 103 = .ok (.ireturn, 1) := by decide +kernel
theorem dX3_readPart_0 : decode cX3_readPart 0 = .ok (.aload_n 0, 1) := by decide +kernel
theorem dX3_readPart_1 : decode cX3_readPart 1 = .ok (.aload_n 0, 1) := by decide +kernel
theorem dX3_readPart_2 : decode cX3_readPart 2 = .ok (.getfield 19, 3) := by decide +kernel
theorem dX3_readPart_5 : decode cX3_readPart 5 = .ok (.invokevirtual 47, 3) := by decide +kernel
theorem dX3_readPart_8 : decode cX3_readPart 8 = .ok (.istore_n 2, 1) := by decide +kernel
theorem dX3_readPart_9 : decode cX3_readPart 9 = .ok (.aload_n 0, 1) := by decide +kernel
theorem dX3_readPart_10 : decode cX3_readPart 10 = .ok (.dup, 1) := by decide +kernel
theorem dX3_readPart_11 : decode cX3_readPart 11 = .ok (.getfield 19, 3) := by decide +kernel
theorem dX3_readPart_14 : decode cX3_readPart 14 = .ok (.iconst 1, 1) := by decide +kernel
theorem dX3_readPart_15 : decode cX3_readPart 15 = .ok (.iadd, 1) := by decide +kernel
theorem dX3_readPart_16 : decode cX3_readPart 16 = .ok (.putfield 19, 3) := by decide +kernel
theorem dX3_readPart_19 : decode cX3_readPart 19 = .ok (.iload_n 2, 1) := by decide +kernel
theorem dX3_readPart_20 : decode cX3_readPart 20 = .ok (.bipush 111, 2) := by decide +kernel
theorem dX3_readPart_22 : decode cX3_readPart 22 = .ok (.if_icmp .ne 11, 3) := by decide +kernel
theorem dX3_readPart_25 : decode cX3_readPart 25 = .ok (.aload_n 0, 1) := by decide +kernel
theorem dX3_readPart_26 : decode cX3_readPart 26 = .ok (.aload_n 1, 1) := by decide +kernel
theorem dX3_readPart_27 : decode cX3_readPart 27 = .ok (.invokevirtual 51, 3) := by decide +kernel
theorem dX3_readPart_30 : decode cX3_readPart 30 = .ok (.goto 49, 3) := by decide +kernel
theorem dX3_readPart_33 : decode cX3_readPart 33 = .ok (.iload_n 2, 1) := by decide +kernel
theorem dX3_readPart_34 : decode cX3_readPart 34 = .ok (.bipush 108, 2) := by decide +kernel
theorem dX3_readPart_36 : decode cX3_readPart 36 = .ok (.if_icmp .ne 11, 3) := by decide +kernel
theorem dX3_readPart_39 : decode cX3_readPart 39 = .ok (.aload_n 0, 1) := by decide +kernel
theorem dX3_readPart_40 : decode cX3_readPart 40 = .ok (.aload_n 1, 1) := by decide +kernel
theorem dX3_readPart_41 : decode cX3_readPart 41 = .ok (.invokevirtual 54, 3) := by decide +kernel
theorem dX3_readPart_44 : decode cX3_readPart 44 = .ok (.goto 35, 3) := by decide +kernel
theorem dX3_readPart_47 : decode cX3_readPart 47 = .ok (.iload_n 2, 1) := by decide +kernel
theorem dX3_readPart_48 : decode cX3_readPart 48 = .ok (.bipush 99, 2) := by decide +kernel
theorem dX3_readPart_50 : decode cX3_readPart 50 = .ok (.if_icmp .ne 11, 3) := by decide +kernel
theorem dX3_readPart_53 : decode cX3_readPart 53 = .ok (.aload_n 0, 1) := by decide +kernel
theorem dX3_readPart_54 : decode cX3_readPart 54 = .ok (.aload_n 1, 1) := by decide +kernel
theorem dX3_readPart_55 : decode cX3_readPart 55 = .ok (.invokevirtual 57, 3) := by decide +kernel
theorem dX3_readPart_58 : decode cX3_readPart 58 = .ok (.goto 21, 3) := by decide +kernel
theorem dX3_readPart_61 : decode cX3_readPart 61 = .ok (.iload_n 2, 1) := by decide +kernel
theorem dX3_readPart_62 : decode cX3_readPart 62 = .ok (.bipush 98, 2) := by decide +kernel
theorem dX3_readPart_64 : decode cX3_readPart 64 = .ok (.if_icmp .ne 11, 3) := by decide +kernel
theorem dX3_readPart_67 : decode cX3_readPart 67 = .ok (.aload_n 0, 1) := by decide +kernel
theorem dX3_readPart_68 : decode cX3_readPart 68 = .ok (.aload_n 1, 1) := by decide +kernel
theorem dX3_readPart_69 : decode cX3_readPart 69 = .ok (.invokevirtual 60, 3) := by decide +kernel
theorem dX3_readPart_72 : decode cX3_readPart 72 = .ok (.goto 7, 3) := by decide +kernel
theorem dX3_readPart_75 : decode cX3_readPart 75 = .ok (.aload_n 0, 1) := by decide +kernel
theorem dX3_readPart_76 : decode cX3_readPart 76 = .ok (.invokevirtual 63, 3) := by decide +kernel
theorem dX3_readPart_79 : decode cX3_readPart 79 = .ok (.return_, 1) := by decide +kernel
theorem dX3_readOwner_0 : decode cX3_readOwner 0 = .ok (.aload_n 0, 1) := by decide +kernel
theorem dX3_readOwner_1 : decode cX3_readOwner 1 = .ok (.iconst 0, 1) := by decide +kernel
theorem dX3_readOwner_2 : decode cX3_readOwner 2 = .ok (.aload_n 1, 1) := by decide +kernel
theorem dX3_readOwner_3 : decode cX3_readOwner 3 = .ok (.getfield 66, 3) := by decide +kernel
theorem dX3_readOwner_6 : decode cX3_readOwner 6 = .ok (.iconst 1, 1) := by decide +kernel
theorem dX3_readOwner_7 : decode cX3_readOwner 7 = .ok (.isub, 1) := by decide +kernel
theorem dX3_readOwner_8 : decode cX3_readOwner 8 = .ok (.invokevirtual 34, 3) := by decide +kernel
theorem dX3_readOwner_11 : decode cX3_readOwner 11 = .ok (.istore_n 2, 1) := by decide +kernel
theorem dX3_readOwner_12 : decode cX3_readOwner 12 = .ok (.aload_n 0, 1) := by decide +kernel
theorem dX3_readOwner_13 : decode cX3_readOwner 13 = .ok (.iconst 0, 1) := by decide +kernel
theorem dX3_readOwner_14 : decode cX3_readOwner 14 = .ok (.aload_n 1, 1) := by decide +kernel
theorem dX3_readOwner_15 : decode cX3_readOwner 15 = .ok (.getfield 69, 3) := by decide +kernel
theorem dX3_readOwner_18 : decode cX3_readOwner 18 = .ok (.iconst 1, 1) := by decide +kernel
theorem dX3_readOwner_19 : decode cX3_readOwner 19 = .ok (.isub, 1) := by decide +kernel
theorem dX3_readOwner_20 : decode cX3_readOwner 20 = .ok (.invokevirtual 30, 3) := by decide +kernel
theorem dX3_readOwner_23 : decode cX3_readOwner 23 = .ok (.istore_n 3, 1) := by decide +kernel
theorem dX3_readOwner_24 : decode cX3_readOwner 24 = .ok (.aload_n 0, 1) := by decide +kernel
theorem dX3_readOwner_25 : decode cX3_readOwner 25 = .ok (.getfield 22, 3) := by decide +kernel
theorem dX3_readOwner_28 : decode cX3_readOwner 28 = .ok (.ifCond .ne 18, 3) := by decide +kernel
theorem dX3_readOwner_31 : decode cX3_readOwner 31 = .ok (.aload_n 1, 1) := by decide +kernel
theorem dX3_readOwner_32 : decode cX3_readOwner 32 = .ok (.iload_n 2, 1) := by decide +kernel
theorem dX3_readOwner_33 : decode cX3_readOwner 33 = .ok (.invokevirtual 72, 3) := by decide +kernel
theorem dX3_readOwner_36 : decode cX3_readOwner 36 = .ok (.ifCond .eq 10, 3) := by decide +kernel
theorem dX3_readOwner_39 : decode cX3_readOwner 39 = .ok (.aload_n 1, 1) := by decide +kernel
theorem dX3_readOwner_40 : decode cX3_readOwner 40 = .ok (.getfield 76, 3) := by decide +kernel
theorem dX3_readOwner_43 : decode cX3_readOwner 43 = .ok (.iload_n 2, 1) := by decide +kernel
theorem dX3_readOwner_44 : decode cX3_readOwner 44 = .ok (.iload_n 3, 1) := by decide +kernel
theorem dX3_readOwner_45 : decode cX3_readOwner 45 = .ok (.iastore, 1) := by decide +kernel
theorem dX3_readOwner_46 : decode cX3_readOwner 46 = .ok (.return_, 1) := by decide +kernel
theorem dX3_readLatency_0 : decode cX3_readLatency 0 = .ok (.aload_n 0, 1) := by decide +kernel
theorem dX3_readLatency_1 : decode cX3_readLatency 1 = .ok (.iconst 0, 1) := by decide +kernel
theorem dX3_readLatency_2 : decode cX3_readLatency 2 = .ok (.iconst 3, 1) := by decide +kernel
theorem dX3_readLatency_3 : decode cX3_readLatency 3 = .ok (.invokevirtual 30, 3) := by decide +kernel
theorem dX3_readLatency_6 : decode cX3_readLatency 6 = .ok (.istore_n 2, 1) := by decide +kernel
theorem dX3_readLatency_7 : decode cX3_readLatency 7 = .ok (.aload_n 0, 1) := by decide +kernel
theorem dX3_readLatency_8 : decode cX3_readLatency 8 = .ok (.iconst 0, 1) := by decide +kernel
theorem dX3_readLatency_9 : decode cX3_readLatency 9 = .ok (.bipush 9, 2) := by decide +kernel
theorem dX3_readLatency_11 : decode cX3_readLatency 11 = .ok (.invokevirtual 30, 3) := by decide +kernel
theorem dX3_readLatency_14 : decode cX3_readLatency 14 = .ok (.istore_n 3, 1) := by decide +kernel
theorem dX3_readLatency_15 : decode cX3_readLatency 15 = .ok (.aload_n 0, 1) := by decide +kernel
theorem dX3_readLatency_16 : decode cX3_readLatency 16 = .ok (.getfield 22, 3) := by decide +kernel
theorem dX3_readLatency_19 : decode cX3_readLatency 19 = .ok (.ifCond .ne 19, 3) := by decide +kernel
theorem dX3_readLatency_22 : decode cX3_readLatency 22 = .ok (.iload_n 2, 1) := by decide +kernel
theorem dX3_readLatency_23 : decode cX3_readLatency 23 = .ok (.ifCond .lt 15, 3) := by decide +kernel
theorem dX3_readLatency_26 : decode cX3_readLatency 26 = .ok (.iload_n 2, 1) := by decide +kernel
theorem dX3_readLatency_27 : decode cX3_readLatency 27 = .ok (.iconst 4, 1) := by decide +kernel
theorem dX3_readLatency_28 : decode cX3_readLatency 28 = .ok (.if_icmp .ge 10, 3) := by decide +kernel
theorem dX3_readLatency_31 : decode cX3_readLatency 31 = .ok (.aload_n 1, 1) := by decide +kernel
theorem dX3_readLatency_32 : decode cX3_readLatency 32 = .ok (.getfield 80, 3) := by decide +kernel
theorem dX3_readLatency_35 : decode cX3_readLatency 35 = .ok (.iload_n 2, 1) := by decide +kernel
theorem dX3_readLatency_36 : decode cX3_readLatency 36 = .ok (.iload_n 3, 1) := by decide +kernel
theorem dX3_readLatency_37 : decode cX3_readLatency 37 = .ok (.iastore, 1) := by decide +kernel
theorem dX3_readLatency_38 : decode cX3_readLatency 38 = .ok (.return_, 1) := by decide +kernel
theorem dX3_readCredit_0 : decode cX3_readCredit 0 = .ok (.aload_n 0, 1) := by decide +kernel
theorem dX3_readCredit_1 : decode cX3_readCredit 1 = .ok (.iconst 0, 1) := by decide +kernel
theorem dX3_readCredit_2 : decode cX3_readCredit 2 = .ok (.bipush 9, 2) := by decide +kernel
theorem dX3_readCredit_4 : decode cX3_readCredit 4 = .ok (.invokevirtual 30, 3) := by decide +kernel
theorem dX3_readCredit_7 : decode cX3_readCredit 7 = .ok (.istore_n 2, 1) := by decide +kernel
theorem dX3_readCredit_8 : decode cX3_readCredit 8 = .ok (.aload_n 0, 1) := by decide +kernel
theorem dX3_readCredit_9 : decode cX3_readCredit 9 = .ok (.getfield 22, 3) := by decide +kernel
theorem dX3_readCredit_12 : decode cX3_readCredit 12 = .ok (.ifCond .ne 8, 3) := by decide +kernel
theorem dX3_readCredit_15 : decode cX3_readCredit 15 = .ok (.aload_n 1, 1) := by decide +kernel
theorem dX3_readCredit_16 : decode cX3_readCredit 16 = .ok (.iload_n 2, 1) := by decide +kernel
theorem dX3_readCredit_17 : decode cX3_readCredit 17 = .ok (.putfield 83, 3) := by decide +kernel
theorem dX3_readCredit_20 : decode cX3_readCredit 20 = .ok (.return_, 1) := by decide +kernel
theorem dX3_readBurst_0 : decode cX3_readBurst 0 = .ok (.aload_n 0, 1) := by decide +kernel
theorem dX3_readBurst_1 : decode cX3_readBurst 1 = .ok (.iconst 0, 1) := by decide +kernel
theorem dX3_readBurst_2 : decode cX3_readBurst 2 = .ok (.aload_n 1, 1) := by decide +kernel
theorem dX3_readBurst_3 : decode cX3_readBurst 3 = .ok (.getfield 69, 3) := by decide +kernel
theorem dX3_readBurst_6 : decode cX3_readBurst 6 = .ok (.iconst 1, 1) := by decide +kernel
theorem dX3_readBurst_7 : decode cX3_readBurst 7 = .ok (.isub, 1) := by decide +kernel
theorem dX3_readBurst_8 : decode cX3_readBurst 8 = .ok (.invokevirtual 30, 3) := by decide +kernel
theorem dX3_readBurst_11 : decode cX3_readBurst 11 = .ok (.istore_n 2, 1) := by decide +kernel
theorem dX3_readBurst_12 : decode cX3_readBurst 12 = .ok (.aload_n 0, 1) := by decide +kernel
theorem dX3_readBurst_13 : decode cX3_readBurst 13 = .ok (.getfield 22, 3) := by decide +kernel
theorem dX3_readBurst_16 : decode cX3_readBurst 16 = .ok (.ifCond .ne 11, 3) := by decide +kernel
theorem dX3_readBurst_19 : decode cX3_readBurst 19 = .ok (.aload_n 1, 1) := by decide +kernel
theorem dX3_readBurst_20 : decode cX3_readBurst 20 = .ok (.iload_n 2, 1) := by decide +kernel
theorem dX3_readBurst_21 : decode cX3_readBurst 21 = .ok (.invokevirtual 86, 3) := by decide +kernel
theorem dX3_readBurst_24 : decode cX3_readBurst 24 = .ok (.ifCond .ne 4, 3) := by decide +kernel
theorem dX3_readBurst_27 : decode cX3_readBurst 27 = .ok (.return_, 1) := by decide +kernel
theorem dX3_readBurst_28 : decode cX3_readBurst 28 = .ok (.aload_n 1, 1) := by decide +kernel
theorem dX3_readBurst_29 : decode cX3_readBurst 29 = .ok (.getfield 89, 3) := by decide +kernel
theorem dX3_readBurst_32 : decode cX3_readBurst 32 = .ok (.iload_n 2, 1) := by decide +kernel
theorem dX3_readBurst_33 : decode cX3_readBurst 33 = .ok (.aaload, 1) := by decide +kernel
theorem dX3_readBurst_34 : decode cX3_readBurst 34 = .ok (.getfield 93, 3) := by decide +kernel
theorem dX3_readBurst_37 : decode cX3_readBurst 37 = .ok (.astore_n 3, 1) := by decide +kernel
theorem dX3_readBurst_38 : decode cX3_readBurst 38 = .ok (.aload_n 3, 1) := by decide +kernel
theorem dX3_readBurst_39 : decode cX3_readBurst 39 = .ok (.invokevirtual 99, 3) := by decide +kernel
theorem dX3_readBurst_42 : decode cX3_readBurst 42 = .ok (.ifCond .eq 7, 3) := by decide +kernel
theorem dX3_readBurst_45 : decode cX3_readBurst 45 = .ok (.aload_n 0, 1) := by decide +kernel
theorem dX3_readBurst_46 : decode cX3_readBurst 46 = .ok (.invokevirtual 63, 3) := by decide +kernel
theorem dX3_readBurst_49 : decode cX3_readBurst 49 = .ok (.aload_n 0, 1) := by decide +kernel
theorem dX3_readBurst_50 : decode cX3_readBurst 50 = .ok (.iconst 0, 1) := by decide +kernel
theorem dX3_readBurst_51 : decode cX3_readBurst 51 = .ok (.iconst 3, 1) := by decide +kernel
theorem dX3_readBurst_52 : decode cX3_readBurst 52 = .ok (.invokevirtual 30, 3) := by decide +kernel
theorem dX3_readBurst_55 : decode cX3_readBurst 55 = .ok (.istore 4, 2) := by decide +kernel
theorem dX3_readBurst_57 : decode cX3_readBurst 57 = .ok (.aload_n 0, 1) := by decide +kernel
theorem dX3_readBurst_58 : decode cX3_readBurst 58 = .ok (.iconst 1, 1) := by decide +kernel
theorem dX3_readBurst_59 : decode cX3_readBurst 59 = .ok (.bipush 8, 2) := by decide +kernel
theorem dX3_readBurst_61 : decode cX3_readBurst 61 = .ok (.invokevirtual 30, 3) := by decide +kernel
theorem dX3_readBurst_64 : decode cX3_readBurst 64 = .ok (.istore 5, 2) := by decide +kernel
theorem dX3_readBurst_66 : decode cX3_readBurst 66 = .ok (.aload_n 0, 1) := by decide +kernel
theorem dX3_readBurst_67 : decode cX3_readBurst 67 = .ok (.bipush 43, 2) := by decide +kernel
theorem dX3_readBurst_69 : decode cX3_readBurst 69 = .ok (.bipush 45, 2) := by decide +kernel
theorem dX3_readBurst_71 : decode cX3_readBurst 71 = .ok (.invokevirtual 26, 3) := by decide +kernel
theorem dX3_readBurst_74 : decode cX3_readBurst 74 = .ok (.istore 6, 2) := by decide +kernel
theorem dX3_readBurst_76 : decode cX3_readBurst 76 = .ok (.aload_n 0, 1) := by decide +kernel
theorem dX3_readBurst_77 : decode cX3_readBurst 77 = .ok (.getfield 22, 3) := by decide +kernel
theorem dX3_readBurst_80 : decode cX3_readBurst 80 = .ok (.ifCond .ne 23, 3) := by decide +kernel
theorem dX3_readBurst_83 : decode cX3_readBurst 83 = .ok (.aload_n 3, 1) := by decide +kernel
theorem dX3_readBurst_84 : decode cX3_readBurst 84 = .ok (.iload 4, 2) := by decide +kernel
theorem dX3_readBurst_86 : decode cX3_readBurst 86 = .ok (.iload 5, 2) := by decide +kernel
theorem dX3_readBurst_88 : decode cX3_readBurst 88 = .ok (.iload 6, 2) := by decide +kernel
theorem dX3_readBurst_90 : decode cX3_readBurst 90 = .ok (.bipush 43, 2) := by decide +kernel
theorem dX3_readBurst_92 : decode cX3_readBurst 92 = .ok (.if_icmp .ne 7, 3) := by decide +kernel
theorem dX3_readBurst_95 : decode cX3_readBurst 95 = .ok (.iconst 1, 1) := by decide +kernel
theorem dX3_readBurst_96 : decode cX3_readBurst 96 = .ok (.goto 4, 3) := by decide +kernel
theorem dX3_readBurst_99 : decode cX3_readBurst 99 = .ok (.iconst 0, 1) := by decide +kernel
theorem dX3_readBurst_100 : decode cX3_readBurst 100 = .ok (.invokevirtual 105, 3) := by decide +kernel
theorem dX3_readBurst_103 : decode cX3_readBurst 103 = .ok (.return_, 1) := by decide +kernel
theorem dX3_signAt_0 : decode cX3_signAt 0 = .ok (.iload_n 1, 1) := by decide +kernel
theorem dX3_signAt_1 : decode cX3_signAt 1 = .ok (.ifCond .lt 26, 3) := by decide +kernel
theorem dX3_signAt_4 : decode cX3_signAt 4 = .ok (.iload_n 1, 1) := by decide +kernel
theorem dX3_signAt_5 : decode cX3_signAt 5 = .ok (.aload_n 0, 1) := by decide +kernel
theorem dX3_signAt_6 : decode cX3_signAt 6 = .ok (.getfield 15, 3) := by decide +kernel
theorem dX3_signAt_9 : decode cX3_signAt 9 = .ok (.if_icmp .ge 18, 3) := by decide +kernel
theorem dX3_signAt_12 : decode cX3_signAt 12 = .ok (.iload_n 1, 1) := by decide +kernel
theorem dX3_signAt_13 : decode cX3_signAt 13 = .ok (.bipush 120, 2) := by decide +kernel
theorem dX3_signAt_15 : decode cX3_signAt 15 = .ok (.if_icmp .ge 12, 3) := by decide +kernel
theorem dX3_signAt_18 : decode cX3_signAt 18 = .ok (.aload_n 0, 1) := by decide +kernel
theorem dX3_signAt_19 : decode cX3_signAt 19 = .ok (.getfield 9, 3) := by decide +kernel
theorem dX3_signAt_22 : decode cX3_signAt 22 = .ok (.iload_n 1, 1) := by decide +kernel
theorem dX3_signAt_23 : decode cX3_signAt 23 = .ok (.caload, 1) := by decide +kernel
theorem dX3_signAt_24 : decode cX3_signAt 24 = .ok (.goto 4, 3) := by decide +kernel
theorem dX3_signAt_27 : decode cX3_signAt 27 = .ok (.iconst 0, 1) := by decide +kernel
theorem dX3_signAt_28 : decode cX3_signAt 28 = .ok (.ireturn, 1) := by decide +kernel
theorem dX3_refuseLast_0 : decode cX3_refuseLast 0 = .ok (.aload_n 0, 1) := by decide +kernel
theorem dX3_refuseLast_1 : decode cX3_refuseLast 1 = .ok (.dup, 1) := by decide +kernel
theorem dX3_refuseLast_2 : decode cX3_refuseLast 2 = .ok (.getfield 19, 3) := by decide +kernel
theorem dX3_refuseLast_5 : decode cX3_refuseLast 5 = .ok (.iconst 1, 1) := by decide +kernel
theorem dX3_refuseLast_6 : decode cX3_refuseLast 6 = .ok (.isub, 1) := by decide +kernel
theorem dX3_refuseLast_7 : decode cX3_refuseLast 7 = .ok (.putfield 19, 3) := by decide +kernel
theorem dX3_refuseLast_10 : decode cX3_refuseLast 10 = .ok (.aload_n 0, 1) := by decide +kernel
theorem dX3_refuseLast_11 : decode cX3_refuseLast 11 = .ok (.iconst 1, 1) := by decide +kernel
theorem dX3_refuseLast_12 : decode cX3_refuseLast 12 = .ok (.putfield 22, 3) := by decide +kernel
theorem dX3_refuseLast_15 : decode cX3_refuseLast 15 = .ok (.return_, 1) := by decide +kernel
theorem dX3_readOneOf_0 : decode cX3_readOneOf 0 = .ok (.aload_n 0, 1) := by decide +kernel
theorem dX3_readOneOf_1 : decode cX3_readOneOf 1 = .ok (.aload_n 0, 1) := by decide +kernel
theorem dX3_readOneOf_2 : decode cX3_readOneOf 2 = .ok (.getfield 19, 3) := by decide +kernel
theorem dX3_readOneOf_5 : decode cX3_readOneOf 5 = .ok (.invokevirtual 47, 3) := by decide +kernel
theorem dX3_readOneOf_8 : decode cX3_readOneOf 8 = .ok (.istore_n 3, 1) := by decide +kernel
theorem dX3_readOneOf_9 : decode cX3_readOneOf 9 = .ok (.aload_n 0, 1) := by decide +kernel
theorem dX3_readOneOf_10 : decode cX3_readOneOf 10 = .ok (.getfield 22, 3) := by decide +kernel
theorem dX3_readOneOf_13 : decode cX3_readOneOf 13 = .ok (.ifCond .ne 37, 3) := by decide +kernel
theorem dX3_readOneOf_16 : decode cX3_readOneOf 16 = .ok (.aload_n 0, 1) := by decide +kernel
theorem dX3_readOneOf_17 : decode cX3_readOneOf 17 = .ok (.getfield 19, 3) := by decide +kernel
theorem dX3_readOneOf_20 : decode cX3_readOneOf 20 = .ok (.aload_n 0, 1) := by decide +kernel
theorem dX3_readOneOf_21 : decode cX3_readOneOf 21 = .ok (.getfield 15, 3) := by decide +kernel
theorem dX3_readOneOf_24 : decode cX3_readOneOf 24 = .ok (.if_icmp .ge 26, 3) := by decide +kernel
theorem dX3_readOneOf_27 : decode cX3_readOneOf 27 = .ok (.iload_n 3, 1) := by decide +kernel
theorem dX3_readOneOf_28 : decode cX3_readOneOf 28 = .ok (.iload_n 1, 1) := by decide +kernel
theorem dX3_readOneOf_29 : decode cX3_readOneOf 29 = .ok (.if_icmp .eq 8, 3) := by decide +kernel
theorem dX3_readOneOf_32 : decode cX3_readOneOf 32 = .ok (.iload_n 3, 1) := by decide +kernel
theorem dX3_readOneOf_33 : decode cX3_readOneOf 33 = .ok (.iload_n 2, 1) := by decide +kernel
theorem dX3_readOneOf_34 : decode cX3_readOneOf 34 = .ok (.if_icmp .ne 16, 3) := by decide +kernel
theorem dX3_readOneOf_37 : decode cX3_readOneOf 37 = .ok (.aload_n 0, 1) := by decide +kernel
theorem dX3_readOneOf_38 : decode cX3_readOneOf 38 = .ok (.dup, 1) := by decide +kernel
theorem dX3_readOneOf_39 : decode cX3_readOneOf 39 = .ok (.getfield 19, 3) := by decide +kernel
theorem dX3_readOneOf_42 : decode cX3_readOneOf 42 = .ok (.iconst 1, 1) := by decide +kernel
theorem dX3_readOneOf_43 : decode cX3_readOneOf 43 = .ok (.iadd, 1) := by decide +kernel
theorem dX3_readOneOf_44 : decode cX3_readOneOf 44 = .ok (.putfield 19, 3) := by decide +kernel
theorem dX3_readOneOf_47 : decode cX3_readOneOf 47 = .ok (.goto 8, 3) := by decide +kernel
theorem dX3_readOneOf_50 : decode cX3_readOneOf 50 = .ok (.aload_n 0, 1) := by decide +kernel
theorem dX3_readOneOf_51 : decode cX3_readOneOf 51 = .ok (.iconst 1, 1) := by decide +kernel
theorem dX3_readOneOf_52 : decode cX3_readOneOf 52 = .ok (.putfield 22, 3) := by decide +kernel
theorem dX3_readOneOf_55 : decode cX3_readOneOf 55 = .ok (.iload_n 3, 1) := by decide +kernel
theorem dX3_readOneOf_56 : decode cX3_readOneOf 56 = .ok (.ireturn, 1) := by decide +kernel
theorem dX3_readDigit_0 : decode cX3_readDigit 0 = .ok (.aload_n 0, 1) := by decide +kernel
theorem dX3_readDigit_1 : decode cX3_readDigit 1 = .ok (.aload_n 0, 1) := by decide +kernel
theorem dX3_readDigit_2 : decode cX3_readDigit 2 = .ok (.getfield 19, 3) := by decide +kernel
theorem dX3_readDigit_5 : decode cX3_readDigit 5 = .ok (.invokevirtual 47, 3) := by decide +kernel
theorem dX3_readDigit_8 : decode cX3_readDigit 8 = .ok (.bipush 48, 2) := by decide +kernel
theorem dX3_readDigit_10 : decode cX3_readDigit 10 = .ok (.isub, 1) := by decide +kernel
theorem dX3_readDigit_11 : decode cX3_readDigit 11 = .ok (.istore_n 3, 1) := by decide +kernel
theorem dX3_readDigit_12 : decode cX3_readDigit 12 = .ok (.aload_n 0, 1) := by decide +kernel
theorem dX3_readDigit_13 : decode cX3_readDigit 13 = .ok (.getfield 22, 3) := by decide +kernel
theorem dX3_readDigit_16 : decode cX3_readDigit 16 = .ok (.ifCond .ne 36, 3) := by decide +kernel
theorem dX3_readDigit_19 : decode cX3_readDigit 19 = .ok (.aload_n 0, 1) := by decide +kernel
theorem dX3_readDigit_20 : decode cX3_readDigit 20 = .ok (.getfield 19, 3) := by decide +kernel
theorem dX3_readDigit_23 : decode cX3_readDigit 23 = .ok (.aload_n 0, 1) := by decide +kernel
theorem dX3_readDigit_24 : decode cX3_readDigit 24 = .ok (.getfield 15, 3) := by decide +kernel
theorem dX3_readDigit_27 : decode cX3_readDigit 27 = .ok (.if_icmp .ge 25, 3) := by decide +kernel
theorem dX3_readDigit_30 : decode cX3_readDigit 30 = .ok (.iload_n 3, 1) := by decide +kernel
theorem dX3_readDigit_31 : decode cX3_readDigit 31 = .ok (.iload_n 1, 1) := by decide +kernel
theorem dX3_readDigit_32 : decode cX3_readDigit 32 = .ok (.if_icmp .lt 20, 3) := by decide +kernel
theorem dX3_readDigit_35 : decode cX3_readDigit 35 = .ok (.iload_n 3, 1) := by decide +kernel
theorem dX3_readDigit_36 : decode cX3_readDigit 36 = .ok (.iload_n 2, 1) := by decide +kernel
theorem dX3_readDigit_37 : decode cX3_readDigit 37 = .ok (.if_icmp .gt 15, 3) := by decide +kernel
theorem dX3_readDigit_40 : decode cX3_readDigit 40 = .ok (.aload_n 0, 1) := by decide +kernel
theorem dX3_readDigit_41 : decode cX3_readDigit 41 = .ok (.dup, 1) := by decide +kernel
theorem dX3_readDigit_42 : decode cX3_readDigit 42 = .ok (.getfield 19, 3) := by decide +kernel
theorem dX3_readDigit_45 : decode cX3_readDigit 45 = .ok (.iconst 1, 1) := by decide +kernel
theorem dX3_readDigit_46 : decode cX3_readDigit 46 = .ok (.iadd, 1) := by decide +kernel
theorem dX3_readDigit_47 : decode cX3_readDigit 47 = .ok (.putfield 19, 3) := by decide +kernel
theorem dX3_readDigit_50 : decode cX3_readDigit 50 = .ok (.iload_n 3, 1) := by decide +kernel
theorem dX3_readDigit_51 : decode cX3_readDigit 51 = .ok (.ireturn, 1) := by decide +kernel
theorem dX3_readDigit_52 : decode cX3_readDigit 52 = .ok (.aload_n 0, 1) := by decide +kernel
theorem dX3_readDigit_53 : decode cX3_readDigit 53 = .ok (.iconst 1, 1) := by decide +kernel
theorem dX3_readDigit_54 : decode cX3_readDigit 54 = .ok (.putfield 22, 3) := by decide +kernel
theorem dX3_readDigit_57 : decode cX3_readDigit 57 = .ok (.iload_n 1, 1) := by decide +kernel
theorem dX3_readDigit_58 : decode cX3_readDigit 58 = .ok (.ireturn, 1) := by decide +kernel
theorem dX3_readTwoDigits_0 : decode cX3_readTwoDigits 0 = .ok (.aload_n 0, 1) := by decide +kernel
theorem dX3_readTwoDigits_1 : decode cX3_readTwoDigits 1 = .ok (.iload_n 1, 1) := by decide +kernel
theorem dX3_readTwoDigits_2 : decode cX3_readTwoDigits 2 = .ok (.bipush 10, 2) := by decide +kernel
theorem dX3_readTwoDigits_4 : decode cX3_readTwoDigits 4 = .ok (.idiv, 1) := by decide +kernel
theorem dX3_readTwoDigits_5 : decode cX3_readTwoDigits 5 = .ok (.iload_n 2, 1) := by decide +kernel
theorem dX3_readTwoDigits_6 : decode cX3_readTwoDigits 6 = .ok (.bipush 10, 2) := by decide +kernel
theorem dX3_readTwoDigits_8 : decode cX3_readTwoDigits 8 = .ok (.idiv, 1) := by decide +kernel
theorem dX3_readTwoDigits_9 : decode cX3_readTwoDigits 9 = .ok (.invokevirtual 30, 3) := by decide +kernel
theorem dX3_readTwoDigits_12 : decode cX3_readTwoDigits 12 = .ok (.istore_n 3, 1) := by decide +kernel
theorem dX3_readTwoDigits_13 : decode cX3_readTwoDigits 13 = .ok (.iload_n 3, 1) := by decide +kernel
theorem dX3_readTwoDigits_14 : decode cX3_readTwoDigits 14 = .ok (.iload_n 1, 1) := by decide +kernel
theorem dX3_readTwoDigits_15 : decode cX3_readTwoDigits 15 = .ok (.bipush 10, 2) := by decide +kernel
theorem dX3_readTwoDigits_17 : decode cX3_readTwoDigits 17 = .ok (.idiv, 1) := by decide +kernel
theorem dX3_readTwoDigits_18 : decode cX3_readTwoDigits 18 = .ok (.if_icmp .ne 10, 3) := by decide +kernel
theorem dX3_readTwoDigits_21 : decode cX3_readTwoDigits 21 = .ok (.iload_n 1, 1) := by decide +kernel
theorem dX3_readTwoDigits_22 : decode cX3_readTwoDigits 22 = .ok (.bipush 10, 2) := by decide +kernel
theorem dX3_readTwoDigits_24 : decode cX3_readTwoDigits 24 = .ok (.irem, 1) := by decide +kernel
theorem dX3_readTwoDigits_25 : decode cX3_readTwoDigits 25 = .ok (.goto 4, 3) := by decide +kernel
theorem dX3_readTwoDigits_28 : decode cX3_readTwoDigits 28 = .ok (.iconst 0, 1) := by decide +kernel
theorem dX3_readTwoDigits_29 : decode cX3_readTwoDigits 29 = .ok (.istore 4, 2) := by decide +kernel
theorem dX3_readTwoDigits_31 : decode cX3_readTwoDigits 31 = .ok (.iload_n 3, 1) := by decide +kernel
theorem dX3_readTwoDigits_32 : decode cX3_readTwoDigits 32 = .ok (.iload_n 2, 1) := by decide +kernel
theorem dX3_readTwoDigits_33 : decode cX3_readTwoDigits 33 = .ok (.bipush 10, 2) := by decide +kernel
theorem dX3_readTwoDigits_35 : decode cX3_readTwoDigits 35 = .ok (.idiv, 1) := by decide +kernel
theorem dX3_readTwoDigits_36 : decode cX3_readTwoDigits 36 = .ok (.if_icmp .ne 10, 3) := by decide +kernel
theorem dX3_readTwoDigits_39 : decode cX3_readTwoDigits 39 = .ok (.iload_n 2, 1) := by decide +kernel
theorem dX3_readTwoDigits_40 : decode cX3_readTwoDigits 40 = .ok (.bipush 10, 2) := by decide +kernel
theorem dX3_readTwoDigits_42 : decode cX3_readTwoDigits 42 = .ok (.irem, 1) := by decide +kernel
theorem dX3_readTwoDigits_43 : decode cX3_readTwoDigits 43 = .ok (.goto 5, 3) := by decide +kernel
theorem dX3_readTwoDigits_46 : decode cX3_readTwoDigits 46 = .ok (.bipush 9, 2) := by decide +kernel
theorem dX3_readTwoDigits_48 : decode cX3_readTwoDigits 48 = .ok (.istore 5, 2) := by decide +kernel
theorem dX3_readTwoDigits_50 : decode cX3_readTwoDigits 50 = .ok (.bipush 10, 2) := by decide +kernel
theorem dX3_readTwoDigits_52 : decode cX3_readTwoDigits 52 = .ok (.iload_n 3, 1) := by decide +kernel
theorem dX3_readTwoDigits_53 : decode cX3_readTwoDigits 53 = .ok (.imul, 1) := by decide +kernel
theorem dX3_readTwoDigits_54 : decode cX3_readTwoDigits 54 = .ok (.aload_n 0, 1) := by decide +kernel
theorem dX3_readTwoDigits_55 : decode cX3_readTwoDigits 55 = .ok (.iload 4, 2) := by decide +kernel
theorem dX3_readTwoDigits_57 : decode cX3_readTwoDigits 57 = .ok (.iload 5, 2) := by decide +kernel
theorem dX3_readTwoDigits_59 : decode cX3_readTwoDigits 59 = .ok (.invokevirtual 30, 3) := by decide +kernel
theorem dX3_readTwoDigits_62 : decode cX3_readTwoDigits 62 = .ok (.iadd, 1) := by decide +kernel
theorem dX3_readTwoDigits_63 : decode cX3_readTwoDigits 63 = .ok (.ireturn, 1) := by decide +kernel
theorem dX4_init_0 : decode cX4_init 0 = .ok (.aload_n 0, 1) := by decide +kernel
theorem dX4_init_1 : decode cX4_init 1 = .ok (.invokespecial 3, 3) := by decide +kernel
theorem dX4_init_4 : decode cX4_init 4 = .ok (.aload_n 0, 1) := by decide +kernel
theorem dX4_init_5 : decode cX4_init 5 = .ok (.bipush 14, 2) := by decide +kernel
theorem dX4_init_7 : decode cX4_init 7 = .ok (.anewarray 9, 3) := by decide +kernel
theorem dX4_init_10 : decode cX4_init 10 = .ok (.putfield 11, 3) := by decide +kernel
theorem dX4_init_13 : decode cX4_init 13 = .ok (.iconst 0, 1) := by decide +kernel
theorem dX4_init_14 : decode cX4_init 14 = .ok (.istore_n 1, 1) := by decide +kernel
theorem dX4_init_15 : decode cX4_init 15 = .ok (.iload_n 1, 1) := by decide +kernel
theorem dX4_init_16 : decode cX4_init 16 = .ok (.bipush 14, 2) := by decide +kernel
theorem dX4_init_18 : decode cX4_init 18 = .ok (.if_icmp .ge 22, 3) := by decide +kernel
theorem dX4_init_21 : decode cX4_init 21 = .ok (.aload_n 0, 1) := by decide +kernel
theorem dX4_init_22 : decode cX4_init 22 = .ok (.getfield 11, 3) := by decide +kernel
theorem dX4_init_25 : decode cX4_init 25 = .ok (.iload_n 1, 1) := by decide +kernel
theorem dX4_init_26 : decode cX4_init 26 = .ok (.new 9, 3) := by decide +kernel
theorem dX4_init_29 : decode cX4_init 29 = .ok (.dup, 1) := by decide +kernel
theorem dX4_init_30 : decode cX4_init 30 = .ok (.invokespecial 17, 3) := by decide +kernel
theorem dX4_init_33 : decode cX4_init 33 = .ok (.aastore, 1) := by decide +kernel
theorem dX4_init_34 : decode cX4_init 34 = .ok (.iinc 1 1, 3) := by decide +kernel
theorem dX4_init_37 : decode cX4_init 37 = .ok (.goto (-22), 3) := by decide +kernel
theorem dX4_init_40 : decode cX4_init 40 = .ok (.return_, 1) := by decide +kernel
theorem dX4_empty_0 : decode cX4_empty 0 = .ok (.aload_n 0, 1) := by decide +kernel
theorem dX4_empty_1 : decode cX4_empty 1 = .ok (.iconst 0, 1) := by decide +kernel
theorem dX4_empty_2 : decode cX4_empty 2 = .ok (.putfield 18, 3) := by decide +kernel
theorem dX4_empty_5 : decode cX4_empty 5 = .ok (.return_, 1) := by decide +kernel
theorem dX4_remember_0 : decode cX4_remember 0 = .ok (.aload_n 0, 1) := by decide +kernel
theorem dX4_remember_1 : decode cX4_remember 1 = .ok (.getfield 22, 3) := by decide +kernel
theorem dX4_remember_4 : decode cX4_remember 4 = .ok (.ifCond .lt 12, 3) := by decide +kernel
theorem dX4_remember_7 : decode cX4_remember 7 = .ok (.aload_n 0, 1) := by decide +kernel
theorem dX4_remember_8 : decode cX4_remember 8 = .ok (.getfield 22, 3) := by decide +kernel
theorem dX4_remember_11 : decode cX4_remember 11 = .ok (.bipush 14, 2) := by decide +kernel
theorem dX4_remember_13 : decode cX4_remember 13 = .ok (.if_icmp .lt 4, 3) := by decide +kernel
theorem dX4_remember_16 : decode cX4_remember 16 = .ok (.return_, 1) := by decide +kernel
theorem dX4_remember_17 : decode cX4_remember 17 = .ok (.aload_n 0, 1) := by decide +kernel
theorem dX4_remember_18 : decode cX4_remember 18 = .ok (.getfield 11, 3) := by decide +kernel
theorem dX4_remember_21 : decode cX4_remember 21 = .ok (.aload_n 0, 1) := by decide +kernel
theorem dX4_remember_22 : decode cX4_remember 22 = .ok (.getfield 22, 3) := by decide +kernel
theorem dX4_remember_25 : decode cX4_remember 25 = .ok (.aaload, 1) := by decide +kernel
theorem dX4_remember_26 : decode cX4_remember 26 = .ok (.aload_n 1, 1) := by decide +kernel
theorem dX4_remember_27 : decode cX4_remember 27 = .ok (.invokevirtual 25, 3) := by decide +kernel
theorem dX4_remember_30 : decode cX4_remember 30 = .ok (.aload_n 0, 1) := by decide +kernel
theorem dX4_remember_31 : decode cX4_remember 31 = .ok (.aload_n 0, 1) := by decide +kernel
theorem dX4_remember_32 : decode cX4_remember 32 = .ok (.getfield 22, 3) := by decide +kernel
theorem dX4_remember_35 : decode cX4_remember 35 = .ok (.iconst 1, 1) := by decide +kernel
theorem dX4_remember_36 : decode cX4_remember 36 = .ok (.iadd, 1) := by decide +kernel
theorem dX4_remember_37 : decode cX4_remember 37 = .ok (.bipush 14, 2) := by decide +kernel
theorem dX4_remember_39 : decode cX4_remember 39 = .ok (.if_icmp .ge 12, 3) := by decide +kernel
theorem dX4_remember_42 : decode cX4_remember 42 = .ok (.aload_n 0, 1) := by decide +kernel
theorem dX4_remember_43 : decode cX4_remember 43 = .ok (.getfield 22, 3) := by decide +kernel
theorem dX4_remember_46 : decode cX4_remember 46 = .ok (.iconst 1, 1) := by decide +kernel
theorem dX4_remember_47 : decode cX4_remember 47 = .ok (.iadd, 1) := by decide +kernel
theorem dX4_remember_48 : decode cX4_remember 48 = .ok (.goto 4, 3) := by decide +kernel
theorem dX4_remember_51 : decode cX4_remember 51 = .ok (.iconst 0, 1) := by decide +kernel
theorem dX4_remember_52 : decode cX4_remember 52 = .ok (.putfield 22, 3) := by decide +kernel
theorem dX4_remember_55 : decode cX4_remember 55 = .ok (.aload_n 0, 1) := by decide +kernel
theorem dX4_remember_56 : decode cX4_remember 56 = .ok (.aload_n 0, 1) := by decide +kernel
theorem dX4_remember_57 : decode cX4_remember 57 = .ok (.getfield 18, 3) := by decide +kernel
theorem dX4_remember_60 : decode cX4_remember 60 = .ok (.iconst 1, 1) := by decide +kernel
theorem dX4_remember_61 : decode cX4_remember 61 = .ok (.iadd, 1) := by decide +kernel
theorem dX4_remember_62 : decode cX4_remember 62 = .ok (.bipush 14, 2) := by decide +kernel
theorem dX4_remember_64 : decode cX4_remember 64 = .ok (.invokestatic 29, 3) := by decide +kernel
theorem dX4_remember_67 : decode cX4_remember 67 = .ok (.putfield 18, 3) := by decide +kernel
theorem dX4_remember_70 : decode cX4_remember 70 = .ok (.return_, 1) := by decide +kernel
theorem dX4_takeBack_0 : decode cX4_takeBack 0 = .ok (.aload_n 0, 1) := by decide +kernel
theorem dX4_takeBack_1 : decode cX4_takeBack 1 = .ok (.getfield 22, 3) := by decide +kernel
theorem dX4_takeBack_4 : decode cX4_takeBack 4 = .ok (.ifCond .le 12, 3) := by decide +kernel
theorem dX4_takeBack_7 : decode cX4_takeBack 7 = .ok (.aload_n 0, 1) := by decide +kernel
theorem dX4_takeBack_8 : decode cX4_takeBack 8 = .ok (.getfield 22, 3) := by decide +kernel
theorem dX4_takeBack_11 : decode cX4_takeBack 11 = .ok (.iconst 1, 1) := by decide +kernel
theorem dX4_takeBack_12 : decode cX4_takeBack 12 = .ok (.isub, 1) := by decide +kernel
theorem dX4_takeBack_13 : decode cX4_takeBack 13 = .ok (.goto 5, 3) := by decide +kernel
theorem dX4_takeBack_16 : decode cX4_takeBack 16 = .ok (.bipush 13, 2) := by decide +kernel
theorem dX4_takeBack_18 : decode cX4_takeBack 18 = .ok (.istore_n 2, 1) := by decide +kernel
theorem dX4_takeBack_19 : decode cX4_takeBack 19 = .ok (.aload_n 0, 1) := by decide +kernel
theorem dX4_takeBack_20 : decode cX4_takeBack 20 = .ok (.getfield 18, 3) := by decide +kernel
theorem dX4_takeBack_23 : decode cX4_takeBack 23 = .ok (.iconst 1, 1) := by decide +kernel
theorem dX4_takeBack_24 : decode cX4_takeBack 24 = .ok (.if_icmp .lt 9, 3) := by decide +kernel
theorem dX4_takeBack_27 : decode cX4_takeBack 27 = .ok (.iload_n 2, 1) := by decide +kernel
theorem dX4_takeBack_28 : decode cX4_takeBack 28 = .ok (.bipush 14, 2) := by decide +kernel
theorem dX4_takeBack_30 : decode cX4_takeBack 30 = .ok (.if_icmp .lt 4, 3) := by decide +kernel
theorem dX4_takeBack_33 : decode cX4_takeBack 33 = .ok (.return_, 1) := by decide +kernel
theorem dX4_takeBack_34 : decode cX4_takeBack 34 = .ok (.aload_n 1, 1) := by decide +kernel
theorem dX4_takeBack_35 : decode cX4_takeBack 35 = .ok (.aload_n 0, 1) := by decide +kernel
theorem dX4_takeBack_36 : decode cX4_takeBack 36 = .ok (.getfield 11, 3) := by decide +kernel
theorem dX4_takeBack_39 : decode cX4_takeBack 39 = .ok (.iload_n 2, 1) := by decide +kernel
theorem dX4_takeBack_40 : decode cX4_takeBack 40 = .ok (.aaload, 1) := by decide +kernel
theorem dX4_takeBack_41 : decode cX4_takeBack 41 = .ok (.invokevirtual 25, 3) := by decide +kernel
theorem dX4_takeBack_44 : decode cX4_takeBack 44 = .ok (.aload_n 0, 1) := by decide +kernel
theorem dX4_takeBack_45 : decode cX4_takeBack 45 = .ok (.iload_n 2, 1) := by decide +kernel
theorem dX4_takeBack_46 : decode cX4_takeBack 46 = .ok (.putfield 22, 3) := by decide +kernel
theorem dX4_takeBack_49 : decode cX4_takeBack 49 = .ok (.aload_n 0, 1) := by decide +kernel
theorem dX4_takeBack_50 : decode cX4_takeBack 50 = .ok (.dup, 1) := by decide +kernel
theorem dX4_takeBack_51 : decode cX4_takeBack 51 = .ok (.getfield 18, 3) := by decide +kernel
theorem dX4_takeBack_54 : decode cX4_takeBack 54 = .ok (.iconst 1, 1) := by decide +kernel
theorem dX4_takeBack_55 : decode cX4_takeBack 55 = .ok (.isub, 1) := by decide +kernel
theorem dX4_takeBack_56 : decode cX4_takeBack 56 = .ok (.putfield 18, 3) := by decide +kernel
theorem dX4_takeBack_59 : decode cX4_takeBack 59 = .ok (.return_, 1) := by decide +kernel
theorem dX5_init_0 : decode cX5_init 0 = .ok (.aload_n 0, 1) := by decide +kernel
theorem dX5_init_1 : decode cX5_init 1 = .ok (.invokespecial 3, 3) := by decide +kernel
theorem dX5_init_4 : decode cX5_init 4 = .ok (.aload_n 0, 1) := by decide +kernel
theorem dX5_init_5 : decode cX5_init 5 = .ok (.bipush 6, 2) := by decide +kernel
theorem dX5_init_7 : decode cX5_init 7 = .ok (.newarray .int, 2) := by decide +kernel
theorem dX5_init_9 : decode cX5_init 9 = .ok (.putfield 9, 3) := by decide +kernel
theorem dX5_init_12 : decode cX5_init 12 = .ok (.aload_n 0, 1) := by decide +kernel
theorem dX5_init_13 : decode cX5_init 13 = .ok (.new 15, 3) := by decide +kernel
theorem dX5_init_16 : decode cX5_init 16 = .ok (.dup, 1) := by decide +kernel
theorem dX5_init_17 : decode cX5_init 17 = .ok (.invokespecial 17, 3) := by decide +kernel
theorem dX5_init_20 : decode cX5_init 20 = .ok (.putfield 18, 3) := by decide +kernel
theorem dX5_init_23 : decode cX5_init 23 = .ok (.aload_n 0, 1) := by decide +kernel
theorem dX5_init_24 : decode cX5_init 24 = .ok (.new 22, 3) := by decide +kernel
theorem dX5_init_27 : decode cX5_init 27 = .ok (.dup, 1) := by decide +kernel
theorem dX5_init_28 : decode cX5_init 28 = .ok (.invokespecial 24, 3) := by decide +kernel
theorem dX5_init_31 : decode cX5_init 31 = .ok (.putfield 25, 3) := by decide +kernel
theorem dX5_init_34 : decode cX5_init 34 = .ok (.return_, 1) := by decide +kernel
theorem dX5_makeNew_0 : decode cX5_makeNew 0 = .ok (.aload_n 0, 1) := by decide +kernel
theorem dX5_makeNew_1 : decode cX5_makeNew 1 = .ok (.invokevirtual 29, 3) := by decide +kernel
theorem dX5_makeNew_4 : decode cX5_makeNew 4 = .ok (.aload_n 0, 1) := by decide +kernel
theorem dX5_makeNew_5 : decode cX5_makeNew 5 = .ok (.getfield 18, 3) := by decide +kernel
theorem dX5_makeNew_8 : decode cX5_makeNew 8 = .ok (.iconst 0, 1) := by decide +kernel
theorem dX5_makeNew_9 : decode cX5_makeNew 9 = .ok (.putfield 32, 3) := by decide +kernel
theorem dX5_makeNew_12 : decode cX5_makeNew 12 = .ok (.aload_n 0, 1) := by decide +kernel
theorem dX5_makeNew_13 : decode cX5_makeNew 13 = .ok (.getfield 25, 3) := by decide +kernel
theorem dX5_makeNew_16 : decode cX5_makeNew 16 = .ok (.iconst 0, 1) := by decide +kernel
theorem dX5_makeNew_17 : decode cX5_makeNew 17 = .ok (.putfield 36, 3) := by decide +kernel
theorem dX5_makeNew_20 : decode cX5_makeNew 20 = .ok (.aload_n 0, 1) := by decide +kernel
theorem dX5_makeNew_21 : decode cX5_makeNew 21 = .ok (.iconst 0, 1) := by decide +kernel
theorem dX5_makeNew_22 : decode cX5_makeNew 22 = .ok (.putfield 37, 3) := by decide +kernel
theorem dX5_makeNew_25 : decode cX5_makeNew 25 = .ok (.aload_n 0, 1) := by decide +kernel
theorem dX5_makeNew_26 : decode cX5_makeNew 26 = .ok (.iconst 0, 1) := by decide +kernel
theorem dX5_makeNew_27 : decode cX5_makeNew 27 = .ok (.putfield 41, 3) := by decide +kernel
theorem dX5_makeNew_30 : decode cX5_makeNew 30 = .ok (.aload_n 0, 1) := by decide +kernel
theorem dX5_makeNew_31 : decode cX5_makeNew 31 = .ok (.iconst 0, 1) := by decide +kernel
theorem dX5_makeNew_32 : decode cX5_makeNew 32 = .ok (.putfield 44, 3) := by decide +kernel
theorem dX5_makeNew_35 : decode cX5_makeNew 35 = .ok (.aload_n 0, 1) := by decide +kernel
theorem dX5_makeNew_36 : decode cX5_makeNew 36 = .ok (.iconst 0, 1) := by decide +kernel
theorem dX5_makeNew_37 : decode cX5_makeNew 37 = .ok (.putfield 47, 3) := by decide +kernel
theorem dX5_makeNew_40 : decode cX5_makeNew 40 = .ok (.aload_n 0, 1) := by decide +kernel
theorem dX5_makeNew_41 : decode cX5_makeNew 41 = .ok (.iconst 0, 1) := by decide +kernel
theorem dX5_makeNew_42 : decode cX5_makeNew 42 = .ok (.putfield 50, 3) := by decide +kernel
theorem dX5_makeNew_45 : decode cX5_makeNew 45 = .ok (.aload_n 0, 1) := by decide +kernel
theorem dX5_makeNew_46 : decode cX5_makeNew 46 = .ok (.iconst 0, 1) := by decide +kernel
theorem dX5_makeNew_47 : decode cX5_makeNew 47 = .ok (.putfield 53, 3) := by decide +kernel
theorem dX5_makeNew_50 : decode cX5_makeNew 50 = .ok (.aload_n 0, 1) := by decide +kernel
theorem dX5_makeNew_51 : decode cX5_makeNew 51 = .ok (.iconst 0, 1) := by decide +kernel
theorem dX5_makeNew_52 : decode cX5_makeNew 52 = .ok (.putfield 56, 3) := by decide +kernel
theorem dX5_makeNew_55 : decode cX5_makeNew 55 = .ok (.return_, 1) := by decide +kernel
theorem dX5_copyFrom_0 : decode cX5_copyFrom 0 = .ok (.iconst 0, 1) := by decide +kernel
theorem dX5_copyFrom_1 : decode cX5_copyFrom 1 = .ok (.istore_n 2, 1) := by decide +kernel
theorem dX5_copyFrom_2 : decode cX5_copyFrom 2 = .ok (.iload_n 2, 1) := by decide +kernel
theorem dX5_copyFrom_3 : decode cX5_copyFrom 3 = .ok (.bipush 6, 2) := by decide +kernel
theorem dX5_copyFrom_5 : decode cX5_copyFrom 5 = .ok (.if_icmp .ge 21, 3) := by decide +kernel
theorem dX5_copyFrom_8 : decode cX5_copyFrom 8 = .ok (.aload_n 0, 1) := by decide +kernel
theorem dX5_copyFrom_9 : decode cX5_copyFrom 9 = .ok (.getfield 9, 3) := by decide +kernel
theorem dX5_copyFrom_12 : decode cX5_copyFrom 12 = .ok (.iload_n 2, 1) := by decide +kernel
theorem dX5_copyFrom_13 : decode cX5_copyFrom 13 = .ok (.aload_n 1, 1) := by decide +kernel
theorem dX5_copyFrom_14 : decode cX5_copyFrom 14 = .ok (.getfield 9, 3) := by decide +kernel
theorem dX5_copyFrom_17 : decode cX5_copyFrom 17 = .ok (.iload_n 2, 1) := by decide +kernel
theorem dX5_copyFrom_18 : decode cX5_copyFrom 18 = .ok (.iaload, 1) := by decide +kernel
theorem dX5_copyFrom_19 : decode cX5_copyFrom 19 = .ok (.iastore, 1) := by decide +kernel
theorem dX5_copyFrom_20 : decode cX5_copyFrom 20 = .ok (.iinc 2 1, 3) := by decide +kernel
theorem dX5_copyFrom_23 : decode cX5_copyFrom 23 = .ok (.goto (-21), 3) := by decide +kernel
theorem dX5_copyFrom_26 : decode cX5_copyFrom 26 = .ok (.aload_n 0, 1) := by decide +kernel
theorem dX5_copyFrom_27 : decode cX5_copyFrom 27 = .ok (.getfield 18, 3) := by decide +kernel
theorem dX5_copyFrom_30 : decode cX5_copyFrom 30 = .ok (.aload_n 1, 1) := by decide +kernel
theorem dX5_copyFrom_31 : decode cX5_copyFrom 31 = .ok (.getfield 18, 3) := by decide +kernel
theorem dX5_copyFrom_34 : decode cX5_copyFrom 34 = .ok (.invokevirtual 59, 3) := by decide +kernel
theorem dX5_copyFrom_37 : decode cX5_copyFrom 37 = .ok (.aload_n 0, 1) := by decide +kernel
theorem dX5_copyFrom_38 : decode cX5_copyFrom 38 = .ok (.getfield 25, 3) := by decide +kernel
theorem dX5_copyFrom_41 : decode cX5_copyFrom 41 = .ok (.aload_n 1, 1) := by decide +kernel
theorem dX5_copyFrom_42 : decode cX5_copyFrom 42 = .ok (.getfield 25, 3) := by decide +kernel
theorem dX5_copyFrom_45 : decode cX5_copyFrom 45 = .ok (.invokevirtual 63, 3) := by decide +kernel
theorem dX5_copyFrom_48 : decode cX5_copyFrom 48 = .ok (.aload_n 0, 1) := by decide +kernel
theorem dX5_copyFrom_49 : decode cX5_copyFrom 49 = .ok (.aload_n 1, 1) := by decide +kernel
theorem dX5_copyFrom_50 : decode cX5_copyFrom 50 = .ok (.getfield 37, 3) := by decide +kernel
theorem dX5_copyFrom_53 : decode cX5_copyFrom 53 = .ok (.putfield 37, 3) := by decide +kernel
theorem dX5_copyFrom_56 : decode cX5_copyFrom 56 = .ok (.aload_n 0, 1) := by decide +kernel
theorem dX5_copyFrom_57 : decode cX5_copyFrom 57 = .ok (.aload_n 1, 1) := by decide +kernel
theorem dX5_copyFrom_58 : decode cX5_copyFrom 58 = .ok (.getfield 41, 3) := by decide +kernel
theorem dX5_copyFrom_61 : decode cX5_copyFrom 61 = .ok (.putfield 41, 3) := by decide +kernel
theorem dX5_copyFrom_64 : decode cX5_copyFrom 64 = .ok (.aload_n 0, 1) := by decide +kernel
theorem dX5_copyFrom_65 : decode cX5_copyFrom 65 = .ok (.aload_n 1, 1) := by decide +kernel
theorem dX5_copyFrom_66 : decode cX5_copyFrom 66 = .ok (.getfield 44, 3) := by decide +kernel
theorem dX5_copyFrom_69 : decode cX5_copyFrom 69 = .ok (.putfield 44, 3) := by decide +kernel
theorem dX5_copyFrom_72 : decode cX5_copyFrom 72 = .ok (.aload_n 0, 1) := by decide +kernel
theorem dX5_copyFrom_73 : decode cX5_copyFrom 73 = .ok (.aload_n 1, 1) := by decide +kernel
theorem dX5_copyFrom_74 : decode cX5_copyFrom 74 = .ok (.getfield 47, 3) := by decide +kernel
theorem dX5_copyFrom_77 : decode cX5_copyFrom 77 = .ok (.putfield 47, 3) := by decide +kernel
theorem dX5_copyFrom_80 : decode cX5_copyFrom 80 = .ok (.aload_n 0, 1) := by decide +kernel
theorem dX5_copyFrom_81 : decode cX5_copyFrom 81 = .ok (.aload_n 1, 1) := by decide +kernel
theorem dX5_copyFrom_82 : decode cX5_copyFrom 82 = .ok (.getfield 50, 3) := by decide +kernel
theorem dX5_copyFrom_85 : decode cX5_copyFrom 85 = .ok (.putfield 50, 3) := by decide +kernel
theorem dX5_copyFrom_88 : decode cX5_copyFrom 88 = .ok (.aload_n 0, 1) := by decide +kernel
theorem dX5_copyFrom_89 : decode cX5_copyFrom 89 = .ok (.aload_n 1, 1) := by decide +kernel
theorem dX5_copyFrom_90 : decode cX5_copyFrom 90 = .ok (.getfield 53, 3) := by decide +kernel
theorem dX5_copyFrom_93 : decode cX5_copyFrom 93 = .ok (.putfield 53, 3) := by decide +kernel
theorem dX5_copyFrom_96 : decode cX5_copyFrom 96 = .ok (.aload_n 0, 1) := by decide +kernel
theorem dX5_copyFrom_97 : decode cX5_copyFrom 97 = .ok (.aload_n 1, 1) := by decide +kernel
theorem dX5_copyFrom_98 : decode cX5_copyFrom 98 = .ok (.getfield 56, 3) := by decide +kernel
theorem dX5_copyFrom_101 : decode cX5_copyFrom 101 = .ok (.putfield 56, 3) := by decide +kernel
theorem dX5_copyFrom_104 : decode cX5_copyFrom 104 = .ok (.return_, 1) := by decide +kernel
theorem dX5_debts_0 : decode cX5_debts 0 = .ok (.iconst 0, 1) := by decide +kernel
theorem dX5_debts_1 : decode cX5_debts 1 = .ok (.istore_n 1, 1) := by decide +kernel
theorem dX5_debts_2 : decode cX5_debts 2 = .ok (.iconst 0, 1) := by decide +kernel
theorem dX5_debts_3 : decode cX5_debts 3 = .ok (.istore_n 2, 1) := by decide +kernel
theorem dX5_debts_4 : decode cX5_debts 4 = .ok (.iload_n 2, 1) := by decide +kernel
theorem dX5_debts_5 : decode cX5_debts 5 = .ok (.bipush 6, 2) := by decide +kernel
theorem dX5_debts_7 : decode cX5_debts 7 = .ok (.if_icmp .ge 18, 3) := by decide +kernel
theorem dX5_debts_10 : decode cX5_debts 10 = .ok (.iload_n 1, 1) := by decide +kernel
theorem dX5_debts_11 : decode cX5_debts 11 = .ok (.aload_n 0, 1) := by decide +kernel
theorem dX5_debts_12 : decode cX5_debts 12 = .ok (.getfield 9, 3) := by decide +kernel
theorem dX5_debts_15 : decode cX5_debts 15 = .ok (.iload_n 2, 1) := by decide +kernel
theorem dX5_debts_16 : decode cX5_debts 16 = .ok (.iaload, 1) := by decide +kernel
theorem dX5_debts_17 : decode cX5_debts 17 = .ok (.iadd, 1) := by decide +kernel
theorem dX5_debts_18 : decode cX5_debts 18 = .ok (.istore_n 1, 1) := by decide +kernel
theorem dX5_debts_19 : decode cX5_debts 19 = .ok (.iinc 2 1, 3) := by decide +kernel
theorem dX5_debts_22 : decode cX5_debts 22 = .ok (.goto (-18), 3) := by decide +kernel
theorem dX5_debts_25 : decode cX5_debts 25 = .ok (.iload_n 1, 1) := by decide +kernel
theorem dX5_debts_26 : decode cX5_debts 26 = .ok (.ireturn, 1) := by decide +kernel
theorem dX5_forgetDebts_0 : decode cX5_forgetDebts 0 = .ok (.iconst 0, 1) := by decide +kernel
theorem dX5_forgetDebts_1 : decode cX5_forgetDebts 1 = .ok (.istore_n 1, 1) := by decide +kernel
theorem dX5_forgetDebts_2 : decode cX5_forgetDebts 2 = .ok (.iload_n 1, 1) := by decide +kernel
theorem dX5_forgetDebts_3 : decode cX5_forgetDebts 3 = .ok (.bipush 6, 2) := by decide +kernel
theorem dX5_forgetDebts_5 : decode cX5_forgetDebts 5 = .ok (.if_icmp .ge 16, 3) := by decide +kernel
theorem dX5_forgetDebts_8 : decode cX5_forgetDebts 8 = .ok (.aload_n 0, 1) := by decide +kernel
theorem dX5_forgetDebts_9 : decode cX5_forgetDebts 9 = .ok (.getfield 9, 3) := by decide +kernel
theorem dX5_forgetDebts_12 : decode cX5_forgetDebts 12 = .ok (.iload_n 1, 1) := by decide +kernel
theorem dX5_forgetDebts_13 : decode cX5_forgetDebts 13 = .ok (.iconst 0, 1) := by decide +kernel
theorem dX5_forgetDebts_14 : decode cX5_forgetDebts 14 = .ok (.iastore, 1) := by decide +kernel
theorem dX5_forgetDebts_15 : decode cX5_forgetDebts 15 = .ok (.iinc 1 1, 3) := by decide +kernel
theorem dX5_forgetDebts_18 : decode cX5_forgetDebts 18 = .ok (.goto (-16), 3) := by decide +kernel
theorem dX5_forgetDebts_21 : decode cX5_forgetDebts 21 = .ok (.return_, 1) := by decide +kernel
theorem dX5_takesBursts_0 : decode cX5_takesBursts 0 = .ok (.aload_n 0, 1) := by decide +kernel
theorem dX5_takesBursts_1 : decode cX5_takesBursts 1 = .ok (.getfield 37, 3) := by decide +kernel
theorem dX5_takesBursts_4 : decode cX5_takesBursts 4 = .ok (.ifCond .ne 17, 3) := by decide +kernel
theorem dX5_takesBursts_7 : decode cX5_takesBursts 7 = .ok (.aload_n 0, 1) := by decide +kernel
theorem dX5_takesBursts_8 : decode cX5_takesBursts 8 = .ok (.getfield 18, 3) := by decide +kernel
theorem dX5_takesBursts_11 : decode cX5_takesBursts 11 = .ok (.invokevirtual 66, 3) := by decide +kernel
theorem dX5_takesBursts_14 : decode cX5_takesBursts 14 = .ok (.ifCond .ne 7, 3) := by decide +kernel
theorem dX5_takesBursts_17 : decode cX5_takesBursts 17 = .ok (.iconst 1, 1) := by decide +kernel
theorem dX5_takesBursts_18 : decode cX5_takesBursts 18 = .ok (.goto 4, 3) := by decide +kernel
theorem dX5_takesBursts_21 : decode cX5_takesBursts 21 = .ok (.iconst 0, 1) := by decide +kernel
theorem dX5_takesBursts_22 : decode cX5_takesBursts 22 = .ok (.ireturn, 1) := by decide +kernel
theorem dX5_isDone_0 : decode cX5_isDone 0 = .ok (.aload_n 0, 1) := by decide +kernel
theorem dX5_isDone_1 : decode cX5_isDone 1 = .ok (.getfield 18, 3) := by decide +kernel
theorem dX5_isDone_4 : decode cX5_isDone 4 = .ok (.getfield 32, 3) := by decide +kernel
theorem dX5_isDone_7 : decode cX5_isDone 7 = .ok (.ifCond .ne 17, 3) := by decide +kernel
theorem dX5_isDone_10 : decode cX5_isDone 10 = .ok (.aload_n 0, 1) := by decide +kernel
theorem dX5_isDone_11 : decode cX5_isDone 11 = .ok (.getfield 25, 3) := by decide +kernel
theorem dX5_isDone_14 : decode cX5_isDone 14 = .ok (.getfield 36, 3) := by decide +kernel
theorem dX5_isDone_17 : decode cX5_isDone 17 = .ok (.ifCond .ne 7, 3) := by decide +kernel
theorem dX5_isDone_20 : decode cX5_isDone 20 = .ok (.iconst 1, 1) := by decide +kernel
theorem dX5_isDone_21 : decode cX5_isDone 21 = .ok (.goto 4, 3) := by decide +kernel
theorem dX5_isDone_24 : decode cX5_isDone 24 = .ok (.iconst 0, 1) := by decide +kernel
theorem dX5_isDone_25 : decode cX5_isDone 25 = .ok (.ireturn, 1) := by decide +kernel
theorem dX5_lookForWork_0 : decode cX5_lookForWork 0 = .ok (.aload_n 0, 1) := by decide +kernel
theorem dX5_lookForWork_1 : decode cX5_lookForWork 1 = .ok (.aload_n 0, 1) := by decide +kernel
theorem dX5_lookForWork_2 : decode cX5_lookForWork 2 = .ok (.getfield 18, 3) := by decide +kernel
theorem dX5_lookForWork_5 : decode cX5_lookForWork 5 = .ok (.getfield 32, 3) := by decide +kernel
theorem dX5_lookForWork_8 : decode cX5_lookForWork 8 = .ok (.ifCond .gt 16, 3) := by decide +kernel
theorem dX5_lookForWork_11 : decode cX5_lookForWork 11 = .ok (.aload_n 0, 1) := by decide +kernel
theorem dX5_lookForWork_12 : decode cX5_lookForWork 12 = .ok (.getfield 25, 3) := by decide +kernel
theorem dX5_lookForWork_15 : decode cX5_lookForWork 15 = .ok (.iload_n 1, 1) := by decide +kernel
theorem dX5_lookForWork_16 : decode cX5_lookForWork 16 = .ok (.invokevirtual 70, 3) := by decide +kernel
theorem dX5_lookForWork_19 : decode cX5_lookForWork 19 = .ok (.bipush (-9), 2) := by decide +kernel
theorem dX5_lookForWork_21 : decode cX5_lookForWork 21 = .ok (.if_icmp .eq 7, 3) := by decide +kernel
theorem dX5_lookForWork_24 : decode cX5_lookForWork 24 = .ok (.iconst 1, 1) := by decide +kernel
theorem dX5_lookForWork_25 : decode cX5_lookForWork 25 = .ok (.goto 4, 3) := by decide +kernel
theorem dX5_lookForWork_28 : decode cX5_lookForWork 28 = .ok (.iconst 0, 1) := by decide +kernel
theorem dX5_lookForWork_29 : decode cX5_lookForWork 29 = .ok (.putfield 74, 3) := by decide +kernel
theorem dX5_lookForWork_32 : decode cX5_lookForWork 32 = .ok (.return_, 1) := by decide +kernel
theorem dX5_countWait_0 : decode cX5_countWait 0 = .ok (.aload_n 0, 1) := by decide +kernel
theorem dX5_countWait_1 : decode cX5_countWait 1 = .ok (.aload_n 0, 1) := by decide +kernel
theorem dX5_countWait_2 : decode cX5_countWait 2 = .ok (.getfield 74, 3) := by decide +kernel
theorem dX5_countWait_5 : decode cX5_countWait 5 = .ok (.ifCond .eq 16, 3) := by decide +kernel
theorem dX5_countWait_8 : decode cX5_countWait 8 = .ok (.iload_n 1, 1) := by decide +kernel
theorem dX5_countWait_9 : decode cX5_countWait 9 = .ok (.ifCond .ne 12, 3) := by decide +kernel
theorem dX5_countWait_12 : decode cX5_countWait 12 = .ok (.aload_n 0, 1) := by decide +kernel
theorem dX5_countWait_13 : decode cX5_countWait 13 = .ok (.getfield 41, 3) := by decide +kernel
theorem dX5_countWait_16 : decode cX5_countWait 16 = .ok (.iconst 1, 1) := by decide +kernel
theorem dX5_countWait_17 : decode cX5_countWait 17 = .ok (.iadd, 1) := by decide +kernel
theorem dX5_countWait_18 : decode cX5_countWait 18 = .ok (.goto 4, 3) := by decide +kernel
theorem dX5_countWait_21 : decode cX5_countWait 21 = .ok (.iconst 0, 1) := by decide +kernel
theorem dX5_countWait_22 : decode cX5_countWait 22 = .ok (.putfield 41, 3) := by decide +kernel
theorem dX5_countWait_25 : decode cX5_countWait 25 = .ok (.aload_n 0, 1) := by decide +kernel
theorem dX5_countWait_26 : decode cX5_countWait 26 = .ok (.aload_n 0, 1) := by decide +kernel
theorem dX5_countWait_27 : decode cX5_countWait 27 = .ok (.getfield 44, 3) := by decide +kernel
theorem dX5_countWait_30 : decode cX5_countWait 30 = .ok (.aload_n 0, 1) := by decide +kernel
theorem dX5_countWait_31 : decode cX5_countWait 31 = .ok (.getfield 41, 3) := by decide +kernel
theorem dX5_countWait_34 : decode cX5_countWait 34 = .ok (.invokestatic 77, 3) := by decide +kernel
theorem dX5_countWait_37 : decode cX5_countWait 37 = .ok (.putfield 44, 3) := by decide +kernel
theorem dX5_countWait_40 : decode cX5_countWait 40 = .ok (.return_, 1) := by decide +kernel
theorem dX5_goBankrupt_0 : decode cX5_goBankrupt 0 = .ok (.aload_n 0, 1) := by decide +kernel
theorem dX5_goBankrupt_1 : decode cX5_goBankrupt 1 = .ok (.iconst 1, 1) := by decide +kernel
theorem dX5_goBankrupt_2 : decode cX5_goBankrupt 2 = .ok (.putfield 37, 3) := by decide +kernel
theorem dX5_goBankrupt_5 : decode cX5_goBankrupt 5 = .ok (.aload_n 0, 1) := by decide +kernel
theorem dX5_goBankrupt_6 : decode cX5_goBankrupt 6 = .ok (.invokevirtual 29, 3) := by decide +kernel
theorem dX5_goBankrupt_9 : decode cX5_goBankrupt 9 = .ok (.aload_n 0, 1) := by decide +kernel
theorem dX5_goBankrupt_10 : decode cX5_goBankrupt 10 = .ok (.getfield 18, 3) := by decide +kernel
theorem dX5_goBankrupt_13 : decode cX5_goBankrupt 13 = .ok (.iconst 0, 1) := by decide +kernel
theorem dX5_goBankrupt_14 : decode cX5_goBankrupt 14 = .ok (.putfield 32, 3) := by decide +kernel
theorem dX5_goBankrupt_17 : decode cX5_goBankrupt 17 = .ok (.aload_n 0, 1) := by decide +kernel
theorem dX5_goBankrupt_18 : decode cX5_goBankrupt 18 = .ok (.getfield 25, 3) := by decide +kernel
theorem dX5_goBankrupt_21 : decode cX5_goBankrupt 21 = .ok (.iconst 0, 1) := by decide +kernel
theorem dX5_goBankrupt_22 : decode cX5_goBankrupt 22 = .ok (.putfield 36, 3) := by decide +kernel
theorem dX5_goBankrupt_25 : decode cX5_goBankrupt 25 = .ok (.return_, 1) := by decide +kernel
theorem dX2_init_0 : decode cX2_init 0 = .ok (.aload_n 0, 1) := by decide +kernel
theorem dX2_init_1 : decode cX2_init 1 = .ok (.invokespecial 3, 3) := by decide +kernel
theorem dX2_init_4 : decode cX2_init 4 = .ok (.aload_n 0, 1) := by decide +kernel
theorem dX2_init_5 : decode cX2_init 5 = .ok (.bipush 16, 2) := by decide +kernel
theorem dX2_init_7 : decode cX2_init 7 = .ok (.newarray .int, 2) := by decide +kernel
theorem dX2_init_9 : decode cX2_init 9 = .ok (.putfield 9, 3) := by decide +kernel
theorem dX2_init_12 : decode cX2_init 12 = .ok (.aload_n 0, 1) := by decide +kernel
theorem dX2_init_13 : decode cX2_init 13 = .ok (.iconst 4, 1) := by decide +kernel
theorem dX2_init_14 : decode cX2_init 14 = .ok (.newarray .int, 2) := by decide +kernel
theorem dX2_init_16 : decode cX2_init 16 = .ok (.putfield 15, 3) := by decide +kernel
theorem dX2_init_19 : decode cX2_init 19 = .ok (.aload_n 0, 1) := by decide +kernel
theorem dX2_init_20 : decode cX2_init 20 = .ok (.bipush 6, 2) := by decide +kernel
theorem dX2_init_22 : decode cX2_init 22 = .ok (.anewarray 18, 3) := by decide +kernel
theorem dX2_init_25 : decode cX2_init 25 = .ok (.putfield 20, 3) := by decide +kernel
theorem dX2_init_28 : decode cX2_init 28 = .ok (.iconst 0, 1) := by decide +kernel
theorem dX2_init_29 : decode cX2_init 29 = .ok (.istore_n 1, 1) := by decide +kernel
theorem dX2_init_30 : decode cX2_init 30 = .ok (.iload_n 1, 1) := by decide +kernel
theorem dX2_init_31 : decode cX2_init 31 = .ok (.bipush 6, 2) := by decide +kernel
theorem dX2_init_33 : decode cX2_init 33 = .ok (.if_icmp .ge 22, 3) := by decide +kernel
theorem dX2_init_36 : decode cX2_init 36 = .ok (.aload_n 0, 1) := by decide +kernel
theorem dX2_init_37 : decode cX2_init 37 = .ok (.getfield 20, 3) := by decide +kernel
theorem dX2_init_40 : decode cX2_init 40 = .ok (.iload_n 1, 1) := by decide +kernel
theorem dX2_init_41 : decode cX2_init 41 = .ok (.new 18, 3) := by decide +kernel
theorem dX2_init_44 : decode cX2_init 44 = .ok (.dup, 1) := by decide +kernel
theorem dX2_init_45 : decode cX2_init 45 = .ok (.invokespecial 24, 3) := by decide +kernel
theorem dX2_init_48 : decode cX2_init 48 = .ok (.aastore, 1) := by decide +kernel
theorem dX2_init_49 : decode cX2_init 49 = .ok (.iinc 1 1, 3) := by decide +kernel
theorem dX2_init_52 : decode cX2_init 52 = .ok (.goto (-22), 3) := by decide +kernel
theorem dX2_init_55 : decode cX2_init 55 = .ok (.aload_n 0, 1) := by decide +kernel
theorem dX2_init_56 : decode cX2_init 56 = .ok (.iconst 2, 1) := by decide +kernel
theorem dX2_init_57 : decode cX2_init 57 = .ok (.iconst 4, 1) := by decide +kernel
theorem dX2_init_58 : decode cX2_init 58 = .ok (.invokevirtual 25, 3) := by decide +kernel
theorem dX2_init_61 : decode cX2_init 61 = .ok (.return_, 1) := by decide +kernel
theorem dX2_makeNew_0 : decode cX2_makeNew 0 = .ok (.aload_n 0, 1) := by decide +kernel
theorem dX2_makeNew_1 : decode cX2_makeNew 1 = .ok (.iload_n 1, 1) := by decide +kernel
theorem dX2_makeNew_2 : decode cX2_makeNew 2 = .ok (.iconst 2, 1) := by decide +kernel
theorem dX2_makeNew_3 : decode cX2_makeNew 3 = .ok (.invokestatic 29, 3) := by decide +kernel
theorem dX2_makeNew_6 : decode cX2_makeNew 6 = .ok (.bipush 6, 2) := by decide +kernel
theorem dX2_makeNew_8 : decode cX2_makeNew 8 = .ok (.invokestatic 35, 3) := by decide +kernel
theorem dX2_makeNew_11 : decode cX2_makeNew 11 = .ok (.putfield 38, 3) := by decide +kernel
theorem dX2_makeNew_14 : decode cX2_makeNew 14 = .ok (.aload_n 0, 1) := by decide +kernel
theorem dX2_makeNew_15 : decode cX2_makeNew 15 = .ok (.iload_n 2, 1) := by decide +kernel
theorem dX2_makeNew_16 : decode cX2_makeNew 16 = .ok (.iconst 2, 1) := by decide +kernel
theorem dX2_makeNew_17 : decode cX2_makeNew 17 = .ok (.invokestatic 29, 3) := by decide +kernel
theorem dX2_makeNew_20 : decode cX2_makeNew 20 = .ok (.bipush 16, 2) := by decide +kernel
theorem dX2_makeNew_22 : decode cX2_makeNew 22 = .ok (.invokestatic 35, 3) := by decide +kernel
theorem dX2_makeNew_25 : decode cX2_makeNew 25 = .ok (.putfield 42, 3) := by decide +kernel
theorem dX2_makeNew_28 : decode cX2_makeNew 28 = .ok (.aload_n 0, 1) := by decide +kernel
theorem dX2_makeNew_29 : decode cX2_makeNew 29 = .ok (.iconst 0, 1) := by decide +kernel
theorem dX2_makeNew_30 : decode cX2_makeNew 30 = .ok (.putfield 45, 3) := by decide +kernel
theorem dX2_makeNew_33 : decode cX2_makeNew 33 = .ok (.aload_n 0, 1) := by decide +kernel
theorem dX2_makeNew_34 : decode cX2_makeNew 34 = .ok (.iconst 0, 1) := by decide +kernel
theorem dX2_makeNew_35 : decode cX2_makeNew 35 = .ok (.putfield 48, 3) := by decide +kernel
theorem dX2_makeNew_38 : decode cX2_makeNew 38 = .ok (.aload_n 0, 1) := by decide +kernel
theorem dX2_makeNew_39 : decode cX2_makeNew 39 = .ok (.iconst 4, 1) := by decide +kernel
theorem dX2_makeNew_40 : decode cX2_makeNew 40 = .ok (.putfield 51, 3) := by decide +kernel
theorem dX2_makeNew_43 : decode cX2_makeNew 43 = .ok (.aload_n 0, 1) := by decide +kernel
theorem dX2_makeNew_44 : decode cX2_makeNew 44 = .ok (.bipush (-9), 2) := by decide +kernel
theorem dX2_makeNew_46 : decode cX2_makeNew 46 = .ok (.putfield 54, 3) := by decide +kernel
theorem dX2_makeNew_49 : decode cX2_makeNew 49 = .ok (.iconst 0, 1) := by decide +kernel
theorem dX2_makeNew_50 : decode cX2_makeNew 50 = .ok (.istore_n 3, 1) := by decide +kernel
theorem dX2_makeNew_51 : decode cX2_makeNew 51 = .ok (.iload_n 3, 1) := by decide +kernel
theorem dX2_makeNew_52 : decode cX2_makeNew 52 = .ok (.aload_n 0, 1) := by decide +kernel
theorem dX2_makeNew_53 : decode cX2_makeNew 53 = .ok (.getfield 42, 3) := by decide +kernel
theorem dX2_makeNew_56 : decode cX2_makeNew 56 = .ok (.if_icmp .ge 21, 3) := by decide +kernel
theorem dX2_makeNew_59 : decode cX2_makeNew 59 = .ok (.aload_n 0, 1) := by decide +kernel
theorem dX2_makeNew_60 : decode cX2_makeNew 60 = .ok (.getfield 9, 3) := by decide +kernel
theorem dX2_makeNew_63 : decode cX2_makeNew 63 = .ok (.iload_n 3, 1) := by decide +kernel
theorem dX2_makeNew_64 : decode cX2_makeNew 64 = .ok (.iload_n 3, 1) := by decide +kernel
theorem dX2_makeNew_65 : decode cX2_makeNew 65 = .ok (.aload_n 0, 1) := by decide +kernel
theorem dX2_makeNew_66 : decode cX2_makeNew 66 = .ok (.getfield 38, 3) := by decide +kernel
theorem dX2_makeNew_69 : decode cX2_makeNew 69 = .ok (.irem, 1) := by decide +kernel
theorem dX2_makeNew_70 : decode cX2_makeNew 70 = .ok (.iastore, 1) := by decide +kernel
theorem dX2_makeNew_71 : decode cX2_makeNew 71 = .ok (.iinc 3 1, 3) := by decide +kernel
theorem dX2_makeNew_74 : decode cX2_makeNew 74 = .ok (.goto (-23), 3) := by decide +kernel
theorem dX2_makeNew_77 : decode cX2_makeNew 77 = .ok (.iconst 0, 1) := by decide +kernel
theorem dX2_makeNew_78 : decode cX2_makeNew 78 = .ok (.istore_n 3, 1) := by decide +kernel
theorem dX2_makeNew_79 : decode cX2_makeNew 79 = .ok (.iload_n 3, 1) := by decide +kernel
theorem dX2_makeNew_80 : decode cX2_makeNew 80 = .ok (.iconst 4, 1) := by decide +kernel
theorem dX2_makeNew_81 : decode cX2_makeNew 81 = .ok (.if_icmp .ge 16, 3) := by decide +kernel
theorem dX2_makeNew_84 : decode cX2_makeNew 84 = .ok (.aload_n 0, 1) := by decide +kernel
theorem dX2_makeNew_85 : decode cX2_makeNew 85 = .ok (.getfield 15, 3) := by decide +kernel
theorem dX2_makeNew_88 : decode cX2_makeNew 88 = .ok (.iload_n 3, 1) := by decide +kernel
theorem dX2_makeNew_89 : decode cX2_makeNew 89 = .ok (.iconst 2, 1) := by decide +kernel
theorem dX2_makeNew_90 : decode cX2_makeNew 90 = .ok (.iastore, 1) := by decide +kernel
theorem dX2_makeNew_91 : decode cX2_makeNew 91 = .ok (.iinc 3 1, 3) := by decide +kernel
theorem dX2_makeNew_94 : decode cX2_makeNew 94 = .ok (.goto (-15), 3) := by decide +kernel
theorem dX2_makeNew_97 : decode cX2_makeNew 97 = .ok (.iconst 0, 1) := by decide +kernel
theorem dX2_makeNew_98 : decode cX2_makeNew 98 = .ok (.istore_n 3, 1) := by decide +kernel
theorem dX2_makeNew_99 : decode cX2_makeNew 99 = .ok (.iload_n 3, 1) := by decide +kernel
theorem dX2_makeNew_100 : decode cX2_makeNew 100 = .ok (.bipush 6, 2) := by decide +kernel
theorem dX2_makeNew_102 : decode cX2_makeNew 102 = .ok (.if_icmp .ge 18, 3) := by decide +kernel
theorem dX2_makeNew_105 : decode cX2_makeNew 105 = .ok (.aload_n 0, 1) := by decide +kernel
theorem dX2_makeNew_106 : decode cX2_makeNew 106 = .ok (.getfield 20, 3) := by decide +kernel
theorem dX2_makeNew_109 : decode cX2_makeNew 109 = .ok (.iload_n 3, 1) := by decide +kernel
theorem dX2_makeNew_110 : decode cX2_makeNew 110 = .ok (.aaload, 1) := by decide +kernel
theorem dX2_makeNew_111 : decode cX2_makeNew 111 = .ok (.invokevirtual 57, 3) := by decide +kernel
theorem dX2_makeNew_114 : decode cX2_makeNew 114 = .ok (.iinc 3 1, 3) := by decide +kernel
theorem dX2_makeNew_117 : decode cX2_makeNew 117 = .ok (.goto (-18), 3) := by decide +kernel
theorem dX2_makeNew_120 : decode cX2_makeNew 120 = .ok (.return_, 1) := by decide +kernel
theorem dX2_copyFrom_0 : decode cX2_copyFrom 0 = .ok (.aload_n 0, 1) := by decide +kernel
theorem dX2_copyFrom_1 : decode cX2_copyFrom 1 = .ok (.aload_n 1, 1) := by decide +kernel
theorem dX2_copyFrom_2 : decode cX2_copyFrom 2 = .ok (.getfield 38, 3) := by decide +kernel
theorem dX2_copyFrom_5 : decode cX2_copyFrom 5 = .ok (.putfield 38, 3) := by decide +kernel
theorem dX2_copyFrom_8 : decode cX2_copyFrom 8 = .ok (.aload_n 0, 1) := by decide +kernel
theorem dX2_copyFrom_9 : decode cX2_copyFrom 9 = .ok (.aload_n 1, 1) := by decide +kernel
theorem dX2_copyFrom_10 : decode cX2_copyFrom 10 = .ok (.getfield 42, 3) := by decide +kernel
theorem dX2_copyFrom_13 : decode cX2_copyFrom 13 = .ok (.putfield 42, 3) := by decide +kernel
theorem dX2_copyFrom_16 : decode cX2_copyFrom 16 = .ok (.aload_n 0, 1) := by decide +kernel
theorem dX2_copyFrom_17 : decode cX2_copyFrom 17 = .ok (.aload_n 1, 1) := by decide +kernel
theorem dX2_copyFrom_18 : decode cX2_copyFrom 18 = .ok (.getfield 45, 3) := by decide +kernel
theorem dX2_copyFrom_21 : decode cX2_copyFrom 21 = .ok (.putfield 45, 3) := by decide +kernel
theorem dX2_copyFrom_24 : decode cX2_copyFrom 24 = .ok (.aload_n 0, 1) := by decide +kernel
theorem dX2_copyFrom_25 : decode cX2_copyFrom 25 = .ok (.aload_n 1, 1) := by decide +kernel
theorem dX2_copyFrom_26 : decode cX2_copyFrom 26 = .ok (.getfield 48, 3) := by decide +kernel
theorem dX2_copyFrom_29 : decode cX2_copyFrom 29 = .ok (.putfield 48, 3) := by decide +kernel
theorem dX2_copyFrom_32 : decode cX2_copyFrom 32 = .ok (.aload_n 0, 1) := by decide +kernel
theorem dX2_copyFrom_33 : decode cX2_copyFrom 33 = .ok (.aload_n 1, 1) := by decide +kernel
theorem dX2_copyFrom_34 : decode cX2_copyFrom 34 = .ok (.getfield 51, 3) := by decide +kernel
theorem dX2_copyFrom_37 : decode cX2_copyFrom 37 = .ok (.putfield 51, 3) := by decide +kernel
theorem dX2_copyFrom_40 : decode cX2_copyFrom 40 = .ok (.aload_n 0, 1) := by decide +kernel
theorem dX2_copyFrom_41 : decode cX2_copyFrom 41 = .ok (.aload_n 1, 1) := by decide +kernel
theorem dX2_copyFrom_42 : decode cX2_copyFrom 42 = .ok (.getfield 54, 3) := by decide +kernel
theorem dX2_copyFrom_45 : decode cX2_copyFrom 45 = .ok (.putfield 54, 3) := by decide +kernel
theorem dX2_copyFrom_48 : decode cX2_copyFrom 48 = .ok (.iconst 0, 1) := by decide +kernel
theorem dX2_copyFrom_49 : decode cX2_copyFrom 49 = .ok (.istore_n 2, 1) := by decide +kernel
theorem dX2_copyFrom_50 : decode cX2_copyFrom 50 = .ok (.iload_n 2, 1) := by decide +kernel
theorem dX2_copyFrom_51 : decode cX2_copyFrom 51 = .ok (.bipush 16, 2) := by decide +kernel
theorem dX2_copyFrom_53 : decode cX2_copyFrom 53 = .ok (.if_icmp .ge 21, 3) := by decide +kernel
theorem dX2_copyFrom_56 : decode cX2_copyFrom 56 = .ok (.aload_n 0, 1) := by decide +kernel
theorem dX2_copyFrom_57 : decode cX2_copyFrom 57 = .ok (.getfield 9, 3) := by decide +kernel
theorem dX2_copyFrom_60 : decode cX2_copyFrom 60 = .ok (.iload_n 2, 1) := by decide +kernel
theorem dX2_copyFrom_61 : decode cX2_copyFrom 61 = .ok (.aload_n 1, 1) := by decide +kernel
theorem dX2_copyFrom_62 : decode cX2_copyFrom 62 = .ok (.getfield 9, 3) := by decide +kernel
theorem dX2_copyFrom_65 : decode cX2_copyFrom 65 = .ok (.iload_n 2, 1) := by decide +kernel
theorem dX2_copyFrom_66 : decode cX2_copyFrom 66 = .ok (.iaload, 1) := by decide +kernel
theorem dX2_copyFrom_67 : decode cX2_copyFrom 67 = .ok (.iastore, 1) := by decide +kernel
theorem dX2_copyFrom_68 : decode cX2_copyFrom 68 = .ok (.iinc 2 1, 3) := by decide +kernel
theorem dX2_copyFrom_71 : decode cX2_copyFrom 71 = .ok (.goto (-21), 3) := by decide +kernel
theorem dX2_copyFrom_74 : decode cX2_copyFrom 74 = .ok (.iconst 0, 1) := by decide +kernel
theorem dX2_copyFrom_75 : decode cX2_copyFrom 75 = .ok (.istore_n 2, 1) := by decide +kernel
theorem dX2_copyFrom_76 : decode cX2_copyFrom 76 = .ok (.iload_n 2, 1) := by decide +kernel
theorem dX2_copyFrom_77 : decode cX2_copyFrom 77 = .ok (.iconst 4, 1) := by decide +kernel
theorem dX2_copyFrom_78 : decode cX2_copyFrom 78 = .ok (.if_icmp .ge 21, 3) := by decide +kernel
theorem dX2_copyFrom_81 : decode cX2_copyFrom 81 = .ok (.aload_n 0, 1) := by decide +kernel
theorem dX2_copyFrom_82 : decode cX2_copyFrom 82 = .ok (.getfield 15, 3) := by decide +kernel
theorem dX2_copyFrom_85 : decode cX2_copyFrom 85 = .ok (.iload_n 2, 1) := by decide +kernel
theorem dX2_copyFrom_86 : decode cX2_copyFrom 86 = .ok (.aload_n 1, 1) := by decide +kernel
theorem dX2_copyFrom_87 : decode cX2_copyFrom 87 = .ok (.getfield 15, 3) := by decide +kernel
theorem dX2_copyFrom_90 : decode cX2_copyFrom 90 = .ok (.iload_n 2, 1) := by decide +kernel
theorem dX2_copyFrom_91 : decode cX2_copyFrom 91 = .ok (.iaload, 1) := by decide +kernel
theorem dX2_copyFrom_92 : decode cX2_copyFrom 92 = .ok (.iastore, 1) := by decide +kernel
theorem dX2_copyFrom_93 : decode cX2_copyFrom 93 = .ok (.iinc 2 1, 3) := by decide +kernel
theorem dX2_copyFrom_96 : decode cX2_copyFrom 96 = .ok (.goto (-20), 3) := by decide +kernel
theorem dX2_copyFrom_99 : decode cX2_copyFrom 99 = .ok (.iconst 0, 1) := by decide +kernel
theorem dX2_copyFrom_100 : decode cX2_copyFrom 100 = .ok (.istore_n 2, 1) := by decide +kernel
theorem dX2_copyFrom_101 : decode cX2_copyFrom 101 = .ok (.iload_n 2, 1) := by decide +kernel
theorem dX2_copyFrom_102 : decode cX2_copyFrom 102 = .ok (.bipush 6, 2) := by decide +kernel
theorem dX2_copyFrom_104 : decode cX2_copyFrom 104 = .ok (.if_icmp .ge 24, 3) := by decide +kernel
theorem dX2_copyFrom_107 : decode cX2_copyFrom 107 = .ok (.aload_n 0, 1) := by decide +kernel
theorem dX2_copyFrom_108 : decode cX2_copyFrom 108 = .ok (.getfield 20, 3) := by decide +kernel
theorem dX2_copyFrom_111 : decode cX2_copyFrom 111 = .ok (.iload_n 2, 1) := by decide +kernel
theorem dX2_copyFrom_112 : decode cX2_copyFrom 112 = .ok (.aaload, 1) := by decide +kernel
theorem dX2_copyFrom_113 : decode cX2_copyFrom 113 = .ok (.aload_n 1, 1) := by decide +kernel
theorem dX2_copyFrom_114 : decode cX2_copyFrom 114 = .ok (.getfield 20, 3) := by decide +kernel
theorem dX2_copyFrom_117 : decode cX2_copyFrom 117 = .ok (.iload_n 2, 1) := by decide +kernel
theorem dX2_copyFrom_118 : decode cX2_copyFrom 118 = .ok (.aaload, 1) := by decide +kernel
theorem dX2_copyFrom_119 : decode cX2_copyFrom 119 = .ok (.invokevirtual 59, 3) := by decide +kernel
theorem dX2_copyFrom_122 : decode cX2_copyFrom 122 = .ok (.iinc 2 1, 3) := by decide +kernel
theorem dX2_copyFrom_125 : decode cX2_copyFrom 125 = .ok (.goto (-24), 3) := by decide +kernel
theorem dX2_copyFrom_128 : decode cX2_copyFrom 128 = .ok (.return_, 1) := by decide +kernel
theorem dX2_hasMaster_0 : decode cX2_hasMaster 0 = .ok (.iload_n 1, 1) := by decide +kernel
theorem dX2_hasMaster_1 : decode cX2_hasMaster 1 = .ok (.ifCond .lt 21, 3) := by decide +kernel
theorem dX2_hasMaster_4 : decode cX2_hasMaster 4 = .ok (.iload_n 1, 1) := by decide +kernel
theorem dX2_hasMaster_5 : decode cX2_hasMaster 5 = .ok (.aload_n 0, 1) := by decide +kernel
theorem dX2_hasMaster_6 : decode cX2_hasMaster 6 = .ok (.getfield 38, 3) := by decide +kernel
theorem dX2_hasMaster_9 : decode cX2_hasMaster 9 = .ok (.if_icmp .ge 13, 3) := by decide +kernel
theorem dX2_hasMaster_12 : decode cX2_hasMaster 12 = .ok (.iload_n 1, 1) := by decide +kernel
theorem dX2_hasMaster_13 : decode cX2_hasMaster 13 = .ok (.bipush 6, 2) := by decide +kernel
theorem dX2_hasMaster_15 : decode cX2_hasMaster 15 = .ok (.if_icmp .ge 7, 3) := by decide +kernel
theorem dX2_hasMaster_18 : decode cX2_hasMaster 18 = .ok (.iconst 1, 1) := by decide +kernel
theorem dX2_hasMaster_19 : decode cX2_hasMaster 19 = .ok (.goto 4, 3) := by decide +kernel
theorem dX2_hasMaster_22 : decode cX2_hasMaster 22 = .ok (.iconst 0, 1) := by decide +kernel
theorem dX2_hasMaster_23 : decode cX2_hasMaster 23 = .ok (.ireturn, 1) := by decide +kernel
theorem dX2_hasSlot_0 : decode cX2_hasSlot 0 = .ok (.iload_n 1, 1) := by decide +kernel
theorem dX2_hasSlot_1 : decode cX2_hasSlot 1 = .ok (.ifCond .lt 21, 3) := by decide +kernel
theorem dX2_hasSlot_4 : decode cX2_hasSlot 4 = .ok (.iload_n 1, 1) := by decide +kernel
theorem dX2_hasSlot_5 : decode cX2_hasSlot 5 = .ok (.aload_n 0, 1) := by decide +kernel
theorem dX2_hasSlot_6 : decode cX2_hasSlot 6 = .ok (.getfield 42, 3) := by decide +kernel
theorem dX2_hasSlot_9 : decode cX2_hasSlot 9 = .ok (.if_icmp .ge 13, 3) := by decide +kernel
theorem dX2_hasSlot_12 : decode cX2_hasSlot 12 = .ok (.iload_n 1, 1) := by decide +kernel
theorem dX2_hasSlot_13 : decode cX2_hasSlot 13 = .ok (.bipush 16, 2) := by decide +kernel
theorem dX2_hasSlot_15 : decode cX2_hasSlot 15 = .ok (.if_icmp .ge 7, 3) := by decide +kernel
theorem dX2_hasSlot_18 : decode cX2_hasSlot 18 = .ok (.iconst 1, 1) := by decide +kernel
theorem dX2_hasSlot_19 : decode cX2_hasSlot 19 = .ok (.goto 4, 3) := by decide +kernel
theorem dX2_hasSlot_22 : decode cX2_hasSlot 22 = .ok (.iconst 0, 1) := by decide +kernel
theorem dX2_hasSlot_23 : decode cX2_hasSlot 23 = .ok (.ireturn, 1) := by decide +kernel
theorem dX2_join_0 : decode cX2_join 0 = .ok (.aload_n 0, 1) := by decide +kernel
theorem dX2_join_1 : decode cX2_join 1 = .ok (.getfield 38, 3) := by decide +kernel
theorem dX2_join_4 : decode cX2_join 4 = .ok (.bipush 6, 2) := by decide +kernel
theorem dX2_join_6 : decode cX2_join 6 = .ok (.if_icmp .lt 6, 3) := by decide +kernel
theorem dX2_join_9 : decode cX2_join 9 = .ok (.bipush (-9), 2) := by decide +kernel
theorem dX2_join_11 : decode cX2_join 11 = .ok (.ireturn, 1) := by decide +kernel
theorem dX2_join_12 : decode cX2_join 12 = .ok (.aload_n 0, 1) := by decide +kernel
theorem dX2_join_13 : decode cX2_join 13 = .ok (.getfield 20, 3) := by decide +kernel
theorem dX2_join_16 : decode cX2_join 16 = .ok (.aload_n 0, 1) := by decide +kernel
theorem dX2_join_17 : decode cX2_join 17 = .ok (.getfield 38, 3) := by decide +kernel
theorem dX2_join_20 : decode cX2_join 20 = .ok (.aaload, 1) := by decide +kernel
theorem dX2_join_21 : decode cX2_join 21 = .ok (.invokevirtual 57, 3) := by decide +kernel
theorem dX2_join_24 : decode cX2_join 24 = .ok (.aload_n 0, 1) := by decide +kernel
theorem dX2_join_25 : decode cX2_join 25 = .ok (.dup, 1) := by decide +kernel
theorem dX2_join_26 : decode cX2_join 26 = .ok (.getfield 38, 3) := by decide +kernel
theorem dX2_join_29 : decode cX2_join 29 = .ok (.iconst 1, 1) := by decide +kernel
theorem dX2_join_30 : decode cX2_join 30 = .ok (.iadd, 1) := by decide +kernel
theorem dX2_join_31 : decode cX2_join 31 = .ok (.putfield 38, 3) := by decide +kernel
theorem dX2_join_34 : decode cX2_join 34 = .ok (.aload_n 0, 1) := by decide +kernel
theorem dX2_join_35 : decode cX2_join 35 = .ok (.getfield 38, 3) := by decide +kernel
theorem dX2_join_38 : decode cX2_join 38 = .ok (.iconst 1, 1) := by decide +kernel
theorem dX2_join_39 : decode cX2_join 39 = .ok (.isub, 1) := by decide +kernel
theorem dX2_join_40 : decode cX2_join 40 = .ok (.ireturn, 1) := by decide +kernel
theorem dX2_slotsOf_0 : decode cX2_slotsOf 0 = .ok (.iconst 0, 1) := by decide +kernel
theorem dX2_slotsOf_1 : decode cX2_slotsOf 1 = .ok (.istore_n 2, 1) := by decide +kernel
theorem dX2_slotsOf_2 : decode cX2_slotsOf 2 = .ok (.iconst 0, 1) := by decide +kernel
theorem dX2_slotsOf_3 : decode cX2_slotsOf 3 = .ok (.istore_n 3, 1) := by decide +kernel
theorem dX2_slotsOf_4 : decode cX2_slotsOf 4 = .ok (.iload_n 3, 1) := by decide +kernel
theorem dX2_slotsOf_5 : decode cX2_slotsOf 5 = .ok (.aload_n 0, 1) := by decide +kernel
theorem dX2_slotsOf_6 : decode cX2_slotsOf 6 = .ok (.getfield 42, 3) := by decide +kernel
theorem dX2_slotsOf_9 : decode cX2_slotsOf 9 = .ok (.if_icmp .ge 22, 3) := by decide +kernel
theorem dX2_slotsOf_12 : decode cX2_slotsOf 12 = .ok (.aload_n 0, 1) := by decide +kernel
theorem dX2_slotsOf_13 : decode cX2_slotsOf 13 = .ok (.getfield 9, 3) := by decide +kernel
theorem dX2_slotsOf_16 : decode cX2_slotsOf 16 = .ok (.iload_n 3, 1) := by decide +kernel
theorem dX2_slotsOf_17 : decode cX2_slotsOf 17 = .ok (.iaload, 1) := by decide +kernel
theorem dX2_slotsOf_18 : decode cX2_slotsOf 18 = .ok (.iload_n 1, 1) := by decide +kernel
theorem dX2_slotsOf_19 : decode cX2_slotsOf 19 = .ok (.if_icmp .ne 6, 3) := by decide +kernel
theorem dX2_slotsOf_22 : decode cX2_slotsOf 22 = .ok (.iinc 2 1, 3) := by decide +kernel
theorem dX2_slotsOf_25 : decode cX2_slotsOf 25 = .ok (.iinc 3 1, 3) := by decide +kernel
theorem dX2_slotsOf_28 : decode cX2_slotsOf 28 = .ok (.goto (-24), 3) := by decide +kernel
theorem dX2_slotsOf_31 : decode cX2_slotsOf 31 = .ok (.iload_n 2, 1) := by decide +kernel
theorem dX2_slotsOf_32 : decode cX2_slotsOf 32 = .ok (.ireturn, 1) := by decide +kernel
theorem dX2_owedTo_0 : decode cX2_owedTo 0 = .ok (.iconst 0, 1) := by decide +kernel
theorem dX2_owedTo_1 : decode cX2_owedTo 1 = .ok (.istore_n 2, 1) := by decide +kernel
theorem dX2_owedTo_2 : decode cX2_owedTo 2 = .ok (.aload_n 0, 1) := by decide +kernel
theorem dX2_owedTo_3 : decode cX2_owedTo 3 = .ok (.iload_n 1, 1) := by decide +kernel
theorem dX2_owedTo_4 : decode cX2_owedTo 4 = .ok (.invokevirtual 63, 3) := by decide +kernel
theorem dX2_owedTo_7 : decode cX2_owedTo 7 = .ok (.ifCond .eq 33, 3) := by decide +kernel
theorem dX2_owedTo_10 : decode cX2_owedTo 10 = .ok (.iconst 0, 1) := by decide +kernel
theorem dX2_owedTo_11 : decode cX2_owedTo 11 = .ok (.istore_n 3, 1) := by decide +kernel
theorem dX2_owedTo_12 : decode cX2_owedTo 12 = .ok (.iload_n 3, 1) := by decide +kernel
theorem dX2_owedTo_13 : decode cX2_owedTo 13 = .ok (.aload_n 0, 1) := by decide +kernel
theorem dX2_owedTo_14 : decode cX2_owedTo 14 = .ok (.getfield 38, 3) := by decide +kernel
theorem dX2_owedTo_17 : decode cX2_owedTo 17 = .ok (.if_icmp .ge 23, 3) := by decide +kernel
theorem dX2_owedTo_20 : decode cX2_owedTo 20 = .ok (.iload_n 2, 1) := by decide +kernel
theorem dX2_owedTo_21 : decode cX2_owedTo 21 = .ok (.aload_n 0, 1) := by decide +kernel
theorem dX2_owedTo_22 : decode cX2_owedTo 22 = .ok (.getfield 20, 3) := by decide +kernel
theorem dX2_owedTo_25 : decode cX2_owedTo 25 = .ok (.iload_n 3, 1) := by decide +kernel
theorem dX2_owedTo_26 : decode cX2_owedTo 26 = .ok (.aaload, 1) := by decide +kernel
theorem dX2_owedTo_27 : decode cX2_owedTo 27 = .ok (.getfield 67, 3) := by decide +kernel
theorem dX2_owedTo_30 : decode cX2_owedTo 30 = .ok (.iload_n 1, 1) := by decide +kernel
theorem dX2_owedTo_31 : decode cX2_owedTo 31 = .ok (.iaload, 1) := by decide +kernel
theorem dX2_owedTo_32 : decode cX2_owedTo 32 = .ok (.iadd, 1) := by decide +kernel
theorem dX2_owedTo_33 : decode cX2_owedTo 33 = .ok (.istore_n 2, 1) := by decide +kernel
theorem dX2_owedTo_34 : decode cX2_owedTo 34 = .ok (.iinc 3 1, 3) := by decide +kernel
theorem dX2_owedTo_37 : decode cX2_owedTo 37 = .ok (.goto (-25), 3) := by decide +kernel
theorem dX2_owedTo_40 : decode cX2_owedTo 40 = .ok (.iload_n 2, 1) := by decide +kernel
theorem dX2_owedTo_41 : decode cX2_owedTo 41 = .ok (.ireturn, 1) := by decide +kernel
theorem dX2_allDebts_0 : decode cX2_allDebts 0 = .ok (.iconst 0, 1) := by decide +kernel
theorem dX2_allDebts_1 : decode cX2_allDebts 1 = .ok (.istore_n 1, 1) := by decide +kernel
theorem dX2_allDebts_2 : decode cX2_allDebts 2 = .ok (.iconst 0, 1) := by decide +kernel
theorem dX2_allDebts_3 : decode cX2_allDebts 3 = .ok (.istore_n 2, 1) := by decide +kernel
theorem dX2_allDebts_4 : decode cX2_allDebts 4 = .ok (.iload_n 2, 1) := by decide +kernel
theorem dX2_allDebts_5 : decode cX2_allDebts 5 = .ok (.aload_n 0, 1) := by decide +kernel
theorem dX2_allDebts_6 : decode cX2_allDebts 6 = .ok (.getfield 38, 3) := by decide +kernel
theorem dX2_allDebts_9 : decode cX2_allDebts 9 = .ok (.if_icmp .ge 21, 3) := by decide +kernel
theorem dX2_allDebts_12 : decode cX2_allDebts 12 = .ok (.iload_n 1, 1) := by decide +kernel
theorem dX2_allDebts_13 : decode cX2_allDebts 13 = .ok (.aload_n 0, 1) := by decide +kernel
theorem dX2_allDebts_14 : decode cX2_allDebts 14 = .ok (.getfield 20, 3) := by decide +kernel
theorem dX2_allDebts_17 : decode cX2_allDebts 17 = .ok (.iload_n 2, 1) := by decide +kernel
theorem dX2_allDebts_18 : decode cX2_allDebts 18 = .ok (.aaload, 1) := by decide +kernel
theorem dX2_allDebts_19 : decode cX2_allDebts 19 = .ok (.invokevirtual 70, 3) := by decide +kernel
theorem dX2_allDebts_22 : decode cX2_allDebts 22 = .ok (.iadd, 1) := by decide +kernel
theorem dX2_allDebts_23 : decode cX2_allDebts 23 = .ok (.istore_n 1, 1) := by decide +kernel
theorem dX2_allDebts_24 : decode cX2_allDebts 24 = .ok (.iinc 2 1, 3) := by decide +kernel
theorem dX2_allDebts_27 : decode cX2_allDebts 27 = .ok (.goto (-23), 3) := by decide +kernel
theorem dX2_allDebts_30 : decode cX2_allDebts 30 = .ok (.iload_n 1, 1) := by decide +kernel
theorem dX2_allDebts_31 : decode cX2_allDebts 31 = .ok (.ireturn, 1) := by decide +kernel
theorem dX2_waitingBursts_0 : decode cX2_waitingBursts 0 = .ok (.iconst 0, 1) := by decide +kernel
theorem dX2_waitingBursts_1 : decode cX2_waitingBursts 1 = .ok (.istore_n 1, 1) := by decide +kernel
theorem dX2_waitingBursts_2 : decode cX2_waitingBursts 2 = .ok (.iconst 0, 1) := by decide +kernel
theorem dX2_waitingBursts_3 : decode cX2_waitingBursts 3 = .ok (.istore_n 2, 1) := by decide +kernel
theorem dX2_waitingBursts_4 : decode cX2_waitingBursts 4 = .ok (.iload_n 2, 1) := by decide +kernel
theorem dX2_waitingBursts_5 : decode cX2_waitingBursts 5 = .ok (.aload_n 0, 1) := by decide +kernel
theorem dX2_waitingBursts_6 : decode cX2_waitingBursts 6 = .ok (.getfield 38, 3) := by decide +kernel
theorem dX2_waitingBursts_9 : decode cX2_waitingBursts 9 = .ok (.if_icmp .ge 24, 3) := by decide +kernel
theorem dX2_waitingBursts_12 : decode cX2_waitingBursts 12 = .ok (.iload_n 1, 1) := by decide +kernel
theorem dX2_waitingBursts_13 : decode cX2_waitingBursts 13 = .ok (.aload_n 0, 1) := by decide +kernel
theorem dX2_waitingBursts_14 : decode cX2_waitingBursts 14 = .ok (.getfield 20, 3) := by decide +kernel
theorem dX2_waitingBursts_17 : decode cX2_waitingBursts 17 = .ok (.iload_n 2, 1) := by decide +kernel
theorem dX2_waitingBursts_18 : decode cX2_waitingBursts 18 = .ok (.aaload, 1) := by decide +kernel
theorem dX2_waitingBursts_19 : decode cX2_waitingBursts 19 = .ok (.getfield 74, 3) := by decide +kernel
theorem dX2_waitingBursts_22 : decode cX2_waitingBursts 22 = .ok (.getfield 78, 3) := by decide +kernel
theorem dX2_waitingBursts_25 : decode cX2_waitingBursts 25 = .ok (.iadd, 1) := by decide +kernel
theorem dX2_waitingBursts_26 : decode cX2_waitingBursts 26 = .ok (.istore_n 1, 1) := by decide +kernel
theorem dX2_waitingBursts_27 : decode cX2_waitingBursts 27 = .ok (.iinc 2 1, 3) := by decide +kernel
theorem dX2_waitingBursts_30 : decode cX2_waitingBursts 30 = .ok (.goto (-26), 3) := by decide +kernel
theorem dX2_waitingBursts_33 : decode cX2_waitingBursts 33 = .ok (.iload_n 1, 1) := by decide +kernel
theorem dX2_waitingBursts_34 : decode cX2_waitingBursts 34 = .ok (.ireturn, 1) := by decide +kernel
theorem dX2_openAnswers_0 : decode cX2_openAnswers 0 = .ok (.iconst 0, 1) := by decide +kernel
theorem dX2_openAnswers_1 : decode cX2_openAnswers 1 = .ok (.istore_n 1, 1) := by decide +kernel
theorem dX2_openAnswers_2 : decode cX2_openAnswers 2 = .ok (.iconst 0, 1) := by decide +kernel
theorem dX2_openAnswers_3 : decode cX2_openAnswers 3 = .ok (.istore_n 2, 1) := by decide +kernel
theorem dX2_openAnswers_4 : decode cX2_openAnswers 4 = .ok (.iload_n 2, 1) := by decide +kernel
theorem dX2_openAnswers_5 : decode cX2_openAnswers 5 = .ok (.aload_n 0, 1) := by decide +kernel
theorem dX2_openAnswers_6 : decode cX2_openAnswers 6 = .ok (.getfield 38, 3) := by decide +kernel
theorem dX2_openAnswers_9 : decode cX2_openAnswers 9 = .ok (.if_icmp .ge 24, 3) := by decide +kernel
theorem dX2_openAnswers_12 : decode cX2_openAnswers 12 = .ok (.iload_n 1, 1) := by decide +kernel
theorem dX2_openAnswers_13 : decode cX2_openAnswers 13 = .ok (.aload_n 0, 1) := by decide +kernel
theorem dX2_openAnswers_14 : decode cX2_openAnswers 14 = .ok (.getfield 20, 3) := by decide +kernel
theorem dX2_openAnswers_17 : decode cX2_openAnswers 17 = .ok (.iload_n 2, 1) := by decide +kernel
theorem dX2_openAnswers_18 : decode cX2_openAnswers 18 = .ok (.aaload, 1) := by decide +kernel
theorem dX2_openAnswers_19 : decode cX2_openAnswers 19 = .ok (.getfield 83, 3) := by decide +kernel
theorem dX2_openAnswers_22 : decode cX2_openAnswers 22 = .ok (.getfield 87, 3) := by decide +kernel
theorem dX2_openAnswers_25 : decode cX2_openAnswers 25 = .ok (.iadd, 1) := by decide +kernel
theorem dX2_openAnswers_26 : decode cX2_openAnswers 26 = .ok (.istore_n 1, 1) := by decide +kernel
theorem dX2_openAnswers_27 : decode cX2_openAnswers 27 = .ok (.iinc 2 1, 3) := by decide +kernel
theorem dX2_openAnswers_30 : decode cX2_openAnswers 30 = .ok (.goto (-26), 3) := by decide +kernel
theorem dX2_openAnswers_33 : decode cX2_openAnswers 33 = .ok (.iload_n 1, 1) := by decide +kernel
theorem dX2_openAnswers_34 : decode cX2_openAnswers 34 = .ok (.ireturn, 1) := by decide +kernel
theorem dX2_bankruptBits_0 : decode cX2_bankruptBits 0 = .ok (.iconst 0, 1) := by decide +kernel
theorem dX2_bankruptBits_1 : decode cX2_bankruptBits 1 = .ok (.istore_n 1, 1) := by decide +kernel
theorem dX2_bankruptBits_2 : decode cX2_bankruptBits 2 = .ok (.iconst 0, 1) := by decide +kernel
theorem dX2_bankruptBits_3 : decode cX2_bankruptBits 3 = .ok (.istore_n 2, 1) := by decide +kernel
theorem dX2_bankruptBits_4 : decode cX2_bankruptBits 4 = .ok (.iload_n 2, 1) := by decide +kernel
theorem dX2_bankruptBits_5 : decode cX2_bankruptBits 5 = .ok (.aload_n 0, 1) := by decide +kernel
theorem dX2_bankruptBits_6 : decode cX2_bankruptBits 6 = .ok (.getfield 38, 3) := by decide +kernel
theorem dX2_bankruptBits_9 : decode cX2_bankruptBits 9 = .ok (.if_icmp .ge 27, 3) := by decide +kernel
theorem dX2_bankruptBits_12 : decode cX2_bankruptBits 12 = .ok (.aload_n 0, 1) := by decide +kernel
theorem dX2_bankruptBits_13 : decode cX2_bankruptBits 13 = .ok (.getfield 20, 3) := by decide +kernel
theorem dX2_bankruptBits_16 : decode cX2_bankruptBits 16 = .ok (.iload_n 2, 1) := by decide +kernel
theorem dX2_bankruptBits_17 : decode cX2_bankruptBits 17 = .ok (.aaload, 1) := by decide +kernel
theorem dX2_bankruptBits_18 : decode cX2_bankruptBits 18 = .ok (.getfield 90, 3) := by decide +kernel
theorem dX2_bankruptBits_21 : decode cX2_bankruptBits 21 = .ok (.ifCond .eq 9, 3) := by decide +kernel
theorem dX2_bankruptBits_24 : decode cX2_bankruptBits 24 = .ok (.iload_n 1, 1) := by decide +kernel
theorem dX2_bankruptBits_25 : decode cX2_bankruptBits 25 = .ok (.iconst 1, 1) := by decide +kernel
theorem dX2_bankruptBits_26 : decode cX2_bankruptBits 26 = .ok (.iload_n 2, 1) := by decide +kernel
theorem dX2_bankruptBits_27 : decode cX2_bankruptBits 27 = .ok (.ishl, 1) := by decide +kernel
theorem dX2_bankruptBits_28 : decode cX2_bankruptBits 28 = .ok (.ior, 1) := by decide +kernel
theorem dX2_bankruptBits_29 : decode cX2_bankruptBits 29 = .ok (.istore_n 1, 1) := by decide +kernel
theorem dX2_bankruptBits_30 : decode cX2_bankruptBits 30 = .ok (.iinc 2 1, 3) := by decide +kernel
theorem dX2_bankruptBits_33 : decode cX2_bankruptBits 33 = .ok (.goto (-29), 3) := by decide +kernel
theorem dX2_bankruptBits_36 : decode cX2_bankruptBits 36 = .ok (.iload_n 1, 1) := by decide +kernel
theorem dX2_bankruptBits_37 : decode cX2_bankruptBits 37 = .ok (.ireturn, 1) := by decide +kernel
theorem dX2_mastersAhead_0 : decode cX2_mastersAhead 0 = .ok (.aload_n 0, 1) := by decide +kernel
theorem dX2_mastersAhead_1 : decode cX2_mastersAhead 1 = .ok (.iload_n 1, 1) := by decide +kernel
theorem dX2_mastersAhead_2 : decode cX2_mastersAhead 2 = .ok (.invokevirtual 63, 3) := by decide +kernel
theorem dX2_mastersAhead_5 : decode cX2_mastersAhead 5 = .ok (.ifCond .ne 6, 3) := by decide +kernel
theorem dX2_mastersAhead_8 : decode cX2_mastersAhead 8 = .ok (.bipush (-9), 2) := by decide +kernel
theorem dX2_mastersAhead_10 : decode cX2_mastersAhead 10 = .ok (.ireturn, 1) := by decide +kernel
theorem dX2_mastersAhead_11 : decode cX2_mastersAhead 11 = .ok (.aload_n 0, 1) := by decide +kernel
theorem dX2_mastersAhead_12 : decode cX2_mastersAhead 12 = .ok (.getfield 20, 3) := by decide +kernel
theorem dX2_mastersAhead_15 : decode cX2_mastersAhead 15 = .ok (.iload_n 1, 1) := by decide +kernel
theorem dX2_mastersAhead_16 : decode cX2_mastersAhead 16 = .ok (.aaload, 1) := by decide +kernel
theorem dX2_mastersAhead_17 : decode cX2_mastersAhead 17 = .ok (.invokevirtual 70, 3) := by decide +kernel
theorem dX2_mastersAhead_20 : decode cX2_mastersAhead 20 = .ok (.istore_n 2, 1) := by decide +kernel
theorem dX2_mastersAhead_21 : decode cX2_mastersAhead 21 = .ok (.iconst 0, 1) := by decide +kernel
theorem dX2_mastersAhead_22 : decode cX2_mastersAhead 22 = .ok (.istore_n 3, 1) := by decide +kernel
theorem dX2_mastersAhead_23 : decode cX2_mastersAhead 23 = .ok (.iconst 0, 1) := by decide +kernel
theorem dX2_mastersAhead_24 : decode cX2_mastersAhead 24 = .ok (.istore 4, 2) := by decide +kernel
theorem dX2_mastersAhead_26 : decode cX2_mastersAhead 26 = .ok (.iload 4, 2) := by decide +kernel
theorem dX2_mastersAhead_28 : decode cX2_mastersAhead 28 = .ok (.aload_n 0, 1) := by decide +kernel
theorem dX2_mastersAhead_29 : decode cX2_mastersAhead 29 = .ok (.getfield 38, 3) := by decide +kernel
theorem dX2_mastersAhead_32 : decode cX2_mastersAhead 32 = .ok (.if_icmp .ge 42, 3) := by decide +kernel
theorem dX2_mastersAhead_35 : decode cX2_mastersAhead 35 = .ok (.aload_n 0, 1) := by decide +kernel
theorem dX2_mastersAhead_36 : decode cX2_mastersAhead 36 = .ok (.getfield 20, 3) := by decide +kernel
theorem dX2_mastersAhead_39 : decode cX2_mastersAhead 39 = .ok (.iload 4, 2) := by decide +kernel
theorem dX2_mastersAhead_41 : decode cX2_mastersAhead 41 = .ok (.aaload, 1) := by decide +kernel
theorem dX2_mastersAhead_42 : decode cX2_mastersAhead 42 = .ok (.invokevirtual 70, 3) := by decide +kernel
theorem dX2_mastersAhead_45 : decode cX2_mastersAhead 45 = .ok (.istore 5, 2) := by decide +kernel
theorem dX2_mastersAhead_47 : decode cX2_mastersAhead 47 = .ok (.iload 5, 2) := by decide +kernel
theorem dX2_mastersAhead_49 : decode cX2_mastersAhead 49 = .ok (.iload_n 2, 1) := by decide +kernel
theorem dX2_mastersAhead_50 : decode cX2_mastersAhead 50 = .ok (.if_icmp .gt 15, 3) := by decide +kernel
theorem dX2_mastersAhead_53 : decode cX2_mastersAhead 53 = .ok (.iload 5, 2) := by decide +kernel
theorem dX2_mastersAhead_55 : decode cX2_mastersAhead 55 = .ok (.iload_n 2, 1) := by decide +kernel
theorem dX2_mastersAhead_56 : decode cX2_mastersAhead 56 = .ok (.if_icmp .ne 12, 3) := by decide +kernel
theorem dX2_mastersAhead_59 : decode cX2_mastersAhead 59 = .ok (.iload 4, 2) := by decide +kernel
theorem dX2_mastersAhead_61 : decode cX2_mastersAhead 61 = .ok (.iload_n 1, 1) := by decide +kernel
theorem dX2_mastersAhead_62 : decode cX2_mastersAhead 62 = .ok (.if_icmp .ge 6, 3) := by decide +kernel
theorem dX2_mastersAhead_65 : decode cX2_mastersAhead 65 = .ok (.iinc 3 1, 3) := by decide +kernel
theorem dX2_mastersAhead_68 : decode cX2_mastersAhead 68 = .ok (.iinc 4 1, 3) := by decide +kernel
theorem dX2_mastersAhead_71 : decode cX2_mastersAhead 71 = .ok (.goto (-45), 3) := by decide +kernel
theorem dX2_mastersAhead_74 : decode cX2_mastersAhead 74 = .ok (.iload_n 3, 1) := by decide +kernel
theorem dX2_mastersAhead_75 : decode cX2_mastersAhead 75 = .ok (.ireturn, 1) := by decide +kernel
theorem dX2_step_0 : decode cX2_step 0 = .ok (.iconst 0, 1) := by decide +kernel
theorem dX2_step_1 : decode cX2_step 1 = .ok (.istore_n 1, 1) := by decide +kernel
theorem dX2_step_2 : decode cX2_step 2 = .ok (.iload_n 1, 1) := by decide +kernel
theorem dX2_step_3 : decode cX2_step 3 = .ok (.aload_n 0, 1) := by decide +kernel
theorem dX2_step_4 : decode cX2_step 4 = .ok (.getfield 38, 3) := by decide +kernel
theorem dX2_step_7 : decode cX2_step 7 = .ok (.if_icmp .ge 22, 3) := by decide +kernel
theorem dX2_step_10 : decode cX2_step 10 = .ok (.aload_n 0, 1) := by decide +kernel
theorem dX2_step_11 : decode cX2_step 11 = .ok (.getfield 20, 3) := by decide +kernel
theorem dX2_step_14 : decode cX2_step 14 = .ok (.iload_n 1, 1) := by decide +kernel
theorem dX2_step_15 : decode cX2_step 15 = .ok (.aaload, 1) := by decide +kernel
theorem dX2_step_16 : decode cX2_step 16 = .ok (.aload_n 0, 1) := by decide +kernel
theorem dX2_step_17 : decode cX2_step 17 = .ok (.getfield 45, 3) := by decide +kernel
theorem dX2_step_20 : decode cX2_step 20 = .ok (.invokevirtual 94, 3) := by decide +kernel
theorem dX2_step_23 : decode cX2_step 23 = .ok (.iinc 1 1, 3) := by decide +kernel
theorem dX2_step_26 : decode cX2_step 26 = .ok (.goto (-24), 3) := by decide +kernel
theorem dX2_step_29 : decode cX2_step 29 = .ok (.aload_n 0, 1) := by decide +kernel
theorem dX2_step_30 : decode cX2_step 30 = .ok (.aload_n 0, 1) := by decide +kernel
theorem dX2_step_31 : decode cX2_step 31 = .ok (.aload_n 0, 1) := by decide +kernel
theorem dX2_step_32 : decode cX2_step 32 = .ok (.invokevirtual 98, 3) := by decide +kernel
theorem dX2_step_35 : decode cX2_step 35 = .ok (.invokevirtual 101, 3) := by decide +kernel
theorem dX2_step_38 : decode cX2_step 38 = .ok (.putfield 54, 3) := by decide +kernel
theorem dX2_step_41 : decode cX2_step 41 = .ok (.aload_n 0, 1) := by decide +kernel
theorem dX2_step_42 : decode cX2_step 42 = .ok (.aload_n 0, 1) := by decide +kernel
theorem dX2_step_43 : decode cX2_step 43 = .ok (.getfield 54, 3) := by decide +kernel
theorem dX2_step_46 : decode cX2_step 46 = .ok (.invokevirtual 63, 3) := by decide +kernel
theorem dX2_step_49 : decode cX2_step 49 = .ok (.ifCond .eq 19, 3) := by decide +kernel
theorem dX2_step_52 : decode cX2_step 52 = .ok (.aload_n 0, 1) := by decide +kernel
theorem dX2_step_53 : decode cX2_step 53 = .ok (.aload_n 0, 1) := by decide +kernel
theorem dX2_step_54 : decode cX2_step 54 = .ok (.getfield 20, 3) := by decide +kernel
theorem dX2_step_57 : decode cX2_step 57 = .ok (.aload_n 0, 1) := by decide +kernel
theorem dX2_step_58 : decode cX2_step 58 = .ok (.getfield 54, 3) := by decide +kernel
theorem dX2_step_61 : decode cX2_step 61 = .ok (.aaload, 1) := by decide +kernel
theorem dX2_step_62 : decode cX2_step 62 = .ok (.invokevirtual 105, 3) := by decide +kernel
theorem dX2_step_65 : decode cX2_step 65 = .ok (.goto 13, 3) := by decide +kernel
theorem dX2_step_68 : decode cX2_step 68 = .ok (.aload_n 0, 1) := by decide +kernel
theorem dX2_step_69 : decode cX2_step 69 = .ok (.dup, 1) := by decide +kernel
theorem dX2_step_70 : decode cX2_step 70 = .ok (.getfield 48, 3) := by decide +kernel
theorem dX2_step_73 : decode cX2_step 73 = .ok (.iconst 1, 1) := by decide +kernel
theorem dX2_step_74 : decode cX2_step 74 = .ok (.iadd, 1) := by decide +kernel
theorem dX2_step_75 : decode cX2_step 75 = .ok (.putfield 48, 3) := by decide +kernel
theorem dX2_step_78 : decode cX2_step 78 = .ok (.iconst 0, 1) := by decide +kernel
theorem dX2_step_79 : decode cX2_step 79 = .ok (.istore_n 1, 1) := by decide +kernel
theorem dX2_step_80 : decode cX2_step 80 = .ok (.iload_n 1, 1) := by decide +kernel
theorem dX2_step_81 : decode cX2_step 81 = .ok (.aload_n 0, 1) := by decide +kernel
theorem dX2_step_82 : decode cX2_step 82 = .ok (.getfield 38, 3) := by decide +kernel
theorem dX2_step_85 : decode cX2_step 85 = .ok (.if_icmp .ge 31, 3) := by decide +kernel
theorem dX2_step_88 : decode cX2_step 88 = .ok (.aload_n 0, 1) := by decide +kernel
theorem dX2_step_89 : decode cX2_step 89 = .ok (.getfield 20, 3) := by decide +kernel
theorem dX2_step_92 : decode cX2_step 92 = .ok (.iload_n 1, 1) := by decide +kernel
theorem dX2_step_93 : decode cX2_step 93 = .ok (.aaload, 1) := by decide +kernel
theorem dX2_step_94 : decode cX2_step 94 = .ok (.iload_n 1, 1) := by decide +kernel
theorem dX2_step_95 : decode cX2_step 95 = .ok (.aload_n 0, 1) := by decide +kernel
theorem dX2_step_96 : decode cX2_step 96 = .ok (.getfield 54, 3) := by decide +kernel
theorem dX2_step_99 : decode cX2_step 99 = .ok (.if_icmp .ne 7, 3) := by decide +kernel
theorem dX2_step_102 : decode cX2_step 102 = .ok (.iconst 1, 1) := by decide +kernel
theorem dX2_step_103 : decode cX2_step 103 = .ok (.goto 4, 3) := by decide +kernel
theorem dX2_step_106 : decode cX2_step 106 = .ok (.iconst 0, 1) := by decide +kernel
theorem dX2_step_107 : decode cX2_step 107 = .ok (.invokevirtual 108, 3) := by decide +kernel
theorem dX2_step_110 : decode cX2_step 110 = .ok (.iinc 1 1, 3) := by decide +kernel
theorem dX2_step_113 : decode cX2_step 113 = .ok (.goto (-33), 3) := by decide +kernel
theorem dX2_step_116 : decode cX2_step 116 = .ok (.iconst 0, 1) := by decide +kernel
theorem dX2_step_117 : decode cX2_step 117 = .ok (.istore_n 1, 1) := by decide +kernel
theorem dX2_step_118 : decode cX2_step 118 = .ok (.iload_n 1, 1) := by decide +kernel
theorem dX2_step_119 : decode cX2_step 119 = .ok (.aload_n 0, 1) := by decide +kernel
theorem dX2_step_120 : decode cX2_step 120 = .ok (.getfield 38, 3) := by decide +kernel
theorem dX2_step_123 : decode cX2_step 123 = .ok (.if_icmp .ge 22, 3) := by decide +kernel
theorem dX2_step_126 : decode cX2_step 126 = .ok (.aload_n 0, 1) := by decide +kernel
theorem dX2_step_127 : decode cX2_step 127 = .ok (.iload_n 1, 1) := by decide +kernel
theorem dX2_step_128 : decode cX2_step 128 = .ok (.invokevirtual 112, 3) := by decide +kernel
theorem dX2_step_131 : decode cX2_step 131 = .ok (.ifCond .eq 8, 3) := by decide +kernel
theorem dX2_step_134 : decode cX2_step 134 = .ok (.aload_n 0, 1) := by decide +kernel
theorem dX2_step_135 : decode cX2_step 135 = .ok (.iload_n 1, 1) := by decide +kernel
theorem dX2_step_136 : decode cX2_step 136 = .ok (.invokevirtual 115, 3) := by decide +kernel
theorem dX2_step_139 : decode cX2_step 139 = .ok (.iinc 1 1, 3) := by decide +kernel
theorem dX2_step_142 : decode cX2_step 142 = .ok (.goto (-24), 3) := by decide +kernel
theorem dX2_step_145 : decode cX2_step 145 = .ok (.aload_n 0, 1) := by decide +kernel
theorem dX2_step_146 : decode cX2_step 146 = .ok (.dup, 1) := by decide +kernel
theorem dX2_step_147 : decode cX2_step 147 = .ok (.getfield 45, 3) := by decide +kernel
theorem dX2_step_150 : decode cX2_step 150 = .ok (.iconst 1, 1) := by decide +kernel
theorem dX2_step_151 : decode cX2_step 151 = .ok (.iadd, 1) := by decide +kernel
theorem dX2_step_152 : decode cX2_step 152 = .ok (.putfield 45, 3) := by decide +kernel
theorem dX2_step_155 : decode cX2_step 155 = .ok (.return_, 1) := by decide +kernel
theorem dX2_stepTimes_0 : decode cX2_stepTimes 0 = .ok (.iconst 0, 1) := by decide +kernel
theorem dX2_stepTimes_1 : decode cX2_stepTimes 1 = .ok (.istore_n 2, 1) := by decide +kernel
theorem dX2_stepTimes_2 : decode cX2_stepTimes 2 = .ok (.iload_n 2, 1) := by decide +kernel
theorem dX2_stepTimes_3 : decode cX2_stepTimes 3 = .ok (.iload_n 1, 1) := by decide +kernel
theorem dX2_stepTimes_4 : decode cX2_stepTimes 4 = .ok (.if_icmp .ge 13, 3) := by decide +kernel
theorem dX2_stepTimes_7 : decode cX2_stepTimes 7 = .ok (.aload_n 0, 1) := by decide +kernel
theorem dX2_stepTimes_8 : decode cX2_stepTimes 8 = .ok (.invokevirtual 118, 3) := by decide +kernel
theorem dX2_stepTimes_11 : decode cX2_stepTimes 11 = .ok (.iinc 2 1, 3) := by decide +kernel
theorem dX2_stepTimes_14 : decode cX2_stepTimes 14 = .ok (.goto (-12), 3) := by decide +kernel
theorem dX2_stepTimes_17 : decode cX2_stepTimes 17 = .ok (.return_, 1) := by decide +kernel
theorem dX2_stepsTillDone_0 : decode cX2_stepsTillDone 0 = .ok (.aload_n 0, 1) := by decide +kernel
theorem dX2_stepsTillDone_1 : decode cX2_stepsTillDone 1 = .ok (.getfield 42, 3) := by decide +kernel
theorem dX2_stepsTillDone_4 : decode cX2_stepsTillDone 4 = .ok (.bipush 9, 2) := by decide +kernel
theorem dX2_stepsTillDone_6 : decode cX2_stepsTillDone 6 = .ok (.iadd, 1) := by decide +kernel
theorem dX2_stepsTillDone_7 : decode cX2_stepsTillDone 7 = .ok (.iconst 2, 1) := by decide +kernel
theorem dX2_stepsTillDone_8 : decode cX2_stepsTillDone 8 = .ok (.iadd, 1) := by decide +kernel
theorem dX2_stepsTillDone_9 : decode cX2_stepsTillDone 9 = .ok (.istore 4, 2) := by decide +kernel
theorem dX2_stepsTillDone_11 : decode cX2_stepsTillDone 11 = .ok (.iconst 0, 1) := by decide +kernel
theorem dX2_stepsTillDone_12 : decode cX2_stepsTillDone 12 = .ok (.istore 5, 2) := by decide +kernel
theorem dX2_stepsTillDone_14 : decode cX2_stepsTillDone 14 = .ok (.iconst 0, 1) := by decide +kernel
theorem dX2_stepsTillDone_15 : decode cX2_stepsTillDone 15 = .ok (.istore 6, 2) := by decide +kernel
theorem dX2_stepsTillDone_17 : decode cX2_stepsTillDone 17 = .ok (.iload 6, 2) := by decide +kernel
theorem dX2_stepsTillDone_19 : decode cX2_stepsTillDone 19 = .ok (.iload_n 3, 1) := by decide +kernel
theorem dX2_stepsTillDone_20 : decode cX2_stepsTillDone 20 = .ok (.if_icmp .gt 51, 3) := by decide +kernel
theorem dX2_stepsTillDone_23 : decode cX2_stepsTillDone 23 = .ok (.iload 5, 2) := by decide +kernel
theorem dX2_stepsTillDone_25 : decode cX2_stepsTillDone 25 = .ok (.iload 4, 2) := by decide +kernel
theorem dX2_stepsTillDone_27 : decode cX2_stepsTillDone 27 = .ok (.if_icmp .ge 44, 3) := by decide +kernel
theorem dX2_stepsTillDone_30 : decode cX2_stepsTillDone 30 = .ok (.aload_n 0, 1) := by decide +kernel
theorem dX2_stepsTillDone_31 : decode cX2_stepsTillDone 31 = .ok (.iload_n 1, 1) := by decide +kernel
theorem dX2_stepsTillDone_32 : decode cX2_stepsTillDone 32 = .ok (.iload_n 2, 1) := by decide +kernel
theorem dX2_stepsTillDone_33 : decode cX2_stepsTillDone 33 = .ok (.invokevirtual 121, 3) := by decide +kernel
theorem dX2_stepsTillDone_36 : decode cX2_stepsTillDone 36 = .ok (.ifCond .eq 6, 3) := by decide +kernel
theorem dX2_stepsTillDone_39 : decode cX2_stepsTillDone 39 = .ok (.iload 6, 2) := by decide +kernel
theorem dX2_stepsTillDone_41 : decode cX2_stepsTillDone 41 = .ok (.ireturn, 1) := by decide +kernel
theorem dX2_stepsTillDone_42 : decode cX2_stepsTillDone 42 = .ok (.aload_n 0, 1) := by decide +kernel
theorem dX2_stepsTillDone_43 : decode cX2_stepsTillDone 43 = .ok (.invokevirtual 118, 3) := by decide +kernel
theorem dX2_stepsTillDone_46 : decode cX2_stepsTillDone 46 = .ok (.aload_n 0, 1) := by decide +kernel
theorem dX2_stepsTillDone_47 : decode cX2_stepsTillDone 47 = .ok (.getfield 54, 3) := by decide +kernel
theorem dX2_stepsTillDone_50 : decode cX2_stepsTillDone 50 = .ok (.bipush (-9), 2) := by decide +kernel
theorem dX2_stepsTillDone_52 : decode cX2_stepsTillDone 52 = .ok (.if_icmp .ne 10, 3) := by decide +kernel
theorem dX2_stepsTillDone_55 : decode cX2_stepsTillDone 55 = .ok (.iload 5, 2) := by decide +kernel
theorem dX2_stepsTillDone_57 : decode cX2_stepsTillDone 57 = .ok (.iconst 1, 1) := by decide +kernel
theorem dX2_stepsTillDone_58 : decode cX2_stepsTillDone 58 = .ok (.iadd, 1) := by decide +kernel
theorem dX2_stepsTillDone_59 : decode cX2_stepsTillDone 59 = .ok (.goto 4, 3) := by decide +kernel
theorem dX2_stepsTillDone_62 : decode cX2_stepsTillDone 62 = .ok (.iconst 0, 1) := by decide +kernel
theorem dX2_stepsTillDone_63 : decode cX2_stepsTillDone 63 = .ok (.istore 5, 2) := by decide +kernel
theorem dX2_stepsTillDone_65 : decode cX2_stepsTillDone 65 = .ok (.iinc 6 1, 3) := by decide +kernel
theorem dX2_stepsTillDone_68 : decode cX2_stepsTillDone 68 = .ok (.goto (-51), 3) := by decide +kernel
theorem dX2_stepsTillDone_71 : decode cX2_stepsTillDone 71 = .ok (.iload_n 3, 1) := by decide +kernel
theorem dX2_stepsTillDone_72 : decode cX2_stepsTillDone 72 = .ok (.iconst 1, 1) := by decide +kernel
theorem dX2_stepsTillDone_73 : decode cX2_stepsTillDone 73 = .ok (.iadd, 1) := by decide +kernel
theorem dX2_stepsTillDone_74 : decode cX2_stepsTillDone 74 = .ok (.ireturn, 1) := by decide +kernel
theorem dX2_areDone_0 : decode cX2_areDone 0 = .ok (.iload_n 1, 1) := by decide +kernel
theorem dX2_areDone_1 : decode cX2_areDone 1 = .ok (.istore_n 3, 1) := by decide +kernel
theorem dX2_areDone_2 : decode cX2_areDone 2 = .ok (.iload_n 3, 1) := by decide +kernel
theorem dX2_areDone_3 : decode cX2_areDone 3 = .ok (.iload_n 2, 1) := by decide +kernel
theorem dX2_areDone_4 : decode cX2_areDone 4 = .ok (.if_icmp .gt 31, 3) := by decide +kernel
theorem dX2_areDone_7 : decode cX2_areDone 7 = .ok (.aload_n 0, 1) := by decide +kernel
theorem dX2_areDone_8 : decode cX2_areDone 8 = .ok (.iload_n 3, 1) := by decide +kernel
theorem dX2_areDone_9 : decode cX2_areDone 9 = .ok (.invokevirtual 63, 3) := by decide +kernel
theorem dX2_areDone_12 : decode cX2_areDone 12 = .ok (.ifCond .eq 17, 3) := by decide +kernel
theorem dX2_areDone_15 : decode cX2_areDone 15 = .ok (.aload_n 0, 1) := by decide +kernel
theorem dX2_areDone_16 : decode cX2_areDone 16 = .ok (.getfield 20, 3) := by decide +kernel
theorem dX2_areDone_19 : decode cX2_areDone 19 = .ok (.iload_n 3, 1) := by decide +kernel
theorem dX2_areDone_20 : decode cX2_areDone 20 = .ok (.aaload, 1) := by decide +kernel
theorem dX2_areDone_21 : decode cX2_areDone 21 = .ok (.invokevirtual 125, 3) := by decide +kernel
theorem dX2_areDone_24 : decode cX2_areDone 24 = .ok (.ifCond .ne 5, 3) := by decide +kernel
theorem dX2_areDone_27 : decode cX2_areDone 27 = .ok (.iconst 0, 1) := by decide +kernel
theorem dX2_areDone_28 : decode cX2_areDone 28 = .ok (.ireturn, 1) := by decide +kernel
theorem dX2_areDone_29 : decode cX2_areDone 29 = .ok (.iinc 3 1, 3) := by decide +kernel
theorem dX2_areDone_32 : decode cX2_areDone 32 = .ok (.goto (-30), 3) := by decide +kernel
theorem dX2_areDone_35 : decode cX2_areDone 35 = .ok (.iconst 1, 1) := by decide +kernel
theorem dX2_areDone_36 : decode cX2_areDone 36 = .ok (.ireturn, 1) := by decide +kernel
theorem dX2_ownerNow_0 : decode cX2_ownerNow 0 = .ok (.aload_n 0, 1) := by decide +kernel
theorem dX2_ownerNow_1 : decode cX2_ownerNow 1 = .ok (.getfield 42, 3) := by decide +kernel
theorem dX2_ownerNow_4 : decode cX2_ownerNow 4 = .ok (.ifCond .le 17, 3) := by decide +kernel
theorem dX2_ownerNow_7 : decode cX2_ownerNow 7 = .ok (.aload_n 0, 1) := by decide +kernel
theorem dX2_ownerNow_8 : decode cX2_ownerNow 8 = .ok (.getfield 45, 3) := by decide +kernel
theorem dX2_ownerNow_11 : decode cX2_ownerNow 11 = .ok (.aload_n 0, 1) := by decide +kernel
theorem dX2_ownerNow_12 : decode cX2_ownerNow 12 = .ok (.getfield 42, 3) := by decide +kernel
theorem dX2_ownerNow_15 : decode cX2_ownerNow 15 = .ok (.invokestatic 129, 3) := by decide +kernel
theorem dX2_ownerNow_18 : decode cX2_ownerNow 18 = .ok (.goto 4, 3) := by decide +kernel
theorem dX2_ownerNow_21 : decode cX2_ownerNow 21 = .ok (.iconst 0, 1) := by decide +kernel
theorem dX2_ownerNow_22 : decode cX2_ownerNow 22 = .ok (.istore_n 1, 1) := by decide +kernel
theorem dX2_ownerNow_23 : decode cX2_ownerNow 23 = .ok (.iload_n 1, 1) := by decide +kernel
theorem dX2_ownerNow_24 : decode cX2_ownerNow 24 = .ok (.bipush 16, 2) := by decide +kernel
theorem dX2_ownerNow_26 : decode cX2_ownerNow 26 = .ok (.if_icmp .ge 12, 3) := by decide +kernel
theorem dX2_ownerNow_29 : decode cX2_ownerNow 29 = .ok (.aload_n 0, 1) := by decide +kernel
theorem dX2_ownerNow_30 : decode cX2_ownerNow 30 = .ok (.getfield 9, 3) := by decide +kernel
theorem dX2_ownerNow_33 : decode cX2_ownerNow 33 = .ok (.iload_n 1, 1) := by decide +kernel
theorem dX2_ownerNow_34 : decode cX2_ownerNow 34 = .ok (.iaload, 1) := by decide +kernel
theorem dX2_ownerNow_35 : decode cX2_ownerNow 35 = .ok (.goto 5, 3) := by decide +kernel
theorem dX2_ownerNow_38 : decode cX2_ownerNow 38 = .ok (.bipush (-9), 2) := by decide +kernel
theorem dX2_ownerNow_40 : decode cX2_ownerNow 40 = .ok (.ireturn, 1) := by decide +kernel
theorem dX2_takeTurn_0 : decode cX2_takeTurn 0 = .ok (.aload_n 0, 1) := by decide +kernel
theorem dX2_takeTurn_1 : decode cX2_takeTurn 1 = .ok (.iload_n 1, 1) := by decide +kernel
theorem dX2_takeTurn_2 : decode cX2_takeTurn 2 = .ok (.invokevirtual 63, 3) := by decide +kernel
theorem dX2_takeTurn_5 : decode cX2_takeTurn 5 = .ok (.ifCond .ne 6, 3) := by decide +kernel
theorem dX2_takeTurn_8 : decode cX2_takeTurn 8 = .ok (.bipush (-9), 2) := by decide +kernel
theorem dX2_takeTurn_10 : decode cX2_takeTurn 10 = .ok (.ireturn, 1) := by decide +kernel
theorem dX2_takeTurn_11 : decode cX2_takeTurn 11 = .ok (.aload_n 0, 1) := by decide +kernel
theorem dX2_takeTurn_12 : decode cX2_takeTurn 12 = .ok (.getfield 20, 3) := by decide +kernel
theorem dX2_takeTurn_15 : decode cX2_takeTurn 15 = .ok (.iload_n 1, 1) := by decide +kernel
theorem dX2_takeTurn_16 : decode cX2_takeTurn 16 = .ok (.aaload, 1) := by decide +kernel
theorem dX2_takeTurn_17 : decode cX2_takeTurn 17 = .ok (.astore_n 2, 1) := by decide +kernel
theorem dX2_takeTurn_18 : decode cX2_takeTurn 18 = .ok (.aload_n 0, 1) := by decide +kernel
theorem dX2_takeTurn_19 : decode cX2_takeTurn 19 = .ok (.aload_n 2, 1) := by decide +kernel
theorem dX2_takeTurn_20 : decode cX2_takeTurn 20 = .ok (.iconst 1, 1) := by decide +kernel
theorem dX2_takeTurn_21 : decode cX2_takeTurn 21 = .ok (.invokevirtual 132, 3) := by decide +kernel
theorem dX2_takeTurn_24 : decode cX2_takeTurn 24 = .ok (.istore_n 3, 1) := by decide +kernel
theorem dX2_takeTurn_25 : decode cX2_takeTurn 25 = .ok (.aload_n 0, 1) := by decide +kernel
theorem dX2_takeTurn_26 : decode cX2_takeTurn 26 = .ok (.iload_n 3, 1) := by decide +kernel
theorem dX2_takeTurn_27 : decode cX2_takeTurn 27 = .ok (.invokevirtual 63, 3) := by decide +kernel
theorem dX2_takeTurn_30 : decode cX2_takeTurn 30 = .ok (.ifCond .eq 30, 3) := by decide +kernel
theorem dX2_takeTurn_33 : decode cX2_takeTurn 33 = .ok (.aload_n 2, 1) := by decide +kernel
theorem dX2_takeTurn_34 : decode cX2_takeTurn 34 = .ok (.getfield 67, 3) := by decide +kernel
theorem dX2_takeTurn_37 : decode cX2_takeTurn 37 = .ok (.iload_n 3, 1) := by decide +kernel
theorem dX2_takeTurn_38 : decode cX2_takeTurn 38 = .ok (.dup2, 1) := by decide +kernel
theorem dX2_takeTurn_39 : decode cX2_takeTurn 39 = .ok (.iaload, 1) := by decide +kernel
theorem dX2_takeTurn_40 : decode cX2_takeTurn 40 = .ok (.iconst 1, 1) := by decide +kernel
theorem dX2_takeTurn_41 : decode cX2_takeTurn 41 = .ok (.isub, 1) := by decide +kernel
theorem dX2_takeTurn_42 : decode cX2_takeTurn 42 = .ok (.iastore, 1) := by decide +kernel
theorem dX2_takeTurn_43 : decode cX2_takeTurn 43 = .ok (.aload_n 0, 1) := by decide +kernel
theorem dX2_takeTurn_44 : decode cX2_takeTurn 44 = .ok (.getfield 20, 3) := by decide +kernel
theorem dX2_takeTurn_47 : decode cX2_takeTurn 47 = .ok (.iload_n 3, 1) := by decide +kernel
theorem dX2_takeTurn_48 : decode cX2_takeTurn 48 = .ok (.aaload, 1) := by decide +kernel
theorem dX2_takeTurn_49 : decode cX2_takeTurn 49 = .ok (.dup, 1) := by decide +kernel
theorem dX2_takeTurn_50 : decode cX2_takeTurn 50 = .ok (.getfield 136, 3) := by decide +kernel
theorem dX2_takeTurn_53 : decode cX2_takeTurn 53 = .ok (.iconst 1, 1) := by decide +kernel
theorem dX2_takeTurn_54 : decode cX2_takeTurn 54 = .ok (.iadd, 1) := by decide +kernel
theorem dX2_takeTurn_55 : decode cX2_takeTurn 55 = .ok (.putfield 136, 3) := by decide +kernel
theorem dX2_takeTurn_58 : decode cX2_takeTurn 58 = .ok (.iload_n 3, 1) := by decide +kernel
theorem dX2_takeTurn_59 : decode cX2_takeTurn 59 = .ok (.ireturn, 1) := by decide +kernel
theorem dX2_takeTurn_60 : decode cX2_takeTurn 60 = .ok (.aload_n 2, 1) := by decide +kernel
theorem dX2_takeTurn_61 : decode cX2_takeTurn 61 = .ok (.getfield 139, 3) := by decide +kernel
theorem dX2_takeTurn_64 : decode cX2_takeTurn 64 = .ok (.ifCond .eq 15, 3) := by decide +kernel
theorem dX2_takeTurn_67 : decode cX2_takeTurn 67 = .ok (.aload_n 2, 1) := by decide +kernel
theorem dX2_takeTurn_68 : decode cX2_takeTurn 68 = .ok (.dup, 1) := by decide +kernel
theorem dX2_takeTurn_69 : decode cX2_takeTurn 69 = .ok (.getfield 142, 3) := by decide +kernel
theorem dX2_takeTurn_72 : decode cX2_takeTurn 72 = .ok (.iconst 1, 1) := by decide +kernel
theorem dX2_takeTurn_73 : decode cX2_takeTurn 73 = .ok (.iadd, 1) := by decide +kernel
theorem dX2_takeTurn_74 : decode cX2_takeTurn 74 = .ok (.putfield 142, 3) := by decide +kernel
theorem dX2_takeTurn_77 : decode cX2_takeTurn 77 = .ok (.iload_n 1, 1) := by decide +kernel
theorem dX2_takeTurn_78 : decode cX2_takeTurn 78 = .ok (.ireturn, 1) := by decide +kernel
theorem dX2_takeTurn_79 : decode cX2_takeTurn 79 = .ok (.aload_n 0, 1) := by decide +kernel
theorem dX2_takeTurn_80 : decode cX2_takeTurn 80 = .ok (.invokevirtual 145, 3) := by decide +kernel
theorem dX2_takeTurn_83 : decode cX2_takeTurn 83 = .ok (.istore 4, 2) := by decide +kernel
theorem dX2_takeTurn_85 : decode cX2_takeTurn 85 = .ok (.aload_n 0, 1) := by decide +kernel
theorem dX2_takeTurn_86 : decode cX2_takeTurn 86 = .ok (.iload 4, 2) := by decide +kernel
theorem dX2_takeTurn_88 : decode cX2_takeTurn 88 = .ok (.invokevirtual 63, 3) := by decide +kernel
theorem dX2_takeTurn_91 : decode cX2_takeTurn 91 = .ok (.ifCond .eq 35, 3) := by decide +kernel
theorem dX2_takeTurn_94 : decode cX2_takeTurn 94 = .ok (.aload_n 0, 1) := by decide +kernel
theorem dX2_takeTurn_95 : decode cX2_takeTurn 95 = .ok (.getfield 20, 3) := by decide +kernel
theorem dX2_takeTurn_98 : decode cX2_takeTurn 98 = .ok (.iload 4, 2) := by decide +kernel
theorem dX2_takeTurn_100 : decode cX2_takeTurn 100 = .ok (.aaload, 1) := by decide +kernel
theorem dX2_takeTurn_101 : decode cX2_takeTurn 101 = .ok (.getfield 67, 3) := by decide +kernel
theorem dX2_takeTurn_104 : decode cX2_takeTurn 104 = .ok (.iload_n 1, 1) := by decide +kernel
theorem dX2_takeTurn_105 : decode cX2_takeTurn 105 = .ok (.dup2, 1) := by decide +kernel
theorem dX2_takeTurn_106 : decode cX2_takeTurn 106 = .ok (.iaload, 1) := by decide +kernel
theorem dX2_takeTurn_107 : decode cX2_takeTurn 107 = .ok (.iconst 1, 1) := by decide +kernel
theorem dX2_takeTurn_108 : decode cX2_takeTurn 108 = .ok (.iadd, 1) := by decide +kernel
theorem dX2_takeTurn_109 : decode cX2_takeTurn 109 = .ok (.iastore, 1) := by decide +kernel
theorem dX2_takeTurn_110 : decode cX2_takeTurn 110 = .ok (.aload_n 0, 1) := by decide +kernel
theorem dX2_takeTurn_111 : decode cX2_takeTurn 111 = .ok (.getfield 20, 3) := by decide +kernel
theorem dX2_takeTurn_114 : decode cX2_takeTurn 114 = .ok (.iload 4, 2) := by decide +kernel
theorem dX2_takeTurn_116 : decode cX2_takeTurn 116 = .ok (.aaload, 1) := by decide +kernel
theorem dX2_takeTurn_117 : decode cX2_takeTurn 117 = .ok (.dup, 1) := by decide +kernel
theorem dX2_takeTurn_118 : decode cX2_takeTurn 118 = .ok (.getfield 148, 3) := by decide +kernel
theorem dX2_takeTurn_121 : decode cX2_takeTurn 121 = .ok (.iconst 1, 1) := by decide +kernel
theorem dX2_takeTurn_122 : decode cX2_takeTurn 122 = .ok (.iadd, 1) := by decide +kernel
theorem dX2_takeTurn_123 : decode cX2_takeTurn 123 = .ok (.putfield 148, 3) := by decide +kernel
theorem dX2_takeTurn_126 : decode cX2_takeTurn 126 = .ok (.iload 4, 2) := by decide +kernel
theorem dX2_takeTurn_128 : decode cX2_takeTurn 128 = .ok (.ireturn, 1) := by decide +kernel
theorem dX2_creditorOf_0 : decode cX2_creditorOf 0 = .ok (.bipush (-9), 2) := by decide +kernel
theorem dX2_creditorOf_2 : decode cX2_creditorOf 2 = .ok (.istore_n 3, 1) := by decide +kernel
theorem dX2_creditorOf_3 : decode cX2_creditorOf 3 = .ok (.iconst 0, 1) := by decide +kernel
theorem dX2_creditorOf_4 : decode cX2_creditorOf 4 = .ok (.istore 4, 2) := by decide +kernel
theorem dX2_creditorOf_6 : decode cX2_creditorOf 6 = .ok (.iconst 0, 1) := by decide +kernel
theorem dX2_creditorOf_7 : decode cX2_creditorOf 7 = .ok (.istore 5, 2) := by decide +kernel
theorem dX2_creditorOf_9 : decode cX2_creditorOf 9 = .ok (.iload 5, 2) := by decide +kernel
theorem dX2_creditorOf_11 : decode cX2_creditorOf 11 = .ok (.aload_n 0, 1) := by decide +kernel
theorem dX2_creditorOf_12 : decode cX2_creditorOf 12 = .ok (.getfield 38, 3) := by decide +kernel
theorem dX2_creditorOf_15 : decode cX2_creditorOf 15 = .ok (.if_icmp .ge 50, 3) := by decide +kernel
theorem dX2_creditorOf_18 : decode cX2_creditorOf 18 = .ok (.aload_n 1, 1) := by decide +kernel
theorem dX2_creditorOf_19 : decode cX2_creditorOf 19 = .ok (.getfield 67, 3) := by decide +kernel
theorem dX2_creditorOf_22 : decode cX2_creditorOf 22 = .ok (.iload 5, 2) := by decide +kernel
theorem dX2_creditorOf_24 : decode cX2_creditorOf 24 = .ok (.iaload, 1) := by decide +kernel
theorem dX2_creditorOf_25 : decode cX2_creditorOf 25 = .ok (.iload 4, 2) := by decide +kernel
theorem dX2_creditorOf_27 : decode cX2_creditorOf 27 = .ok (.if_icmp .le 32, 3) := by decide +kernel
theorem dX2_creditorOf_30 : decode cX2_creditorOf 30 = .ok (.iload_n 2, 1) := by decide +kernel
theorem dX2_creditorOf_31 : decode cX2_creditorOf 31 = .ok (.ifCond .eq 16, 3) := by decide +kernel
theorem dX2_creditorOf_34 : decode cX2_creditorOf 34 = .ok (.aload_n 0, 1) := by decide +kernel
theorem dX2_creditorOf_35 : decode cX2_creditorOf 35 = .ok (.getfield 20, 3) := by decide +kernel
theorem dX2_creditorOf_38 : decode cX2_creditorOf 38 = .ok (.iload 5, 2) := by decide +kernel
theorem dX2_creditorOf_40 : decode cX2_creditorOf 40 = .ok (.aaload, 1) := by decide +kernel
theorem dX2_creditorOf_41 : decode cX2_creditorOf 41 = .ok (.getfield 139, 3) := by decide +kernel
theorem dX2_creditorOf_44 : decode cX2_creditorOf 44 = .ok (.ifCond .eq 15, 3) := by decide +kernel
theorem dX2_creditorOf_47 : decode cX2_creditorOf 47 = .ok (.aload_n 1, 1) := by decide +kernel
theorem dX2_creditorOf_48 : decode cX2_creditorOf 48 = .ok (.getfield 67, 3) := by decide +kernel
theorem dX2_creditorOf_51 : decode cX2_creditorOf 51 = .ok (.iload 5, 2) := by decide +kernel
theorem dX2_creditorOf_53 : decode cX2_creditorOf 53 = .ok (.iaload, 1) := by decide +kernel
theorem dX2_creditorOf_54 : decode cX2_creditorOf 54 = .ok (.istore 4, 2) := by decide +kernel
theorem dX2_creditorOf_56 : decode cX2_creditorOf 56 = .ok (.iload 5, 2) := by decide +kernel
theorem dX2_creditorOf_58 : decode cX2_creditorOf 58 = .ok (.istore_n 3, 1) := by decide +kernel
theorem dX2_creditorOf_59 : decode cX2_creditorOf 59 = .ok (.iinc 5 1, 3) := by decide +kernel
theorem dX2_creditorOf_62 : decode cX2_creditorOf 62 = .ok (.goto (-53), 3) := by decide +kernel
theorem dX2_creditorOf_65 : decode cX2_creditorOf 65 = .ok (.iload_n 3, 1) := by decide +kernel
theorem dX2_creditorOf_66 : decode cX2_creditorOf 66 = .ok (.ireturn, 1) := by decide +kernel
theorem dX2_firstBorrower_0 : decode cX2_firstBorrower 0 = .ok (.bipush (-9), 2) := by decide +kernel
theorem dX2_firstBorrower_2 : decode cX2_firstBorrower 2 = .ok (.istore_n 1, 1) := by decide +kernel
theorem dX2_firstBorrower_3 : decode cX2_firstBorrower 3 = .ok (.iconst (-1), 1) := by decide +kernel
theorem dX2_firstBorrower_4 : decode cX2_firstBorrower 4 = .ok (.istore_n 2, 1) := by decide +kernel
theorem dX2_firstBorrower_5 : decode cX2_firstBorrower 5 = .ok (.iconst 0, 1) := by decide +kernel
theorem dX2_firstBorrower_6 : decode cX2_firstBorrower 6 = .ok (.istore_n 3, 1) := by decide +kernel
theorem dX2_firstBorrower_7 : decode cX2_firstBorrower 7 = .ok (.iload_n 3, 1) := by decide +kernel
theorem dX2_firstBorrower_8 : decode cX2_firstBorrower 8 = .ok (.aload_n 0, 1) := by decide +kernel
theorem dX2_firstBorrower_9 : decode cX2_firstBorrower 9 = .ok (.getfield 38, 3) := by decide +kernel
theorem dX2_firstBorrower_12 : decode cX2_firstBorrower 12 = .ok (.if_icmp .ge 62, 3) := by decide +kernel
theorem dX2_firstBorrower_15 : decode cX2_firstBorrower 15 = .ok (.aload_n 0, 1) := by decide +kernel
theorem dX2_firstBorrower_16 : decode cX2_firstBorrower 16 = .ok (.getfield 20, 3) := by decide +kernel
theorem dX2_firstBorrower_19 : decode cX2_firstBorrower 19 = .ok (.iload_n 3, 1) := by decide +kernel
theorem dX2_firstBorrower_20 : decode cX2_firstBorrower 20 = .ok (.aaload, 1) := by decide +kernel
theorem dX2_firstBorrower_21 : decode cX2_firstBorrower 21 = .ok (.astore 4, 2) := by decide +kernel
theorem dX2_firstBorrower_23 : decode cX2_firstBorrower 23 = .ok (.aload 4, 2) := by decide +kernel
theorem dX2_firstBorrower_25 : decode cX2_firstBorrower 25 = .ok (.getfield 139, 3) := by decide +kernel
theorem dX2_firstBorrower_28 : decode cX2_firstBorrower 28 = .ok (.ifCond .eq 40, 3) := by decide +kernel
theorem dX2_firstBorrower_31 : decode cX2_firstBorrower 31 = .ok (.aload 4, 2) := by decide +kernel
theorem dX2_firstBorrower_33 : decode cX2_firstBorrower 33 = .ok (.getfield 90, 3) := by decide +kernel
theorem dX2_firstBorrower_36 : decode cX2_firstBorrower 36 = .ok (.ifCond .ne 32, 3) := by decide +kernel
theorem dX2_firstBorrower_39 : decode cX2_firstBorrower 39 = .ok (.aload 4, 2) := by decide +kernel
theorem dX2_firstBorrower_41 : decode cX2_firstBorrower 41 = .ok (.getfield 151, 3) := by decide +kernel
theorem dX2_firstBorrower_44 : decode cX2_firstBorrower 44 = .ok (.iload_n 2, 1) := by decide +kernel
theorem dX2_firstBorrower_45 : decode cX2_firstBorrower 45 = .ok (.if_icmp .le 23, 3) := by decide +kernel
theorem dX2_firstBorrower_48 : decode cX2_firstBorrower 48 = .ok (.aload 4, 2) := by decide +kernel
theorem dX2_firstBorrower_50 : decode cX2_firstBorrower 50 = .ok (.invokevirtual 70, 3) := by decide +kernel
theorem dX2_firstBorrower_53 : decode cX2_firstBorrower 53 = .ok (.aload_n 0, 1) := by decide +kernel
theorem dX2_firstBorrower_54 : decode cX2_firstBorrower 54 = .ok (.getfield 51, 3) := by decide +kernel
theorem dX2_firstBorrower_57 : decode cX2_firstBorrower 57 = .ok (.if_icmp .ge 11, 3) := by decide +kernel
theorem dX2_firstBorrower_60 : decode cX2_firstBorrower 60 = .ok (.aload 4, 2) := by decide +kernel
theorem dX2_firstBorrower_62 : decode cX2_firstBorrower 62 = .ok (.getfield 151, 3) := by decide +kernel
theorem dX2_firstBorrower_65 : decode cX2_firstBorrower 65 = .ok (.istore_n 2, 1) := by decide +kernel
theorem dX2_firstBorrower_66 : decode cX2_firstBorrower 66 = .ok (.iload_n 3, 1) := by decide +kernel
theorem dX2_firstBorrower_67 : decode cX2_firstBorrower 67 = .ok (.istore_n 1, 1) := by decide +kernel
theorem dX2_firstBorrower_68 : decode cX2_firstBorrower 68 = .ok (.iinc 3 1, 3) := by decide +kernel
theorem dX2_firstBorrower_71 : decode cX2_firstBorrower 71 = .ok (.goto (-64), 3) := by decide +kernel
theorem dX2_firstBorrower_74 : decode cX2_firstBorrower 74 = .ok (.iload_n 1, 1) := by decide +kernel
theorem dX2_firstBorrower_75 : decode cX2_firstBorrower 75 = .ok (.ireturn, 1) := by decide +kernel
theorem dX2_work_0 : decode cX2_work 0 = .ok (.aload_n 1, 1) := by decide +kernel
theorem dX2_work_1 : decode cX2_work 1 = .ok (.getfield 83, 3) := by decide +kernel
theorem dX2_work_4 : decode cX2_work 4 = .ok (.aload_n 0, 1) := by decide +kernel
theorem dX2_work_5 : decode cX2_work 5 = .ok (.getfield 45, 3) := by decide +kernel
theorem dX2_work_8 : decode cX2_work 8 = .ok (.invokevirtual 154, 3) := by decide +kernel
theorem dX2_work_11 : decode cX2_work 11 = .ok (.istore_n 2, 1) := by decide +kernel
theorem dX2_work_12 : decode cX2_work 12 = .ok (.iload_n 2, 1) := by decide +kernel
theorem dX2_work_13 : decode cX2_work 13 = .ok (.bipush (-9), 2) := by decide +kernel
theorem dX2_work_15 : decode cX2_work 15 = .ok (.if_icmp .eq 24, 3) := by decide +kernel
theorem dX2_work_18 : decode cX2_work 18 = .ok (.aload_n 1, 1) := by decide +kernel
theorem dX2_work_19 : decode cX2_work 19 = .ok (.getfield 83, 3) := by decide +kernel
theorem dX2_work_22 : decode cX2_work 22 = .ok (.iload_n 2, 1) := by decide +kernel
theorem dX2_work_23 : decode cX2_work 23 = .ok (.invokevirtual 157, 3) := by decide +kernel
theorem dX2_work_26 : decode cX2_work 26 = .ok (.aload_n 1, 1) := by decide +kernel
theorem dX2_work_27 : decode cX2_work 27 = .ok (.dup, 1) := by decide +kernel
theorem dX2_work_28 : decode cX2_work 28 = .ok (.getfield 160, 3) := by decide +kernel
theorem dX2_work_31 : decode cX2_work 31 = .ok (.iconst 1, 1) := by decide +kernel
theorem dX2_work_32 : decode cX2_work 32 = .ok (.iadd, 1) := by decide +kernel
theorem dX2_work_33 : decode cX2_work 33 = .ok (.putfield 160, 3) := by decide +kernel
theorem dX2_work_36 : decode cX2_work 36 = .ok (.goto 18, 3) := by decide +kernel
theorem dX2_work_39 : decode cX2_work 39 = .ok (.aload_n 1, 1) := by decide +kernel
theorem dX2_work_40 : decode cX2_work 40 = .ok (.getfield 74, 3) := by decide +kernel
theorem dX2_work_43 : decode cX2_work 43 = .ok (.getfield 78, 3) := by decide +kernel
theorem dX2_work_46 : decode cX2_work 46 = .ok (.ifCond .le 8, 3) := by decide +kernel
theorem dX2_work_49 : decode cX2_work 49 = .ok (.aload_n 0, 1) := by decide +kernel
theorem dX2_work_50 : decode cX2_work 50 = .ok (.aload_n 1, 1) := by decide +kernel
theorem dX2_work_51 : decode cX2_work 51 = .ok (.invokevirtual 163, 3) := by decide +kernel
theorem dX2_work_54 : decode cX2_work 54 = .ok (.return_, 1) := by decide +kernel
theorem dX2_sendWord_0 : decode cX2_sendWord 0 = .ok (.aload_n 1, 1) := by decide +kernel
theorem dX2_sendWord_1 : decode cX2_sendWord 1 = .ok (.getfield 74, 3) := by decide +kernel
theorem dX2_sendWord_4 : decode cX2_sendWord 4 = .ok (.astore_n 2, 1) := by decide +kernel
theorem dX2_sendWord_5 : decode cX2_sendWord 5 = .ok (.aload_n 2, 1) := by decide +kernel
theorem dX2_sendWord_6 : decode cX2_sendWord 6 = .ok (.getfield 166, 3) := by decide +kernel
theorem dX2_sendWord_9 : decode cX2_sendWord 9 = .ok (.iconst 0, 1) := by decide +kernel
theorem dX2_sendWord_10 : decode cX2_sendWord 10 = .ok (.dup2, 1) := by decide +kernel
theorem dX2_sendWord_11 : decode cX2_sendWord 11 = .ok (.iaload, 1) := by decide +kernel
theorem dX2_sendWord_12 : decode cX2_sendWord 12 = .ok (.iconst 1, 1) := by decide +kernel
theorem dX2_sendWord_13 : decode cX2_sendWord 13 = .ok (.isub, 1) := by decide +kernel
theorem dX2_sendWord_14 : decode cX2_sendWord 14 = .ok (.iastore, 1) := by decide +kernel
theorem dX2_sendWord_15 : decode cX2_sendWord 15 = .ok (.aload_n 2, 1) := by decide +kernel
theorem dX2_sendWord_16 : decode cX2_sendWord 16 = .ok (.getfield 166, 3) := by decide +kernel
theorem dX2_sendWord_19 : decode cX2_sendWord 19 = .ok (.iconst 0, 1) := by decide +kernel
theorem dX2_sendWord_20 : decode cX2_sendWord 20 = .ok (.iaload, 1) := by decide +kernel
theorem dX2_sendWord_21 : decode cX2_sendWord 21 = .ok (.ifCond .le 4, 3) := by decide +kernel
theorem dX2_sendWord_24 : decode cX2_sendWord 24 = .ok (.return_, 1) := by decide +kernel
theorem dX2_sendWord_25 : decode cX2_sendWord 25 = .ok (.aload_n 2, 1) := by decide +kernel
theorem dX2_sendWord_26 : decode cX2_sendWord 26 = .ok (.getfield 169, 3) := by decide +kernel
theorem dX2_sendWord_29 : decode cX2_sendWord 29 = .ok (.iconst 0, 1) := by decide +kernel
theorem dX2_sendWord_30 : decode cX2_sendWord 30 = .ok (.baload, 1) := by decide +kernel
theorem dX2_sendWord_31 : decode cX2_sendWord 31 = .ok (.ifCond .eq 27, 3) := by decide +kernel
theorem dX2_sendWord_34 : decode cX2_sendWord 34 = .ok (.aload_n 1, 1) := by decide +kernel
theorem dX2_sendWord_35 : decode cX2_sendWord 35 = .ok (.getfield 83, 3) := by decide +kernel
theorem dX2_sendWord_38 : decode cX2_sendWord 38 = .ok (.aload_n 0, 1) := by decide +kernel
theorem dX2_sendWord_39 : decode cX2_sendWord 39 = .ok (.getfield 45, 3) := by decide +kernel
theorem dX2_sendWord_42 : decode cX2_sendWord 42 = .ok (.iconst 1, 1) := by decide +kernel
theorem dX2_sendWord_43 : decode cX2_sendWord 43 = .ok (.iadd, 1) := by decide +kernel
theorem dX2_sendWord_44 : decode cX2_sendWord 44 = .ok (.aload_n 0, 1) := by decide +kernel
theorem dX2_sendWord_45 : decode cX2_sendWord 45 = .ok (.aload_n 2, 1) := by decide +kernel
theorem dX2_sendWord_46 : decode cX2_sendWord 46 = .ok (.getfield 173, 3) := by decide +kernel
theorem dX2_sendWord_49 : decode cX2_sendWord 49 = .ok (.iconst 0, 1) := by decide +kernel
theorem dX2_sendWord_50 : decode cX2_sendWord 50 = .ok (.iaload, 1) := by decide +kernel
theorem dX2_sendWord_51 : decode cX2_sendWord 51 = .ok (.invokevirtual 176, 3) := by decide +kernel
theorem dX2_sendWord_54 : decode cX2_sendWord 54 = .ok (.iadd, 1) := by decide +kernel
theorem dX2_sendWord_55 : decode cX2_sendWord 55 = .ok (.invokevirtual 179, 3) := by decide +kernel
theorem dX2_sendWord_58 : decode cX2_sendWord 58 = .ok (.aload_n 2, 1) := by decide +kernel
theorem dX2_sendWord_59 : decode cX2_sendWord 59 = .ok (.invokevirtual 182, 3) := by decide +kernel
theorem dX2_sendWord_62 : decode cX2_sendWord 62 = .ok (.return_, 1) := by decide +kernel
theorem dX2_latencyNow_0 : decode cX2_latencyNow 0 = .ok (.iload_n 1, 1) := by decide +kernel
theorem dX2_latencyNow_1 : decode cX2_latencyNow 1 = .ok (.ifCond .lt 17, 3) := by decide +kernel
theorem dX2_latencyNow_4 : decode cX2_latencyNow 4 = .ok (.iload_n 1, 1) := by decide +kernel
theorem dX2_latencyNow_5 : decode cX2_latencyNow 5 = .ok (.iconst 4, 1) := by decide +kernel
theorem dX2_latencyNow_6 : decode cX2_latencyNow 6 = .ok (.if_icmp .ge 12, 3) := by decide +kernel
theorem dX2_latencyNow_9 : decode cX2_latencyNow 9 = .ok (.aload_n 0, 1) := by decide +kernel
theorem dX2_latencyNow_10 : decode cX2_latencyNow 10 = .ok (.getfield 15, 3) := by decide +kernel
theorem dX2_latencyNow_13 : decode cX2_latencyNow 13 = .ok (.iload_n 1, 1) := by decide +kernel
theorem dX2_latencyNow_14 : decode cX2_latencyNow 14 = .ok (.iaload, 1) := by decide +kernel
theorem dX2_latencyNow_15 : decode cX2_latencyNow 15 = .ok (.goto 4, 3) := by decide +kernel
theorem dX2_latencyNow_18 : decode cX2_latencyNow 18 = .ok (.iconst 0, 1) := by decide +kernel
theorem dX2_latencyNow_19 : decode cX2_latencyNow 19 = .ok (.ireturn, 1) := by decide +kernel
theorem dX2_cannotPay_0 : decode cX2_cannotPay 0 = .ok (.aload_n 0, 1) := by decide +kernel
theorem dX2_cannotPay_1 : decode cX2_cannotPay 1 = .ok (.iload_n 1, 1) := by decide +kernel
theorem dX2_cannotPay_2 : decode cX2_cannotPay 2 = .ok (.invokevirtual 63, 3) := by decide +kernel
theorem dX2_cannotPay_5 : decode cX2_cannotPay 5 = .ok (.ifCond .eq 15, 3) := by decide +kernel
theorem dX2_cannotPay_8 : decode cX2_cannotPay 8 = .ok (.aload_n 0, 1) := by decide +kernel
theorem dX2_cannotPay_9 : decode cX2_cannotPay 9 = .ok (.getfield 20, 3) := by decide +kernel
theorem dX2_cannotPay_12 : decode cX2_cannotPay 12 = .ok (.iload_n 1, 1) := by decide +kernel
theorem dX2_cannotPay_13 : decode cX2_cannotPay 13 = .ok (.aaload, 1) := by decide +kernel
theorem dX2_cannotPay_14 : decode cX2_cannotPay 14 = .ok (.getfield 90, 3) := by decide +kernel
theorem dX2_cannotPay_17 : decode cX2_cannotPay 17 = .ok (.ifCond .eq 5, 3) := by decide +kernel
theorem dX2_cannotPay_20 : decode cX2_cannotPay 20 = .ok (.iconst 0, 1) := by decide +kernel
theorem dX2_cannotPay_21 : decode cX2_cannotPay 21 = .ok (.ireturn, 1) := by decide +kernel
theorem dX2_cannotPay_22 : decode cX2_cannotPay 22 = .ok (.aload_n 0, 1) := by decide +kernel
theorem dX2_cannotPay_23 : decode cX2_cannotPay 23 = .ok (.getfield 20, 3) := by decide +kernel
theorem dX2_cannotPay_26 : decode cX2_cannotPay 26 = .ok (.iload_n 1, 1) := by decide +kernel
theorem dX2_cannotPay_27 : decode cX2_cannotPay 27 = .ok (.aaload, 1) := by decide +kernel
theorem dX2_cannotPay_28 : decode cX2_cannotPay 28 = .ok (.invokevirtual 70, 3) := by decide +kernel
theorem dX2_cannotPay_31 : decode cX2_cannotPay 31 = .ok (.istore_n 2, 1) := by decide +kernel
theorem dX2_cannotPay_32 : decode cX2_cannotPay 32 = .ok (.iload_n 2, 1) := by decide +kernel
theorem dX2_cannotPay_33 : decode cX2_cannotPay 33 = .ok (.ifCond .le 18, 3) := by decide +kernel
theorem dX2_cannotPay_36 : decode cX2_cannotPay 36 = .ok (.iload_n 2, 1) := by decide +kernel
theorem dX2_cannotPay_37 : decode cX2_cannotPay 37 = .ok (.iconst 4, 1) := by decide +kernel
theorem dX2_cannotPay_38 : decode cX2_cannotPay 38 = .ok (.aload_n 0, 1) := by decide +kernel
theorem dX2_cannotPay_39 : decode cX2_cannotPay 39 = .ok (.iload_n 1, 1) := by decide +kernel
theorem dX2_cannotPay_40 : decode cX2_cannotPay 40 = .ok (.invokevirtual 185, 3) := by decide +kernel
theorem dX2_cannotPay_43 : decode cX2_cannotPay 43 = .ok (.imul, 1) := by decide +kernel
theorem dX2_cannotPay_44 : decode cX2_cannotPay 44 = .ok (.if_icmp .le 7, 3) := by decide +kernel
theorem dX2_cannotPay_47 : decode cX2_cannotPay 47 = .ok (.iconst 1, 1) := by decide +kernel
theorem dX2_cannotPay_48 : decode cX2_cannotPay 48 = .ok (.goto 4, 3) := by decide +kernel
theorem dX2_cannotPay_51 : decode cX2_cannotPay 51 = .ok (.iconst 0, 1) := by decide +kernel
theorem dX2_cannotPay_52 : decode cX2_cannotPay 52 = .ok (.ireturn, 1) := by decide +kernel
theorem dX2_ruin_0 : decode cX2_ruin 0 = .ok (.aload_n 0, 1) := by decide +kernel
theorem dX2_ruin_1 : decode cX2_ruin 1 = .ok (.iload_n 1, 1) := by decide +kernel
theorem dX2_ruin_2 : decode cX2_ruin 2 = .ok (.invokevirtual 63, 3) := by decide +kernel
theorem dX2_ruin_5 : decode cX2_ruin 5 = .ok (.ifCond .ne 4, 3) := by decide +kernel
theorem dX2_ruin_8 : decode cX2_ruin 8 = .ok (.return_, 1) := by decide +kernel
theorem dX2_ruin_9 : decode cX2_ruin 9 = .ok (.aload_n 0, 1) := by decide +kernel
theorem dX2_ruin_10 : decode cX2_ruin 10 = .ok (.aload_n 0, 1) := by decide +kernel
theorem dX2_ruin_11 : decode cX2_ruin 11 = .ok (.getfield 20, 3) := by decide +kernel
theorem dX2_ruin_14 : decode cX2_ruin 14 = .ok (.iload_n 1, 1) := by decide +kernel
theorem dX2_ruin_15 : decode cX2_ruin 15 = .ok (.aaload, 1) := by decide +kernel
theorem dX2_ruin_16 : decode cX2_ruin 16 = .ok (.iconst 0, 1) := by decide +kernel
theorem dX2_ruin_17 : decode cX2_ruin 17 = .ok (.invokevirtual 132, 3) := by decide +kernel
theorem dX2_ruin_20 : decode cX2_ruin 20 = .ok (.istore_n 2, 1) := by decide +kernel
theorem dX2_ruin_21 : decode cX2_ruin 21 = .ok (.iconst 0, 1) := by decide +kernel
theorem dX2_ruin_22 : decode cX2_ruin 22 = .ok (.istore_n 3, 1) := by decide +kernel
theorem dX2_ruin_23 : decode cX2_ruin 23 = .ok (.iload_n 3, 1) := by decide +kernel
theorem dX2_ruin_24 : decode cX2_ruin 24 = .ok (.aload_n 0, 1) := by decide +kernel
theorem dX2_ruin_25 : decode cX2_ruin 25 = .ok (.getfield 42, 3) := by decide +kernel
theorem dX2_ruin_28 : decode cX2_ruin 28 = .ok (.if_icmp .ge 34, 3) := by decide +kernel
theorem dX2_ruin_31 : decode cX2_ruin 31 = .ok (.aload_n 0, 1) := by decide +kernel
theorem dX2_ruin_32 : decode cX2_ruin 32 = .ok (.iload_n 2, 1) := by decide +kernel
theorem dX2_ruin_33 : decode cX2_ruin 33 = .ok (.invokevirtual 63, 3) := by decide +kernel
theorem dX2_ruin_36 : decode cX2_ruin 36 = .ok (.ifCond .eq 26, 3) := by decide +kernel
theorem dX2_ruin_39 : decode cX2_ruin 39 = .ok (.aload_n 0, 1) := by decide +kernel
theorem dX2_ruin_40 : decode cX2_ruin 40 = .ok (.getfield 9, 3) := by decide +kernel
theorem dX2_ruin_43 : decode cX2_ruin 43 = .ok (.iload_n 3, 1) := by decide +kernel
theorem dX2_ruin_44 : decode cX2_ruin 44 = .ok (.iaload, 1) := by decide +kernel
theorem dX2_ruin_45 : decode cX2_ruin 45 = .ok (.iload_n 1, 1) := by decide +kernel
theorem dX2_ruin_46 : decode cX2_ruin 46 = .ok (.if_icmp .ne 10, 3) := by decide +kernel
theorem dX2_ruin_49 : decode cX2_ruin 49 = .ok (.aload_n 0, 1) := by decide +kernel
theorem dX2_ruin_50 : decode cX2_ruin 50 = .ok (.getfield 9, 3) := by decide +kernel
theorem dX2_ruin_53 : decode cX2_ruin 53 = .ok (.iload_n 3, 1) := by decide +kernel
theorem dX2_ruin_54 : decode cX2_ruin 54 = .ok (.iload_n 2, 1) := by decide +kernel
theorem dX2_ruin_55 : decode cX2_ruin 55 = .ok (.iastore, 1) := by decide +kernel
theorem dX2_ruin_56 : decode cX2_ruin 56 = .ok (.iinc 3 1, 3) := by decide +kernel
theorem dX2_ruin_59 : decode cX2_ruin 59 = .ok (.goto (-36), 3) := by decide +kernel
theorem dX2_ruin_62 : decode cX2_ruin 62 = .ok (.iconst 0, 1) := by decide +kernel
theorem dX2_ruin_63 : decode cX2_ruin 63 = .ok (.istore_n 3, 1) := by decide +kernel
theorem dX2_ruin_64 : decode cX2_ruin 64 = .ok (.iload_n 3, 1) := by decide +kernel
theorem dX2_ruin_65 : decode cX2_ruin 65 = .ok (.aload_n 0, 1) := by decide +kernel
theorem dX2_ruin_66 : decode cX2_ruin 66 = .ok (.getfield 38, 3) := by decide +kernel
theorem dX2_ruin_69 : decode cX2_ruin 69 = .ok (.if_icmp .ge 21, 3) := by decide +kernel
theorem dX2_ruin_72 : decode cX2_ruin 72 = .ok (.aload_n 0, 1) := by decide +kernel
theorem dX2_ruin_73 : decode cX2_ruin 73 = .ok (.getfield 20, 3) := by decide +kernel
theorem dX2_ruin_76 : decode cX2_ruin 76 = .ok (.iload_n 3, 1) := by decide +kernel
theorem dX2_ruin_77 : decode cX2_ruin 77 = .ok (.aaload, 1) := by decide +kernel
theorem dX2_ruin_78 : decode cX2_ruin 78 = .ok (.getfield 67, 3) := by decide +kernel
theorem dX2_ruin_81 : decode cX2_ruin 81 = .ok (.iload_n 1, 1) := by decide +kernel
theorem dX2_ruin_82 : decode cX2_ruin 82 = .ok (.iconst 0, 1) := by decide +kernel
theorem dX2_ruin_83 : decode cX2_ruin 83 = .ok (.iastore, 1) := by decide +kernel
theorem dX2_ruin_84 : decode cX2_ruin 84 = .ok (.iinc 3 1, 3) := by decide +kernel
theorem dX2_ruin_87 : decode cX2_ruin 87 = .ok (.goto (-23), 3) := by decide +kernel
theorem dX2_ruin_90 : decode cX2_ruin 90 = .ok (.aload_n 0, 1) := by decide +kernel
theorem dX2_ruin_91 : decode cX2_ruin 91 = .ok (.getfield 20, 3) := by decide +kernel
theorem dX2_ruin_94 : decode cX2_ruin 94 = .ok (.iload_n 1, 1) := by decide +kernel
theorem dX2_ruin_95 : decode cX2_ruin 95 = .ok (.aaload, 1) := by decide +kernel
theorem dX2_ruin_96 : decode cX2_ruin 96 = .ok (.invokevirtual 188, 3) := by decide +kernel
theorem dX2_ruin_99 : decode cX2_ruin 99 = .ok (.return_, 1) := by decide +kernel
theorem dX6_init_0 : decode cX6_init 0 = .ok (.aload_n 0, 1) := by decide +kernel
theorem dX6_init_1 : decode cX6_init 1 = .ok (.invokespecial 3, 3) := by decide +kernel
theorem dX6_init_4 : decode cX6_init 4 = .ok (.aload_n 0, 1) := by decide +kernel
theorem dX6_init_5 : decode cX6_init 5 = .ok (.new 9, 3) := by decide +kernel
theorem dX6_init_8 : decode cX6_init 8 = .ok (.dup, 1) := by decide +kernel
theorem dX6_init_9 : decode cX6_init 9 = .ok (.invokespecial 11, 3) := by decide +kernel
theorem dX6_init_12 : decode cX6_init 12 = .ok (.putfield 12, 3) := by decide +kernel
theorem dX6_init_15 : decode cX6_init 15 = .ok (.aload_n 0, 1) := by decide +kernel
theorem dX6_init_16 : decode cX6_init 16 = .ok (.new 16, 3) := by decide +kernel
theorem dX6_init_19 : decode cX6_init 19 = .ok (.dup, 1) := by decide +kernel
theorem dX6_init_20 : decode cX6_init 20 = .ok (.invokespecial 18, 3) := by decide +kernel
theorem dX6_init_23 : decode cX6_init 23 = .ok (.putfield 19, 3) := by decide +kernel
theorem dX6_init_26 : decode cX6_init 26 = .ok (.aload_n 0, 1) := by decide +kernel
theorem dX6_init_27 : decode cX6_init 27 = .ok (.new 23, 3) := by decide +kernel
theorem dX6_init_30 : decode cX6_init 30 = .ok (.dup, 1) := by decide +kernel
theorem dX6_init_31 : decode cX6_init 31 = .ok (.invokespecial 25, 3) := by decide +kernel
theorem dX6_init_34 : decode cX6_init 34 = .ok (.putfield 26, 3) := by decide +kernel
theorem dX6_init_37 : decode cX6_init 37 = .ok (.aload_n 0, 1) := by decide +kernel
theorem dX6_init_38 : decode cX6_init 38 = .ok (.iconst 2, 1) := by decide +kernel
theorem dX6_init_39 : decode cX6_init 39 = .ok (.anewarray 16, 3) := by decide +kernel
theorem dX6_init_42 : decode cX6_init 42 = .ok (.putfield 30, 3) := by decide +kernel
theorem dX6_init_45 : decode cX6_init 45 = .ok (.aload_n 0, 1) := by decide +kernel
theorem dX6_init_46 : decode cX6_init 46 = .ok (.iconst 2, 1) := by decide +kernel
theorem dX6_init_47 : decode cX6_init 47 = .ok (.newarray .boolean, 2) := by decide +kernel
theorem dX6_init_49 : decode cX6_init 49 = .ok (.putfield 34, 3) := by decide +kernel
theorem dX6_init_52 : decode cX6_init 52 = .ok (.aload_n 0, 1) := by decide +kernel
theorem dX6_init_53 : decode cX6_init 53 = .ok (.new 16, 3) := by decide +kernel
theorem dX6_init_56 : decode cX6_init 56 = .ok (.dup, 1) := by decide +kernel
theorem dX6_init_57 : decode cX6_init 57 = .ok (.invokespecial 18, 3) := by decide +kernel
theorem dX6_init_60 : decode cX6_init 60 = .ok (.putfield 38, 3) := by decide +kernel
theorem dX6_init_63 : decode cX6_init 63 = .ok (.aload_n 0, 1) := by decide +kernel
theorem dX6_init_64 : decode cX6_init 64 = .ok (.new 16, 3) := by decide +kernel
theorem dX6_init_67 : decode cX6_init 67 = .ok (.dup, 1) := by decide +kernel
theorem dX6_init_68 : decode cX6_init 68 = .ok (.invokespecial 18, 3) := by decide +kernel
theorem dX6_init_71 : decode cX6_init 71 = .ok (.putfield 41, 3) := by decide +kernel
theorem dX6_init_74 : decode cX6_init 74 = .ok (.iconst 0, 1) := by decide +kernel
theorem dX6_init_75 : decode cX6_init 75 = .ok (.istore_n 1, 1) := by decide +kernel
theorem dX6_init_76 : decode cX6_init 76 = .ok (.iload_n 1, 1) := by decide +kernel
theorem dX6_init_77 : decode cX6_init 77 = .ok (.iconst 2, 1) := by decide +kernel
theorem dX6_init_78 : decode cX6_init 78 = .ok (.if_icmp .ge 22, 3) := by decide +kernel
theorem dX6_init_81 : decode cX6_init 81 = .ok (.aload_n 0, 1) := by decide +kernel
theorem dX6_init_82 : decode cX6_init 82 = .ok (.getfield 30, 3) := by decide +kernel
theorem dX6_init_85 : decode cX6_init 85 = .ok (.iload_n 1, 1) := by decide +kernel
theorem dX6_init_86 : decode cX6_init 86 = .ok (.new 16, 3) := by decide +kernel
theorem dX6_init_89 : decode cX6_init 89 = .ok (.dup, 1) := by decide +kernel
theorem dX6_init_90 : decode cX6_init 90 = .ok (.invokespecial 18, 3) := by decide +kernel
theorem dX6_init_93 : decode cX6_init 93 = .ok (.aastore, 1) := by decide +kernel
theorem dX6_init_94 : decode cX6_init 94 = .ok (.iinc 1 1, 3) := by decide +kernel
theorem dX6_init_97 : decode cX6_init 97 = .ok (.goto (-21), 3) := by decide +kernel
theorem dX6_init_100 : decode cX6_init 100 = .ok (.return_, 1) := by decide +kernel
theorem dX6_errorPosition_0 : decode cX6_errorPosition 0 = .ok (.aload_n 0, 1) := by decide +kernel
theorem dX6_errorPosition_1 : decode cX6_errorPosition 1 = .ok (.getfield 12, 3) := by decide +kernel
theorem dX6_errorPosition_4 : decode cX6_errorPosition 4 = .ok (.aload_n 0, 1) := by decide +kernel
theorem dX6_errorPosition_5 : decode cX6_errorPosition 5 = .ok (.getfield 38, 3) := by decide +kernel
theorem dX6_errorPosition_8 : decode cX6_errorPosition 8 = .ok (.invokevirtual 68, 3) := by decide +kernel
theorem dX6_errorPosition_11 : decode cX6_errorPosition 11 = .ok (.ireturn, 1) := by decide +kernel
theorem dX6_about_0 : decode cX6_about 0 = .ok (.iload_n 1, 1) := by decide +kernel
theorem dX6_about_1 : decode cX6_about 1 = .ok (.tableswitch 135 0 9 #[55, 63, 71, 79, 87, 95, 103, 111, 119, 127], 55) := by decide +kernel
theorem dX6_about_56 : decode cX6_about 56 = .ok (.aload_n 0, 1) := by decide +kernel
theorem dX6_about_57 : decode cX6_about 57 = .ok (.getfield 19, 3) := by decide +kernel
theorem dX6_about_60 : decode cX6_about 60 = .ok (.getfield 83, 3) := by decide +kernel
theorem dX6_about_63 : decode cX6_about 63 = .ok (.ireturn, 1) := by decide +kernel
theorem dX6_about_64 : decode cX6_about 64 = .ok (.aload_n 0, 1) := by decide +kernel
theorem dX6_about_65 : decode cX6_about 65 = .ok (.getfield 19, 3) := by decide +kernel
theorem dX6_about_68 : decode cX6_about 68 = .ok (.getfield 87, 3) := by decide +kernel
theorem dX6_about_71 : decode cX6_about 71 = .ok (.ireturn, 1) := by decide +kernel
theorem dX6_about_72 : decode cX6_about 72 = .ok (.aload_n 0, 1) := by decide +kernel
theorem dX6_about_73 : decode cX6_about 73 = .ok (.getfield 19, 3) := by decide +kernel
theorem dX6_about_76 : decode cX6_about 76 = .ok (.getfield 90, 3) := by decide +kernel
theorem dX6_about_79 : decode cX6_about 79 = .ok (.ireturn, 1) := by decide +kernel
theorem dX6_about_80 : decode cX6_about 80 = .ok (.aload_n 0, 1) := by decide +kernel
theorem dX6_about_81 : decode cX6_about 81 = .ok (.getfield 19, 3) := by decide +kernel
theorem dX6_about_84 : decode cX6_about 84 = .ok (.getfield 93, 3) := by decide +kernel
theorem dX6_about_87 : decode cX6_about 87 = .ok (.ireturn, 1) := by decide +kernel
theorem dX6_about_88 : decode cX6_about 88 = .ok (.aload_n 0, 1) := by decide +kernel
theorem dX6_about_89 : decode cX6_about 89 = .ok (.getfield 19, 3) := by decide +kernel
theorem dX6_about_92 : decode cX6_about 92 = .ok (.getfield 96, 3) := by decide +kernel
theorem dX6_about_95 : decode cX6_about 95 = .ok (.ireturn, 1) := by decide +kernel
theorem dX6_about_96 : decode cX6_about 96 = .ok (.aload_n 0, 1) := by decide +kernel
theorem dX6_about_97 : decode cX6_about 97 = .ok (.getfield 19, 3) := by decide +kernel
theorem dX6_about_100 : decode cX6_about 100 = .ok (.invokevirtual 99, 3) := by decide +kernel
theorem dX6_about_103 : decode cX6_about 103 = .ok (.ireturn, 1) := by decide +kernel
theorem dX6_about_104 : decode cX6_about 104 = .ok (.aload_n 0, 1) := by decide +kernel
theorem dX6_about_105 : decode cX6_about 105 = .ok (.getfield 19, 3) := by decide +kernel
theorem dX6_about_108 : decode cX6_about 108 = .ok (.invokevirtual 80, 3) := by decide +kernel
theorem dX6_about_111 : decode cX6_about 111 = .ok (.ireturn, 1) := by decide +kernel
theorem dX6_about_112 : decode cX6_about 112 = .ok (.aload_n 0, 1) := by decide +kernel
theorem dX6_about_113 : decode cX6_about 113 = .ok (.getfield 19, 3) := by decide +kernel
theorem dX6_about_116 : decode cX6_about 116 = .ok (.invokevirtual 102, 3) := by decide +kernel
theorem dX6_about_119 : decode cX6_about 119 = .ok (.ireturn, 1) := by decide +kernel
theorem dX6_about_120 : decode cX6_about 120 = .ok (.aload_n 0, 1) := by decide +kernel
theorem dX6_about_121 : decode cX6_about 121 = .ok (.getfield 19, 3) := by decide +kernel
theorem dX6_about_124 : decode cX6_about 124 = .ok (.getfield 105, 3) := by decide +kernel
theorem dX6_about_127 : decode cX6_about 127 = .ok (.ireturn, 1) := by decide +kernel
theorem dX6_about_128 : decode cX6_about 128 = .ok (.aload_n 0, 1) := by decide +kernel
theorem dX6_about_129 : decode cX6_about 129 = .ok (.getfield 19, 3) := by decide +kernel
theorem dX6_about_132 : decode cX6_about 132 = .ok (.invokevirtual 108, 3) := by decide +kernel
theorem dX6_about_135 : decode cX6_about 135 = .ok (.ireturn, 1) := by decide +kernel
theorem dX6_about_136 : decode cX6_about 136 = .ok (.new 44, 3) := by decide +kernel
theorem dX6_about_139 : decode cX6_about 139 = .ok (.dup, 1) := by decide +kernel
theorem dX6_about_140 : decode cX6_about 140 = .ok (.ldc 111, 2) := by decide +kernel
theorem dX6_about_142 : decode cX6_about 142 = .ok (.invokespecial 48, 3) := by decide +kernel
theorem dX6_about_145 : decode cX6_about 145 = .ok (.athrow, 1) := by decide +kernel
theorem dX6_master_0 : decode cX6_master 0 = .ok (.aload_n 0, 1) := by decide +kernel
theorem dX6_master_1 : decode cX6_master 1 = .ok (.iload_n 1, 1) := by decide +kernel
theorem dX6_master_2 : decode cX6_master 2 = .ok (.invokevirtual 113, 3) := by decide +kernel
theorem dX6_master_5 : decode cX6_master 5 = .ok (.aload_n 0, 1) := by decide +kernel
theorem dX6_master_6 : decode cX6_master 6 = .ok (.getfield 19, 3) := by decide +kernel
theorem dX6_master_9 : decode cX6_master 9 = .ok (.getfield 117, 3) := by decide +kernel
theorem dX6_master_12 : decode cX6_master 12 = .ok (.iload_n 1, 1) := by decide +kernel
theorem dX6_master_13 : decode cX6_master 13 = .ok (.aaload, 1) := by decide +kernel
theorem dX6_master_14 : decode cX6_master 14 = .ok (.astore_n 3, 1) := by decide +kernel
theorem dX6_master_15 : decode cX6_master 15 = .ok (.iload_n 2, 1) := by decide +kernel
theorem dX6_master_16 : decode cX6_master 16 = .ok (.tableswitch 129 0 10 #[60, 69, 74, 83, 91, 99, 104, 109, 114, 119, 124], 60) := by decide +kernel
theorem dX6_master_76 : decode cX6_master 76 = .ok (.aload_n 0, 1) := by decide +kernel
theorem dX6_master_77 : decode cX6_master 77 = .ok (.getfield 19, 3) := by decide +kernel
theorem dX6_master_80 : decode cX6_master 80 = .ok (.iload_n 1, 1) := by decide +kernel
theorem dX6_master_81 : decode cX6_master 81 = .ok (.invokevirtual 121, 3) := by decide +kernel
theorem dX6_master_84 : decode cX6_master 84 = .ok (.ireturn, 1) := by decide +kernel
theorem dX6_master_85 : decode cX6_master 85 = .ok (.aload_n 3, 1) := by decide +kernel
theorem dX6_master_86 : decode cX6_master 86 = .ok (.invokevirtual 125, 3) := by decide +kernel
theorem dX6_master_89 : decode cX6_master 89 = .ok (.ireturn, 1) := by decide +kernel
theorem dX6_master_90 : decode cX6_master 90 = .ok (.aload_n 0, 1) := by decide +kernel
theorem dX6_master_91 : decode cX6_master 91 = .ok (.getfield 19, 3) := by decide +kernel
theorem dX6_master_94 : decode cX6_master 94 = .ok (.iload_n 1, 1) := by decide +kernel
theorem dX6_master_95 : decode cX6_master 95 = .ok (.invokevirtual 130, 3) := by decide +kernel
theorem dX6_master_98 : decode cX6_master 98 = .ok (.ireturn, 1) := by decide +kernel
theorem dX6_master_99 : decode cX6_master 99 = .ok (.aload_n 3, 1) := by decide +kernel
theorem dX6_master_100 : decode cX6_master 100 = .ok (.getfield 133, 3) := by decide +kernel
theorem dX6_master_103 : decode cX6_master 103 = .ok (.getfield 137, 3) := by decide +kernel
theorem dX6_master_106 : decode cX6_master 106 = .ok (.ireturn, 1) := by decide +kernel
theorem dX6_master_107 : decode cX6_master 107 = .ok (.aload_n 3, 1) := by decide +kernel
theorem dX6_master_108 : decode cX6_master 108 = .ok (.getfield 133, 3) := by decide +kernel
theorem dX6_master_111 : decode cX6_master 111 = .ok (.invokevirtual 142, 3) := by decide +kernel
theorem dX6_master_114 : decode cX6_master 114 = .ok (.ireturn, 1) := by decide +kernel
theorem dX6_master_115 : decode cX6_master 115 = .ok (.aload_n 3, 1) := by decide +kernel
theorem dX6_master_116 : decode cX6_master 116 = .ok (.getfield 145, 3) := by decide +kernel
theorem dX6_master_119 : decode cX6_master 119 = .ok (.ireturn, 1) := by decide +kernel
theorem dX6_master_120 : decode cX6_master 120 = .ok (.aload_n 3, 1) := by decide +kernel
theorem dX6_master_121 : decode cX6_master 121 = .ok (.getfield 148, 3) := by decide +kernel
theorem dX6_master_124 : decode cX6_master 124 = .ok (.ireturn, 1) := by decide +kernel
theorem dX6_master_125 : decode cX6_master 125 = .ok (.aload_n 3, 1) := by decide +kernel
theorem dX6_master_126 : decode cX6_master 126 = .ok (.getfield 151, 3) := by decide +kernel
theorem dX6_master_129 : decode cX6_master 129 = .ok (.ireturn, 1) := by decide +kernel
theorem dX6_master_130 : decode cX6_master 130 = .ok (.aload_n 3, 1) := by decide +kernel
theorem dX6_master_131 : decode cX6_master 131 = .ok (.getfield 154, 3) := by decide +kernel
