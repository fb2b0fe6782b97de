theorem dX0_init_0 : decode cX0_init 0 = .ok (.aload_n 0, 1) := by decide +kernel
theorem dX0_init_1 : decode cX0_init 1 = .ok (.iload_n 1, 1) := by decide +kernel
theorem dX0_init_2 : decode cX0_init 2 = .ok (.invokespecial 1, 3) := by decide +kernel
theorem dX0_init_5 : decode cX0_init 5 = .ok (.return_, 1) := by decide +kernel
theorem dX0_kind_0 : decode cX0_kind 0 = .ok (.iconst 5, 1) := by decide +kernel
theorem dX0_kind_1 : decode cX0_kind 1 = .ok (.ireturn, 1) := by decide +kernel
theorem dX0_choose_0 : decode cX0_choose 0 = .ok (.aload_n 2, 1) := by decide +kernel
theorem dX0_choose_1 : decode cX0_choose 1 = .ok (.getfield 7, 3) := by decide +kernel
theorem dX0_choose_4 : decode cX0_choose 4 = .ok (.ifCond .ne 10, 3) := by decide +kernel
theorem dX0_choose_7 : decode cX0_choose 7 = .ok (.aload_n 0, 1) := by decide +kernel
theorem dX0_choose_8 : decode cX0_choose 8 = .ok (.aload_n 1, 1) := by decide +kernel
theorem dX0_choose_9 : decode cX0_choose 9 = .ok (.aload_n 2, 1) := by decide +kernel
theorem dX0_choose_10 : decode cX0_choose 10 = .ok (.invokevirtual 13, 3) := by decide +kernel
theorem dX0_choose_13 : decode cX0_choose 13 = .ok (.ireturn, 1) := by decide +kernel
theorem dX0_choose_14 : decode cX0_choose 14 = .ok (.iconst (-1), 1) := by decide +kernel
theorem dX0_choose_15 : decode cX0_choose 15 = .ok (.istore_n 3, 1) := by decide +kernel
theorem dX0_choose_16 : decode cX0_choose 16 = .ok (.iconst 0, 1) := by decide +kernel
theorem dX0_choose_17 : decode cX0_choose 17 = .ok (.istore 4, 2) := by decide +kernel
theorem dX0_choose_19 : decode cX0_choose 19 = .ok (.iconst 0, 1) := by decide +kernel
theorem dX0_choose_20 : decode cX0_choose 20 = .ok (.istore 5, 2) := by decide +kernel
theorem dX0_choose_22 : decode cX0_choose 22 = .ok (.iload 5, 2) := by decide +kernel
theorem dX0_choose_24 : decode cX0_choose 24 = .ok (.aload_n 1, 1) := by decide +kernel
theorem dX0_choose_25 : decode cX0_choose 25 = .ok (.getfield 21, 3) := by decide +kernel
theorem dX0_choose_28 : decode cX0_choose 28 = .ok (.if_icmp .ge 32, 3) := by decide +kernel
theorem dX0_choose_31 : decode cX0_choose 31 = .ok (.aload_n 1, 1) := by decide +kernel
theorem dX0_choose_32 : decode cX0_choose 32 = .ok (.aload_n 2, 1) := by decide +kernel
theorem dX0_choose_33 : decode cX0_choose 33 = .ok (.iload 5, 2) := by decide +kernel
theorem dX0_choose_35 : decode cX0_choose 35 = .ok (.invokestatic 26, 3) := by decide +kernel
theorem dX0_choose_38 : decode cX0_choose 38 = .ok (.istore 6, 2) := by decide +kernel
theorem dX0_choose_40 : decode cX0_choose 40 = .ok (.iload 6, 2) := by decide +kernel
theorem dX0_choose_42 : decode cX0_choose 42 = .ok (.iload 4, 2) := by decide +kernel
theorem dX0_choose_44 : decode cX0_choose 44 = .ok (.if_icmp .le 10, 3) := by decide +kernel
theorem dX0_choose_47 : decode cX0_choose 47 = .ok (.iload 6, 2) := by decide +kernel
theorem dX0_choose_49 : decode cX0_choose 49 = .ok (.istore 4, 2) := by decide +kernel
theorem dX0_choose_51 : decode cX0_choose 51 = .ok (.iload 5, 2) := by decide +kernel
theorem dX0_choose_53 : decode cX0_choose 53 = .ok (.istore_n 3, 1) := by decide +kernel
theorem dX0_choose_54 : decode cX0_choose 54 = .ok (.iinc 5 1, 3) := by decide +kernel
theorem dX0_choose_57 : decode cX0_choose 57 = .ok (.goto (-35), 3) := by decide +kernel
theorem dX0_choose_60 : decode cX0_choose 60 = .ok (.iload_n 3, 1) := by decide +kernel
theorem dX0_choose_61 : decode cX0_choose 61 = .ok (.ireturn, 1) := by decide +kernel
theorem dX0_boundFor_0 : decode cX0_boundFor 0 = .ok (.iconst 0, 1) := by decide +kernel
theorem dX0_boundFor_1 : decode cX0_boundFor 1 = .ok (.istore_n 3, 1) := by decide +kernel
theorem dX0_boundFor_2 : decode cX0_boundFor 2 = .ok (.iconst 0, 1) := by decide +kernel
theorem dX0_boundFor_3 : decode cX0_boundFor 3 = .ok (.istore 4, 2) := by decide +kernel
theorem dX0_boundFor_5 : decode cX0_boundFor 5 = .ok (.iload 4, 2) := by decide +kernel
theorem dX0_boundFor_7 : decode cX0_boundFor 7 = .ok (.aload_n 1, 1) := by decide +kernel
theorem dX0_boundFor_8 : decode cX0_boundFor 8 = .ok (.getfield 7, 3) := by decide +kernel
theorem dX0_boundFor_11 : decode cX0_boundFor 11 = .ok (.if_icmp .ge 30, 3) := by decide +kernel
theorem dX0_boundFor_14 : decode cX0_boundFor 14 = .ok (.aload_n 0, 1) := by decide +kernel
theorem dX0_boundFor_15 : decode cX0_boundFor 15 = .ok (.aload_n 1, 1) := by decide +kernel
theorem dX0_boundFor_16 : decode cX0_boundFor 16 = .ok (.getfield 30, 3) := by decide +kernel
theorem dX0_boundFor_19 : decode cX0_boundFor 19 = .ok (.iload 4, 2) := by decide +kernel
theorem dX0_boundFor_21 : decode cX0_boundFor 21 = .ok (.invokestatic 34, 3) := by decide +kernel
theorem dX0_boundFor_24 : decode cX0_boundFor 24 = .ok (.iconst 1, 1) := by decide +kernel
theorem dX0_boundFor_25 : decode cX0_boundFor 25 = .ok (.invokevirtual 40, 3) := by decide +kernel
theorem dX0_boundFor_28 : decode cX0_boundFor 28 = .ok (.iload_n 2, 1) := by decide +kernel
theorem dX0_boundFor_29 : decode cX0_boundFor 29 = .ok (.if_icmp .ne 6, 3) := by decide +kernel
theorem dX0_boundFor_32 : decode cX0_boundFor 32 = .ok (.iinc 3 1, 3) := by decide +kernel
theorem dX0_boundFor_35 : decode cX0_boundFor 35 = .ok (.iinc 4 1, 3) := by decide +kernel
theorem dX0_boundFor_38 : decode cX0_boundFor 38 = .ok (.goto (-33), 3) := by decide +kernel
theorem dX0_boundFor_41 : decode cX0_boundFor 41 = .ok (.iload_n 3, 1) := by decide +kernel
theorem dX0_boundFor_42 : decode cX0_boundFor 42 = .ok (.ireturn, 1) := by decide +kernel
theorem dX0_cost_0 : decode cX0_cost 0 = .ok (.aload_n 0, 1) := by decide +kernel
theorem dX0_cost_1 : decode cX0_cost 1 = .ok (.invokespecial 44, 3) := by decide +kernel
theorem dX0_cost_4 : decode cX0_cost 4 = .ok (.aload_n 0, 1) := by decide +kernel
theorem dX0_cost_5 : decode cX0_cost 5 = .ok (.getfield 48, 3) := by decide +kernel
theorem dX0_cost_8 : decode cX0_cost 8 = .ok (.iadd, 1) := by decide +kernel
theorem dX0_cost_9 : decode cX0_cost 9 = .ok (.ireturn, 1) := by decide +kernel
theorem dX1_init_0 : decode cX1_init 0 = .ok (.aload_n 0, 1) := by decide +kernel
theorem dX1_init_1 : decode cX1_init 1 = .ok (.invokespecial 1, 3) := by decide +kernel
theorem dX1_init_4 : decode cX1_init 4 = .ok (.aload_n 0, 1) := by decide +kernel
theorem dX1_init_5 : decode cX1_init 5 = .ok (.iconst 0, 1) := by decide +kernel
theorem dX1_init_6 : decode cX1_init 6 = .ok (.putfield 7, 3) := by decide +kernel
theorem dX1_init_9 : decode cX1_init 9 = .ok (.aload_n 0, 1) := by decide +kernel
theorem dX1_init_10 : decode cX1_init 10 = .ok (.iconst 0, 1) := by decide +kernel
theorem dX1_init_11 : decode cX1_init 11 = .ok (.putfield 13, 3) := by decide +kernel
theorem dX1_init_14 : decode cX1_init 14 = .ok (.aload_n 0, 1) := by decide +kernel
theorem dX1_init_15 : decode cX1_init 15 = .ok (.iconst 0, 1) := by decide +kernel
theorem dX1_init_16 : decode cX1_init 16 = .ok (.putfield 16, 3) := by decide +kernel
theorem dX1_init_19 : decode cX1_init 19 = .ok (.aload_n 0, 1) := by decide +kernel
theorem dX1_init_20 : decode cX1_init 20 = .ok (.bipush 6, 2) := by decide +kernel
theorem dX1_init_22 : decode cX1_init 22 = .ok (.newarray .int, 2) := by decide +kernel
theorem dX1_init_24 : decode cX1_init 24 = .ok (.putfield 21, 3) := by decide +kernel
theorem dX1_init_27 : decode cX1_init 27 = .ok (.aload_n 0, 1) := by decide +kernel
theorem dX1_init_28 : decode cX1_init 28 = .ok (.new 25, 3) := by decide +kernel
theorem dX1_init_31 : decode cX1_init 31 = .ok (.dup, 1) := by decide +kernel
theorem dX1_init_32 : decode cX1_init 32 = .ok (.iconst 0, 1) := by decide +kernel
theorem dX1_init_33 : decode cX1_init 33 = .ok (.invokespecial 27, 3) := by decide +kernel
theorem dX1_init_36 : decode cX1_init 36 = .ok (.putfield 30, 3) := by decide +kernel
theorem dX1_init_39 : decode cX1_init 39 = .ok (.return_, 1) := by decide +kernel
theorem dX1_begin_0 : decode cX1_begin 0 = .ok (.aload_n 0, 1) := by decide +kernel
theorem dX1_begin_1 : decode cX1_begin 1 = .ok (.iload_n 2, 1) := by decide +kernel
theorem dX1_begin_2 : decode cX1_begin 2 = .ok (.putfield 7, 3) := by decide +kernel
theorem dX1_begin_5 : decode cX1_begin 5 = .ok (.aload_n 0, 1) := by decide +kernel
theorem dX1_begin_6 : decode cX1_begin 6 = .ok (.iconst 0, 1) := by decide +kernel
theorem dX1_begin_7 : decode cX1_begin 7 = .ok (.putfield 13, 3) := by decide +kernel
theorem dX1_begin_10 : decode cX1_begin 10 = .ok (.aload_n 0, 1) := by decide +kernel
theorem dX1_begin_11 : decode cX1_begin 11 = .ok (.iconst 0, 1) := by decide +kernel
theorem dX1_begin_12 : decode cX1_begin 12 = .ok (.putfield 16, 3) := by decide +kernel
theorem dX1_begin_15 : decode cX1_begin 15 = .ok (.aload_n 0, 1) := by decide +kernel
theorem dX1_begin_16 : decode cX1_begin 16 = .ok (.aload_n 1, 1) := by decide +kernel
theorem dX1_begin_17 : decode cX1_begin 17 = .ok (.putfield 30, 3) := by decide +kernel
theorem dX1_begin_20 : decode cX1_begin 20 = .ok (.return_, 1) := by decide +kernel
theorem dX1_become_0 : decode cX1_become 0 = .ok (.aload_n 0, 1) := by decide +kernel
theorem dX1_become_1 : decode cX1_become 1 = .ok (.aload_n 1, 1) := by decide +kernel
theorem dX1_become_2 : decode cX1_become 2 = .ok (.getfield 7, 3) := by decide +kernel
theorem dX1_become_5 : decode cX1_become 5 = .ok (.putfield 7, 3) := by decide +kernel
theorem dX1_become_8 : decode cX1_become 8 = .ok (.aload_n 0, 1) := by decide +kernel
theorem dX1_become_9 : decode cX1_become 9 = .ok (.aload_n 1, 1) := by decide +kernel
theorem dX1_become_10 : decode cX1_become 10 = .ok (.getfield 13, 3) := by decide +kernel
theorem dX1_become_13 : decode cX1_become 13 = .ok (.putfield 13, 3) := by decide +kernel
theorem dX1_become_16 : decode cX1_become 16 = .ok (.aload_n 0, 1) := by decide +kernel
theorem dX1_become_17 : decode cX1_become 17 = .ok (.aload_n 1, 1) := by decide +kernel
theorem dX1_become_18 : decode cX1_become 18 = .ok (.getfield 16, 3) := by decide +kernel
theorem dX1_become_21 : decode cX1_become 21 = .ok (.putfield 16, 3) := by decide +kernel
theorem dX1_become_24 : decode cX1_become 24 = .ok (.aload_n 0, 1) := by decide +kernel
theorem dX1_become_25 : decode cX1_become 25 = .ok (.aload_n 1, 1) := by decide +kernel
theorem dX1_become_26 : decode cX1_become 26 = .ok (.getfield 30, 3) := by decide +kernel
theorem dX1_become_29 : decode cX1_become 29 = .ok (.putfield 30, 3) := by decide +kernel
theorem dX1_become_32 : decode cX1_become 32 = .ok (.aload_n 1, 1) := by decide +kernel
theorem dX1_become_33 : decode cX1_become 33 = .ok (.getfield 21, 3) := by decide +kernel
theorem dX1_become_36 : decode cX1_become 36 = .ok (.aload_n 0, 1) := by decide +kernel
theorem dX1_become_37 : decode cX1_become 37 = .ok (.getfield 21, 3) := by decide +kernel
theorem dX1_become_40 : decode cX1_become 40 = .ok (.invokestatic 34, 3) := by decide +kernel
theorem dX1_become_43 : decode cX1_become 43 = .ok (.return_, 1) := by decide +kernel
theorem dX2_init_0 : decode cX2_init 0 = .ok (.aload_n 0, 1) := by decide +kernel
theorem dX2_init_1 : decode cX2_init 1 = .ok (.iload_n 1, 1) := by decide +kernel
theorem dX2_init_2 : decode cX2_init 2 = .ok (.invokespecial 1, 3) := by decide +kernel
theorem dX2_init_5 : decode cX2_init 5 = .ok (.return_, 1) := by decide +kernel
theorem dX2_kind_0 : decode cX2_kind 0 = .ok (.iconst 3, 1) := by decide +kernel
theorem dX2_kind_1 : decode cX2_kind 1 = .ok (.ireturn, 1) := by decide +kernel
theorem dX2_calling_0 : decode cX2_calling 0 = .ok (.iconst (-1), 1) := by decide +kernel
theorem dX2_calling_1 : decode cX2_calling 1 = .ok (.istore_n 3, 1) := by decide +kernel
theorem dX2_calling_2 : decode cX2_calling 2 = .ok (.aload_n 0, 1) := by decide +kernel
theorem dX2_calling_3 : decode cX2_calling 3 = .ok (.getfield 9, 3) := by decide +kernel
theorem dX2_calling_6 : decode cX2_calling 6 = .ok (.istore 4, 2) := by decide +kernel
theorem dX2_calling_8 : decode cX2_calling 8 = .ok (.iconst 0, 1) := by decide +kernel
theorem dX2_calling_9 : decode cX2_calling 9 = .ok (.istore 5, 2) := by decide +kernel
theorem dX2_calling_11 : decode cX2_calling 11 = .ok (.iload 5, 2) := by decide +kernel
theorem dX2_calling_13 : decode cX2_calling 13 = .ok (.aload_n 1, 1) := by decide +kernel
theorem dX2_calling_14 : decode cX2_calling 14 = .ok (.getfield 15, 3) := by decide +kernel
theorem dX2_calling_17 : decode cX2_calling 17 = .ok (.if_icmp .ge 40, 3) := by decide +kernel
theorem dX2_calling_20 : decode cX2_calling 20 = .ok (.iload 5, 2) := by decide +kernel
theorem dX2_calling_22 : decode cX2_calling 22 = .ok (.aload_n 2, 1) := by decide +kernel
theorem dX2_calling_23 : decode cX2_calling 23 = .ok (.getfield 20, 3) := by decide +kernel
theorem dX2_calling_26 : decode cX2_calling 26 = .ok (.if_icmp .eq 25, 3) := by decide +kernel
theorem dX2_calling_29 : decode cX2_calling 29 = .ok (.aload_n 1, 1) := by decide +kernel
theorem dX2_calling_30 : decode cX2_calling 30 = .ok (.iload 5, 2) := by decide +kernel
theorem dX2_calling_32 : decode cX2_calling 32 = .ok (.invokevirtual 25, 3) := by decide +kernel
theorem dX2_calling_35 : decode cX2_calling 35 = .ok (.iload 4, 2) := by decide +kernel
theorem dX2_calling_37 : decode cX2_calling 37 = .ok (.if_icmp .le 14, 3) := by decide +kernel
theorem dX2_calling_40 : decode cX2_calling 40 = .ok (.aload_n 1, 1) := by decide +kernel
theorem dX2_calling_41 : decode cX2_calling 41 = .ok (.iload 5, 2) := by decide +kernel
theorem dX2_calling_43 : decode cX2_calling 43 = .ok (.invokevirtual 25, 3) := by decide +kernel
theorem dX2_calling_46 : decode cX2_calling 46 = .ok (.istore 4, 2) := by decide +kernel
theorem dX2_calling_48 : decode cX2_calling 48 = .ok (.iload 5, 2) := by decide +kernel
theorem dX2_calling_50 : decode cX2_calling 50 = .ok (.istore_n 3, 1) := by decide +kernel
theorem dX2_calling_51 : decode cX2_calling 51 = .ok (.iinc 5 1, 3) := by decide +kernel
theorem dX2_calling_54 : decode cX2_calling 54 = .ok (.goto (-43), 3) := by decide +kernel
theorem dX2_calling_57 : decode cX2_calling 57 = .ok (.iload_n 3, 1) := by decide +kernel
theorem dX2_calling_58 : decode cX2_calling 58 = .ok (.ireturn, 1) := by decide +kernel
theorem dX2_cost_0 : decode cX2_cost 0 = .ok (.aload_n 0, 1) := by decide +kernel
theorem dX2_cost_1 : decode cX2_cost 1 = .ok (.invokespecial 29, 3) := by decide +kernel
theorem dX2_cost_4 : decode cX2_cost 4 = .ok (.iconst 1, 1) := by decide +kernel
theorem dX2_cost_5 : decode cX2_cost 5 = .ok (.iadd, 1) := by decide +kernel
theorem dX2_cost_6 : decode cX2_cost 6 = .ok (.ireturn, 1) := by decide +kernel
theorem dX2_fail_0 : decode cX2_fail 0 = .ok (.new 33, 3) := by decide +kernel
theorem dX2_fail_3 : decode cX2_fail 3 = .ok (.dup, 1) := by decide +kernel
theorem dX2_fail_4 : decode cX2_fail 4 = .ok (.ldc 35, 2) := by decide +kernel
theorem dX2_fail_6 : decode cX2_fail 6 = .ok (.invokespecial 37, 3) := by decide +kernel
theorem dX2_fail_9 : decode cX2_fail 9 = .ok (.athrow, 1) := by decide +kernel
theorem dX3_init_0 : decode cX3_init 0 = .ok (.aload_n 0, 1) := by decide +kernel
theorem dX3_init_1 : decode cX3_init 1 = .ok (.iload_n 1, 1) := by decide +kernel
theorem dX3_init_2 : decode cX3_init 2 = .ok (.invokespecial 1, 3) := by decide +kernel
theorem dX3_init_5 : decode cX3_init 5 = .ok (.return_, 1) := by decide +kernel
theorem dX3_kind_0 : decode cX3_kind 0 = .ok (.iconst 4, 1) := by decide +kernel
theorem dX3_kind_1 : decode cX3_kind 1 = .ok (.ireturn, 1) := by decide +kernel
theorem dX3_choose_0 : decode cX3_choose 0 = .ok (.aload_n 2, 1) := by decide +kernel
theorem dX3_choose_1 : decode cX3_choose 1 = .ok (.getfield 7, 3) := by decide +kernel
theorem dX3_choose_4 : decode cX3_choose 4 = .ok (.aload_n 0, 1) := by decide +kernel
theorem dX3_choose_5 : decode cX3_choose 5 = .ok (.getfield 13, 3) := by decide +kernel
theorem dX3_choose_8 : decode cX3_choose 8 = .ok (.if_icmp .gt 25, 3) := by decide +kernel
theorem dX3_choose_11 : decode cX3_choose 11 = .ok (.aload_n 2, 1) := by decide +kernel
theorem dX3_choose_12 : decode cX3_choose 12 = .ok (.getfield 7, 3) := by decide +kernel
theorem dX3_choose_15 : decode cX3_choose 15 = .ok (.aload_n 1, 1) := by decide +kernel
theorem dX3_choose_16 : decode cX3_choose 16 = .ok (.getfield 18, 3) := by decide +kernel
theorem dX3_choose_19 : decode cX3_choose 19 = .ok (.if_icmp .ge 14, 3) := by decide +kernel
theorem dX3_choose_22 : decode cX3_choose 22 = .ok (.aload_n 1, 1) := by decide +kernel
theorem dX3_choose_23 : decode cX3_choose 23 = .ok (.aload_n 2, 1) := by decide +kernel
theorem dX3_choose_24 : decode cX3_choose 24 = .ok (.getfield 23, 3) := by decide +kernel
theorem dX3_choose_27 : decode cX3_choose 27 = .ok (.invokevirtual 26, 3) := by decide +kernel
theorem dX3_choose_30 : decode cX3_choose 30 = .ok (.ifCond .ne 7, 3) := by decide +kernel
theorem dX3_choose_33 : decode cX3_choose 33 = .ok (.iconst 1, 1) := by decide +kernel
theorem dX3_choose_34 : decode cX3_choose 34 = .ok (.goto 4, 3) := by decide +kernel
theorem dX3_choose_37 : decode cX3_choose 37 = .ok (.iconst 0, 1) := by decide +kernel
theorem dX3_choose_38 : decode cX3_choose 38 = .ok (.istore_n 3, 1) := by decide +kernel
theorem dX3_choose_39 : decode cX3_choose 39 = .ok (.iload_n 3, 1) := by decide +kernel
theorem dX3_choose_40 : decode cX3_choose 40 = .ok (.ifCond .eq 12, 3) := by decide +kernel
theorem dX3_choose_43 : decode cX3_choose 43 = .ok (.aload_n 0, 1) := by decide +kernel
theorem dX3_choose_44 : decode cX3_choose 44 = .ok (.aload_n 1, 1) := by decide +kernel
theorem dX3_choose_45 : decode cX3_choose 45 = .ok (.aload_n 2, 1) := by decide +kernel
theorem dX3_choose_46 : decode cX3_choose 46 = .ok (.invokespecial 30, 3) := by decide +kernel
theorem dX3_choose_49 : decode cX3_choose 49 = .ok (.goto 4, 3) := by decide +kernel
theorem dX3_choose_52 : decode cX3_choose 52 = .ok (.iconst (-1), 1) := by decide +kernel
theorem dX3_choose_53 : decode cX3_choose 53 = .ok (.ireturn, 1) := by decide +kernel
theorem dX3_cost_0 : decode cX3_cost 0 = .ok (.aload_n 0, 1) := by decide +kernel
theorem dX3_cost_1 : decode cX3_cost 1 = .ok (.invokespecial 34, 3) := by decide +kernel
theorem dX3_cost_4 : decode cX3_cost 4 = .ok (.aload_n 0, 1) := by decide +kernel
theorem dX3_cost_5 : decode cX3_cost 5 = .ok (.getfield 13, 3) := by decide +kernel
theorem dX3_cost_8 : decode cX3_cost 8 = .ok (.isub, 1) := by decide +kernel
theorem dX3_cost_9 : decode cX3_cost 9 = .ok (.ireturn, 1) := by decide +kernel
theorem dX3_canFail_0 : decode cX3_canFail 0 = .ok (.iconst 0, 1) := by decide +kernel
theorem dX3_canFail_1 : decode cX3_canFail 1 = .ok (.ireturn, 1) := by decide +kernel
theorem dX4_init_0 : decode cX4_init 0 = .ok (.aload_n 0, 1) := by decide +kernel
theorem dX4_init_1 : decode cX4_init 1 = .ok (.iload_n 1, 1) := by decide +kernel
theorem dX4_init_2 : decode cX4_init 2 = .ok (.invokespecial 1, 3) := by decide +kernel
theorem dX4_init_5 : decode cX4_init 5 = .ok (.return_, 1) := by decide +kernel
theorem dX4_kind_0 : decode cX4_kind 0 = .ok (.iconst 2, 1) := by decide +kernel
theorem dX4_kind_1 : decode cX4_kind 1 = .ok (.ireturn, 1) := by decide +kernel
theorem dX4_choose_0 : decode cX4_choose 0 = .ok (.aload_n 2, 1) := by decide +kernel
theorem dX4_choose_1 : decode cX4_choose 1 = .ok (.getfield 7, 3) := by decide +kernel
theorem dX4_choose_4 : decode cX4_choose 4 = .ok (.ifCond .le 12, 3) := by decide +kernel
theorem dX4_choose_7 : decode cX4_choose 7 = .ok (.aload_n 0, 1) := by decide +kernel
theorem dX4_choose_8 : decode cX4_choose 8 = .ok (.aload_n 1, 1) := by decide +kernel
theorem dX4_choose_9 : decode cX4_choose 9 = .ok (.aload_n 2, 1) := by decide +kernel
theorem dX4_choose_10 : decode cX4_choose 10 = .ok (.invokespecial 13, 3) := by decide +kernel
theorem dX4_choose_13 : decode cX4_choose 13 = .ok (.goto 9, 3) := by decide +kernel
theorem dX4_choose_16 : decode cX4_choose 16 = .ok (.aload_n 0, 1) := by decide +kernel
theorem dX4_choose_17 : decode cX4_choose 17 = .ok (.aload_n 1, 1) := by decide +kernel
theorem dX4_choose_18 : decode cX4_choose 18 = .ok (.aload_n 2, 1) := by decide +kernel
theorem dX4_choose_19 : decode cX4_choose 19 = .ok (.invokevirtual 17, 3) := by decide +kernel
theorem dX4_choose_22 : decode cX4_choose 22 = .ok (.ireturn, 1) := by decide +kernel
theorem dX4_calling_0 : decode cX4_calling 0 = .ok (.iconst (-1), 1) := by decide +kernel
theorem dX4_calling_1 : decode cX4_calling 1 = .ok (.istore_n 3, 1) := by decide +kernel
theorem dX4_calling_2 : decode cX4_calling 2 = .ok (.aload_n 0, 1) := by decide +kernel
theorem dX4_calling_3 : decode cX4_calling 3 = .ok (.getfield 22, 3) := by decide +kernel
theorem dX4_calling_6 : decode cX4_calling 6 = .ok (.iconst 1, 1) := by decide +kernel
theorem dX4_calling_7 : decode cX4_calling 7 = .ok (.isub, 1) := by decide +kernel
theorem dX4_calling_8 : decode cX4_calling 8 = .ok (.istore 4, 2) := by decide +kernel
theorem dX4_calling_10 : decode cX4_calling 10 = .ok (.iconst 0, 1) := by decide +kernel
theorem dX4_calling_11 : decode cX4_calling 11 = .ok (.istore 5, 2) := by decide +kernel
theorem dX4_calling_13 : decode cX4_calling 13 = .ok (.iload 5, 2) := by decide +kernel
theorem dX4_calling_15 : decode cX4_calling 15 = .ok (.aload_n 1, 1) := by decide +kernel
theorem dX4_calling_16 : decode cX4_calling 16 = .ok (.getfield 25, 3) := by decide +kernel
theorem dX4_calling_19 : decode cX4_calling 19 = .ok (.if_icmp .ge 51, 3) := by decide +kernel
theorem dX4_calling_22 : decode cX4_calling 22 = .ok (.iload 5, 2) := by decide +kernel
theorem dX4_calling_24 : decode cX4_calling 24 = .ok (.aload_n 2, 1) := by decide +kernel
theorem dX4_calling_25 : decode cX4_calling 25 = .ok (.getfield 30, 3) := by decide +kernel
theorem dX4_calling_28 : decode cX4_calling 28 = .ok (.if_icmp .eq 36, 3) := by decide +kernel
theorem dX4_calling_31 : decode cX4_calling 31 = .ok (.aload_n 1, 1) := by decide +kernel
theorem dX4_calling_32 : decode cX4_calling 32 = .ok (.iload 5, 2) := by decide +kernel
theorem dX4_calling_34 : decode cX4_calling 34 = .ok (.invokevirtual 33, 3) := by decide +kernel
theorem dX4_calling_37 : decode cX4_calling 37 = .ok (.ifCond .le 27, 3) := by decide +kernel
theorem dX4_calling_40 : decode cX4_calling 40 = .ok (.aload_n 1, 1) := by decide +kernel
theorem dX4_calling_41 : decode cX4_calling 41 = .ok (.iload 5, 2) := by decide +kernel
theorem dX4_calling_43 : decode cX4_calling 43 = .ok (.iconst 0, 1) := by decide +kernel
theorem dX4_calling_44 : decode cX4_calling 44 = .ok (.invokevirtual 37, 3) := by decide +kernel
theorem dX4_calling_47 : decode cX4_calling 47 = .ok (.iload 4, 2) := by decide +kernel
theorem dX4_calling_49 : decode cX4_calling 49 = .ok (.if_icmp .le 15, 3) := by decide +kernel
theorem dX4_calling_52 : decode cX4_calling 52 = .ok (.aload_n 1, 1) := by decide +kernel
theorem dX4_calling_53 : decode cX4_calling 53 = .ok (.iload 5, 2) := by decide +kernel
theorem dX4_calling_55 : decode cX4_calling 55 = .ok (.iconst 0, 1) := by decide +kernel
theorem dX4_calling_56 : decode cX4_calling 56 = .ok (.invokevirtual 37, 3) := by decide +kernel
theorem dX4_calling_59 : decode cX4_calling 59 = .ok (.istore 4, 2) := by decide +kernel
theorem dX4_calling_61 : decode cX4_calling 61 = .ok (.iload 5, 2) := by decide +kernel
theorem dX4_calling_63 : decode cX4_calling 63 = .ok (.istore_n 3, 1) := by decide +kernel
theorem dX4_calling_64 : decode cX4_calling 64 = .ok (.iinc 5 1, 3) := by decide +kernel
theorem dX4_calling_67 : decode cX4_calling 67 = .ok (.goto (-54), 3) := by decide +kernel
theorem dX4_calling_70 : decode cX4_calling 70 = .ok (.iload_n 3, 1) := by decide +kernel
theorem dX4_calling_71 : decode cX4_calling 71 = .ok (.ireturn, 1) := by decide +kernel
theorem dX4_cost_0 : decode cX4_cost 0 = .ok (.iconst 2, 1) := by decide +kernel
theorem dX4_cost_1 : decode cX4_cost 1 = .ok (.aload_n 0, 1) := by decide +kernel
theorem dX4_cost_2 : decode cX4_cost 2 = .ok (.invokespecial 41, 3) := by decide +kernel
theorem dX4_cost_5 : decode cX4_cost 5 = .ok (.imul, 1) := by decide +kernel
theorem dX4_cost_6 : decode cX4_cost 6 = .ok (.ireturn, 1) := by decide +kernel
theorem dX5_init_0 : decode cX5_init 0 = .ok (.aload_n 0, 1) := by decide +kernel
theorem dX5_init_1 : decode cX5_init 1 = .ok (.invokespecial 1, 3) := by decide +kernel
theorem dX5_init_4 : decode cX5_init 4 = .ok (.aload_n 0, 1) := by decide +kernel
theorem dX5_init_5 : decode cX5_init 5 = .ok (.aconst_null, 1) := by decide +kernel
theorem dX5_init_6 : decode cX5_init 6 = .ok (.putfield 7, 3) := by decide +kernel
theorem dX5_init_9 : decode cX5_init 9 = .ok (.aload_n 0, 1) := by decide +kernel
theorem dX5_init_10 : decode cX5_init 10 = .ok (.iconst 0, 1) := by decide +kernel
theorem dX5_init_11 : decode cX5_init 11 = .ok (.putfield 13, 3) := by decide +kernel
theorem dX5_init_14 : decode cX5_init 14 = .ok (.aload_n 0, 1) := by decide +kernel
theorem dX5_init_15 : decode cX5_init 15 = .ok (.iconst 0, 1) := by decide +kernel
theorem dX5_init_16 : decode cX5_init 16 = .ok (.putfield 17, 3) := by decide +kernel
theorem dX5_init_19 : decode cX5_init 19 = .ok (.aload_n 0, 1) := by decide +kernel
theorem dX5_init_20 : decode cX5_init 20 = .ok (.iconst 0, 1) := by decide +kernel
theorem dX5_init_21 : decode cX5_init 21 = .ok (.putfield 20, 3) := by decide +kernel
theorem dX5_init_24 : decode cX5_init 24 = .ok (.aload_n 0, 1) := by decide +kernel
theorem dX5_init_25 : decode cX5_init 25 = .ok (.iconst 0, 1) := by decide +kernel
theorem dX5_init_26 : decode cX5_init 26 = .ok (.putfield 23, 3) := by decide +kernel
theorem dX5_init_29 : decode cX5_init 29 = .ok (.aload_n 0, 1) := by decide +kernel
theorem dX5_init_30 : decode cX5_init 30 = .ok (.iconst 5, 1) := by decide +kernel
theorem dX5_init_31 : decode cX5_init 31 = .ok (.newarray .int, 2) := by decide +kernel
theorem dX5_init_33 : decode cX5_init 33 = .ok (.putfield 26, 3) := by decide +kernel
theorem dX5_init_36 : decode cX5_init 36 = .ok (.return_, 1) := by decide +kernel
theorem dX5_open_0 : decode cX5_open 0 = .ok (.aload_n 0, 1) := by decide +kernel
theorem dX5_open_1 : decode cX5_open 1 = .ok (.aload_n 1, 1) := by decide +kernel
theorem dX5_open_2 : decode cX5_open 2 = .ok (.putfield 7, 3) := by decide +kernel
theorem dX5_open_5 : decode cX5_open 5 = .ok (.aload_n 0, 1) := by decide +kernel
theorem dX5_open_6 : decode cX5_open 6 = .ok (.iload_n 2, 1) := by decide +kernel
theorem dX5_open_7 : decode cX5_open 7 = .ok (.putfield 13, 3) := by decide +kernel
theorem dX5_open_10 : decode cX5_open 10 = .ok (.aload_n 0, 1) := by decide +kernel
theorem dX5_open_11 : decode cX5_open 11 = .ok (.iconst 0, 1) := by decide +kernel
theorem dX5_open_12 : decode cX5_open 12 = .ok (.putfield 17, 3) := by decide +kernel
theorem dX5_open_15 : decode cX5_open 15 = .ok (.aload_n 0, 1) := by decide +kernel
theorem dX5_open_16 : decode cX5_open 16 = .ok (.iconst 0, 1) := by decide +kernel
theorem dX5_open_17 : decode cX5_open 17 = .ok (.putfield 20, 3) := by decide +kernel
theorem dX5_open_20 : decode cX5_open 20 = .ok (.return_, 1) := by decide +kernel
theorem dX5_countStatements_0 : decode cX5_countStatements 0 = .ok (.iconst 0, 1) := by decide +kernel
theorem dX5_countStatements_1 : decode cX5_countStatements 1 = .ok (.istore_n 1, 1) := by decide +kernel
theorem dX5_countStatements_2 : decode cX5_countStatements 2 = .ok (.iconst 0, 1) := by decide +kernel
theorem dX5_countStatements_3 : decode cX5_countStatements 3 = .ok (.istore_n 2, 1) := by decide +kernel
theorem dX5_countStatements_4 : decode cX5_countStatements 4 = .ok (.iload_n 2, 1) := by decide +kernel
theorem dX5_countStatements_5 : decode cX5_countStatements 5 = .ok (.aload_n 0, 1) := by decide +kernel
theorem dX5_countStatements_6 : decode cX5_countStatements 6 = .ok (.getfield 13, 3) := by decide +kernel
theorem dX5_countStatements_9 : decode cX5_countStatements 9 = .ok (.if_icmp .ge 32, 3) := by decide +kernel
theorem dX5_countStatements_12 : decode cX5_countStatements 12 = .ok (.aload_n 0, 1) := by decide +kernel
theorem dX5_countStatements_13 : decode cX5_countStatements 13 = .ok (.getfield 17, 3) := by decide +kernel
theorem dX5_countStatements_16 : decode cX5_countStatements 16 = .ok (.aload_n 0, 1) := by decide +kernel
theorem dX5_countStatements_17 : decode cX5_countStatements 17 = .ok (.getfield 13, 3) := by decide +kernel
theorem dX5_countStatements_20 : decode cX5_countStatements 20 = .ok (.if_icmp .ge 21, 3) := by decide +kernel
theorem dX5_countStatements_23 : decode cX5_countStatements 23 = .ok (.aload_n 0, 1) := by decide +kernel
theorem dX5_countStatements_24 : decode cX5_countStatements 24 = .ok (.invokevirtual 29, 3) := by decide +kernel
theorem dX5_countStatements_27 : decode cX5_countStatements 27 = .ok (.ifCond .ne 5, 3) := by decide +kernel
theorem dX5_countStatements_30 : decode cX5_countStatements 30 = .ok (.iconst 0, 1) := by decide +kernel
theorem dX5_countStatements_31 : decode cX5_countStatements 31 = .ok (.ireturn, 1) := by decide +kernel
theorem dX5_countStatements_32 : decode cX5_countStatements 32 = .ok (.iinc 1 1, 3) := by decide +kernel
theorem dX5_countStatements_35 : decode cX5_countStatements 35 = .ok (.iinc 2 1, 3) := by decide +kernel
theorem dX5_countStatements_38 : decode cX5_countStatements 38 = .ok (.goto (-34), 3) := by decide +kernel
theorem dX5_countStatements_41 : decode cX5_countStatements 41 = .ok (.iload_n 1, 1) := by decide +kernel
theorem dX5_countStatements_42 : decode cX5_countStatements 42 = .ok (.ireturn, 1) := by decide +kernel
theorem dX5_next_0 : decode cX5_next 0 = .ok (.aload_n 0, 1) := by decide +kernel
theorem dX5_next_1 : decode cX5_next 1 = .ok (.aload_n 0, 1) := by decide +kernel
theorem dX5_next_2 : decode cX5_next 2 = .ok (.getfield 17, 3) := by decide +kernel
theorem dX5_next_5 : decode cX5_next 5 = .ok (.putfield 20, 3) := by decide +kernel
theorem dX5_next_8 : decode cX5_next 8 = .ok (.aload_n 0, 1) := by decide +kernel
theorem dX5_next_9 : decode cX5_next 9 = .ok (.aload_n 0, 1) := by decide +kernel
theorem dX5_next_10 : decode cX5_next 10 = .ok (.invokevirtual 33, 3) := by decide +kernel
theorem dX5_next_13 : decode cX5_next 13 = .ok (.putfield 23, 3) := by decide +kernel
theorem dX5_next_16 : decode cX5_next 16 = .ok (.aload_n 0, 1) := by decide +kernel
theorem dX5_next_17 : decode cX5_next 17 = .ok (.getfield 23, 3) := by decide +kernel
theorem dX5_next_20 : decode cX5_next 20 = .ok (.lookupswitch 227 #[(98, 44), (109, 77), (110, 44), (115, 135)], 44) := by decide +kernel
theorem dX5_next_64 : decode cX5_next 64 = .ok (.aload_n 0, 1) := by decide +kernel
theorem dX5_next_65 : decode cX5_next 65 = .ok (.dup, 1) := by decide +kernel
theorem dX5_next_66 : decode cX5_next 66 = .ok (.getfield 17, 3) := by decide +kernel
theorem dX5_next_69 : decode cX5_next 69 = .ok (.iconst 1, 1) := by decide +kernel
theorem dX5_next_70 : decode cX5_next 70 = .ok (.iadd, 1) := by decide +kernel
theorem dX5_next_71 : decode cX5_next 71 = .ok (.putfield 17, 3) := by decide +kernel
theorem dX5_next_74 : decode cX5_next 74 = .ok (.aload_n 0, 1) := by decide +kernel
theorem dX5_next_75 : decode cX5_next 75 = .ok (.iconst 0, 1) := by decide +kernel
theorem dX5_next_76 : decode cX5_next 76 = .ok (.invokevirtual 37, 3) := by decide +kernel
theorem dX5_next_79 : decode cX5_next 79 = .ok (.ifCond .eq 16, 3) := by decide +kernel
theorem dX5_next_82 : decode cX5_next 82 = .ok (.aload_n 0, 1) := by decide +kernel
theorem dX5_next_83 : decode cX5_next 83 = .ok (.bipush 59, 2) := by decide +kernel
theorem dX5_next_85 : decode cX5_next 85 = .ok (.invokevirtual 41, 3) := by decide +kernel
theorem dX5_next_88 : decode cX5_next 88 = .ok (.ifCond .eq 7, 3) := by decide +kernel
theorem dX5_next_91 : decode cX5_next 91 = .ok (.iconst 1, 1) := by decide +kernel
theorem dX5_next_92 : decode cX5_next 92 = .ok (.goto 4, 3) := by decide +kernel
theorem dX5_next_95 : decode cX5_next 95 = .ok (.iconst 0, 1) := by decide +kernel
theorem dX5_next_96 : decode cX5_next 96 = .ok (.ireturn, 1) := by decide +kernel
theorem dX5_next_97 : decode cX5_next 97 = .ok (.aload_n 0, 1) := by decide +kernel
theorem dX5_next_98 : decode cX5_next 98 = .ok (.dup, 1) := by decide +kernel
theorem dX5_next_99 : decode cX5_next 99 = .ok (.getfield 17, 3) := by decide +kernel
theorem dX5_next_102 : decode cX5_next 102 = .ok (.iconst 1, 1) := by decide +kernel
theorem dX5_next_103 : decode cX5_next 103 = .ok (.iadd, 1) := by decide +kernel
theorem dX5_next_104 : decode cX5_next 104 = .ok (.putfield 17, 3) := by decide +kernel
theorem dX5_next_107 : decode cX5_next 107 = .ok (.aload_n 0, 1) := by decide +kernel
theorem dX5_next_108 : decode cX5_next 108 = .ok (.iconst 0, 1) := by decide +kernel
theorem dX5_next_109 : decode cX5_next 109 = .ok (.invokevirtual 37, 3) := by decide +kernel
theorem dX5_next_112 : decode cX5_next 112 = .ok (.ifCond .eq 41, 3) := by decide +kernel
theorem dX5_next_115 : decode cX5_next 115 = .ok (.aload_n 0, 1) := by decide +kernel
theorem dX5_next_116 : decode cX5_next 116 = .ok (.iconst 1, 1) := by decide +kernel
theorem dX5_next_117 : decode cX5_next 117 = .ok (.invokevirtual 37, 3) := by decide +kernel
theorem dX5_next_120 : decode cX5_next 120 = .ok (.ifCond .eq 33, 3) := by decide +kernel
theorem dX5_next_123 : decode cX5_next 123 = .ok (.aload_n 0, 1) := by decide +kernel
theorem dX5_next_124 : decode cX5_next 124 = .ok (.bipush 32, 2) := by decide +kernel
theorem dX5_next_126 : decode cX5_next 126 = .ok (.invokevirtual 41, 3) := by decide +kernel
theorem dX5_next_129 : decode cX5_next 129 = .ok (.ifCond .eq 24, 3) := by decide +kernel
theorem dX5_next_132 : decode cX5_next 132 = .ok (.aload_n 0, 1) := by decide +kernel
theorem dX5_next_133 : decode cX5_next 133 = .ok (.iconst 2, 1) := by decide +kernel
theorem dX5_next_134 : decode cX5_next 134 = .ok (.invokevirtual 37, 3) := by decide +kernel
theorem dX5_next_137 : decode cX5_next 137 = .ok (.ifCond .eq 16, 3) := by decide +kernel
theorem dX5_next_140 : decode cX5_next 140 = .ok (.aload_n 0, 1) := by decide +kernel
theorem dX5_next_141 : decode cX5_next 141 = .ok (.bipush 59, 2) := by decide +kernel
theorem dX5_next_143 : decode cX5_next 143 = .ok (.invokevirtual 41, 3) := by decide +kernel
theorem dX5_next_146 : decode cX5_next 146 = .ok (.ifCond .eq 7, 3) := by decide +kernel
theorem dX5_next_149 : decode cX5_next 149 = .ok (.iconst 1, 1) := by decide +kernel
theorem dX5_next_150 : decode cX5_next 150 = .ok (.goto 4, 3) := by decide +kernel
theorem dX5_next_153 : decode cX5_next 153 = .ok (.iconst 0, 1) := by decide +kernel
theorem dX5_next_154 : decode cX5_next 154 = .ok (.ireturn, 1) := by decide +kernel
theorem dX5_next_155 : decode cX5_next 155 = .ok (.aload_n 0, 1) := by decide +kernel
theorem dX5_next_156 : decode cX5_next 156 = .ok (.dup, 1) := by decide +kernel
theorem dX5_next_157 : decode cX5_next 157 = .ok (.getfield 17, 3) := by decide +kernel
theorem dX5_next_160 : decode cX5_next 160 = .ok (.iconst 1, 1) := by decide +kernel
theorem dX5_next_161 : decode cX5_next 161 = .ok (.iadd, 1) := by decide +kernel
theorem dX5_next_162 : decode cX5_next 162 = .ok (.putfield 17, 3) := by decide +kernel
theorem dX5_next_165 : decode cX5_next 165 = .ok (.aload_n 0, 1) := by decide +kernel
theorem dX5_next_166 : decode cX5_next 166 = .ok (.iconst 0, 1) := by decide +kernel
theorem dX5_next_167 : decode cX5_next 167 = .ok (.invokevirtual 37, 3) := by decide +kernel
theorem dX5_next_170 : decode cX5_next 170 = .ok (.ifCond .eq 75, 3) := by decide +kernel
theorem dX5_next_173 : decode cX5_next 173 = .ok (.aload_n 0, 1) := by decide +kernel
theorem dX5_next_174 : decode cX5_next 174 = .ok (.iconst 1, 1) := by decide +kernel
theorem dX5_next_175 : decode cX5_next 175 = .ok (.invokevirtual 37, 3) := by decide +kernel
theorem dX5_next_178 : decode cX5_next 178 = .ok (.ifCond .eq 67, 3) := by decide +kernel
theorem dX5_next_181 : decode cX5_next 181 = .ok (.aload_n 0, 1) := by decide +kernel
theorem dX5_next_182 : decode cX5_next 182 = .ok (.bipush 32, 2) := by decide +kernel
theorem dX5_next_184 : decode cX5_next 184 = .ok (.invokevirtual 41, 3) := by decide +kernel
theorem dX5_next_187 : decode cX5_next 187 = .ok (.ifCond .eq 58, 3) := by decide +kernel
theorem dX5_next_190 : decode cX5_next 190 = .ok (.aload_n 0, 1) := by decide +kernel
theorem dX5_next_191 : decode cX5_next 191 = .ok (.iconst 2, 1) := by decide +kernel
theorem dX5_next_192 : decode cX5_next 192 = .ok (.invokevirtual 44, 3) := by decide +kernel
theorem dX5_next_195 : decode cX5_next 195 = .ok (.ifCond .eq 50, 3) := by decide +kernel
theorem dX5_next_198 : decode cX5_next 198 = .ok (.aload_n 0, 1) := by decide +kernel
theorem dX5_next_199 : decode cX5_next 199 = .ok (.bipush 32, 2) := by decide +kernel
theorem dX5_next_201 : decode cX5_next 201 = .ok (.invokevirtual 41, 3) := by decide +kernel
theorem dX5_next_204 : decode cX5_next 204 = .ok (.ifCond .eq 41, 3) := by decide +kernel
theorem dX5_next_207 : decode cX5_next 207 = .ok (.aload_n 0, 1) := by decide +kernel
theorem dX5_next_208 : decode cX5_next 208 = .ok (.iconst 3, 1) := by decide +kernel
theorem dX5_next_209 : decode cX5_next 209 = .ok (.invokevirtual 44, 3) := by decide +kernel
theorem dX5_next_212 : decode cX5_next 212 = .ok (.ifCond .eq 33, 3) := by decide +kernel
theorem dX5_next_215 : decode cX5_next 215 = .ok (.aload_n 0, 1) := by decide +kernel
theorem dX5_next_216 : decode cX5_next 216 = .ok (.bipush 32, 2) := by decide +kernel
theorem dX5_next_218 : decode cX5_next 218 = .ok (.invokevirtual 41, 3) := by decide +kernel
theorem dX5_next_221 : decode cX5_next 221 = .ok (.ifCond .eq 24, 3) := by decide +kernel
theorem dX5_next_224 : decode cX5_next 224 = .ok (.aload_n 0, 1) := by decide +kernel
theorem dX5_next_225 : decode cX5_next 225 = .ok (.iconst 4, 1) := by decide +kernel
theorem dX5_next_226 : decode cX5_next 226 = .ok (.invokevirtual 44, 3) := by decide +kernel
theorem dX5_next_229 : decode cX5_next 229 = .ok (.ifCond .eq 16, 3) := by decide +kernel
theorem dX5_next_232 : decode cX5_next 232 = .ok (.aload_n 0, 1) := by decide +kernel
theorem dX5_next_233 : decode cX5_next 233 = .ok (.bipush 59, 2) := by decide +kernel
theorem dX5_next_235 : decode cX5_next 235 = .ok (.invokevirtual 41, 3) := by decide +kernel
theorem dX5_next_238 : decode cX5_next 238 = .ok (.ifCond .eq 7, 3) := by decide +kernel
theorem dX5_next_241 : decode cX5_next 241 = .ok (.iconst 1, 1) := by decide +kernel
theorem dX5_next_242 : decode cX5_next 242 = .ok (.goto 4, 3) := by decide +kernel
theorem dX5_next_245 : decode cX5_next 245 = .ok (.iconst 0, 1) := by decide +kernel
theorem dX5_next_246 : decode cX5_next 246 = .ok (.ireturn, 1) := by decide +kernel
theorem dX5_next_247 : decode cX5_next 247 = .ok (.iconst 0, 1) := by decide +kernel
theorem dX5_next_248 : decode cX5_next 248 = .ok (.ireturn, 1) := by decide +kernel
theorem dX5_changes_0 : decode cX5_changes 0 = .ok (.aload_n 0, 1) := by decide +kernel
theorem dX5_changes_1 : decode cX5_changes 1 = .ok (.getfield 23, 3) := by decide +kernel
theorem dX5_changes_4 : decode cX5_changes 4 = .ok (.lookupswitch 124 #[(98, 55), (109, 66), (110, 44), (115, 89)], 44) := by decide +kernel
theorem dX5_changes_48 : decode cX5_changes 48 = .ok (.aload_n 1, 1) := by decide +kernel
theorem dX5_changes_49 : decode cX5_changes 49 = .ok (.aload_n 0, 1) := by decide +kernel
theorem dX5_changes_50 : decode cX5_changes 50 = .ok (.getfield 26, 3) := by decide +kernel
theorem dX5_changes_53 : decode cX5_changes 53 = .ok (.iconst 0, 1) := by decide +kernel
theorem dX5_changes_54 : decode cX5_changes 54 = .ok (.iaload, 1) := by decide +kernel
theorem dX5_changes_55 : decode cX5_changes 55 = .ok (.invokevirtual 47, 3) := by decide +kernel
theorem dX5_changes_58 : decode cX5_changes 58 = .ok (.ireturn, 1) := by decide +kernel
theorem dX5_changes_59 : decode cX5_changes 59 = .ok (.aload_n 1, 1) := by decide +kernel
theorem dX5_changes_60 : decode cX5_changes 60 = .ok (.aload_n 0, 1) := by decide +kernel
theorem dX5_changes_61 : decode cX5_changes 61 = .ok (.getfield 26, 3) := by decide +kernel
theorem dX5_changes_64 : decode cX5_changes 64 = .ok (.iconst 0, 1) := by decide +kernel
theorem dX5_changes_65 : decode cX5_changes 65 = .ok (.iaload, 1) := by decide +kernel
theorem dX5_changes_66 : decode cX5_changes 66 = .ok (.invokevirtual 52, 3) := by decide +kernel
theorem dX5_changes_69 : decode cX5_changes 69 = .ok (.ireturn, 1) := by decide +kernel
theorem dX5_changes_70 : decode cX5_changes 70 = .ok (.aload_n 1, 1) := by decide +kernel
theorem dX5_changes_71 : decode cX5_changes 71 = .ok (.aload_n 0, 1) := by decide +kernel
theorem dX5_changes_72 : decode cX5_changes 72 = .ok (.getfield 26, 3) := by decide +kernel
theorem dX5_changes_75 : decode cX5_changes 75 = .ok (.iconst 0, 1) := by decide +kernel
theorem dX5_changes_76 : decode cX5_changes 76 = .ok (.iaload, 1) := by decide +kernel
theorem dX5_changes_77 : decode cX5_changes 77 = .ok (.aload_n 0, 1) := by decide +kernel
theorem dX5_changes_78 : decode cX5_changes 78 = .ok (.getfield 26, 3) := by decide +kernel
theorem dX5_changes_81 : decode cX5_changes 81 = .ok (.iconst 1, 1) := by decide +kernel
theorem dX5_changes_82 : decode cX5_changes 82 = .ok (.iaload, 1) := by decide +kernel
theorem dX5_changes_83 : decode cX5_changes 83 = .ok (.aload_n 0, 1) := by decide +kernel
theorem dX5_changes_84 : decode cX5_changes 84 = .ok (.getfield 26, 3) := by decide +kernel
theorem dX5_changes_87 : decode cX5_changes 87 = .ok (.iconst 2, 1) := by decide +kernel
theorem dX5_changes_88 : decode cX5_changes 88 = .ok (.iaload, 1) := by decide +kernel
theorem dX5_changes_89 : decode cX5_changes 89 = .ok (.invokevirtual 55, 3) := by decide +kernel
theorem dX5_changes_92 : decode cX5_changes 92 = .ok (.ireturn, 1) := by decide +kernel
theorem dX5_changes_93 : decode cX5_changes 93 = .ok (.aload_n 1, 1) := by decide +kernel
theorem dX5_changes_94 : decode cX5_changes 94 = .ok (.aload_n 0, 1) := by decide +kernel
theorem dX5_changes_95 : decode cX5_changes 95 = .ok (.getfield 26, 3) := by decide +kernel
theorem dX5_changes_98 : decode cX5_changes 98 = .ok (.iconst 0, 1) := by decide +kernel
theorem dX5_changes_99 : decode cX5_changes 99 = .ok (.iaload, 1) := by decide +kernel
theorem dX5_changes_100 : decode cX5_changes 100 = .ok (.aload_n 0, 1) := by decide +kernel
theorem dX5_changes_101 : decode cX5_changes 101 = .ok (.getfield 26, 3) := by decide +kernel
theorem dX5_changes_104 : decode cX5_changes 104 = .ok (.iconst 1, 1) := by decide +kernel
theorem dX5_changes_105 : decode cX5_changes 105 = .ok (.iaload, 1) := by decide +kernel
theorem dX5_changes_106 : decode cX5_changes 106 = .ok (.aload_n 0, 1) := by decide +kernel
theorem dX5_changes_107 : decode cX5_changes 107 = .ok (.getfield 26, 3) := by decide +kernel
theorem dX5_changes_110 : decode cX5_changes 110 = .ok (.iconst 2, 1) := by decide +kernel
theorem dX5_changes_111 : decode cX5_changes 111 = .ok (.iaload, 1) := by decide +kernel
theorem dX5_changes_112 : decode cX5_changes 112 = .ok (.aload_n 0, 1) := by decide +kernel
theorem dX5_changes_113 : decode cX5_changes 113 = .ok (.getfield 26, 3) := by decide +kernel
theorem dX5_changes_116 : decode cX5_changes 116 = .ok (.iconst 3, 1) := by decide +kernel
theorem dX5_changes_117 : decode cX5_changes 117 = .ok (.iaload, 1) := by decide +kernel
theorem dX5_changes_118 : decode cX5_changes 118 = .ok (.aload_n 0, 1) := by decide +kernel
theorem dX5_changes_119 : decode cX5_changes 119 = .ok (.getfield 26, 3) := by decide +kernel
theorem dX5_changes_122 : decode cX5_changes 122 = .ok (.iconst 4, 1) := by decide +kernel
theorem dX5_changes_123 : decode cX5_changes 123 = .ok (.iaload, 1) := by decide +kernel
theorem dX5_changes_124 : decode cX5_changes 124 = .ok (.invokevirtual 59, 3) := by decide +kernel
theorem dX5_changes_127 : decode cX5_changes 127 = .ok (.ireturn, 1) := by decide +kernel
theorem dX5_changes_128 : decode cX5_changes 128 = .ok (.iconst 0, 1) := by decide +kernel
theorem dX5_changes_129 : decode cX5_changes 129 = .ok (.ireturn, 1) := by decide +kernel
theorem dX5_peek_0 : decode cX5_peek 0 = .ok (.aload_n 0, 1) := by decide +kernel
theorem dX5_peek_1 : decode cX5_peek 1 = .ok (.getfield 7, 3) := by decide +kernel
theorem dX5_peek_4 : decode cX5_peek 4 = .ok (.ifnull 45, 3) := by decide +kernel
theorem dX5_peek_7 : decode cX5_peek 7 = .ok (.aload_n 0, 1) := by decide +kernel
theorem dX5_peek_8 : decode cX5_peek 8 = .ok (.getfield 17, 3) := by decide +kernel
theorem dX5_peek_11 : decode cX5_peek 11 = .ok (.ifCond .lt 38, 3) := by decide +kernel
theorem dX5_peek_14 : decode cX5_peek 14 = .ok (.aload_n 0, 1) := by decide +kernel
theorem dX5_peek_15 : decode cX5_peek 15 = .ok (.getfield 17, 3) := by decide +kernel
theorem dX5_peek_18 : decode cX5_peek 18 = .ok (.aload_n 0, 1) := by decide +kernel
theorem dX5_peek_19 : decode cX5_peek 19 = .ok (.getfield 13, 3) := by decide +kernel
theorem dX5_peek_22 : decode cX5_peek 22 = .ok (.if_icmp .ge 27, 3) := by decide +kernel
theorem dX5_peek_25 : decode cX5_peek 25 = .ok (.aload_n 0, 1) := by decide +kernel
theorem dX5_peek_26 : decode cX5_peek 26 = .ok (.getfield 17, 3) := by decide +kernel
theorem dX5_peek_29 : decode cX5_peek 29 = .ok (.aload_n 0, 1) := by decide +kernel
theorem dX5_peek_30 : decode cX5_peek 30 = .ok (.getfield 7, 3) := by decide +kernel
theorem dX5_peek_33 : decode cX5_peek 33 = .ok (.arraylength, 1) := by decide +kernel
theorem dX5_peek_34 : decode cX5_peek 34 = .ok (.if_icmp .ge 15, 3) := by decide +kernel
theorem dX5_peek_37 : decode cX5_peek 37 = .ok (.aload_n 0, 1) := by decide +kernel
theorem dX5_peek_38 : decode cX5_peek 38 = .ok (.getfield 7, 3) := by decide +kernel
theorem dX5_peek_41 : decode cX5_peek 41 = .ok (.aload_n 0, 1) := by decide +kernel
theorem dX5_peek_42 : decode cX5_peek 42 = .ok (.getfield 17, 3) := by decide +kernel
theorem dX5_peek_45 : decode cX5_peek 45 = .ok (.iaload, 1) := by decide +kernel
theorem dX5_peek_46 : decode cX5_peek 46 = .ok (.goto 4, 3) := by decide +kernel
theorem dX5_peek_49 : decode cX5_peek 49 = .ok (.iconst (-1), 1) := by decide +kernel
theorem dX5_peek_50 : decode cX5_peek 50 = .ok (.ireturn, 1) := by decide +kernel
theorem dX5_atDigit_0 : decode cX5_atDigit 0 = .ok (.aload_n 0, 1) := by decide +kernel
theorem dX5_atDigit_1 : decode cX5_atDigit 1 = .ok (.invokevirtual 33, 3) := by decide +kernel
theorem dX5_atDigit_4 : decode cX5_atDigit 4 = .ok (.bipush 48, 2) := by decide +kernel
theorem dX5_atDigit_6 : decode cX5_atDigit 6 = .ok (.if_icmp .lt 16, 3) := by decide +kernel
theorem dX5_atDigit_9 : decode cX5_atDigit 9 = .ok (.aload_n 0, 1) := by decide +kernel
theorem dX5_atDigit_10 : decode cX5_atDigit 10 = .ok (.invokevirtual 33, 3) := by decide +kernel
theorem dX5_atDigit_13 : decode cX5_atDigit 13 = .ok (.bipush 57, 2) := by decide +kernel
theorem dX5_atDigit_15 : decode cX5_atDigit 15 = .ok (.if_icmp .gt 7, 3) := by decide +kernel
theorem dX5_atDigit_18 : decode cX5_atDigit 18 = .ok (.iconst 1, 1) := by decide +kernel
theorem dX5_atDigit_19 : decode cX5_atDigit 19 = .ok (.goto 4, 3) := by decide +kernel
theorem dX5_atDigit_22 : decode cX5_atDigit 22 = .ok (.iconst 0, 1) := by decide +kernel
theorem dX5_atDigit_23 : decode cX5_atDigit 23 = .ok (.ireturn, 1) := by decide +kernel
theorem dX5_readSign_0 : decode cX5_readSign 0 = .ok (.aload_n 0, 1) := by decide +kernel
theorem dX5_readSign_1 : decode cX5_readSign 1 = .ok (.invokevirtual 33, 3) := by decide +kernel
theorem dX5_readSign_4 : decode cX5_readSign 4 = .ok (.iload_n 1, 1) := by decide +kernel
theorem dX5_readSign_5 : decode cX5_readSign 5 = .ok (.if_icmp .eq 5, 3) := by decide +kernel
theorem dX5_readSign_8 : decode cX5_readSign 8 = .ok (.iconst 0, 1) := by decide +kernel
theorem dX5_readSign_9 : decode cX5_readSign 9 = .ok (.ireturn, 1) := by decide +kernel
theorem dX5_readSign_10 : decode cX5_readSign 10 = .ok (.aload_n 0, 1) := by decide +kernel
theorem dX5_readSign_11 : decode cX5_readSign 11 = .ok (.dup, 1) := by decide +kernel
theorem dX5_readSign_12 : decode cX5_readSign 12 = .ok (.getfield 17, 3) := by decide +kernel
theorem dX5_readSign_15 : decode cX5_readSign 15 = .ok (.iconst 1, 1) := by decide +kernel
theorem dX5_readSign_16 : decode cX5_readSign 16 = .ok (.iadd, 1) := by decide +kernel
theorem dX5_readSign_17 : decode cX5_readSign 17 = .ok (.putfield 17, 3) := by decide +kernel
theorem dX5_readSign_20 : decode cX5_readSign 20 = .ok (.iconst 1, 1) := by decide +kernel
theorem dX5_readSign_21 : decode cX5_readSign 21 = .ok (.ireturn, 1) := by decide +kernel
theorem dX5_readDigit_0 : decode cX5_readDigit 0 = .ok (.aload_n 0, 1) := by decide +kernel
theorem dX5_readDigit_1 : decode cX5_readDigit 1 = .ok (.invokevirtual 63, 3) := by decide +kernel
theorem dX5_readDigit_4 : decode cX5_readDigit 4 = .ok (.ifCond .ne 5, 3) := by decide +kernel
theorem dX5_readDigit_7 : decode cX5_readDigit 7 = .ok (.iconst 0, 1) := by decide +kernel
theorem dX5_readDigit_8 : decode cX5_readDigit 8 = .ok (.ireturn, 1) := by decide +kernel
theorem dX5_readDigit_9 : decode cX5_readDigit 9 = .ok (.aload_n 0, 1) := by decide +kernel
theorem dX5_readDigit_10 : decode cX5_readDigit 10 = .ok (.getfield 26, 3) := by decide +kernel
theorem dX5_readDigit_13 : decode cX5_readDigit 13 = .ok (.iload_n 1, 1) := by decide +kernel
theorem dX5_readDigit_14 : decode cX5_readDigit 14 = .ok (.aload_n 0, 1) := by decide +kernel
theorem dX5_readDigit_15 : decode cX5_readDigit 15 = .ok (.invokevirtual 33, 3) := by decide +kernel
theorem dX5_readDigit_18 : decode cX5_readDigit 18 = .ok (.bipush 48, 2) := by decide +kernel
theorem dX5_readDigit_20 : decode cX5_readDigit 20 = .ok (.isub, 1) := by decide +kernel
theorem dX5_readDigit_21 : decode cX5_readDigit 21 = .ok (.invokestatic 66, 3) := by decide +kernel
theorem dX5_readDigit_24 : decode cX5_readDigit 24 = .ok (.aload_n 0, 1) := by decide +kernel
theorem dX5_readDigit_25 : decode cX5_readDigit 25 = .ok (.dup, 1) := by decide +kernel
theorem dX5_readDigit_26 : decode cX5_readDigit 26 = .ok (.getfield 17, 3) := by decide +kernel
theorem dX5_readDigit_29 : decode cX5_readDigit 29 = .ok (.iconst 1, 1) := by decide +kernel
theorem dX5_readDigit_30 : decode cX5_readDigit 30 = .ok (.iadd, 1) := by decide +kernel
theorem dX5_readDigit_31 : decode cX5_readDigit 31 = .ok (.putfield 17, 3) := by decide +kernel
theorem dX5_readDigit_34 : decode cX5_readDigit 34 = .ok (.iconst 1, 1) := by decide +kernel
theorem dX5_readDigit_35 : decode cX5_readDigit 35 = .ok (.ireturn, 1) := by decide +kernel
theorem dX5_readNumber_0 : decode cX5_readNumber 0 = .ok (.iconst 0, 1) := by decide +kernel
theorem dX5_readNumber_1 : decode cX5_readNumber 1 = .ok (.istore_n 2, 1) := by decide +kernel
theorem dX5_readNumber_2 : decode cX5_readNumber 2 = .ok (.iconst 0, 1) := by decide +kernel
theorem dX5_readNumber_3 : decode cX5_readNumber 3 = .ok (.istore_n 3, 1) := by decide +kernel
theorem dX5_readNumber_4 : decode cX5_readNumber 4 = .ok (.iload_n 3, 1) := by decide +kernel
theorem dX5_readNumber_5 : decode cX5_readNumber 5 = .ok (.iconst 3, 1) := by decide +kernel
theorem dX5_readNumber_6 : decode cX5_readNumber 6 = .ok (.if_icmp .ge 47, 3) := by decide +kernel
theorem dX5_readNumber_9 : decode cX5_readNumber 9 = .ok (.aload_n 0, 1) := by decide +kernel
theorem dX5_readNumber_10 : decode cX5_readNumber 10 = .ok (.invokevirtual 63, 3) := by decide +kernel
theorem dX5_readNumber_13 : decode cX5_readNumber 13 = .ok (.ifCond .eq 40, 3) := by decide +kernel
theorem dX5_readNumber_16 : decode cX5_readNumber 16 = .ok (.iload_n 3, 1) := by decide +kernel
theorem dX5_readNumber_17 : decode cX5_readNumber 17 = .ok (.ifCond .eq 7, 3) := by decide +kernel
theorem dX5_readNumber_20 : decode cX5_readNumber 20 = .ok (.iload_n 2, 1) := by decide +kernel
theorem dX5_readNumber_21 : decode cX5_readNumber 21 = .ok (.ifCond .le 32, 3) := by decide +kernel
theorem dX5_readNumber_24 : decode cX5_readNumber 24 = .ok (.iload_n 2, 1) := by decide +kernel
theorem dX5_readNumber_25 : decode cX5_readNumber 25 = .ok (.bipush 10, 2) := by decide +kernel
theorem dX5_readNumber_27 : decode cX5_readNumber 27 = .ok (.imul, 1) := by decide +kernel
theorem dX5_readNumber_28 : decode cX5_readNumber 28 = .ok (.aload_n 0, 1) := by decide +kernel
theorem dX5_readNumber_29 : decode cX5_readNumber 29 = .ok (.invokevirtual 33, 3) := by decide +kernel
theorem dX5_readNumber_32 : decode cX5_readNumber 32 = .ok (.iadd, 1) := by decide +kernel
theorem dX5_readNumber_33 : decode cX5_readNumber 33 = .ok (.bipush 48, 2) := by decide +kernel
theorem dX5_readNumber_35 : decode cX5_readNumber 35 = .ok (.isub, 1) := by decide +kernel
theorem dX5_readNumber_36 : decode cX5_readNumber 36 = .ok (.istore_n 2, 1) := by decide +kernel
theorem dX5_readNumber_37 : decode cX5_readNumber 37 = .ok (.aload_n 0, 1) := by decide +kernel
theorem dX5_readNumber_38 : decode cX5_readNumber 38 = .ok (.dup, 1) := by decide +kernel
theorem dX5_readNumber_39 : decode cX5_readNumber 39 = .ok (.getfield 17, 3) := by decide +kernel
theorem dX5_readNumber_42 : decode cX5_readNumber 42 = .ok (.iconst 1, 1) := by decide +kernel
theorem dX5_readNumber_43 : decode cX5_readNumber 43 = .ok (.iadd, 1) := by decide +kernel
theorem dX5_readNumber_44 : decode cX5_readNumber 44 = .ok (.putfield 17, 3) := by decide +kernel
theorem dX5_readNumber_47 : decode cX5_readNumber 47 = .ok (.iinc 3 1, 3) := by decide +kernel
theorem dX5_readNumber_50 : decode cX5_readNumber 50 = .ok (.goto (-46), 3) := by decide +kernel
theorem dX5_readNumber_53 : decode cX5_readNumber 53 = .ok (.aload_n 0, 1) := by decide +kernel
theorem dX5_readNumber_54 : decode cX5_readNumber 54 = .ok (.getfield 26, 3) := by decide +kernel
theorem dX5_readNumber_57 : decode cX5_readNumber 57 = .ok (.iload_n 1, 1) := by decide +kernel
theorem dX5_readNumber_58 : decode cX5_readNumber 58 = .ok (.iload_n 2, 1) := by decide +kernel
theorem dX5_readNumber_59 : decode cX5_readNumber 59 = .ok (.invokestatic 66, 3) := by decide +kernel
theorem dX5_readNumber_62 : decode cX5_readNumber 62 = .ok (.iload_n 3, 1) := by decide +kernel
theorem dX5_readNumber_63 : decode cX5_readNumber 63 = .ok (.ifCond .le 7, 3) := by decide +kernel
theorem dX5_readNumber_66 : decode cX5_readNumber 66 = .ok (.iconst 1, 1) := by decide +kernel
theorem dX5_readNumber_67 : decode cX5_readNumber 67 = .ok (.goto 4, 3) := by decide +kernel
theorem dX5_readNumber_70 : decode cX5_readNumber 70 = .ok (.iconst 0, 1) := by decide +kernel
theorem dX5_readNumber_71 : decode cX5_readNumber 71 = .ok (.ireturn, 1) := by decide +kernel
theorem dX6_init_0 : decode cX6_init 0 = .ok (.aload_n 0, 1) := by decide +kernel
theorem dX6_init_1 : decode cX6_init 1 = .ok (.invokespecial 1, 3) := by decide +kernel
theorem dX6_init_4 : decode cX6_init 4 = .ok (.aload_n 0, 1) := by decide +kernel
theorem dX6_init_5 : decode cX6_init 5 = .ok (.iload_n 1, 1) := by decide +kernel
theorem dX6_init_6 : decode cX6_init 6 = .ok (.putfield 7, 3) := by decide +kernel
theorem dX6_init_9 : decode cX6_init 9 = .ok (.return_, 1) := by decide +kernel
theorem dX6_kind_0 : decode cX6_kind 0 = .ok (.iconst 0, 1) := by decide +kernel
theorem dX6_kind_1 : decode cX6_kind 1 = .ok (.ireturn, 1) := by decide +kernel
theorem dX6_choose_0 : decode cX6_choose 0 = .ok (.aload_n 2, 1) := by decide +kernel
theorem dX6_choose_1 : decode cX6_choose 1 = .ok (.getfield 13, 3) := by decide +kernel
theorem dX6_choose_4 : decode cX6_choose 4 = .ok (.ifCond .le 19, 3) := by decide +kernel
theorem dX6_choose_7 : decode cX6_choose 7 = .ok (.aload_n 1, 1) := by decide +kernel
theorem dX6_choose_8 : decode cX6_choose 8 = .ok (.aload_n 2, 1) := by decide +kernel
theorem dX6_choose_9 : decode cX6_choose 9 = .ok (.getfield 18, 3) := by decide +kernel
theorem dX6_choose_12 : decode cX6_choose 12 = .ok (.iconst 0, 1) := by decide +kernel
theorem dX6_choose_13 : decode cX6_choose 13 = .ok (.invokestatic 22, 3) := by decide +kernel
theorem dX6_choose_16 : decode cX6_choose 16 = .ok (.iconst 1, 1) := by decide +kernel
theorem dX6_choose_17 : decode cX6_choose 17 = .ok (.invokevirtual 30, 3) := by decide +kernel
theorem dX6_choose_20 : decode cX6_choose 20 = .ok (.goto 4, 3) := by decide +kernel
theorem dX6_choose_23 : decode cX6_choose 23 = .ok (.iconst (-1), 1) := by decide +kernel
theorem dX6_choose_24 : decode cX6_choose 24 = .ok (.ireturn, 1) := by decide +kernel
theorem dX6_cost_0 : decode cX6_cost 0 = .ok (.iconst 5, 1) := by decide +kernel
theorem dX6_cost_1 : decode cX6_cost 1 = .ok (.ireturn, 1) := by decide +kernel
theorem dX6_canFail_0 : decode cX6_canFail 0 = .ok (.aload_n 0, 1) := by decide +kernel
theorem dX6_canFail_1 : decode cX6_canFail 1 = .ok (.getfield 7, 3) := by decide +kernel
theorem dX6_canFail_4 : decode cX6_canFail 4 = .ok (.ifCond .eq 7, 3) := by decide +kernel
theorem dX6_canFail_7 : decode cX6_canFail 7 = .ok (.iconst 1, 1) := by decide +kernel
theorem dX6_canFail_8 : decode cX6_canFail 8 = .ok (.goto 4, 3) := by decide +kernel
theorem dX6_canFail_11 : decode cX6_canFail 11 = .ok (.iconst 0, 1) := by decide +kernel
theorem dX6_canFail_12 : decode cX6_canFail 12 = .ok (.ireturn, 1) := by decide +kernel
theorem dX6_fail_0 : decode cX6_fail 0 = .ok (.new 34, 3) := by decide +kernel
theorem dX6_fail_3 : decode cX6_fail 3 = .ok (.dup, 1) := by decide +kernel
theorem dX6_fail_4 : decode cX6_fail 4 = .ok (.ldc 36, 2) := by decide +kernel
theorem dX6_fail_6 : decode cX6_fail 6 = .ok (.invokespecial 38, 3) := by decide +kernel
theorem dX6_fail_9 : decode cX6_fail 9 = .ok (.athrow, 1) := by decide +kernel
theorem dX7_init_0 : decode cX7_init 0 = .ok (.aload_n 0, 1) := by decide +kernel
theorem dX7_init_1 : decode cX7_init 1 = .ok (.invokespecial 3, 3) := by decide +kernel
theorem dX7_init_4 : decode cX7_init 4 = .ok (.aload_n 0, 1) := by decide +kernel
theorem dX7_init_5 : decode cX7_init 5 = .ok (.aconst_null, 1) := by decide +kernel
theorem dX7_init_6 : decode cX7_init 6 = .ok (.putfield 9, 3) := by decide +kernel
theorem dX7_init_9 : decode cX7_init 9 = .ok (.aload_n 0, 1) := by decide +kernel
theorem dX7_init_10 : decode cX7_init 10 = .ok (.bipush (-2), 2) := by decide +kernel
theorem dX7_init_12 : decode cX7_init 12 = .ok (.putfield 15, 3) := by decide +kernel
theorem dX7_init_15 : decode cX7_init 15 = .ok (.aload_n 0, 1) := by decide +kernel
theorem dX7_init_16 : decode cX7_init 16 = .ok (.iconst 0, 1) := by decide +kernel
theorem dX7_init_17 : decode cX7_init 17 = .ok (.putfield 19, 3) := by decide +kernel
theorem dX7_init_20 : decode cX7_init 20 = .ok (.aload_n 0, 1) := by decide +kernel
theorem dX7_init_21 : decode cX7_init 21 = .ok (.bipush 100, 2) := by decide +kernel
theorem dX7_init_23 : decode cX7_init 23 = .ok (.newarray .int, 2) := by decide +kernel
theorem dX7_init_25 : decode cX7_init 25 = .ok (.putfield 22, 3) := by decide +kernel
theorem dX7_init_28 : decode cX7_init 28 = .ok (.return_, 1) := by decide +kernel
theorem dX7_clear_0 : decode cX7_clear 0 = .ok (.aload_n 0, 1) := by decide +kernel
theorem dX7_clear_1 : decode cX7_clear 1 = .ok (.aconst_null, 1) := by decide +kernel
theorem dX7_clear_2 : decode cX7_clear 2 = .ok (.putfield 9, 3) := by decide +kernel
theorem dX7_clear_5 : decode cX7_clear 5 = .ok (.aload_n 0, 1) := by decide +kernel
theorem dX7_clear_6 : decode cX7_clear 6 = .ok (.bipush (-2), 2) := by decide +kernel
theorem dX7_clear_8 : decode cX7_clear 8 = .ok (.putfield 15, 3) := by decide +kernel
theorem dX7_clear_11 : decode cX7_clear 11 = .ok (.aload_n 0, 1) := by decide +kernel
theorem dX7_clear_12 : decode cX7_clear 12 = .ok (.iconst 0, 1) := by decide +kernel
theorem dX7_clear_13 : decode cX7_clear 13 = .ok (.putfield 19, 3) := by decide +kernel
theorem dX7_clear_16 : decode cX7_clear 16 = .ok (.return_, 1) := by decide +kernel
theorem dX7_makeRow_0 : decode cX7_makeRow 0 = .ok (.aload_n 0, 1) := by decide +kernel
theorem dX7_makeRow_1 : decode cX7_makeRow 1 = .ok (.iload_n 1, 1) := by decide +kernel
theorem dX7_makeRow_2 : decode cX7_makeRow 2 = .ok (.putfield 15, 3) := by decide +kernel
theorem dX7_makeRow_5 : decode cX7_makeRow 5 = .ok (.aload_n 0, 1) := by decide +kernel
theorem dX7_makeRow_6 : decode cX7_makeRow 6 = .ok (.iload_n 2, 1) := by decide +kernel
theorem dX7_makeRow_7 : decode cX7_makeRow 7 = .ok (.putfield 19, 3) := by decide +kernel
theorem dX7_makeRow_10 : decode cX7_makeRow 10 = .ok (.iconst 0, 1) := by decide +kernel
theorem dX7_makeRow_11 : decode cX7_makeRow 11 = .ok (.istore_n 3, 1) := by decide +kernel
theorem dX7_makeRow_12 : decode cX7_makeRow 12 = .ok (.iload_n 3, 1) := by decide +kernel
theorem dX7_makeRow_13 : decode cX7_makeRow 13 = .ok (.aload_n 0, 1) := by decide +kernel
theorem dX7_makeRow_14 : decode cX7_makeRow 14 = .ok (.getfield 22, 3) := by decide +kernel
theorem dX7_makeRow_17 : decode cX7_makeRow 17 = .ok (.arraylength, 1) := by decide +kernel
theorem dX7_makeRow_18 : decode cX7_makeRow 18 = .ok (.if_icmp .ge 16, 3) := by decide +kernel
theorem dX7_makeRow_21 : decode cX7_makeRow 21 = .ok (.aload_n 0, 1) := by decide +kernel
theorem dX7_makeRow_22 : decode cX7_makeRow 22 = .ok (.getfield 22, 3) := by decide +kernel
theorem dX7_makeRow_25 : decode cX7_makeRow 25 = .ok (.iload_n 3, 1) := by decide +kernel
theorem dX7_makeRow_26 : decode cX7_makeRow 26 = .ok (.iconst 0, 1) := by decide +kernel
theorem dX7_makeRow_27 : decode cX7_makeRow 27 = .ok (.iastore, 1) := by decide +kernel
theorem dX7_makeRow_28 : decode cX7_makeRow 28 = .ok (.iinc 3 1, 3) := by decide +kernel
theorem dX7_makeRow_31 : decode cX7_makeRow 31 = .ok (.goto (-19), 3) := by decide +kernel
theorem dX7_makeRow_34 : decode cX7_makeRow 34 = .ok (.return_, 1) := by decide +kernel
theorem dX7_hasRow_0 : decode cX7_hasRow 0 = .ok (.aload_n 0, 1) := by decide +kernel
theorem dX7_hasRow_1 : decode cX7_hasRow 1 = .ok (.getfield 15, 3) := by decide +kernel
theorem dX7_hasRow_4 : decode cX7_hasRow 4 = .ok (.bipush (-2), 2) := by decide +kernel
theorem dX7_hasRow_6 : decode cX7_hasRow 6 = .ok (.if_icmp .eq 7, 3) := by decide +kernel
theorem dX7_hasRow_9 : decode cX7_hasRow 9 = .ok (.iconst 1, 1) := by decide +kernel
theorem dX7_hasRow_10 : decode cX7_hasRow 10 = .ok (.goto 4, 3) := by decide +kernel
theorem dX7_hasRow_13 : decode cX7_hasRow 13 = .ok (.iconst 0, 1) := by decide +kernel
theorem dX7_hasRow_14 : decode cX7_hasRow 14 = .ok (.ireturn, 1) := by decide +kernel
theorem dX7_isEmpty_0 : decode cX7_isEmpty 0 = .ok (.aload_n 0, 1) := by decide +kernel
theorem dX7_isEmpty_1 : decode cX7_isEmpty 1 = .ok (.getfield 9, 3) := by decide +kernel
theorem dX7_isEmpty_4 : decode cX7_isEmpty 4 = .ok (.ifnonnull 14, 3) := by decide +kernel
theorem dX7_isEmpty_7 : decode cX7_isEmpty 7 = .ok (.aload_n 0, 1) := by decide +kernel
theorem dX7_isEmpty_8 : decode cX7_isEmpty 8 = .ok (.invokevirtual 26, 3) := by decide +kernel
theorem dX7_isEmpty_11 : decode cX7_isEmpty 11 = .ok (.ifCond .ne 7, 3) := by decide +kernel
theorem dX7_isEmpty_14 : decode cX7_isEmpty 14 = .ok (.iconst 1, 1) := by decide +kernel
theorem dX7_isEmpty_15 : decode cX7_isEmpty 15 = .ok (.goto 4, 3) := by decide +kernel
theorem dX7_isEmpty_18 : decode cX7_isEmpty 18 = .ok (.iconst 0, 1) := by decide +kernel
theorem dX7_isEmpty_19 : decode cX7_isEmpty 19 = .ok (.ireturn, 1) := by decide +kernel
theorem dX7_read_0 : decode cX7_read 0 = .ok (.aload_n 0, 1) := by decide +kernel
theorem dX7_read_1 : decode cX7_read 1 = .ok (.getfield 22, 3) := by decide +kernel
theorem dX7_read_4 : decode cX7_read 4 = .ok (.iload_n 1, 1) := by decide +kernel
theorem dX7_read_5 : decode cX7_read 5 = .ok (.invokestatic 30, 3) := by decide +kernel
theorem dX7_read_8 : decode cX7_read 8 = .ok (.ireturn, 1) := by decide +kernel
theorem dX7_write_0 : decode cX7_write 0 = .ok (.iload_n 1, 1) := by decide +kernel
theorem dX7_write_1 : decode cX7_write 1 = .ok (.ifCond .lt 11, 3) := by decide +kernel
theorem dX7_write_4 : decode cX7_write 4 = .ok (.iload_n 1, 1) := by decide +kernel
theorem dX7_write_5 : decode cX7_write 5 = .ok (.aload_n 0, 1) := by decide +kernel
theorem dX7_write_6 : decode cX7_write 6 = .ok (.getfield 19, 3) := by decide +kernel
theorem dX7_write_9 : decode cX7_write 9 = .ok (.if_icmp .lt 5, 3) := by decide +kernel
theorem dX7_write_12 : decode cX7_write 12 = .ok (.iconst 0, 1) := by decide +kernel
theorem dX7_write_13 : decode cX7_write 13 = .ok (.ireturn, 1) := by decide +kernel
theorem dX7_write_14 : decode cX7_write 14 = .ok (.aload_n 0, 1) := by decide +kernel
theorem dX7_write_15 : decode cX7_write 15 = .ok (.getfield 22, 3) := by decide +kernel
theorem dX7_write_18 : decode cX7_write 18 = .ok (.iload_n 1, 1) := by decide +kernel
theorem dX7_write_19 : decode cX7_write 19 = .ok (.aload_n 0, 1) := by decide +kernel
theorem dX7_write_20 : decode cX7_write 20 = .ok (.getfield 15, 3) := by decide +kernel
theorem dX7_write_23 : decode cX7_write 23 = .ok (.ifCond .ne 8, 3) := by decide +kernel
theorem dX7_write_26 : decode cX7_write 26 = .ok (.iload_n 2, 1) := by decide +kernel
theorem dX7_write_27 : decode cX7_write 27 = .ok (.i2b, 1) := by decide +kernel
theorem dX7_write_28 : decode cX7_write 28 = .ok (.goto 17, 3) := by decide +kernel
theorem dX7_write_31 : decode cX7_write 31 = .ok (.aload_n 0, 1) := by decide +kernel
theorem dX7_write_32 : decode cX7_write 32 = .ok (.getfield 15, 3) := by decide +kernel
theorem dX7_write_35 : decode cX7_write 35 = .ok (.iconst 1, 1) := by decide +kernel
theorem dX7_write_36 : decode cX7_write 36 = .ok (.if_icmp .ne 8, 3) := by decide +kernel
theorem dX7_write_39 : decode cX7_write 39 = .ok (.iload_n 2, 1) := by decide +kernel
theorem dX7_write_40 : decode cX7_write 40 = .ok (.i2s, 1) := by decide +kernel
theorem dX7_write_41 : decode cX7_write 41 = .ok (.goto 4, 3) := by decide +kernel
theorem dX7_write_44 : decode cX7_write 44 = .ok (.iload_n 2, 1) := by decide +kernel
theorem dX7_write_45 : decode cX7_write 45 = .ok (.invokestatic 34, 3) := by decide +kernel
theorem dX7_write_48 : decode cX7_write 48 = .ok (.iconst 1, 1) := by decide +kernel
theorem dX7_write_49 : decode cX7_write 49 = .ok (.ireturn, 1) := by decide +kernel
theorem dX7_hasPlaces_0 : decode cX7_hasPlaces 0 = .ok (.iload_n 2, 1) := by decide +kernel
theorem dX7_hasPlaces_1 : decode cX7_hasPlaces 1 = .ok (.ifCond .lt 29, 3) := by decide +kernel
theorem dX7_hasPlaces_4 : decode cX7_hasPlaces 4 = .ok (.iload_n 1, 1) := by decide +kernel
theorem dX7_hasPlaces_5 : decode cX7_hasPlaces 5 = .ok (.ifCond .lt 25, 3) := by decide +kernel
theorem dX7_hasPlaces_8 : decode cX7_hasPlaces 8 = .ok (.iload_n 1, 1) := by decide +kernel
theorem dX7_hasPlaces_9 : decode cX7_hasPlaces 9 = .ok (.aload_n 0, 1) := by decide +kernel
theorem dX7_hasPlaces_10 : decode cX7_hasPlaces 10 = .ok (.getfield 19, 3) := by decide +kernel
theorem dX7_hasPlaces_13 : decode cX7_hasPlaces 13 = .ok (.if_icmp .gt 17, 3) := by decide +kernel
theorem dX7_hasPlaces_16 : decode cX7_hasPlaces 16 = .ok (.iload_n 2, 1) := by decide +kernel
theorem dX7_hasPlaces_17 : decode cX7_hasPlaces 17 = .ok (.aload_n 0, 1) := by decide +kernel
theorem dX7_hasPlaces_18 : decode cX7_hasPlaces 18 = .ok (.getfield 19, 3) := by decide +kernel
theorem dX7_hasPlaces_21 : decode cX7_hasPlaces 21 = .ok (.iload_n 1, 1) := by decide +kernel
theorem dX7_hasPlaces_22 : decode cX7_hasPlaces 22 = .ok (.isub, 1) := by decide +kernel
theorem dX7_hasPlaces_23 : decode cX7_hasPlaces 23 = .ok (.if_icmp .gt 7, 3) := by decide +kernel
theorem dX7_hasPlaces_26 : decode cX7_hasPlaces 26 = .ok (.iconst 1, 1) := by decide +kernel
theorem dX7_hasPlaces_27 : decode cX7_hasPlaces 27 = .ok (.goto 4, 3) := by decide +kernel
theorem dX7_hasPlaces_30 : decode cX7_hasPlaces 30 = .ok (.iconst 0, 1) := by decide +kernel
theorem dX7_hasPlaces_31 : decode cX7_hasPlaces 31 = .ok (.ireturn, 1) := by decide +kernel
theorem dX7_holdsKinds_0 : decode cX7_holdsKinds 0 = .ok (.iconst 0, 1) := by decide +kernel
theorem dX7_holdsKinds_1 : decode cX7_holdsKinds 1 = .ok (.istore_n 1, 1) := by decide +kernel
theorem dX7_holdsKinds_2 : decode cX7_holdsKinds 2 = .ok (.iload_n 1, 1) := by decide +kernel
theorem dX7_holdsKinds_3 : decode cX7_holdsKinds 3 = .ok (.aload_n 0, 1) := by decide +kernel
theorem dX7_holdsKinds_4 : decode cX7_holdsKinds 4 = .ok (.getfield 19, 3) := by decide +kernel
theorem dX7_holdsKinds_7 : decode cX7_holdsKinds 7 = .ok (.if_icmp .ge 29, 3) := by decide +kernel
theorem dX7_holdsKinds_10 : decode cX7_holdsKinds 10 = .ok (.aload_n 0, 1) := by decide +kernel
theorem dX7_holdsKinds_11 : decode cX7_holdsKinds 11 = .ok (.iload_n 1, 1) := by decide +kernel
theorem dX7_holdsKinds_12 : decode cX7_holdsKinds 12 = .ok (.invokevirtual 38, 3) := by decide +kernel
theorem dX7_holdsKinds_15 : decode cX7_holdsKinds 15 = .ok (.ifCond .lt 13, 3) := by decide +kernel
theorem dX7_holdsKinds_18 : decode cX7_holdsKinds 18 = .ok (.aload_n 0, 1) := by decide +kernel
theorem dX7_holdsKinds_19 : decode cX7_holdsKinds 19 = .ok (.iload_n 1, 1) := by decide +kernel
theorem dX7_holdsKinds_20 : decode cX7_holdsKinds 20 = .ok (.invokevirtual 38, 3) := by decide +kernel
theorem dX7_holdsKinds_23 : decode cX7_holdsKinds 23 = .ok (.bipush 7, 2) := by decide +kernel
theorem dX7_holdsKinds_25 : decode cX7_holdsKinds 25 = .ok (.if_icmp .lt 5, 3) := by decide +kernel
theorem dX7_holdsKinds_28 : decode cX7_holdsKinds 28 = .ok (.iconst 0, 1) := by decide +kernel
theorem dX7_holdsKinds_29 : decode cX7_holdsKinds 29 = .ok (.ireturn, 1) := by decide +kernel
theorem dX7_holdsKinds_30 : decode cX7_holdsKinds 30 = .ok (.iinc 1 1, 3) := by decide +kernel
theorem dX7_holdsKinds_33 : decode cX7_holdsKinds 33 = .ok (.goto (-31), 3) := by decide +kernel
theorem dX7_holdsKinds_36 : decode cX7_holdsKinds 36 = .ok (.aload_n 0, 1) := by decide +kernel
theorem dX7_holdsKinds_37 : decode cX7_holdsKinds 37 = .ok (.getfield 19, 3) := by decide +kernel
theorem dX7_holdsKinds_40 : decode cX7_holdsKinds 40 = .ok (.iconst 1, 1) := by decide +kernel
theorem dX7_holdsKinds_41 : decode cX7_holdsKinds 41 = .ok (.if_icmp .lt 16, 3) := by decide +kernel
theorem dX7_holdsKinds_44 : decode cX7_holdsKinds 44 = .ok (.aload_n 0, 1) := by decide +kernel
theorem dX7_holdsKinds_45 : decode cX7_holdsKinds 45 = .ok (.getfield 19, 3) := by decide +kernel
theorem dX7_holdsKinds_48 : decode cX7_holdsKinds 48 = .ok (.bipush 7, 2) := by decide +kernel
theorem dX7_holdsKinds_50 : decode cX7_holdsKinds 50 = .ok (.if_icmp .gt 7, 3) := by decide +kernel
theorem dX7_holdsKinds_53 : decode cX7_holdsKinds 53 = .ok (.iconst 1, 1) := by decide +kernel
theorem dX7_holdsKinds_54 : decode cX7_holdsKinds 54 = .ok (.goto 4, 3) := by decide +kernel
theorem dX7_holdsKinds_57 : decode cX7_holdsKinds 57 = .ok (.iconst 0, 1) := by decide +kernel
theorem dX7_holdsKinds_58 : decode cX7_holdsKinds 58 = .ok (.ireturn, 1) := by decide +kernel
theorem dX7_leastNumber_0 : decode cX7_leastNumber 0 = .ok (.aload_n 0, 1) := by decide +kernel
theorem dX7_leastNumber_1 : decode cX7_leastNumber 1 = .ok (.getfield 15, 3) := by decide +kernel
theorem dX7_leastNumber_4 : decode cX7_leastNumber 4 = .ok (.ifCond .ne 8, 3) := by decide +kernel
theorem dX7_leastNumber_7 : decode cX7_leastNumber 7 = .ok (.bipush (-128), 2) := by decide +kernel
theorem dX7_leastNumber_9 : decode cX7_leastNumber 9 = .ok (.goto 19, 3) := by decide +kernel
theorem dX7_leastNumber_12 : decode cX7_leastNumber 12 = .ok (.aload_n 0, 1) := by decide +kernel
theorem dX7_leastNumber_13 : decode cX7_leastNumber 13 = .ok (.getfield 15, 3) := by decide +kernel
theorem dX7_leastNumber_16 : decode cX7_leastNumber 16 = .ok (.iconst 1, 1) := by decide +kernel
theorem dX7_leastNumber_17 : decode cX7_leastNumber 17 = .ok (.if_icmp .ne 9, 3) := by decide +kernel
theorem dX7_leastNumber_20 : decode cX7_leastNumber 20 = .ok (.sipush (-32768), 3) := by decide +kernel
theorem dX7_leastNumber_23 : decode cX7_leastNumber 23 = .ok (.goto 5, 3) := by decide +kernel
theorem dX7_leastNumber_26 : decode cX7_leastNumber 26 = .ok (.ldc 42, 2) := by decide +kernel
theorem dX7_leastNumber_28 : decode cX7_leastNumber 28 = .ok (.ireturn, 1) := by decide +kernel
theorem dX8_init_0 : decode cX8_init 0 = .ok (.aload_n 0, 1) := by decide +kernel
theorem dX8_init_1 : decode cX8_init 1 = .ok (.iload_n 1, 1) := by decide +kernel
theorem dX8_init_2 : decode cX8_init 2 = .ok (.invokespecial 1, 3) := by decide +kernel
theorem dX8_init_5 : decode cX8_init 5 = .ok (.return_, 1) := by decide +kernel
theorem dX8_kind_0 : decode cX8_kind 0 = .ok (.bipush 6, 2) := by decide +kernel
theorem dX8_kind_2 : decode cX8_kind 2 = .ok (.ireturn, 1) := by decide +kernel
theorem dX8_heading_0 : decode cX8_heading 0 = .ok (.aload_n 1, 1) := by decide +kernel
theorem dX8_heading_1 : decode cX8_heading 1 = .ok (.getfield 7, 3) := by decide +kernel
theorem dX8_heading_4 : decode cX8_heading 4 = .ok (.ifCond .le 15, 3) := by decide +kernel
theorem dX8_heading_7 : decode cX8_heading 7 = .ok (.aload_n 0, 1) := by decide +kernel
theorem dX8_heading_8 : decode cX8_heading 8 = .ok (.getfield 13, 3) := by decide +kernel
theorem dX8_heading_11 : decode cX8_heading 11 = .ok (.aload_n 1, 1) := by decide +kernel
theorem dX8_heading_12 : decode cX8_heading 12 = .ok (.getfield 7, 3) := by decide +kernel
theorem dX8_heading_15 : decode cX8_heading 15 = .ok (.irem, 1) := by decide +kernel
theorem dX8_heading_16 : decode cX8_heading 16 = .ok (.goto 4, 3) := by decide +kernel
theorem dX8_heading_19 : decode cX8_heading 19 = .ok (.iconst (-1), 1) := by decide +kernel
theorem dX8_heading_20 : decode cX8_heading 20 = .ok (.ireturn, 1) := by decide +kernel
theorem dX8_cost_0 : decode cX8_cost 0 = .ok (.aload_n 0, 1) := by decide +kernel
theorem dX8_cost_1 : decode cX8_cost 1 = .ok (.invokespecial 20, 3) := by decide +kernel
theorem dX8_cost_4 : decode cX8_cost 4 = .ok (.iconst 2, 1) := by decide +kernel
theorem dX8_cost_5 : decode cX8_cost 5 = .ok (.idiv, 1) := by decide +kernel
theorem dX8_cost_6 : decode cX8_cost 6 = .ok (.ireturn, 1) := by decide +kernel
theorem dX8_fail_0 : decode cX8_fail 0 = .ok (.new 24, 3) := by decide +kernel
theorem dX8_fail_3 : decode cX8_fail 3 = .ok (.dup, 1) := by decide +kernel
theorem dX8_fail_4 : decode cX8_fail 4 = .ok (.ldc 26, 2) := by decide +kernel
theorem dX8_fail_6 : decode cX8_fail 6 = .ok (.invokespecial 28, 3) := by decide +kernel
theorem dX8_fail_9 : decode cX8_fail 9 = .ok (.athrow, 1) := by decide +kernel
theorem dX9_init_0 : decode cX9_init 0 = .ok (.aload_n 0, 1) := by decide +kernel
theorem dX9_init_1 : decode cX9_init 1 = .ok (.iload_n 1, 1) := by decide +kernel
theorem dX9_init_2 : decode cX9_init 2 = .ok (.invokespecial 1, 3) := by decide +kernel
theorem dX9_init_5 : decode cX9_init 5 = .ok (.return_, 1) := by decide +kernel
theorem dX9_kind_0 : decode cX9_kind 0 = .ok (.iconst 1, 1) := by decide +kernel
theorem dX9_kind_1 : decode cX9_kind 1 = .ok (.ireturn, 1) := by decide +kernel
theorem dX9_choose_0 : decode cX9_choose 0 = .ok (.aload_n 0, 1) := by decide +kernel
theorem dX9_choose_1 : decode cX9_choose 1 = .ok (.getfield 7, 3) := by decide +kernel
theorem dX9_choose_4 : decode cX9_choose 4 = .ok (.iconst 1, 1) := by decide +kernel
theorem dX9_choose_5 : decode cX9_choose 5 = .ok (.iadd, 1) := by decide +kernel
theorem dX9_choose_6 : decode cX9_choose 6 = .ok (.istore_n 3, 1) := by decide +kernel
theorem dX9_choose_7 : decode cX9_choose 7 = .ok (.iload_n 3, 1) := by decide +kernel
theorem dX9_choose_8 : decode cX9_choose 8 = .ok (.ifCond .le 21, 3) := by decide +kernel
theorem dX9_choose_11 : decode cX9_choose 11 = .ok (.aload_n 1, 1) := by decide +kernel
theorem dX9_choose_12 : decode cX9_choose 12 = .ok (.getfield 13, 3) := by decide +kernel
theorem dX9_choose_15 : decode cX9_choose 15 = .ok (.iload_n 3, 1) := by decide +kernel
theorem dX9_choose_16 : decode cX9_choose 16 = .ok (.irem, 1) := by decide +kernel
theorem dX9_choose_17 : decode cX9_choose 17 = .ok (.ifCond .ne 12, 3) := by decide +kernel
theorem dX9_choose_20 : decode cX9_choose 20 = .ok (.aload_n 0, 1) := by decide +kernel
theorem dX9_choose_21 : decode cX9_choose 21 = .ok (.aload_n 1, 1) := by decide +kernel
theorem dX9_choose_22 : decode cX9_choose 22 = .ok (.aload_n 2, 1) := by decide +kernel
theorem dX9_choose_23 : decode cX9_choose 23 = .ok (.invokevirtual 18, 3) := by decide +kernel
theorem dX9_choose_26 : decode cX9_choose 26 = .ok (.goto 4, 3) := by decide +kernel
theorem dX9_choose_29 : decode cX9_choose 29 = .ok (.iconst (-1), 1) := by decide +kernel
theorem dX9_choose_30 : decode cX9_choose 30 = .ok (.ireturn, 1) := by decide +kernel
theorem dX9_heading_0 : decode cX9_heading 0 = .ok (.aload_n 2, 1) := by decide +kernel
theorem dX9_heading_1 : decode cX9_heading 1 = .ok (.getfield 22, 3) := by decide +kernel
theorem dX9_heading_4 : decode cX9_heading 4 = .ok (.iconst 1, 1) := by decide +kernel
theorem dX9_heading_5 : decode cX9_heading 5 = .ok (.iadd, 1) := by decide +kernel
theorem dX9_heading_6 : decode cX9_heading 6 = .ok (.aload_n 1, 1) := by decide +kernel
theorem dX9_heading_7 : decode cX9_heading 7 = .ok (.getfield 27, 3) := by decide +kernel
theorem dX9_heading_10 : decode cX9_heading 10 = .ok (.if_icmp .ge 12, 3) := by decide +kernel
theorem dX9_heading_13 : decode cX9_heading 13 = .ok (.aload_n 2, 1) := by decide +kernel
theorem dX9_heading_14 : decode cX9_heading 14 = .ok (.getfield 22, 3) := by decide +kernel
theorem dX9_heading_17 : decode cX9_heading 17 = .ok (.iconst 1, 1) := by decide +kernel
theorem dX9_heading_18 : decode cX9_heading 18 = .ok (.iadd, 1) := by decide +kernel
theorem dX9_heading_19 : decode cX9_heading 19 = .ok (.goto 4, 3) := by decide +kernel
theorem dX9_heading_22 : decode cX9_heading 22 = .ok (.iconst 0, 1) := by decide +kernel
theorem dX9_heading_23 : decode cX9_heading 23 = .ok (.ireturn, 1) := by decide +kernel
theorem dX9_cost_0 : decode cX9_cost 0 = .ok (.aload_n 0, 1) := by decide +kernel
theorem dX9_cost_1 : decode cX9_cost 1 = .ok (.invokespecial 30, 3) := by decide +kernel
theorem dX9_cost_4 : decode cX9_cost 4 = .ok (.aload_n 0, 1) := by decide +kernel
theorem dX9_cost_5 : decode cX9_cost 5 = .ok (.getfield 7, 3) := by decide +kernel
theorem dX9_cost_8 : decode cX9_cost 8 = .ok (.iadd, 1) := by decide +kernel
theorem dX9_cost_9 : decode cX9_cost 9 = .ok (.ireturn, 1) := by decide +kernel
theorem dX10_init_0 : decode cX10_init 0 = .ok (.aload_n 0, 1) := by decide +kernel
theorem dX10_init_1 : decode cX10_init 1 = .ok (.invokespecial 3, 3) := by decide +kernel
theorem dX10_init_4 : decode cX10_init 4 = .ok (.aload_n 0, 1) := by decide +kernel
theorem dX10_init_5 : decode cX10_init 5 = .ok (.iconst 3, 1) := by decide +kernel
theorem dX10_init_6 : decode cX10_init 6 = .ok (.putfield 9, 3) := by decide +kernel
theorem dX10_init_9 : decode cX10_init 9 = .ok (.aload_n 0, 1) := by decide +kernel
theorem dX10_init_10 : decode cX10_init 10 = .ok (.bipush 16, 2) := by decide +kernel
theorem dX10_init_12 : decode cX10_init 12 = .ok (.newarray .int, 2) := by decide +kernel
theorem dX10_init_14 : decode cX10_init 14 = .ok (.putfield 15, 3) := by decide +kernel
theorem dX10_init_17 : decode cX10_init 17 = .ok (.aload_n 0, 1) := by decide +kernel
theorem dX10_init_18 : decode cX10_init 18 = .ok (.iconst 0, 1) := by decide +kernel
theorem dX10_init_19 : decode cX10_init 19 = .ok (.putfield 19, 3) := by decide +kernel
theorem dX10_init_22 : decode cX10_init 22 = .ok (.aload_n 0, 1) := by decide +kernel
theorem dX10_init_23 : decode cX10_init 23 = .ok (.bipush 25, 2) := by decide +kernel
theorem dX10_init_25 : decode cX10_init 25 = .ok (.newarray .int, 2) := by decide +kernel
theorem dX10_init_27 : decode cX10_init 27 = .ok (.putfield 22, 3) := by decide +kernel
theorem dX10_init_30 : decode cX10_init 30 = .ok (.aload_n 0, 1) := by decide +kernel
theorem dX10_init_31 : decode cX10_init 31 = .ok (.iconst 3, 1) := by decide +kernel
theorem dX10_init_32 : decode cX10_init 32 = .ok (.putfield 25, 3) := by decide +kernel
theorem dX10_init_35 : decode cX10_init 35 = .ok (.aload_n 0, 1) := by decide +kernel
theorem dX10_init_36 : decode cX10_init 36 = .ok (.iconst 1, 1) := by decide +kernel
theorem dX10_init_37 : decode cX10_init 37 = .ok (.putfield 28, 3) := by decide +kernel
theorem dX10_init_40 : decode cX10_init 40 = .ok (.aload_n 0, 1) := by decide +kernel
theorem dX10_init_41 : decode cX10_init 41 = .ok (.iconst 0, 1) := by decide +kernel
theorem dX10_init_42 : decode cX10_init 42 = .ok (.putfield 31, 3) := by decide +kernel
theorem dX10_init_45 : decode cX10_init 45 = .ok (.aload_n 0, 1) := by decide +kernel
theorem dX10_init_46 : decode cX10_init 46 = .ok (.new 34, 3) := by decide +kernel
theorem dX10_init_49 : decode cX10_init 49 = .ok (.dup, 1) := by decide +kernel
theorem dX10_init_50 : decode cX10_init 50 = .ok (.invokespecial 36, 3) := by decide +kernel
theorem dX10_init_53 : decode cX10_init 53 = .ok (.putfield 37, 3) := by decide +kernel
theorem dX10_init_56 : decode cX10_init 56 = .ok (.aload_n 0, 1) := by decide +kernel
theorem dX10_init_57 : decode cX10_init 57 = .ok (.new 34, 3) := by decide +kernel
theorem dX10_init_60 : decode cX10_init 60 = .ok (.dup, 1) := by decide +kernel
theorem dX10_init_61 : decode cX10_init 61 = .ok (.invokespecial 36, 3) := by decide +kernel
theorem dX10_init_64 : decode cX10_init 64 = .ok (.putfield 41, 3) := by decide +kernel
theorem dX10_init_67 : decode cX10_init 67 = .ok (.aload_n 0, 1) := by decide +kernel
theorem dX10_init_68 : decode cX10_init 68 = .ok (.iconst 0, 1) := by decide +kernel
theorem dX10_init_69 : decode cX10_init 69 = .ok (.putfield 44, 3) := by decide +kernel
theorem dX10_init_72 : decode cX10_init 72 = .ok (.aload_n 0, 1) := by decide +kernel
theorem dX10_init_73 : decode cX10_init 73 = .ok (.iconst 4, 1) := by decide +kernel
theorem dX10_init_74 : decode cX10_init 74 = .ok (.newarray .int, 2) := by decide +kernel
theorem dX10_init_76 : decode cX10_init 76 = .ok (.putfield 48, 3) := by decide +kernel
theorem dX10_init_79 : decode cX10_init 79 = .ok (.aload_n 0, 1) := by decide +kernel
theorem dX10_init_80 : decode cX10_init 80 = .ok (.bipush 48, 2) := by decide +kernel
theorem dX10_init_82 : decode cX10_init 82 = .ok (.newarray .int, 2) := by decide +kernel
theorem dX10_init_84 : decode cX10_init 84 = .ok (.putfield 51, 3) := by decide +kernel
theorem dX10_init_87 : decode cX10_init 87 = .ok (.aload_n 0, 1) := by decide +kernel
theorem dX10_init_88 : decode cX10_init 88 = .ok (.bipush 48, 2) := by decide +kernel
theorem dX10_init_90 : decode cX10_init 90 = .ok (.newarray .int, 2) := by decide +kernel
theorem dX10_init_92 : decode cX10_init 92 = .ok (.putfield 54, 3) := by decide +kernel
theorem dX10_init_95 : decode cX10_init 95 = .ok (.aload_n 0, 1) := by decide +kernel
theorem dX10_init_96 : decode cX10_init 96 = .ok (.iconst 0, 1) := by decide +kernel
theorem dX10_init_97 : decode cX10_init 97 = .ok (.putfield 57, 3) := by decide +kernel
theorem dX10_init_100 : decode cX10_init 100 = .ok (.aload_n 0, 1) := by decide +kernel
theorem dX10_init_101 : decode cX10_init 101 = .ok (.iconst 0, 1) := by decide +kernel
theorem dX10_init_102 : decode cX10_init 102 = .ok (.putfield 60, 3) := by decide +kernel
theorem dX10_init_105 : decode cX10_init 105 = .ok (.aload_n 0, 1) := by decide +kernel
theorem dX10_init_106 : decode cX10_init 106 = .ok (.iconst 0, 1) := by decide +kernel
theorem dX10_init_107 : decode cX10_init 107 = .ok (.putfield 63, 3) := by decide +kernel
theorem dX10_init_110 : decode cX10_init 110 = .ok (.aload_n 0, 1) := by decide +kernel
theorem dX10_init_111 : decode cX10_init 111 = .ok (.iconst 0, 1) := by decide +kernel
theorem dX10_init_112 : decode cX10_init 112 = .ok (.putfield 66, 3) := by decide +kernel
theorem dX10_init_115 : decode cX10_init 115 = .ok (.aload_n 0, 1) := by decide +kernel
theorem dX10_init_116 : decode cX10_init 116 = .ok (.aload_n 1, 1) := by decide +kernel
theorem dX10_init_117 : decode cX10_init 117 = .ok (.putfield 69, 3) := by decide +kernel
theorem dX10_init_120 : decode cX10_init 120 = .ok (.iconst 0, 1) := by decide +kernel
theorem dX10_init_121 : decode cX10_init 121 = .ok (.istore_n 2, 1) := by decide +kernel
theorem dX10_init_122 : decode cX10_init 122 = .ok (.iload_n 2, 1) := by decide +kernel
theorem dX10_init_123 : decode cX10_init 123 = .ok (.aload_n 0, 1) := by decide +kernel
theorem dX10_init_124 : decode cX10_init 124 = .ok (.getfield 15, 3) := by decide +kernel
theorem dX10_init_127 : decode cX10_init 127 = .ok (.arraylength, 1) := by decide +kernel
theorem dX10_init_128 : decode cX10_init 128 = .ok (.if_icmp .ge 16, 3) := by decide +kernel
theorem dX10_init_131 : decode cX10_init 131 = .ok (.aload_n 0, 1) := by decide +kernel
theorem dX10_init_132 : decode cX10_init 132 = .ok (.getfield 15, 3) := by decide +kernel
theorem dX10_init_135 : decode cX10_init 135 = .ok (.iload_n 2, 1) := by decide +kernel
theorem dX10_init_136 : decode cX10_init 136 = .ok (.iconst 3, 1) := by decide +kernel
theorem dX10_init_137 : decode cX10_init 137 = .ok (.iastore, 1) := by decide +kernel
theorem dX10_init_138 : decode cX10_init 138 = .ok (.iinc 2 1, 3) := by decide +kernel
theorem dX10_init_141 : decode cX10_init 141 = .ok (.goto (-19), 3) := by decide +kernel
theorem dX10_init_144 : decode cX10_init 144 = .ok (.return_, 1) := by decide +kernel
theorem dX10_become_0 : decode cX10_become 0 = .ok (.aload_n 0, 1) := by decide +kernel
theorem dX10_become_1 : decode cX10_become 1 = .ok (.aload_n 1, 1) := by decide +kernel
theorem dX10_become_2 : decode cX10_become 2 = .ok (.invokevirtual 73, 3) := by decide +kernel
theorem dX10_become_5 : decode cX10_become 5 = .ok (.aload_n 0, 1) := by decide +kernel
theorem dX10_become_6 : decode cX10_become 6 = .ok (.aload_n 1, 1) := by decide +kernel
theorem dX10_become_7 : decode cX10_become 7 = .ok (.getfield 28, 3) := by decide +kernel
theorem dX10_become_10 : decode cX10_become 10 = .ok (.putfield 28, 3) := by decide +kernel
theorem dX10_become_13 : decode cX10_become 13 = .ok (.aload_n 0, 1) := by decide +kernel
theorem dX10_become_14 : decode cX10_become 14 = .ok (.aload_n 1, 1) := by decide +kernel
theorem dX10_become_15 : decode cX10_become 15 = .ok (.getfield 31, 3) := by decide +kernel
theorem dX10_become_18 : decode cX10_become 18 = .ok (.putfield 31, 3) := by decide +kernel
theorem dX10_become_21 : decode cX10_become 21 = .ok (.aload_n 0, 1) := by decide +kernel
theorem dX10_become_22 : decode cX10_become 22 = .ok (.getfield 37, 3) := by decide +kernel
theorem dX10_become_25 : decode cX10_become 25 = .ok (.aload_n 1, 1) := by decide +kernel
theorem dX10_become_26 : decode cX10_become 26 = .ok (.getfield 37, 3) := by decide +kernel
theorem dX10_become_29 : decode cX10_become 29 = .ok (.invokevirtual 77, 3) := by decide +kernel
theorem dX10_become_32 : decode cX10_become 32 = .ok (.aload_n 0, 1) := by decide +kernel
theorem dX10_become_33 : decode cX10_become 33 = .ok (.getfield 41, 3) := by decide +kernel
theorem dX10_become_36 : decode cX10_become 36 = .ok (.aload_n 1, 1) := by decide +kernel
theorem dX10_become_37 : decode cX10_become 37 = .ok (.getfield 41, 3) := by decide +kernel
theorem dX10_become_40 : decode cX10_become 40 = .ok (.invokevirtual 77, 3) := by decide +kernel
theorem dX10_become_43 : decode cX10_become 43 = .ok (.aload_n 0, 1) := by decide +kernel
theorem dX10_become_44 : decode cX10_become 44 = .ok (.aload_n 1, 1) := by decide +kernel
theorem dX10_become_45 : decode cX10_become 45 = .ok (.getfield 44, 3) := by decide +kernel
theorem dX10_become_48 : decode cX10_become 48 = .ok (.putfield 44, 3) := by decide +kernel
theorem dX10_become_51 : decode cX10_become 51 = .ok (.aload_n 1, 1) := by decide +kernel
theorem dX10_become_52 : decode cX10_become 52 = .ok (.getfield 48, 3) := by decide +kernel
theorem dX10_become_55 : decode cX10_become 55 = .ok (.aload_n 0, 1) := by decide +kernel
theorem dX10_become_56 : decode cX10_become 56 = .ok (.getfield 48, 3) := by decide +kernel
theorem dX10_become_59 : decode cX10_become 59 = .ok (.invokestatic 81, 3) := by decide +kernel
theorem dX10_become_62 : decode cX10_become 62 = .ok (.aload_n 1, 1) := by decide +kernel
theorem dX10_become_63 : decode cX10_become 63 = .ok (.getfield 51, 3) := by decide +kernel
theorem dX10_become_66 : decode cX10_become 66 = .ok (.aload_n 0, 1) := by decide +kernel
theorem dX10_become_67 : decode cX10_become 67 = .ok (.getfield 51, 3) := by decide +kernel
theorem dX10_become_70 : decode cX10_become 70 = .ok (.invokestatic 81, 3) := by decide +kernel
theorem dX10_become_73 : decode cX10_become 73 = .ok (.aload_n 1, 1) := by decide +kernel
theorem dX10_become_74 : decode cX10_become 74 = .ok (.getfield 54, 3) := by decide +kernel
theorem dX10_become_77 : decode cX10_become 77 = .ok (.aload_n 0, 1) := by decide +kernel
theorem dX10_become_78 : decode cX10_become 78 = .ok (.getfield 54, 3) := by decide +kernel
theorem dX10_become_81 : decode cX10_become 81 = .ok (.invokestatic 81, 3) := by decide +kernel
theorem dX10_become_84 : decode cX10_become 84 = .ok (.aload_n 0, 1) := by decide +kernel
theorem dX10_become_85 : decode cX10_become 85 = .ok (.aload_n 1, 1) := by decide +kernel
theorem dX10_become_86 : decode cX10_become 86 = .ok (.getfield 57, 3) := by decide +kernel
theorem dX10_become_89 : decode cX10_become 89 = .ok (.putfield 57, 3) := by decide +kernel
theorem dX10_become_92 : decode cX10_become 92 = .ok (.aload_n 0, 1) := by decide +kernel
theorem dX10_become_93 : decode cX10_become 93 = .ok (.aload_n 1, 1) := by decide +kernel
theorem dX10_become_94 : decode cX10_become 94 = .ok (.getfield 60, 3) := by decide +kernel
theorem dX10_become_97 : decode cX10_become 97 = .ok (.putfield 60, 3) := by decide +kernel
theorem dX10_become_100 : decode cX10_become 100 = .ok (.aload_n 0, 1) := by decide +kernel
theorem dX10_become_101 : decode cX10_become 101 = .ok (.aload_n 1, 1) := by decide +kernel
theorem dX10_become_102 : decode cX10_become 102 = .ok (.getfield 63, 3) := by decide +kernel
theorem dX10_become_105 : decode cX10_become 105 = .ok (.putfield 63, 3) := by decide +kernel
theorem dX10_become_108 : decode cX10_become 108 = .ok (.aload_n 0, 1) := by decide +kernel
theorem dX10_become_109 : decode cX10_become 109 = .ok (.aload_n 1, 1) := by decide +kernel
theorem dX10_become_110 : decode cX10_become 110 = .ok (.getfield 66, 3) := by decide +kernel
theorem dX10_become_113 : decode cX10_become 113 = .ok (.putfield 66, 3) := by decide +kernel
theorem dX10_become_116 : decode cX10_become 116 = .ok (.return_, 1) := by decide +kernel
theorem dX10_becomeRiver_0 : decode cX10_becomeRiver 0 = .ok (.aload_n 0, 1) := by decide +kernel
theorem dX10_becomeRiver_1 : decode cX10_becomeRiver 1 = .ok (.aload_n 1, 1) := by decide +kernel
theorem dX10_becomeRiver_2 : decode cX10_becomeRiver 2 = .ok (.getfield 9, 3) := by decide +kernel
theorem dX10_becomeRiver_5 : decode cX10_becomeRiver 5 = .ok (.putfield 9, 3) := by decide +kernel
theorem dX10_becomeRiver_8 : decode cX10_becomeRiver 8 = .ok (.aload_n 1, 1) := by decide +kernel
theorem dX10_becomeRiver_9 : decode cX10_becomeRiver 9 = .ok (.getfield 15, 3) := by decide +kernel
theorem dX10_becomeRiver_12 : decode cX10_becomeRiver 12 = .ok (.aload_n 0, 1) := by decide +kernel
theorem dX10_becomeRiver_13 : decode cX10_becomeRiver 13 = .ok (.getfield 15, 3) := by decide +kernel
theorem dX10_becomeRiver_16 : decode cX10_becomeRiver 16 = .ok (.invokestatic 81, 3) := by decide +kernel
theorem dX10_becomeRiver_19 : decode cX10_becomeRiver 19 = .ok (.aload_n 0, 1) := by decide +kernel
theorem dX10_becomeRiver_20 : decode cX10_becomeRiver 20 = .ok (.aload_n 1, 1) := by decide +kernel
theorem dX10_becomeRiver_21 : decode cX10_becomeRiver 21 = .ok (.getfield 19, 3) := by decide +kernel
theorem dX10_becomeRiver_24 : decode cX10_becomeRiver 24 = .ok (.putfield 19, 3) := by decide +kernel
theorem dX10_becomeRiver_27 : decode cX10_becomeRiver 27 = .ok (.aload_n 1, 1) := by decide +kernel
theorem dX10_becomeRiver_28 : decode cX10_becomeRiver 28 = .ok (.getfield 22, 3) := by decide +kernel
theorem dX10_becomeRiver_31 : decode cX10_becomeRiver 31 = .ok (.aload_n 0, 1) := by decide +kernel
theorem dX10_becomeRiver_32 : decode cX10_becomeRiver 32 = .ok (.getfield 22, 3) := by decide +kernel
theorem dX10_becomeRiver_35 : decode cX10_becomeRiver 35 = .ok (.invokestatic 81, 3) := by decide +kernel
theorem dX10_becomeRiver_38 : decode cX10_becomeRiver 38 = .ok (.aload_n 0, 1) := by decide +kernel
theorem dX10_becomeRiver_39 : decode cX10_becomeRiver 39 = .ok (.aload_n 1, 1) := by decide +kernel
theorem dX10_becomeRiver_40 : decode cX10_becomeRiver 40 = .ok (.getfield 25, 3) := by decide +kernel
theorem dX10_becomeRiver_43 : decode cX10_becomeRiver 43 = .ok (.putfield 25, 3) := by decide +kernel
theorem dX10_becomeRiver_46 : decode cX10_becomeRiver 46 = .ok (.return_, 1) := by decide +kernel
theorem dX10_beginDay_0 : decode cX10_beginDay 0 = .ok (.aload_n 0, 1) := by decide +kernel
theorem dX10_beginDay_1 : decode cX10_beginDay 1 = .ok (.aload_n 1, 1) := by decide +kernel
theorem dX10_beginDay_2 : decode cX10_beginDay 2 = .ok (.invokevirtual 73, 3) := by decide +kernel
theorem dX10_beginDay_5 : decode cX10_beginDay 5 = .ok (.aload_n 0, 1) := by decide +kernel
theorem dX10_beginDay_6 : decode cX10_beginDay 6 = .ok (.iload 4, 2) := by decide +kernel
theorem dX10_beginDay_8 : decode cX10_beginDay 8 = .ok (.putfield 28, 3) := by decide +kernel
theorem dX10_beginDay_11 : decode cX10_beginDay 11 = .ok (.aload_n 0, 1) := by decide +kernel
theorem dX10_beginDay_12 : decode cX10_beginDay 12 = .ok (.iconst 0, 1) := by decide +kernel
theorem dX10_beginDay_13 : decode cX10_beginDay 13 = .ok (.putfield 31, 3) := by decide +kernel
theorem dX10_beginDay_16 : decode cX10_beginDay 16 = .ok (.aload_n 0, 1) := by decide +kernel
theorem dX10_beginDay_17 : decode cX10_beginDay 17 = .ok (.getfield 37, 3) := by decide +kernel
theorem dX10_beginDay_20 : decode cX10_beginDay 20 = .ok (.aload_n 2, 1) := by decide +kernel
theorem dX10_beginDay_21 : decode cX10_beginDay 21 = .ok (.iload_n 3, 1) := by decide +kernel
theorem dX10_beginDay_22 : decode cX10_beginDay 22 = .ok (.invokevirtual 85, 3) := by decide +kernel
theorem dX10_beginDay_25 : decode cX10_beginDay 25 = .ok (.aload_n 0, 1) := by decide +kernel
theorem dX10_beginDay_26 : decode cX10_beginDay 26 = .ok (.iconst 0, 1) := by decide +kernel
theorem dX10_beginDay_27 : decode cX10_beginDay 27 = .ok (.putfield 44, 3) := by decide +kernel
theorem dX10_beginDay_30 : decode cX10_beginDay 30 = .ok (.iconst 0, 1) := by decide +kernel
theorem dX10_beginDay_31 : decode cX10_beginDay 31 = .ok (.istore 5, 2) := by decide +kernel
theorem dX10_beginDay_33 : decode cX10_beginDay 33 = .ok (.iload 5, 2) := by decide +kernel
theorem dX10_beginDay_35 : decode cX10_beginDay 35 = .ok (.aload_n 0, 1) := by decide +kernel
theorem dX10_beginDay_36 : decode cX10_beginDay 36 = .ok (.getfield 48, 3) := by decide +kernel
theorem dX10_beginDay_39 : decode cX10_beginDay 39 = .ok (.arraylength, 1) := by decide +kernel
theorem dX10_beginDay_40 : decode cX10_beginDay 40 = .ok (.if_icmp .ge 17, 3) := by decide +kernel
theorem dX10_beginDay_43 : decode cX10_beginDay 43 = .ok (.aload_n 0, 1) := by decide +kernel
theorem dX10_beginDay_44 : decode cX10_beginDay 44 = .ok (.getfield 48, 3) := by decide +kernel
theorem dX10_beginDay_47 : decode cX10_beginDay 47 = .ok (.iload 5, 2) := by decide +kernel
theorem dX10_beginDay_49 : decode cX10_beginDay 49 = .ok (.iconst 0, 1) := by decide +kernel
theorem dX10_beginDay_50 : decode cX10_beginDay 50 = .ok (.iastore, 1) := by decide +kernel
theorem dX10_beginDay_51 : decode cX10_beginDay 51 = .ok (.iinc 5 1, 3) := by decide +kernel
theorem dX10_beginDay_54 : decode cX10_beginDay 54 = .ok (.goto (-21), 3) := by decide +kernel
theorem dX10_beginDay_57 : decode cX10_beginDay 57 = .ok (.aload_n 0, 1) := by decide +kernel
theorem dX10_beginDay_58 : decode cX10_beginDay 58 = .ok (.iconst 0, 1) := by decide +kernel
theorem dX10_beginDay_59 : decode cX10_beginDay 59 = .ok (.putfield 57, 3) := by decide +kernel
theorem dX10_beginDay_62 : decode cX10_beginDay 62 = .ok (.aload_n 0, 1) := by decide +kernel
theorem dX10_beginDay_63 : decode cX10_beginDay 63 = .ok (.iconst 0, 1) := by decide +kernel
theorem dX10_beginDay_64 : decode cX10_beginDay 64 = .ok (.putfield 60, 3) := by decide +kernel
theorem dX10_beginDay_67 : decode cX10_beginDay 67 = .ok (.aload_n 0, 1) := by decide +kernel
theorem dX10_beginDay_68 : decode cX10_beginDay 68 = .ok (.iconst 0, 1) := by decide +kernel
theorem dX10_beginDay_69 : decode cX10_beginDay 69 = .ok (.putfield 63, 3) := by decide +kernel
theorem dX10_beginDay_72 : decode cX10_beginDay 72 = .ok (.aload_n 0, 1) := by decide +kernel
theorem dX10_beginDay_73 : decode cX10_beginDay 73 = .ok (.iconst 0, 1) := by decide +kernel
theorem dX10_beginDay_74 : decode cX10_beginDay 74 = .ok (.putfield 66, 3) := by decide +kernel
theorem dX10_beginDay_77 : decode cX10_beginDay 77 = .ok (.return_, 1) := by decide +kernel
theorem dX10_hasLanding_0 : decode cX10_hasLanding 0 = .ok (.iload_n 1, 1) := by decide +kernel
theorem dX10_hasLanding_1 : decode cX10_hasLanding 1 = .ok (.ifCond .lt 15, 3) := by decide +kernel
theorem dX10_hasLanding_4 : decode cX10_hasLanding 4 = .ok (.iload_n 1, 1) := by decide +kernel
theorem dX10_hasLanding_5 : decode cX10_hasLanding 5 = .ok (.aload_n 0, 1) := by decide +kernel
theorem dX10_hasLanding_6 : decode cX10_hasLanding 6 = .ok (.getfield 9, 3) := by decide +kernel
theorem dX10_hasLanding_9 : decode cX10_hasLanding 9 = .ok (.if_icmp .ge 7, 3) := by decide +kernel
theorem dX10_hasLanding_12 : decode cX10_hasLanding 12 = .ok (.iconst 1, 1) := by decide +kernel
theorem dX10_hasLanding_13 : decode cX10_hasLanding 13 = .ok (.goto 4, 3) := by decide +kernel
theorem dX10_hasLanding_16 : decode cX10_hasLanding 16 = .ok (.iconst 0, 1) := by decide +kernel
theorem dX10_hasLanding_17 : decode cX10_hasLanding 17 = .ok (.ireturn, 1) := by decide +kernel
theorem dX10_hasSort_0 : decode cX10_hasSort 0 = .ok (.iload_n 1, 1) := by decide +kernel
theorem dX10_hasSort_1 : decode cX10_hasSort 1 = .ok (.ifCond .lt 15, 3) := by decide +kernel
theorem dX10_hasSort_4 : decode cX10_hasSort 4 = .ok (.iload_n 1, 1) := by decide +kernel
theorem dX10_hasSort_5 : decode cX10_hasSort 5 = .ok (.aload_n 0, 1) := by decide +kernel
theorem dX10_hasSort_6 : decode cX10_hasSort 6 = .ok (.getfield 19, 3) := by decide +kernel
theorem dX10_hasSort_9 : decode cX10_hasSort 9 = .ok (.if_icmp .ge 7, 3) := by decide +kernel
theorem dX10_hasSort_12 : decode cX10_hasSort 12 = .ok (.iconst 1, 1) := by decide +kernel
theorem dX10_hasSort_13 : decode cX10_hasSort 13 = .ok (.goto 4, 3) := by decide +kernel
theorem dX10_hasSort_16 : decode cX10_hasSort 16 = .ok (.iconst 0, 1) := by decide +kernel
theorem dX10_hasSort_17 : decode cX10_hasSort 17 = .ok (.ireturn, 1) := by decide +kernel
theorem dX10_way_0 : decode cX10_way 0 = .ok (.aload_n 0, 1) := by decide +kernel
theorem dX10_way_1 : decode cX10_way 1 = .ok (.getfield 15, 3) := by decide +kernel
theorem dX10_way_4 : decode cX10_way 4 = .ok (.iload_n 1, 1) := by decide +kernel
theorem dX10_way_5 : decode cX10_way 5 = .ok (.iconst 4, 1) := by decide +kernel
theorem dX10_way_6 : decode cX10_way 6 = .ok (.imul, 1) := by decide +kernel
theorem dX10_way_7 : decode cX10_way 7 = .ok (.iload_n 2, 1) := by decide +kernel
theorem dX10_way_8 : decode cX10_way 8 = .ok (.iadd, 1) := by decide +kernel
theorem dX10_way_9 : decode cX10_way 9 = .ok (.invokestatic 89, 3) := by decide +kernel
theorem dX10_way_12 : decode cX10_way 12 = .ok (.ireturn, 1) := by decide +kernel
theorem dX10_ofSort_0 : decode cX10_ofSort 0 = .ok (.iload_n 1, 1) := by decide +kernel
theorem dX10_ofSort_1 : decode cX10_ofSort 1 = .ok (.iconst 5, 1) := by decide +kernel
theorem dX10_ofSort_2 : decode cX10_ofSort 2 = .ok (.imul, 1) := by decide +kernel
theorem dX10_ofSort_3 : decode cX10_ofSort 3 = .ok (.iload_n 2, 1) := by decide +kernel
theorem dX10_ofSort_4 : decode cX10_ofSort 4 = .ok (.iadd, 1) := by decide +kernel
theorem dX10_ofSort_5 : decode cX10_ofSort 5 = .ok (.istore_n 3, 1) := by decide +kernel
theorem dX10_ofSort_6 : decode cX10_ofSort 6 = .ok (.iload_n 3, 1) := by decide +kernel
theorem dX10_ofSort_7 : decode cX10_ofSort 7 = .ok (.ifCond .lt 21, 3) := by decide +kernel
theorem dX10_ofSort_10 : decode cX10_ofSort 10 = .ok (.iload_n 3, 1) := by decide +kernel
theorem dX10_ofSort_11 : decode cX10_ofSort 11 = .ok (.aload_n 0, 1) := by decide +kernel
theorem dX10_ofSort_12 : decode cX10_ofSort 12 = .ok (.getfield 22, 3) := by decide +kernel
theorem dX10_ofSort_15 : decode cX10_ofSort 15 = .ok (.arraylength, 1) := by decide +kernel
theorem dX10_ofSort_16 : decode cX10_ofSort 16 = .ok (.if_icmp .ge 12, 3) := by decide +kernel
theorem dX10_ofSort_19 : decode cX10_ofSort 19 = .ok (.aload_n 0, 1) := by decide +kernel
theorem dX10_ofSort_20 : decode cX10_ofSort 20 = .ok (.getfield 22, 3) := by decide +kernel
theorem dX10_ofSort_23 : decode cX10_ofSort 23 = .ok (.iload_n 3, 1) := by decide +kernel
theorem dX10_ofSort_24 : decode cX10_ofSort 24 = .ok (.iaload, 1) := by decide +kernel
theorem dX10_ofSort_25 : decode cX10_ofSort 25 = .ok (.goto 4, 3) := by decide +kernel
theorem dX10_ofSort_28 : decode cX10_ofSort 28 = .ok (.iconst 0, 1) := by decide +kernel
theorem dX10_ofSort_29 : decode cX10_ofSort 29 = .ok (.ireturn, 1) := by decide +kernel
theorem dX10_sortsFrom_0 : decode cX10_sortsFrom 0 = .ok (.iconst 0, 1) := by decide +kernel
theorem dX10_sortsFrom_1 : decode cX10_sortsFrom 1 = .ok (.istore_n 2, 1) := by decide +kernel
theorem dX10_sortsFrom_2 : decode cX10_sortsFrom 2 = .ok (.iconst 0, 1) := by decide +kernel
theorem dX10_sortsFrom_3 : decode cX10_sortsFrom 3 = .ok (.istore_n 3, 1) := by decide +kernel
theorem dX10_sortsFrom_4 : decode cX10_sortsFrom 4 = .ok (.iload_n 3, 1) := by decide +kernel
theorem dX10_sortsFrom_5 : decode cX10_sortsFrom 5 = .ok (.aload_n 0, 1) := by decide +kernel
theorem dX10_sortsFrom_6 : decode cX10_sortsFrom 6 = .ok (.getfield 19, 3) := by decide +kernel
theorem dX10_sortsFrom_9 : decode cX10_sortsFrom 9 = .ok (.if_icmp .ge 22, 3) := by decide +kernel
theorem dX10_sortsFrom_12 : decode cX10_sortsFrom 12 = .ok (.aload_n 0, 1) := by decide +kernel
theorem dX10_sortsFrom_13 : decode cX10_sortsFrom 13 = .ok (.iload_n 3, 1) := by decide +kernel
theorem dX10_sortsFrom_14 : decode cX10_sortsFrom 14 = .ok (.iconst 0, 1) := by decide +kernel
theorem dX10_sortsFrom_15 : decode cX10_sortsFrom 15 = .ok (.invokevirtual 93, 3) := by decide +kernel
theorem dX10_sortsFrom_18 : decode cX10_sortsFrom 18 = .ok (.iload_n 1, 1) := by decide +kernel
theorem dX10_sortsFrom_19 : decode cX10_sortsFrom 19 = .ok (.if_icmp .ne 6, 3) := by decide +kernel
theorem dX10_sortsFrom_22 : decode cX10_sortsFrom 22 = .ok (.iinc 2 1, 3) := by decide +kernel
theorem dX10_sortsFrom_25 : decode cX10_sortsFrom 25 = .ok (.iinc 3 1, 3) := by decide +kernel
theorem dX10_sortsFrom_28 : decode cX10_sortsFrom 28 = .ok (.goto (-24), 3) := by decide +kernel
theorem dX10_sortsFrom_31 : decode cX10_sortsFrom 31 = .ok (.iload_n 2, 1) := by decide +kernel
theorem dX10_sortsFrom_32 : decode cX10_sortsFrom 32 = .ok (.ireturn, 1) := by decide +kernel
theorem dX10_canComeTo_0 : decode cX10_canComeTo 0 = .ok (.iconst 0, 1) := by decide +kernel
theorem dX10_canComeTo_1 : decode cX10_canComeTo 1 = .ok (.istore_n 2, 1) := by decide +kernel
theorem dX10_canComeTo_2 : decode cX10_canComeTo 2 = .ok (.iload_n 2, 1) := by decide +kernel
theorem dX10_canComeTo_3 : decode cX10_canComeTo 3 = .ok (.aload_n 0, 1) := by decide +kernel
theorem dX10_canComeTo_4 : decode cX10_canComeTo 4 = .ok (.getfield 19, 3) := by decide +kernel
theorem dX10_canComeTo_7 : decode cX10_canComeTo 7 = .ok (.if_icmp .ge 30, 3) := by decide +kernel
theorem dX10_canComeTo_10 : decode cX10_canComeTo 10 = .ok (.aload_n 0, 1) := by decide +kernel
theorem dX10_canComeTo_11 : decode cX10_canComeTo 11 = .ok (.iload_n 2, 1) := by decide +kernel
theorem dX10_canComeTo_12 : decode cX10_canComeTo 12 = .ok (.iconst 0, 1) := by decide +kernel
theorem dX10_canComeTo_13 : decode cX10_canComeTo 13 = .ok (.invokevirtual 93, 3) := by decide +kernel
theorem dX10_canComeTo_16 : decode cX10_canComeTo 16 = .ok (.iload_n 1, 1) := by decide +kernel
theorem dX10_canComeTo_17 : decode cX10_canComeTo 17 = .ok (.if_icmp .ne 14, 3) := by decide +kernel
theorem dX10_canComeTo_20 : decode cX10_canComeTo 20 = .ok (.aload_n 0, 1) := by decide +kernel
theorem dX10_canComeTo_21 : decode cX10_canComeTo 21 = .ok (.iload_n 2, 1) := by decide +kernel
theorem dX10_canComeTo_22 : decode cX10_canComeTo 22 = .ok (.iconst 2, 1) := by decide +kernel
theorem dX10_canComeTo_23 : decode cX10_canComeTo 23 = .ok (.invokevirtual 93, 3) := by decide +kernel
theorem dX10_canComeTo_26 : decode cX10_canComeTo 26 = .ok (.ifCond .le 5, 3) := by decide +kernel
theorem dX10_canComeTo_29 : decode cX10_canComeTo 29 = .ok (.iconst 1, 1) := by decide +kernel
theorem dX10_canComeTo_30 : decode cX10_canComeTo 30 = .ok (.ireturn, 1) := by decide +kernel
theorem dX10_canComeTo_31 : decode cX10_canComeTo 31 = .ok (.iinc 2 1, 3) := by decide +kernel
theorem dX10_canComeTo_34 : decode cX10_canComeTo 34 = .ok (.goto (-32), 3) := by decide +kernel
theorem dX10_canComeTo_37 : decode cX10_canComeTo 37 = .ok (.iconst 0, 1) := by decide +kernel
theorem dX10_canComeTo_38 : decode cX10_canComeTo 38 = .ok (.ireturn, 1) := by decide +kernel
theorem dX10_comesInAll_0 : decode cX10_comesInAll 0 = .ok (.iconst 0, 1) := by decide +kernel
theorem dX10_comesInAll_1 : decode cX10_comesInAll 1 = .ok (.istore_n 1, 1) := by decide +kernel
theorem dX10_comesInAll_2 : decode cX10_comesInAll 2 = .ok (.iconst 0, 1) := by decide +kernel
theorem dX10_comesInAll_3 : decode cX10_comesInAll 3 = .ok (.istore_n 2, 1) := by decide +kernel
theorem dX10_comesInAll_4 : decode cX10_comesInAll 4 = .ok (.iload_n 2, 1) := by decide +kernel
theorem dX10_comesInAll_5 : decode cX10_comesInAll 5 = .ok (.aload_n 0, 1) := by decide +kernel
theorem dX10_comesInAll_6 : decode cX10_comesInAll 6 = .ok (.getfield 19, 3) := by decide +kernel
theorem dX10_comesInAll_9 : decode cX10_comesInAll 9 = .ok (.if_icmp .ge 18, 3) := by decide +kernel
theorem dX10_comesInAll_12 : decode cX10_comesInAll 12 = .ok (.iload_n 1, 1) := by decide +kernel
theorem dX10_comesInAll_13 : decode cX10_comesInAll 13 = .ok (.aload_n 0, 1) := by decide +kernel
theorem dX10_comesInAll_14 : decode cX10_comesInAll 14 = .ok (.iload_n 2, 1) := by decide +kernel
theorem dX10_comesInAll_15 : decode cX10_comesInAll 15 = .ok (.iconst 2, 1) := by decide +kernel
theorem dX10_comesInAll_16 : decode cX10_comesInAll 16 = .ok (.invokevirtual 93, 3) := by decide +kernel
theorem dX10_comesInAll_19 : decode cX10_comesInAll 19 = .ok (.iadd, 1) := by decide +kernel
theorem dX10_comesInAll_20 : decode cX10_comesInAll 20 = .ok (.istore_n 1, 1) := by decide +kernel
theorem dX10_comesInAll_21 : decode cX10_comesInAll 21 = .ok (.iinc 2 1, 3) := by decide +kernel
theorem dX10_comesInAll_24 : decode cX10_comesInAll 24 = .ok (.goto (-20), 3) := by decide +kernel
theorem dX10_comesInAll_27 : decode cX10_comesInAll 27 = .ok (.iload_n 1, 1) := by decide +kernel
theorem dX10_comesInAll_28 : decode cX10_comesInAll 28 = .ok (.ireturn, 1) := by decide +kernel
theorem dX10_standingAt_0 : decode cX10_standingAt 0 = .ok (.iload_n 1, 1) := by decide +kernel
theorem dX10_standingAt_1 : decode cX10_standingAt 1 = .ok (.ifCond .lt 21, 3) := by decide +kernel
theorem dX10_standingAt_4 : decode cX10_standingAt 4 = .ok (.iload_n 1, 1) := by decide +kernel
theorem dX10_standingAt_5 : decode cX10_standingAt 5 = .ok (.aload_n 0, 1) := by decide +kernel
theorem dX10_standingAt_6 : decode cX10_standingAt 6 = .ok (.getfield 48, 3) := by decide +kernel
theorem dX10_standingAt_9 : decode cX10_standingAt 9 = .ok (.arraylength, 1) := by decide +kernel
theorem dX10_standingAt_10 : decode cX10_standingAt 10 = .ok (.if_icmp .ge 12, 3) := by decide +kernel
theorem dX10_standingAt_13 : decode cX10_standingAt 13 = .ok (.aload_n 0, 1) := by decide +kernel
theorem dX10_standingAt_14 : decode cX10_standingAt 14 = .ok (.getfield 48, 3) := by decide +kernel
theorem dX10_standingAt_17 : decode cX10_standingAt 17 = .ok (.iload_n 1, 1) := by decide +kernel
theorem dX10_standingAt_18 : decode cX10_standingAt 18 = .ok (.iaload, 1) := by decide +kernel
theorem dX10_standingAt_19 : decode cX10_standingAt 19 = .ok (.goto 4, 3) := by decide +kernel
theorem dX10_standingAt_22 : decode cX10_standingAt 22 = .ok (.iconst 0, 1) := by decide +kernel
theorem dX10_standingAt_23 : decode cX10_standingAt 23 = .ok (.ireturn, 1) := by decide +kernel
theorem dX10_standingInAll_0 : decode cX10_standingInAll 0 = .ok (.iconst 0, 1) := by decide +kernel
theorem dX10_standingInAll_1 : decode cX10_standingInAll 1 = .ok (.istore_n 1, 1) := by decide +kernel
theorem dX10_standingInAll_2 : decode cX10_standingInAll 2 = .ok (.aload_n 0, 1) := by decide +kernel
theorem dX10_standingInAll_3 : decode cX10_standingInAll 3 = .ok (.getfield 48, 3) := by decide +kernel
theorem dX10_standingInAll_6 : decode cX10_standingInAll 6 = .ok (.astore_n 2, 1) := by decide +kernel
theorem dX10_standingInAll_7 : decode cX10_standingInAll 7 = .ok (.aload_n 2, 1) := by decide +kernel
theorem dX10_standingInAll_8 : decode cX10_standingInAll 8 = .ok (.arraylength, 1) := by decide +kernel
theorem dX10_standingInAll_9 : decode cX10_standingInAll 9 = .ok (.istore_n 3, 1) := by decide +kernel
theorem dX10_standingInAll_10 : decode cX10_standingInAll 10 = .ok (.iconst 0, 1) := by decide +kernel
theorem dX10_standingInAll_11 : decode cX10_standingInAll 11 = .ok (.istore 4, 2) := by decide +kernel
theorem dX10_standingInAll_13 : decode cX10_standingInAll 13 = .ok (.iload 4, 2) := by decide +kernel
theorem dX10_standingInAll_15 : decode cX10_standingInAll 15 = .ok (.iload_n 3, 1) := by decide +kernel
theorem dX10_standingInAll_16 : decode cX10_standingInAll 16 = .ok (.if_icmp .ge 20, 3) := by decide +kernel
theorem dX10_standingInAll_19 : decode cX10_standingInAll 19 = .ok (.aload_n 2, 1) := by decide +kernel
theorem dX10_standingInAll_20 : decode cX10_standingInAll 20 = .ok (.iload 4, 2) := by decide +kernel
theorem dX10_standingInAll_22 : decode cX10_standingInAll 22 = .ok (.iaload, 1) := by decide +kernel
theorem dX10_standingInAll_23 : decode cX10_standingInAll 23 = .ok (.istore 5, 2) := by decide +kernel
theorem dX10_standingInAll_25 : decode cX10_standingInAll 25 = .ok (.iload_n 1, 1) := by decide +kernel
theorem dX10_standingInAll_26 : decode cX10_standingInAll 26 = .ok (.iload 5, 2) := by decide +kernel
theorem dX10_standingInAll_28 : decode cX10_standingInAll 28 = .ok (.iadd, 1) := by decide +kernel
theorem dX10_standingInAll_29 : decode cX10_standingInAll 29 = .ok (.istore_n 1, 1) := by decide +kernel
theorem dX10_standingInAll_30 : decode cX10_standingInAll 30 = .ok (.iinc 4 1, 3) := by decide +kernel
theorem dX10_standingInAll_33 : decode cX10_standingInAll 33 = .ok (.goto (-20), 3) := by decide +kernel
theorem dX10_standingInAll_36 : decode cX10_standingInAll 36 = .ok (.iload_n 1, 1) := by decide +kernel
theorem dX10_standingInAll_37 : decode cX10_standingInAll 37 = .ok (.ireturn, 1) := by decide +kernel
theorem dX10_whoStands_0 : decode cX10_whoStands 0 = .ok (.aload_n 0, 1) := by decide +kernel
theorem dX10_whoStands_1 : decode cX10_whoStands 1 = .ok (.getfield 51, 3) := by decide +kernel
theorem dX10_whoStands_4 : decode cX10_whoStands 4 = .ok (.iload_n 1, 1) := by decide +kernel
theorem dX10_whoStands_5 : decode cX10_whoStands 5 = .ok (.bipush 12, 2) := by decide +kernel
theorem dX10_whoStands_7 : decode cX10_whoStands 7 = .ok (.imul, 1) := by decide +kernel
theorem dX10_whoStands_8 : decode cX10_whoStands 8 = .ok (.iload_n 2, 1) := by decide +kernel
theorem dX10_whoStands_9 : decode cX10_whoStands 9 = .ok (.iadd, 1) := by decide +kernel
theorem dX10_whoStands_10 : decode cX10_whoStands 10 = .ok (.invokestatic 89, 3) := by decide +kernel
theorem dX10_whoStands_13 : decode cX10_whoStands 13 = .ok (.ireturn, 1) := by decide +kernel
theorem dX10_sinceStands_0 : decode cX10_sinceStands 0 = .ok (.iload_n 1, 1) := by decide +kernel
theorem dX10_sinceStands_1 : decode cX10_sinceStands 1 = .ok (.bipush 12, 2) := by decide +kernel
theorem dX10_sinceStands_3 : decode cX10_sinceStands 3 = .ok (.imul, 1) := by decide +kernel
theorem dX10_sinceStands_4 : decode cX10_sinceStands 4 = .ok (.iload_n 2, 1) := by decide +kernel
theorem dX10_sinceStands_5 : decode cX10_sinceStands 5 = .ok (.iadd, 1) := by decide +kernel
theorem dX10_sinceStands_6 : decode cX10_sinceStands 6 = .ok (.istore_n 3, 1) := by decide +kernel
theorem dX10_sinceStands_7 : decode cX10_sinceStands 7 = .ok (.aload_n 0, 1) := by decide +kernel
theorem dX10_sinceStands_8 : decode cX10_sinceStands 8 = .ok (.getfield 31, 3) := by decide +kernel
theorem dX10_sinceStands_11 : decode cX10_sinceStands 11 = .ok (.aload_n 0, 1) := by decide +kernel
theorem dX10_sinceStands_12 : decode cX10_sinceStands 12 = .ok (.aload_n 0, 1) := by decide +kernel
theorem dX10_sinceStands_13 : decode cX10_sinceStands 13 = .ok (.getfield 51, 3) := by decide +kernel
theorem dX10_sinceStands_16 : decode cX10_sinceStands 16 = .ok (.iload_n 3, 1) := by decide +kernel
theorem dX10_sinceStands_17 : decode cX10_sinceStands 17 = .ok (.invokestatic 89, 3) := by decide +kernel
theorem dX10_sinceStands_20 : decode cX10_sinceStands 20 = .ok (.iconst 3, 1) := by decide +kernel
theorem dX10_sinceStands_21 : decode cX10_sinceStands 21 = .ok (.invokevirtual 93, 3) := by decide +kernel
theorem dX10_sinceStands_24 : decode cX10_sinceStands 24 = .ok (.iadd, 1) := by decide +kernel
theorem dX10_sinceStands_25 : decode cX10_sinceStands 25 = .ok (.aload_n 0, 1) := by decide +kernel
theorem dX10_sinceStands_26 : decode cX10_sinceStands 26 = .ok (.getfield 54, 3) := by decide +kernel
theorem dX10_sinceStands_29 : decode cX10_sinceStands 29 = .ok (.iload_n 3, 1) := by decide +kernel
theorem dX10_sinceStands_30 : decode cX10_sinceStands 30 = .ok (.invokestatic 89, 3) := by decide +kernel
theorem dX10_sinceStands_33 : decode cX10_sinceStands 33 = .ok (.isub, 1) := by decide +kernel
theorem dX10_sinceStands_34 : decode cX10_sinceStands 34 = .ok (.ireturn, 1) := by decide +kernel
theorem dX10_gain_0 : decode cX10_gain 0 = .ok (.aload_n 0, 1) := by decide +kernel
theorem dX10_gain_1 : decode cX10_gain 1 = .ok (.getfield 63, 3) := by decide +kernel
theorem dX10_gain_4 : decode cX10_gain 4 = .ok (.aload_n 0, 1) := by decide +kernel
theorem dX10_gain_5 : decode cX10_gain 5 = .ok (.getfield 57, 3) := by decide +kernel
theorem dX10_gain_8 : decode cX10_gain 8 = .ok (.isub, 1) := by decide +kernel
theorem dX10_gain_9 : decode cX10_gain 9 = .ok (.ireturn, 1) := by decide +kernel
theorem dX10_figureOf_0 : decode cX10_figureOf 0 = .ok (.iload_n 1, 1) := by decide +kernel
theorem dX10_figureOf_1 : decode cX10_figureOf 1 = .ok (.tableswitch 51 0 3 #[31, 36, 41, 46], 31) := by decide +kernel
theorem dX10_figureOf_32 : decode cX10_figureOf 32 = .ok (.aload_n 0, 1) := by decide +kernel
theorem dX10_figureOf_33 : decode cX10_figureOf 33 = .ok (.getfield 57, 3) := by decide +kernel
theorem dX10_figureOf_36 : decode cX10_figureOf 36 = .ok (.ireturn, 1) := by decide +kernel
theorem dX10_figureOf_37 : decode cX10_figureOf 37 = .ok (.aload_n 0, 1) := by decide +kernel
theorem dX10_figureOf_38 : decode cX10_figureOf 38 = .ok (.getfield 60, 3) := by decide +kernel
theorem dX10_figureOf_41 : decode cX10_figureOf 41 = .ok (.ireturn, 1) := by decide +kernel
theorem dX10_figureOf_42 : decode cX10_figureOf 42 = .ok (.aload_n 0, 1) := by decide +kernel
theorem dX10_figureOf_43 : decode cX10_figureOf 43 = .ok (.getfield 63, 3) := by decide +kernel
theorem dX10_figureOf_46 : decode cX10_figureOf 46 = .ok (.ireturn, 1) := by decide +kernel
theorem dX10_figureOf_47 : decode cX10_figureOf 47 = .ok (.aload_n 0, 1) := by decide +kernel
theorem dX10_figureOf_48 : decode cX10_figureOf 48 = .ok (.getfield 66, 3) := by decide +kernel
theorem dX10_figureOf_51 : decode cX10_figureOf 51 = .ok (.ireturn, 1) := by decide +kernel
theorem dX10_figureOf_52 : decode cX10_figureOf 52 = .ok (.iconst (-1), 1) := by decide +kernel
theorem dX10_figureOf_53 : decode cX10_figureOf 53 = .ok (.ireturn, 1) := by decide +kernel
theorem dX10_takeLandings_0 : decode cX10_takeLandings 0 = .ok (.iload_n 1, 1) := by decide +kernel
theorem dX10_takeLandings_1 : decode cX10_takeLandings 1 = .ok (.iconst 2, 1) := by decide +kernel
theorem dX10_takeLandings_2 : decode cX10_takeLandings 2 = .ok (.if_icmp .lt 36, 3) := by decide +kernel
theorem dX10_takeLandings_5 : decode cX10_takeLandings 5 = .ok (.iload_n 1, 1) := by decide +kernel
theorem dX10_takeLandings_6 : decode cX10_takeLandings 6 = .ok (.iconst 4, 1) := by decide +kernel
theorem dX10_takeLandings_7 : decode cX10_takeLandings 7 = .ok (.if_icmp .gt 31, 3) := by decide +kernel
theorem dX10_takeLandings_10 : decode cX10_takeLandings 10 = .ok (.aload_n 0, 1) := by decide +kernel
theorem dX10_takeLandings_11 : decode cX10_takeLandings 11 = .ok (.invokevirtual 97, 3) := by decide +kernel
theorem dX10_takeLandings_14 : decode cX10_takeLandings 14 = .ok (.ifCond .gt 24, 3) := by decide +kernel
theorem dX10_takeLandings_17 : decode cX10_takeLandings 17 = .ok (.aload_n 0, 1) := by decide +kernel
theorem dX10_takeLandings_18 : decode cX10_takeLandings 18 = .ok (.getfield 37, 3) := by decide +kernel
theorem dX10_takeLandings_21 : decode cX10_takeLandings 21 = .ok (.getfield 101, 3) := by decide +kernel
theorem dX10_takeLandings_24 : decode cX10_takeLandings 24 = .ok (.ifCond .gt 14, 3) := by decide +kernel
theorem dX10_takeLandings_27 : decode cX10_takeLandings 27 = .ok (.aload_n 0, 1) := by decide +kernel
theorem dX10_takeLandings_28 : decode cX10_takeLandings 28 = .ok (.getfield 37, 3) := by decide +kernel
theorem dX10_takeLandings_31 : decode cX10_takeLandings 31 = .ok (.getfield 104, 3) := by decide +kernel
theorem dX10_takeLandings_34 : decode cX10_takeLandings 34 = .ok (.iload_n 1, 1) := by decide +kernel
theorem dX10_takeLandings_35 : decode cX10_takeLandings 35 = .ok (.if_icmp .lt 5, 3) := by decide +kernel
theorem dX10_takeLandings_38 : decode cX10_takeLandings 38 = .ok (.iconst 0, 1) := by decide +kernel
theorem dX10_takeLandings_39 : decode cX10_takeLandings 39 = .ok (.ireturn, 1) := by decide +kernel
theorem dX10_takeLandings_40 : decode cX10_takeLandings 40 = .ok (.iconst 0, 1) := by decide +kernel
theorem dX10_takeLandings_41 : decode cX10_takeLandings 41 = .ok (.istore_n 2, 1) := by decide +kernel
theorem dX10_takeLandings_42 : decode cX10_takeLandings 42 = .ok (.iload_n 2, 1) := by decide +kernel
theorem dX10_takeLandings_43 : decode cX10_takeLandings 43 = .ok (.aload_n 0, 1) := by decide +kernel
theorem dX10_takeLandings_44 : decode cX10_takeLandings 44 = .ok (.getfield 19, 3) := by decide +kernel
theorem dX10_takeLandings_47 : decode cX10_takeLandings 47 = .ok (.if_icmp .ge 31, 3) := by decide +kernel
theorem dX10_takeLandings_50 : decode cX10_takeLandings 50 = .ok (.aload_n 0, 1) := by decide +kernel
theorem dX10_takeLandings_51 : decode cX10_takeLandings 51 = .ok (.iload_n 2, 1) := by decide +kernel
theorem dX10_takeLandings_52 : decode cX10_takeLandings 52 = .ok (.iconst 0, 1) := by decide +kernel
theorem dX10_takeLandings_53 : decode cX10_takeLandings 53 = .ok (.invokevirtual 93, 3) := by decide +kernel
theorem dX10_takeLandings_56 : decode cX10_takeLandings 56 = .ok (.iload_n 1, 1) := by decide +kernel
theorem dX10_takeLandings_57 : decode cX10_takeLandings 57 = .ok (.if_icmp .ge 13, 3) := by decide +kernel
theorem dX10_takeLandings_60 : decode cX10_takeLandings 60 = .ok (.aload_n 0, 1) := by decide +kernel
theorem dX10_takeLandings_61 : decode cX10_takeLandings 61 = .ok (.iload_n 2, 1) := by decide +kernel
theorem dX10_takeLandings_62 : decode cX10_takeLandings 62 = .ok (.iconst 1, 1) := by decide +kernel
theorem dX10_takeLandings_63 : decode cX10_takeLandings 63 = .ok (.invokevirtual 93, 3) := by decide +kernel
theorem dX10_takeLandings_66 : decode cX10_takeLandings 66 = .ok (.iload_n 1, 1) := by decide +kernel
theorem dX10_takeLandings_67 : decode cX10_takeLandings 67 = .ok (.if_icmp .lt 5, 3) := by decide +kernel
theorem dX10_takeLandings_70 : decode cX10_takeLandings 70 = .ok (.iconst 0, 1) := by decide +kernel
theorem dX10_takeLandings_71 : decode cX10_takeLandings 71 = .ok (.ireturn, 1) := by decide +kernel
theorem dX10_takeLandings_72 : decode cX10_takeLandings 72 = .ok (.iinc 2 1, 3) := by decide +kernel
theorem dX10_takeLandings_75 : decode cX10_takeLandings 75 = .ok (.goto (-33), 3) := by decide +kernel
theorem dX10_takeLandings_78 : decode cX10_takeLandings 78 = .ok (.aload_n 0, 1) := by decide +kernel
theorem dX10_takeLandings_79 : decode cX10_takeLandings 79 = .ok (.iload_n 1, 1) := by decide +kernel
theorem dX10_takeLandings_80 : decode cX10_takeLandings 80 = .ok (.putfield 9, 3) := by decide +kernel
theorem dX10_takeLandings_83 : decode cX10_takeLandings 83 = .ok (.iconst 1, 1) := by decide +kernel
theorem dX10_takeLandings_84 : decode cX10_takeLandings 84 = .ok (.ireturn, 1) := by decide +kernel
theorem dX10_takeWay_0 : decode cX10_takeWay 0 = .ok (.aload_n 0, 1) := by decide +kernel
theorem dX10_takeWay_1 : decode cX10_takeWay 1 = .ok (.iload_n 1, 1) := by decide +kernel
theorem dX10_takeWay_2 : decode cX10_takeWay 2 = .ok (.invokevirtual 107, 3) := by decide +kernel
theorem dX10_takeWay_5 : decode cX10_takeWay 5 = .ok (.ifCond .eq 27, 3) := by decide +kernel
theorem dX10_takeWay_8 : decode cX10_takeWay 8 = .ok (.aload_n 0, 1) := by decide +kernel
theorem dX10_takeWay_9 : decode cX10_takeWay 9 = .ok (.iload_n 2, 1) := by decide +kernel
theorem dX10_takeWay_10 : decode cX10_takeWay 10 = .ok (.invokevirtual 107, 3) := by decide +kernel
theorem dX10_takeWay_13 : decode cX10_takeWay 13 = .ok (.ifCond .eq 19, 3) := by decide +kernel
theorem dX10_takeWay_16 : decode cX10_takeWay 16 = .ok (.iload_n 1, 1) := by decide +kernel
theorem dX10_takeWay_17 : decode cX10_takeWay 17 = .ok (.iload_n 2, 1) := by decide +kernel
theorem dX10_takeWay_18 : decode cX10_takeWay 18 = .ok (.if_icmp .eq 14, 3) := by decide +kernel
theorem dX10_takeWay_21 : decode cX10_takeWay 21 = .ok (.iload_n 3, 1) := by decide +kernel
theorem dX10_takeWay_22 : decode cX10_takeWay 22 = .ok (.iconst 1, 1) := by decide +kernel
theorem dX10_takeWay_23 : decode cX10_takeWay 23 = .ok (.if_icmp .lt 9, 3) := by decide +kernel
theorem dX10_takeWay_26 : decode cX10_takeWay 26 = .ok (.iload_n 3, 1) := by decide +kernel
theorem dX10_takeWay_27 : decode cX10_takeWay 27 = .ok (.bipush 9, 2) := by decide +kernel
theorem dX10_takeWay_29 : decode cX10_takeWay 29 = .ok (.if_icmp .le 5, 3) := by decide +kernel
theorem dX10_takeWay_32 : decode cX10_takeWay 32 = .ok (.iconst 0, 1) := by decide +kernel
theorem dX10_takeWay_33 : decode cX10_takeWay 33 = .ok (.ireturn, 1) := by decide +kernel
theorem dX10_takeWay_34 : decode cX10_takeWay 34 = .ok (.aload_n 0, 1) := by decide +kernel
theorem dX10_takeWay_35 : decode cX10_takeWay 35 = .ok (.getfield 15, 3) := by decide +kernel
theorem dX10_takeWay_38 : decode cX10_takeWay 38 = .ok (.iload_n 1, 1) := by decide +kernel
theorem dX10_takeWay_39 : decode cX10_takeWay 39 = .ok (.iconst 4, 1) := by decide +kernel
theorem dX10_takeWay_40 : decode cX10_takeWay 40 = .ok (.imul, 1) := by decide +kernel
theorem dX10_takeWay_41 : decode cX10_takeWay 41 = .ok (.iload_n 2, 1) := by decide +kernel
theorem dX10_takeWay_42 : decode cX10_takeWay 42 = .ok (.iadd, 1) := by decide +kernel
theorem dX10_takeWay_43 : decode cX10_takeWay 43 = .ok (.iload_n 3, 1) := by decide +kernel
theorem dX10_takeWay_44 : decode cX10_takeWay 44 = .ok (.invokestatic 111, 3) := by decide +kernel
theorem dX10_takeWay_47 : decode cX10_takeWay 47 = .ok (.aload_n 0, 1) := by decide +kernel
theorem dX10_takeWay_48 : decode cX10_takeWay 48 = .ok (.getfield 15, 3) := by decide +kernel
theorem dX10_takeWay_51 : decode cX10_takeWay 51 = .ok (.iload_n 2, 1) := by decide +kernel
theorem dX10_takeWay_52 : decode cX10_takeWay 52 = .ok (.iconst 4, 1) := by decide +kernel
theorem dX10_takeWay_53 : decode cX10_takeWay 53 = .ok (.imul, 1) := by decide +kernel
theorem dX10_takeWay_54 : decode cX10_takeWay 54 = .ok (.iload_n 1, 1) := by decide +kernel
theorem dX10_takeWay_55 : decode cX10_takeWay 55 = .ok (.iadd, 1) := by decide +kernel
theorem dX10_takeWay_56 : decode cX10_takeWay 56 = .ok (.iload_n 3, 1) := by decide +kernel
theorem dX10_takeWay_57 : decode cX10_takeWay 57 = .ok (.invokestatic 111, 3) := by decide +kernel
theorem dX10_takeWay_60 : decode cX10_takeWay 60 = .ok (.iconst 1, 1) := by decide +kernel
theorem dX10_takeWay_61 : decode cX10_takeWay 61 = .ok (.ireturn, 1) := by decide +kernel
theorem dX10_takeSort_0 : decode cX10_takeSort 0 = .ok (.aload_n 0, 1) := by decide +kernel
theorem dX10_takeSort_1 : decode cX10_takeSort 1 = .ok (.getfield 19, 3) := by decide +kernel
theorem dX10_takeSort_4 : decode cX10_takeSort 4 = .ok (.iconst 5, 1) := by decide +kernel
theorem dX10_takeSort_5 : decode cX10_takeSort 5 = .ok (.if_icmp .ge 24, 3) := by decide +kernel
theorem dX10_takeSort_8 : decode cX10_takeSort 8 = .ok (.aload_n 0, 1) := by decide +kernel
theorem dX10_takeSort_9 : decode cX10_takeSort 9 = .ok (.iload_n 1, 1) := by decide +kernel
theorem dX10_takeSort_10 : decode cX10_takeSort 10 = .ok (.invokevirtual 107, 3) := by decide +kernel
theorem dX10_takeSort_13 : decode cX10_takeSort 13 = .ok (.ifCond .eq 16, 3) := by decide +kernel
theorem dX10_takeSort_16 : decode cX10_takeSort 16 = .ok (.aload_n 0, 1) := by decide +kernel
theorem dX10_takeSort_17 : decode cX10_takeSort 17 = .ok (.iload_n 2, 1) := by decide +kernel
theorem dX10_takeSort_18 : decode cX10_takeSort 18 = .ok (.invokevirtual 107, 3) := by decide +kernel
theorem dX10_takeSort_21 : decode cX10_takeSort 21 = .ok (.ifCond .eq 8, 3) := by decide +kernel
theorem dX10_takeSort_24 : decode cX10_takeSort 24 = .ok (.iload_n 1, 1) := by decide +kernel
theorem dX10_takeSort_25 : decode cX10_takeSort 25 = .ok (.iload_n 2, 1) := by decide +kernel
theorem dX10_takeSort_26 : decode cX10_takeSort 26 = .ok (.if_icmp .ne 5, 3) := by decide +kernel
theorem dX10_takeSort_29 : decode cX10_takeSort 29 = .ok (.iconst 0, 1) := by decide +kernel
theorem dX10_takeSort_30 : decode cX10_takeSort 30 = .ok (.ireturn, 1) := by decide +kernel
theorem dX10_takeSort_31 : decode cX10_takeSort 31 = .ok (.iload_n 3, 1) := by decide +kernel
theorem dX10_takeSort_32 : decode cX10_takeSort 32 = .ok (.ifCond .lt 34, 3) := by decide +kernel
theorem dX10_takeSort_35 : decode cX10_takeSort 35 = .ok (.iload_n 3, 1) := by decide +kernel
theorem dX10_takeSort_36 : decode cX10_takeSort 36 = .ok (.bipush 100, 2) := by decide +kernel
theorem dX10_takeSort_38 : decode cX10_takeSort 38 = .ok (.if_icmp .gt 28, 3) := by decide +kernel
theorem dX10_takeSort_41 : decode cX10_takeSort 41 = .ok (.iload 4, 2) := by decide +kernel
theorem dX10_takeSort_43 : decode cX10_takeSort 43 = .ok (.iconst 1, 1) := by decide +kernel
theorem dX10_takeSort_44 : decode cX10_takeSort 44 = .ok (.if_icmp .lt 22, 3) := by decide +kernel
theorem dX10_takeSort_47 : decode cX10_takeSort 47 = .ok (.iload 4, 2) := by decide +kernel
theorem dX10_takeSort_49 : decode cX10_takeSort 49 = .ok (.bipush 20, 2) := by decide +kernel
theorem dX10_takeSort_51 : decode cX10_takeSort 51 = .ok (.if_icmp .gt 15, 3) := by decide +kernel
theorem dX10_takeSort_54 : decode cX10_takeSort 54 = .ok (.iload 5, 2) := by decide +kernel
theorem dX10_takeSort_56 : decode cX10_takeSort 56 = .ok (.ifCond .lt 10, 3) := by decide +kernel
theorem dX10_takeSort_59 : decode cX10_takeSort 59 = .ok (.iload 5, 2) := by decide +kernel
theorem dX10_takeSort_61 : decode cX10_takeSort 61 = .ok (.bipush 99, 2) := by decide +kernel
theorem dX10_takeSort_63 : decode cX10_takeSort 63 = .ok (.if_icmp .le 5, 3) := by decide +kernel
theorem dX10_takeSort_66 : decode cX10_takeSort 66 = .ok (.iconst 0, 1) := by decide +kernel
theorem dX10_takeSort_67 : decode cX10_takeSort 67 = .ok (.ireturn, 1) := by decide +kernel
theorem dX10_takeSort_68 : decode cX10_takeSort 68 = .ok (.aload_n 0, 1) := by decide +kernel
theorem dX10_takeSort_69 : decode cX10_takeSort 69 = .ok (.aload_n 0, 1) := by decide +kernel
theorem dX10_takeSort_70 : decode cX10_takeSort 70 = .ok (.getfield 19, 3) := by decide +kernel
theorem dX10_takeSort_73 : decode cX10_takeSort 73 = .ok (.iconst 0, 1) := by decide +kernel
theorem dX10_takeSort_74 : decode cX10_takeSort 74 = .ok (.iload_n 1, 1) := by decide +kernel
theorem dX10_takeSort_75 : decode cX10_takeSort 75 = .ok (.invokevirtual 115, 3) := by decide +kernel
theorem dX10_takeSort_78 : decode cX10_takeSort 78 = .ok (.aload_n 0, 1) := by decide +kernel
theorem dX10_takeSort_79 : decode cX10_takeSort 79 = .ok (.aload_n 0, 1) := by decide +kernel
theorem dX10_takeSort_80 : decode cX10_takeSort 80 = .ok (.getfield 19, 3) := by decide +kernel
theorem dX10_takeSort_83 : decode cX10_takeSort 83 = .ok (.iconst 1, 1) := by decide +kernel
theorem dX10_takeSort_84 : decode cX10_takeSort 84 = .ok (.iload_n 2, 1) := by decide +kernel
theorem dX10_takeSort_85 : decode cX10_takeSort 85 = .ok (.invokevirtual 115, 3) := by decide +kernel
theorem dX10_takeSort_88 : decode cX10_takeSort 88 = .ok (.aload_n 0, 1) := by decide +kernel
theorem dX10_takeSort_89 : decode cX10_takeSort 89 = .ok (.aload_n 0, 1) := by decide +kernel
theorem dX10_takeSort_90 : decode cX10_takeSort 90 = .ok (.getfield 19, 3) := by decide +kernel
theorem dX10_takeSort_93 : decode cX10_takeSort 93 = .ok (.iconst 2, 1) := by decide +kernel
theorem dX10_takeSort_94 : decode cX10_takeSort 94 = .ok (.iload_n 3, 1) := by decide +kernel
theorem dX10_takeSort_95 : decode cX10_takeSort 95 = .ok (.invokevirtual 115, 3) := by decide +kernel
theorem dX10_takeSort_98 : decode cX10_takeSort 98 = .ok (.aload_n 0, 1) := by decide +kernel
theorem dX10_takeSort_99 : decode cX10_takeSort 99 = .ok (.aload_n 0, 1) := by decide +kernel
theorem dX10_takeSort_100 : decode cX10_takeSort 100 = .ok (.getfield 19, 3) := by decide +kernel
theorem dX10_takeSort_103 : decode cX10_takeSort 103 = .ok (.iconst 3, 1) := by decide +kernel
theorem dX10_takeSort_104 : decode cX10_takeSort 104 = .ok (.iload 4, 2) := by decide +kernel
theorem dX10_takeSort_106 : decode cX10_takeSort 106 = .ok (.invokevirtual 115, 3) := by decide +kernel
theorem dX10_takeSort_109 : decode cX10_takeSort 109 = .ok (.aload_n 0, 1) := by decide +kernel
theorem dX10_takeSort_110 : decode cX10_takeSort 110 = .ok (.aload_n 0, 1) := by decide +kernel
theorem dX10_takeSort_111 : decode cX10_takeSort 111 = .ok (.getfield 19, 3) := by decide +kernel
theorem dX10_takeSort_114 : decode cX10_takeSort 114 = .ok (.iconst 4, 1) := by decide +kernel
theorem dX10_takeSort_115 : decode cX10_takeSort 115 = .ok (.iload 5, 2) := by decide +kernel
theorem dX10_takeSort_117 : decode cX10_takeSort 117 = .ok (.invokevirtual 115, 3) := by decide +kernel
theorem dX10_takeSort_120 : decode cX10_takeSort 120 = .ok (.aload_n 0, 1) := by decide +kernel
theorem dX10_takeSort_121 : decode cX10_takeSort 121 = .ok (.dup, 1) := by decide +kernel
theorem dX10_takeSort_122 : decode cX10_takeSort 122 = .ok (.getfield 19, 3) := by decide +kernel
theorem dX10_takeSort_125 : decode cX10_takeSort 125 = .ok (.iconst 1, 1) := by decide +kernel
theorem dX10_takeSort_126 : decode cX10_takeSort 126 = .ok (.iadd, 1) := by decide +kernel
theorem dX10_takeSort_127 : decode cX10_takeSort 127 = .ok (.putfield 19, 3) := by decide +kernel
theorem dX10_takeSort_130 : decode cX10_takeSort 130 = .ok (.iconst 1, 1) := by decide +kernel
theorem dX10_takeSort_131 : decode cX10_takeSort 131 = .ok (.ireturn, 1) := by decide +kernel
theorem dX10_changeSort_0 : decode cX10_changeSort 0 = .ok (.aload_n 0, 1) := by decide +kernel
theorem dX10_changeSort_1 : decode cX10_changeSort 1 = .ok (.getfield 22, 3) := by decide +kernel
theorem dX10_changeSort_4 : decode cX10_changeSort 4 = .ok (.iload_n 1, 1) := by decide +kernel
theorem dX10_changeSort_5 : decode cX10_changeSort 5 = .ok (.iconst 5, 1) := by decide +kernel
theorem dX10_changeSort_6 : decode cX10_changeSort 6 = .ok (.imul, 1) := by decide +kernel
theorem dX10_changeSort_7 : decode cX10_changeSort 7 = .ok (.iload_n 2, 1) := by decide +kernel
theorem dX10_changeSort_8 : decode cX10_changeSort 8 = .ok (.iadd, 1) := by decide +kernel
theorem dX10_changeSort_9 : decode cX10_changeSort 9 = .ok (.iload_n 3, 1) := by decide +kernel
theorem dX10_changeSort_10 : decode cX10_changeSort 10 = .ok (.invokestatic 111, 3) := by decide +kernel
theorem dX10_changeSort_13 : decode cX10_changeSort 13 = .ok (.return_, 1) := by decide +kernel
theorem dX10_takeSeats_0 : decode cX10_takeSeats 0 = .ok (.iload_n 1, 1) := by decide +kernel
theorem dX10_takeSeats_1 : decode cX10_takeSeats 1 = .ok (.iconst 1, 1) := by decide +kernel
theorem dX10_takeSeats_2 : decode cX10_takeSeats 2 = .ok (.if_icmp .lt 20, 3) := by decide +kernel
theorem dX10_takeSeats_5 : decode cX10_takeSeats 5 = .ok (.iload_n 1, 1) := by decide +kernel
theorem dX10_takeSeats_6 : decode cX10_takeSeats 6 = .ok (.bipush 6, 2) := by decide +kernel
theorem dX10_takeSeats_8 : decode cX10_takeSeats 8 = .ok (.if_icmp .gt 14, 3) := by decide +kernel
theorem dX10_takeSeats_11 : decode cX10_takeSeats 11 = .ok (.iload_n 1, 1) := by decide +kernel
theorem dX10_takeSeats_12 : decode cX10_takeSeats 12 = .ok (.aload_n 0, 1) := by decide +kernel
theorem dX10_takeSeats_13 : decode cX10_takeSeats 13 = .ok (.getfield 37, 3) := by decide +kernel
theorem dX10_takeSeats_16 : decode cX10_takeSeats 16 = .ok (.getfield 101, 3) := by decide +kernel
theorem dX10_takeSeats_19 : decode cX10_takeSeats 19 = .ok (.if_icmp .ge 5, 3) := by decide +kernel
theorem dX10_takeSeats_22 : decode cX10_takeSeats 22 = .ok (.iconst 0, 1) := by decide +kernel
theorem dX10_takeSeats_23 : decode cX10_takeSeats 23 = .ok (.ireturn, 1) := by decide +kernel
theorem dX10_takeSeats_24 : decode cX10_takeSeats 24 = .ok (.aload_n 0, 1) := by decide +kernel
theorem dX10_takeSeats_25 : decode cX10_takeSeats 25 = .ok (.iload_n 1, 1) := by decide +kernel
theorem dX10_takeSeats_26 : decode cX10_takeSeats 26 = .ok (.putfield 25, 3) := by decide +kernel
theorem dX10_takeSeats_29 : decode cX10_takeSeats 29 = .ok (.iconst 1, 1) := by decide +kernel
theorem dX10_takeSeats_30 : decode cX10_takeSeats 30 = .ok (.ireturn, 1) := by decide +kernel
theorem dX10_pass_0 : decode cX10_pass 0 = .ok (.iconst 0, 1) := by decide +kernel
theorem dX10_pass_1 : decode cX10_pass 1 = .ok (.istore_n 2, 1) := by decide +kernel
theorem dX10_pass_2 : decode cX10_pass 2 = .ok (.iload_n 2, 1) := by decide +kernel
theorem dX10_pass_3 : decode cX10_pass 3 = .ok (.iload_n 1, 1) := by decide +kernel
theorem dX10_pass_4 : decode cX10_pass 4 = .ok (.if_icmp .ge 40, 3) := by decide +kernel
theorem dX10_pass_7 : decode cX10_pass 7 = .ok (.aload_n 0, 1) := by decide +kernel
theorem dX10_pass_8 : decode cX10_pass 8 = .ok (.invokevirtual 119, 3) := by decide +kernel
theorem dX10_pass_11 : decode cX10_pass 11 = .ok (.aload_n 0, 1) := by decide +kernel
theorem dX10_pass_12 : decode cX10_pass 12 = .ok (.aload_n 0, 1) := by decide +kernel
theorem dX10_pass_13 : decode cX10_pass 13 = .ok (.getfield 37, 3) := by decide +kernel
theorem dX10_pass_16 : decode cX10_pass 16 = .ok (.invokevirtual 122, 3) := by decide +kernel
theorem dX10_pass_19 : decode cX10_pass 19 = .ok (.aload_n 0, 1) := by decide +kernel
theorem dX10_pass_20 : decode cX10_pass 20 = .ok (.getfield 44, 3) := by decide +kernel
theorem dX10_pass_23 : decode cX10_pass 23 = .ok (.ifCond .eq 11, 3) := by decide +kernel
theorem dX10_pass_26 : decode cX10_pass 26 = .ok (.aload_n 0, 1) := by decide +kernel
theorem dX10_pass_27 : decode cX10_pass 27 = .ok (.aload_n 0, 1) := by decide +kernel
theorem dX10_pass_28 : decode cX10_pass 28 = .ok (.getfield 41, 3) := by decide +kernel
theorem dX10_pass_31 : decode cX10_pass 31 = .ok (.invokevirtual 122, 3) := by decide +kernel
theorem dX10_pass_34 : decode cX10_pass 34 = .ok (.aload_n 0, 1) := by decide +kernel
theorem dX10_pass_35 : decode cX10_pass 35 = .ok (.invokevirtual 125, 3) := by decide +kernel
theorem dX10_pass_38 : decode cX10_pass 38 = .ok (.iinc 2 1, 3) := by decide +kernel
theorem dX10_pass_41 : decode cX10_pass 41 = .ok (.goto (-39), 3) := by decide +kernel
theorem dX10_pass_44 : decode cX10_pass 44 = .ok (.return_, 1) := by decide +kernel
theorem dX10_bring_0 : decode cX10_bring 0 = .ok (.iconst 0, 1) := by decide +kernel
theorem dX10_bring_1 : decode cX10_bring 1 = .ok (.istore_n 1, 1) := by decide +kernel
theorem dX10_bring_2 : decode cX10_bring 2 = .ok (.iload_n 1, 1) := by decide +kernel
theorem dX10_bring_3 : decode cX10_bring 3 = .ok (.aload_n 0, 1) := by decide +kernel
theorem dX10_bring_4 : decode cX10_bring 4 = .ok (.getfield 19, 3) := by decide +kernel
theorem dX10_bring_7 : decode cX10_bring 7 = .ok (.if_icmp .ge 57, 3) := by decide +kernel
theorem dX10_bring_10 : decode cX10_bring 10 = .ok (.aload_n 0, 1) := by decide +kernel
theorem dX10_bring_11 : decode cX10_bring 11 = .ok (.aload_n 0, 1) := by decide +kernel
theorem dX10_bring_12 : decode cX10_bring 12 = .ok (.getfield 28, 3) := by decide +kernel
theorem dX10_bring_15 : decode cX10_bring 15 = .ok (.ldc 128, 2) := by decide +kernel
theorem dX10_bring_17 : decode cX10_bring 17 = .ok (.imul, 1) := by decide +kernel
theorem dX10_bring_18 : decode cX10_bring 18 = .ok (.sipush 12345, 3) := by decide +kernel
theorem dX10_bring_21 : decode cX10_bring 21 = .ok (.iadd, 1) := by decide +kernel
theorem dX10_bring_22 : decode cX10_bring 22 = .ok (.putfield 28, 3) := by decide +kernel
theorem dX10_bring_25 : decode cX10_bring 25 = .ok (.aload_n 0, 1) := by decide +kernel
theorem dX10_bring_26 : decode cX10_bring 26 = .ok (.getfield 28, 3) := by decide +kernel
theorem dX10_bring_29 : decode cX10_bring 29 = .ok (.ldc 129, 2) := by decide +kernel
theorem dX10_bring_31 : decode cX10_bring 31 = .ok (.iand, 1) := by decide +kernel
theorem dX10_bring_32 : decode cX10_bring 32 = .ok (.ldc 130, 2) := by decide +kernel
theorem dX10_bring_34 : decode cX10_bring 34 = .ok (.idiv, 1) := by decide +kernel
theorem dX10_bring_35 : decode cX10_bring 35 = .ok (.bipush 100, 2) := by decide +kernel
theorem dX10_bring_37 : decode cX10_bring 37 = .ok (.irem, 1) := by decide +kernel
theorem dX10_bring_38 : decode cX10_bring 38 = .ok (.aload_n 0, 1) := by decide +kernel
theorem dX10_bring_39 : decode cX10_bring 39 = .ok (.iload_n 1, 1) := by decide +kernel
theorem dX10_bring_40 : decode cX10_bring 40 = .ok (.iconst 2, 1) := by decide +kernel
theorem dX10_bring_41 : decode cX10_bring 41 = .ok (.invokevirtual 93, 3) := by decide +kernel
theorem dX10_bring_44 : decode cX10_bring 44 = .ok (.if_icmp .ge 14, 3) := by decide +kernel
theorem dX10_bring_47 : decode cX10_bring 47 = .ok (.aload_n 0, 1) := by decide +kernel
theorem dX10_bring_48 : decode cX10_bring 48 = .ok (.iload_n 1, 1) := by decide +kernel
theorem dX10_bring_49 : decode cX10_bring 49 = .ok (.aload_n 0, 1) := by decide +kernel
theorem dX10_bring_50 : decode cX10_bring 50 = .ok (.iload_n 1, 1) := by decide +kernel
theorem dX10_bring_51 : decode cX10_bring 51 = .ok (.iconst 0, 1) := by decide +kernel
theorem dX10_bring_52 : decode cX10_bring 52 = .ok (.invokevirtual 93, 3) := by decide +kernel
theorem dX10_bring_55 : decode cX10_bring 55 = .ok (.invokevirtual 131, 3) := by decide +kernel
theorem dX10_bring_58 : decode cX10_bring 58 = .ok (.iinc 1 1, 3) := by decide +kernel
theorem dX10_bring_61 : decode cX10_bring 61 = .ok (.goto (-59), 3) := by decide +kernel
theorem dX10_bring_64 : decode cX10_bring 64 = .ok (.aload_n 0, 1) := by decide +kernel
theorem dX10_bring_65 : decode cX10_bring 65 = .ok (.aload_n 0, 1) := by decide +kernel
theorem dX10_bring_66 : decode cX10_bring 66 = .ok (.getfield 37, 3) := by decide +kernel
theorem dX10_bring_69 : decode cX10_bring 69 = .ok (.invokevirtual 135, 3) := by decide +kernel
theorem dX10_bring_72 : decode cX10_bring 72 = .ok (.aload_n 0, 1) := by decide +kernel
theorem dX10_bring_73 : decode cX10_bring 73 = .ok (.getfield 44, 3) := by decide +kernel
theorem dX10_bring_76 : decode cX10_bring 76 = .ok (.ifCond .eq 11, 3) := by decide +kernel
theorem dX10_bring_79 : decode cX10_bring 79 = .ok (.aload_n 0, 1) := by decide +kernel
theorem dX10_bring_80 : decode cX10_bring 80 = .ok (.aload_n 0, 1) := by decide +kernel
theorem dX10_bring_81 : decode cX10_bring 81 = .ok (.getfield 41, 3) := by decide +kernel
theorem dX10_bring_84 : decode cX10_bring 84 = .ok (.invokevirtual 135, 3) := by decide +kernel
theorem dX10_bring_87 : decode cX10_bring 87 = .ok (.aload_n 0, 1) := by decide +kernel
theorem dX10_bring_88 : decode cX10_bring 88 = .ok (.aload_n 0, 1) := by decide +kernel
theorem dX10_bring_89 : decode cX10_bring 89 = .ok (.getfield 37, 3) := by decide +kernel
theorem dX10_bring_92 : decode cX10_bring 92 = .ok (.invokevirtual 138, 3) := by decide +kernel
theorem dX10_bring_95 : decode cX10_bring 95 = .ok (.aload_n 0, 1) := by decide +kernel
theorem dX10_bring_96 : decode cX10_bring 96 = .ok (.getfield 44, 3) := by decide +kernel
theorem dX10_bring_99 : decode cX10_bring 99 = .ok (.ifCond .eq 11, 3) := by decide +kernel
theorem dX10_bring_102 : decode cX10_bring 102 = .ok (.aload_n 0, 1) := by decide +kernel
theorem dX10_bring_103 : decode cX10_bring 103 = .ok (.aload_n 0, 1) := by decide +kernel
theorem dX10_bring_104 : decode cX10_bring 104 = .ok (.getfield 41, 3) := by decide +kernel
theorem dX10_bring_107 : decode cX10_bring 107 = .ok (.invokevirtual 138, 3) := by decide +kernel
theorem dX10_bring_110 : decode cX10_bring 110 = .ok (.return_, 1) := by decide +kernel
theorem dX10_come_0 : decode cX10_come 0 = .ok (.aload_n 0, 1) := by decide +kernel
theorem dX10_come_1 : decode cX10_come 1 = .ok (.iload_n 2, 1) := by decide +kernel
theorem dX10_come_2 : decode cX10_come 2 = .ok (.invokevirtual 141, 3) := by decide +kernel
theorem dX10_come_5 : decode cX10_come 5 = .ok (.istore_n 3, 1) := by decide +kernel
theorem dX10_come_6 : decode cX10_come 6 = .ok (.iload_n 3, 1) := by decide +kernel
theorem dX10_come_7 : decode cX10_come 7 = .ok (.bipush 12, 2) := by decide +kernel
theorem dX10_come_9 : decode cX10_come 9 = .ok (.if_icmp .lt 14, 3) := by decide +kernel
theorem dX10_come_12 : decode cX10_come 12 = .ok (.aload_n 0, 1) := by decide +kernel
theorem dX10_come_13 : decode cX10_come 13 = .ok (.dup, 1) := by decide +kernel
theorem dX10_come_14 : decode cX10_come 14 = .ok (.getfield 60, 3) := by decide +kernel
theorem dX10_come_17 : decode cX10_come 17 = .ok (.iconst 1, 1) := by decide +kernel
theorem dX10_come_18 : decode cX10_come 18 = .ok (.iadd, 1) := by decide +kernel
theorem dX10_come_19 : decode cX10_come 19 = .ok (.putfield 60, 3) := by decide +kernel
theorem dX10_come_22 : decode cX10_come 22 = .ok (.return_, 1) := by decide +kernel
theorem dX10_come_23 : decode cX10_come 23 = .ok (.aload_n 0, 1) := by decide +kernel
theorem dX10_come_24 : decode cX10_come 24 = .ok (.getfield 51, 3) := by decide +kernel
theorem dX10_come_27 : decode cX10_come 27 = .ok (.iload_n 2, 1) := by decide +kernel
theorem dX10_come_28 : decode cX10_come 28 = .ok (.bipush 12, 2) := by decide +kernel
theorem dX10_come_30 : decode cX10_come 30 = .ok (.imul, 1) := by decide +kernel
theorem dX10_come_31 : decode cX10_come 31 = .ok (.iload_n 3, 1) := by decide +kernel
theorem dX10_come_32 : decode cX10_come 32 = .ok (.iadd, 1) := by decide +kernel
theorem dX10_come_33 : decode cX10_come 33 = .ok (.iload_n 1, 1) := by decide +kernel
theorem dX10_come_34 : decode cX10_come 34 = .ok (.invokestatic 111, 3) := by decide +kernel
theorem dX10_come_37 : decode cX10_come 37 = .ok (.aload_n 0, 1) := by decide +kernel
theorem dX10_come_38 : decode cX10_come 38 = .ok (.getfield 54, 3) := by decide +kernel
theorem dX10_come_41 : decode cX10_come 41 = .ok (.iload_n 2, 1) := by decide +kernel
theorem dX10_come_42 : decode cX10_come 42 = .ok (.bipush 12, 2) := by decide +kernel
theorem dX10_come_44 : decode cX10_come 44 = .ok (.imul, 1) := by decide +kernel
theorem dX10_come_45 : decode cX10_come 45 = .ok (.iload_n 3, 1) := by decide +kernel
theorem dX10_come_46 : decode cX10_come 46 = .ok (.iadd, 1) := by decide +kernel
theorem dX10_come_47 : decode cX10_come 47 = .ok (.aload_n 0, 1) := by decide +kernel
theorem dX10_come_48 : decode cX10_come 48 = .ok (.getfield 31, 3) := by decide +kernel
theorem dX10_come_51 : decode cX10_come 51 = .ok (.aload_n 0, 1) := by decide +kernel
theorem dX10_come_52 : decode cX10_come 52 = .ok (.iload_n 1, 1) := by decide +kernel
theorem dX10_come_53 : decode cX10_come 53 = .ok (.iconst 3, 1) := by decide +kernel
theorem dX10_come_54 : decode cX10_come 54 = .ok (.invokevirtual 93, 3) := by decide +kernel
theorem dX10_come_57 : decode cX10_come 57 = .ok (.iadd, 1) := by decide +kernel
theorem dX10_come_58 : decode cX10_come 58 = .ok (.invokestatic 111, 3) := by decide +kernel
theorem dX10_come_61 : decode cX10_come 61 = .ok (.aload_n 0, 1) := by decide +kernel
theorem dX10_come_62 : decode cX10_come 62 = .ok (.getfield 48, 3) := by decide +kernel
theorem dX10_come_65 : decode cX10_come 65 = .ok (.iload_n 2, 1) := by decide +kernel
theorem dX10_come_66 : decode cX10_come 66 = .ok (.iload_n 3, 1) := by decide +kernel
theorem dX10_come_67 : decode cX10_come 67 = .ok (.iconst 1, 1) := by decide +kernel
theorem dX10_come_68 : decode cX10_come 68 = .ok (.iadd, 1) := by decide +kernel
theorem dX10_come_69 : decode cX10_come 69 = .ok (.invokestatic 111, 3) := by decide +kernel
theorem dX10_come_72 : decode cX10_come 72 = .ok (.return_, 1) := by decide +kernel
theorem dX10_sail_0 : decode cX10_sail 0 = .ok (.aload_n 1, 1) := by decide +kernel
theorem dX10_sail_1 : decode cX10_sail 1 = .ok (.getfield 145, 3) := by decide +kernel
theorem dX10_sail_4 : decode cX10_sail 4 = .ok (.ifCond .ne 4, 3) := by decide +kernel
theorem dX10_sail_7 : decode cX10_sail 7 = .ok (.return_, 1) := by decide +kernel
theorem dX10_sail_8 : decode cX10_sail 8 = .ok (.aload_n 1, 1) := by decide +kernel
theorem dX10_sail_9 : decode cX10_sail 9 = .ok (.dup, 1) := by decide +kernel
theorem dX10_sail_10 : decode cX10_sail 10 = .ok (.getfield 145, 3) := by decide +kernel
theorem dX10_sail_13 : decode cX10_sail 13 = .ok (.iconst 1, 1) := by decide +kernel
theorem dX10_sail_14 : decode cX10_sail 14 = .ok (.isub, 1) := by decide +kernel
theorem dX10_sail_15 : decode cX10_sail 15 = .ok (.putfield 145, 3) := by decide +kernel
theorem dX10_sail_18 : decode cX10_sail 18 = .ok (.aload_n 1, 1) := by decide +kernel
theorem dX10_sail_19 : decode cX10_sail 19 = .ok (.getfield 145, 3) := by decide +kernel
theorem dX10_sail_22 : decode cX10_sail 22 = .ok (.ifCond .le 4, 3) := by decide +kernel
theorem dX10_sail_25 : decode cX10_sail 25 = .ok (.return_, 1) := by decide +kernel
theorem dX10_sail_26 : decode cX10_sail 26 = .ok (.iconst 0, 1) := by decide +kernel
theorem dX10_sail_27 : decode cX10_sail 27 = .ok (.istore_n 2, 1) := by decide +kernel
theorem dX10_sail_28 : decode cX10_sail 28 = .ok (.iconst 0, 1) := by decide +kernel
theorem dX10_sail_29 : decode cX10_sail 29 = .ok (.istore_n 3, 1) := by decide +kernel
theorem dX10_sail_30 : decode cX10_sail 30 = .ok (.iload_n 3, 1) := by decide +kernel
theorem dX10_sail_31 : decode cX10_sail 31 = .ok (.aload_n 1, 1) := by decide +kernel
theorem dX10_sail_32 : decode cX10_sail 32 = .ok (.getfield 101, 3) := by decide +kernel
theorem dX10_sail_35 : decode cX10_sail 35 = .ok (.if_icmp .ge 75, 3) := by decide +kernel
theorem dX10_sail_38 : decode cX10_sail 38 = .ok (.aload_n 1, 1) := by decide +kernel
theorem dX10_sail_39 : decode cX10_sail 39 = .ok (.getfield 148, 3) := by decide +kernel
theorem dX10_sail_42 : decode cX10_sail 42 = .ok (.iload_n 3, 1) := by decide +kernel
theorem dX10_sail_43 : decode cX10_sail 43 = .ok (.invokestatic 89, 3) := by decide +kernel
theorem dX10_sail_46 : decode cX10_sail 46 = .ok (.istore 4, 2) := by decide +kernel
theorem dX10_sail_48 : decode cX10_sail 48 = .ok (.aload_n 0, 1) := by decide +kernel
theorem dX10_sail_49 : decode cX10_sail 49 = .ok (.iload 4, 2) := by decide +kernel
theorem dX10_sail_51 : decode cX10_sail 51 = .ok (.iconst 1, 1) := by decide +kernel
theorem dX10_sail_52 : decode cX10_sail 52 = .ok (.invokevirtual 93, 3) := by decide +kernel
theorem dX10_sail_55 : decode cX10_sail 55 = .ok (.aload_n 1, 1) := by decide +kernel
theorem dX10_sail_56 : decode cX10_sail 56 = .ok (.getfield 104, 3) := by decide +kernel
theorem dX10_sail_59 : decode cX10_sail 59 = .ok (.if_icmp .ne 32, 3) := by decide +kernel
theorem dX10_sail_62 : decode cX10_sail 62 = .ok (.aload_n 0, 1) := by decide +kernel
theorem dX10_sail_63 : decode cX10_sail 63 = .ok (.dup, 1) := by decide +kernel
theorem dX10_sail_64 : decode cX10_sail 64 = .ok (.getfield 63, 3) := by decide +kernel
theorem dX10_sail_67 : decode cX10_sail 67 = .ok (.aload_n 0, 1) := by decide +kernel
theorem dX10_sail_68 : decode cX10_sail 68 = .ok (.iload 4, 2) := by decide +kernel
theorem dX10_sail_70 : decode cX10_sail 70 = .ok (.iconst 4, 1) := by decide +kernel
theorem dX10_sail_71 : decode cX10_sail 71 = .ok (.invokevirtual 93, 3) := by decide +kernel
theorem dX10_sail_74 : decode cX10_sail 74 = .ok (.iadd, 1) := by decide +kernel
theorem dX10_sail_75 : decode cX10_sail 75 = .ok (.putfield 63, 3) := by decide +kernel
theorem dX10_sail_78 : decode cX10_sail 78 = .ok (.aload_n 0, 1) := by decide +kernel
theorem dX10_sail_79 : decode cX10_sail 79 = .ok (.dup, 1) := by decide +kernel
theorem dX10_sail_80 : decode cX10_sail 80 = .ok (.getfield 66, 3) := by decide +kernel
theorem dX10_sail_83 : decode cX10_sail 83 = .ok (.iconst 1, 1) := by decide +kernel
theorem dX10_sail_84 : decode cX10_sail 84 = .ok (.iadd, 1) := by decide +kernel
theorem dX10_sail_85 : decode cX10_sail 85 = .ok (.putfield 66, 3) := by decide +kernel
theorem dX10_sail_88 : decode cX10_sail 88 = .ok (.goto 16, 3) := by decide +kernel
theorem dX10_sail_91 : decode cX10_sail 91 = .ok (.aload_n 1, 1) := by decide +kernel
theorem dX10_sail_92 : decode cX10_sail 92 = .ok (.getfield 148, 3) := by decide +kernel
theorem dX10_sail_95 : decode cX10_sail 95 = .ok (.iload_n 2, 1) := by decide +kernel
theorem dX10_sail_96 : decode cX10_sail 96 = .ok (.iload 4, 2) := by decide +kernel
theorem dX10_sail_98 : decode cX10_sail 98 = .ok (.invokestatic 111, 3) := by decide +kernel
theorem dX10_sail_101 : decode cX10_sail 101 = .ok (.iinc 2 1, 3) := by decide +kernel
theorem dX10_sail_104 : decode cX10_sail 104 = .ok (.iinc 3 1, 3) := by decide +kernel
theorem dX10_sail_107 : decode cX10_sail 107 = .ok (.goto (-77), 3) := by decide +kernel
theorem dX10_sail_110 : decode cX10_sail 110 = .ok (.aload_n 1, 1) := by decide +kernel
theorem dX10_sail_111 : decode cX10_sail 111 = .ok (.iload_n 2, 1) := by decide +kernel
theorem dX10_sail_112 : decode cX10_sail 112 = .ok (.putfield 101, 3) := by decide +kernel
theorem dX10_sail_115 : decode cX10_sail 115 = .ok (.return_, 1) := by decide +kernel
theorem dX10_board_0 : decode cX10_board 0 = .ok (.aload_n 0, 1) := by decide +kernel
theorem dX10_board_1 : decode cX10_board 1 = .ok (.aload_n 1, 1) := by decide +kernel
theorem dX10_board_2 : decode cX10_board 2 = .ok (.getfield 104, 3) := by decide +kernel
theorem dX10_board_5 : decode cX10_board 5 = .ok (.invokevirtual 141, 3) := by decide +kernel
theorem dX10_board_8 : decode cX10_board 8 = .ok (.istore_n 2, 1) := by decide +kernel
theorem dX10_board_9 : decode cX10_board 9 = .ok (.aload_n 1, 1) := by decide +kernel
theorem dX10_board_10 : decode cX10_board 10 = .ok (.getfield 145, 3) := by decide +kernel
theorem dX10_board_13 : decode cX10_board 13 = .ok (.ifCond .gt 7, 3) := by decide +kernel
theorem dX10_board_16 : decode cX10_board 16 = .ok (.iload_n 2, 1) := by decide +kernel
theorem dX10_board_17 : decode cX10_board 17 = .ok (.ifCond .ne 4, 3) := by decide +kernel
theorem dX10_board_20 : decode cX10_board 20 = .ok (.return_, 1) := by decide +kernel
theorem dX10_board_21 : decode cX10_board 21 = .ok (.aload_n 1, 1) := by decide +kernel
theorem dX10_board_22 : decode cX10_board 22 = .ok (.getfield 104, 3) := by decide +kernel
theorem dX10_board_25 : decode cX10_board 25 = .ok (.bipush 12, 2) := by decide +kernel
theorem dX10_board_27 : decode cX10_board 27 = .ok (.imul, 1) := by decide +kernel
theorem dX10_board_28 : decode cX10_board 28 = .ok (.istore_n 3, 1) := by decide +kernel
theorem dX10_board_29 : decode cX10_board 29 = .ok (.iconst 0, 1) := by decide +kernel
theorem dX10_board_30 : decode cX10_board 30 = .ok (.iload_n 2, 1) := by decide +kernel
theorem dX10_board_31 : decode cX10_board 31 = .ok (.aload_n 0, 1) := by decide +kernel
theorem dX10_board_32 : decode cX10_board 32 = .ok (.getfield 25, 3) := by decide +kernel
theorem dX10_board_35 : decode cX10_board 35 = .ok (.aload_n 1, 1) := by decide +kernel
theorem dX10_board_36 : decode cX10_board 36 = .ok (.getfield 101, 3) := by decide +kernel
theorem dX10_board_39 : decode cX10_board 39 = .ok (.isub, 1) := by decide +kernel
theorem dX10_board_40 : decode cX10_board 40 = .ok (.invokestatic 151, 3) := by decide +kernel
theorem dX10_board_43 : decode cX10_board 43 = .ok (.invokestatic 156, 3) := by decide +kernel
theorem dX10_board_46 : decode cX10_board 46 = .ok (.istore 4, 2) := by decide +kernel
theorem dX10_board_48 : decode cX10_board 48 = .ok (.iconst 0, 1) := by decide +kernel
theorem dX10_board_49 : decode cX10_board 49 = .ok (.istore 5, 2) := by decide +kernel
theorem dX10_board_51 : decode cX10_board 51 = .ok (.iload 5, 2) := by decide +kernel
theorem dX10_board_53 : decode cX10_board 53 = .ok (.iload 4, 2) := by decide +kernel
theorem dX10_board_55 : decode cX10_board 55 = .ok (.if_icmp .ge 41, 3) := by decide +kernel
theorem dX10_board_58 : decode cX10_board 58 = .ok (.aload_n 1, 1) := by decide +kernel
theorem dX10_board_59 : decode cX10_board 59 = .ok (.getfield 148, 3) := by decide +kernel
theorem dX10_board_62 : decode cX10_board 62 = .ok (.aload_n 1, 1) := by decide +kernel
theorem dX10_board_63 : decode cX10_board 63 = .ok (.getfield 101, 3) := by decide +kernel
theorem dX10_board_66 : decode cX10_board 66 = .ok (.aload_n 0, 1) := by decide +kernel
theorem dX10_board_67 : decode cX10_board 67 = .ok (.getfield 51, 3) := by decide +kernel
theorem dX10_board_70 : decode cX10_board 70 = .ok (.iload_n 3, 1) := by decide +kernel
theorem dX10_board_71 : decode cX10_board 71 = .ok (.iload 5, 2) := by decide +kernel
theorem dX10_board_73 : decode cX10_board 73 = .ok (.iadd, 1) := by decide +kernel
theorem dX10_board_74 : decode cX10_board 74 = .ok (.invokestatic 89, 3) := by decide +kernel
theorem dX10_board_77 : decode cX10_board 77 = .ok (.invokestatic 111, 3) := by decide +kernel
theorem dX10_board_80 : decode cX10_board 80 = .ok (.aload_n 1, 1) := by decide +kernel
theorem dX10_board_81 : decode cX10_board 81 = .ok (.dup, 1) := by decide +kernel
theorem dX10_board_82 : decode cX10_board 82 = .ok (.getfield 101, 3) := by decide +kernel
theorem dX10_board_85 : decode cX10_board 85 = .ok (.iconst 1, 1) := by decide +kernel
theorem dX10_board_86 : decode cX10_board 86 = .ok (.iadd, 1) := by decide +kernel
theorem dX10_board_87 : decode cX10_board 87 = .ok (.putfield 101, 3) := by decide +kernel
theorem dX10_board_90 : decode cX10_board 90 = .ok (.iinc 5 1, 3) := by decide +kernel
theorem dX10_board_93 : decode cX10_board 93 = .ok (.goto (-42), 3) := by decide +kernel
theorem dX10_board_96 : decode cX10_board 96 = .ok (.iload 4, 2) := by decide +kernel
theorem dX10_board_98 : decode cX10_board 98 = .ok (.istore 5, 2) := by decide +kernel
theorem dX10_board_100 : decode cX10_board 100 = .ok (.iload 5, 2) := by decide +kernel
theorem dX10_board_102 : decode cX10_board 102 = .ok (.iload_n 2, 1) := by decide +kernel
theorem dX10_board_103 : decode cX10_board 103 = .ok (.if_icmp .ge 59, 3) := by decide +kernel
theorem dX10_board_106 : decode cX10_board 106 = .ok (.aload_n 0, 1) := by decide +kernel
theorem dX10_board_107 : decode cX10_board 107 = .ok (.getfield 51, 3) := by decide +kernel
theorem dX10_board_110 : decode cX10_board 110 = .ok (.iload_n 3, 1) := by decide +kernel
theorem dX10_board_111 : decode cX10_board 111 = .ok (.iload 5, 2) := by decide +kernel
theorem dX10_board_113 : decode cX10_board 113 = .ok (.iadd, 1) := by decide +kernel
theorem dX10_board_114 : decode cX10_board 114 = .ok (.iload 4, 2) := by decide +kernel
theorem dX10_board_116 : decode cX10_board 116 = .ok (.isub, 1) := by decide +kernel
theorem dX10_board_117 : decode cX10_board 117 = .ok (.aload_n 0, 1) := by decide +kernel
theorem dX10_board_118 : decode cX10_board 118 = .ok (.getfield 51, 3) := by decide +kernel
theorem dX10_board_121 : decode cX10_board 121 = .ok (.iload_n 3, 1) := by decide +kernel
theorem dX10_board_122 : decode cX10_board 122 = .ok (.iload 5, 2) := by decide +kernel
theorem dX10_board_124 : decode cX10_board 124 = .ok (.iadd, 1) := by decide +kernel
theorem dX10_board_125 : decode cX10_board 125 = .ok (.invokestatic 89, 3) := by decide +kernel
theorem dX10_board_128 : decode cX10_board 128 = .ok (.invokestatic 111, 3) := by decide +kernel
theorem dX10_board_131 : decode cX10_board 131 = .ok (.aload_n 0, 1) := by decide +kernel
theorem dX10_board_132 : decode cX10_board 132 = .ok (.getfield 54, 3) := by decide +kernel
theorem dX10_board_135 : decode cX10_board 135 = .ok (.iload_n 3, 1) := by decide +kernel
theorem dX10_board_136 : decode cX10_board 136 = .ok (.iload 5, 2) := by decide +kernel
theorem dX10_board_138 : decode cX10_board 138 = .ok (.iadd, 1) := by decide +kernel
theorem dX10_board_139 : decode cX10_board 139 = .ok (.iload 4, 2) := by decide +kernel
theorem dX10_board_141 : decode cX10_board 141 = .ok (.isub, 1) := by decide +kernel
theorem dX10_board_142 : decode cX10_board 142 = .ok (.aload_n 0, 1) := by decide +kernel
theorem dX10_board_143 : decode cX10_board 143 = .ok (.getfield 54, 3) := by decide +kernel
theorem dX10_board_146 : decode cX10_board 146 = .ok (.iload_n 3, 1) := by decide +kernel
theorem dX10_board_147 : decode cX10_board 147 = .ok (.iload 5, 2) := by decide +kernel
theorem dX10_board_149 : decode cX10_board 149 = .ok (.iadd, 1) := by decide +kernel
theorem dX10_board_150 : decode cX10_board 150 = .ok (.invokestatic 89, 3) := by decide +kernel
theorem dX10_board_153 : decode cX10_board 153 = .ok (.invokestatic 111, 3) := by decide +kernel
theorem dX10_board_156 : decode cX10_board 156 = .ok (.iinc 5 1, 3) := by decide +kernel
theorem dX10_board_159 : decode cX10_board 159 = .ok (.goto (-59), 3) := by decide +kernel
theorem dX10_board_162 : decode cX10_board 162 = .ok (.aload_n 0, 1) := by decide +kernel
theorem dX10_board_163 : decode cX10_board 163 = .ok (.getfield 48, 3) := by decide +kernel
theorem dX10_board_166 : decode cX10_board 166 = .ok (.aload_n 1, 1) := by decide +kernel
theorem dX10_board_167 : decode cX10_board 167 = .ok (.getfield 104, 3) := by decide +kernel
theorem dX10_board_170 : decode cX10_board 170 = .ok (.iload_n 2, 1) := by decide +kernel
theorem dX10_board_171 : decode cX10_board 171 = .ok (.iload 4, 2) := by decide +kernel
theorem dX10_board_173 : decode cX10_board 173 = .ok (.isub, 1) := by decide +kernel
theorem dX10_board_174 : decode cX10_board 174 = .ok (.invokestatic 111, 3) := by decide +kernel
theorem dX10_board_177 : decode cX10_board 177 = .ok (.return_, 1) := by decide +kernel
theorem dX10_ask_0 : decode cX10_ask 0 = .ok (.aload_n 1, 1) := by decide +kernel
theorem dX10_ask_1 : decode cX10_ask 1 = .ok (.getfield 145, 3) := by decide +kernel
theorem dX10_ask_4 : decode cX10_ask 4 = .ok (.ifCond .ne 17, 3) := by decide +kernel
theorem dX10_ask_7 : decode cX10_ask 7 = .ok (.aload_n 0, 1) := by decide +kernel
theorem dX10_ask_8 : decode cX10_ask 8 = .ok (.aload_n 1, 1) := by decide +kernel
theorem dX10_ask_9 : decode cX10_ask 9 = .ok (.aload_n 1, 1) := by decide +kernel
theorem dX10_ask_10 : decode cX10_ask 10 = .ok (.getfield 159, 3) := by decide +kernel
theorem dX10_ask_13 : decode cX10_ask 13 = .ok (.aload_n 0, 1) := by decide +kernel
theorem dX10_ask_14 : decode cX10_ask 14 = .ok (.aload_n 1, 1) := by decide +kernel
theorem dX10_ask_15 : decode cX10_ask 15 = .ok (.invokevirtual 163, 3) := by decide +kernel
theorem dX10_ask_18 : decode cX10_ask 18 = .ok (.invokevirtual 169, 3) := by decide +kernel
theorem dX10_ask_21 : decode cX10_ask 21 = .ok (.return_, 1) := by decide +kernel
theorem dX10_send_0 : decode cX10_send 0 = .ok (.aload_n 0, 1) := by decide +kernel
theorem dX10_send_1 : decode cX10_send 1 = .ok (.iload_n 2, 1) := by decide +kernel
theorem dX10_send_2 : decode cX10_send 2 = .ok (.invokevirtual 107, 3) := by decide +kernel
theorem dX10_send_5 : decode cX10_send 5 = .ok (.ifCond .eq 29, 3) := by decide +kernel
theorem dX10_send_8 : decode cX10_send 8 = .ok (.iload_n 2, 1) := by decide +kernel
theorem dX10_send_9 : decode cX10_send 9 = .ok (.aload_n 1, 1) := by decide +kernel
theorem dX10_send_10 : decode cX10_send 10 = .ok (.getfield 104, 3) := by decide +kernel
theorem dX10_send_13 : decode cX10_send 13 = .ok (.if_icmp .eq 21, 3) := by decide +kernel
theorem dX10_send_16 : decode cX10_send 16 = .ok (.aload_n 1, 1) := by decide +kernel
theorem dX10_send_17 : decode cX10_send 17 = .ok (.aload_n 0, 1) := by decide +kernel
theorem dX10_send_18 : decode cX10_send 18 = .ok (.aload_n 1, 1) := by decide +kernel
theorem dX10_send_19 : decode cX10_send 19 = .ok (.getfield 104, 3) := by decide +kernel
theorem dX10_send_22 : decode cX10_send 22 = .ok (.iload_n 2, 1) := by decide +kernel
theorem dX10_send_23 : decode cX10_send 23 = .ok (.invokevirtual 173, 3) := by decide +kernel
theorem dX10_send_26 : decode cX10_send 26 = .ok (.putfield 145, 3) := by decide +kernel
theorem dX10_send_29 : decode cX10_send 29 = .ok (.aload_n 1, 1) := by decide +kernel
theorem dX10_send_30 : decode cX10_send 30 = .ok (.iload_n 2, 1) := by decide +kernel
theorem dX10_send_31 : decode cX10_send 31 = .ok (.putfield 104, 3) := by decide +kernel
theorem dX10_send_34 : decode cX10_send 34 = .ok (.return_, 1) := by decide +kernel
theorem dX10_close_0 : decode cX10_close 0 = .ok (.iconst 0, 1) := by decide +kernel
theorem dX10_close_1 : decode cX10_close 1 = .ok (.istore_n 1, 1) := by decide +kernel
theorem dX10_close_2 : decode cX10_close 2 = .ok (.iload_n 1, 1) := by decide +kernel
theorem dX10_close_3 : decode cX10_close 3 = .ok (.aload_n 0, 1) := by decide +kernel
theorem dX10_close_4 : decode cX10_close 4 = .ok (.getfield 48, 3) := by decide +kernel
theorem dX10_close_7 : decode cX10_close 7 = .ok (.arraylength, 1) := by decide +kernel
theorem dX10_close_8 : decode cX10_close 8 = .ok (.if_icmp .ge 29, 3) := by decide +kernel
theorem dX10_close_11 : decode cX10_close 11 = .ok (.aload_n 0, 1) := by decide +kernel
theorem dX10_close_12 : decode cX10_close 12 = .ok (.getfield 48, 3) := by decide +kernel
theorem dX10_close_15 : decode cX10_close 15 = .ok (.iload_n 1, 1) := by decide +kernel
theorem dX10_close_16 : decode cX10_close 16 = .ok (.iaload, 1) := by decide +kernel
theorem dX10_close_17 : decode cX10_close 17 = .ok (.ifCond .le 14, 3) := by decide +kernel
theorem dX10_close_20 : decode cX10_close 20 = .ok (.aload_n 0, 1) := by decide +kernel
theorem dX10_close_21 : decode cX10_close 21 = .ok (.iload_n 1, 1) := by decide +kernel
theorem dX10_close_22 : decode cX10_close 22 = .ok (.aload_n 0, 1) := by decide +kernel
theorem dX10_close_23 : decode cX10_close 23 = .ok (.getfield 48, 3) := by decide +kernel
theorem dX10_close_26 : decode cX10_close 26 = .ok (.iload_n 1, 1) := by decide +kernel
theorem dX10_close_27 : decode cX10_close 27 = .ok (.iaload, 1) := by decide +kernel
theorem dX10_close_28 : decode cX10_close 28 = .ok (.invokevirtual 176, 3) := by decide +kernel
theorem dX10_close_31 : decode cX10_close 31 = .ok (.iinc 1 1, 3) := by decide +kernel
theorem dX10_close_34 : decode cX10_close 34 = .ok (.goto (-32), 3) := by decide +kernel
theorem dX10_close_37 : decode cX10_close 37 = .ok (.aload_n 0, 1) := by decide +kernel
theorem dX10_close_38 : decode cX10_close 38 = .ok (.dup, 1) := by decide +kernel
theorem dX10_close_39 : decode cX10_close 39 = .ok (.getfield 31, 3) := by decide +kernel
theorem dX10_close_42 : decode cX10_close 42 = .ok (.iconst 1, 1) := by decide +kernel
theorem dX10_close_43 : decode cX10_close 43 = .ok (.iadd, 1) := by decide +kernel
theorem dX10_close_44 : decode cX10_close 44 = .ok (.putfield 31, 3) := by decide +kernel
theorem dX10_close_47 : decode cX10_close 47 = .ok (.return_, 1) := by decide +kernel
theorem dX10_waitAt_0 : decode cX10_waitAt 0 = .ok (.iload_n 1, 1) := by decide +kernel
theorem dX10_waitAt_1 : decode cX10_waitAt 1 = .ok (.bipush 12, 2) := by decide +kernel
theorem dX10_waitAt_3 : decode cX10_waitAt 3 = .ok (.imul, 1) := by decide +kernel
theorem dX10_waitAt_4 : decode cX10_waitAt 4 = .ok (.istore_n 3, 1) := by decide +kernel
theorem dX10_waitAt_5 : decode cX10_waitAt 5 = .ok (.iconst 0, 1) := by decide +kernel
theorem dX10_waitAt_6 : decode cX10_waitAt 6 = .ok (.istore 4, 2) := by decide +kernel
theorem dX10_waitAt_8 : decode cX10_waitAt 8 = .ok (.iload_n 3, 1) := by decide +kernel
theorem dX10_waitAt_9 : decode cX10_waitAt 9 = .ok (.istore 5, 2) := by decide +kernel
theorem dX10_waitAt_11 : decode cX10_waitAt 11 = .ok (.iload 5, 2) := by decide +kernel
theorem dX10_waitAt_13 : decode cX10_waitAt 13 = .ok (.iload_n 3, 1) := by decide +kernel
theorem dX10_waitAt_14 : decode cX10_waitAt 14 = .ok (.iload_n 2, 1) := by decide +kernel
theorem dX10_waitAt_15 : decode cX10_waitAt 15 = .ok (.iadd, 1) := by decide +kernel
theorem dX10_waitAt_16 : decode cX10_waitAt 16 = .ok (.if_icmp .ge 76, 3) := by decide +kernel
theorem dX10_waitAt_19 : decode cX10_waitAt 19 = .ok (.aload_n 0, 1) := by decide +kernel
theorem dX10_waitAt_20 : decode cX10_waitAt 20 = .ok (.getfield 54, 3) := by decide +kernel
theorem dX10_waitAt_23 : decode cX10_waitAt 23 = .ok (.iload 5, 2) := by decide +kernel
theorem dX10_waitAt_25 : decode cX10_waitAt 25 = .ok (.invokestatic 89, 3) := by decide +kernel
theorem dX10_waitAt_28 : decode cX10_waitAt 28 = .ok (.istore 6, 2) := by decide +kernel
theorem dX10_waitAt_30 : decode cX10_waitAt 30 = .ok (.iload 6, 2) := by decide +kernel
theorem dX10_waitAt_32 : decode cX10_waitAt 32 = .ok (.aload_n 0, 1) := by decide +kernel
theorem dX10_waitAt_33 : decode cX10_waitAt 33 = .ok (.getfield 31, 3) := by decide +kernel
theorem dX10_waitAt_36 : decode cX10_waitAt 36 = .ok (.iconst 1, 1) := by decide +kernel
theorem dX10_waitAt_37 : decode cX10_waitAt 37 = .ok (.iadd, 1) := by decide +kernel
theorem dX10_waitAt_38 : decode cX10_waitAt 38 = .ok (.if_icmp .le 48, 3) := by decide +kernel
theorem dX10_waitAt_41 : decode cX10_waitAt 41 = .ok (.iload_n 3, 1) := by decide +kernel
theorem dX10_waitAt_42 : decode cX10_waitAt 42 = .ok (.iload 4, 2) := by decide +kernel
theorem dX10_waitAt_44 : decode cX10_waitAt 44 = .ok (.iadd, 1) := by decide +kernel
theorem dX10_waitAt_45 : decode cX10_waitAt 45 = .ok (.iload 5, 2) := by decide +kernel
theorem dX10_waitAt_47 : decode cX10_waitAt 47 = .ok (.if_icmp .ge 36, 3) := by decide +kernel
theorem dX10_waitAt_50 : decode cX10_waitAt 50 = .ok (.aload_n 0, 1) := by decide +kernel
theorem dX10_waitAt_51 : decode cX10_waitAt 51 = .ok (.getfield 51, 3) := by decide +kernel
theorem dX10_waitAt_54 : decode cX10_waitAt 54 = .ok (.iload_n 3, 1) := by decide +kernel
theorem dX10_waitAt_55 : decode cX10_waitAt 55 = .ok (.iload 4, 2) := by decide +kernel
theorem dX10_waitAt_57 : decode cX10_waitAt 57 = .ok (.iadd, 1) := by decide +kernel
theorem dX10_waitAt_58 : decode cX10_waitAt 58 = .ok (.aload_n 0, 1) := by decide +kernel
theorem dX10_waitAt_59 : decode cX10_waitAt 59 = .ok (.getfield 51, 3) := by decide +kernel
theorem dX10_waitAt_62 : decode cX10_waitAt 62 = .ok (.iload 5, 2) := by decide +kernel
theorem dX10_waitAt_64 : decode cX10_waitAt 64 = .ok (.invokestatic 89, 3) := by decide +kernel
theorem dX10_waitAt_67 : decode cX10_waitAt 67 = .ok (.invokestatic 111, 3) := by decide +kernel
theorem dX10_waitAt_70 : decode cX10_waitAt 70 = .ok (.aload_n 0, 1) := by decide +kernel
theorem dX10_waitAt_71 : decode cX10_waitAt 71 = .ok (.getfield 54, 3) := by decide +kernel
theorem dX10_waitAt_74 : decode cX10_waitAt 74 = .ok (.iload_n 3, 1) := by decide +kernel
theorem dX10_waitAt_75 : decode cX10_waitAt 75 = .ok (.iload 4, 2) := by decide +kernel
theorem dX10_waitAt_77 : decode cX10_waitAt 77 = .ok (.iadd, 1) := by decide +kernel
theorem dX10_waitAt_78 : decode cX10_waitAt 78 = .ok (.iload 6, 2) := by decide +kernel
theorem dX10_waitAt_80 : decode cX10_waitAt 80 = .ok (.invokestatic 111, 3) := by decide +kernel
theorem dX10_waitAt_83 : decode cX10_waitAt 83 = .ok (.iinc 4 1, 3) := by decide +kernel
theorem dX10_waitAt_86 : decode cX10_waitAt 86 = .ok (.iinc 5 1, 3) := by decide +kernel
theorem dX10_waitAt_89 : decode cX10_waitAt 89 = .ok (.goto (-78), 3) := by decide +kernel
theorem dX10_waitAt_92 : decode cX10_waitAt 92 = .ok (.aload_n 0, 1) := by decide +kernel
theorem dX10_waitAt_93 : decode cX10_waitAt 93 = .ok (.dup, 1) := by decide +kernel
theorem dX10_waitAt_94 : decode cX10_waitAt 94 = .ok (.getfield 57, 3) := by decide +kernel
theorem dX10_waitAt_97 : decode cX10_waitAt 97 = .ok (.iload_n 2, 1) := by decide +kernel
theorem dX10_waitAt_98 : decode cX10_waitAt 98 = .ok (.iadd, 1) := by decide +kernel
theorem dX10_waitAt_99 : decode cX10_waitAt 99 = .ok (.putfield 57, 3) := by decide +kernel
theorem dX10_waitAt_102 : decode cX10_waitAt 102 = .ok (.aload_n 0, 1) := by decide +kernel
theorem dX10_waitAt_103 : decode cX10_waitAt 103 = .ok (.dup, 1) := by decide +kernel
theorem dX10_waitAt_104 : decode cX10_waitAt 104 = .ok (.getfield 60, 3) := by decide +kernel
theorem dX10_waitAt_107 : decode cX10_waitAt 107 = .ok (.iload_n 2, 1) := by decide +kernel
theorem dX10_waitAt_108 : decode cX10_waitAt 108 = .ok (.iload 4, 2) := by decide +kernel
theorem dX10_waitAt_110 : decode cX10_waitAt 110 = .ok (.isub, 1) := by decide +kernel
theorem dX10_waitAt_111 : decode cX10_waitAt 111 = .ok (.iadd, 1) := by decide +kernel
theorem dX10_waitAt_112 : decode cX10_waitAt 112 = .ok (.putfield 60, 3) := by decide +kernel
theorem dX10_waitAt_115 : decode cX10_waitAt 115 = .ok (.aload_n 0, 1) := by decide +kernel
theorem dX10_waitAt_116 : decode cX10_waitAt 116 = .ok (.getfield 48, 3) := by decide +kernel
theorem dX10_waitAt_119 : decode cX10_waitAt 119 = .ok (.iload_n 1, 1) := by decide +kernel
theorem dX10_waitAt_120 : decode cX10_waitAt 120 = .ok (.iload 4, 2) := by decide +kernel
theorem dX10_waitAt_122 : decode cX10_waitAt 122 = .ok (.invokestatic 111, 3) := by decide +kernel
theorem dX10_waitAt_125 : decode cX10_waitAt 125 = .ok (.return_, 1) := by decide +kernel
theorem dX11_init_0 : decode cX11_init 0 = .ok (.aload_n 0, 1) := by decide +kernel
theorem dX11_init_1 : decode cX11_init 1 = .ok (.invokespecial 1, 3) := by decide +kernel
theorem dX11_init_4 : decode cX11_init 4 = .ok (.aload_n 0, 1) := by decide +kernel
theorem dX11_init_5 : decode cX11_init 5 = .ok (.new 7, 3) := by decide +kernel
theorem dX11_init_8 : decode cX11_init 8 = .ok (.dup, 1) := by decide +kernel
theorem dX11_init_9 : decode cX11_init 9 = .ok (.aconst_null, 1) := by decide +kernel
theorem dX11_init_10 : decode cX11_init 10 = .ok (.invokespecial 9, 3) := by decide +kernel
theorem dX11_init_13 : decode cX11_init 13 = .ok (.putfield 12, 3) := by decide +kernel
theorem dX11_init_16 : decode cX11_init 16 = .ok (.aload_n 0, 1) := by decide +kernel
theorem dX11_init_17 : decode cX11_init 17 = .ok (.new 7, 3) := by decide +kernel
theorem dX11_init_20 : decode cX11_init 20 = .ok (.dup, 1) := by decide +kernel
theorem dX11_init_21 : decode cX11_init 21 = .ok (.aconst_null, 1) := by decide +kernel
theorem dX11_init_22 : decode cX11_init 22 = .ok (.invokespecial 9, 3) := by decide +kernel
theorem dX11_init_25 : decode cX11_init 25 = .ok (.putfield 18, 3) := by decide +kernel
theorem dX11_init_28 : decode cX11_init 28 = .ok (.aload_n 0, 1) := by decide +kernel
theorem dX11_init_29 : decode cX11_init 29 = .ok (.iconst 0, 1) := by decide +kernel
theorem dX11_init_30 : decode cX11_init 30 = .ok (.putfield 21, 3) := by decide +kernel
theorem dX11_init_33 : decode cX11_init 33 = .ok (.aload_n 0, 1) := by decide +kernel
theorem dX11_init_34 : decode cX11_init 34 = .ok (.new 7, 3) := by decide +kernel
theorem dX11_init_37 : decode cX11_init 37 = .ok (.dup, 1) := by decide +kernel
theorem dX11_init_38 : decode cX11_init 38 = .ok (.new 7, 3) := by decide +kernel
theorem dX11_init_41 : decode cX11_init 41 = .ok (.dup, 1) := by decide +kernel
theorem dX11_init_42 : decode cX11_init 42 = .ok (.new 7, 3) := by decide +kernel
theorem dX11_init_45 : decode cX11_init 45 = .ok (.dup, 1) := by decide +kernel
theorem dX11_init_46 : decode cX11_init 46 = .ok (.new 7, 3) := by decide +kernel
theorem dX11_init_49 : decode cX11_init 49 = .ok (.dup, 1) := by decide +kernel
theorem dX11_init_50 : decode cX11_init 50 = .ok (.new 7, 3) := by decide +kernel
theorem dX11_init_53 : decode cX11_init 53 = .ok (.dup, 1) := by decide +kernel
theorem dX11_init_54 : decode cX11_init 54 = .ok (.aconst_null, 1) := by decide +kernel
theorem dX11_init_55 : decode cX11_init 55 = .ok (.invokespecial 9, 3) := by decide +kernel
theorem dX11_init_58 : decode cX11_init 58 = .ok (.invokespecial 9, 3) := by decide +kernel
theorem dX11_init_61 : decode cX11_init 61 = .ok (.invokespecial 9, 3) := by decide +kernel
theorem dX11_init_64 : decode cX11_init 64 = .ok (.invokespecial 9, 3) := by decide +kernel
theorem dX11_init_67 : decode cX11_init 67 = .ok (.invokespecial 9, 3) := by decide +kernel
theorem dX11_init_70 : decode cX11_init 70 = .ok (.putfield 25, 3) := by decide +kernel
theorem dX11_init_73 : decode cX11_init 73 = .ok (.aload_n 0, 1) := by decide +kernel
theorem dX11_init_74 : decode cX11_init 74 = .ok (.new 28, 3) := by decide +kernel
theorem dX11_init_77 : decode cX11_init 77 = .ok (.dup, 1) := by decide +kernel
theorem dX11_init_78 : decode cX11_init 78 = .ok (.invokespecial 30, 3) := by decide +kernel
theorem dX11_init_81 : decode cX11_init 81 = .ok (.putfield 31, 3) := by decide +kernel
theorem dX11_init_84 : decode cX11_init 84 = .ok (.aload_n 0, 1) := by decide +kernel
theorem dX11_init_85 : decode cX11_init 85 = .ok (.bipush 8, 2) := by decide +kernel
theorem dX11_init_87 : decode cX11_init 87 = .ok (.anewarray 35, 3) := by decide +kernel
theorem dX11_init_90 : decode cX11_init 90 = .ok (.putfield 37, 3) := by decide +kernel
theorem dX11_init_93 : decode cX11_init 93 = .ok (.aload_n 0, 1) := by decide +kernel
theorem dX11_init_94 : decode cX11_init 94 = .ok (.iconst 0, 1) := by decide +kernel
theorem dX11_init_95 : decode cX11_init 95 = .ok (.putfield 41, 3) := by decide +kernel
theorem dX11_init_98 : decode cX11_init 98 = .ok (.aload_n 0, 1) := by decide +kernel
theorem dX11_init_99 : decode cX11_init 99 = .ok (.iconst 0, 1) := by decide +kernel
theorem dX11_init_100 : decode cX11_init 100 = .ok (.putfield 45, 3) := by decide +kernel
theorem dX11_init_103 : decode cX11_init 103 = .ok (.iconst 0, 1) := by decide +kernel
theorem dX11_init_104 : decode cX11_init 104 = .ok (.istore_n 1, 1) := by decide +kernel
theorem dX11_init_105 : decode cX11_init 105 = .ok (.iload_n 1, 1) := by decide +kernel
theorem dX11_init_106 : decode cX11_init 106 = .ok (.aload_n 0, 1) := by decide +kernel
theorem dX11_init_107 : decode cX11_init 107 = .ok (.getfield 37, 3) := by decide +kernel
theorem dX11_init_110 : decode cX11_init 110 = .ok (.arraylength, 1) := by decide +kernel
theorem dX11_init_111 : decode cX11_init 111 = .ok (.if_icmp .ge 22, 3) := by decide +kernel
theorem dX11_init_114 : decode cX11_init 114 = .ok (.aload_n 0, 1) := by decide +kernel
theorem dX11_init_115 : decode cX11_init 115 = .ok (.getfield 37, 3) := by decide +kernel
theorem dX11_init_118 : decode cX11_init 118 = .ok (.iload_n 1, 1) := by decide +kernel
theorem dX11_init_119 : decode cX11_init 119 = .ok (.new 35, 3) := by decide +kernel
theorem dX11_init_122 : decode cX11_init 122 = .ok (.dup, 1) := by decide +kernel
theorem dX11_init_123 : decode cX11_init 123 = .ok (.invokespecial 48, 3) := by decide +kernel
theorem dX11_init_126 : decode cX11_init 126 = .ok (.aastore, 1) := by decide +kernel
theorem dX11_init_127 : decode cX11_init 127 = .ok (.iinc 1 1, 3) := by decide +kernel
theorem dX11_init_130 : decode cX11_init 130 = .ok (.goto (-25), 3) := by decide +kernel
theorem dX11_init_133 : decode cX11_init 133 = .ok (.return_, 1) := by decide +kernel
theorem dX11_river_0 : decode cX11_river 0 = .ok (.aload_n 0, 1) := by decide +kernel
theorem dX11_river_1 : decode cX11_river 1 = .ok (.iload_n 1, 1) := by decide +kernel
theorem dX11_river_2 : decode cX11_river 2 = .ok (.iconst 0, 1) := by decide +kernel
theorem dX11_river_3 : decode cX11_river 3 = .ok (.invokevirtual 49, 3) := by decide +kernel
theorem dX11_river_6 : decode cX11_river 6 = .ok (.istore_n 2, 1) := by decide +kernel
theorem dX11_river_7 : decode cX11_river 7 = .ok (.aload_n 0, 1) := by decide +kernel
theorem dX11_river_8 : decode cX11_river 8 = .ok (.iload_n 1, 1) := by decide +kernel
theorem dX11_river_9 : decode cX11_river 9 = .ok (.invokevirtual 53, 3) := by decide +kernel
theorem dX11_river_12 : decode cX11_river 12 = .ok (.astore_n 3, 1) := by decide +kernel
theorem dX11_river_13 : decode cX11_river 13 = .ok (.iload_n 2, 1) := by decide +kernel
theorem dX11_river_14 : decode cX11_river 14 = .ok (.ifCond .ne 7, 3) := by decide +kernel
theorem dX11_river_17 : decode cX11_river 17 = .ok (.aload_n 3, 1) := by decide +kernel
theorem dX11_river_18 : decode cX11_river 18 = .ok (.ifnonnull 5, 3) := by decide +kernel
theorem dX11_river_21 : decode cX11_river 21 = .ok (.iload_n 2, 1) := by decide +kernel
theorem dX11_river_22 : decode cX11_river 22 = .ok (.ireturn, 1) := by decide +kernel
theorem dX11_river_23 : decode cX11_river 23 = .ok (.aload_n 0, 1) := by decide +kernel
theorem dX11_river_24 : decode cX11_river 24 = .ok (.getfield 31, 3) := by decide +kernel
theorem dX11_river_27 : decode cX11_river 27 = .ok (.aload_n 3, 1) := by decide +kernel
theorem dX11_river_28 : decode cX11_river 28 = .ok (.getfield 57, 3) := by decide +kernel
theorem dX11_river_31 : decode cX11_river 31 = .ok (.aload_n 3, 1) := by decide +kernel
theorem dX11_river_32 : decode cX11_river 32 = .ok (.getfield 61, 3) := by decide +kernel
theorem dX11_river_35 : decode cX11_river 35 = .ok (.invokevirtual 64, 3) := by decide +kernel
theorem dX11_river_38 : decode cX11_river 38 = .ok (.aload_n 0, 1) := by decide +kernel
theorem dX11_river_39 : decode cX11_river 39 = .ok (.getfield 31, 3) := by decide +kernel
theorem dX11_river_42 : decode cX11_river 42 = .ok (.invokevirtual 68, 3) := by decide +kernel
theorem dX11_river_45 : decode cX11_river 45 = .ok (.istore 4, 2) := by decide +kernel
theorem dX11_river_47 : decode cX11_river 47 = .ok (.iload 4, 2) := by decide +kernel
theorem dX11_river_49 : decode cX11_river 49 = .ok (.ifCond .ne 15, 3) := by decide +kernel
theorem dX11_river_52 : decode cX11_river 52 = .ok (.sipush (-1000), 3) := by decide +kernel
theorem dX11_river_55 : decode cX11_river 55 = .ok (.aload_n 0, 1) := by decide +kernel
theorem dX11_river_56 : decode cX11_river 56 = .ok (.getfield 31, 3) := by decide +kernel
theorem dX11_river_59 : decode cX11_river 59 = .ok (.getfield 72, 3) := by decide +kernel
theorem dX11_river_62 : decode cX11_river 62 = .ok (.isub, 1) := by decide +kernel
theorem dX11_river_63 : decode cX11_river 63 = .ok (.ireturn, 1) := by decide +kernel
theorem dX11_river_64 : decode cX11_river 64 = .ok (.aload_n 0, 1) := by decide +kernel
theorem dX11_river_65 : decode cX11_river 65 = .ok (.getfield 31, 3) := by decide +kernel
theorem dX11_river_68 : decode cX11_river 68 = .ok (.aload_n 3, 1) := by decide +kernel
theorem dX11_river_69 : decode cX11_river 69 = .ok (.getfield 57, 3) := by decide +kernel
theorem dX11_river_72 : decode cX11_river 72 = .ok (.aload_n 3, 1) := by decide +kernel
theorem dX11_river_73 : decode cX11_river 73 = .ok (.getfield 61, 3) := by decide +kernel
theorem dX11_river_76 : decode cX11_river 76 = .ok (.invokevirtual 64, 3) := by decide +kernel
theorem dX11_river_79 : decode cX11_river 79 = .ok (.aload_n 0, 1) := by decide +kernel
theorem dX11_river_80 : decode cX11_river 80 = .ok (.getfield 25, 3) := by decide +kernel
theorem dX11_river_83 : decode cX11_river 83 = .ok (.aload_n 0, 1) := by decide +kernel
theorem dX11_river_84 : decode cX11_river 84 = .ok (.getfield 12, 3) := by decide +kernel
theorem dX11_river_87 : decode cX11_river 87 = .ok (.invokevirtual 75, 3) := by decide +kernel
theorem dX11_river_90 : decode cX11_river 90 = .ok (.iconst 0, 1) := by decide +kernel
theorem dX11_river_91 : decode cX11_river 91 = .ok (.istore 5, 2) := by decide +kernel
theorem dX11_river_93 : decode cX11_river 93 = .ok (.iload 5, 2) := by decide +kernel
theorem dX11_river_95 : decode cX11_river 95 = .ok (.iload 4, 2) := by decide +kernel
theorem dX11_river_97 : decode cX11_river 97 = .ok (.if_icmp .ge 45, 3) := by decide +kernel
theorem dX11_river_100 : decode cX11_river 100 = .ok (.aload_n 0, 1) := by decide +kernel
theorem dX11_river_101 : decode cX11_river 101 = .ok (.getfield 31, 3) := by decide +kernel
theorem dX11_river_104 : decode cX11_river 104 = .ok (.invokevirtual 78, 3) := by decide +kernel
theorem dX11_river_107 : decode cX11_river 107 = .ok (.ifCond .eq 17, 3) := by decide +kernel
theorem dX11_river_110 : decode cX11_river 110 = .ok (.aload_n 0, 1) := by decide +kernel
theorem dX11_river_111 : decode cX11_river 111 = .ok (.getfield 31, 3) := by decide +kernel
theorem dX11_river_114 : decode cX11_river 114 = .ok (.aload_n 0, 1) := by decide +kernel
theorem dX11_river_115 : decode cX11_river 115 = .ok (.getfield 25, 3) := by decide +kernel
theorem dX11_river_118 : decode cX11_river 118 = .ok (.invokevirtual 82, 3) := by decide +kernel
theorem dX11_river_121 : decode cX11_river 121 = .ok (.ifCond .ne 15, 3) := by decide +kernel
theorem dX11_river_124 : decode cX11_river 124 = .ok (.sipush (-2000), 3) := by decide +kernel
theorem dX11_river_127 : decode cX11_river 127 = .ok (.aload_n 0, 1) := by decide +kernel
theorem dX11_river_128 : decode cX11_river 128 = .ok (.getfield 31, 3) := by decide +kernel
theorem dX11_river_131 : decode cX11_river 131 = .ok (.getfield 86, 3) := by decide +kernel
theorem dX11_river_134 : decode cX11_river 134 = .ok (.isub, 1) := by decide +kernel
theorem dX11_river_135 : decode cX11_river 135 = .ok (.ireturn, 1) := by decide +kernel
theorem dX11_river_136 : decode cX11_river 136 = .ok (.iinc 5 1, 3) := by decide +kernel
theorem dX11_river_139 : decode cX11_river 139 = .ok (.goto (-46), 3) := by decide +kernel
theorem dX11_river_142 : decode cX11_river 142 = .ok (.aload_n 0, 1) := by decide +kernel
theorem dX11_river_143 : decode cX11_river 143 = .ok (.getfield 12, 3) := by decide +kernel
theorem dX11_river_146 : decode cX11_river 146 = .ok (.aload_n 0, 1) := by decide +kernel
theorem dX11_river_147 : decode cX11_river 147 = .ok (.getfield 25, 3) := by decide +kernel
theorem dX11_river_150 : decode cX11_river 150 = .ok (.invokevirtual 75, 3) := by decide +kernel
theorem dX11_river_153 : decode cX11_river 153 = .ok (.iload 4, 2) := by decide +kernel
theorem dX11_river_155 : decode cX11_river 155 = .ok (.ireturn, 1) := by decide +kernel
theorem dX11_minutes_0 : decode cX11_minutes 0 = .ok (.aload_n 0, 1) := by decide +kernel
theorem dX11_minutes_1 : decode cX11_minutes 1 = .ok (.getfield 12, 3) := by decide +kernel
theorem dX11_minutes_4 : decode cX11_minutes 4 = .ok (.iload_n 1, 1) := by decide +kernel
theorem dX11_minutes_5 : decode cX11_minutes 5 = .ok (.invokevirtual 89, 3) := by decide +kernel
theorem dX11_minutes_8 : decode cX11_minutes 8 = .ok (.ifCond .eq 19, 3) := by decide +kernel
theorem dX11_minutes_11 : decode cX11_minutes 11 = .ok (.aload_n 0, 1) := by decide +kernel
theorem dX11_minutes_12 : decode cX11_minutes 12 = .ok (.getfield 12, 3) := by decide +kernel
theorem dX11_minutes_15 : decode cX11_minutes 15 = .ok (.iload_n 2, 1) := by decide +kernel
theorem dX11_minutes_16 : decode cX11_minutes 16 = .ok (.invokevirtual 89, 3) := by decide +kernel
theorem dX11_minutes_19 : decode cX11_minutes 19 = .ok (.ifCond .eq 8, 3) := by decide +kernel
theorem dX11_minutes_22 : decode cX11_minutes 22 = .ok (.iload_n 1, 1) := by decide +kernel
theorem dX11_minutes_23 : decode cX11_minutes 23 = .ok (.iload_n 2, 1) := by decide +kernel
theorem dX11_minutes_24 : decode cX11_minutes 24 = .ok (.if_icmp .ne 5, 3) := by decide +kernel
theorem dX11_minutes_27 : decode cX11_minutes 27 = .ok (.iconst (-1), 1) := by decide +kernel
theorem dX11_minutes_28 : decode cX11_minutes 28 = .ok (.ireturn, 1) := by decide +kernel
theorem dX11_minutes_29 : decode cX11_minutes 29 = .ok (.aload_n 0, 1) := by decide +kernel
theorem dX11_minutes_30 : decode cX11_minutes 30 = .ok (.getfield 12, 3) := by decide +kernel
theorem dX11_minutes_33 : decode cX11_minutes 33 = .ok (.iload_n 1, 1) := by decide +kernel
theorem dX11_minutes_34 : decode cX11_minutes 34 = .ok (.iload_n 2, 1) := by decide +kernel
theorem dX11_minutes_35 : decode cX11_minutes 35 = .ok (.invokevirtual 93, 3) := by decide +kernel
theorem dX11_minutes_38 : decode cX11_minutes 38 = .ok (.ireturn, 1) := by decide +kernel
theorem dX11_sort_0 : decode cX11_sort 0 = .ok (.aload_n 0, 1) := by decide +kernel
theorem dX11_sort_1 : decode cX11_sort 1 = .ok (.getfield 12, 3) := by decide +kernel
theorem dX11_sort_4 : decode cX11_sort 4 = .ok (.iload_n 1, 1) := by decide +kernel
theorem dX11_sort_5 : decode cX11_sort 5 = .ok (.invokevirtual 96, 3) := by decide +kernel
theorem dX11_sort_8 : decode cX11_sort 8 = .ok (.ifCond .eq 12, 3) := by decide +kernel
theorem dX11_sort_11 : decode cX11_sort 11 = .ok (.iload_n 2, 1) := by decide +kernel
theorem dX11_sort_12 : decode cX11_sort 12 = .ok (.ifCond .lt 8, 3) := by decide +kernel
theorem dX11_sort_15 : decode cX11_sort 15 = .ok (.iload_n 2, 1) := by decide +kernel
theorem dX11_sort_16 : decode cX11_sort 16 = .ok (.iconst 4, 1) := by decide +kernel
theorem dX11_sort_17 : decode cX11_sort 17 = .ok (.if_icmp .le 5, 3) := by decide +kernel
theorem dX11_sort_20 : decode cX11_sort 20 = .ok (.iconst (-1), 1) := by decide +kernel
theorem dX11_sort_21 : decode cX11_sort 21 = .ok (.ireturn, 1) := by decide +kernel
theorem dX11_sort_22 : decode cX11_sort 22 = .ok (.aload_n 0, 1) := by decide +kernel
theorem dX11_sort_23 : decode cX11_sort 23 = .ok (.getfield 12, 3) := by decide +kernel
theorem dX11_sort_26 : decode cX11_sort 26 = .ok (.iload_n 1, 1) := by decide +kernel
theorem dX11_sort_27 : decode cX11_sort 27 = .ok (.iload_n 2, 1) := by decide +kernel
theorem dX11_sort_28 : decode cX11_sort 28 = .ok (.invokevirtual 99, 3) := by decide +kernel
theorem dX11_sort_31 : decode cX11_sort 31 = .ok (.ireturn, 1) := by decide +kernel
theorem dX11_comes_0 : decode cX11_comes 0 = .ok (.aload_n 0, 1) := by decide +kernel
theorem dX11_comes_1 : decode cX11_comes 1 = .ok (.getfield 12, 3) := by decide +kernel
theorem dX11_comes_4 : decode cX11_comes 4 = .ok (.iload_n 1, 1) := by decide +kernel
theorem dX11_comes_5 : decode cX11_comes 5 = .ok (.invokevirtual 96, 3) := by decide +kernel
theorem dX11_comes_8 : decode cX11_comes 8 = .ok (.ifCond .eq 13, 3) := by decide +kernel
theorem dX11_comes_11 : decode cX11_comes 11 = .ok (.iload_n 2, 1) := by decide +kernel
theorem dX11_comes_12 : decode cX11_comes 12 = .ok (.ifCond .lt 9, 3) := by decide +kernel
theorem dX11_comes_15 : decode cX11_comes 15 = .ok (.iload_n 2, 1) := by decide +kernel
theorem dX11_comes_16 : decode cX11_comes 16 = .ok (.bipush 100, 2) := by decide +kernel
theorem dX11_comes_18 : decode cX11_comes 18 = .ok (.if_icmp .le 5, 3) := by decide +kernel
theorem dX11_comes_21 : decode cX11_comes 21 = .ok (.iconst (-1), 1) := by decide +kernel
theorem dX11_comes_22 : decode cX11_comes 22 = .ok (.ireturn, 1) := by decide +kernel
theorem dX11_comes_23 : decode cX11_comes 23 = .ok (.aload_n 0, 1) := by decide +kernel
theorem dX11_comes_24 : decode cX11_comes 24 = .ok (.getfield 12, 3) := by decide +kernel
theorem dX11_comes_27 : decode cX11_comes 27 = .ok (.iload_n 1, 1) := by decide +kernel
theorem dX11_comes_28 : decode cX11_comes 28 = .ok (.iconst 2, 1) := by decide +kernel
theorem dX11_comes_29 : decode cX11_comes 29 = .ok (.invokevirtual 99, 3) := by decide +kernel
theorem dX11_comes_32 : decode cX11_comes 32 = .ok (.istore_n 3, 1) := by decide +kernel
theorem dX11_comes_33 : decode cX11_comes 33 = .ok (.aload_n 0, 1) := by decide +kernel
theorem dX11_comes_34 : decode cX11_comes 34 = .ok (.getfield 12, 3) := by decide +kernel
theorem dX11_comes_37 : decode cX11_comes 37 = .ok (.iload_n 1, 1) := by decide +kernel
theorem dX11_comes_38 : decode cX11_comes 38 = .ok (.iconst 2, 1) := by decide +kernel
theorem dX11_comes_39 : decode cX11_comes 39 = .ok (.iload_n 2, 1) := by decide +kernel
theorem dX11_comes_40 : decode cX11_comes 40 = .ok (.invokevirtual 102, 3) := by decide +kernel
theorem dX11_comes_43 : decode cX11_comes 43 = .ok (.iload_n 3, 1) := by decide +kernel
theorem dX11_comes_44 : decode cX11_comes 44 = .ok (.ireturn, 1) := by decide +kernel
theorem dX11_set_0 : decode cX11_set 0 = .ok (.iload_n 1, 1) := by decide +kernel
theorem dX11_set_1 : decode cX11_set 1 = .ok (.iconst 1, 1) := by decide +kernel
theorem dX11_set_2 : decode cX11_set 2 = .ok (.if_icmp .ne 21, 3) := by decide +kernel
theorem dX11_set_5 : decode cX11_set 5 = .ok (.aload_n 0, 1) := by decide +kernel
theorem dX11_set_6 : decode cX11_set 6 = .ok (.getfield 12, 3) := by decide +kernel
theorem dX11_set_9 : decode cX11_set 9 = .ok (.getfield 106, 3) := by decide +kernel
theorem dX11_set_12 : decode cX11_set 12 = .ok (.istore_n 3, 1) := by decide +kernel
theorem dX11_set_13 : decode cX11_set 13 = .ok (.aload_n 0, 1) := by decide +kernel
theorem dX11_set_14 : decode cX11_set 14 = .ok (.getfield 12, 3) := by decide +kernel
theorem dX11_set_17 : decode cX11_set 17 = .ok (.iload_n 2, 1) := by decide +kernel
theorem dX11_set_18 : decode cX11_set 18 = .ok (.putfield 106, 3) := by decide +kernel
theorem dX11_set_21 : decode cX11_set 21 = .ok (.iload_n 3, 1) := by decide +kernel
theorem dX11_set_22 : decode cX11_set 22 = .ok (.ireturn, 1) := by decide +kernel
theorem dX11_set_23 : decode cX11_set 23 = .ok (.iload_n 1, 1) := by decide +kernel
theorem dX11_set_24 : decode cX11_set 24 = .ok (.ifCond .ne 14, 3) := by decide +kernel
theorem dX11_set_27 : decode cX11_set 27 = .ok (.iload_n 2, 1) := by decide +kernel
theorem dX11_set_28 : decode cX11_set 28 = .ok (.iconst 1, 1) := by decide +kernel
theorem dX11_set_29 : decode cX11_set 29 = .ok (.if_icmp .lt 9, 3) := by decide +kernel
theorem dX11_set_32 : decode cX11_set 32 = .ok (.iload_n 2, 1) := by decide +kernel
theorem dX11_set_33 : decode cX11_set 33 = .ok (.bipush 6, 2) := by decide +kernel
theorem dX11_set_35 : decode cX11_set 35 = .ok (.if_icmp .le 5, 3) := by decide +kernel
theorem dX11_set_38 : decode cX11_set 38 = .ok (.iconst (-1), 1) := by decide +kernel
theorem dX11_set_39 : decode cX11_set 39 = .ok (.ireturn, 1) := by decide +kernel
theorem dX11_set_40 : decode cX11_set 40 = .ok (.aload_n 0, 1) := by decide +kernel
theorem dX11_set_41 : decode cX11_set 41 = .ok (.getfield 12, 3) := by decide +kernel
theorem dX11_set_44 : decode cX11_set 44 = .ok (.getfield 109, 3) := by decide +kernel
theorem dX11_set_47 : decode cX11_set 47 = .ok (.istore_n 3, 1) := by decide +kernel
theorem dX11_set_48 : decode cX11_set 48 = .ok (.aload_n 0, 1) := by decide +kernel
theorem dX11_set_49 : decode cX11_set 49 = .ok (.getfield 12, 3) := by decide +kernel
theorem dX11_set_52 : decode cX11_set 52 = .ok (.iload_n 2, 1) := by decide +kernel
theorem dX11_set_53 : decode cX11_set 53 = .ok (.invokevirtual 112, 3) := by decide +kernel
theorem dX11_set_56 : decode cX11_set 56 = .ok (.ifCond .eq 7, 3) := by decide +kernel
theorem dX11_set_59 : decode cX11_set 59 = .ok (.iload_n 3, 1) := by decide +kernel
theorem dX11_set_60 : decode cX11_set 60 = .ok (.goto 5, 3) := by decide +kernel
theorem dX11_set_63 : decode cX11_set 63 = .ok (.bipush (-3), 2) := by decide +kernel
theorem dX11_set_65 : decode cX11_set 65 = .ok (.ireturn, 1) := by decide +kernel
theorem dX11_rule_0 : decode cX11_rule 0 = .ok (.aload_n 0, 1) := by decide +kernel
theorem dX11_rule_1 : decode cX11_rule 1 = .ok (.iload_n 1, 1) := by decide +kernel
theorem dX11_rule_2 : decode cX11_rule 2 = .ok (.invokevirtual 115, 3) := by decide +kernel
theorem dX11_rule_5 : decode cX11_rule 5 = .ok (.astore_n 2, 1) := by decide +kernel
theorem dX11_rule_6 : decode cX11_rule 6 = .ok (.aload_n 2, 1) := by decide +kernel
theorem dX11_rule_7 : decode cX11_rule 7 = .ok (.ifnonnull 9, 3) := by decide +kernel
theorem dX11_rule_10 : decode cX11_rule 10 = .ok (.aload_n 0, 1) := by decide +kernel
theorem dX11_rule_11 : decode cX11_rule 11 = .ok (.iload_n 1, 1) := by decide +kernel
theorem dX11_rule_12 : decode cX11_rule 12 = .ok (.invokevirtual 119, 3) := by decide +kernel
theorem dX11_rule_15 : decode cX11_rule 15 = .ok (.ireturn, 1) := by decide +kernel
theorem dX11_rule_16 : decode cX11_rule 16 = .ok (.aload_n 0, 1) := by decide +kernel
theorem dX11_rule_17 : decode cX11_rule 17 = .ok (.getfield 12, 3) := by decide +kernel
theorem dX11_rule_20 : decode cX11_rule 20 = .ok (.getfield 123, 3) := by decide +kernel
theorem dX11_rule_23 : decode cX11_rule 23 = .ok (.aload_n 2, 1) := by decide +kernel
theorem dX11_rule_24 : decode cX11_rule 24 = .ok (.putfield 127, 3) := by decide +kernel
theorem dX11_rule_27 : decode cX11_rule 27 = .ok (.aload_n 2, 1) := by decide +kernel
theorem dX11_rule_28 : decode cX11_rule 28 = .ok (.invokevirtual 133, 3) := by decide +kernel
theorem dX11_rule_31 : decode cX11_rule 31 = .ok (.ireturn, 1) := by decide +kernel
theorem dX11_go_0 : decode cX11_go 0 = .ok (.iload_n 1, 1) := by decide +kernel
theorem dX11_go_1 : decode cX11_go 1 = .ok (.iconst 1, 1) := by decide +kernel
theorem dX11_go_2 : decode cX11_go 2 = .ok (.if_icmp .lt 9, 3) := by decide +kernel
theorem dX11_go_5 : decode cX11_go 5 = .ok (.iload_n 1, 1) := by decide +kernel
theorem dX11_go_6 : decode cX11_go 6 = .ok (.bipush 60, 2) := by decide +kernel
theorem dX11_go_8 : decode cX11_go 8 = .ok (.if_icmp .le 5, 3) := by decide +kernel
theorem dX11_go_11 : decode cX11_go 11 = .ok (.iconst (-1), 1) := by decide +kernel
theorem dX11_go_12 : decode cX11_go 12 = .ok (.ireturn, 1) := by decide +kernel
theorem dX11_go_13 : decode cX11_go 13 = .ok (.aload_n 0, 1) := by decide +kernel
theorem dX11_go_14 : decode cX11_go 14 = .ok (.getfield 12, 3) := by decide +kernel
theorem dX11_go_17 : decode cX11_go 17 = .ok (.getfield 138, 3) := by decide +kernel
theorem dX11_go_20 : decode cX11_go 20 = .ok (.iload_n 1, 1) := by decide +kernel
theorem dX11_go_21 : decode cX11_go 21 = .ok (.iadd, 1) := by decide +kernel
theorem dX11_go_22 : decode cX11_go 22 = .ok (.sipush 999, 3) := by decide +kernel
theorem dX11_go_25 : decode cX11_go 25 = .ok (.if_icmp .le 6, 3) := by decide +kernel
theorem dX11_go_28 : decode cX11_go 28 = .ok (.bipush (-2), 2) := by decide +kernel
theorem dX11_go_30 : decode cX11_go 30 = .ok (.ireturn, 1) := by decide +kernel
theorem dX11_go_31 : decode cX11_go 31 = .ok (.aload_n 0, 1) := by decide +kernel
theorem dX11_go_32 : decode cX11_go 32 = .ok (.getfield 12, 3) := by decide +kernel
theorem dX11_go_35 : decode cX11_go 35 = .ok (.iload_n 1, 1) := by decide +kernel
theorem dX11_go_36 : decode cX11_go 36 = .ok (.invokevirtual 141, 3) := by decide +kernel
theorem dX11_go_39 : decode cX11_go 39 = .ok (.aload_n 0, 1) := by decide +kernel
theorem dX11_go_40 : decode cX11_go 40 = .ok (.getfield 12, 3) := by decide +kernel
theorem dX11_go_43 : decode cX11_go 43 = .ok (.getfield 138, 3) := by decide +kernel
theorem dX11_go_46 : decode cX11_go 46 = .ok (.ireturn, 1) := by decide +kernel
theorem dX11_tell_0 : decode cX11_tell 0 = .ok (.aload_n 0, 1) := by decide +kernel
theorem dX11_tell_1 : decode cX11_tell 1 = .ok (.getfield 12, 3) := by decide +kernel
theorem dX11_tell_4 : decode cX11_tell 4 = .ok (.iload_n 1, 1) := by decide +kernel
theorem dX11_tell_5 : decode cX11_tell 5 = .ok (.invokevirtual 89, 3) := by decide +kernel
theorem dX11_tell_8 : decode cX11_tell 8 = .ok (.ifCond .ne 5, 3) := by decide +kernel
theorem dX11_tell_11 : decode cX11_tell 11 = .ok (.iconst (-1), 1) := by decide +kernel
theorem dX11_tell_12 : decode cX11_tell 12 = .ok (.ireturn, 1) := by decide +kernel
theorem dX11_tell_13 : decode cX11_tell 13 = .ok (.aload_n 0, 1) := by decide +kernel
theorem dX11_tell_14 : decode cX11_tell 14 = .ok (.getfield 12, 3) := by decide +kernel
theorem dX11_tell_17 : decode cX11_tell 17 = .ok (.getfield 123, 3) := by decide +kernel
theorem dX11_tell_20 : decode cX11_tell 20 = .ok (.getfield 145, 3) := by decide +kernel
theorem dX11_tell_23 : decode cX11_tell 23 = .ok (.ifCond .gt 17, 3) := by decide +kernel
theorem dX11_tell_26 : decode cX11_tell 26 = .ok (.aload_n 0, 1) := by decide +kernel
theorem dX11_tell_27 : decode cX11_tell 27 = .ok (.getfield 12, 3) := by decide +kernel
theorem dX11_tell_30 : decode cX11_tell 30 = .ok (.getfield 123, 3) := by decide +kernel
theorem dX11_tell_33 : decode cX11_tell 33 = .ok (.getfield 148, 3) := by decide +kernel
theorem dX11_tell_36 : decode cX11_tell 36 = .ok (.iload_n 1, 1) := by decide +kernel
theorem dX11_tell_37 : decode cX11_tell 37 = .ok (.if_icmp .ne 6, 3) := by decide +kernel
theorem dX11_tell_40 : decode cX11_tell 40 = .ok (.bipush (-3), 2) := by decide +kernel
theorem dX11_tell_42 : decode cX11_tell 42 = .ok (.ireturn, 1) := by decide +kernel
theorem dX11_tell_43 : decode cX11_tell 43 = .ok (.aload_n 0, 1) := by decide +kernel
theorem dX11_tell_44 : decode cX11_tell 44 = .ok (.getfield 12, 3) := by decide +kernel
theorem dX11_tell_47 : decode cX11_tell 47 = .ok (.aload_n 0, 1) := by decide +kernel
theorem dX11_tell_48 : decode cX11_tell 48 = .ok (.getfield 12, 3) := by decide +kernel
theorem dX11_tell_51 : decode cX11_tell 51 = .ok (.getfield 123, 3) := by decide +kernel
theorem dX11_tell_54 : decode cX11_tell 54 = .ok (.iload_n 1, 1) := by decide +kernel
theorem dX11_tell_55 : decode cX11_tell 55 = .ok (.invokevirtual 149, 3) := by decide +kernel
theorem dX11_tell_58 : decode cX11_tell 58 = .ok (.aload_n 0, 1) := by decide +kernel
theorem dX11_tell_59 : decode cX11_tell 59 = .ok (.getfield 12, 3) := by decide +kernel
theorem dX11_tell_62 : decode cX11_tell 62 = .ok (.getfield 123, 3) := by decide +kernel
theorem dX11_tell_65 : decode cX11_tell 65 = .ok (.getfield 145, 3) := by decide +kernel
theorem dX11_tell_68 : decode cX11_tell 68 = .ok (.ireturn, 1) := by decide +kernel
theorem dX11_boat_0 : decode cX11_boat 0 = .ok (.aload_n 0, 1) := by decide +kernel
theorem dX11_boat_1 : decode cX11_boat 1 = .ok (.getfield 12, 3) := by decide +kernel
theorem dX11_boat_4 : decode cX11_boat 4 = .ok (.getfield 123, 3) := by decide +kernel
theorem dX11_boat_7 : decode cX11_boat 7 = .ok (.astore_n 2, 1) := by decide +kernel
theorem dX11_boat_8 : decode cX11_boat 8 = .ok (.aload_n 2, 1) := by decide +kernel
theorem dX11_boat_9 : decode cX11_boat 9 = .ok (.getfield 145, 3) := by decide +kernel
theorem dX11_boat_12 : decode cX11_boat 12 = .ok (.ifCond .le 7, 3) := by decide +kernel
theorem dX11_boat_15 : decode cX11_boat 15 = .ok (.iconst 1, 1) := by decide +kernel
theorem dX11_boat_16 : decode cX11_boat 16 = .ok (.goto 4, 3) := by decide +kernel
theorem dX11_boat_19 : decode cX11_boat 19 = .ok (.iconst 0, 1) := by decide +kernel
theorem dX11_boat_20 : decode cX11_boat 20 = .ok (.istore_n 3, 1) := by decide +kernel
theorem dX11_boat_21 : decode cX11_boat 21 = .ok (.iload_n 1, 1) := by decide +kernel
theorem dX11_boat_22 : decode cX11_boat 22 = .ok (.tableswitch 80 0 4 #[34, 48, 62, 67, 72], 34) := by decide +kernel
theorem dX11_boat_56 : decode cX11_boat 56 = .ok (.iload_n 3, 1) := by decide +kernel
theorem dX11_boat_57 : decode cX11_boat 57 = .ok (.ifCond .eq 8, 3) := by decide +kernel
theorem dX11_boat_60 : decode cX11_boat 60 = .ok (.bipush (-4), 2) := by decide +kernel
theorem dX11_boat_62 : decode cX11_boat 62 = .ok (.goto 7, 3) := by decide +kernel
theorem dX11_boat_65 : decode cX11_boat 65 = .ok (.aload_n 2, 1) := by decide +kernel
theorem dX11_boat_66 : decode cX11_boat 66 = .ok (.getfield 148, 3) := by decide +kernel
theorem dX11_boat_69 : decode cX11_boat 69 = .ok (.ireturn, 1) := by decide +kernel
theorem dX11_boat_70 : decode cX11_boat 70 = .ok (.iload_n 3, 1) := by decide +kernel
theorem dX11_boat_71 : decode cX11_boat 71 = .ok (.ifCond .eq 10, 3) := by decide +kernel
theorem dX11_boat_74 : decode cX11_boat 74 = .ok (.aload_n 2, 1) := by decide +kernel
theorem dX11_boat_75 : decode cX11_boat 75 = .ok (.getfield 148, 3) := by decide +kernel
theorem dX11_boat_78 : decode cX11_boat 78 = .ok (.goto 5, 3) := by decide +kernel
theorem dX11_boat_81 : decode cX11_boat 81 = .ok (.bipush (-4), 2) := by decide +kernel
theorem dX11_boat_83 : decode cX11_boat 83 = .ok (.ireturn, 1) := by decide +kernel
theorem dX11_boat_84 : decode cX11_boat 84 = .ok (.aload_n 2, 1) := by decide +kernel
theorem dX11_boat_85 : decode cX11_boat 85 = .ok (.getfield 145, 3) := by decide +kernel
theorem dX11_boat_88 : decode cX11_boat 88 = .ok (.ireturn, 1) := by decide +kernel
theorem dX11_boat_89 : decode cX11_boat 89 = .ok (.aload_n 2, 1) := by decide +kernel
theorem dX11_boat_90 : decode cX11_boat 90 = .ok (.getfield 153, 3) := by decide +kernel
theorem dX11_boat_93 : decode cX11_boat 93 = .ok (.ireturn, 1) := by decide +kernel
theorem dX11_boat_94 : decode cX11_boat 94 = .ok (.aload_n 2, 1) := by decide +kernel
theorem dX11_boat_95 : decode cX11_boat 95 = .ok (.getfield 127, 3) := by decide +kernel
theorem dX11_boat_98 : decode cX11_boat 98 = .ok (.invokevirtual 133, 3) := by decide +kernel
theorem dX11_boat_101 : decode cX11_boat 101 = .ok (.ireturn, 1) := by decide +kernel
theorem dX11_boat_102 : decode cX11_boat 102 = .ok (.iconst (-1), 1) := by decide +kernel
theorem dX11_boat_103 : decode cX11_boat 103 = .ok (.ireturn, 1) := by decide +kernel
theorem dX11_stand_0 : decode cX11_stand 0 = .ok (.aload_n 0, 1) := by decide +kernel
theorem dX11_stand_1 : decode cX11_stand 1 = .ok (.getfield 12, 3) := by decide +kernel
theorem dX11_stand_4 : decode cX11_stand 4 = .ok (.iload_n 1, 1) := by decide +kernel
theorem dX11_stand_5 : decode cX11_stand 5 = .ok (.invokevirtual 89, 3) := by decide +kernel
theorem dX11_stand_8 : decode cX11_stand 8 = .ok (.ifCond .eq 17, 3) := by decide +kernel
theorem dX11_stand_11 : decode cX11_stand 11 = .ok (.iload_n 2, 1) := by decide +kernel
theorem dX11_stand_12 : decode cX11_stand 12 = .ok (.iconst (-1), 1) := by decide +kernel
theorem dX11_stand_13 : decode cX11_stand 13 = .ok (.if_icmp .lt 12, 3) := by decide +kernel
theorem dX11_stand_16 : decode cX11_stand 16 = .ok (.iload_n 3, 1) := by decide +kernel
theorem dX11_stand_17 : decode cX11_stand 17 = .ok (.ifCond .lt 8, 3) := by decide +kernel
theorem dX11_stand_20 : decode cX11_stand 20 = .ok (.iload_n 3, 1) := by decide +kernel
theorem dX11_stand_21 : decode cX11_stand 21 = .ok (.iconst 1, 1) := by decide +kernel
theorem dX11_stand_22 : decode cX11_stand 22 = .ok (.if_icmp .le 5, 3) := by decide +kernel
theorem dX11_stand_25 : decode cX11_stand 25 = .ok (.iconst (-1), 1) := by decide +kernel
theorem dX11_stand_26 : decode cX11_stand 26 = .ok (.ireturn, 1) := by decide +kernel
theorem dX11_stand_27 : decode cX11_stand 27 = .ok (.aload_n 0, 1) := by decide +kernel
theorem dX11_stand_28 : decode cX11_stand 28 = .ok (.getfield 12, 3) := by decide +kernel
theorem dX11_stand_31 : decode cX11_stand 31 = .ok (.iload_n 1, 1) := by decide +kernel
theorem dX11_stand_32 : decode cX11_stand 32 = .ok (.invokevirtual 156, 3) := by decide +kernel
theorem dX11_stand_35 : decode cX11_stand 35 = .ok (.istore 4, 2) := by decide +kernel
theorem dX11_stand_37 : decode cX11_stand 37 = .ok (.iload_n 2, 1) := by decide +kernel
theorem dX11_stand_38 : decode cX11_stand 38 = .ok (.iconst (-1), 1) := by decide +kernel
theorem dX11_stand_39 : decode cX11_stand 39 = .ok (.if_icmp .ne 6, 3) := by decide +kernel
theorem dX11_stand_42 : decode cX11_stand 42 = .ok (.iload 4, 2) := by decide +kernel
theorem dX11_stand_44 : decode cX11_stand 44 = .ok (.ireturn, 1) := by decide +kernel
theorem dX11_stand_45 : decode cX11_stand 45 = .ok (.iload_n 2, 1) := by decide +kernel
theorem dX11_stand_46 : decode cX11_stand 46 = .ok (.iload 4, 2) := by decide +kernel
theorem dX11_stand_48 : decode cX11_stand 48 = .ok (.if_icmp .lt 6, 3) := by decide +kernel
theorem dX11_stand_51 : decode cX11_stand 51 = .ok (.bipush (-4), 2) := by decide +kernel
theorem dX11_stand_53 : decode cX11_stand 53 = .ok (.ireturn, 1) := by decide +kernel
theorem dX11_stand_54 : decode cX11_stand 54 = .ok (.iload_n 3, 1) := by decide +kernel
theorem dX11_stand_55 : decode cX11_stand 55 = .ok (.ifCond .ne 15, 3) := by decide +kernel
theorem dX11_stand_58 : decode cX11_stand 58 = .ok (.aload_n 0, 1) := by decide +kernel
theorem dX11_stand_59 : decode cX11_stand 59 = .ok (.getfield 12, 3) := by decide +kernel
theorem dX11_stand_62 : decode cX11_stand 62 = .ok (.iload_n 1, 1) := by decide +kernel
theorem dX11_stand_63 : decode cX11_stand 63 = .ok (.iload_n 2, 1) := by decide +kernel
theorem dX11_stand_64 : decode cX11_stand 64 = .ok (.invokevirtual 159, 3) := by decide +kernel
theorem dX11_stand_67 : decode cX11_stand 67 = .ok (.goto 12, 3) := by decide +kernel
theorem dX11_stand_70 : decode cX11_stand 70 = .ok (.aload_n 0, 1) := by decide +kernel
theorem dX11_stand_71 : decode cX11_stand 71 = .ok (.getfield 12, 3) := by decide +kernel
theorem dX11_stand_74 : decode cX11_stand 74 = .ok (.iload_n 1, 1) := by decide +kernel
theorem dX11_stand_75 : decode cX11_stand 75 = .ok (.iload_n 2, 1) := by decide +kernel
theorem dX11_stand_76 : decode cX11_stand 76 = .ok (.invokevirtual 162, 3) := by decide +kernel
theorem dX11_stand_79 : decode cX11_stand 79 = .ok (.ireturn, 1) := by decide +kernel
theorem dX11_aboard_0 : decode cX11_aboard 0 = .ok (.iload_n 1, 1) := by decide +kernel
theorem dX11_aboard_1 : decode cX11_aboard 1 = .ok (.ifCond .ge 5, 3) := by decide +kernel
theorem dX11_aboard_4 : decode cX11_aboard 4 = .ok (.iconst (-1), 1) := by decide +kernel
theorem dX11_aboard_5 : decode cX11_aboard 5 = .ok (.ireturn, 1) := by decide +kernel
theorem dX11_aboard_6 : decode cX11_aboard 6 = .ok (.iload_n 1, 1) := by decide +kernel
theorem dX11_aboard_7 : decode cX11_aboard 7 = .ok (.aload_n 0, 1) := by decide +kernel
theorem dX11_aboard_8 : decode cX11_aboard 8 = .ok (.getfield 12, 3) := by decide +kernel
theorem dX11_aboard_11 : decode cX11_aboard 11 = .ok (.getfield 123, 3) := by decide +kernel
theorem dX11_aboard_14 : decode cX11_aboard 14 = .ok (.getfield 153, 3) := by decide +kernel
theorem dX11_aboard_17 : decode cX11_aboard 17 = .ok (.if_icmp .ge 20, 3) := by decide +kernel
theorem dX11_aboard_20 : decode cX11_aboard 20 = .ok (.aload_n 0, 1) := by decide +kernel
theorem dX11_aboard_21 : decode cX11_aboard 21 = .ok (.getfield 12, 3) := by decide +kernel
theorem dX11_aboard_24 : decode cX11_aboard 24 = .ok (.getfield 123, 3) := by decide +kernel
theorem dX11_aboard_27 : decode cX11_aboard 27 = .ok (.getfield 165, 3) := by decide +kernel
theorem dX11_aboard_30 : decode cX11_aboard 30 = .ok (.iload_n 1, 1) := by decide +kernel
theorem dX11_aboard_31 : decode cX11_aboard 31 = .ok (.invokestatic 168, 3) := by decide +kernel
theorem dX11_aboard_34 : decode cX11_aboard 34 = .ok (.goto 5, 3) := by decide +kernel
theorem dX11_aboard_37 : decode cX11_aboard 37 = .ok (.bipush (-4), 2) := by decide +kernel
theorem dX11_aboard_39 : decode cX11_aboard 39 = .ok (.ireturn, 1) := by decide +kernel
theorem dX11_told_0 : decode cX11_told 0 = .ok (.aload_n 0, 1) := by decide +kernel
theorem dX11_told_1 : decode cX11_told 1 = .ok (.getfield 12, 3) := by decide +kernel
theorem dX11_told_4 : decode cX11_told 4 = .ok (.iload_n 1, 1) := by decide +kernel
theorem dX11_told_5 : decode cX11_told 5 = .ok (.invokevirtual 172, 3) := by decide +kernel
theorem dX11_told_8 : decode cX11_told 8 = .ok (.ireturn, 1) := by decide +kernel
theorem dX11_day_0 : decode cX11_day 0 = .ok (.aload_n 0, 1) := by decide +kernel
theorem dX11_day_1 : decode cX11_day 1 = .ok (.getfield 12, 3) := by decide +kernel
theorem dX11_day_4 : decode cX11_day 4 = .ok (.iload_n 2, 1) := by decide +kernel
theorem dX11_day_5 : decode cX11_day 5 = .ok (.invokevirtual 89, 3) := by decide +kernel
theorem dX11_day_8 : decode cX11_day 8 = .ok (.ifCond .eq 21, 3) := by decide +kernel
theorem dX11_day_11 : decode cX11_day 11 = .ok (.iload_n 3, 1) := by decide +kernel
theorem dX11_day_12 : decode cX11_day 12 = .ok (.invokestatic 175, 3) := by decide +kernel
theorem dX11_day_15 : decode cX11_day 15 = .ok (.ifCond .ne 14, 3) := by decide +kernel
theorem dX11_day_18 : decode cX11_day 18 = .ok (.iload 5, 2) := by decide +kernel
theorem dX11_day_20 : decode cX11_day 20 = .ok (.ifCond .lt 9, 3) := by decide +kernel
theorem dX11_day_23 : decode cX11_day 23 = .ok (.iload 5, 2) := by decide +kernel
theorem dX11_day_25 : decode cX11_day 25 = .ok (.iconst 3, 1) := by decide +kernel
theorem dX11_day_26 : decode cX11_day 26 = .ok (.if_icmp .le 5, 3) := by decide +kernel
theorem dX11_day_29 : decode cX11_day 29 = .ok (.iconst (-1), 1) := by decide +kernel
theorem dX11_day_30 : decode cX11_day 30 = .ok (.ireturn, 1) := by decide +kernel
theorem dX11_day_31 : decode cX11_day 31 = .ok (.aload_n 0, 1) := by decide +kernel
theorem dX11_day_32 : decode cX11_day 32 = .ok (.iload_n 1, 1) := by decide +kernel
theorem dX11_day_33 : decode cX11_day 33 = .ok (.invokevirtual 115, 3) := by decide +kernel
theorem dX11_day_36 : decode cX11_day 36 = .ok (.astore 6, 2) := by decide +kernel
theorem dX11_day_38 : decode cX11_day 38 = .ok (.aload 6, 2) := by decide +kernel
theorem dX11_day_40 : decode cX11_day 40 = .ok (.ifnonnull 9, 3) := by decide +kernel
theorem dX11_day_43 : decode cX11_day 43 = .ok (.aload_n 0, 1) := by decide +kernel
theorem dX11_day_44 : decode cX11_day 44 = .ok (.iload_n 1, 1) := by decide +kernel
theorem dX11_day_45 : decode cX11_day 45 = .ok (.invokevirtual 119, 3) := by decide +kernel
theorem dX11_day_48 : decode cX11_day 48 = .ok (.ireturn, 1) := by decide +kernel
theorem dX11_day_49 : decode cX11_day 49 = .ok (.aload_n 0, 1) := by decide +kernel
theorem dX11_day_50 : decode cX11_day 50 = .ok (.aload 6, 2) := by decide +kernel
theorem dX11_day_52 : decode cX11_day 52 = .ok (.iload_n 2, 1) := by decide +kernel
theorem dX11_day_53 : decode cX11_day 53 = .ok (.iload 4, 2) := by decide +kernel
theorem dX11_day_55 : decode cX11_day 55 = .ok (.invokevirtual 178, 3) := by decide +kernel
theorem dX11_day_58 : decode cX11_day 58 = .ok (.aload_n 0, 1) := by decide +kernel
theorem dX11_day_59 : decode cX11_day 59 = .ok (.getfield 25, 3) := by decide +kernel
theorem dX11_day_62 : decode cX11_day 62 = .ok (.iload_n 3, 1) := by decide +kernel
theorem dX11_day_63 : decode cX11_day 63 = .ok (.invokevirtual 141, 3) := by decide +kernel
theorem dX11_day_66 : decode cX11_day 66 = .ok (.aload_n 0, 1) := by decide +kernel
theorem dX11_day_67 : decode cX11_day 67 = .ok (.getfield 25, 3) := by decide +kernel
theorem dX11_day_70 : decode cX11_day 70 = .ok (.iload 5, 2) := by decide +kernel
theorem dX11_day_72 : decode cX11_day 72 = .ok (.invokevirtual 172, 3) := by decide +kernel
theorem dX11_day_75 : decode cX11_day 75 = .ok (.ireturn, 1) := by decide +kernel
theorem dX11_mean_0 : decode cX11_mean 0 = .ok (.aload_n 0, 1) := by decide +kernel
theorem dX11_mean_1 : decode cX11_mean 1 = .ok (.getfield 12, 3) := by decide +kernel
theorem dX11_mean_4 : decode cX11_mean 4 = .ok (.iload_n 2, 1) := by decide +kernel
theorem dX11_mean_5 : decode cX11_mean 5 = .ok (.invokevirtual 89, 3) := by decide +kernel
theorem dX11_mean_8 : decode cX11_mean 8 = .ok (.ifCond .eq 18, 3) := by decide +kernel
theorem dX11_mean_11 : decode cX11_mean 11 = .ok (.iload_n 3, 1) := by decide +kernel
theorem dX11_mean_12 : decode cX11_mean 12 = .ok (.invokestatic 175, 3) := by decide +kernel
theorem dX11_mean_15 : decode cX11_mean 15 = .ok (.ifCond .ne 11, 3) := by decide +kernel
theorem dX11_mean_18 : decode cX11_mean 18 = .ok (.iload 4, 2) := by decide +kernel
theorem dX11_mean_20 : decode cX11_mean 20 = .ok (.invokestatic 182, 3) := by decide +kernel
theorem dX11_mean_23 : decode cX11_mean 23 = .ok (.ifCond .eq 6, 3) := by decide +kernel
theorem dX11_mean_26 : decode cX11_mean 26 = .ok (.ldc 185, 2) := by decide +kernel
theorem dX11_mean_28 : decode cX11_mean 28 = .ok (.ireturn, 1) := by decide +kernel
theorem dX11_mean_29 : decode cX11_mean 29 = .ok (.aload_n 0, 1) := by decide +kernel
theorem dX11_mean_30 : decode cX11_mean 30 = .ok (.iload_n 1, 1) := by decide +kernel
theorem dX11_mean_31 : decode cX11_mean 31 = .ok (.invokevirtual 115, 3) := by decide +kernel
theorem dX11_mean_34 : decode cX11_mean 34 = .ok (.astore 6, 2) := by decide +kernel
theorem dX11_mean_36 : decode cX11_mean 36 = .ok (.aload 6, 2) := by decide +kernel
theorem dX11_mean_38 : decode cX11_mean 38 = .ok (.ifnonnull 12, 3) := by decide +kernel
theorem dX11_mean_41 : decode cX11_mean 41 = .ok (.ldc 186, 2) := by decide +kernel
theorem dX11_mean_43 : decode cX11_mean 43 = .ok (.aload_n 0, 1) := by decide +kernel
theorem dX11_mean_44 : decode cX11_mean 44 = .ok (.iload_n 1, 1) := by decide +kernel
theorem dX11_mean_45 : decode cX11_mean 45 = .ok (.invokevirtual 119, 3) := by decide +kernel
theorem dX11_mean_48 : decode cX11_mean 48 = .ok (.iadd, 1) := by decide +kernel
theorem dX11_mean_49 : decode cX11_mean 49 = .ok (.ireturn, 1) := by decide +kernel
theorem dX11_mean_50 : decode cX11_mean 50 = .ok (.aload_n 0, 1) := by decide +kernel
theorem dX11_mean_51 : decode cX11_mean 51 = .ok (.aload 6, 2) := by decide +kernel
theorem dX11_mean_53 : decode cX11_mean 53 = .ok (.iload_n 2, 1) := by decide +kernel
theorem dX11_mean_54 : decode cX11_mean 54 = .ok (.iload_n 3, 1) := by decide +kernel
theorem dX11_mean_55 : decode cX11_mean 55 = .ok (.iload 4, 2) := by decide +kernel
theorem dX11_mean_57 : decode cX11_mean 57 = .ok (.iload 5, 2) := by decide +kernel
theorem dX11_mean_59 : decode cX11_mean 59 = .ok (.invokevirtual 187, 3) := by decide +kernel
theorem dX11_mean_62 : decode cX11_mean 62 = .ok (.ireturn, 1) := by decide +kernel
theorem dX11_best_0 : decode cX11_best 0 = .ok (.iload_n 2, 1) := by decide +kernel
theorem dX11_best_1 : decode cX11_best 1 = .ok (.ifCond .lt 24, 3) := by decide +kernel
theorem dX11_best_4 : decode cX11_best 4 = .ok (.iload_n 2, 1) := by decide +kernel
theorem dX11_best_5 : decode cX11_best 5 = .ok (.bipush 9, 2) := by decide +kernel
theorem dX11_best_7 : decode cX11_best 7 = .ok (.if_icmp .gt 18, 3) := by decide +kernel
theorem dX11_best_10 : decode cX11_best 10 = .ok (.iload_n 3, 1) := by decide +kernel
theorem dX11_best_11 : decode cX11_best 11 = .ok (.invokestatic 175, 3) := by decide +kernel
theorem dX11_best_14 : decode cX11_best 14 = .ok (.ifCond .ne 11, 3) := by decide +kernel
theorem dX11_best_17 : decode cX11_best 17 = .ok (.iload 4, 2) := by decide +kernel
theorem dX11_best_19 : decode cX11_best 19 = .ok (.invokestatic 182, 3) := by decide +kernel
theorem dX11_best_22 : decode cX11_best 22 = .ok (.ifCond .eq 5, 3) := by decide +kernel
theorem dX11_best_25 : decode cX11_best 25 = .ok (.iconst (-1), 1) := by decide +kernel
theorem dX11_best_26 : decode cX11_best 26 = .ok (.ireturn, 1) := by decide +kernel
theorem dX11_best_27 : decode cX11_best 27 = .ok (.aload_n 0, 1) := by decide +kernel
theorem dX11_best_28 : decode cX11_best 28 = .ok (.iload_n 1, 1) := by decide +kernel
theorem dX11_best_29 : decode cX11_best 29 = .ok (.iconst 0, 1) := by decide +kernel
theorem dX11_best_30 : decode cX11_best 30 = .ok (.invokevirtual 49, 3) := by decide +kernel
theorem dX11_best_33 : decode cX11_best 33 = .ok (.istore 6, 2) := by decide +kernel
theorem dX11_best_35 : decode cX11_best 35 = .ok (.aload_n 0, 1) := by decide +kernel
theorem dX11_best_36 : decode cX11_best 36 = .ok (.iload_n 1, 1) := by decide +kernel
theorem dX11_best_37 : decode cX11_best 37 = .ok (.invokevirtual 53, 3) := by decide +kernel
theorem dX11_best_40 : decode cX11_best 40 = .ok (.astore 7, 2) := by decide +kernel
theorem dX11_best_42 : decode cX11_best 42 = .ok (.iload 6, 2) := by decide +kernel
theorem dX11_best_44 : decode cX11_best 44 = .ok (.ifCond .ne 8, 3) := by decide +kernel
theorem dX11_best_47 : decode cX11_best 47 = .ok (.aload 7, 2) := by decide +kernel
theorem dX11_best_49 : decode cX11_best 49 = .ok (.ifnonnull 6, 3) := by decide +kernel
theorem dX11_best_52 : decode cX11_best 52 = .ok (.iload 6, 2) := by decide +kernel
theorem dX11_best_54 : decode cX11_best 54 = .ok (.ireturn, 1) := by decide +kernel
theorem dX11_best_55 : decode cX11_best 55 = .ok (.aload 7, 2) := by decide +kernel
theorem dX11_best_57 : decode cX11_best 57 = .ok (.invokevirtual 191, 3) := by decide +kernel
theorem dX11_best_60 : decode cX11_best 60 = .ok (.ifCond .ne 6, 3) := by decide +kernel
theorem dX11_best_63 : decode cX11_best 63 = .ok (.bipush (-13), 2) := by decide +kernel
theorem dX11_best_65 : decode cX11_best 65 = .ok (.ireturn, 1) := by decide +kernel
theorem dX11_best_66 : decode cX11_best 66 = .ok (.iconst 0, 1) := by decide +kernel
theorem dX11_best_67 : decode cX11_best 67 = .ok (.istore 8, 2) := by decide +kernel
theorem dX11_best_69 : decode cX11_best 69 = .ok (.iconst 0, 1) := by decide +kernel
theorem dX11_best_70 : decode cX11_best 70 = .ok (.istore 9, 2) := by decide +kernel
theorem dX11_best_72 : decode cX11_best 72 = .ok (.iconst 0, 1) := by decide +kernel
theorem dX11_best_73 : decode cX11_best 73 = .ok (.istore 10, 2) := by decide +kernel
theorem dX11_best_75 : decode cX11_best 75 = .ok (.iload 10, 2) := by decide +kernel
theorem dX11_best_77 : decode cX11_best 77 = .ok (.aload 7, 2) := by decide +kernel
theorem dX11_best_79 : decode cX11_best 79 = .ok (.getfield 61, 3) := by decide +kernel
theorem dX11_best_82 : decode cX11_best 82 = .ok (.if_icmp .ge 52, 3) := by decide +kernel
theorem dX11_best_85 : decode cX11_best 85 = .ok (.aload_n 0, 1) := by decide +kernel
theorem dX11_best_86 : decode cX11_best 86 = .ok (.aload 7, 2) := by decide +kernel
theorem dX11_best_88 : decode cX11_best 88 = .ok (.iload 10, 2) := by decide +kernel
theorem dX11_best_90 : decode cX11_best 90 = .ok (.invokevirtual 194, 3) := by decide +kernel
theorem dX11_best_93 : decode cX11_best 93 = .ok (.iload_n 2, 1) := by decide +kernel
theorem dX11_best_94 : decode cX11_best 94 = .ok (.invokestatic 197, 3) := by decide +kernel
theorem dX11_best_97 : decode cX11_best 97 = .ok (.iconst 0, 1) := by decide +kernel
theorem dX11_best_98 : decode cX11_best 98 = .ok (.iload_n 3, 1) := by decide +kernel
theorem dX11_best_99 : decode cX11_best 99 = .ok (.iload 4, 2) := by decide +kernel
theorem dX11_best_101 : decode cX11_best 101 = .ok (.iload 5, 2) := by decide +kernel
theorem dX11_best_103 : decode cX11_best 103 = .ok (.invokevirtual 187, 3) := by decide +kernel
theorem dX11_best_106 : decode cX11_best 106 = .ok (.istore 11, 2) := by decide +kernel
theorem dX11_best_108 : decode cX11_best 108 = .ok (.iload 10, 2) := by decide +kernel
theorem dX11_best_110 : decode cX11_best 110 = .ok (.ifCond .eq 10, 3) := by decide +kernel
theorem dX11_best_113 : decode cX11_best 113 = .ok (.iload 11, 2) := by decide +kernel
theorem dX11_best_115 : decode cX11_best 115 = .ok (.iload 9, 2) := by decide +kernel
theorem dX11_best_117 : decode cX11_best 117 = .ok (.if_icmp .le 11, 3) := by decide +kernel
theorem dX11_best_120 : decode cX11_best 120 = .ok (.iload 11, 2) := by decide +kernel
theorem dX11_best_122 : decode cX11_best 122 = .ok (.istore 9, 2) := by decide +kernel
theorem dX11_best_124 : decode cX11_best 124 = .ok (.iload 10, 2) := by decide +kernel
theorem dX11_best_126 : decode cX11_best 126 = .ok (.istore 8, 2) := by decide +kernel
theorem dX11_best_128 : decode cX11_best 128 = .ok (.iinc 10 1, 3) := by decide +kernel
theorem dX11_best_131 : decode cX11_best 131 = .ok (.goto (-56), 3) := by decide +kernel
theorem dX11_best_134 : decode cX11_best 134 = .ok (.iload 8, 2) := by decide +kernel
theorem dX11_best_136 : decode cX11_best 136 = .ok (.ireturn, 1) := by decide +kernel
theorem dX11_where_0 : decode cX11_where 0 = .ok (.iload_n 2, 1) := by decide +kernel
theorem dX11_where_1 : decode cX11_where 1 = .ok (.invokestatic 175, 3) := by decide +kernel
theorem dX11_where_4 : decode cX11_where 4 = .ok (.ifCond .ne 10, 3) := by decide +kernel
theorem dX11_where_7 : decode cX11_where 7 = .ok (.iload_n 3, 1) := by decide +kernel
theorem dX11_where_8 : decode cX11_where 8 = .ok (.invokestatic 182, 3) := by decide +kernel
theorem dX11_where_11 : decode cX11_where 11 = .ok (.ifCond .eq 5, 3) := by decide +kernel
theorem dX11_where_14 : decode cX11_where 14 = .ok (.iconst (-1), 1) := by decide +kernel
theorem dX11_where_15 : decode cX11_where 15 = .ok (.ireturn, 1) := by decide +kernel
theorem dX11_where_16 : decode cX11_where 16 = .ok (.aload_n 0, 1) := by decide +kernel
theorem dX11_where_17 : decode cX11_where 17 = .ok (.iload_n 1, 1) := by decide +kernel
theorem dX11_where_18 : decode cX11_where 18 = .ok (.invokevirtual 115, 3) := by decide +kernel
theorem dX11_where_21 : decode cX11_where 21 = .ok (.astore 5, 2) := by decide +kernel
theorem dX11_where_23 : decode cX11_where 23 = .ok (.aload 5, 2) := by decide +kernel
theorem dX11_where_25 : decode cX11_where 25 = .ok (.ifnonnull 9, 3) := by decide +kernel
theorem dX11_where_28 : decode cX11_where 28 = .ok (.aload_n 0, 1) := by decide +kernel
theorem dX11_where_29 : decode cX11_where 29 = .ok (.iload_n 1, 1) := by decide +kernel
theorem dX11_where_30 : decode cX11_where 30 = .ok (.invokevirtual 119, 3) := by decide +kernel
theorem dX11_where_33 : decode cX11_where 33 = .ok (.ireturn, 1) := by decide +kernel
theorem dX11_where_34 : decode cX11_where 34 = .ok (.iconst 0, 1) := by decide +kernel
theorem dX11_where_35 : decode cX11_where 35 = .ok (.istore 6, 2) := by decide +kernel
theorem dX11_where_37 : decode cX11_where 37 = .ok (.iconst 0, 1) := by decide +kernel
theorem dX11_where_38 : decode cX11_where 38 = .ok (.istore 7, 2) := by decide +kernel
theorem dX11_where_40 : decode cX11_where 40 = .ok (.iconst 0, 1) := by decide +kernel
theorem dX11_where_41 : decode cX11_where 41 = .ok (.istore 8, 2) := by decide +kernel
theorem dX11_where_43 : decode cX11_where 43 = .ok (.iload 8, 2) := by decide +kernel
theorem dX11_where_45 : decode cX11_where 45 = .ok (.aload_n 0, 1) := by decide +kernel
theorem dX11_where_46 : decode cX11_where 46 = .ok (.getfield 12, 3) := by decide +kernel
theorem dX11_where_49 : decode cX11_where 49 = .ok (.getfield 201, 3) := by decide +kernel
theorem dX11_where_52 : decode cX11_where 52 = .ok (.if_icmp .ge 43, 3) := by decide +kernel
theorem dX11_where_55 : decode cX11_where 55 = .ok (.aload_n 0, 1) := by decide +kernel
theorem dX11_where_56 : decode cX11_where 56 = .ok (.aload 5, 2) := by decide +kernel
theorem dX11_where_58 : decode cX11_where 58 = .ok (.iload 8, 2) := by decide +kernel
theorem dX11_where_60 : decode cX11_where 60 = .ok (.iload_n 2, 1) := by decide +kernel
theorem dX11_where_61 : decode cX11_where 61 = .ok (.iload_n 3, 1) := by decide +kernel
theorem dX11_where_62 : decode cX11_where 62 = .ok (.iload 4, 2) := by decide +kernel
theorem dX11_where_64 : decode cX11_where 64 = .ok (.invokevirtual 187, 3) := by decide +kernel
theorem dX11_where_67 : decode cX11_where 67 = .ok (.istore 9, 2) := by decide +kernel
theorem dX11_where_69 : decode cX11_where 69 = .ok (.iload 8, 2) := by decide +kernel
theorem dX11_where_71 : decode cX11_where 71 = .ok (.ifCond .eq 10, 3) := by decide +kernel
theorem dX11_where_74 : decode cX11_where 74 = .ok (.iload 9, 2) := by decide +kernel
theorem dX11_where_76 : decode cX11_where 76 = .ok (.iload 7, 2) := by decide +kernel
theorem dX11_where_78 : decode cX11_where 78 = .ok (.if_icmp .le 11, 3) := by decide +kernel
theorem dX11_where_81 : decode cX11_where 81 = .ok (.iload 9, 2) := by decide +kernel
theorem dX11_where_83 : decode cX11_where 83 = .ok (.istore 7, 2) := by decide +kernel
theorem dX11_where_85 : decode cX11_where 85 = .ok (.iload 8, 2) := by decide +kernel
theorem dX11_where_87 : decode cX11_where 87 = .ok (.istore 6, 2) := by decide +kernel
theorem dX11_where_89 : decode cX11_where 89 = .ok (.iinc 8 1, 3) := by decide +kernel
theorem dX11_where_92 : decode cX11_where 92 = .ok (.goto (-49), 3) := by decide +kernel
theorem dX11_where_95 : decode cX11_where 95 = .ok (.iload 6, 2) := by decide +kernel
theorem dX11_where_97 : decode cX11_where 97 = .ok (.ireturn, 1) := by decide +kernel
theorem dX11_enough_0 : decode cX11_enough 0 = .ok (.aload_n 0, 1) := by decide +kernel
theorem dX11_enough_1 : decode cX11_enough 1 = .ok (.getfield 12, 3) := by decide +kernel
theorem dX11_enough_4 : decode cX11_enough 4 = .ok (.iload_n 2, 1) := by decide +kernel
theorem dX11_enough_5 : decode cX11_enough 5 = .ok (.invokevirtual 89, 3) := by decide +kernel
theorem dX11_enough_8 : decode cX11_enough 8 = .ok (.ifCond .eq 10, 3) := by decide +kernel
theorem dX11_enough_11 : decode cX11_enough 11 = .ok (.iload_n 3, 1) := by decide +kernel
theorem dX11_enough_12 : decode cX11_enough 12 = .ok (.invokestatic 175, 3) := by decide +kernel
theorem dX11_enough_15 : decode cX11_enough 15 = .ok (.ifCond .eq 5, 3) := by decide +kernel
theorem dX11_enough_18 : decode cX11_enough 18 = .ok (.iconst (-1), 1) := by decide +kernel
theorem dX11_enough_19 : decode cX11_enough 19 = .ok (.ireturn, 1) := by decide +kernel
theorem dX11_enough_20 : decode cX11_enough 20 = .ok (.aload_n 0, 1) := by decide +kernel
theorem dX11_enough_21 : decode cX11_enough 21 = .ok (.iload_n 1, 1) := by decide +kernel
theorem dX11_enough_22 : decode cX11_enough 22 = .ok (.invokevirtual 115, 3) := by decide +kernel
theorem dX11_enough_25 : decode cX11_enough 25 = .ok (.astore 5, 2) := by decide +kernel
theorem dX11_enough_27 : decode cX11_enough 27 = .ok (.aload 5, 2) := by decide +kernel
theorem dX11_enough_29 : decode cX11_enough 29 = .ok (.ifnonnull 9, 3) := by decide +kernel
theorem dX11_enough_32 : decode cX11_enough 32 = .ok (.aload_n 0, 1) := by decide +kernel
theorem dX11_enough_33 : decode cX11_enough 33 = .ok (.iload_n 1, 1) := by decide +kernel
theorem dX11_enough_34 : decode cX11_enough 34 = .ok (.invokevirtual 119, 3) := by decide +kernel
theorem dX11_enough_37 : decode cX11_enough 37 = .ok (.ireturn, 1) := by decide +kernel
theorem dX11_enough_38 : decode cX11_enough 38 = .ok (.iconst 1, 1) := by decide +kernel
theorem dX11_enough_39 : decode cX11_enough 39 = .ok (.istore 6, 2) := by decide +kernel
theorem dX11_enough_41 : decode cX11_enough 41 = .ok (.iload 6, 2) := by decide +kernel
theorem dX11_enough_43 : decode cX11_enough 43 = .ok (.bipush 6, 2) := by decide +kernel
theorem dX11_enough_45 : decode cX11_enough 45 = .ok (.if_icmp .gt 48, 3) := by decide +kernel
theorem dX11_enough_48 : decode cX11_enough 48 = .ok (.aload_n 0, 1) := by decide +kernel
theorem dX11_enough_49 : decode cX11_enough 49 = .ok (.aload 5, 2) := by decide +kernel
theorem dX11_enough_51 : decode cX11_enough 51 = .ok (.iload_n 2, 1) := by decide +kernel
theorem dX11_enough_52 : decode cX11_enough 52 = .ok (.iload 4, 2) := by decide +kernel
theorem dX11_enough_54 : decode cX11_enough 54 = .ok (.invokevirtual 178, 3) := by decide +kernel
theorem dX11_enough_57 : decode cX11_enough 57 = .ok (.aload_n 0, 1) := by decide +kernel
theorem dX11_enough_58 : decode cX11_enough 58 = .ok (.getfield 25, 3) := by decide +kernel
theorem dX11_enough_61 : decode cX11_enough 61 = .ok (.iload 6, 2) := by decide +kernel
theorem dX11_enough_63 : decode cX11_enough 63 = .ok (.putfield 109, 3) := by decide +kernel
theorem dX11_enough_66 : decode cX11_enough 66 = .ok (.aload_n 0, 1) := by decide +kernel
theorem dX11_enough_67 : decode cX11_enough 67 = .ok (.getfield 25, 3) := by decide +kernel
theorem dX11_enough_70 : decode cX11_enough 70 = .ok (.iload_n 3, 1) := by decide +kernel
theorem dX11_enough_71 : decode cX11_enough 71 = .ok (.invokevirtual 141, 3) := by decide +kernel
theorem dX11_enough_74 : decode cX11_enough 74 = .ok (.aload_n 0, 1) := by decide +kernel
theorem dX11_enough_75 : decode cX11_enough 75 = .ok (.getfield 25, 3) := by decide +kernel
theorem dX11_enough_78 : decode cX11_enough 78 = .ok (.getfield 204, 3) := by decide +kernel
theorem dX11_enough_81 : decode cX11_enough 81 = .ok (.ifCond .ne 6, 3) := by decide +kernel
theorem dX11_enough_84 : decode cX11_enough 84 = .ok (.iload 6, 2) := by decide +kernel
theorem dX11_enough_86 : decode cX11_enough 86 = .ok (.ireturn, 1) := by decide +kernel
theorem dX11_enough_87 : decode cX11_enough 87 = .ok (.iinc 6 1, 3) := by decide +kernel
theorem dX11_enough_90 : decode cX11_enough 90 = .ok (.goto (-49), 3) := by decide +kernel
theorem dX11_enough_93 : decode cX11_enough 93 = .ok (.bipush (-4), 2) := by decide +kernel
theorem dX11_enough_95 : decode cX11_enough 95 = .ok (.ireturn, 1) := by decide +kernel
theorem dX11_lantern_0 : decode cX11_lantern 0 = .ok (.aload_n 0, 1) := by decide +kernel
theorem dX11_lantern_1 : decode cX11_lantern 1 = .ok (.getfield 12, 3) := by decide +kernel
theorem dX11_lantern_4 : decode cX11_lantern 4 = .ok (.iload_n 2, 1) := by decide +kernel
theorem dX11_lantern_5 : decode cX11_lantern 5 = .ok (.invokevirtual 89, 3) := by decide +kernel
theorem dX11_lantern_8 : decode cX11_lantern 8 = .ok (.ifCond .eq 22, 3) := by decide +kernel
theorem dX11_lantern_11 : decode cX11_lantern 11 = .ok (.iload_n 3, 1) := by decide +kernel
theorem dX11_lantern_12 : decode cX11_lantern 12 = .ok (.invokestatic 175, 3) := by decide +kernel
theorem dX11_lantern_15 : decode cX11_lantern 15 = .ok (.ifCond .ne 15, 3) := by decide +kernel
theorem dX11_lantern_18 : decode cX11_lantern 18 = .ok (.iload 5, 2) := by decide +kernel
theorem dX11_lantern_20 : decode cX11_lantern 20 = .ok (.ifCond .lt 10, 3) := by decide +kernel
theorem dX11_lantern_23 : decode cX11_lantern 23 = .ok (.iload 5, 2) := by decide +kernel
theorem dX11_lantern_25 : decode cX11_lantern 25 = .ok (.bipush 20, 2) := by decide +kernel
theorem dX11_lantern_27 : decode cX11_lantern 27 = .ok (.if_icmp .le 6, 3) := by decide +kernel
theorem dX11_lantern_30 : decode cX11_lantern 30 = .ok (.ldc 185, 2) := by decide +kernel
theorem dX11_lantern_32 : decode cX11_lantern 32 = .ok (.ireturn, 1) := by decide +kernel
theorem dX11_lantern_33 : decode cX11_lantern 33 = .ok (.aload_n 0, 1) := by decide +kernel
theorem dX11_lantern_34 : decode cX11_lantern 34 = .ok (.iload_n 1, 1) := by decide +kernel
theorem dX11_lantern_35 : decode cX11_lantern 35 = .ok (.invokevirtual 115, 3) := by decide +kernel
theorem dX11_lantern_38 : decode cX11_lantern 38 = .ok (.astore 6, 2) := by decide +kernel
theorem dX11_lantern_40 : decode cX11_lantern 40 = .ok (.aload 6, 2) := by decide +kernel
theorem dX11_lantern_42 : decode cX11_lantern 42 = .ok (.ifnonnull 12, 3) := by decide +kernel
theorem dX11_lantern_45 : decode cX11_lantern 45 = .ok (.ldc 186, 2) := by decide +kernel
theorem dX11_lantern_47 : decode cX11_lantern 47 = .ok (.aload_n 0, 1) := by decide +kernel
theorem dX11_lantern_48 : decode cX11_lantern 48 = .ok (.iload_n 1, 1) := by decide +kernel
theorem dX11_lantern_49 : decode cX11_lantern 49 = .ok (.invokevirtual 119, 3) := by decide +kernel
theorem dX11_lantern_52 : decode cX11_lantern 52 = .ok (.iadd, 1) := by decide +kernel
theorem dX11_lantern_53 : decode cX11_lantern 53 = .ok (.ireturn, 1) := by decide +kernel
theorem dX11_lantern_54 : decode cX11_lantern 54 = .ok (.aload_n 0, 1) := by decide +kernel
theorem dX11_lantern_55 : decode cX11_lantern 55 = .ok (.aload 6, 2) := by decide +kernel
theorem dX11_lantern_57 : decode cX11_lantern 57 = .ok (.iload_n 2, 1) := by decide +kernel
theorem dX11_lantern_58 : decode cX11_lantern 58 = .ok (.iload 4, 2) := by decide +kernel
theorem dX11_lantern_60 : decode cX11_lantern 60 = .ok (.invokevirtual 178, 3) := by decide +kernel
theorem dX11_lantern_63 : decode cX11_lantern 63 = .ok (.aload_n 0, 1) := by decide +kernel
theorem dX11_lantern_64 : decode cX11_lantern 64 = .ok (.getfield 25, 3) := by decide +kernel
theorem dX11_lantern_67 : decode cX11_lantern 67 = .ok (.iload_n 3, 1) := by decide +kernel
theorem dX11_lantern_68 : decode cX11_lantern 68 = .ok (.invokevirtual 141, 3) := by decide +kernel
theorem dX11_lantern_71 : decode cX11_lantern 71 = .ok (.aload_n 0, 1) := by decide +kernel
theorem dX11_lantern_72 : decode cX11_lantern 72 = .ok (.getfield 25, 3) := by decide +kernel
theorem dX11_lantern_75 : decode cX11_lantern 75 = .ok (.getfield 204, 3) := by decide +kernel
theorem dX11_lantern_78 : decode cX11_lantern 78 = .ok (.istore 7, 2) := by decide +kernel
theorem dX11_lantern_80 : decode cX11_lantern 80 = .ok (.aload_n 0, 1) := by decide +kernel
theorem dX11_lantern_81 : decode cX11_lantern 81 = .ok (.aload 6, 2) := by decide +kernel
theorem dX11_lantern_83 : decode cX11_lantern 83 = .ok (.iload_n 2, 1) := by decide +kernel
theorem dX11_lantern_84 : decode cX11_lantern 84 = .ok (.iload 4, 2) := by decide +kernel
theorem dX11_lantern_86 : decode cX11_lantern 86 = .ok (.invokevirtual 178, 3) := by decide +kernel
theorem dX11_lantern_89 : decode cX11_lantern 89 = .ok (.iconst 0, 1) := by decide +kernel
theorem dX11_lantern_90 : decode cX11_lantern 90 = .ok (.istore 8, 2) := by decide +kernel
theorem dX11_lantern_92 : decode cX11_lantern 92 = .ok (.iload 8, 2) := by decide +kernel
theorem dX11_lantern_94 : decode cX11_lantern 94 = .ok (.aload_n 0, 1) := by decide +kernel
theorem dX11_lantern_95 : decode cX11_lantern 95 = .ok (.getfield 25, 3) := by decide +kernel
theorem dX11_lantern_98 : decode cX11_lantern 98 = .ok (.getfield 207, 3) := by decide +kernel
theorem dX11_lantern_101 : decode cX11_lantern 101 = .ok (.if_icmp .ge 41, 3) := by decide +kernel
theorem dX11_lantern_104 : decode cX11_lantern 104 = .ok (.aload_n 0, 1) := by decide +kernel
theorem dX11_lantern_105 : decode cX11_lantern 105 = .ok (.getfield 25, 3) := by decide +kernel
theorem dX11_lantern_108 : decode cX11_lantern 108 = .ok (.iload 8, 2) := by decide +kernel
theorem dX11_lantern_110 : decode cX11_lantern 110 = .ok (.iconst 3, 1) := by decide +kernel
theorem dX11_lantern_111 : decode cX11_lantern 111 = .ok (.invokevirtual 99, 3) := by decide +kernel
theorem dX11_lantern_114 : decode cX11_lantern 114 = .ok (.iload 5, 2) := by decide +kernel
theorem dX11_lantern_116 : decode cX11_lantern 116 = .ok (.iadd, 1) := by decide +kernel
theorem dX11_lantern_117 : decode cX11_lantern 117 = .ok (.istore 9, 2) := by decide +kernel
theorem dX11_lantern_119 : decode cX11_lantern 119 = .ok (.aload_n 0, 1) := by decide +kernel
theorem dX11_lantern_120 : decode cX11_lantern 120 = .ok (.getfield 25, 3) := by decide +kernel
theorem dX11_lantern_123 : decode cX11_lantern 123 = .ok (.iload 8, 2) := by decide +kernel
theorem dX11_lantern_125 : decode cX11_lantern 125 = .ok (.iconst 3, 1) := by decide +kernel
theorem dX11_lantern_126 : decode cX11_lantern 126 = .ok (.iload 9, 2) := by decide +kernel
theorem dX11_lantern_128 : decode cX11_lantern 128 = .ok (.bipush 20, 2) := by decide +kernel
theorem dX11_lantern_130 : decode cX11_lantern 130 = .ok (.invokestatic 210, 3) := by decide +kernel
theorem dX11_lantern_133 : decode cX11_lantern 133 = .ok (.invokevirtual 102, 3) := by decide +kernel
theorem dX11_lantern_136 : decode cX11_lantern 136 = .ok (.iinc 8 1, 3) := by decide +kernel
theorem dX11_lantern_139 : decode cX11_lantern 139 = .ok (.goto (-47), 3) := by decide +kernel
theorem dX11_lantern_142 : decode cX11_lantern 142 = .ok (.aload_n 0, 1) := by decide +kernel
theorem dX11_lantern_143 : decode cX11_lantern 143 = .ok (.getfield 25, 3) := by decide +kernel
theorem dX11_lantern_146 : decode cX11_lantern 146 = .ok (.iload_n 3, 1) := by decide +kernel
theorem dX11_lantern_147 : decode cX11_lantern 147 = .ok (.invokevirtual 141, 3) := by decide +kernel
theorem dX11_lantern_150 : decode cX11_lantern 150 = .ok (.iload 7, 2) := by decide +kernel
theorem dX11_lantern_152 : decode cX11_lantern 152 = .ok (.aload_n 0, 1) := by decide +kernel
theorem dX11_lantern_153 : decode cX11_lantern 153 = .ok (.getfield 25, 3) := by decide +kernel
theorem dX11_lantern_156 : decode cX11_lantern 156 = .ok (.getfield 204, 3) := by decide +kernel
theorem dX11_lantern_159 : decode cX11_lantern 159 = .ok (.isub, 1) := by decide +kernel
theorem dX11_lantern_160 : decode cX11_lantern 160 = .ok (.ireturn, 1) := by decide +kernel
theorem dX11_price_0 : decode cX11_price 0 = .ok (.aload_n 0, 1) := by decide +kernel
theorem dX11_price_1 : decode cX11_price 1 = .ok (.getfield 12, 3) := by decide +kernel
theorem dX11_price_4 : decode cX11_price 4 = .ok (.iload_n 2, 1) := by decide +kernel
theorem dX11_price_5 : decode cX11_price 5 = .ok (.invokevirtual 96, 3) := by decide +kernel
theorem dX11_price_8 : decode cX11_price 8 = .ok (.ifCond .eq 22, 3) := by decide +kernel
theorem dX11_price_11 : decode cX11_price 11 = .ok (.iload_n 3, 1) := by decide +kernel
theorem dX11_price_12 : decode cX11_price 12 = .ok (.invokestatic 175, 3) := by decide +kernel
theorem dX11_price_15 : decode cX11_price 15 = .ok (.ifCond .ne 15, 3) := by decide +kernel
theorem dX11_price_18 : decode cX11_price 18 = .ok (.iload 5, 2) := by decide +kernel
theorem dX11_price_20 : decode cX11_price 20 = .ok (.ifCond .lt 10, 3) := by decide +kernel
theorem dX11_price_23 : decode cX11_price 23 = .ok (.iload 5, 2) := by decide +kernel
theorem dX11_price_25 : decode cX11_price 25 = .ok (.bipush 99, 2) := by decide +kernel
theorem dX11_price_27 : decode cX11_price 27 = .ok (.if_icmp .le 6, 3) := by decide +kernel
theorem dX11_price_30 : decode cX11_price 30 = .ok (.ldc 185, 2) := by decide +kernel
theorem dX11_price_32 : decode cX11_price 32 = .ok (.ireturn, 1) := by decide +kernel
theorem dX11_price_33 : decode cX11_price 33 = .ok (.aload_n 0, 1) := by decide +kernel
theorem dX11_price_34 : decode cX11_price 34 = .ok (.iload_n 1, 1) := by decide +kernel
theorem dX11_price_35 : decode cX11_price 35 = .ok (.invokevirtual 115, 3) := by decide +kernel
theorem dX11_price_38 : decode cX11_price 38 = .ok (.astore 6, 2) := by decide +kernel
theorem dX11_price_40 : decode cX11_price 40 = .ok (.aload 6, 2) := by decide +kernel
theorem dX11_price_42 : decode cX11_price 42 = .ok (.ifnonnull 12, 3) := by decide +kernel
theorem dX11_price_45 : decode cX11_price 45 = .ok (.ldc 186, 2) := by decide +kernel
theorem dX11_price_47 : decode cX11_price 47 = .ok (.aload_n 0, 1) := by decide +kernel
theorem dX11_price_48 : decode cX11_price 48 = .ok (.iload_n 1, 1) := by decide +kernel
theorem dX11_price_49 : decode cX11_price 49 = .ok (.invokevirtual 119, 3) := by decide +kernel
theorem dX11_price_52 : decode cX11_price 52 = .ok (.iadd, 1) := by decide +kernel
theorem dX11_price_53 : decode cX11_price 53 = .ok (.ireturn, 1) := by decide +kernel
theorem dX11_price_54 : decode cX11_price 54 = .ok (.aload_n 0, 1) := by decide +kernel
theorem dX11_price_55 : decode cX11_price 55 = .ok (.aload 6, 2) := by decide +kernel
theorem dX11_price_57 : decode cX11_price 57 = .ok (.iconst 0, 1) := by decide +kernel
theorem dX11_price_58 : decode cX11_price 58 = .ok (.iload 4, 2) := by decide +kernel
theorem dX11_price_60 : decode cX11_price 60 = .ok (.invokevirtual 178, 3) := by decide +kernel
theorem dX11_price_63 : decode cX11_price 63 = .ok (.aload_n 0, 1) := by decide +kernel
theorem dX11_price_64 : decode cX11_price 64 = .ok (.getfield 25, 3) := by decide +kernel
theorem dX11_price_67 : decode cX11_price 67 = .ok (.iload_n 3, 1) := by decide +kernel
theorem dX11_price_68 : decode cX11_price 68 = .ok (.invokevirtual 141, 3) := by decide +kernel
theorem dX11_price_71 : decode cX11_price 71 = .ok (.aload_n 0, 1) := by decide +kernel
theorem dX11_price_72 : decode cX11_price 72 = .ok (.getfield 25, 3) := by decide +kernel
theorem dX11_price_75 : decode cX11_price 75 = .ok (.getfield 215, 3) := by decide +kernel
theorem dX11_price_78 : decode cX11_price 78 = .ok (.istore 7, 2) := by decide +kernel
theorem dX11_price_80 : decode cX11_price 80 = .ok (.aload_n 0, 1) := by decide +kernel
theorem dX11_price_81 : decode cX11_price 81 = .ok (.aload 6, 2) := by decide +kernel
theorem dX11_price_83 : decode cX11_price 83 = .ok (.iconst 0, 1) := by decide +kernel
theorem dX11_price_84 : decode cX11_price 84 = .ok (.iload 4, 2) := by decide +kernel
theorem dX11_price_86 : decode cX11_price 86 = .ok (.invokevirtual 178, 3) := by decide +kernel
theorem dX11_price_89 : decode cX11_price 89 = .ok (.aload_n 0, 1) := by decide +kernel
theorem dX11_price_90 : decode cX11_price 90 = .ok (.getfield 25, 3) := by decide +kernel
theorem dX11_price_93 : decode cX11_price 93 = .ok (.iload_n 2, 1) := by decide +kernel
theorem dX11_price_94 : decode cX11_price 94 = .ok (.iconst 4, 1) := by decide +kernel
theorem dX11_price_95 : decode cX11_price 95 = .ok (.invokevirtual 99, 3) := by decide +kernel
theorem dX11_price_98 : decode cX11_price 98 = .ok (.iload 5, 2) := by decide +kernel
theorem dX11_price_100 : decode cX11_price 100 = .ok (.iadd, 1) := by decide +kernel
theorem dX11_price_101 : decode cX11_price 101 = .ok (.istore 8, 2) := by decide +kernel
theorem dX11_price_103 : decode cX11_price 103 = .ok (.aload_n 0, 1) := by decide +kernel
theorem dX11_price_104 : decode cX11_price 104 = .ok (.getfield 25, 3) := by decide +kernel
theorem dX11_price_107 : decode cX11_price 107 = .ok (.iload_n 2, 1) := by decide +kernel
theorem dX11_price_108 : decode cX11_price 108 = .ok (.iconst 4, 1) := by decide +kernel
theorem dX11_price_109 : decode cX11_price 109 = .ok (.iload 8, 2) := by decide +kernel
theorem dX11_price_111 : decode cX11_price 111 = .ok (.bipush 99, 2) := by decide +kernel
theorem dX11_price_113 : decode cX11_price 113 = .ok (.invokestatic 210, 3) := by decide +kernel
theorem dX11_price_116 : decode cX11_price 116 = .ok (.invokevirtual 102, 3) := by decide +kernel
theorem dX11_price_119 : decode cX11_price 119 = .ok (.aload_n 0, 1) := by decide +kernel
theorem dX11_price_120 : decode cX11_price 120 = .ok (.getfield 25, 3) := by decide +kernel
theorem dX11_price_123 : decode cX11_price 123 = .ok (.iload_n 2, 1) := by decide +kernel
theorem dX11_price_124 : decode cX11_price 124 = .ok (.iconst 3, 1) := by decide +kernel
theorem dX11_price_125 : decode cX11_price 125 = .ok (.invokevirtual 99, 3) := by decide +kernel
theorem dX11_price_128 : decode cX11_price 128 = .ok (.iload 5, 2) := by decide +kernel
theorem dX11_price_130 : decode cX11_price 130 = .ok (.bipush 10, 2) := by decide +kernel
theorem dX11_price_132 : decode cX11_price 132 = .ok (.idiv, 1) := by decide +kernel
theorem dX11_price_133 : decode cX11_price 133 = .ok (.isub, 1) := by decide +kernel
theorem dX11_price_134 : decode cX11_price 134 = .ok (.istore 9, 2) := by decide +kernel
theorem dX11_price_136 : decode cX11_price 136 = .ok (.aload_n 0, 1) := by decide +kernel
theorem dX11_price_137 : decode cX11_price 137 = .ok (.getfield 25, 3) := by decide +kernel
theorem dX11_price_140 : decode cX11_price 140 = .ok (.iload_n 2, 1) := by decide +kernel
theorem dX11_price_141 : decode cX11_price 141 = .ok (.iconst 3, 1) := by decide +kernel
theorem dX11_price_142 : decode cX11_price 142 = .ok (.iload 9, 2) := by decide +kernel
theorem dX11_price_144 : decode cX11_price 144 = .ok (.iconst 1, 1) := by decide +kernel
theorem dX11_price_145 : decode cX11_price 145 = .ok (.invokestatic 218, 3) := by decide +kernel
theorem dX11_price_148 : decode cX11_price 148 = .ok (.invokevirtual 102, 3) := by decide +kernel
theorem dX11_price_151 : decode cX11_price 151 = .ok (.aload_n 0, 1) := by decide +kernel
theorem dX11_price_152 : decode cX11_price 152 = .ok (.getfield 25, 3) := by decide +kernel
theorem dX11_price_155 : decode cX11_price 155 = .ok (.iload_n 3, 1) := by decide +kernel
theorem dX11_price_156 : decode cX11_price 156 = .ok (.invokevirtual 141, 3) := by decide +kernel
theorem dX11_price_159 : decode cX11_price 159 = .ok (.aload_n 0, 1) := by decide +kernel
theorem dX11_price_160 : decode cX11_price 160 = .ok (.getfield 25, 3) := by decide +kernel
theorem dX11_price_163 : decode cX11_price 163 = .ok (.getfield 215, 3) := by decide +kernel
theorem dX11_price_166 : decode cX11_price 166 = .ok (.iload 7, 2) := by decide +kernel
theorem dX11_price_168 : decode cX11_price 168 = .ok (.isub, 1) := by decide +kernel
theorem dX11_price_169 : decode cX11_price 169 = .ok (.ireturn, 1) := by decide +kernel
theorem dX11_son_0 : decode cX11_son 0 = .ok (.aload_n 0, 1) := by decide +kernel
theorem dX11_son_1 : decode cX11_son 1 = .ok (.getfield 12, 3) := by decide +kernel
theorem dX11_son_4 : decode cX11_son 4 = .ok (.iload_n 2, 1) := by decide +kernel
theorem dX11_son_5 : decode cX11_son 5 = .ok (.invokevirtual 89, 3) := by decide +kernel
theorem dX11_son_8 : decode cX11_son 8 = .ok (.ifCond .eq 27, 3) := by decide +kernel
theorem dX11_son_11 : decode cX11_son 11 = .ok (.aload_n 0, 1) := by decide +kernel
theorem dX11_son_12 : decode cX11_son 12 = .ok (.getfield 12, 3) := by decide +kernel
theorem dX11_son_15 : decode cX11_son 15 = .ok (.iload_n 3, 1) := by decide +kernel
theorem dX11_son_16 : decode cX11_son 16 = .ok (.invokevirtual 89, 3) := by decide +kernel
theorem dX11_son_19 : decode cX11_son 19 = .ok (.ifCond .eq 16, 3) := by decide +kernel
theorem dX11_son_22 : decode cX11_son 22 = .ok (.iload_n 2, 1) := by decide +kernel
theorem dX11_son_23 : decode cX11_son 23 = .ok (.iload_n 3, 1) := by decide +kernel
theorem dX11_son_24 : decode cX11_son 24 = .ok (.if_icmp .eq 11, 3) := by decide +kernel
theorem dX11_son_27 : decode cX11_son 27 = .ok (.iload 4, 2) := by decide +kernel
theorem dX11_son_29 : decode cX11_son 29 = .ok (.invokestatic 175, 3) := by decide +kernel
theorem dX11_son_32 : decode cX11_son 32 = .ok (.ifCond .eq 6, 3) := by decide +kernel
theorem dX11_son_35 : decode cX11_son 35 = .ok (.ldc 185, 2) := by decide +kernel
theorem dX11_son_37 : decode cX11_son 37 = .ok (.ireturn, 1) := by decide +kernel
theorem dX11_son_38 : decode cX11_son 38 = .ok (.aload_n 0, 1) := by decide +kernel
theorem dX11_son_39 : decode cX11_son 39 = .ok (.iload_n 1, 1) := by decide +kernel
theorem dX11_son_40 : decode cX11_son 40 = .ok (.invokevirtual 115, 3) := by decide +kernel
theorem dX11_son_43 : decode cX11_son 43 = .ok (.astore 6, 2) := by decide +kernel
theorem dX11_son_45 : decode cX11_son 45 = .ok (.aload 6, 2) := by decide +kernel
theorem dX11_son_47 : decode cX11_son 47 = .ok (.ifnonnull 12, 3) := by decide +kernel
theorem dX11_son_50 : decode cX11_son 50 = .ok (.ldc 186, 2) := by decide +kernel
theorem dX11_son_52 : decode cX11_son 52 = .ok (.aload_n 0, 1) := by decide +kernel
theorem dX11_son_53 : decode cX11_son 53 = .ok (.iload_n 1, 1) := by decide +kernel
theorem dX11_son_54 : decode cX11_son 54 = .ok (.invokevirtual 119, 3) := by decide +kernel
theorem dX11_son_57 : decode cX11_son 57 = .ok (.iadd, 1) := by decide +kernel
theorem dX11_son_58 : decode cX11_son 58 = .ok (.ireturn, 1) := by decide +kernel
theorem dX11_son_59 : decode cX11_son 59 = .ok (.aload_n 0, 1) := by decide +kernel
theorem dX11_son_60 : decode cX11_son 60 = .ok (.aload 6, 2) := by decide +kernel
theorem dX11_son_62 : decode cX11_son 62 = .ok (.iload_n 2, 1) := by decide +kernel
theorem dX11_son_63 : decode cX11_son 63 = .ok (.iload 5, 2) := by decide +kernel
theorem dX11_son_65 : decode cX11_son 65 = .ok (.invokevirtual 178, 3) := by decide +kernel
theorem dX11_son_68 : decode cX11_son 68 = .ok (.aload_n 0, 1) := by decide +kernel
theorem dX11_son_69 : decode cX11_son 69 = .ok (.getfield 25, 3) := by decide +kernel
theorem dX11_son_72 : decode cX11_son 72 = .ok (.iload 4, 2) := by decide +kernel
theorem dX11_son_74 : decode cX11_son 74 = .ok (.invokevirtual 141, 3) := by decide +kernel
theorem dX11_son_77 : decode cX11_son 77 = .ok (.aload_n 0, 1) := by decide +kernel
theorem dX11_son_78 : decode cX11_son 78 = .ok (.getfield 25, 3) := by decide +kernel
theorem dX11_son_81 : decode cX11_son 81 = .ok (.getfield 221, 3) := by decide +kernel
theorem dX11_son_84 : decode cX11_son 84 = .ok (.istore 7, 2) := by decide +kernel
theorem dX11_son_86 : decode cX11_son 86 = .ok (.aload_n 0, 1) := by decide +kernel
theorem dX11_son_87 : decode cX11_son 87 = .ok (.aload 6, 2) := by decide +kernel
theorem dX11_son_89 : decode cX11_son 89 = .ok (.iload_n 2, 1) := by decide +kernel
theorem dX11_son_90 : decode cX11_son 90 = .ok (.iload 5, 2) := by decide +kernel
theorem dX11_son_92 : decode cX11_son 92 = .ok (.invokevirtual 178, 3) := by decide +kernel
theorem dX11_son_95 : decode cX11_son 95 = .ok (.aload_n 0, 1) := by decide +kernel
theorem dX11_son_96 : decode cX11_son 96 = .ok (.getfield 25, 3) := by decide +kernel
theorem dX11_son_99 : decode cX11_son 99 = .ok (.iconst 1, 1) := by decide +kernel
theorem dX11_son_100 : decode cX11_son 100 = .ok (.putfield 224, 3) := by decide +kernel
theorem dX11_son_103 : decode cX11_son 103 = .ok (.aload_n 0, 1) := by decide +kernel
theorem dX11_son_104 : decode cX11_son 104 = .ok (.getfield 25, 3) := by decide +kernel
theorem dX11_son_107 : decode cX11_son 107 = .ok (.getfield 227, 3) := by decide +kernel
theorem dX11_son_110 : decode cX11_son 110 = .ok (.aload 6, 2) := by decide +kernel
theorem dX11_son_112 : decode cX11_son 112 = .ok (.iload_n 3, 1) := by decide +kernel
theorem dX11_son_113 : decode cX11_son 113 = .ok (.invokevirtual 230, 3) := by decide +kernel
theorem dX11_son_116 : decode cX11_son 116 = .ok (.aload_n 0, 1) := by decide +kernel
theorem dX11_son_117 : decode cX11_son 117 = .ok (.getfield 25, 3) := by decide +kernel
theorem dX11_son_120 : decode cX11_son 120 = .ok (.iload 4, 2) := by decide +kernel
theorem dX11_son_122 : decode cX11_son 122 = .ok (.invokevirtual 141, 3) := by decide +kernel
theorem dX11_son_125 : decode cX11_son 125 = .ok (.iload 7, 2) := by decide +kernel
theorem dX11_son_127 : decode cX11_son 127 = .ok (.aload_n 0, 1) := by decide +kernel
theorem dX11_son_128 : decode cX11_son 128 = .ok (.getfield 25, 3) := by decide +kernel
theorem dX11_son_131 : decode cX11_son 131 = .ok (.getfield 221, 3) := by decide +kernel
theorem dX11_son_134 : decode cX11_son 134 = .ok (.isub, 1) := by decide +kernel
theorem dX11_son_135 : decode cX11_son 135 = .ok (.ireturn, 1) := by decide +kernel
theorem dX11_isNoSpan_0 : decode cX11_isNoSpan 0 = .ok (.iload_n 0, 1) := by decide +kernel
theorem dX11_isNoSpan_1 : decode cX11_isNoSpan 1 = .ok (.iconst 1, 1) := by decide +kernel
theorem dX11_isNoSpan_2 : decode cX11_isNoSpan 2 = .ok (.if_icmp .lt 9, 3) := by decide +kernel
theorem dX11_isNoSpan_5 : decode cX11_isNoSpan 5 = .ok (.iload_n 0, 1) := by decide +kernel
theorem dX11_isNoSpan_6 : decode cX11_isNoSpan 6 = .ok (.bipush 120, 2) := by decide +kernel
theorem dX11_isNoSpan_8 : decode cX11_isNoSpan 8 = .ok (.if_icmp .le 7, 3) := by decide +kernel
theorem dX11_isNoSpan_11 : decode cX11_isNoSpan 11 = .ok (.iconst 1, 1) := by decide +kernel
theorem dX11_isNoSpan_12 : decode cX11_isNoSpan 12 = .ok (.goto 4, 3) := by decide +kernel
theorem dX11_isNoSpan_15 : decode cX11_isNoSpan 15 = .ok (.iconst 0, 1) := by decide +kernel
theorem dX11_isNoSpan_16 : decode cX11_isNoSpan 16 = .ok (.ireturn, 1) := by decide +kernel
theorem dX11_isNoDays_0 : decode cX11_isNoDays 0 = .ok (.iload_n 0, 1) := by decide +kernel
theorem dX11_isNoDays_1 : decode cX11_isNoDays 1 = .ok (.iconst 1, 1) := by decide +kernel
theorem dX11_isNoDays_2 : decode cX11_isNoDays 2 = .ok (.if_icmp .lt 9, 3) := by decide +kernel
theorem dX11_isNoDays_5 : decode cX11_isNoDays 5 = .ok (.iload_n 0, 1) := by decide +kernel
theorem dX11_isNoDays_6 : decode cX11_isNoDays 6 = .ok (.bipush 10, 2) := by decide +kernel
theorem dX11_isNoDays_8 : decode cX11_isNoDays 8 = .ok (.if_icmp .le 7, 3) := by decide +kernel
theorem dX11_isNoDays_11 : decode cX11_isNoDays 11 = .ok (.iconst 1, 1) := by decide +kernel
theorem dX11_isNoDays_12 : decode cX11_isNoDays 12 = .ok (.goto 4, 3) := by decide +kernel
theorem dX11_isNoDays_15 : decode cX11_isNoDays 15 = .ok (.iconst 0, 1) := by decide +kernel
theorem dX11_isNoDays_16 : decode cX11_isNoDays 16 = .ok (.ireturn, 1) := by decide +kernel
theorem dX11_begin_0 : decode cX11_begin 0 = .ok (.aload_n 0, 1) := by decide +kernel
theorem dX11_begin_1 : decode cX11_begin 1 = .ok (.getfield 25, 3) := by decide +kernel
theorem dX11_begin_4 : decode cX11_begin 4 = .ok (.aload_n 0, 1) := by decide +kernel
theorem dX11_begin_5 : decode cX11_begin 5 = .ok (.getfield 12, 3) := by decide +kernel
theorem dX11_begin_8 : decode cX11_begin 8 = .ok (.aload_n 1, 1) := by decide +kernel
theorem dX11_begin_9 : decode cX11_begin 9 = .ok (.iload_n 2, 1) := by decide +kernel
theorem dX11_begin_10 : decode cX11_begin 10 = .ok (.iload_n 3, 1) := by decide +kernel
theorem dX11_begin_11 : decode cX11_begin 11 = .ok (.invokevirtual 233, 3) := by decide +kernel
theorem dX11_begin_14 : decode cX11_begin 14 = .ok (.return_, 1) := by decide +kernel
theorem dX11_meanOf_0 : decode cX11_meanOf 0 = .ok (.iconst 0, 1) := by decide +kernel
theorem dX11_meanOf_1 : decode cX11_meanOf 1 = .ok (.istore 6, 2) := by decide +kernel
theorem dX11_meanOf_3 : decode cX11_meanOf 3 = .ok (.iconst 0, 1) := by decide +kernel
theorem dX11_meanOf_4 : decode cX11_meanOf 4 = .ok (.istore 7, 2) := by decide +kernel
theorem dX11_meanOf_6 : decode cX11_meanOf 6 = .ok (.iload 7, 2) := by decide +kernel
theorem dX11_meanOf_8 : decode cX11_meanOf 8 = .ok (.iload 4, 2) := by decide +kernel
theorem dX11_meanOf_10 : decode cX11_meanOf 10 = .ok (.if_icmp .ge 40, 3) := by decide +kernel
theorem dX11_meanOf_13 : decode cX11_meanOf 13 = .ok (.aload_n 0, 1) := by decide +kernel
theorem dX11_meanOf_14 : decode cX11_meanOf 14 = .ok (.aload_n 1, 1) := by decide +kernel
theorem dX11_meanOf_15 : decode cX11_meanOf 15 = .ok (.iload_n 2, 1) := by decide +kernel
theorem dX11_meanOf_16 : decode cX11_meanOf 16 = .ok (.iload 5, 2) := by decide +kernel
theorem dX11_meanOf_18 : decode cX11_meanOf 18 = .ok (.iload 7, 2) := by decide +kernel
theorem dX11_meanOf_20 : decode cX11_meanOf 20 = .ok (.iadd, 1) := by decide +kernel
theorem dX11_meanOf_21 : decode cX11_meanOf 21 = .ok (.invokevirtual 178, 3) := by decide +kernel
theorem dX11_meanOf_24 : decode cX11_meanOf 24 = .ok (.aload_n 0, 1) := by decide +kernel
theorem dX11_meanOf_25 : decode cX11_meanOf 25 = .ok (.getfield 25, 3) := by decide +kernel
theorem dX11_meanOf_28 : decode cX11_meanOf 28 = .ok (.iload_n 3, 1) := by decide +kernel
theorem dX11_meanOf_29 : decode cX11_meanOf 29 = .ok (.invokevirtual 141, 3) := by decide +kernel
theorem dX11_meanOf_32 : decode cX11_meanOf 32 = .ok (.iload 6, 2) := by decide +kernel
theorem dX11_meanOf_34 : decode cX11_meanOf 34 = .ok (.aload_n 0, 1) := by decide +kernel
theorem dX11_meanOf_35 : decode cX11_meanOf 35 = .ok (.getfield 25, 3) := by decide +kernel
theorem dX11_meanOf_38 : decode cX11_meanOf 38 = .ok (.invokevirtual 237, 3) := by decide +kernel
theorem dX11_meanOf_41 : decode cX11_meanOf 41 = .ok (.iadd, 1) := by decide +kernel
theorem dX11_meanOf_42 : decode cX11_meanOf 42 = .ok (.istore 6, 2) := by decide +kernel
theorem dX11_meanOf_44 : decode cX11_meanOf 44 = .ok (.iinc 7 1, 3) := by decide +kernel
theorem dX11_meanOf_47 : decode cX11_meanOf 47 = .ok (.goto (-41), 3) := by decide +kernel
theorem dX11_meanOf_50 : decode cX11_meanOf 50 = .ok (.iload 6, 2) := by decide +kernel
theorem dX11_meanOf_52 : decode cX11_meanOf 52 = .ok (.ireturn, 1) := by decide +kernel
theorem dX11_goings_0 : decode cX11_goings 0 = .ok (.iload_n 1, 1) := by decide +kernel
theorem dX11_goings_1 : decode cX11_goings 1 = .ok (.ifCond .lt 17, 3) := by decide +kernel
theorem dX11_goings_4 : decode cX11_goings 4 = .ok (.iload_n 1, 1) := by decide +kernel
theorem dX11_goings_5 : decode cX11_goings 5 = .ok (.sipush 625, 3) := by decide +kernel
theorem dX11_goings_8 : decode cX11_goings 8 = .ok (.if_icmp .ge 10, 3) := by decide +kernel
theorem dX11_goings_11 : decode cX11_goings 11 = .ok (.iload_n 2, 1) := by decide +kernel
theorem dX11_goings_12 : decode cX11_goings 12 = .ok (.invokestatic 175, 3) := by decide +kernel
theorem dX11_goings_15 : decode cX11_goings 15 = .ok (.ifCond .eq 6, 3) := by decide +kernel
theorem dX11_goings_18 : decode cX11_goings 18 = .ok (.ldc 185, 2) := by decide +kernel
theorem dX11_goings_20 : decode cX11_goings 20 = .ok (.ireturn, 1) := by decide +kernel
theorem dX11_goings_21 : decode cX11_goings 21 = .ok (.aload_n 0, 1) := by decide +kernel
theorem dX11_goings_22 : decode cX11_goings 22 = .ok (.getfield 25, 3) := by decide +kernel
theorem dX11_goings_25 : decode cX11_goings 25 = .ok (.aload_n 0, 1) := by decide +kernel
theorem dX11_goings_26 : decode cX11_goings 26 = .ok (.getfield 12, 3) := by decide +kernel
theorem dX11_goings_29 : decode cX11_goings 29 = .ok (.invokevirtual 75, 3) := by decide +kernel
theorem dX11_goings_32 : decode cX11_goings 32 = .ok (.iload_n 1, 1) := by decide +kernel
theorem dX11_goings_33 : decode cX11_goings 33 = .ok (.istore_n 3, 1) := by decide +kernel
theorem dX11_goings_34 : decode cX11_goings 34 = .ok (.iconst 1, 1) := by decide +kernel
theorem dX11_goings_35 : decode cX11_goings 35 = .ok (.istore 4, 2) := by decide +kernel
theorem dX11_goings_37 : decode cX11_goings 37 = .ok (.iconst 0, 1) := by decide +kernel
theorem dX11_goings_38 : decode cX11_goings 38 = .ok (.istore 5, 2) := by decide +kernel
theorem dX11_goings_40 : decode cX11_goings 40 = .ok (.iload 5, 2) := by decide +kernel
theorem dX11_goings_42 : decode cX11_goings 42 = .ok (.iload_n 2, 1) := by decide +kernel
theorem dX11_goings_43 : decode cX11_goings 43 = .ok (.if_icmp .ge 90, 3) := by decide +kernel
theorem dX11_goings_46 : decode cX11_goings 46 = .ok (.aload_n 0, 1) := by decide +kernel
theorem dX11_goings_47 : decode cX11_goings 47 = .ok (.getfield 25, 3) := by decide +kernel
theorem dX11_goings_50 : decode cX11_goings 50 = .ok (.invokevirtual 240, 3) := by decide +kernel
theorem dX11_goings_53 : decode cX11_goings 53 = .ok (.aload_n 0, 1) := by decide +kernel
theorem dX11_goings_54 : decode cX11_goings 54 = .ok (.getfield 25, 3) := by decide +kernel
theorem dX11_goings_57 : decode cX11_goings 57 = .ok (.getfield 123, 3) := by decide +kernel
theorem dX11_goings_60 : decode cX11_goings 60 = .ok (.getfield 145, 3) := by decide +kernel
theorem dX11_goings_63 : decode cX11_goings 63 = .ok (.ifCond .ne 43, 3) := by decide +kernel
theorem dX11_goings_66 : decode cX11_goings 66 = .ok (.iload 4, 2) := by decide +kernel
theorem dX11_goings_68 : decode cX11_goings 68 = .ok (.sipush 625, 3) := by decide +kernel
theorem dX11_goings_71 : decode cX11_goings 71 = .ok (.if_icmp .ge 35, 3) := by decide +kernel
theorem dX11_goings_74 : decode cX11_goings 74 = .ok (.aload_n 0, 1) := by decide +kernel
theorem dX11_goings_75 : decode cX11_goings 75 = .ok (.getfield 25, 3) := by decide +kernel
theorem dX11_goings_78 : decode cX11_goings 78 = .ok (.aload_n 0, 1) := by decide +kernel
theorem dX11_goings_79 : decode cX11_goings 79 = .ok (.getfield 25, 3) := by decide +kernel
theorem dX11_goings_82 : decode cX11_goings 82 = .ok (.getfield 123, 3) := by decide +kernel
theorem dX11_goings_85 : decode cX11_goings 85 = .ok (.iload_n 3, 1) := by decide +kernel
theorem dX11_goings_86 : decode cX11_goings 86 = .ok (.iconst 5, 1) := by decide +kernel
theorem dX11_goings_87 : decode cX11_goings 87 = .ok (.irem, 1) := by decide +kernel
theorem dX11_goings_88 : decode cX11_goings 88 = .ok (.iconst 1, 1) := by decide +kernel
theorem dX11_goings_89 : decode cX11_goings 89 = .ok (.isub, 1) := by decide +kernel
theorem dX11_goings_90 : decode cX11_goings 90 = .ok (.invokevirtual 149, 3) := by decide +kernel
theorem dX11_goings_93 : decode cX11_goings 93 = .ok (.iload_n 3, 1) := by decide +kernel
theorem dX11_goings_94 : decode cX11_goings 94 = .ok (.iconst 5, 1) := by decide +kernel
theorem dX11_goings_95 : decode cX11_goings 95 = .ok (.idiv, 1) := by decide +kernel
theorem dX11_goings_96 : decode cX11_goings 96 = .ok (.istore_n 3, 1) := by decide +kernel
theorem dX11_goings_97 : decode cX11_goings 97 = .ok (.iload 4, 2) := by decide +kernel
theorem dX11_goings_99 : decode cX11_goings 99 = .ok (.iconst 5, 1) := by decide +kernel
theorem dX11_goings_100 : decode cX11_goings 100 = .ok (.imul, 1) := by decide +kernel
theorem dX11_goings_101 : decode cX11_goings 101 = .ok (.istore 4, 2) := by decide +kernel
theorem dX11_goings_103 : decode cX11_goings 103 = .ok (.goto 17, 3) := by decide +kernel
theorem dX11_goings_106 : decode cX11_goings 106 = .ok (.aload_n 0, 1) := by decide +kernel
theorem dX11_goings_107 : decode cX11_goings 107 = .ok (.getfield 25, 3) := by decide +kernel
theorem dX11_goings_110 : decode cX11_goings 110 = .ok (.aload_n 0, 1) := by decide +kernel
theorem dX11_goings_111 : decode cX11_goings 111 = .ok (.getfield 25, 3) := by decide +kernel
theorem dX11_goings_114 : decode cX11_goings 114 = .ok (.getfield 123, 3) := by decide +kernel
theorem dX11_goings_117 : decode cX11_goings 117 = .ok (.invokevirtual 243, 3) := by decide +kernel
theorem dX11_goings_120 : decode cX11_goings 120 = .ok (.aload_n 0, 1) := by decide +kernel
theorem dX11_goings_121 : decode cX11_goings 121 = .ok (.getfield 25, 3) := by decide +kernel
theorem dX11_goings_124 : decode cX11_goings 124 = .ok (.invokevirtual 247, 3) := by decide +kernel
theorem dX11_goings_127 : decode cX11_goings 127 = .ok (.iinc 5 1, 3) := by decide +kernel
theorem dX11_goings_130 : decode cX11_goings 130 = .ok (.goto (-90), 3) := by decide +kernel
theorem dX11_goings_133 : decode cX11_goings 133 = .ok (.aload_n 0, 1) := by decide +kernel
theorem dX11_goings_134 : decode cX11_goings 134 = .ok (.getfield 25, 3) := by decide +kernel
theorem dX11_goings_137 : decode cX11_goings 137 = .ok (.invokevirtual 237, 3) := by decide +kernel
theorem dX11_goings_140 : decode cX11_goings 140 = .ok (.aload_n 0, 1) := by decide +kernel
theorem dX11_goings_141 : decode cX11_goings 141 = .ok (.getfield 12, 3) := by decide +kernel
theorem dX11_goings_144 : decode cX11_goings 144 = .ok (.invokevirtual 237, 3) := by decide +kernel
theorem dX11_goings_147 : decode cX11_goings 147 = .ok (.isub, 1) := by decide +kernel
theorem dX11_goings_148 : decode cX11_goings 148 = .ok (.ireturn, 1) := by decide +kernel
theorem dX11_bestGoings_0 : decode cX11_bestGoings 0 = .ok (.iload_n 1, 1) := by decide +kernel
theorem dX11_bestGoings_1 : decode cX11_bestGoings 1 = .ok (.invokestatic 175, 3) := by decide +kernel
theorem dX11_bestGoings_4 : decode cX11_bestGoings 4 = .ok (.ifCond .eq 5, 3) := by decide +kernel
theorem dX11_bestGoings_7 : decode cX11_bestGoings 7 = .ok (.iconst (-1), 1) := by decide +kernel
theorem dX11_bestGoings_8 : decode cX11_bestGoings 8 = .ok (.ireturn, 1) := by decide +kernel
theorem dX11_bestGoings_9 : decode cX11_bestGoings 9 = .ok (.aload_n 0, 1) := by decide +kernel
theorem dX11_bestGoings_10 : decode cX11_bestGoings 10 = .ok (.iconst (-1), 1) := by decide +kernel
theorem dX11_bestGoings_11 : decode cX11_bestGoings 11 = .ok (.putfield 45, 3) := by decide +kernel
theorem dX11_bestGoings_14 : decode cX11_bestGoings 14 = .ok (.aload_n 0, 1) := by decide +kernel
theorem dX11_bestGoings_15 : decode cX11_bestGoings 15 = .ok (.getfield 25, 3) := by decide +kernel
theorem dX11_bestGoings_18 : decode cX11_bestGoings 18 = .ok (.aload_n 0, 1) := by decide +kernel
theorem dX11_bestGoings_19 : decode cX11_bestGoings 19 = .ok (.getfield 12, 3) := by decide +kernel
theorem dX11_bestGoings_22 : decode cX11_bestGoings 22 = .ok (.invokevirtual 75, 3) := by decide +kernel
theorem dX11_bestGoings_25 : decode cX11_bestGoings 25 = .ok (.aload_n 0, 1) := by decide +kernel
theorem dX11_bestGoings_26 : decode cX11_bestGoings 26 = .ok (.aload_n 0, 1) := by decide +kernel
theorem dX11_bestGoings_27 : decode cX11_bestGoings 27 = .ok (.getfield 25, 3) := by decide +kernel
theorem dX11_bestGoings_30 : decode cX11_bestGoings 30 = .ok (.iconst 1, 1) := by decide +kernel
theorem dX11_bestGoings_31 : decode cX11_bestGoings 31 = .ok (.iconst 0, 1) := by decide +kernel
theorem dX11_bestGoings_32 : decode cX11_bestGoings 32 = .ok (.iload_n 1, 1) := by decide +kernel
theorem dX11_bestGoings_33 : decode cX11_bestGoings 33 = .ok (.invokevirtual 250, 3) := by decide +kernel
theorem dX11_bestGoings_36 : decode cX11_bestGoings 36 = .ok (.aload_n 0, 1) := by decide +kernel
theorem dX11_bestGoings_37 : decode cX11_bestGoings 37 = .ok (.getfield 45, 3) := by decide +kernel
theorem dX11_bestGoings_40 : decode cX11_bestGoings 40 = .ok (.ireturn, 1) := by decide +kernel
theorem dX11_explore_0 : decode cX11_explore 0 = .ok (.iload 4, 2) := by decide +kernel
theorem dX11_explore_2 : decode cX11_explore 2 = .ok (.istore 5, 2) := by decide +kernel
theorem dX11_explore_4 : decode cX11_explore 4 = .ok (.iload 5, 2) := by decide +kernel
theorem dX11_explore_6 : decode cX11_explore 6 = .ok (.ifCond .le 63, 3) := by decide +kernel
theorem dX11_explore_9 : decode cX11_explore 9 = .ok (.aload_n 1, 1) := by decide +kernel
theorem dX11_explore_10 : decode cX11_explore 10 = .ok (.invokevirtual 240, 3) := by decide +kernel
theorem dX11_explore_13 : decode cX11_explore 13 = .ok (.aload_n 1, 1) := by decide +kernel
theorem dX11_explore_14 : decode cX11_explore 14 = .ok (.getfield 123, 3) := by decide +kernel
theorem dX11_explore_17 : decode cX11_explore 17 = .ok (.getfield 145, 3) := by decide +kernel
theorem dX11_explore_20 : decode cX11_explore 20 = .ok (.ifCond .ne 31, 3) := by decide +kernel
theorem dX11_explore_23 : decode cX11_explore 23 = .ok (.iload_n 2, 1) := by decide +kernel
theorem dX11_explore_24 : decode cX11_explore 24 = .ok (.sipush 625, 3) := by decide +kernel
theorem dX11_explore_27 : decode cX11_explore 27 = .ok (.if_icmp .ge 24, 3) := by decide +kernel
theorem dX11_explore_30 : decode cX11_explore 30 = .ok (.aload_n 1, 1) := by decide +kernel
theorem dX11_explore_31 : decode cX11_explore 31 = .ok (.getfield 254, 3) := by decide +kernel
theorem dX11_explore_34 : decode cX11_explore 34 = .ok (.ifnull 17, 3) := by decide +kernel
theorem dX11_explore_37 : decode cX11_explore 37 = .ok (.aload_n 0, 1) := by decide +kernel
theorem dX11_explore_38 : decode cX11_explore 38 = .ok (.aload_n 1, 1) := by decide +kernel
theorem dX11_explore_39 : decode cX11_explore 39 = .ok (.aload_n 1, 1) := by decide +kernel
theorem dX11_explore_40 : decode cX11_explore 40 = .ok (.getfield 254, 3) := by decide +kernel
theorem dX11_explore_43 : decode cX11_explore 43 = .ok (.iload_n 2, 1) := by decide +kernel
theorem dX11_explore_44 : decode cX11_explore 44 = .ok (.iload_n 3, 1) := by decide +kernel
theorem dX11_explore_45 : decode cX11_explore 45 = .ok (.iload 5, 2) := by decide +kernel
theorem dX11_explore_47 : decode cX11_explore 47 = .ok (.invokevirtual 257, 3) := by decide +kernel
theorem dX11_explore_50 : decode cX11_explore 50 = .ok (.return_, 1) := by decide +kernel
theorem dX11_explore_51 : decode cX11_explore 51 = .ok (.aload_n 1, 1) := by decide +kernel
theorem dX11_explore_52 : decode cX11_explore 52 = .ok (.aload_n 1, 1) := by decide +kernel
theorem dX11_explore_53 : decode cX11_explore 53 = .ok (.getfield 123, 3) := by decide +kernel
theorem dX11_explore_56 : decode cX11_explore 56 = .ok (.invokevirtual 243, 3) := by decide +kernel
theorem dX11_explore_59 : decode cX11_explore 59 = .ok (.aload_n 1, 1) := by decide +kernel
theorem dX11_explore_60 : decode cX11_explore 60 = .ok (.invokevirtual 247, 3) := by decide +kernel
theorem dX11_explore_63 : decode cX11_explore 63 = .ok (.iinc 5 (-1), 3) := by decide +kernel
theorem dX11_explore_66 : decode cX11_explore 66 = .ok (.goto (-62), 3) := by decide +kernel
theorem dX11_explore_69 : decode cX11_explore 69 = .ok (.aload_n 0, 1) := by decide +kernel
theorem dX11_explore_70 : decode cX11_explore 70 = .ok (.aload_n 1, 1) := by decide +kernel
theorem dX11_explore_71 : decode cX11_explore 71 = .ok (.invokevirtual 237, 3) := by decide +kernel
theorem dX11_explore_74 : decode cX11_explore 74 = .ok (.iload_n 3, 1) := by decide +kernel
theorem dX11_explore_75 : decode cX11_explore 75 = .ok (.invokevirtual 261, 3) := by decide +kernel
theorem dX11_explore_78 : decode cX11_explore 78 = .ok (.return_, 1) := by decide +kernel
theorem dX11_branch_0 : decode cX11_branch 0 = .ok (.iconst 0, 1) := by decide +kernel
theorem dX11_branch_1 : decode cX11_branch 1 = .ok (.istore 6, 2) := by decide +kernel
theorem dX11_branch_3 : decode cX11_branch 3 = .ok (.iload 6, 2) := by decide +kernel
theorem dX11_branch_5 : decode cX11_branch 5 = .ok (.aload_n 1, 1) := by decide +kernel
theorem dX11_branch_6 : decode cX11_branch 6 = .ok (.getfield 201, 3) := by decide +kernel
theorem dX11_branch_9 : decode cX11_branch 9 = .ok (.if_icmp .gt 63, 3) := by decide +kernel
theorem dX11_branch_12 : decode cX11_branch 12 = .ok (.iload 6, 2) := by decide +kernel
theorem dX11_branch_14 : decode cX11_branch 14 = .ok (.iconst 1, 1) := by decide +kernel
theorem dX11_branch_15 : decode cX11_branch 15 = .ok (.isub, 1) := by decide +kernel
theorem dX11_branch_16 : decode cX11_branch 16 = .ok (.aload_n 1, 1) := by decide +kernel
theorem dX11_branch_17 : decode cX11_branch 17 = .ok (.getfield 123, 3) := by decide +kernel
theorem dX11_branch_20 : decode cX11_branch 20 = .ok (.getfield 148, 3) := by decide +kernel
theorem dX11_branch_23 : decode cX11_branch 23 = .ok (.if_icmp .eq 43, 3) := by decide +kernel
theorem dX11_branch_26 : decode cX11_branch 26 = .ok (.aload_n 2, 1) := by decide +kernel
theorem dX11_branch_27 : decode cX11_branch 27 = .ok (.aload_n 1, 1) := by decide +kernel
theorem dX11_branch_28 : decode cX11_branch 28 = .ok (.invokevirtual 75, 3) := by decide +kernel
theorem dX11_branch_31 : decode cX11_branch 31 = .ok (.aload_n 2, 1) := by decide +kernel
theorem dX11_branch_32 : decode cX11_branch 32 = .ok (.aload_n 2, 1) := by decide +kernel
theorem dX11_branch_33 : decode cX11_branch 33 = .ok (.getfield 123, 3) := by decide +kernel
theorem dX11_branch_36 : decode cX11_branch 36 = .ok (.iload 6, 2) := by decide +kernel
theorem dX11_branch_38 : decode cX11_branch 38 = .ok (.iconst 1, 1) := by decide +kernel
theorem dX11_branch_39 : decode cX11_branch 39 = .ok (.isub, 1) := by decide +kernel
theorem dX11_branch_40 : decode cX11_branch 40 = .ok (.invokevirtual 149, 3) := by decide +kernel
theorem dX11_branch_43 : decode cX11_branch 43 = .ok (.aload_n 2, 1) := by decide +kernel
theorem dX11_branch_44 : decode cX11_branch 44 = .ok (.invokevirtual 247, 3) := by decide +kernel
theorem dX11_branch_47 : decode cX11_branch 47 = .ok (.aload_n 0, 1) := by decide +kernel
theorem dX11_branch_48 : decode cX11_branch 48 = .ok (.aload_n 2, 1) := by decide +kernel
theorem dX11_branch_49 : decode cX11_branch 49 = .ok (.iload_n 3, 1) := by decide +kernel
theorem dX11_branch_50 : decode cX11_branch 50 = .ok (.iconst 5, 1) := by decide +kernel
theorem dX11_branch_51 : decode cX11_branch 51 = .ok (.imul, 1) := by decide +kernel
theorem dX11_branch_52 : decode cX11_branch 52 = .ok (.iload 4, 2) := by decide +kernel
theorem dX11_branch_54 : decode cX11_branch 54 = .ok (.iload 6, 2) := by decide +kernel
theorem dX11_branch_56 : decode cX11_branch 56 = .ok (.iload_n 3, 1) := by decide +kernel
theorem dX11_branch_57 : decode cX11_branch 57 = .ok (.imul, 1) := by decide +kernel
theorem dX11_branch_58 : decode cX11_branch 58 = .ok (.iadd, 1) := by decide +kernel
theorem dX11_branch_59 : decode cX11_branch 59 = .ok (.iload 5, 2) := by decide +kernel
theorem dX11_branch_61 : decode cX11_branch 61 = .ok (.iconst 1, 1) := by decide +kernel
theorem dX11_branch_62 : decode cX11_branch 62 = .ok (.isub, 1) := by decide +kernel
theorem dX11_branch_63 : decode cX11_branch 63 = .ok (.invokevirtual 250, 3) := by decide +kernel
theorem dX11_branch_66 : decode cX11_branch 66 = .ok (.iinc 6 1, 3) := by decide +kernel
theorem dX11_branch_69 : decode cX11_branch 69 = .ok (.goto (-66), 3) := by decide +kernel
theorem dX11_branch_72 : decode cX11_branch 72 = .ok (.return_, 1) := by decide +kernel
theorem dX11_weigh_0 : decode cX11_weigh 0 = .ok (.aload_n 0, 1) := by decide +kernel
theorem dX11_weigh_1 : decode cX11_weigh 1 = .ok (.getfield 45, 3) := by decide +kernel
theorem dX11_weigh_4 : decode cX11_weigh 4 = .ok (.ifCond .lt 27, 3) := by decide +kernel
theorem dX11_weigh_7 : decode cX11_weigh 7 = .ok (.iload_n 1, 1) := by decide +kernel
theorem dX11_weigh_8 : decode cX11_weigh 8 = .ok (.aload_n 0, 1) := by decide +kernel
theorem dX11_weigh_9 : decode cX11_weigh 9 = .ok (.getfield 41, 3) := by decide +kernel
theorem dX11_weigh_12 : decode cX11_weigh 12 = .ok (.if_icmp .gt 19, 3) := by decide +kernel
theorem dX11_weigh_15 : decode cX11_weigh 15 = .ok (.iload_n 1, 1) := by decide +kernel
theorem dX11_weigh_16 : decode cX11_weigh 16 = .ok (.aload_n 0, 1) := by decide +kernel
theorem dX11_weigh_17 : decode cX11_weigh 17 = .ok (.getfield 41, 3) := by decide +kernel
theorem dX11_weigh_20 : decode cX11_weigh 20 = .ok (.if_icmp .ne 21, 3) := by decide +kernel
theorem dX11_weigh_23 : decode cX11_weigh 23 = .ok (.iload_n 2, 1) := by decide +kernel
theorem dX11_weigh_24 : decode cX11_weigh 24 = .ok (.aload_n 0, 1) := by decide +kernel
theorem dX11_weigh_25 : decode cX11_weigh 25 = .ok (.getfield 45, 3) := by decide +kernel
theorem dX11_weigh_28 : decode cX11_weigh 28 = .ok (.if_icmp .ge 13, 3) := by decide +kernel
theorem dX11_weigh_31 : decode cX11_weigh 31 = .ok (.aload_n 0, 1) := by decide +kernel
theorem dX11_weigh_32 : decode cX11_weigh 32 = .ok (.iload_n 1, 1) := by decide +kernel
theorem dX11_weigh_33 : decode cX11_weigh 33 = .ok (.putfield 41, 3) := by decide +kernel
theorem dX11_weigh_36 : decode cX11_weigh 36 = .ok (.aload_n 0, 1) := by decide +kernel
theorem dX11_weigh_37 : decode cX11_weigh 37 = .ok (.iload_n 2, 1) := by decide +kernel
theorem dX11_weigh_38 : decode cX11_weigh 38 = .ok (.putfield 45, 3) := by decide +kernel
theorem dX11_weigh_41 : decode cX11_weigh 41 = .ok (.return_, 1) := by decide +kernel
theorem dX11_nobody_0 : decode cX11_nobody 0 = .ok (.aload_n 0, 1) := by decide +kernel
theorem dX11_nobody_1 : decode cX11_nobody 1 = .ok (.getfield 12, 3) := by decide +kernel
theorem dX11_nobody_4 : decode cX11_nobody 4 = .ok (.iload_n 1, 1) := by decide +kernel
theorem dX11_nobody_5 : decode cX11_nobody 5 = .ok (.invokevirtual 89, 3) := by decide +kernel
theorem dX11_nobody_8 : decode cX11_nobody 8 = .ok (.ifCond .eq 21, 3) := by decide +kernel
theorem dX11_nobody_11 : decode cX11_nobody 11 = .ok (.iload_n 2, 1) := by decide +kernel
theorem dX11_nobody_12 : decode cX11_nobody 12 = .ok (.ifCond .lt 17, 3) := by decide +kernel
theorem dX11_nobody_15 : decode cX11_nobody 15 = .ok (.iload_n 2, 1) := by decide +kernel
theorem dX11_nobody_16 : decode cX11_nobody 16 = .ok (.iconst 4, 1) := by decide +kernel
theorem dX11_nobody_17 : decode cX11_nobody 17 = .ok (.if_icmp .gt 12, 3) := by decide +kernel
theorem dX11_nobody_20 : decode cX11_nobody 20 = .ok (.iload_n 3, 1) := by decide +kernel
theorem dX11_nobody_21 : decode cX11_nobody 21 = .ok (.ifCond .lt 8, 3) := by decide +kernel
theorem dX11_nobody_24 : decode cX11_nobody 24 = .ok (.iload_n 3, 1) := by decide +kernel
theorem dX11_nobody_25 : decode cX11_nobody 25 = .ok (.iconst 1, 1) := by decide +kernel
theorem dX11_nobody_26 : decode cX11_nobody 26 = .ok (.if_icmp .le 7, 3) := by decide +kernel
theorem dX11_nobody_29 : decode cX11_nobody 29 = .ok (.ldc2_w 265, 3) := by decide +kernel
theorem dX11_nobody_32 : decode cX11_nobody 32 = .ok (.lreturn, 1) := by decide +kernel
theorem dX11_nobody_33 : decode cX11_nobody 33 = .ok (.iload_n 2, 1) := by decide +kernel
theorem dX11_nobody_34 : decode cX11_nobody 34 = .ok (.aload_n 0, 1) := by decide +kernel
theorem dX11_nobody_35 : decode cX11_nobody 35 = .ok (.getfield 12, 3) := by decide +kernel
theorem dX11_nobody_38 : decode cX11_nobody 38 = .ok (.iload_n 1, 1) := by decide +kernel
theorem dX11_nobody_39 : decode cX11_nobody 39 = .ok (.invokevirtual 267, 3) := by decide +kernel
theorem dX11_nobody_42 : decode cX11_nobody 42 = .ok (.imul, 1) := by decide +kernel
theorem dX11_nobody_43 : decode cX11_nobody 43 = .ok (.bipush 8, 2) := by decide +kernel
theorem dX11_nobody_45 : decode cX11_nobody 45 = .ok (.if_icmp .le 7, 3) := by decide +kernel
theorem dX11_nobody_48 : decode cX11_nobody 48 = .ok (.ldc2_w 270, 3) := by decide +kernel
theorem dX11_nobody_51 : decode cX11_nobody 51 = .ok (.lreturn, 1) := by decide +kernel
theorem dX11_nobody_52 : decode cX11_nobody 52 = .ok (.lconst 1, 1) := by decide +kernel
theorem dX11_nobody_53 : decode cX11_nobody 53 = .ok (.lstore 4, 2) := by decide +kernel
theorem dX11_nobody_55 : decode cX11_nobody 55 = .ok (.lconst 1, 1) := by decide +kernel
theorem dX11_nobody_56 : decode cX11_nobody 56 = .ok (.lstore 6, 2) := by decide +kernel
theorem dX11_nobody_58 : decode cX11_nobody 58 = .ok (.iconst 0, 1) := by decide +kernel
theorem dX11_nobody_59 : decode cX11_nobody 59 = .ok (.istore 8, 2) := by decide +kernel
theorem dX11_nobody_61 : decode cX11_nobody 61 = .ok (.iload 8, 2) := by decide +kernel
theorem dX11_nobody_63 : decode cX11_nobody 63 = .ok (.aload_n 0, 1) := by decide +kernel
theorem dX11_nobody_64 : decode cX11_nobody 64 = .ok (.getfield 12, 3) := by decide +kernel
theorem dX11_nobody_67 : decode cX11_nobody 67 = .ok (.getfield 207, 3) := by decide +kernel
theorem dX11_nobody_70 : decode cX11_nobody 70 = .ok (.if_icmp .ge 65, 3) := by decide +kernel
theorem dX11_nobody_73 : decode cX11_nobody 73 = .ok (.aload_n 0, 1) := by decide +kernel
theorem dX11_nobody_74 : decode cX11_nobody 74 = .ok (.getfield 12, 3) := by decide +kernel
theorem dX11_nobody_77 : decode cX11_nobody 77 = .ok (.iload 8, 2) := by decide +kernel
theorem dX11_nobody_79 : decode cX11_nobody 79 = .ok (.iconst 0, 1) := by decide +kernel
theorem dX11_nobody_80 : decode cX11_nobody 80 = .ok (.invokevirtual 99, 3) := by decide +kernel
theorem dX11_nobody_83 : decode cX11_nobody 83 = .ok (.iload_n 1, 1) := by decide +kernel
theorem dX11_nobody_84 : decode cX11_nobody 84 = .ok (.if_icmp .ne 45, 3) := by decide +kernel
theorem dX11_nobody_87 : decode cX11_nobody 87 = .ok (.iconst 0, 1) := by decide +kernel
theorem dX11_nobody_88 : decode cX11_nobody 88 = .ok (.istore 9, 2) := by decide +kernel
theorem dX11_nobody_90 : decode cX11_nobody 90 = .ok (.iload 9, 2) := by decide +kernel
theorem dX11_nobody_92 : decode cX11_nobody 92 = .ok (.iload_n 2, 1) := by decide +kernel
theorem dX11_nobody_93 : decode cX11_nobody 93 = .ok (.if_icmp .ge 36, 3) := by decide +kernel
theorem dX11_nobody_96 : decode cX11_nobody 96 = .ok (.lload 4, 2) := by decide +kernel
theorem dX11_nobody_98 : decode cX11_nobody 98 = .ok (.bipush 100, 2) := by decide +kernel
theorem dX11_nobody_100 : decode cX11_nobody 100 = .ok (.aload_n 0, 1) := by decide +kernel
theorem dX11_nobody_101 : decode cX11_nobody 101 = .ok (.getfield 12, 3) := by decide +kernel
theorem dX11_nobody_104 : decode cX11_nobody 104 = .ok (.iload 8, 2) := by decide +kernel
theorem dX11_nobody_106 : decode cX11_nobody 106 = .ok (.iconst 2, 1) := by decide +kernel
theorem dX11_nobody_107 : decode cX11_nobody 107 = .ok (.invokevirtual 99, 3) := by decide +kernel
theorem dX11_nobody_110 : decode cX11_nobody 110 = .ok (.isub, 1) := by decide +kernel
theorem dX11_nobody_111 : decode cX11_nobody 111 = .ok (.i2l, 1) := by decide +kernel
theorem dX11_nobody_112 : decode cX11_nobody 112 = .ok (.lmul, 1) := by decide +kernel
theorem dX11_nobody_113 : decode cX11_nobody 113 = .ok (.lstore 4, 2) := by decide +kernel
theorem dX11_nobody_115 : decode cX11_nobody 115 = .ok (.lload 6, 2) := by decide +kernel
theorem dX11_nobody_117 : decode cX11_nobody 117 = .ok (.ldc2_w 272, 3) := by decide +kernel
theorem dX11_nobody_120 : decode cX11_nobody 120 = .ok (.lmul, 1) := by decide +kernel
theorem dX11_nobody_121 : decode cX11_nobody 121 = .ok (.lstore 6, 2) := by decide +kernel
theorem dX11_nobody_123 : decode cX11_nobody 123 = .ok (.iinc 9 1, 3) := by decide +kernel
theorem dX11_nobody_126 : decode cX11_nobody 126 = .ok (.goto (-36), 3) := by decide +kernel
theorem dX11_nobody_129 : decode cX11_nobody 129 = .ok (.iinc 8 1, 3) := by decide +kernel
theorem dX11_nobody_132 : decode cX11_nobody 132 = .ok (.goto (-71), 3) := by decide +kernel
theorem dX11_nobody_135 : decode cX11_nobody 135 = .ok (.lload 4, 2) := by decide +kernel
theorem dX11_nobody_137 : decode cX11_nobody 137 = .ok (.lload 6, 2) := by decide +kernel
theorem dX11_nobody_139 : decode cX11_nobody 139 = .ok (.invokestatic 274, 3) := by decide +kernel
theorem dX11_nobody_142 : decode cX11_nobody 142 = .ok (.lstore 8, 2) := by decide +kernel
theorem dX11_nobody_144 : decode cX11_nobody 144 = .ok (.iload_n 3, 1) := by decide +kernel
theorem dX11_nobody_145 : decode cX11_nobody 145 = .ok (.ifCond .ne 8, 3) := by decide +kernel
theorem dX11_nobody_148 : decode cX11_nobody 148 = .ok (.lload 4, 2) := by decide +kernel
theorem dX11_nobody_150 : decode cX11_nobody 150 = .ok (.goto 5, 3) := by decide +kernel
theorem dX11_nobody_153 : decode cX11_nobody 153 = .ok (.lload 6, 2) := by decide +kernel
theorem dX11_nobody_155 : decode cX11_nobody 155 = .ok (.lload 8, 2) := by decide +kernel
theorem dX11_nobody_157 : decode cX11_nobody 157 = .ok (.lconst 0, 1) := by decide +kernel
theorem dX11_nobody_158 : decode cX11_nobody 158 = .ok (.lcmp, 1) := by decide +kernel
theorem dX11_nobody_159 : decode cX11_nobody 159 = .ok (.ifCond .le 8, 3) := by decide +kernel
theorem dX11_nobody_162 : decode cX11_nobody 162 = .ok (.lload 8, 2) := by decide +kernel
theorem dX11_nobody_164 : decode cX11_nobody 164 = .ok (.goto 4, 3) := by decide +kernel
theorem dX11_nobody_167 : decode cX11_nobody 167 = .ok (.lconst 1, 1) := by decide +kernel
theorem dX11_nobody_168 : decode cX11_nobody 168 = .ok (.ldiv, 1) := by decide +kernel
theorem dX11_nobody_169 : decode cX11_nobody 169 = .ok (.lreturn, 1) := by decide +kernel
theorem dX11_commonDivisor_0 : decode cX11_commonDivisor 0 = .ok (.lload_n 0, 1) := by decide +kernel
theorem dX11_commonDivisor_1 : decode cX11_commonDivisor 1 = .ok (.lstore 4, 2) := by decide +kernel
theorem dX11_commonDivisor_3 : decode cX11_commonDivisor 3 = .ok (.lload_n 2, 1) := by decide +kernel
theorem dX11_commonDivisor_4 : decode cX11_commonDivisor 4 = .ok (.lstore 6, 2) := by decide +kernel
theorem dX11_commonDivisor_6 : decode cX11_commonDivisor 6 = .ok (.iconst 0, 1) := by decide +kernel
theorem dX11_commonDivisor_7 : decode cX11_commonDivisor 7 = .ok (.istore 8, 2) := by decide +kernel
theorem dX11_commonDivisor_9 : decode cX11_commonDivisor 9 = .ok (.iload 8, 2) := by decide +kernel
theorem dX11_commonDivisor_11 : decode cX11_commonDivisor 11 = .ok (.sipush 200, 3) := by decide +kernel
theorem dX11_commonDivisor_14 : decode cX11_commonDivisor 14 = .ok (.if_icmp .ge 31, 3) := by decide +kernel
theorem dX11_commonDivisor_17 : decode cX11_commonDivisor 17 = .ok (.lload 6, 2) := by decide +kernel
theorem dX11_commonDivisor_19 : decode cX11_commonDivisor 19 = .ok (.lconst 0, 1) := by decide +kernel
theorem dX11_commonDivisor_20 : decode cX11_commonDivisor 20 = .ok (.lcmp, 1) := by decide +kernel
theorem dX11_commonDivisor_21 : decode cX11_commonDivisor 21 = .ok (.ifCond .eq 24, 3) := by decide +kernel
theorem dX11_commonDivisor_24 : decode cX11_commonDivisor 24 = .ok (.lload 4, 2) := by decide +kernel
theorem dX11_commonDivisor_26 : decode cX11_commonDivisor 26 = .ok (.lload 6, 2) := by decide +kernel
theorem dX11_commonDivisor_28 : decode cX11_commonDivisor 28 = .ok (.lrem, 1) := by decide +kernel
theorem dX11_commonDivisor_29 : decode cX11_commonDivisor 29 = .ok (.lstore 9, 2) := by decide +kernel
theorem dX11_commonDivisor_31 : decode cX11_commonDivisor 31 = .ok (.lload 6, 2) := by decide +kernel
theorem dX11_commonDivisor_33 : decode cX11_commonDivisor 33 = .ok (.lstore 4, 2) := by decide +kernel
theorem dX11_commonDivisor_35 : decode cX11_commonDivisor 35 = .ok (.lload 9, 2) := by decide +kernel
theorem dX11_commonDivisor_37 : decode cX11_commonDivisor 37 = .ok (.lstore 6, 2) := by decide +kernel
theorem dX11_commonDivisor_39 : decode cX11_commonDivisor 39 = .ok (.iinc 8 1, 3) := by decide +kernel
theorem dX11_commonDivisor_42 : decode cX11_commonDivisor 42 = .ok (.goto (-33), 3) := by decide +kernel
theorem dX11_commonDivisor_45 : decode cX11_commonDivisor 45 = .ok (.lload 4, 2) := by decide +kernel
theorem dX11_commonDivisor_47 : decode cX11_commonDivisor 47 = .ok (.lreturn, 1) := by decide +kernel
theorem dX11_judge_0 : decode cX11_judge 0 = .ok (.aload_n 0, 1) := by decide +kernel
theorem dX11_judge_1 : decode cX11_judge 1 = .ok (.getfield 12, 3) := by decide +kernel
theorem dX11_judge_4 : decode cX11_judge 4 = .ok (.iload_n 1, 1) := by decide +kernel
theorem dX11_judge_5 : decode cX11_judge 5 = .ok (.invokevirtual 89, 3) := by decide +kernel
theorem dX11_judge_8 : decode cX11_judge 8 = .ok (.ifCond .ne 5, 3) := by decide +kernel
theorem dX11_judge_11 : decode cX11_judge 11 = .ok (.iconst (-1), 1) := by decide +kernel
theorem dX11_judge_12 : decode cX11_judge 12 = .ok (.ireturn, 1) := by decide +kernel
theorem dX11_judge_13 : decode cX11_judge 13 = .ok (.aload_n 0, 1) := by decide +kernel
theorem dX11_judge_14 : decode cX11_judge 14 = .ok (.iload_n 2, 1) := by decide +kernel
theorem dX11_judge_15 : decode cX11_judge 15 = .ok (.iconst (-1), 1) := by decide +kernel
theorem dX11_judge_16 : decode cX11_judge 16 = .ok (.invokevirtual 49, 3) := by decide +kernel
theorem dX11_judge_19 : decode cX11_judge 19 = .ok (.istore_n 3, 1) := by decide +kernel
theorem dX11_judge_20 : decode cX11_judge 20 = .ok (.aload_n 0, 1) := by decide +kernel
theorem dX11_judge_21 : decode cX11_judge 21 = .ok (.iload_n 2, 1) := by decide +kernel
theorem dX11_judge_22 : decode cX11_judge 22 = .ok (.invokevirtual 53, 3) := by decide +kernel
theorem dX11_judge_25 : decode cX11_judge 25 = .ok (.astore 4, 2) := by decide +kernel
theorem dX11_judge_27 : decode cX11_judge 27 = .ok (.iload_n 3, 1) := by decide +kernel
theorem dX11_judge_28 : decode cX11_judge 28 = .ok (.ifCond .ne 8, 3) := by decide +kernel
theorem dX11_judge_31 : decode cX11_judge 31 = .ok (.aload 4, 2) := by decide +kernel
theorem dX11_judge_33 : decode cX11_judge 33 = .ok (.ifnonnull 5, 3) := by decide +kernel
theorem dX11_judge_36 : decode cX11_judge 36 = .ok (.iload_n 3, 1) := by decide +kernel
theorem dX11_judge_37 : decode cX11_judge 37 = .ok (.ireturn, 1) := by decide +kernel
theorem dX11_judge_38 : decode cX11_judge 38 = .ok (.aload_n 0, 1) := by decide +kernel
theorem dX11_judge_39 : decode cX11_judge 39 = .ok (.getfield 25, 3) := by decide +kernel
theorem dX11_judge_42 : decode cX11_judge 42 = .ok (.aload_n 0, 1) := by decide +kernel
theorem dX11_judge_43 : decode cX11_judge 43 = .ok (.getfield 12, 3) := by decide +kernel
theorem dX11_judge_46 : decode cX11_judge 46 = .ok (.invokevirtual 75, 3) := by decide +kernel
theorem dX11_judge_49 : decode cX11_judge 49 = .ok (.iconst 0, 1) := by decide +kernel
theorem dX11_judge_50 : decode cX11_judge 50 = .ok (.istore 5, 2) := by decide +kernel
theorem dX11_judge_52 : decode cX11_judge 52 = .ok (.iload 5, 2) := by decide +kernel
theorem dX11_judge_54 : decode cX11_judge 54 = .ok (.aload 4, 2) := by decide +kernel
theorem dX11_judge_56 : decode cX11_judge 56 = .ok (.getfield 61, 3) := by decide +kernel
theorem dX11_judge_59 : decode cX11_judge 59 = .ok (.if_icmp .ge 52, 3) := by decide +kernel
theorem dX11_judge_62 : decode cX11_judge 62 = .ok (.aload_n 0, 1) := by decide +kernel
theorem dX11_judge_63 : decode cX11_judge 63 = .ok (.getfield 25, 3) := by decide +kernel
theorem dX11_judge_66 : decode cX11_judge 66 = .ok (.iconst 1, 1) := by decide +kernel
theorem dX11_judge_67 : decode cX11_judge 67 = .ok (.invokevirtual 141, 3) := by decide +kernel
theorem dX11_judge_70 : decode cX11_judge 70 = .ok (.aload 4, 2) := by decide +kernel
theorem dX11_judge_72 : decode cX11_judge 72 = .ok (.iload 5, 2) := by decide +kernel
theorem dX11_judge_74 : decode cX11_judge 74 = .ok (.invokevirtual 194, 3) := by decide +kernel
theorem dX11_judge_77 : decode cX11_judge 77 = .ok (.istore 6, 2) := by decide +kernel
theorem dX11_judge_79 : decode cX11_judge 79 = .ok (.iload 6, 2) := by decide +kernel
theorem dX11_judge_81 : decode cX11_judge 81 = .ok (.aload 4, 2) := by decide +kernel
theorem dX11_judge_83 : decode cX11_judge 83 = .ok (.invokevirtual 278, 3) := by decide +kernel
theorem dX11_judge_86 : decode cX11_judge 86 = .ok (.if_icmp .eq 19, 3) := by decide +kernel
theorem dX11_judge_89 : decode cX11_judge 89 = .ok (.iload 6, 2) := by decide +kernel
theorem dX11_judge_91 : decode cX11_judge 91 = .ok (.aload_n 0, 1) := by decide +kernel
theorem dX11_judge_92 : decode cX11_judge 92 = .ok (.getfield 25, 3) := by decide +kernel
theorem dX11_judge_95 : decode cX11_judge 95 = .ok (.iload_n 1, 1) := by decide +kernel
theorem dX11_judge_96 : decode cX11_judge 96 = .ok (.invokevirtual 156, 3) := by decide +kernel
theorem dX11_judge_99 : decode cX11_judge 99 = .ok (.if_icmp .eq 6, 3) := by decide +kernel
theorem dX11_judge_102 : decode cX11_judge 102 = .ok (.iload 5, 2) := by decide +kernel
theorem dX11_judge_104 : decode cX11_judge 104 = .ok (.ireturn, 1) := by decide +kernel
theorem dX11_judge_105 : decode cX11_judge 105 = .ok (.iinc 5 1, 3) := by decide +kernel
theorem dX11_judge_108 : decode cX11_judge 108 = .ok (.goto (-56), 3) := by decide +kernel
theorem dX11_judge_111 : decode cX11_judge 111 = .ok (.bipush (-4), 2) := by decide +kernel
theorem dX11_judge_113 : decode cX11_judge 113 = .ok (.ireturn, 1) := by decide +kernel
theorem dX11_image_0 : decode cX11_image 0 = .ok (.aload_n 0, 1) := by decide +kernel
theorem dX11_image_1 : decode cX11_image 1 = .ok (.getfield 18, 3) := by decide +kernel
theorem dX11_image_4 : decode cX11_image 4 = .ok (.aload_n 0, 1) := by decide +kernel
theorem dX11_image_5 : decode cX11_image 5 = .ok (.getfield 12, 3) := by decide +kernel
theorem dX11_image_8 : decode cX11_image 8 = .ok (.invokevirtual 75, 3) := by decide +kernel
theorem dX11_image_11 : decode cX11_image 11 = .ok (.aload_n 0, 1) := by decide +kernel
theorem dX11_image_12 : decode cX11_image 12 = .ok (.iconst 1, 1) := by decide +kernel
theorem dX11_image_13 : decode cX11_image 13 = .ok (.putfield 21, 3) := by decide +kernel
theorem dX11_image_16 : decode cX11_image 16 = .ok (.aload_n 0, 1) := by decide +kernel
theorem dX11_image_17 : decode cX11_image 17 = .ok (.getfield 12, 3) := by decide +kernel
theorem dX11_image_20 : decode cX11_image 20 = .ok (.getfield 138, 3) := by decide +kernel
theorem dX11_image_23 : decode cX11_image 23 = .ok (.ireturn, 1) := by decide +kernel
theorem dX11_restore_0 : decode cX11_restore 0 = .ok (.aload_n 0, 1) := by decide +kernel
theorem dX11_restore_1 : decode cX11_restore 1 = .ok (.getfield 21, 3) := by decide +kernel
theorem dX11_restore_4 : decode cX11_restore 4 = .ok (.ifCond .ne 6, 3) := by decide +kernel
theorem dX11_restore_7 : decode cX11_restore 7 = .ok (.bipush (-3), 2) := by decide +kernel
theorem dX11_restore_9 : decode cX11_restore 9 = .ok (.ireturn, 1) := by decide +kernel
theorem dX11_restore_10 : decode cX11_restore 10 = .ok (.aload_n 0, 1) := by decide +kernel
theorem dX11_restore_11 : decode cX11_restore 11 = .ok (.getfield 12, 3) := by decide +kernel
theorem dX11_restore_14 : decode cX11_restore 14 = .ok (.aload_n 0, 1) := by decide +kernel
theorem dX11_restore_15 : decode cX11_restore 15 = .ok (.getfield 18, 3) := by decide +kernel
theorem dX11_restore_18 : decode cX11_restore 18 = .ok (.invokevirtual 75, 3) := by decide +kernel
theorem dX11_restore_21 : decode cX11_restore 21 = .ok (.aload_n 0, 1) := by decide +kernel
theorem dX11_restore_22 : decode cX11_restore 22 = .ok (.getfield 12, 3) := by decide +kernel
theorem dX11_restore_25 : decode cX11_restore 25 = .ok (.getfield 138, 3) := by decide +kernel
theorem dX11_restore_28 : decode cX11_restore 28 = .ok (.ireturn, 1) := by decide +kernel
theorem dX11_count_0 : decode cX11_count 0 = .ok (.iload_n 1, 1) := by decide +kernel
theorem dX11_count_1 : decode cX11_count 1 = .ok (.tableswitch 87 0 5 #[39, 47, 55, 63, 71, 79], 39) := by decide +kernel
theorem dX11_count_40 : decode cX11_count 40 = .ok (.aload_n 0, 1) := by decide +kernel
theorem dX11_count_41 : decode cX11_count 41 = .ok (.getfield 12, 3) := by decide +kernel
theorem dX11_count_44 : decode cX11_count 44 = .ok (.getfield 201, 3) := by decide +kernel
theorem dX11_count_47 : decode cX11_count 47 = .ok (.ireturn, 1) := by decide +kernel
theorem dX11_count_48 : decode cX11_count 48 = .ok (.aload_n 0, 1) := by decide +kernel
theorem dX11_count_49 : decode cX11_count 49 = .ok (.getfield 12, 3) := by decide +kernel
theorem dX11_count_52 : decode cX11_count 52 = .ok (.getfield 207, 3) := by decide +kernel
theorem dX11_count_55 : decode cX11_count 55 = .ok (.ireturn, 1) := by decide +kernel
theorem dX11_count_56 : decode cX11_count 56 = .ok (.aload_n 0, 1) := by decide +kernel
theorem dX11_count_57 : decode cX11_count 57 = .ok (.getfield 12, 3) := by decide +kernel
theorem dX11_count_60 : decode cX11_count 60 = .ok (.getfield 109, 3) := by decide +kernel
theorem dX11_count_63 : decode cX11_count 63 = .ok (.ireturn, 1) := by decide +kernel
theorem dX11_count_64 : decode cX11_count 64 = .ok (.aload_n 0, 1) := by decide +kernel
theorem dX11_count_65 : decode cX11_count 65 = .ok (.getfield 12, 3) := by decide +kernel
theorem dX11_count_68 : decode cX11_count 68 = .ok (.getfield 138, 3) := by decide +kernel
theorem dX11_count_71 : decode cX11_count 71 = .ok (.ireturn, 1) := by decide +kernel
theorem dX11_count_72 : decode cX11_count 72 = .ok (.aload_n 0, 1) := by decide +kernel
theorem dX11_count_73 : decode cX11_count 73 = .ok (.getfield 12, 3) := by decide +kernel
theorem dX11_count_76 : decode cX11_count 76 = .ok (.invokevirtual 281, 3) := by decide +kernel
theorem dX11_count_79 : decode cX11_count 79 = .ok (.ireturn, 1) := by decide +kernel
theorem dX11_count_80 : decode cX11_count 80 = .ok (.aload_n 0, 1) := by decide +kernel
theorem dX11_count_81 : decode cX11_count 81 = .ok (.getfield 12, 3) := by decide +kernel
theorem dX11_count_84 : decode cX11_count 84 = .ok (.invokevirtual 284, 3) := by decide +kernel
theorem dX11_count_87 : decode cX11_count 87 = .ok (.ireturn, 1) := by decide +kernel
theorem dX11_count_88 : decode cX11_count 88 = .ok (.iconst (-1), 1) := by decide +kernel
theorem dX11_count_89 : decode cX11_count 89 = .ok (.ireturn, 1) := by decide +kernel
theorem dX11_keep_0 : decode cX11_keep 0 = .ok (.aload_n 0, 1) := by decide +kernel
theorem dX11_keep_1 : decode cX11_keep 1 = .ok (.iload_n 1, 1) := by decide +kernel
theorem dX11_keep_2 : decode cX11_keep 2 = .ok (.invokevirtual 53, 3) := by decide +kernel
theorem dX11_keep_5 : decode cX11_keep 5 = .ok (.astore 5, 2) := by decide +kernel
theorem dX11_keep_7 : decode cX11_keep 7 = .ok (.aload 5, 2) := by decide +kernel
theorem dX11_keep_9 : decode cX11_keep 9 = .ok (.ifnull 12, 3) := by decide +kernel
theorem dX11_keep_12 : decode cX11_keep 12 = .ok (.iload_n 2, 1) := by decide +kernel
theorem dX11_keep_13 : decode cX11_keep 13 = .ok (.ifCond .lt 8, 3) := by decide +kernel
theorem dX11_keep_16 : decode cX11_keep 16 = .ok (.iload_n 2, 1) := by decide +kernel
theorem dX11_keep_17 : decode cX11_keep 17 = .ok (.iconst 1, 1) := by decide +kernel
theorem dX11_keep_18 : decode cX11_keep 18 = .ok (.if_icmp .le 5, 3) := by decide +kernel
theorem dX11_keep_21 : decode cX11_keep 21 = .ok (.iconst (-1), 1) := by decide +kernel
theorem dX11_keep_22 : decode cX11_keep 22 = .ok (.ireturn, 1) := by decide +kernel
theorem dX11_keep_23 : decode cX11_keep 23 = .ok (.iload_n 2, 1) := by decide +kernel
theorem dX11_keep_24 : decode cX11_keep 24 = .ok (.iconst 1, 1) := by decide +kernel
theorem dX11_keep_25 : decode cX11_keep 25 = .ok (.if_icmp .ne 27, 3) := by decide +kernel
theorem dX11_keep_28 : decode cX11_keep 28 = .ok (.iload_n 3, 1) := by decide +kernel
theorem dX11_keep_29 : decode cX11_keep 29 = .ok (.ifCond .lt 21, 3) := by decide +kernel
theorem dX11_keep_32 : decode cX11_keep 32 = .ok (.iload_n 3, 1) := by decide +kernel
theorem dX11_keep_33 : decode cX11_keep 33 = .ok (.bipush 7, 2) := by decide +kernel
theorem dX11_keep_35 : decode cX11_keep 35 = .ok (.if_icmp .ge 15, 3) := by decide +kernel
theorem dX11_keep_38 : decode cX11_keep 38 = .ok (.iload 4, 2) := by decide +kernel
theorem dX11_keep_40 : decode cX11_keep 40 = .ok (.ifCond .lt 10, 3) := by decide +kernel
theorem dX11_keep_43 : decode cX11_keep 43 = .ok (.iload 4, 2) := by decide +kernel
theorem dX11_keep_45 : decode cX11_keep 45 = .ok (.bipush 9, 2) := by decide +kernel
theorem dX11_keep_47 : decode cX11_keep 47 = .ok (.if_icmp .le 5, 3) := by decide +kernel
theorem dX11_keep_50 : decode cX11_keep 50 = .ok (.iconst (-1), 1) := by decide +kernel
theorem dX11_keep_51 : decode cX11_keep 51 = .ok (.ireturn, 1) := by decide +kernel
theorem dX11_keep_52 : decode cX11_keep 52 = .ok (.aload 5, 2) := by decide +kernel
theorem dX11_keep_54 : decode cX11_keep 54 = .ok (.invokevirtual 287, 3) := by decide +kernel
theorem dX11_keep_57 : decode cX11_keep 57 = .ok (.iload_n 2, 1) := by decide +kernel
theorem dX11_keep_58 : decode cX11_keep 58 = .ok (.iconst 1, 1) := by decide +kernel
theorem dX11_keep_59 : decode cX11_keep 59 = .ok (.if_icmp .ne 14, 3) := by decide +kernel
theorem dX11_keep_62 : decode cX11_keep 62 = .ok (.aload 5, 2) := by decide +kernel
theorem dX11_keep_64 : decode cX11_keep 64 = .ok (.iload_n 3, 1) := by decide +kernel
theorem dX11_keep_65 : decode cX11_keep 65 = .ok (.iload 4, 2) := by decide +kernel
theorem dX11_keep_67 : decode cX11_keep 67 = .ok (.invokestatic 197, 3) := by decide +kernel
theorem dX11_keep_70 : decode cX11_keep 70 = .ok (.putfield 290, 3) := by decide +kernel
theorem dX11_keep_73 : decode cX11_keep 73 = .ok (.iconst 0, 1) := by decide +kernel
theorem dX11_keep_74 : decode cX11_keep 74 = .ok (.ireturn, 1) := by decide +kernel
theorem dX11_row_0 : decode cX11_row 0 = .ok (.aload_n 0, 1) := by decide +kernel
theorem dX11_row_1 : decode cX11_row 1 = .ok (.iload_n 1, 1) := by decide +kernel
theorem dX11_row_2 : decode cX11_row 2 = .ok (.invokevirtual 53, 3) := by decide +kernel
theorem dX11_row_5 : decode cX11_row 5 = .ok (.astore 4, 2) := by decide +kernel
theorem dX11_row_7 : decode cX11_row 7 = .ok (.aload 4, 2) := by decide +kernel
theorem dX11_row_9 : decode cX11_row 9 = .ok (.ifnull 18, 3) := by decide +kernel
theorem dX11_row_12 : decode cX11_row 12 = .ok (.iload_n 2, 1) := by decide +kernel
theorem dX11_row_13 : decode cX11_row 13 = .ok (.ifCond .lt 14, 3) := by decide +kernel
theorem dX11_row_16 : decode cX11_row 16 = .ok (.iload_n 2, 1) := by decide +kernel
theorem dX11_row_17 : decode cX11_row 17 = .ok (.iconst 2, 1) := by decide +kernel
theorem dX11_row_18 : decode cX11_row 18 = .ok (.if_icmp .gt 9, 3) := by decide +kernel
theorem dX11_row_21 : decode cX11_row 21 = .ok (.iload_n 3, 1) := by decide +kernel
theorem dX11_row_22 : decode cX11_row 22 = .ok (.bipush 100, 2) := by decide +kernel
theorem dX11_row_24 : decode cX11_row 24 = .ok (.if_icmp .le 5, 3) := by decide +kernel
theorem dX11_row_27 : decode cX11_row 27 = .ok (.iconst (-1), 1) := by decide +kernel
theorem dX11_row_28 : decode cX11_row 28 = .ok (.ireturn, 1) := by decide +kernel
theorem dX11_row_29 : decode cX11_row 29 = .ok (.iload_n 3, 1) := by decide +kernel
theorem dX11_row_30 : decode cX11_row 30 = .ok (.ifCond .ge 6, 3) := by decide +kernel
theorem dX11_row_33 : decode cX11_row 33 = .ok (.bipush (-14), 2) := by decide +kernel
theorem dX11_row_35 : decode cX11_row 35 = .ok (.ireturn, 1) := by decide +kernel
theorem dX11_row_36 : decode cX11_row 36 = .ok (.aload 4, 2) := by decide +kernel
theorem dX11_row_38 : decode cX11_row 38 = .ok (.invokevirtual 287, 3) := by decide +kernel
theorem dX11_row_41 : decode cX11_row 41 = .ok (.aload 4, 2) := by decide +kernel
theorem dX11_row_43 : decode cX11_row 43 = .ok (.iload_n 2, 1) := by decide +kernel
theorem dX11_row_44 : decode cX11_row 44 = .ok (.iload_n 3, 1) := by decide +kernel
theorem dX11_row_45 : decode cX11_row 45 = .ok (.invokevirtual 291, 3) := by decide +kernel
theorem dX11_row_48 : decode cX11_row 48 = .ok (.iconst 0, 1) := by decide +kernel
theorem dX11_row_49 : decode cX11_row 49 = .ok (.ireturn, 1) := by decide +kernel
theorem dX11_put_0 : decode cX11_put 0 = .ok (.aload_n 0, 1) := by decide +kernel
theorem dX11_put_1 : decode cX11_put 1 = .ok (.iload_n 1, 1) := by decide +kernel
theorem dX11_put_2 : decode cX11_put 2 = .ok (.iconst (-1), 1) := by decide +kernel
theorem dX11_put_3 : decode cX11_put 3 = .ok (.invokevirtual 49, 3) := by decide +kernel
theorem dX11_put_6 : decode cX11_put 6 = .ok (.istore 4, 2) := by decide +kernel
theorem dX11_put_8 : decode cX11_put 8 = .ok (.aload_n 0, 1) := by decide +kernel
theorem dX11_put_9 : decode cX11_put 9 = .ok (.iload_n 1, 1) := by decide +kernel
theorem dX11_put_10 : decode cX11_put 10 = .ok (.invokevirtual 53, 3) := by decide +kernel
theorem dX11_put_13 : decode cX11_put 13 = .ok (.astore 5, 2) := by decide +kernel
theorem dX11_put_15 : decode cX11_put 15 = .ok (.iload 4, 2) := by decide +kernel
theorem dX11_put_17 : decode cX11_put 17 = .ok (.ifCond .ne 8, 3) := by decide +kernel
theorem dX11_put_20 : decode cX11_put 20 = .ok (.aload 5, 2) := by decide +kernel
theorem dX11_put_22 : decode cX11_put 22 = .ok (.ifnonnull 6, 3) := by decide +kernel
theorem dX11_put_25 : decode cX11_put 25 = .ok (.iload 4, 2) := by decide +kernel
theorem dX11_put_27 : decode cX11_put 27 = .ok (.ireturn, 1) := by decide +kernel
theorem dX11_put_28 : decode cX11_put 28 = .ok (.aload 5, 2) := by decide +kernel
theorem dX11_put_30 : decode cX11_put 30 = .ok (.iload_n 2, 1) := by decide +kernel
theorem dX11_put_31 : decode cX11_put 31 = .ok (.iload_n 3, 1) := by decide +kernel
theorem dX11_put_32 : decode cX11_put 32 = .ok (.invokevirtual 294, 3) := by decide +kernel
theorem dX11_put_35 : decode cX11_put 35 = .ok (.ifCond .eq 7, 3) := by decide +kernel
theorem dX11_put_38 : decode cX11_put 38 = .ok (.iconst 0, 1) := by decide +kernel
theorem dX11_put_39 : decode cX11_put 39 = .ok (.goto 5, 3) := by decide +kernel
theorem dX11_put_42 : decode cX11_put 42 = .ok (.bipush (-13), 2) := by decide +kernel
theorem dX11_put_44 : decode cX11_put 44 = .ok (.ireturn, 1) := by decide +kernel
theorem dX11_element_0 : decode cX11_element 0 = .ok (.aload_n 0, 1) := by decide +kernel
theorem dX11_element_1 : decode cX11_element 1 = .ok (.iload_n 1, 1) := by decide +kernel
theorem dX11_element_2 : decode cX11_element 2 = .ok (.invokevirtual 53, 3) := by decide +kernel
theorem dX11_element_5 : decode cX11_element 5 = .ok (.astore_n 3, 1) := by decide +kernel
theorem dX11_element_6 : decode cX11_element 6 = .ok (.aload_n 3, 1) := by decide +kernel
theorem dX11_element_7 : decode cX11_element 7 = .ok (.ifnonnull 14, 3) := by decide +kernel
theorem dX11_element_10 : decode cX11_element 10 = .ok (.new 298, 3) := by decide +kernel
theorem dX11_element_13 : decode cX11_element 13 = .ok (.dup, 1) := by decide +kernel
theorem dX11_element_14 : decode cX11_element 14 = .ok (.ldc_w 300, 3) := by decide +kernel
theorem dX11_element_17 : decode cX11_element 17 = .ok (.invokespecial 302, 3) := by decide +kernel
theorem dX11_element_20 : decode cX11_element 20 = .ok (.athrow, 1) := by decide +kernel
theorem dX11_element_21 : decode cX11_element 21 = .ok (.aload_n 3, 1) := by decide +kernel
theorem dX11_element_22 : decode cX11_element 22 = .ok (.invokevirtual 305, 3) := by decide +kernel
theorem dX11_element_25 : decode cX11_element 25 = .ok (.ifCond .eq 15, 3) := by decide +kernel
theorem dX11_element_28 : decode cX11_element 28 = .ok (.iload_n 2, 1) := by decide +kernel
theorem dX11_element_29 : decode cX11_element 29 = .ok (.ifCond .lt 11, 3) := by decide +kernel
theorem dX11_element_32 : decode cX11_element 32 = .ok (.iload_n 2, 1) := by decide +kernel
theorem dX11_element_33 : decode cX11_element 33 = .ok (.aload_n 3, 1) := by decide +kernel
theorem dX11_element_34 : decode cX11_element 34 = .ok (.getfield 61, 3) := by decide +kernel
theorem dX11_element_37 : decode cX11_element 37 = .ok (.if_icmp .lt 14, 3) := by decide +kernel
theorem dX11_element_40 : decode cX11_element 40 = .ok (.new 308, 3) := by decide +kernel
theorem dX11_element_43 : decode cX11_element 43 = .ok (.dup, 1) := by decide +kernel
theorem dX11_element_44 : decode cX11_element 44 = .ok (.ldc_w 310, 3) := by decide +kernel
theorem dX11_element_47 : decode cX11_element 47 = .ok (.invokespecial 312, 3) := by decide +kernel
theorem dX11_element_50 : decode cX11_element 50 = .ok (.athrow, 1) := by decide +kernel
theorem dX11_element_51 : decode cX11_element 51 = .ok (.aload_n 3, 1) := by decide +kernel
theorem dX11_element_52 : decode cX11_element 52 = .ok (.iload_n 2, 1) := by decide +kernel
theorem dX11_element_53 : decode cX11_element 53 = .ok (.invokevirtual 194, 3) := by decide +kernel
theorem dX11_element_56 : decode cX11_element 56 = .ok (.i2l, 1) := by decide +kernel
theorem dX11_element_57 : decode cX11_element 57 = .ok (.lreturn, 1) := by decide +kernel
theorem dX11_copy_0 : decode cX11_copy 0 = .ok (.aload_n 0, 1) := by decide +kernel
theorem dX11_copy_1 : decode cX11_copy 1 = .ok (.iload_n 1, 1) := by decide +kernel
theorem dX11_copy_2 : decode cX11_copy 2 = .ok (.invokevirtual 53, 3) := by decide +kernel
theorem dX11_copy_5 : decode cX11_copy 5 = .ok (.astore 6, 2) := by decide +kernel
theorem dX11_copy_7 : decode cX11_copy 7 = .ok (.aload_n 0, 1) := by decide +kernel
theorem dX11_copy_8 : decode cX11_copy 8 = .ok (.iload_n 3, 1) := by decide +kernel
theorem dX11_copy_9 : decode cX11_copy 9 = .ok (.invokevirtual 53, 3) := by decide +kernel
theorem dX11_copy_12 : decode cX11_copy 12 = .ok (.astore 7, 2) := by decide +kernel
theorem dX11_copy_14 : decode cX11_copy 14 = .ok (.aload 6, 2) := by decide +kernel
theorem dX11_copy_16 : decode cX11_copy 16 = .ok (.ifnull 8, 3) := by decide +kernel
theorem dX11_copy_19 : decode cX11_copy 19 = .ok (.aload 7, 2) := by decide +kernel
theorem dX11_copy_21 : decode cX11_copy 21 = .ok (.ifnonnull 5, 3) := by decide +kernel
theorem dX11_copy_24 : decode cX11_copy 24 = .ok (.iconst (-1), 1) := by decide +kernel
theorem dX11_copy_25 : decode cX11_copy 25 = .ok (.ireturn, 1) := by decide +kernel
theorem dX11_copy_26 : decode cX11_copy 26 = .ok (.aload 6, 2) := by decide +kernel
theorem dX11_copy_28 : decode cX11_copy 28 = .ok (.invokevirtual 313, 3) := by decide +kernel
theorem dX11_copy_31 : decode cX11_copy 31 = .ok (.ifCond .ne 11, 3) := by decide +kernel
theorem dX11_copy_34 : decode cX11_copy 34 = .ok (.aload 7, 2) := by decide +kernel
theorem dX11_copy_36 : decode cX11_copy 36 = .ok (.invokevirtual 313, 3) := by decide +kernel
theorem dX11_copy_39 : decode cX11_copy 39 = .ok (.ifCond .eq 6, 3) := by decide +kernel
theorem dX11_copy_42 : decode cX11_copy 42 = .ok (.bipush (-11), 2) := by decide +kernel
theorem dX11_copy_44 : decode cX11_copy 44 = .ok (.ireturn, 1) := by decide +kernel
theorem dX11_copy_45 : decode cX11_copy 45 = .ok (.aload 6, 2) := by decide +kernel
theorem dX11_copy_47 : decode cX11_copy 47 = .ok (.invokevirtual 305, 3) := by decide +kernel
theorem dX11_copy_50 : decode cX11_copy 50 = .ok (.ifCond .eq 16, 3) := by decide +kernel
theorem dX11_copy_53 : decode cX11_copy 53 = .ok (.aload 6, 2) := by decide +kernel
theorem dX11_copy_55 : decode cX11_copy 55 = .ok (.getfield 316, 3) := by decide +kernel
theorem dX11_copy_58 : decode cX11_copy 58 = .ok (.aload 7, 2) := by decide +kernel
theorem dX11_copy_60 : decode cX11_copy 60 = .ok (.getfield 316, 3) := by decide +kernel
theorem dX11_copy_63 : decode cX11_copy 63 = .ok (.if_icmp .eq 6, 3) := by decide +kernel
theorem dX11_copy_66 : decode cX11_copy 66 = .ok (.bipush (-12), 2) := by decide +kernel
theorem dX11_copy_68 : decode cX11_copy 68 = .ok (.ireturn, 1) := by decide +kernel
theorem dX11_copy_69 : decode cX11_copy 69 = .ok (.aload 6, 2) := by decide +kernel
theorem dX11_copy_71 : decode cX11_copy 71 = .ok (.iload_n 2, 1) := by decide +kernel
theorem dX11_copy_72 : decode cX11_copy 72 = .ok (.iload 5, 2) := by decide +kernel
theorem dX11_copy_74 : decode cX11_copy 74 = .ok (.invokevirtual 319, 3) := by decide +kernel
theorem dX11_copy_77 : decode cX11_copy 77 = .ok (.ifCond .eq 15, 3) := by decide +kernel
theorem dX11_copy_80 : decode cX11_copy 80 = .ok (.aload 7, 2) := by decide +kernel
theorem dX11_copy_82 : decode cX11_copy 82 = .ok (.iload 4, 2) := by decide +kernel
theorem dX11_copy_84 : decode cX11_copy 84 = .ok (.iload 5, 2) := by decide +kernel
theorem dX11_copy_86 : decode cX11_copy 86 = .ok (.invokevirtual 319, 3) := by decide +kernel
theorem dX11_copy_89 : decode cX11_copy 89 = .ok (.ifCond .ne 6, 3) := by decide +kernel
theorem dX11_copy_92 : decode cX11_copy 92 = .ok (.bipush (-13), 2) := by decide +kernel
theorem dX11_copy_94 : decode cX11_copy 94 = .ok (.ireturn, 1) := by decide +kernel
theorem dX11_copy_95 : decode cX11_copy 95 = .ok (.aload 6, 2) := by decide +kernel
theorem dX11_copy_97 : decode cX11_copy 97 = .ok (.getfield 57, 3) := by decide +kernel
theorem dX11_copy_100 : decode cX11_copy 100 = .ok (.iload_n 2, 1) := by decide +kernel
theorem dX11_copy_101 : decode cX11_copy 101 = .ok (.aload 7, 2) := by decide +kernel
theorem dX11_copy_103 : decode cX11_copy 103 = .ok (.getfield 57, 3) := by decide +kernel
theorem dX11_copy_106 : decode cX11_copy 106 = .ok (.iload 4, 2) := by decide +kernel
theorem dX11_copy_108 : decode cX11_copy 108 = .ok (.iload 5, 2) := by decide +kernel
theorem dX11_copy_110 : decode cX11_copy 110 = .ok (.invokestatic 322, 3) := by decide +kernel
theorem dX11_copy_113 : decode cX11_copy 113 = .ok (.iload 5, 2) := by decide +kernel
theorem dX11_copy_115 : decode cX11_copy 115 = .ok (.ireturn, 1) := by decide +kernel
theorem dX11_care_0 : decode cX11_care 0 = .ok (.aload_n 0, 1) := by decide +kernel
theorem dX11_care_1 : decode cX11_care 1 = .ok (.iload_n 1, 1) := by decide +kernel
theorem dX11_care_2 : decode cX11_care 2 = .ok (.invokevirtual 115, 3) := by decide +kernel
theorem dX11_care_5 : decode cX11_care 5 = .ok (.astore_n 2, 1) := by decide +kernel
theorem dX11_care_6 : decode cX11_care 6 = .ok (.aload_n 2, 1) := by decide +kernel
theorem dX11_care_7 : decode cX11_care 7 = .ok (.ifnonnull 12, 3) := by decide +kernel
theorem dX11_care_10 : decode cX11_care 10 = .ok (.ldc 186, 2) := by decide +kernel
theorem dX11_care_12 : decode cX11_care 12 = .ok (.aload_n 0, 1) := by decide +kernel
theorem dX11_care_13 : decode cX11_care 13 = .ok (.iload_n 1, 1) := by decide +kernel
theorem dX11_care_14 : decode cX11_care 14 = .ok (.invokevirtual 119, 3) := by decide +kernel
theorem dX11_care_17 : decode cX11_care 17 = .ok (.iadd, 1) := by decide +kernel
theorem dX11_care_18 : decode cX11_care 18 = .ok (.ireturn, 1) := by decide +kernel
theorem dX11_care_19 : decode cX11_care 19 = .ok (.aload_n 2, 1) := by decide +kernel
theorem dX11_care_20 : decode cX11_care 20 = .ok (.invokevirtual 328, 3) := by decide +kernel
theorem dX11_care_23 : decode cX11_care 23 = .ok (.ireturn, 1) := by decide +kernel
theorem dX11_toss_0 : decode cX11_toss 0 = .ok (.aload_n 0, 1) := by decide +kernel
theorem dX11_toss_1 : decode cX11_toss 1 = .ok (.iload_n 1, 1) := by decide +kernel
theorem dX11_toss_2 : decode cX11_toss 2 = .ok (.invokevirtual 115, 3) := by decide +kernel
theorem dX11_toss_5 : decode cX11_toss 5 = .ok (.astore_n 2, 1) := by decide +kernel
theorem dX11_toss_6 : decode cX11_toss 6 = .ok (.aload_n 2, 1) := by decide +kernel
theorem dX11_toss_7 : decode cX11_toss 7 = .ok (.ifnonnull 9, 3) := by decide +kernel
theorem dX11_toss_10 : decode cX11_toss 10 = .ok (.aload_n 0, 1) := by decide +kernel
theorem dX11_toss_11 : decode cX11_toss 11 = .ok (.iload_n 1, 1) := by decide +kernel
theorem dX11_toss_12 : decode cX11_toss 12 = .ok (.invokevirtual 119, 3) := by decide +kernel
theorem dX11_toss_15 : decode cX11_toss 15 = .ok (.ireturn, 1) := by decide +kernel
theorem dX11_toss_16 : decode cX11_toss 16 = .ok (.aload_n 2, 1) := by decide +kernel
theorem dX11_toss_17 : decode cX11_toss 17 = .ok (.invokevirtual 331, 3) := by decide +kernel
theorem dX11_toss_20 : decode cX11_toss 20 = .ok (.ifCond .ne 6, 3) := by decide +kernel
theorem dX11_toss_23 : decode cX11_toss 23 = .ok (.bipush (-15), 2) := by decide +kernel
theorem dX11_toss_25 : decode cX11_toss 25 = .ok (.ireturn, 1) := by decide +kernel
theorem dX11_toss_26 : decode cX11_toss 26 = .ok (.aload_n 2, 1) := by decide +kernel
theorem dX11_toss_27 : decode cX11_toss 27 = .ok (.invokevirtual 334, 3) := by decide +kernel
theorem dX11_toss_30 : decode cX11_toss 30 = .ok (.bipush (-15), 2) := by decide +kernel
theorem dX11_toss_32 : decode cX11_toss 32 = .ok (.ireturn, 1) := by decide +kernel
theorem dX11_toss_33 : decode cX11_toss 33 = .ok (.astore_n 3, 1) := by decide +kernel
theorem dX11_toss_34 : decode cX11_toss 34 = .ok (.aload_n 2, 1) := by decide +kernel
theorem dX11_toss_35 : decode cX11_toss 35 = .ok (.getfield 339, 3) := by decide +kernel
theorem dX11_toss_38 : decode cX11_toss 38 = .ok (.bipush 100, 2) := by decide +kernel
theorem dX11_toss_40 : decode cX11_toss 40 = .ok (.iadd, 1) := by decide +kernel
theorem dX11_toss_41 : decode cX11_toss 41 = .ok (.ireturn, 1) := by decide +kernel
theorem dX11_toss_42 : decode cX11_toss 42 = .ok (.astore_n 3, 1) := by decide +kernel
theorem dX11_toss_43 : decode cX11_toss 43 = .ok (.aload_n 2, 1) := by decide +kernel
theorem dX11_toss_44 : decode cX11_toss 44 = .ok (.invokevirtual 328, 3) := by decide +kernel
theorem dX11_toss_47 : decode cX11_toss 47 = .ok (.sipush 200, 3) := by decide +kernel
theorem dX11_toss_50 : decode cX11_toss 50 = .ok (.iadd, 1) := by decide +kernel
theorem dX11_toss_51 : decode cX11_toss 51 = .ok (.ireturn, 1) := by decide +kernel
theorem dX11_toss_52 : decode cX11_toss 52 = .ok (.astore_n 3, 1) := by decide +kernel
theorem dX11_toss_53 : decode cX11_toss 53 = .ok (.aload_n 2, 1) := by decide +kernel
theorem dX11_toss_54 : decode cX11_toss 54 = .ok (.getfield 339, 3) := by decide +kernel
theorem dX11_toss_57 : decode cX11_toss 57 = .ok (.ireturn, 1) := by decide +kernel
theorem dX11_shelfAt_0 : decode cX11_shelfAt 0 = .ok (.iload_n 1, 1) := by decide +kernel
theorem dX11_shelfAt_1 : decode cX11_shelfAt 1 = .ok (.ifCond .lt 21, 3) := by decide +kernel
theorem dX11_shelfAt_4 : decode cX11_shelfAt 4 = .ok (.iload_n 1, 1) := by decide +kernel
theorem dX11_shelfAt_5 : decode cX11_shelfAt 5 = .ok (.aload_n 0, 1) := by decide +kernel
theorem dX11_shelfAt_6 : decode cX11_shelfAt 6 = .ok (.getfield 37, 3) := by decide +kernel
theorem dX11_shelfAt_9 : decode cX11_shelfAt 9 = .ok (.arraylength, 1) := by decide +kernel
theorem dX11_shelfAt_10 : decode cX11_shelfAt 10 = .ok (.if_icmp .ge 12, 3) := by decide +kernel
theorem dX11_shelfAt_13 : decode cX11_shelfAt 13 = .ok (.aload_n 0, 1) := by decide +kernel
theorem dX11_shelfAt_14 : decode cX11_shelfAt 14 = .ok (.getfield 37, 3) := by decide +kernel
theorem dX11_shelfAt_17 : decode cX11_shelfAt 17 = .ok (.iload_n 1, 1) := by decide +kernel
theorem dX11_shelfAt_18 : decode cX11_shelfAt 18 = .ok (.aaload, 1) := by decide +kernel
theorem dX11_shelfAt_19 : decode cX11_shelfAt 19 = .ok (.goto 4, 3) := by decide +kernel
theorem dX11_shelfAt_22 : decode cX11_shelfAt 22 = .ok (.aconst_null, 1) := by decide +kernel
theorem dX11_shelfAt_23 : decode cX11_shelfAt 23 = .ok (.areturn, 1) := by decide +kernel
theorem dX11_ruleAt_0 : decode cX11_ruleAt 0 = .ok (.aload_n 0, 1) := by decide +kernel
theorem dX11_ruleAt_1 : decode cX11_ruleAt 1 = .ok (.iload_n 1, 1) := by decide +kernel
theorem dX11_ruleAt_2 : decode cX11_ruleAt 2 = .ok (.invokevirtual 53, 3) := by decide +kernel
theorem dX11_ruleAt_5 : decode cX11_ruleAt 5 = .ok (.astore_n 2, 1) := by decide +kernel
theorem dX11_ruleAt_6 : decode cX11_ruleAt 6 = .ok (.aload_n 2, 1) := by decide +kernel
theorem dX11_ruleAt_7 : decode cX11_ruleAt 7 = .ok (.ifnonnull 7, 3) := by decide +kernel
theorem dX11_ruleAt_10 : decode cX11_ruleAt 10 = .ok (.aconst_null, 1) := by decide +kernel
theorem dX11_ruleAt_11 : decode cX11_ruleAt 11 = .ok (.goto 7, 3) := by decide +kernel
theorem dX11_ruleAt_14 : decode cX11_ruleAt 14 = .ok (.aload_n 2, 1) := by decide +kernel
theorem dX11_ruleAt_15 : decode cX11_ruleAt 15 = .ok (.getfield 290, 3) := by decide +kernel
theorem dX11_ruleAt_18 : decode cX11_ruleAt 18 = .ok (.areturn, 1) := by decide +kernel
theorem dX11_refuseRule_0 : decode cX11_refuseRule 0 = .ok (.aload_n 0, 1) := by decide +kernel
theorem dX11_refuseRule_1 : decode cX11_refuseRule 1 = .ok (.iload_n 1, 1) := by decide +kernel
theorem dX11_refuseRule_2 : decode cX11_refuseRule 2 = .ok (.invokevirtual 53, 3) := by decide +kernel
theorem dX11_refuseRule_5 : decode cX11_refuseRule 5 = .ok (.astore_n 2, 1) := by decide +kernel
theorem dX11_refuseRule_6 : decode cX11_refuseRule 6 = .ok (.aload_n 2, 1) := by decide +kernel
theorem dX11_refuseRule_7 : decode cX11_refuseRule 7 = .ok (.ifnonnull 5, 3) := by decide +kernel
theorem dX11_refuseRule_10 : decode cX11_refuseRule 10 = .ok (.iconst (-1), 1) := by decide +kernel
theorem dX11_refuseRule_11 : decode cX11_refuseRule 11 = .ok (.ireturn, 1) := by decide +kernel
theorem dX11_refuseRule_12 : decode cX11_refuseRule 12 = .ok (.aload_n 2, 1) := by decide +kernel
theorem dX11_refuseRule_13 : decode cX11_refuseRule 13 = .ok (.invokevirtual 313, 3) := by decide +kernel
theorem dX11_refuseRule_16 : decode cX11_refuseRule 16 = .ok (.ifCond .eq 8, 3) := by decide +kernel
theorem dX11_refuseRule_19 : decode cX11_refuseRule 19 = .ok (.bipush (-11), 2) := by decide +kernel
theorem dX11_refuseRule_21 : decode cX11_refuseRule 21 = .ok (.goto 5, 3) := by decide +kernel
theorem dX11_refuseRule_24 : decode cX11_refuseRule 24 = .ok (.bipush (-12), 2) := by decide +kernel
theorem dX11_refuseRule_26 : decode cX11_refuseRule 26 = .ok (.ireturn, 1) := by decide +kernel
theorem dX11_refuseRow_0 : decode cX11_refuseRow 0 = .ok (.aload_n 0, 1) := by decide +kernel
theorem dX11_refuseRow_1 : decode cX11_refuseRow 1 = .ok (.iload_n 1, 1) := by decide +kernel
theorem dX11_refuseRow_2 : decode cX11_refuseRow 2 = .ok (.invokevirtual 53, 3) := by decide +kernel
theorem dX11_refuseRow_5 : decode cX11_refuseRow 5 = .ok (.astore_n 3, 1) := by decide +kernel
theorem dX11_refuseRow_6 : decode cX11_refuseRow 6 = .ok (.aload_n 3, 1) := by decide +kernel
theorem dX11_refuseRow_7 : decode cX11_refuseRow 7 = .ok (.ifnonnull 5, 3) := by decide +kernel
theorem dX11_refuseRow_10 : decode cX11_refuseRow 10 = .ok (.iconst (-1), 1) := by decide +kernel
theorem dX11_refuseRow_11 : decode cX11_refuseRow 11 = .ok (.ireturn, 1) := by decide +kernel
theorem dX11_refuseRow_12 : decode cX11_refuseRow 12 = .ok (.aload_n 3, 1) := by decide +kernel
theorem dX11_refuseRow_13 : decode cX11_refuseRow 13 = .ok (.invokevirtual 313, 3) := by decide +kernel
theorem dX11_refuseRow_16 : decode cX11_refuseRow 16 = .ok (.ifCond .eq 6, 3) := by decide +kernel
theorem dX11_refuseRow_19 : decode cX11_refuseRow 19 = .ok (.bipush (-11), 2) := by decide +kernel
theorem dX11_refuseRow_21 : decode cX11_refuseRow 21 = .ok (.ireturn, 1) := by decide +kernel
theorem dX11_refuseRow_22 : decode cX11_refuseRow 22 = .ok (.aload_n 3, 1) := by decide +kernel
theorem dX11_refuseRow_23 : decode cX11_refuseRow 23 = .ok (.invokevirtual 305, 3) := by decide +kernel
theorem dX11_refuseRow_26 : decode cX11_refuseRow 26 = .ok (.ifCond .eq 20, 3) := by decide +kernel
theorem dX11_refuseRow_29 : decode cX11_refuseRow 29 = .ok (.iload_n 2, 1) := by decide +kernel
theorem dX11_refuseRow_30 : decode cX11_refuseRow 30 = .ok (.iconst (-1), 1) := by decide +kernel
theorem dX11_refuseRow_31 : decode cX11_refuseRow 31 = .ok (.if_icmp .eq 11, 3) := by decide +kernel
theorem dX11_refuseRow_34 : decode cX11_refuseRow 34 = .ok (.iload_n 2, 1) := by decide +kernel
theorem dX11_refuseRow_35 : decode cX11_refuseRow 35 = .ok (.aload_n 3, 1) := by decide +kernel
theorem dX11_refuseRow_36 : decode cX11_refuseRow 36 = .ok (.getfield 316, 3) := by decide +kernel
theorem dX11_refuseRow_39 : decode cX11_refuseRow 39 = .ok (.if_icmp .ne 7, 3) := by decide +kernel
theorem dX11_refuseRow_42 : decode cX11_refuseRow 42 = .ok (.iconst 0, 1) := by decide +kernel
theorem dX11_refuseRow_43 : decode cX11_refuseRow 43 = .ok (.goto 5, 3) := by decide +kernel
theorem dX11_refuseRow_46 : decode cX11_refuseRow 46 = .ok (.bipush (-12), 2) := by decide +kernel
theorem dX11_refuseRow_48 : decode cX11_refuseRow 48 = .ok (.ireturn, 1) := by decide +kernel
theorem dX11_makeRule_0 : decode cX11_makeRule 0 = .ok (.iload_n 0, 1) := by decide +kernel
theorem dX11_makeRule_1 : decode cX11_makeRule 1 = .ok (.tableswitch 93 1 6 #[39, 48, 57, 66, 75, 84], 39) := by decide +kernel
theorem dX11_makeRule_40 : decode cX11_makeRule 40 = .ok (.new 342, 3) := by decide +kernel
theorem dX11_makeRule_43 : decode cX11_makeRule 43 = .ok (.dup, 1) := by decide +kernel
theorem dX11_makeRule_44 : decode cX11_makeRule 44 = .ok (.iload_n 1, 1) := by decide +kernel
theorem dX11_makeRule_45 : decode cX11_makeRule 45 = .ok (.invokespecial 344, 3) := by decide +kernel
theorem dX11_makeRule_48 : decode cX11_makeRule 48 = .ok (.areturn, 1) := by decide +kernel
theorem dX11_makeRule_49 : decode cX11_makeRule 49 = .ok (.new 346, 3) := by decide +kernel
theorem dX11_makeRule_52 : decode cX11_makeRule 52 = .ok (.dup, 1) := by decide +kernel
theorem dX11_makeRule_53 : decode cX11_makeRule 53 = .ok (.iload_n 1, 1) := by decide +kernel
theorem dX11_makeRule_54 : decode cX11_makeRule 54 = .ok (.invokespecial 348, 3) := by decide +kernel
theorem dX11_makeRule_57 : decode cX11_makeRule 57 = .ok (.areturn, 1) := by decide +kernel
theorem dX11_makeRule_58 : decode cX11_makeRule 58 = .ok (.new 349, 3) := by decide +kernel
theorem dX11_makeRule_61 : decode cX11_makeRule 61 = .ok (.dup, 1) := by decide +kernel
theorem dX11_makeRule_62 : decode cX11_makeRule 62 = .ok (.iload_n 1, 1) := by decide +kernel
theorem dX11_makeRule_63 : decode cX11_makeRule 63 = .ok (.invokespecial 351, 3) := by decide +kernel
theorem dX11_makeRule_66 : decode cX11_makeRule 66 = .ok (.areturn, 1) := by decide +kernel
theorem dX11_makeRule_67 : decode cX11_makeRule 67 = .ok (.new 352, 3) := by decide +kernel
theorem dX11_makeRule_70 : decode cX11_makeRule 70 = .ok (.dup, 1) := by decide +kernel
theorem dX11_makeRule_71 : decode cX11_makeRule 71 = .ok (.iload_n 1, 1) := by decide +kernel
theorem dX11_makeRule_72 : decode cX11_makeRule 72 = .ok (.invokespecial 354, 3) := by decide +kernel
theorem dX11_makeRule_75 : decode cX11_makeRule 75 = .ok (.areturn, 1) := by decide +kernel
theorem dX11_makeRule_76 : decode cX11_makeRule 76 = .ok (.new 355, 3) := by decide +kernel
theorem dX11_makeRule_79 : decode cX11_makeRule 79 = .ok (.dup, 1) := by decide +kernel
theorem dX11_makeRule_80 : decode cX11_makeRule 80 = .ok (.iload_n 1, 1) := by decide +kernel
theorem dX11_makeRule_81 : decode cX11_makeRule 81 = .ok (.invokespecial 357, 3) := by decide +kernel
theorem dX11_makeRule_84 : decode cX11_makeRule 84 = .ok (.areturn, 1) := by decide +kernel
theorem dX11_makeRule_85 : decode cX11_makeRule 85 = .ok (.new 358, 3) := by decide +kernel
theorem dX11_makeRule_88 : decode cX11_makeRule 88 = .ok (.dup, 1) := by decide +kernel
theorem dX11_makeRule_89 : decode cX11_makeRule 89 = .ok (.iload_n 1, 1) := by decide +kernel
theorem dX11_makeRule_90 : decode cX11_makeRule 90 = .ok (.invokespecial 360, 3) := by decide +kernel
theorem dX11_makeRule_93 : decode cX11_makeRule 93 = .ok (.areturn, 1) := by decide +kernel
theorem dX11_makeRule_94 : decode cX11_makeRule 94 = .ok (.new 134, 3) := by decide +kernel
theorem dX11_makeRule_97 : decode cX11_makeRule 97 = .ok (.dup, 1) := by decide +kernel
theorem dX11_makeRule_98 : decode cX11_makeRule 98 = .ok (.iload_n 1, 1) := by decide +kernel
theorem dX11_makeRule_99 : decode cX11_makeRule 99 = .ok (.invokespecial 361, 3) := by decide +kernel
theorem dX11_makeRule_102 : decode cX11_makeRule 102 = .ok (.areturn, 1) := by decide +kernel
theorem dX11_at_0 : decode cX11_at 0 = .ok (.iload_n 1, 1) := by decide +kernel
theorem dX11_at_1 : decode cX11_at 1 = .ok (.ifCond .lt 15, 3) := by decide +kernel
theorem dX11_at_4 : decode cX11_at 4 = .ok (.iload_n 1, 1) := by decide +kernel
theorem dX11_at_5 : decode cX11_at 5 = .ok (.aload_n 0, 1) := by decide +kernel
theorem dX11_at_6 : decode cX11_at 6 = .ok (.arraylength, 1) := by decide +kernel
theorem dX11_at_7 : decode cX11_at 7 = .ok (.if_icmp .ge 9, 3) := by decide +kernel
theorem dX11_at_10 : decode cX11_at 10 = .ok (.aload_n 0, 1) := by decide +kernel
theorem dX11_at_11 : decode cX11_at 11 = .ok (.iload_n 1, 1) := by decide +kernel
theorem dX11_at_12 : decode cX11_at 12 = .ok (.iaload, 1) := by decide +kernel
theorem dX11_at_13 : decode cX11_at 13 = .ok (.goto 4, 3) := by decide +kernel
theorem dX11_at_16 : decode cX11_at 16 = .ok (.iconst 0, 1) := by decide +kernel
theorem dX11_at_17 : decode cX11_at 17 = .ok (.ireturn, 1) := by decide +kernel
theorem dX11_change_0 : decode cX11_change 0 = .ok (.iload_n 1, 1) := by decide +kernel
theorem dX11_change_1 : decode cX11_change 1 = .ok (.ifCond .lt 13, 3) := by decide +kernel
theorem dX11_change_4 : decode cX11_change 4 = .ok (.iload_n 1, 1) := by decide +kernel
theorem dX11_change_5 : decode cX11_change 5 = .ok (.aload_n 0, 1) := by decide +kernel
theorem dX11_change_6 : decode cX11_change 6 = .ok (.arraylength, 1) := by decide +kernel
theorem dX11_change_7 : decode cX11_change 7 = .ok (.if_icmp .ge 7, 3) := by decide +kernel
theorem dX11_change_10 : decode cX11_change 10 = .ok (.aload_n 0, 1) := by decide +kernel
theorem dX11_change_11 : decode cX11_change 11 = .ok (.iload_n 1, 1) := by decide +kernel
theorem dX11_change_12 : decode cX11_change 12 = .ok (.iload_n 2, 1) := by decide +kernel
theorem dX11_change_13 : decode cX11_change 13 = .ok (.iastore, 1) := by decide +kernel
theorem dX11_change_14 : decode cX11_change 14 = .ok (.return_, 1) := by decide +kernel
theorem dX11_copyAll_0 : decode cX11_copyAll 0 = .ok (.aload_n 0, 1) := by decide +kernel
theorem dX11_copyAll_1 : decode cX11_copyAll 1 = .ok (.iconst 0, 1) := by decide +kernel
theorem dX11_copyAll_2 : decode cX11_copyAll 2 = .ok (.aload_n 1, 1) := by decide +kernel
theorem dX11_copyAll_3 : decode cX11_copyAll 3 = .ok (.iconst 0, 1) := by decide +kernel
theorem dX11_copyAll_4 : decode cX11_copyAll 4 = .ok (.aload_n 0, 1) := by decide +kernel
theorem dX11_copyAll_5 : decode cX11_copyAll 5 = .ok (.arraylength, 1) := by decide +kernel
theorem dX11_copyAll_6 : decode cX11_copyAll 6 = .ok (.aload_n 1, 1) := by decide +kernel
theorem dX11_copyAll_7 : decode cX11_copyAll 7 = .ok (.arraylength, 1) := by decide +kernel
theorem dX11_copyAll_8 : decode cX11_copyAll 8 = .ok (.invokestatic 210, 3) := by decide +kernel
theorem dX11_copyAll_11 : decode cX11_copyAll 11 = .ok (.invokestatic 322, 3) := by decide +kernel
theorem dX11_copyAll_14 : decode cX11_copyAll 14 = .ok (.return_, 1) := by decide +kernel
theorem dX12_init_0 : decode cX12_init 0 = .ok (.aload_n 0, 1) := by decide +kernel
theorem dX12_init_1 : decode cX12_init 1 = .ok (.invokespecial 1, 3) := by decide +kernel
theorem dX12_init_4 : decode cX12_init 4 = .ok (.aload_n 0, 1) := by decide +kernel
theorem dX12_init_5 : decode cX12_init 5 = .ok (.sipush 174, 3) := by decide +kernel
theorem dX12_init_8 : decode cX12_init 8 = .ok (.newarray .int, 2) := by decide +kernel
theorem dX12_init_10 : decode cX12_init 10 = .ok (.putfield 9, 3) := by decide +kernel
theorem dX12_init_13 : decode cX12_init 13 = .ok (.aload_n 0, 1) := by decide +kernel
theorem dX12_init_14 : decode cX12_init 14 = .ok (.sipush 174, 3) := by decide +kernel
theorem dX12_init_17 : decode cX12_init 17 = .ok (.newarray .int, 2) := by decide +kernel
theorem dX12_init_19 : decode cX12_init 19 = .ok (.putfield 13, 3) := by decide +kernel
theorem dX12_init_22 : decode cX12_init 22 = .ok (.aload_n 0, 1) := by decide +kernel
theorem dX12_init_23 : decode cX12_init 23 = .ok (.sipush 174, 3) := by decide +kernel
theorem dX12_init_26 : decode cX12_init 26 = .ok (.newarray .int, 2) := by decide +kernel
theorem dX12_init_28 : decode cX12_init 28 = .ok (.putfield 16, 3) := by decide +kernel
theorem dX12_init_31 : decode cX12_init 31 = .ok (.aload_n 0, 1) := by decide +kernel
theorem dX12_init_32 : decode cX12_init 32 = .ok (.sipush 174, 3) := by decide +kernel
theorem dX12_init_35 : decode cX12_init 35 = .ok (.newarray .int, 2) := by decide +kernel
theorem dX12_init_37 : decode cX12_init 37 = .ok (.putfield 19, 3) := by decide +kernel
theorem dX12_init_40 : decode cX12_init 40 = .ok (.aload_n 0, 1) := by decide +kernel
theorem dX12_init_41 : decode cX12_init 41 = .ok (.bipush 8, 2) := by decide +kernel
theorem dX12_init_43 : decode cX12_init 43 = .ok (.newarray .int, 2) := by decide +kernel
theorem dX12_init_45 : decode cX12_init 45 = .ok (.putfield 22, 3) := by decide +kernel
theorem dX12_init_48 : decode cX12_init 48 = .ok (.aload_n 0, 1) := by decide +kernel
theorem dX12_init_49 : decode cX12_init 49 = .ok (.bipush 8, 2) := by decide +kernel
theorem dX12_init_51 : decode cX12_init 51 = .ok (.newarray .int, 2) := by decide +kernel
theorem dX12_init_53 : decode cX12_init 53 = .ok (.putfield 25, 3) := by decide +kernel
theorem dX12_init_56 : decode cX12_init 56 = .ok (.aload_n 0, 1) := by decide +kernel
theorem dX12_init_57 : decode cX12_init 57 = .ok (.bipush 8, 2) := by decide +kernel
theorem dX12_init_59 : decode cX12_init 59 = .ok (.newarray .int, 2) := by decide +kernel
theorem dX12_init_61 : decode cX12_init 61 = .ok (.putfield 28, 3) := by decide +kernel
theorem dX12_init_64 : decode cX12_init 64 = .ok (.aload_n 0, 1) := by decide +kernel
theorem dX12_init_65 : decode cX12_init 65 = .ok (.sipush 800, 3) := by decide +kernel
theorem dX12_init_68 : decode cX12_init 68 = .ok (.newarray .int, 2) := by decide +kernel
theorem dX12_init_70 : decode cX12_init 70 = .ok (.putfield 31, 3) := by decide +kernel
theorem dX12_init_73 : decode cX12_init 73 = .ok (.aload_n 0, 1) := by decide +kernel
theorem dX12_init_74 : decode cX12_init 74 = .ok (.bipush 8, 2) := by decide +kernel
theorem dX12_init_76 : decode cX12_init 76 = .ok (.newarray .int, 2) := by decide +kernel
theorem dX12_init_78 : decode cX12_init 78 = .ok (.putfield 34, 3) := by decide +kernel
theorem dX12_init_81 : decode cX12_init 81 = .ok (.aload_n 0, 1) := by decide +kernel
theorem dX12_init_82 : decode cX12_init 82 = .ok (.bipush 8, 2) := by decide +kernel
theorem dX12_init_84 : decode cX12_init 84 = .ok (.newarray .int, 2) := by decide +kernel
theorem dX12_init_86 : decode cX12_init 86 = .ok (.putfield 37, 3) := by decide +kernel
theorem dX12_init_89 : decode cX12_init 89 = .ok (.aload_n 0, 1) := by decide +kernel
theorem dX12_init_90 : decode cX12_init 90 = .ok (.iconst 5, 1) := by decide +kernel
theorem dX12_init_91 : decode cX12_init 91 = .ok (.newarray .int, 2) := by decide +kernel
theorem dX12_init_93 : decode cX12_init 93 = .ok (.putfield 40, 3) := by decide +kernel
theorem dX12_init_96 : decode cX12_init 96 = .ok (.aload_n 0, 1) := by decide +kernel
theorem dX12_init_97 : decode cX12_init 97 = .ok (.getfield 9, 3) := by decide +kernel
theorem dX12_init_100 : decode cX12_init 100 = .ok (.iconst 0, 1) := by decide +kernel
theorem dX12_init_101 : decode cX12_init 101 = .ok (.iconst 3, 1) := by decide +kernel
theorem dX12_init_102 : decode cX12_init 102 = .ok (.iastore, 1) := by decide +kernel
theorem dX12_init_103 : decode cX12_init 103 = .ok (.aload_n 0, 1) := by decide +kernel
theorem dX12_init_104 : decode cX12_init 104 = .ok (.getfield 9, 3) := by decide +kernel
theorem dX12_init_107 : decode cX12_init 107 = .ok (.iconst 2, 1) := by decide +kernel
theorem dX12_init_108 : decode cX12_init 108 = .ok (.iconst 3, 1) := by decide +kernel
theorem dX12_init_109 : decode cX12_init 109 = .ok (.iastore, 1) := by decide +kernel
theorem dX12_init_110 : decode cX12_init 110 = .ok (.aload_n 0, 1) := by decide +kernel
theorem dX12_init_111 : decode cX12_init 111 = .ok (.getfield 9, 3) := by decide +kernel
theorem dX12_init_114 : decode cX12_init 114 = .ok (.iconst 4, 1) := by decide +kernel
theorem dX12_init_115 : decode cX12_init 115 = .ok (.iconst 1, 1) := by decide +kernel
theorem dX12_init_116 : decode cX12_init 116 = .ok (.iastore, 1) := by decide +kernel
theorem dX12_init_117 : decode cX12_init 117 = .ok (.iconst 0, 1) := by decide +kernel
theorem dX12_init_118 : decode cX12_init 118 = .ok (.istore_n 1, 1) := by decide +kernel
theorem dX12_init_119 : decode cX12_init 119 = .ok (.iload_n 1, 1) := by decide +kernel
theorem dX12_init_120 : decode cX12_init 120 = .ok (.iconst 4, 1) := by decide +kernel
theorem dX12_init_121 : decode cX12_init 121 = .ok (.if_icmp .ge 36, 3) := by decide +kernel
theorem dX12_init_124 : decode cX12_init 124 = .ok (.iconst 0, 1) := by decide +kernel
theorem dX12_init_125 : decode cX12_init 125 = .ok (.istore_n 2, 1) := by decide +kernel
theorem dX12_init_126 : decode cX12_init 126 = .ok (.iload_n 2, 1) := by decide +kernel
theorem dX12_init_127 : decode cX12_init 127 = .ok (.iconst 4, 1) := by decide +kernel
theorem dX12_init_128 : decode cX12_init 128 = .ok (.if_icmp .ge 23, 3) := by decide +kernel
theorem dX12_init_131 : decode cX12_init 131 = .ok (.aload_n 0, 1) := by decide +kernel
theorem dX12_init_132 : decode cX12_init 132 = .ok (.getfield 9, 3) := by decide +kernel
theorem dX12_init_135 : decode cX12_init 135 = .ok (.bipush 9, 2) := by decide +kernel
theorem dX12_init_137 : decode cX12_init 137 = .ok (.iconst 4, 1) := by decide +kernel
theorem dX12_init_138 : decode cX12_init 138 = .ok (.iload_n 1, 1) := by decide +kernel
theorem dX12_init_139 : decode cX12_init 139 = .ok (.imul, 1) := by decide +kernel
theorem dX12_init_140 : decode cX12_init 140 = .ok (.iadd, 1) := by decide +kernel
theorem dX12_init_141 : decode cX12_init 141 = .ok (.iload_n 2, 1) := by decide +kernel
theorem dX12_init_142 : decode cX12_init 142 = .ok (.iadd, 1) := by decide +kernel
theorem dX12_init_143 : decode cX12_init 143 = .ok (.iconst 3, 1) := by decide +kernel
theorem dX12_init_144 : decode cX12_init 144 = .ok (.iastore, 1) := by decide +kernel
theorem dX12_init_145 : decode cX12_init 145 = .ok (.iinc 2 1, 3) := by decide +kernel
theorem dX12_init_148 : decode cX12_init 148 = .ok (.goto (-22), 3) := by decide +kernel
theorem dX12_init_151 : decode cX12_init 151 = .ok (.iinc 1 1, 3) := by decide +kernel
theorem dX12_init_154 : decode cX12_init 154 = .ok (.goto (-35), 3) := by decide +kernel
theorem dX12_init_157 : decode cX12_init 157 = .ok (.aload_n 0, 1) := by decide +kernel
theorem dX12_init_158 : decode cX12_init 158 = .ok (.getfield 9, 3) := by decide +kernel
theorem dX12_init_161 : decode cX12_init 161 = .ok (.iconst 0, 1) := by decide +kernel
theorem dX12_init_162 : decode cX12_init 162 = .ok (.iconst 0, 1) := by decide +kernel
theorem dX12_init_163 : decode cX12_init 163 = .ok (.iconst 0, 1) := by decide +kernel
theorem dX12_init_164 : decode cX12_init 164 = .ok (.iconst 0, 1) := by decide +kernel
theorem dX12_init_165 : decode cX12_init 165 = .ok (.invokestatic 43, 3) := by decide +kernel
theorem dX12_init_168 : decode cX12_init 168 = .ok (.return_, 1) := by decide +kernel
theorem dX12_thrown_0 : decode cX12_thrown 0 = .ok (.aload_n 0, 1) := by decide +kernel
theorem dX12_thrown_1 : decode cX12_thrown 1 = .ok (.getfield 47, 3) := by decide +kernel
theorem dX12_thrown_4 : decode cX12_thrown 4 = .ok (.ireturn, 1) := by decide +kernel
theorem dX12_isIn_0 : decode cX12_isIn 0 = .ok (.lload_n 0, 1) := by decide +kernel
theorem dX12_isIn_1 : decode cX12_isIn 1 = .ok (.lload_n 2, 1) := by decide +kernel
theorem dX12_isIn_2 : decode cX12_isIn 2 = .ok (.lcmp, 1) := by decide +kernel
theorem dX12_isIn_3 : decode cX12_isIn 3 = .ok (.ifCond .lt 14, 3) := by decide +kernel
theorem dX12_isIn_6 : decode cX12_isIn 6 = .ok (.lload_n 0, 1) := by decide +kernel
theorem dX12_isIn_7 : decode cX12_isIn 7 = .ok (.lload 4, 2) := by decide +kernel
theorem dX12_isIn_9 : decode cX12_isIn 9 = .ok (.lcmp, 1) := by decide +kernel
theorem dX12_isIn_10 : decode cX12_isIn 10 = .ok (.ifCond .gt 7, 3) := by decide +kernel
theorem dX12_isIn_13 : decode cX12_isIn 13 = .ok (.iconst 1, 1) := by decide +kernel
theorem dX12_isIn_14 : decode cX12_isIn 14 = .ok (.goto 4, 3) := by decide +kernel
theorem dX12_isIn_17 : decode cX12_isIn 17 = .ok (.iconst 0, 1) := by decide +kernel
theorem dX12_isIn_18 : decode cX12_isIn 18 = .ok (.ireturn, 1) := by decide +kernel
theorem dX12_isLanding_0 : decode cX12_isLanding 0 = .ok (.iload_n 1, 1) := by decide +kernel
theorem dX12_isLanding_1 : decode cX12_isLanding 1 = .ok (.i2l, 1) := by decide +kernel
theorem dX12_isLanding_2 : decode cX12_isLanding 2 = .ok (.lconst 0, 1) := by decide +kernel
theorem dX12_isLanding_3 : decode cX12_isLanding 3 = .ok (.aload_n 0, 1) := by decide +kernel
theorem dX12_isLanding_4 : decode cX12_isLanding 4 = .ok (.getfield 9, 3) := by decide +kernel
theorem dX12_isLanding_7 : decode cX12_isLanding 7 = .ok (.iconst 0, 1) := by decide +kernel
theorem dX12_isLanding_8 : decode cX12_isLanding 8 = .ok (.iaload, 1) := by decide +kernel
theorem dX12_isLanding_9 : decode cX12_isLanding 9 = .ok (.iconst 1, 1) := by decide +kernel
theorem dX12_isLanding_10 : decode cX12_isLanding 10 = .ok (.isub, 1) := by decide +kernel
theorem dX12_isLanding_11 : decode cX12_isLanding 11 = .ok (.i2l, 1) := by decide +kernel
theorem dX12_isLanding_12 : decode cX12_isLanding 12 = .ok (.invokestatic 51, 3) := by decide +kernel
theorem dX12_isLanding_15 : decode cX12_isLanding 15 = .ok (.ireturn, 1) := by decide +kernel
theorem dX12_isSort_0 : decode cX12_isSort 0 = .ok (.iload_n 1, 1) := by decide +kernel
theorem dX12_isSort_1 : decode cX12_isSort 1 = .ok (.i2l, 1) := by decide +kernel
theorem dX12_isSort_2 : decode cX12_isSort 2 = .ok (.lconst 0, 1) := by decide +kernel
theorem dX12_isSort_3 : decode cX12_isSort 3 = .ok (.aload_n 0, 1) := by decide +kernel
theorem dX12_isSort_4 : decode cX12_isSort 4 = .ok (.getfield 9, 3) := by decide +kernel
theorem dX12_isSort_7 : decode cX12_isSort 7 = .ok (.iconst 1, 1) := by decide +kernel
theorem dX12_isSort_8 : decode cX12_isSort 8 = .ok (.iaload, 1) := by decide +kernel
theorem dX12_isSort_9 : decode cX12_isSort 9 = .ok (.iconst 1, 1) := by decide +kernel
theorem dX12_isSort_10 : decode cX12_isSort 10 = .ok (.isub, 1) := by decide +kernel
theorem dX12_isSort_11 : decode cX12_isSort 11 = .ok (.i2l, 1) := by decide +kernel
theorem dX12_isSort_12 : decode cX12_isSort 12 = .ok (.invokestatic 51, 3) := by decide +kernel
theorem dX12_isSort_15 : decode cX12_isSort 15 = .ok (.ireturn, 1) := by decide +kernel
theorem dX12_isShelf_0 : decode cX12_isShelf 0 = .ok (.iload_n 0, 1) := by decide +kernel
theorem dX12_isShelf_1 : decode cX12_isShelf 1 = .ok (.i2l, 1) := by decide +kernel
theorem dX12_isShelf_2 : decode cX12_isShelf 2 = .ok (.lconst 0, 1) := by decide +kernel
theorem dX12_isShelf_3 : decode cX12_isShelf 3 = .ok (.ldc2_w 55, 3) := by decide +kernel
theorem dX12_isShelf_6 : decode cX12_isShelf 6 = .ok (.invokestatic 51, 3) := by decide +kernel
theorem dX12_isShelf_9 : decode cX12_isShelf 9 = .ok (.ireturn, 1) := by decide +kernel
theorem dX12_get_0 : decode cX12_get 0 = .ok (.aload_n 0, 1) := by decide +kernel
theorem dX12_get_1 : decode cX12_get 1 = .ok (.bipush 25, 2) := by decide +kernel
theorem dX12_get_3 : decode cX12_get 3 = .ok (.iconst 5, 1) := by decide +kernel
theorem dX12_get_4 : decode cX12_get 4 = .ok (.iload_n 1, 1) := by decide +kernel
theorem dX12_get_5 : decode cX12_get 5 = .ok (.imul, 1) := by decide +kernel
theorem dX12_get_6 : decode cX12_get 6 = .ok (.iadd, 1) := by decide +kernel
theorem dX12_get_7 : decode cX12_get 7 = .ok (.iload_n 2, 1) := by decide +kernel
theorem dX12_get_8 : decode cX12_get 8 = .ok (.iadd, 1) := by decide +kernel
theorem dX12_get_9 : decode cX12_get 9 = .ok (.iaload, 1) := by decide +kernel
theorem dX12_get_10 : decode cX12_get 10 = .ok (.ireturn, 1) := by decide +kernel
theorem dX12_boatOf_0 : decode cX12_boatOf 0 = .ok (.aload_n 0, 1) := by decide +kernel
theorem dX12_boatOf_1 : decode cX12_boatOf 1 = .ok (.bipush 50, 2) := by decide +kernel
theorem dX12_boatOf_3 : decode cX12_boatOf 3 = .ok (.bipush 12, 2) := by decide +kernel
theorem dX12_boatOf_5 : decode cX12_boatOf 5 = .ok (.iload_n 1, 1) := by decide +kernel
theorem dX12_boatOf_6 : decode cX12_boatOf 6 = .ok (.imul, 1) := by decide +kernel
theorem dX12_boatOf_7 : decode cX12_boatOf 7 = .ok (.iadd, 1) := by decide +kernel
theorem dX12_boatOf_8 : decode cX12_boatOf 8 = .ok (.iload_n 2, 1) := by decide +kernel
theorem dX12_boatOf_9 : decode cX12_boatOf 9 = .ok (.iadd, 1) := by decide +kernel
theorem dX12_boatOf_10 : decode cX12_boatOf 10 = .ok (.iaload, 1) := by decide +kernel
theorem dX12_boatOf_11 : decode cX12_boatOf 11 = .ok (.ireturn, 1) := by decide +kernel
theorem dX12_sets_0 : decode cX12_sets 0 = .ok (.aload_n 0, 1) := by decide +kernel
theorem dX12_sets_1 : decode cX12_sets 1 = .ok (.bipush 50, 2) := by decide +kernel
theorem dX12_sets_3 : decode cX12_sets 3 = .ok (.bipush 12, 2) := by decide +kernel
theorem dX12_sets_5 : decode cX12_sets 5 = .ok (.iload_n 1, 1) := by decide +kernel
theorem dX12_sets_6 : decode cX12_sets 6 = .ok (.imul, 1) := by decide +kernel
theorem dX12_sets_7 : decode cX12_sets 7 = .ok (.iadd, 1) := by decide +kernel
theorem dX12_sets_8 : decode cX12_sets 8 = .ok (.iload_n 2, 1) := by decide +kernel
theorem dX12_sets_9 : decode cX12_sets 9 = .ok (.iadd, 1) := by decide +kernel
theorem dX12_sets_10 : decode cX12_sets 10 = .ok (.iload_n 3, 1) := by decide +kernel
theorem dX12_sets_11 : decode cX12_sets 11 = .ok (.iastore, 1) := by decide +kernel
theorem dX12_sets_12 : decode cX12_sets 12 = .ok (.return_, 1) := by decide +kernel
theorem dX12_puts_0 : decode cX12_puts 0 = .ok (.aload_n 0, 1) := by decide +kernel
theorem dX12_puts_1 : decode cX12_puts 1 = .ok (.iload_n 1, 1) := by decide +kernel
theorem dX12_puts_2 : decode cX12_puts 2 = .ok (.iconst 0, 1) := by decide +kernel
theorem dX12_puts_3 : decode cX12_puts 3 = .ok (.iload_n 2, 1) := by decide +kernel
theorem dX12_puts_4 : decode cX12_puts 4 = .ok (.invokestatic 57, 3) := by decide +kernel
theorem dX12_puts_7 : decode cX12_puts 7 = .ok (.aload_n 0, 1) := by decide +kernel
theorem dX12_puts_8 : decode cX12_puts 8 = .ok (.iload_n 1, 1) := by decide +kernel
theorem dX12_puts_9 : decode cX12_puts 9 = .ok (.iconst 1, 1) := by decide +kernel
theorem dX12_puts_10 : decode cX12_puts 10 = .ok (.bipush (-4), 2) := by decide +kernel
theorem dX12_puts_12 : decode cX12_puts 12 = .ok (.invokestatic 57, 3) := by decide +kernel
theorem dX12_puts_15 : decode cX12_puts 15 = .ok (.aload_n 0, 1) := by decide +kernel
theorem dX12_puts_16 : decode cX12_puts 16 = .ok (.iload_n 1, 1) := by decide +kernel
theorem dX12_puts_17 : decode cX12_puts 17 = .ok (.iconst 2, 1) := by decide +kernel
theorem dX12_puts_18 : decode cX12_puts 18 = .ok (.iconst 0, 1) := by decide +kernel
theorem dX12_puts_19 : decode cX12_puts 19 = .ok (.invokestatic 57, 3) := by decide +kernel
theorem dX12_puts_22 : decode cX12_puts 22 = .ok (.aload_n 0, 1) := by decide +kernel
theorem dX12_puts_23 : decode cX12_puts 23 = .ok (.iload_n 1, 1) := by decide +kernel
theorem dX12_puts_24 : decode cX12_puts 24 = .ok (.iconst 3, 1) := by decide +kernel
theorem dX12_puts_25 : decode cX12_puts 25 = .ok (.iconst 0, 1) := by decide +kernel
theorem dX12_puts_26 : decode cX12_puts 26 = .ok (.invokestatic 57, 3) := by decide +kernel
theorem dX12_puts_29 : decode cX12_puts 29 = .ok (.aload_n 0, 1) := by decide +kernel
theorem dX12_puts_30 : decode cX12_puts 30 = .ok (.iload_n 1, 1) := by decide +kernel
theorem dX12_puts_31 : decode cX12_puts 31 = .ok (.iconst 4, 1) := by decide +kernel
theorem dX12_puts_32 : decode cX12_puts 32 = .ok (.iload_n 3, 1) := by decide +kernel
theorem dX12_puts_33 : decode cX12_puts 33 = .ok (.invokestatic 57, 3) := by decide +kernel
theorem dX12_puts_36 : decode cX12_puts 36 = .ok (.aload_n 0, 1) := by decide +kernel
theorem dX12_puts_37 : decode cX12_puts 37 = .ok (.iload_n 1, 1) := by decide +kernel
theorem dX12_puts_38 : decode cX12_puts 38 = .ok (.iconst 5, 1) := by decide +kernel
theorem dX12_puts_39 : decode cX12_puts 39 = .ok (.iload 4, 2) := by decide +kernel
theorem dX12_puts_41 : decode cX12_puts 41 = .ok (.invokestatic 57, 3) := by decide +kernel
theorem dX12_puts_44 : decode cX12_puts 44 = .ok (.return_, 1) := by decide +kernel
theorem dX12_standing_0 : decode cX12_standing 0 = .ok (.aload_n 0, 1) := by decide +kernel
theorem dX12_standing_1 : decode cX12_standing 1 = .ok (.bipush 74, 2) := by decide +kernel
theorem dX12_standing_3 : decode cX12_standing 3 = .ok (.bipush 25, 2) := by decide +kernel
theorem dX12_standing_5 : decode cX12_standing 5 = .ok (.iload_n 1, 1) := by decide +kernel
theorem dX12_standing_6 : decode cX12_standing 6 = .ok (.imul, 1) := by decide +kernel
theorem dX12_standing_7 : decode cX12_standing 7 = .ok (.iadd, 1) := by decide +kernel
theorem dX12_standing_8 : decode cX12_standing 8 = .ok (.iaload, 1) := by decide +kernel
theorem dX12_standing_9 : decode cX12_standing 9 = .ok (.ireturn, 1) := by decide +kernel
theorem dX12_becomes_0 : decode cX12_becomes 0 = .ok (.aload_n 0, 1) := by decide +kernel
theorem dX12_becomes_1 : decode cX12_becomes 1 = .ok (.getfield 9, 3) := by decide +kernel
theorem dX12_becomes_4 : decode cX12_becomes 4 = .ok (.iload_n 1, 1) := by decide +kernel
theorem dX12_becomes_5 : decode cX12_becomes 5 = .ok (.iaload, 1) := by decide +kernel
theorem dX12_becomes_6 : decode cX12_becomes 6 = .ok (.istore_n 3, 1) := by decide +kernel
theorem dX12_becomes_7 : decode cX12_becomes 7 = .ok (.aload_n 0, 1) := by decide +kernel
theorem dX12_becomes_8 : decode cX12_becomes 8 = .ok (.getfield 9, 3) := by decide +kernel
theorem dX12_becomes_11 : decode cX12_becomes 11 = .ok (.iload_n 1, 1) := by decide +kernel
theorem dX12_becomes_12 : decode cX12_becomes 12 = .ok (.iload_n 2, 1) := by decide +kernel
theorem dX12_becomes_13 : decode cX12_becomes 13 = .ok (.iastore, 1) := by decide +kernel
theorem dX12_becomes_14 : decode cX12_becomes 14 = .ok (.iload_n 3, 1) := by decide +kernel
theorem dX12_becomes_15 : decode cX12_becomes 15 = .ok (.ireturn, 1) := by decide +kernel
theorem dX12_here_0 : decode cX12_here 0 = .ok (.aload_n 0, 1) := by decide +kernel
theorem dX12_here_1 : decode cX12_here 1 = .ok (.getfield 61, 3) := by decide +kernel
theorem dX12_here_4 : decode cX12_here 4 = .ok (.aload_n 0, 1) := by decide +kernel
theorem dX12_here_5 : decode cX12_here 5 = .ok (.getfield 64, 3) := by decide +kernel
theorem dX12_here_8 : decode cX12_here 8 = .ok (.if_icmp .ge 20, 3) := by decide +kernel
theorem dX12_here_11 : decode cX12_here 11 = .ok (.aload_n 0, 1) := by decide +kernel
theorem dX12_here_12 : decode cX12_here 12 = .ok (.getfield 31, 3) := by decide +kernel
theorem dX12_here_15 : decode cX12_here 15 = .ok (.aload_n 0, 1) := by decide +kernel
theorem dX12_here_16 : decode cX12_here 16 = .ok (.getfield 67, 3) := by decide +kernel
theorem dX12_here_19 : decode cX12_here 19 = .ok (.aload_n 0, 1) := by decide +kernel
theorem dX12_here_20 : decode cX12_here 20 = .ok (.getfield 61, 3) := by decide +kernel
theorem dX12_here_23 : decode cX12_here 23 = .ok (.iadd, 1) := by decide +kernel
theorem dX12_here_24 : decode cX12_here 24 = .ok (.iaload, 1) := by decide +kernel
theorem dX12_here_25 : decode cX12_here 25 = .ok (.goto 6, 3) := by decide +kernel
theorem dX12_here_28 : decode cX12_here 28 = .ok (.sipush (-1000), 3) := by decide +kernel
theorem dX12_here_31 : decode cX12_here 31 = .ok (.ireturn, 1) := by decide +kernel
theorem dX12_isDigit_0 : decode cX12_isDigit 0 = .ok (.aload_n 0, 1) := by decide +kernel
theorem dX12_isDigit_1 : decode cX12_isDigit 1 = .ok (.invokevirtual 70, 3) := by decide +kernel
theorem dX12_isDigit_4 : decode cX12_isDigit 4 = .ok (.i2l, 1) := by decide +kernel
theorem dX12_isDigit_5 : decode cX12_isDigit 5 = .ok (.ldc2_w 74, 3) := by decide +kernel
theorem dX12_isDigit_8 : decode cX12_isDigit 8 = .ok (.ldc2_w 76, 3) := by decide +kernel
theorem dX12_isDigit_11 : decode cX12_isDigit 11 = .ok (.invokestatic 51, 3) := by decide +kernel
theorem dX12_isDigit_14 : decode cX12_isDigit 14 = .ok (.ireturn, 1) := by decide +kernel
theorem dX12_takes_0 : decode cX12_takes 0 = .ok (.aload_n 0, 1) := by decide +kernel
theorem dX12_takes_1 : decode cX12_takes 1 = .ok (.invokevirtual 70, 3) := by decide +kernel
theorem dX12_takes_4 : decode cX12_takes 4 = .ok (.iload_n 1, 1) := by decide +kernel
theorem dX12_takes_5 : decode cX12_takes 5 = .ok (.if_icmp .eq 5, 3) := by decide +kernel
theorem dX12_takes_8 : decode cX12_takes 8 = .ok (.iconst 0, 1) := by decide +kernel
theorem dX12_takes_9 : decode cX12_takes 9 = .ok (.ireturn, 1) := by decide +kernel
theorem dX12_takes_10 : decode cX12_takes 10 = .ok (.aload_n 0, 1) := by decide +kernel
theorem dX12_takes_11 : decode cX12_takes 11 = .ok (.dup, 1) := by decide +kernel
theorem dX12_takes_12 : decode cX12_takes 12 = .ok (.getfield 61, 3) := by decide +kernel
theorem dX12_takes_15 : decode cX12_takes 15 = .ok (.iconst 1, 1) := by decide +kernel
theorem dX12_takes_16 : decode cX12_takes 16 = .ok (.iadd, 1) := by decide +kernel
theorem dX12_takes_17 : decode cX12_takes 17 = .ok (.putfield 61, 3) := by decide +kernel
theorem dX12_takes_20 : decode cX12_takes 20 = .ok (.iconst 1, 1) := by decide +kernel
theorem dX12_takes_21 : decode cX12_takes 21 = .ok (.ireturn, 1) := by decide +kernel
theorem dX12_readsDigit_0 : decode cX12_readsDigit 0 = .ok (.aload_n 0, 1) := by decide +kernel
theorem dX12_readsDigit_1 : decode cX12_readsDigit 1 = .ok (.invokevirtual 78, 3) := by decide +kernel
theorem dX12_readsDigit_4 : decode cX12_readsDigit 4 = .ok (.ifCond .ne 5, 3) := by decide +kernel
theorem dX12_readsDigit_7 : decode cX12_readsDigit 7 = .ok (.iconst 0, 1) := by decide +kernel
theorem dX12_readsDigit_8 : decode cX12_readsDigit 8 = .ok (.ireturn, 1) := by decide +kernel
theorem dX12_readsDigit_9 : decode cX12_readsDigit 9 = .ok (.aload_n 0, 1) := by decide +kernel
theorem dX12_readsDigit_10 : decode cX12_readsDigit 10 = .ok (.getfield 40, 3) := by decide +kernel
theorem dX12_readsDigit_13 : decode cX12_readsDigit 13 = .ok (.aload_n 0, 1) := by decide +kernel
theorem dX12_readsDigit_14 : decode cX12_readsDigit 14 = .ok (.getfield 82, 3) := by decide +kernel
theorem dX12_readsDigit_17 : decode cX12_readsDigit 17 = .ok (.aload_n 0, 1) := by decide +kernel
theorem dX12_readsDigit_18 : decode cX12_readsDigit 18 = .ok (.invokevirtual 70, 3) := by decide +kernel
theorem dX12_readsDigit_21 : decode cX12_readsDigit 21 = .ok (.bipush 48, 2) := by decide +kernel
theorem dX12_readsDigit_23 : decode cX12_readsDigit 23 = .ok (.isub, 1) := by decide +kernel
theorem dX12_readsDigit_24 : decode cX12_readsDigit 24 = .ok (.iastore, 1) := by decide +kernel
theorem dX12_readsDigit_25 : decode cX12_readsDigit 25 = .ok (.aload_n 0, 1) := by decide +kernel
theorem dX12_readsDigit_26 : decode cX12_readsDigit 26 = .ok (.dup, 1) := by decide +kernel
theorem dX12_readsDigit_27 : decode cX12_readsDigit 27 = .ok (.getfield 82, 3) := by decide +kernel
theorem dX12_readsDigit_30 : decode cX12_readsDigit 30 = .ok (.iconst 1, 1) := by decide +kernel
theorem dX12_readsDigit_31 : decode cX12_readsDigit 31 = .ok (.iadd, 1) := by decide +kernel
theorem dX12_readsDigit_32 : decode cX12_readsDigit 32 = .ok (.putfield 82, 3) := by decide +kernel
theorem dX12_readsDigit_35 : decode cX12_readsDigit 35 = .ok (.aload_n 0, 1) := by decide +kernel
theorem dX12_readsDigit_36 : decode cX12_readsDigit 36 = .ok (.dup, 1) := by decide +kernel
theorem dX12_readsDigit_37 : decode cX12_readsDigit 37 = .ok (.getfield 61, 3) := by decide +kernel
theorem dX12_readsDigit_40 : decode cX12_readsDigit 40 = .ok (.iconst 1, 1) := by decide +kernel
theorem dX12_readsDigit_41 : decode cX12_readsDigit 41 = .ok (.iadd, 1) := by decide +kernel
theorem dX12_readsDigit_42 : decode cX12_readsDigit 42 = .ok (.putfield 61, 3) := by decide +kernel
theorem dX12_readsDigit_45 : decode cX12_readsDigit 45 = .ok (.iconst 1, 1) := by decide +kernel
theorem dX12_readsDigit_46 : decode cX12_readsDigit 46 = .ok (.ireturn, 1) := by decide +kernel
theorem dX12_readsNumber_0 : decode cX12_readsNumber 0 = .ok (.aload_n 0, 1) := by decide +kernel
theorem dX12_readsNumber_1 : decode cX12_readsNumber 1 = .ok (.invokevirtual 85, 3) := by decide +kernel
theorem dX12_readsNumber_4 : decode cX12_readsNumber 4 = .ok (.ifCond .ne 5, 3) := by decide +kernel
theorem dX12_readsNumber_7 : decode cX12_readsNumber 7 = .ok (.iconst 0, 1) := by decide +kernel
theorem dX12_readsNumber_8 : decode cX12_readsNumber 8 = .ok (.ireturn, 1) := by decide +kernel
theorem dX12_readsNumber_9 : decode cX12_readsNumber 9 = .ok (.aload_n 0, 1) := by decide +kernel
theorem dX12_readsNumber_10 : decode cX12_readsNumber 10 = .ok (.getfield 40, 3) := by decide +kernel
theorem dX12_readsNumber_13 : decode cX12_readsNumber 13 = .ok (.aload_n 0, 1) := by decide +kernel
theorem dX12_readsNumber_14 : decode cX12_readsNumber 14 = .ok (.getfield 82, 3) := by decide +kernel
theorem dX12_readsNumber_17 : decode cX12_readsNumber 17 = .ok (.iconst 1, 1) := by decide +kernel
theorem dX12_readsNumber_18 : decode cX12_readsNumber 18 = .ok (.isub, 1) := by decide +kernel
theorem dX12_readsNumber_19 : decode cX12_readsNumber 19 = .ok (.iaload, 1) := by decide +kernel
theorem dX12_readsNumber_20 : decode cX12_readsNumber 20 = .ok (.istore_n 1, 1) := by decide +kernel
theorem dX12_readsNumber_21 : decode cX12_readsNumber 21 = .ok (.iconst 1, 1) := by decide +kernel
theorem dX12_readsNumber_22 : decode cX12_readsNumber 22 = .ok (.istore_n 2, 1) := by decide +kernel
theorem dX12_readsNumber_23 : decode cX12_readsNumber 23 = .ok (.iload_n 2, 1) := by decide +kernel
theorem dX12_readsNumber_24 : decode cX12_readsNumber 24 = .ok (.iconst 3, 1) := by decide +kernel
theorem dX12_readsNumber_25 : decode cX12_readsNumber 25 = .ok (.if_icmp .ge 43, 3) := by decide +kernel
theorem dX12_readsNumber_28 : decode cX12_readsNumber 28 = .ok (.iload_n 1, 1) := by decide +kernel
theorem dX12_readsNumber_29 : decode cX12_readsNumber 29 = .ok (.ifCond .le 39, 3) := by decide +kernel
theorem dX12_readsNumber_32 : decode cX12_readsNumber 32 = .ok (.aload_n 0, 1) := by decide +kernel
theorem dX12_readsNumber_33 : decode cX12_readsNumber 33 = .ok (.invokevirtual 78, 3) := by decide +kernel
theorem dX12_readsNumber_36 : decode cX12_readsNumber 36 = .ok (.ifCond .eq 32, 3) := by decide +kernel
theorem dX12_readsNumber_39 : decode cX12_readsNumber 39 = .ok (.bipush 10, 2) := by decide +kernel
theorem dX12_readsNumber_41 : decode cX12_readsNumber 41 = .ok (.iload_n 1, 1) := by decide +kernel
theorem dX12_readsNumber_42 : decode cX12_readsNumber 42 = .ok (.imul, 1) := by decide +kernel
theorem dX12_readsNumber_43 : decode cX12_readsNumber 43 = .ok (.aload_n 0, 1) := by decide +kernel
theorem dX12_readsNumber_44 : decode cX12_readsNumber 44 = .ok (.invokevirtual 70, 3) := by decide +kernel
theorem dX12_readsNumber_47 : decode cX12_readsNumber 47 = .ok (.iadd, 1) := by decide +kernel
theorem dX12_readsNumber_48 : decode cX12_readsNumber 48 = .ok (.bipush 48, 2) := by decide +kernel
theorem dX12_readsNumber_50 : decode cX12_readsNumber 50 = .ok (.isub, 1) := by decide +kernel
theorem dX12_readsNumber_51 : decode cX12_readsNumber 51 = .ok (.istore_n 1, 1) := by decide +kernel
theorem dX12_readsNumber_52 : decode cX12_readsNumber 52 = .ok (.aload_n 0, 1) := by decide +kernel
theorem dX12_readsNumber_53 : decode cX12_readsNumber 53 = .ok (.dup, 1) := by decide +kernel
theorem dX12_readsNumber_54 : decode cX12_readsNumber 54 = .ok (.getfield 61, 3) := by decide +kernel
theorem dX12_readsNumber_57 : decode cX12_readsNumber 57 = .ok (.iconst 1, 1) := by decide +kernel
theorem dX12_readsNumber_58 : decode cX12_readsNumber 58 = .ok (.iadd, 1) := by decide +kernel
theorem dX12_readsNumber_59 : decode cX12_readsNumber 59 = .ok (.putfield 61, 3) := by decide +kernel
theorem dX12_readsNumber_62 : decode cX12_readsNumber 62 = .ok (.iinc 2 1, 3) := by decide +kernel
theorem dX12_readsNumber_65 : decode cX12_readsNumber 65 = .ok (.goto (-42), 3) := by decide +kernel
theorem dX12_readsNumber_68 : decode cX12_readsNumber 68 = .ok (.aload_n 0, 1) := by decide +kernel
theorem dX12_readsNumber_69 : decode cX12_readsNumber 69 = .ok (.getfield 40, 3) := by decide +kernel
theorem dX12_readsNumber_72 : decode cX12_readsNumber 72 = .ok (.aload_n 0, 1) := by decide +kernel
theorem dX12_readsNumber_73 : decode cX12_readsNumber 73 = .ok (.getfield 82, 3) := by decide +kernel
theorem dX12_readsNumber_76 : decode cX12_readsNumber 76 = .ok (.iconst 1, 1) := by decide +kernel
theorem dX12_readsNumber_77 : decode cX12_readsNumber 77 = .ok (.isub, 1) := by decide +kernel
theorem dX12_readsNumber_78 : decode cX12_readsNumber 78 = .ok (.iload_n 1, 1) := by decide +kernel
theorem dX12_readsNumber_79 : decode cX12_readsNumber 79 = .ok (.iastore, 1) := by decide +kernel
theorem dX12_readsNumber_80 : decode cX12_readsNumber 80 = .ok (.iconst 1, 1) := by decide +kernel
theorem dX12_readsNumber_81 : decode cX12_readsNumber 81 = .ok (.ireturn, 1) := by decide +kernel
theorem dX12_readsStatement_0 : decode cX12_readsStatement 0 = .ok (.aload_n 0, 1) := by decide +kernel
theorem dX12_readsStatement_1 : decode cX12_readsStatement 1 = .ok (.invokevirtual 70, 3) := by decide +kernel
theorem dX12_readsStatement_4 : decode cX12_readsStatement 4 = .ok (.istore_n 1, 1) := by decide +kernel
theorem dX12_readsStatement_5 : decode cX12_readsStatement 5 = .ok (.aload_n 0, 1) := by decide +kernel
theorem dX12_readsStatement_6 : decode cX12_readsStatement 6 = .ok (.iconst 0, 1) := by decide +kernel
theorem dX12_readsStatement_7 : decode cX12_readsStatement 7 = .ok (.putfield 82, 3) := by decide +kernel
theorem dX12_readsStatement_10 : decode cX12_readsStatement 10 = .ok (.iload_n 1, 1) := by decide +kernel
theorem dX12_readsStatement_11 : decode cX12_readsStatement 11 = .ok (.bipush 110, 2) := by decide +kernel
theorem dX12_readsStatement_13 : decode cX12_readsStatement 13 = .ok (.if_icmp .eq 23, 3) := by decide +kernel
theorem dX12_readsStatement_16 : decode cX12_readsStatement 16 = .ok (.iload_n 1, 1) := by decide +kernel
theorem dX12_readsStatement_17 : decode cX12_readsStatement 17 = .ok (.bipush 109, 2) := by decide +kernel
theorem dX12_readsStatement_19 : decode cX12_readsStatement 19 = .ok (.if_icmp .eq 17, 3) := by decide +kernel
theorem dX12_readsStatement_22 : decode cX12_readsStatement 22 = .ok (.iload_n 1, 1) := by decide +kernel
theorem dX12_readsStatement_23 : decode cX12_readsStatement 23 = .ok (.bipush 115, 2) := by decide +kernel
theorem dX12_readsStatement_25 : decode cX12_readsStatement 25 = .ok (.if_icmp .eq 11, 3) := by decide +kernel
theorem dX12_readsStatement_28 : decode cX12_readsStatement 28 = .ok (.iload_n 1, 1) := by decide +kernel
theorem dX12_readsStatement_29 : decode cX12_readsStatement 29 = .ok (.bipush 98, 2) := by decide +kernel
theorem dX12_readsStatement_31 : decode cX12_readsStatement 31 = .ok (.if_icmp .eq 5, 3) := by decide +kernel
theorem dX12_readsStatement_34 : decode cX12_readsStatement 34 = .ok (.iconst 0, 1) := by decide +kernel
theorem dX12_readsStatement_35 : decode cX12_readsStatement 35 = .ok (.ireturn, 1) := by decide +kernel
theorem dX12_readsStatement_36 : decode cX12_readsStatement 36 = .ok (.aload_n 0, 1) := by decide +kernel
theorem dX12_readsStatement_37 : decode cX12_readsStatement 37 = .ok (.dup, 1) := by decide +kernel
theorem dX12_readsStatement_38 : decode cX12_readsStatement 38 = .ok (.getfield 61, 3) := by decide +kernel
theorem dX12_readsStatement_41 : decode cX12_readsStatement 41 = .ok (.iconst 1, 1) := by decide +kernel
theorem dX12_readsStatement_42 : decode cX12_readsStatement 42 = .ok (.iadd, 1) := by decide +kernel
theorem dX12_readsStatement_43 : decode cX12_readsStatement 43 = .ok (.putfield 61, 3) := by decide +kernel
theorem dX12_readsStatement_46 : decode cX12_readsStatement 46 = .ok (.aload_n 0, 1) := by decide +kernel
theorem dX12_readsStatement_47 : decode cX12_readsStatement 47 = .ok (.invokevirtual 85, 3) := by decide +kernel
theorem dX12_readsStatement_50 : decode cX12_readsStatement 50 = .ok (.ifCond .ne 5, 3) := by decide +kernel
theorem dX12_readsStatement_53 : decode cX12_readsStatement 53 = .ok (.iconst 0, 1) := by decide +kernel
theorem dX12_readsStatement_54 : decode cX12_readsStatement 54 = .ok (.ireturn, 1) := by decide +kernel
theorem dX12_readsStatement_55 : decode cX12_readsStatement 55 = .ok (.iload_n 1, 1) := by decide +kernel
theorem dX12_readsStatement_56 : decode cX12_readsStatement 56 = .ok (.bipush 109, 2) := by decide +kernel
theorem dX12_readsStatement_58 : decode cX12_readsStatement 58 = .ok (.if_icmp .eq 9, 3) := by decide +kernel
theorem dX12_readsStatement_61 : decode cX12_readsStatement 61 = .ok (.iload_n 1, 1) := by decide +kernel
theorem dX12_readsStatement_62 : decode cX12_readsStatement 62 = .ok (.bipush 115, 2) := by decide +kernel
theorem dX12_readsStatement_64 : decode cX12_readsStatement 64 = .ok (.if_icmp .ne 21, 3) := by decide +kernel
theorem dX12_readsStatement_67 : decode cX12_readsStatement 67 = .ok (.aload_n 0, 1) := by decide +kernel
theorem dX12_readsStatement_68 : decode cX12_readsStatement 68 = .ok (.invokevirtual 85, 3) := by decide +kernel
theorem dX12_readsStatement_71 : decode cX12_readsStatement 71 = .ok (.ifCond .eq 12, 3) := by decide +kernel
theorem dX12_readsStatement_74 : decode cX12_readsStatement 74 = .ok (.aload_n 0, 1) := by decide +kernel
theorem dX12_readsStatement_75 : decode cX12_readsStatement 75 = .ok (.bipush 32, 2) := by decide +kernel
theorem dX12_readsStatement_77 : decode cX12_readsStatement 77 = .ok (.invokevirtual 88, 3) := by decide +kernel
theorem dX12_readsStatement_80 : decode cX12_readsStatement 80 = .ok (.ifCond .ne 5, 3) := by decide +kernel
theorem dX12_readsStatement_83 : decode cX12_readsStatement 83 = .ok (.iconst 0, 1) := by decide +kernel
theorem dX12_readsStatement_84 : decode cX12_readsStatement 84 = .ok (.ireturn, 1) := by decide +kernel
theorem dX12_readsStatement_85 : decode cX12_readsStatement 85 = .ok (.iload_n 1, 1) := by decide +kernel
theorem dX12_readsStatement_86 : decode cX12_readsStatement 86 = .ok (.bipush 109, 2) := by decide +kernel
theorem dX12_readsStatement_88 : decode cX12_readsStatement 88 = .ok (.if_icmp .ne 12, 3) := by decide +kernel
theorem dX12_readsStatement_91 : decode cX12_readsStatement 91 = .ok (.aload_n 0, 1) := by decide +kernel
theorem dX12_readsStatement_92 : decode cX12_readsStatement 92 = .ok (.invokevirtual 85, 3) := by decide +kernel
theorem dX12_readsStatement_95 : decode cX12_readsStatement 95 = .ok (.ifCond .ne 5, 3) := by decide +kernel
theorem dX12_readsStatement_98 : decode cX12_readsStatement 98 = .ok (.iconst 0, 1) := by decide +kernel
theorem dX12_readsStatement_99 : decode cX12_readsStatement 99 = .ok (.ireturn, 1) := by decide +kernel
theorem dX12_readsStatement_100 : decode cX12_readsStatement 100 = .ok (.iload_n 1, 1) := by decide +kernel
theorem dX12_readsStatement_101 : decode cX12_readsStatement 101 = .ok (.bipush 115, 2) := by decide +kernel
theorem dX12_readsStatement_103 : decode cX12_readsStatement 103 = .ok (.if_icmp .ne 44, 3) := by decide +kernel
theorem dX12_readsStatement_106 : decode cX12_readsStatement 106 = .ok (.aload_n 0, 1) := by decide +kernel
theorem dX12_readsStatement_107 : decode cX12_readsStatement 107 = .ok (.invokevirtual 92, 3) := by decide +kernel
theorem dX12_readsStatement_110 : decode cX12_readsStatement 110 = .ok (.ifCond .eq 35, 3) := by decide +kernel
theorem dX12_readsStatement_113 : decode cX12_readsStatement 113 = .ok (.aload_n 0, 1) := by decide +kernel
theorem dX12_readsStatement_114 : decode cX12_readsStatement 114 = .ok (.bipush 32, 2) := by decide +kernel
theorem dX12_readsStatement_116 : decode cX12_readsStatement 116 = .ok (.invokevirtual 88, 3) := by decide +kernel
theorem dX12_readsStatement_119 : decode cX12_readsStatement 119 = .ok (.ifCond .eq 26, 3) := by decide +kernel
theorem dX12_readsStatement_122 : decode cX12_readsStatement 122 = .ok (.aload_n 0, 1) := by decide +kernel
theorem dX12_readsStatement_123 : decode cX12_readsStatement 123 = .ok (.invokevirtual 92, 3) := by decide +kernel
theorem dX12_readsStatement_126 : decode cX12_readsStatement 126 = .ok (.ifCond .eq 19, 3) := by decide +kernel
theorem dX12_readsStatement_129 : decode cX12_readsStatement 129 = .ok (.aload_n 0, 1) := by decide +kernel
theorem dX12_readsStatement_130 : decode cX12_readsStatement 130 = .ok (.bipush 32, 2) := by decide +kernel
theorem dX12_readsStatement_132 : decode cX12_readsStatement 132 = .ok (.invokevirtual 88, 3) := by decide +kernel
theorem dX12_readsStatement_135 : decode cX12_readsStatement 135 = .ok (.ifCond .eq 10, 3) := by decide +kernel
theorem dX12_readsStatement_138 : decode cX12_readsStatement 138 = .ok (.aload_n 0, 1) := by decide +kernel
theorem dX12_readsStatement_139 : decode cX12_readsStatement 139 = .ok (.invokevirtual 92, 3) := by decide +kernel
theorem dX12_readsStatement_142 : decode cX12_readsStatement 142 = .ok (.ifCond .ne 5, 3) := by decide +kernel
theorem dX12_readsStatement_145 : decode cX12_readsStatement 145 = .ok (.iconst 0, 1) := by decide +kernel
theorem dX12_readsStatement_146 : decode cX12_readsStatement 146 = .ok (.ireturn, 1) := by decide +kernel
theorem dX12_readsStatement_147 : decode cX12_readsStatement 147 = .ok (.aload_n 0, 1) := by decide +kernel
theorem dX12_readsStatement_148 : decode cX12_readsStatement 148 = .ok (.bipush 59, 2) := by decide +kernel
theorem dX12_readsStatement_150 : decode cX12_readsStatement 150 = .ok (.invokevirtual 88, 3) := by decide +kernel
theorem dX12_readsStatement_153 : decode cX12_readsStatement 153 = .ok (.ireturn, 1) := by decide +kernel
theorem dX12_mayHave_0 : decode cX12_mayHave 0 = .ok (.iload_n 1, 1) := by decide +kernel
theorem dX12_mayHave_1 : decode cX12_mayHave 1 = .ok (.i2l, 1) := by decide +kernel
theorem dX12_mayHave_2 : decode cX12_mayHave 2 = .ok (.ldc2_w 95, 3) := by decide +kernel
theorem dX12_mayHave_5 : decode cX12_mayHave 5 = .ok (.ldc2_w 97, 3) := by decide +kernel
theorem dX12_mayHave_8 : decode cX12_mayHave 8 = .ok (.invokestatic 51, 3) := by decide +kernel
theorem dX12_mayHave_11 : decode cX12_mayHave 11 = .ok (.ifCond .ne 5, 3) := by decide +kernel
theorem dX12_mayHave_14 : decode cX12_mayHave 14 = .ok (.iconst 0, 1) := by decide +kernel
theorem dX12_mayHave_15 : decode cX12_mayHave 15 = .ok (.ireturn, 1) := by decide +kernel
theorem dX12_mayHave_16 : decode cX12_mayHave 16 = .ok (.iconst 0, 1) := by decide +kernel
theorem dX12_mayHave_17 : decode cX12_mayHave 17 = .ok (.istore_n 2, 1) := by decide +kernel
theorem dX12_mayHave_18 : decode cX12_mayHave 18 = .ok (.iload_n 2, 1) := by decide +kernel
theorem dX12_mayHave_19 : decode cX12_mayHave 19 = .ok (.aload_n 0, 1) := by decide +kernel
theorem dX12_mayHave_20 : decode cX12_mayHave 20 = .ok (.getfield 19, 3) := by decide +kernel
theorem dX12_mayHave_23 : decode cX12_mayHave 23 = .ok (.iconst 0, 1) := by decide +kernel
theorem dX12_mayHave_24 : decode cX12_mayHave 24 = .ok (.iaload, 1) := by decide +kernel
theorem dX12_mayHave_25 : decode cX12_mayHave 25 = .ok (.if_icmp .ge 22, 3) := by decide +kernel
theorem dX12_mayHave_28 : decode cX12_mayHave 28 = .ok (.aload_n 0, 1) := by decide +kernel
theorem dX12_mayHave_29 : decode cX12_mayHave 29 = .ok (.getfield 19, 3) := by decide +kernel
theorem dX12_mayHave_32 : decode cX12_mayHave 32 = .ok (.iload_n 2, 1) := by decide +kernel
theorem dX12_mayHave_33 : decode cX12_mayHave 33 = .ok (.invokestatic 99, 3) := by decide +kernel
theorem dX12_mayHave_36 : decode cX12_mayHave 36 = .ok (.ifCond .le 5, 3) := by decide +kernel
theorem dX12_mayHave_39 : decode cX12_mayHave 39 = .ok (.iconst 0, 1) := by decide +kernel
theorem dX12_mayHave_40 : decode cX12_mayHave 40 = .ok (.ireturn, 1) := by decide +kernel
theorem dX12_mayHave_41 : decode cX12_mayHave 41 = .ok (.iinc 2 1, 3) := by decide +kernel
theorem dX12_mayHave_44 : decode cX12_mayHave 44 = .ok (.goto (-26), 3) := by decide +kernel
theorem dX12_mayHave_47 : decode cX12_mayHave 47 = .ok (.aload_n 0, 1) := by decide +kernel
theorem dX12_mayHave_48 : decode cX12_mayHave 48 = .ok (.getfield 19, 3) := by decide +kernel
theorem dX12_mayHave_51 : decode cX12_mayHave 51 = .ok (.iconst 0, 1) := by decide +kernel
theorem dX12_mayHave_52 : decode cX12_mayHave 52 = .ok (.iconst 3, 1) := by decide +kernel
theorem dX12_mayHave_53 : decode cX12_mayHave 53 = .ok (.invokestatic 103, 3) := by decide +kernel
theorem dX12_mayHave_56 : decode cX12_mayHave 56 = .ok (.ifCond .ne 33, 3) := by decide +kernel
theorem dX12_mayHave_59 : decode cX12_mayHave 59 = .ok (.aload_n 0, 1) := by decide +kernel
theorem dX12_mayHave_60 : decode cX12_mayHave 60 = .ok (.getfield 19, 3) := by decide +kernel
theorem dX12_mayHave_63 : decode cX12_mayHave 63 = .ok (.iconst 0, 1) := by decide +kernel
theorem dX12_mayHave_64 : decode cX12_mayHave 64 = .ok (.iconst 0, 1) := by decide +kernel
theorem dX12_mayHave_65 : decode cX12_mayHave 65 = .ok (.invokestatic 103, 3) := by decide +kernel
theorem dX12_mayHave_68 : decode cX12_mayHave 68 = .ok (.iload_n 1, 1) := by decide +kernel
theorem dX12_mayHave_69 : decode cX12_mayHave 69 = .ok (.if_icmp .ge 20, 3) := by decide +kernel
theorem dX12_mayHave_72 : decode cX12_mayHave 72 = .ok (.aload_n 0, 1) := by decide +kernel
theorem dX12_mayHave_73 : decode cX12_mayHave 73 = .ok (.getfield 19, 3) := by decide +kernel
theorem dX12_mayHave_76 : decode cX12_mayHave 76 = .ok (.iconst 0, 1) := by decide +kernel
theorem dX12_mayHave_77 : decode cX12_mayHave 77 = .ok (.iconst 1, 1) := by decide +kernel
theorem dX12_mayHave_78 : decode cX12_mayHave 78 = .ok (.invokestatic 103, 3) := by decide +kernel
theorem dX12_mayHave_81 : decode cX12_mayHave 81 = .ok (.iload_n 1, 1) := by decide +kernel
theorem dX12_mayHave_82 : decode cX12_mayHave 82 = .ok (.if_icmp .ge 7, 3) := by decide +kernel
theorem dX12_mayHave_85 : decode cX12_mayHave 85 = .ok (.iconst 1, 1) := by decide +kernel
theorem dX12_mayHave_86 : decode cX12_mayHave 86 = .ok (.goto 4, 3) := by decide +kernel
theorem dX12_mayHave_89 : decode cX12_mayHave 89 = .ok (.iconst 0, 1) := by decide +kernel
theorem dX12_mayHave_90 : decode cX12_mayHave 90 = .ok (.istore_n 2, 1) := by decide +kernel
theorem dX12_mayHave_91 : decode cX12_mayHave 91 = .ok (.iconst 0, 1) := by decide +kernel
theorem dX12_mayHave_92 : decode cX12_mayHave 92 = .ok (.istore_n 3, 1) := by decide +kernel
theorem dX12_mayHave_93 : decode cX12_mayHave 93 = .ok (.iload_n 3, 1) := by decide +kernel
theorem dX12_mayHave_94 : decode cX12_mayHave 94 = .ok (.aload_n 0, 1) := by decide +kernel
theorem dX12_mayHave_95 : decode cX12_mayHave 95 = .ok (.getfield 19, 3) := by decide +kernel
theorem dX12_mayHave_98 : decode cX12_mayHave 98 = .ok (.iconst 1, 1) := by decide +kernel
theorem dX12_mayHave_99 : decode cX12_mayHave 99 = .ok (.iaload, 1) := by decide +kernel
theorem dX12_mayHave_100 : decode cX12_mayHave 100 = .ok (.if_icmp .ge 45, 3) := by decide +kernel
theorem dX12_mayHave_103 : decode cX12_mayHave 103 = .ok (.iload_n 2, 1) := by decide +kernel
theorem dX12_mayHave_104 : decode cX12_mayHave 104 = .ok (.ifCond .eq 33, 3) := by decide +kernel
theorem dX12_mayHave_107 : decode cX12_mayHave 107 = .ok (.aload_n 0, 1) := by decide +kernel
theorem dX12_mayHave_108 : decode cX12_mayHave 108 = .ok (.getfield 19, 3) := by decide +kernel
theorem dX12_mayHave_111 : decode cX12_mayHave 111 = .ok (.iload_n 3, 1) := by decide +kernel
theorem dX12_mayHave_112 : decode cX12_mayHave 112 = .ok (.iconst 0, 1) := by decide +kernel
theorem dX12_mayHave_113 : decode cX12_mayHave 113 = .ok (.invokestatic 107, 3) := by decide +kernel
theorem dX12_mayHave_116 : decode cX12_mayHave 116 = .ok (.iload_n 1, 1) := by decide +kernel
theorem dX12_mayHave_117 : decode cX12_mayHave 117 = .ok (.if_icmp .ge 20, 3) := by decide +kernel
theorem dX12_mayHave_120 : decode cX12_mayHave 120 = .ok (.aload_n 0, 1) := by decide +kernel
theorem dX12_mayHave_121 : decode cX12_mayHave 121 = .ok (.getfield 19, 3) := by decide +kernel
theorem dX12_mayHave_124 : decode cX12_mayHave 124 = .ok (.iload_n 3, 1) := by decide +kernel
theorem dX12_mayHave_125 : decode cX12_mayHave 125 = .ok (.iconst 1, 1) := by decide +kernel
theorem dX12_mayHave_126 : decode cX12_mayHave 126 = .ok (.invokestatic 107, 3) := by decide +kernel
theorem dX12_mayHave_129 : decode cX12_mayHave 129 = .ok (.iload_n 1, 1) := by decide +kernel
theorem dX12_mayHave_130 : decode cX12_mayHave 130 = .ok (.if_icmp .ge 7, 3) := by decide +kernel
theorem dX12_mayHave_133 : decode cX12_mayHave 133 = .ok (.iconst 1, 1) := by decide +kernel
theorem dX12_mayHave_134 : decode cX12_mayHave 134 = .ok (.goto 4, 3) := by decide +kernel
theorem dX12_mayHave_137 : decode cX12_mayHave 137 = .ok (.iconst 0, 1) := by decide +kernel
theorem dX12_mayHave_138 : decode cX12_mayHave 138 = .ok (.istore_n 2, 1) := by decide +kernel
theorem dX12_mayHave_139 : decode cX12_mayHave 139 = .ok (.iinc 3 1, 3) := by decide +kernel
theorem dX12_mayHave_142 : decode cX12_mayHave 142 = .ok (.goto (-49), 3) := by decide +kernel
theorem dX12_mayHave_145 : decode cX12_mayHave 145 = .ok (.iload_n 2, 1) := by decide +kernel
theorem dX12_mayHave_146 : decode cX12_mayHave 146 = .ok (.ireturn, 1) := by decide +kernel
theorem dX12_comes_0 : decode cX12_comes 0 = .ok (.aload_n 0, 1) := by decide +kernel
theorem dX12_comes_1 : decode cX12_comes 1 = .ok (.getfield 40, 3) := by decide +kernel
theorem dX12_comes_4 : decode cX12_comes 4 = .ok (.iconst 0, 1) := by decide +kernel
theorem dX12_comes_5 : decode cX12_comes 5 = .ok (.iaload, 1) := by decide +kernel
theorem dX12_comes_6 : decode cX12_comes 6 = .ok (.istore_n 2, 1) := by decide +kernel
theorem dX12_comes_7 : decode cX12_comes 7 = .ok (.iload_n 1, 1) := by decide +kernel
theorem dX12_comes_8 : decode cX12_comes 8 = .ok (.bipush 110, 2) := by decide +kernel
theorem dX12_comes_10 : decode cX12_comes 10 = .ok (.if_icmp .ne 22, 3) := by decide +kernel
theorem dX12_comes_13 : decode cX12_comes 13 = .ok (.aload_n 0, 1) := by decide +kernel
theorem dX12_comes_14 : decode cX12_comes 14 = .ok (.iload_n 2, 1) := by decide +kernel
theorem dX12_comes_15 : decode cX12_comes 15 = .ok (.invokevirtual 110, 3) := by decide +kernel
theorem dX12_comes_18 : decode cX12_comes 18 = .ok (.ifCond .ne 5, 3) := by decide +kernel
theorem dX12_comes_21 : decode cX12_comes 21 = .ok (.iconst 0, 1) := by decide +kernel
theorem dX12_comes_22 : decode cX12_comes 22 = .ok (.ireturn, 1) := by decide +kernel
theorem dX12_comes_23 : decode cX12_comes 23 = .ok (.aload_n 0, 1) := by decide +kernel
theorem dX12_comes_24 : decode cX12_comes 24 = .ok (.getfield 19, 3) := by decide +kernel
theorem dX12_comes_27 : decode cX12_comes 27 = .ok (.iconst 0, 1) := by decide +kernel
theorem dX12_comes_28 : decode cX12_comes 28 = .ok (.iload_n 2, 1) := by decide +kernel
theorem dX12_comes_29 : decode cX12_comes 29 = .ok (.iastore, 1) := by decide +kernel
theorem dX12_comes_30 : decode cX12_comes 30 = .ok (.iconst 1, 1) := by decide +kernel
theorem dX12_comes_31 : decode cX12_comes 31 = .ok (.ireturn, 1) := by decide +kernel
theorem dX12_comes_32 : decode cX12_comes 32 = .ok (.iload_n 1, 1) := by decide +kernel
theorem dX12_comes_33 : decode cX12_comes 33 = .ok (.bipush 98, 2) := by decide +kernel
theorem dX12_comes_35 : decode cX12_comes 35 = .ok (.if_icmp .ne 41, 3) := by decide +kernel
theorem dX12_comes_38 : decode cX12_comes 38 = .ok (.aload_n 0, 1) := by decide +kernel
theorem dX12_comes_39 : decode cX12_comes 39 = .ok (.getfield 19, 3) := by decide +kernel
theorem dX12_comes_42 : decode cX12_comes 42 = .ok (.iconst 2, 1) := by decide +kernel
theorem dX12_comes_43 : decode cX12_comes 43 = .ok (.iload_n 2, 1) := by decide +kernel
theorem dX12_comes_44 : decode cX12_comes 44 = .ok (.iastore, 1) := by decide +kernel
theorem dX12_comes_45 : decode cX12_comes 45 = .ok (.iload_n 2, 1) := by decide +kernel
theorem dX12_comes_46 : decode cX12_comes 46 = .ok (.i2l, 1) := by decide +kernel
theorem dX12_comes_47 : decode cX12_comes 47 = .ok (.lconst 1, 1) := by decide +kernel
theorem dX12_comes_48 : decode cX12_comes 48 = .ok (.ldc2_w 113, 3) := by decide +kernel
theorem dX12_comes_51 : decode cX12_comes 51 = .ok (.invokestatic 51, 3) := by decide +kernel
theorem dX12_comes_54 : decode cX12_comes 54 = .ok (.ifCond .eq 20, 3) := by decide +kernel
theorem dX12_comes_57 : decode cX12_comes 57 = .ok (.iload_n 2, 1) := by decide +kernel
theorem dX12_comes_58 : decode cX12_comes 58 = .ok (.aload_n 0, 1) := by decide +kernel
theorem dX12_comes_59 : decode cX12_comes 59 = .ok (.getfield 19, 3) := by decide +kernel
theorem dX12_comes_62 : decode cX12_comes 62 = .ok (.iconst 0, 1) := by decide +kernel
theorem dX12_comes_63 : decode cX12_comes 63 = .ok (.iconst 3, 1) := by decide +kernel
theorem dX12_comes_64 : decode cX12_comes 64 = .ok (.invokestatic 103, 3) := by decide +kernel
theorem dX12_comes_67 : decode cX12_comes 67 = .ok (.if_icmp .lt 7, 3) := by decide +kernel
theorem dX12_comes_70 : decode cX12_comes 70 = .ok (.iconst 1, 1) := by decide +kernel
theorem dX12_comes_71 : decode cX12_comes 71 = .ok (.goto 4, 3) := by decide +kernel
theorem dX12_comes_74 : decode cX12_comes 74 = .ok (.iconst 0, 1) := by decide +kernel
theorem dX12_comes_75 : decode cX12_comes 75 = .ok (.ireturn, 1) := by decide +kernel
theorem dX12_comes_76 : decode cX12_comes 76 = .ok (.aload_n 0, 1) := by decide +kernel
theorem dX12_comes_77 : decode cX12_comes 77 = .ok (.getfield 40, 3) := by decide +kernel
theorem dX12_comes_80 : decode cX12_comes 80 = .ok (.iconst 1, 1) := by decide +kernel
theorem dX12_comes_81 : decode cX12_comes 81 = .ok (.iaload, 1) := by decide +kernel
theorem dX12_comes_82 : decode cX12_comes 82 = .ok (.istore_n 3, 1) := by decide +kernel
theorem dX12_comes_83 : decode cX12_comes 83 = .ok (.iload_n 2, 1) := by decide +kernel
theorem dX12_comes_84 : decode cX12_comes 84 = .ok (.aload_n 0, 1) := by decide +kernel
theorem dX12_comes_85 : decode cX12_comes 85 = .ok (.getfield 19, 3) := by decide +kernel
theorem dX12_comes_88 : decode cX12_comes 88 = .ok (.iconst 0, 1) := by decide +kernel
theorem dX12_comes_89 : decode cX12_comes 89 = .ok (.iaload, 1) := by decide +kernel
theorem dX12_comes_90 : decode cX12_comes 90 = .ok (.if_icmp .ge 18, 3) := by decide +kernel
theorem dX12_comes_93 : decode cX12_comes 93 = .ok (.iload_n 3, 1) := by decide +kernel
theorem dX12_comes_94 : decode cX12_comes 94 = .ok (.aload_n 0, 1) := by decide +kernel
theorem dX12_comes_95 : decode cX12_comes 95 = .ok (.getfield 19, 3) := by decide +kernel
theorem dX12_comes_98 : decode cX12_comes 98 = .ok (.iconst 0, 1) := by decide +kernel
theorem dX12_comes_99 : decode cX12_comes 99 = .ok (.iaload, 1) := by decide +kernel
theorem dX12_comes_100 : decode cX12_comes 100 = .ok (.if_icmp .ge 8, 3) := by decide +kernel
theorem dX12_comes_103 : decode cX12_comes 103 = .ok (.iload_n 2, 1) := by decide +kernel
theorem dX12_comes_104 : decode cX12_comes 104 = .ok (.iload_n 3, 1) := by decide +kernel
theorem dX12_comes_105 : decode cX12_comes 105 = .ok (.if_icmp .ne 5, 3) := by decide +kernel
theorem dX12_comes_108 : decode cX12_comes 108 = .ok (.iconst 0, 1) := by decide +kernel
theorem dX12_comes_109 : decode cX12_comes 109 = .ok (.ireturn, 1) := by decide +kernel
theorem dX12_comes_110 : decode cX12_comes 110 = .ok (.iload_n 1, 1) := by decide +kernel
theorem dX12_comes_111 : decode cX12_comes 111 = .ok (.bipush 109, 2) := by decide +kernel
theorem dX12_comes_113 : decode cX12_comes 113 = .ok (.if_icmp .ne 56, 3) := by decide +kernel
theorem dX12_comes_116 : decode cX12_comes 116 = .ok (.aload_n 0, 1) := by decide +kernel
theorem dX12_comes_117 : decode cX12_comes 117 = .ok (.getfield 19, 3) := by decide +kernel
theorem dX12_comes_120 : decode cX12_comes 120 = .ok (.bipush 9, 2) := by decide +kernel
theorem dX12_comes_122 : decode cX12_comes 122 = .ok (.iconst 4, 1) := by decide +kernel
theorem dX12_comes_123 : decode cX12_comes 123 = .ok (.iload_n 2, 1) := by decide +kernel
theorem dX12_comes_124 : decode cX12_comes 124 = .ok (.imul, 1) := by decide +kernel
theorem dX12_comes_125 : decode cX12_comes 125 = .ok (.iadd, 1) := by decide +kernel
theorem dX12_comes_126 : decode cX12_comes 126 = .ok (.iload_n 3, 1) := by decide +kernel
theorem dX12_comes_127 : decode cX12_comes 127 = .ok (.iadd, 1) := by decide +kernel
theorem dX12_comes_128 : decode cX12_comes 128 = .ok (.aload_n 0, 1) := by decide +kernel
theorem dX12_comes_129 : decode cX12_comes 129 = .ok (.getfield 40, 3) := by decide +kernel
theorem dX12_comes_132 : decode cX12_comes 132 = .ok (.iconst 2, 1) := by decide +kernel
theorem dX12_comes_133 : decode cX12_comes 133 = .ok (.iaload, 1) := by decide +kernel
theorem dX12_comes_134 : decode cX12_comes 134 = .ok (.iastore, 1) := by decide +kernel
theorem dX12_comes_135 : decode cX12_comes 135 = .ok (.aload_n 0, 1) := by decide +kernel
theorem dX12_comes_136 : decode cX12_comes 136 = .ok (.getfield 19, 3) := by decide +kernel
theorem dX12_comes_139 : decode cX12_comes 139 = .ok (.bipush 9, 2) := by decide +kernel
theorem dX12_comes_141 : decode cX12_comes 141 = .ok (.iconst 4, 1) := by decide +kernel
theorem dX12_comes_142 : decode cX12_comes 142 = .ok (.iload_n 3, 1) := by decide +kernel
theorem dX12_comes_143 : decode cX12_comes 143 = .ok (.imul, 1) := by decide +kernel
theorem dX12_comes_144 : decode cX12_comes 144 = .ok (.iadd, 1) := by decide +kernel
theorem dX12_comes_145 : decode cX12_comes 145 = .ok (.iload_n 2, 1) := by decide +kernel
theorem dX12_comes_146 : decode cX12_comes 146 = .ok (.iadd, 1) := by decide +kernel
theorem dX12_comes_147 : decode cX12_comes 147 = .ok (.aload_n 0, 1) := by decide +kernel
theorem dX12_comes_148 : decode cX12_comes 148 = .ok (.getfield 40, 3) := by decide +kernel
theorem dX12_comes_151 : decode cX12_comes 151 = .ok (.iconst 2, 1) := by decide +kernel
theorem dX12_comes_152 : decode cX12_comes 152 = .ok (.iaload, 1) := by decide +kernel
theorem dX12_comes_153 : decode cX12_comes 153 = .ok (.iastore, 1) := by decide +kernel
theorem dX12_comes_154 : decode cX12_comes 154 = .ok (.aload_n 0, 1) := by decide +kernel
theorem dX12_comes_155 : decode cX12_comes 155 = .ok (.getfield 40, 3) := by decide +kernel
theorem dX12_comes_158 : decode cX12_comes 158 = .ok (.iconst 2, 1) := by decide +kernel
theorem dX12_comes_159 : decode cX12_comes 159 = .ok (.iaload, 1) := by decide +kernel
theorem dX12_comes_160 : decode cX12_comes 160 = .ok (.ifCond .le 7, 3) := by decide +kernel
theorem dX12_comes_163 : decode cX12_comes 163 = .ok (.iconst 1, 1) := by decide +kernel
theorem dX12_comes_164 : decode cX12_comes 164 = .ok (.goto 4, 3) := by decide +kernel
theorem dX12_comes_167 : decode cX12_comes 167 = .ok (.iconst 0, 1) := by decide +kernel
theorem dX12_comes_168 : decode cX12_comes 168 = .ok (.ireturn, 1) := by decide +kernel
theorem dX12_comes_169 : decode cX12_comes 169 = .ok (.aload_n 0, 1) := by decide +kernel
theorem dX12_comes_170 : decode cX12_comes 170 = .ok (.getfield 40, 3) := by decide +kernel
theorem dX12_comes_173 : decode cX12_comes 173 = .ok (.iconst 2, 1) := by decide +kernel
theorem dX12_comes_174 : decode cX12_comes 174 = .ok (.iaload, 1) := by decide +kernel
theorem dX12_comes_175 : decode cX12_comes 175 = .ok (.bipush 100, 2) := by decide +kernel
theorem dX12_comes_177 : decode cX12_comes 177 = .ok (.if_icmp .gt 41, 3) := by decide +kernel
theorem dX12_comes_180 : decode cX12_comes 180 = .ok (.aload_n 0, 1) := by decide +kernel
theorem dX12_comes_181 : decode cX12_comes 181 = .ok (.getfield 40, 3) := by decide +kernel
theorem dX12_comes_184 : decode cX12_comes 184 = .ok (.iconst 3, 1) := by decide +kernel
theorem dX12_comes_185 : decode cX12_comes 185 = .ok (.iaload, 1) := by decide +kernel
theorem dX12_comes_186 : decode cX12_comes 186 = .ok (.i2l, 1) := by decide +kernel
theorem dX12_comes_187 : decode cX12_comes 187 = .ok (.lconst 1, 1) := by decide +kernel
theorem dX12_comes_188 : decode cX12_comes 188 = .ok (.ldc2_w 115, 3) := by decide +kernel
theorem dX12_comes_191 : decode cX12_comes 191 = .ok (.invokestatic 51, 3) := by decide +kernel
theorem dX12_comes_194 : decode cX12_comes 194 = .ok (.ifCond .eq 24, 3) := by decide +kernel
theorem dX12_comes_197 : decode cX12_comes 197 = .ok (.aload_n 0, 1) := by decide +kernel
theorem dX12_comes_198 : decode cX12_comes 198 = .ok (.getfield 40, 3) := by decide +kernel
theorem dX12_comes_201 : decode cX12_comes 201 = .ok (.iconst 4, 1) := by decide +kernel
theorem dX12_comes_202 : decode cX12_comes 202 = .ok (.iaload, 1) := by decide +kernel
theorem dX12_comes_203 : decode cX12_comes 203 = .ok (.bipush 99, 2) := by decide +kernel
theorem dX12_comes_205 : decode cX12_comes 205 = .ok (.if_icmp .gt 13, 3) := by decide +kernel
theorem dX12_comes_208 : decode cX12_comes 208 = .ok (.aload_n 0, 1) := by decide +kernel
theorem dX12_comes_209 : decode cX12_comes 209 = .ok (.getfield 19, 3) := by decide +kernel
theorem dX12_comes_212 : decode cX12_comes 212 = .ok (.iconst 1, 1) := by decide +kernel
theorem dX12_comes_213 : decode cX12_comes 213 = .ok (.iaload, 1) := by decide +kernel
theorem dX12_comes_214 : decode cX12_comes 214 = .ok (.iconst 5, 1) := by decide +kernel
theorem dX12_comes_215 : decode cX12_comes 215 = .ok (.if_icmp .ne 5, 3) := by decide +kernel
theorem dX12_comes_218 : decode cX12_comes 218 = .ok (.iconst 0, 1) := by decide +kernel
theorem dX12_comes_219 : decode cX12_comes 219 = .ok (.ireturn, 1) := by decide +kernel
theorem dX12_comes_220 : decode cX12_comes 220 = .ok (.iconst 0, 1) := by decide +kernel
theorem dX12_comes_221 : decode cX12_comes 221 = .ok (.istore 4, 2) := by decide +kernel
theorem dX12_comes_223 : decode cX12_comes 223 = .ok (.iload 4, 2) := by decide +kernel
theorem dX12_comes_225 : decode cX12_comes 225 = .ok (.iconst 5, 1) := by decide +kernel
theorem dX12_comes_226 : decode cX12_comes 226 = .ok (.if_icmp .ge 35, 3) := by decide +kernel
theorem dX12_comes_229 : decode cX12_comes 229 = .ok (.aload_n 0, 1) := by decide +kernel
theorem dX12_comes_230 : decode cX12_comes 230 = .ok (.getfield 19, 3) := by decide +kernel
theorem dX12_comes_233 : decode cX12_comes 233 = .ok (.bipush 25, 2) := by decide +kernel
theorem dX12_comes_235 : decode cX12_comes 235 = .ok (.iconst 5, 1) := by decide +kernel
theorem dX12_comes_236 : decode cX12_comes 236 = .ok (.aload_n 0, 1) := by decide +kernel
theorem dX12_comes_237 : decode cX12_comes 237 = .ok (.getfield 19, 3) := by decide +kernel
theorem dX12_comes_240 : decode cX12_comes 240 = .ok (.iconst 1, 1) := by decide +kernel
theorem dX12_comes_241 : decode cX12_comes 241 = .ok (.iaload, 1) := by decide +kernel
theorem dX12_comes_242 : decode cX12_comes 242 = .ok (.imul, 1) := by decide +kernel
theorem dX12_comes_243 : decode cX12_comes 243 = .ok (.iadd, 1) := by decide +kernel
theorem dX12_comes_244 : decode cX12_comes 244 = .ok (.iload 4, 2) := by decide +kernel
theorem dX12_comes_246 : decode cX12_comes 246 = .ok (.iadd, 1) := by decide +kernel
theorem dX12_comes_247 : decode cX12_comes 247 = .ok (.aload_n 0, 1) := by decide +kernel
theorem dX12_comes_248 : decode cX12_comes 248 = .ok (.getfield 40, 3) := by decide +kernel
theorem dX12_comes_251 : decode cX12_comes 251 = .ok (.iload 4, 2) := by decide +kernel
theorem dX12_comes_253 : decode cX12_comes 253 = .ok (.iaload, 1) := by decide +kernel
theorem dX12_comes_254 : decode cX12_comes 254 = .ok (.iastore, 1) := by decide +kernel
theorem dX12_comes_255 : decode cX12_comes 255 = .ok (.iinc 4 1, 3) := by decide +kernel
theorem dX12_comes_258 : decode cX12_comes 258 = .ok (.goto (-35), 3) := by decide +kernel
theorem dX12_comes_261 : decode cX12_comes 261 = .ok (.aload_n 0, 1) := by decide +kernel
theorem dX12_comes_262 : decode cX12_comes 262 = .ok (.getfield 19, 3) := by decide +kernel
theorem dX12_comes_265 : decode cX12_comes 265 = .ok (.iconst 1, 1) := by decide +kernel
theorem dX12_comes_266 : decode cX12_comes 266 = .ok (.dup2, 1) := by decide +kernel
theorem dX12_comes_267 : decode cX12_comes 267 = .ok (.iaload, 1) := by decide +kernel
theorem dX12_comes_268 : decode cX12_comes 268 = .ok (.iconst 1, 1) := by decide +kernel
theorem dX12_comes_269 : decode cX12_comes 269 = .ok (.iadd, 1) := by decide +kernel
theorem dX12_comes_270 : decode cX12_comes 270 = .ok (.iastore, 1) := by decide +kernel
theorem dX12_comes_271 : decode cX12_comes 271 = .ok (.iconst 1, 1) := by decide +kernel
theorem dX12_comes_272 : decode cX12_comes 272 = .ok (.ireturn, 1) := by decide +kernel
theorem dX12_wrongRow_0 : decode cX12_wrongRow 0 = .ok (.iload_n 1, 1) := by decide +kernel
theorem dX12_wrongRow_1 : decode cX12_wrongRow 1 = .ok (.invokestatic 117, 3) := by decide +kernel
theorem dX12_wrongRow_4 : decode cX12_wrongRow 4 = .ok (.ifCond .ne 7, 3) := by decide +kernel
theorem dX12_wrongRow_7 : decode cX12_wrongRow 7 = .ok (.iconst (-1), 1) := by decide +kernel
theorem dX12_wrongRow_8 : decode cX12_wrongRow 8 = .ok (.goto 47, 3) := by decide +kernel
theorem dX12_wrongRow_11 : decode cX12_wrongRow 11 = .ok (.aload_n 0, 1) := by decide +kernel
theorem dX12_wrongRow_12 : decode cX12_wrongRow 12 = .ok (.getfield 22, 3) := by decide +kernel
theorem dX12_wrongRow_15 : decode cX12_wrongRow 15 = .ok (.iload_n 1, 1) := by decide +kernel
theorem dX12_wrongRow_16 : decode cX12_wrongRow 16 = .ok (.iaload, 1) := by decide +kernel
theorem dX12_wrongRow_17 : decode cX12_wrongRow 17 = .ok (.ifCond .ne 8, 3) := by decide +kernel
theorem dX12_wrongRow_20 : decode cX12_wrongRow 20 = .ok (.bipush (-11), 2) := by decide +kernel
theorem dX12_wrongRow_22 : decode cX12_wrongRow 22 = .ok (.goto 33, 3) := by decide +kernel
theorem dX12_wrongRow_25 : decode cX12_wrongRow 25 = .ok (.aload_n 0, 1) := by decide +kernel
theorem dX12_wrongRow_26 : decode cX12_wrongRow 26 = .ok (.getfield 22, 3) := by decide +kernel
theorem dX12_wrongRow_29 : decode cX12_wrongRow 29 = .ok (.iload_n 1, 1) := by decide +kernel
theorem dX12_wrongRow_30 : decode cX12_wrongRow 30 = .ok (.iaload, 1) := by decide +kernel
theorem dX12_wrongRow_31 : decode cX12_wrongRow 31 = .ok (.iconst 2, 1) := by decide +kernel
theorem dX12_wrongRow_32 : decode cX12_wrongRow 32 = .ok (.if_icmp .ne 17, 3) := by decide +kernel
theorem dX12_wrongRow_35 : decode cX12_wrongRow 35 = .ok (.iload_n 2, 1) := by decide +kernel
theorem dX12_wrongRow_36 : decode cX12_wrongRow 36 = .ok (.ifCond .lt 18, 3) := by decide +kernel
theorem dX12_wrongRow_39 : decode cX12_wrongRow 39 = .ok (.aload_n 0, 1) := by decide +kernel
theorem dX12_wrongRow_40 : decode cX12_wrongRow 40 = .ok (.getfield 25, 3) := by decide +kernel
theorem dX12_wrongRow_43 : decode cX12_wrongRow 43 = .ok (.iload_n 1, 1) := by decide +kernel
theorem dX12_wrongRow_44 : decode cX12_wrongRow 44 = .ok (.iaload, 1) := by decide +kernel
theorem dX12_wrongRow_45 : decode cX12_wrongRow 45 = .ok (.iload_n 2, 1) := by decide +kernel
theorem dX12_wrongRow_46 : decode cX12_wrongRow 46 = .ok (.if_icmp .eq 8, 3) := by decide +kernel
theorem dX12_wrongRow_49 : decode cX12_wrongRow 49 = .ok (.bipush (-12), 2) := by decide +kernel
theorem dX12_wrongRow_51 : decode cX12_wrongRow 51 = .ok (.goto 4, 3) := by decide +kernel
theorem dX12_wrongRow_54 : decode cX12_wrongRow 54 = .ok (.iconst 0, 1) := by decide +kernel
theorem dX12_wrongRow_55 : decode cX12_wrongRow 55 = .ok (.ireturn, 1) := by decide +kernel
theorem dX12_river_0 : decode cX12_river 0 = .ok (.aload_n 0, 1) := by decide +kernel
theorem dX12_river_1 : decode cX12_river 1 = .ok (.iload_n 1, 1) := by decide +kernel
theorem dX12_river_2 : decode cX12_river 2 = .ok (.iconst 0, 1) := by decide +kernel
theorem dX12_river_3 : decode cX12_river 3 = .ok (.invokevirtual 120, 3) := by decide +kernel
theorem dX12_river_6 : decode cX12_river 6 = .ok (.istore_n 2, 1) := by decide +kernel
theorem dX12_river_7 : decode cX12_river 7 = .ok (.iload_n 2, 1) := by decide +kernel
theorem dX12_river_8 : decode cX12_river 8 = .ok (.ifCond .eq 5, 3) := by decide +kernel
theorem dX12_river_11 : decode cX12_river 11 = .ok (.iload_n 2, 1) := by decide +kernel
theorem dX12_river_12 : decode cX12_river 12 = .ok (.ireturn, 1) := by decide +kernel
theorem dX12_river_13 : decode cX12_river 13 = .ok (.aload_n 0, 1) := by decide +kernel
theorem dX12_river_14 : decode cX12_river 14 = .ok (.bipush 100, 2) := by decide +kernel
theorem dX12_river_16 : decode cX12_river 16 = .ok (.iload_n 1, 1) := by decide +kernel
theorem dX12_river_17 : decode cX12_river 17 = .ok (.imul, 1) := by decide +kernel
theorem dX12_river_18 : decode cX12_river 18 = .ok (.putfield 67, 3) := by decide +kernel
theorem dX12_river_21 : decode cX12_river 21 = .ok (.aload_n 0, 1) := by decide +kernel
theorem dX12_river_22 : decode cX12_river 22 = .ok (.aload_n 0, 1) := by decide +kernel
theorem dX12_river_23 : decode cX12_river 23 = .ok (.getfield 28, 3) := by decide +kernel
theorem dX12_river_26 : decode cX12_river 26 = .ok (.iload_n 1, 1) := by decide +kernel
theorem dX12_river_27 : decode cX12_river 27 = .ok (.iaload, 1) := by decide +kernel
theorem dX12_river_28 : decode cX12_river 28 = .ok (.putfield 64, 3) := by decide +kernel
theorem dX12_river_31 : decode cX12_river 31 = .ok (.aload_n 0, 1) := by decide +kernel
theorem dX12_river_32 : decode cX12_river 32 = .ok (.iconst 0, 1) := by decide +kernel
theorem dX12_river_33 : decode cX12_river 33 = .ok (.putfield 61, 3) := by decide +kernel
theorem dX12_river_36 : decode cX12_river 36 = .ok (.iconst 0, 1) := by decide +kernel
theorem dX12_river_37 : decode cX12_river 37 = .ok (.istore_n 3, 1) := by decide +kernel
theorem dX12_river_38 : decode cX12_river 38 = .ok (.aload_n 0, 1) := by decide +kernel
theorem dX12_river_39 : decode cX12_river 39 = .ok (.invokevirtual 124, 3) := by decide +kernel
theorem dX12_river_42 : decode cX12_river 42 = .ok (.ifCond .ne 12, 3) := by decide +kernel
theorem dX12_river_45 : decode cX12_river 45 = .ok (.sipush (-1000), 3) := by decide +kernel
theorem dX12_river_48 : decode cX12_river 48 = .ok (.aload_n 0, 1) := by decide +kernel
theorem dX12_river_49 : decode cX12_river 49 = .ok (.getfield 61, 3) := by decide +kernel
theorem dX12_river_52 : decode cX12_river 52 = .ok (.isub, 1) := by decide +kernel
theorem dX12_river_53 : decode cX12_river 53 = .ok (.ireturn, 1) := by decide +kernel
theorem dX12_river_54 : decode cX12_river 54 = .ok (.iinc 3 1, 3) := by decide +kernel
theorem dX12_river_57 : decode cX12_river 57 = .ok (.aload_n 0, 1) := by decide +kernel
theorem dX12_river_58 : decode cX12_river 58 = .ok (.getfield 61, 3) := by decide +kernel
theorem dX12_river_61 : decode cX12_river 61 = .ok (.aload_n 0, 1) := by decide +kernel
theorem dX12_river_62 : decode cX12_river 62 = .ok (.getfield 64, 3) := by decide +kernel
theorem dX12_river_65 : decode cX12_river 65 = .ok (.if_icmp .lt (-27), 3) := by decide +kernel
theorem dX12_river_68 : decode cX12_river 68 = .ok (.iconst 0, 1) := by decide +kernel
theorem dX12_river_69 : decode cX12_river 69 = .ok (.istore 4, 2) := by decide +kernel
theorem dX12_river_71 : decode cX12_river 71 = .ok (.iload 4, 2) := by decide +kernel
theorem dX12_river_73 : decode cX12_river 73 = .ok (.sipush 174, 3) := by decide +kernel
theorem dX12_river_76 : decode cX12_river 76 = .ok (.if_icmp .ge 23, 3) := by decide +kernel
theorem dX12_river_79 : decode cX12_river 79 = .ok (.aload_n 0, 1) := by decide +kernel
theorem dX12_river_80 : decode cX12_river 80 = .ok (.getfield 19, 3) := by decide +kernel
theorem dX12_river_83 : decode cX12_river 83 = .ok (.iload 4, 2) := by decide +kernel
theorem dX12_river_85 : decode cX12_river 85 = .ok (.aload_n 0, 1) := by decide +kernel
theorem dX12_river_86 : decode cX12_river 86 = .ok (.getfield 9, 3) := by decide +kernel
theorem dX12_river_89 : decode cX12_river 89 = .ok (.iload 4, 2) := by decide +kernel
theorem dX12_river_91 : decode cX12_river 91 = .ok (.iaload, 1) := by decide +kernel
theorem dX12_river_92 : decode cX12_river 92 = .ok (.iastore, 1) := by decide +kernel
theorem dX12_river_93 : decode cX12_river 93 = .ok (.iinc 4 1, 3) := by decide +kernel
theorem dX12_river_96 : decode cX12_river 96 = .ok (.goto (-25), 3) := by decide +kernel
theorem dX12_river_99 : decode cX12_river 99 = .ok (.aload_n 0, 1) := by decide +kernel
theorem dX12_river_100 : decode cX12_river 100 = .ok (.iconst 0, 1) := by decide +kernel
theorem dX12_river_101 : decode cX12_river 101 = .ok (.putfield 61, 3) := by decide +kernel
theorem dX12_river_104 : decode cX12_river 104 = .ok (.aload_n 0, 1) := by decide +kernel
theorem dX12_river_105 : decode cX12_river 105 = .ok (.getfield 61, 3) := by decide +kernel
theorem dX12_river_108 : decode cX12_river 108 = .ok (.aload_n 0, 1) := by decide +kernel
theorem dX12_river_109 : decode cX12_river 109 = .ok (.getfield 64, 3) := by decide +kernel
theorem dX12_river_112 : decode cX12_river 112 = .ok (.if_icmp .ge 40, 3) := by decide +kernel
theorem dX12_river_115 : decode cX12_river 115 = .ok (.aload_n 0, 1) := by decide +kernel
theorem dX12_river_116 : decode cX12_river 116 = .ok (.getfield 61, 3) := by decide +kernel
theorem dX12_river_119 : decode cX12_river 119 = .ok (.istore 4, 2) := by decide +kernel
theorem dX12_river_121 : decode cX12_river 121 = .ok (.aload_n 0, 1) := by decide +kernel
theorem dX12_river_122 : decode cX12_river 122 = .ok (.invokevirtual 70, 3) := by decide +kernel
theorem dX12_river_125 : decode cX12_river 125 = .ok (.istore 5, 2) := by decide +kernel
theorem dX12_river_127 : decode cX12_river 127 = .ok (.aload_n 0, 1) := by decide +kernel
theorem dX12_river_128 : decode cX12_river 128 = .ok (.invokevirtual 124, 3) := by decide +kernel
theorem dX12_river_131 : decode cX12_river 131 = .ok (.istore 6, 2) := by decide +kernel
theorem dX12_river_133 : decode cX12_river 133 = .ok (.aload_n 0, 1) := by decide +kernel
theorem dX12_river_134 : decode cX12_river 134 = .ok (.iload 5, 2) := by decide +kernel
theorem dX12_river_136 : decode cX12_river 136 = .ok (.invokevirtual 127, 3) := by decide +kernel
theorem dX12_river_139 : decode cX12_river 139 = .ok (.ifCond .ne 10, 3) := by decide +kernel
theorem dX12_river_142 : decode cX12_river 142 = .ok (.sipush (-2000), 3) := by decide +kernel
theorem dX12_river_145 : decode cX12_river 145 = .ok (.iload 4, 2) := by decide +kernel
theorem dX12_river_147 : decode cX12_river 147 = .ok (.isub, 1) := by decide +kernel
theorem dX12_river_148 : decode cX12_river 148 = .ok (.ireturn, 1) := by decide +kernel
theorem dX12_river_149 : decode cX12_river 149 = .ok (.goto (-45), 3) := by decide +kernel
theorem dX12_river_152 : decode cX12_river 152 = .ok (.iconst 0, 1) := by decide +kernel
theorem dX12_river_153 : decode cX12_river 153 = .ok (.istore 4, 2) := by decide +kernel
theorem dX12_river_155 : decode cX12_river 155 = .ok (.iload 4, 2) := by decide +kernel
theorem dX12_river_157 : decode cX12_river 157 = .ok (.sipush 174, 3) := by decide +kernel
theorem dX12_river_160 : decode cX12_river 160 = .ok (.if_icmp .ge 23, 3) := by decide +kernel
theorem dX12_river_163 : decode cX12_river 163 = .ok (.aload_n 0, 1) := by decide +kernel
theorem dX12_river_164 : decode cX12_river 164 = .ok (.getfield 9, 3) := by decide +kernel
theorem dX12_river_167 : decode cX12_river 167 = .ok (.iload 4, 2) := by decide +kernel
theorem dX12_river_169 : decode cX12_river 169 = .ok (.aload_n 0, 1) := by decide +kernel
theorem dX12_river_170 : decode cX12_river 170 = .ok (.getfield 19, 3) := by decide +kernel
theorem dX12_river_173 : decode cX12_river 173 = .ok (.iload 4, 2) := by decide +kernel
theorem dX12_river_175 : decode cX12_river 175 = .ok (.iaload, 1) := by decide +kernel
theorem dX12_river_176 : decode cX12_river 176 = .ok (.iastore, 1) := by decide +kernel
theorem dX12_river_177 : decode cX12_river 177 = .ok (.iinc 4 1, 3) := by decide +kernel
theorem dX12_river_180 : decode cX12_river 180 = .ok (.goto (-25), 3) := by decide +kernel
theorem dX12_river_183 : decode cX12_river 183 = .ok (.iload_n 3, 1) := by decide +kernel
theorem dX12_river_184 : decode cX12_river 184 = .ok (.ireturn, 1) := by decide +kernel
theorem dX12_minutes_0 : decode cX12_minutes 0 = .ok (.aload_n 0, 1) := by decide +kernel
theorem dX12_minutes_1 : decode cX12_minutes 1 = .ok (.iload_n 1, 1) := by decide +kernel
theorem dX12_minutes_2 : decode cX12_minutes 2 = .ok (.invokevirtual 130, 3) := by decide +kernel
theorem dX12_minutes_5 : decode cX12_minutes 5 = .ok (.ifCond .eq 32, 3) := by decide +kernel
theorem dX12_minutes_8 : decode cX12_minutes 8 = .ok (.aload_n 0, 1) := by decide +kernel
theorem dX12_minutes_9 : decode cX12_minutes 9 = .ok (.iload_n 2, 1) := by decide +kernel
theorem dX12_minutes_10 : decode cX12_minutes 10 = .ok (.invokevirtual 130, 3) := by decide +kernel
theorem dX12_minutes_13 : decode cX12_minutes 13 = .ok (.ifCond .eq 24, 3) := by decide +kernel
theorem dX12_minutes_16 : decode cX12_minutes 16 = .ok (.iload_n 1, 1) := by decide +kernel
theorem dX12_minutes_17 : decode cX12_minutes 17 = .ok (.iload_n 2, 1) := by decide +kernel
theorem dX12_minutes_18 : decode cX12_minutes 18 = .ok (.if_icmp .eq 19, 3) := by decide +kernel
theorem dX12_minutes_21 : decode cX12_minutes 21 = .ok (.aload_n 0, 1) := by decide +kernel
theorem dX12_minutes_22 : decode cX12_minutes 22 = .ok (.getfield 9, 3) := by decide +kernel
theorem dX12_minutes_25 : decode cX12_minutes 25 = .ok (.bipush 9, 2) := by decide +kernel
theorem dX12_minutes_27 : decode cX12_minutes 27 = .ok (.iconst 4, 1) := by decide +kernel
theorem dX12_minutes_28 : decode cX12_minutes 28 = .ok (.iload_n 1, 1) := by decide +kernel
theorem dX12_minutes_29 : decode cX12_minutes 29 = .ok (.imul, 1) := by decide +kernel
theorem dX12_minutes_30 : decode cX12_minutes 30 = .ok (.iadd, 1) := by decide +kernel
theorem dX12_minutes_31 : decode cX12_minutes 31 = .ok (.iload_n 2, 1) := by decide +kernel
theorem dX12_minutes_32 : decode cX12_minutes 32 = .ok (.iadd, 1) := by decide +kernel
theorem dX12_minutes_33 : decode cX12_minutes 33 = .ok (.iaload, 1) := by decide +kernel
theorem dX12_minutes_34 : decode cX12_minutes 34 = .ok (.goto 4, 3) := by decide +kernel
theorem dX12_minutes_37 : decode cX12_minutes 37 = .ok (.iconst (-1), 1) := by decide +kernel
theorem dX12_minutes_38 : decode cX12_minutes 38 = .ok (.ireturn, 1) := by decide +kernel
theorem dX12_sort_0 : decode cX12_sort 0 = .ok (.aload_n 0, 1) := by decide +kernel
theorem dX12_sort_1 : decode cX12_sort 1 = .ok (.iload_n 1, 1) := by decide +kernel
theorem dX12_sort_2 : decode cX12_sort 2 = .ok (.invokevirtual 133, 3) := by decide +kernel
theorem dX12_sort_5 : decode cX12_sort 5 = .ok (.ifCond .eq 27, 3) := by decide +kernel
theorem dX12_sort_8 : decode cX12_sort 8 = .ok (.iload_n 2, 1) := by decide +kernel
theorem dX12_sort_9 : decode cX12_sort 9 = .ok (.i2l, 1) := by decide +kernel
theorem dX12_sort_10 : decode cX12_sort 10 = .ok (.lconst 0, 1) := by decide +kernel
theorem dX12_sort_11 : decode cX12_sort 11 = .ok (.ldc2_w 97, 3) := by decide +kernel
theorem dX12_sort_14 : decode cX12_sort 14 = .ok (.invokestatic 51, 3) := by decide +kernel
theorem dX12_sort_17 : decode cX12_sort 17 = .ok (.ifCond .eq 15, 3) := by decide +kernel
theorem dX12_sort_20 : decode cX12_sort 20 = .ok (.aload_n 0, 1) := by decide +kernel
theorem dX12_sort_21 : decode cX12_sort 21 = .ok (.getfield 9, 3) := by decide +kernel
theorem dX12_sort_24 : decode cX12_sort 24 = .ok (.iload_n 1, 1) := by decide +kernel
theorem dX12_sort_25 : decode cX12_sort 25 = .ok (.iload_n 2, 1) := by decide +kernel
theorem dX12_sort_26 : decode cX12_sort 26 = .ok (.invokestatic 107, 3) := by decide +kernel
theorem dX12_sort_29 : decode cX12_sort 29 = .ok (.goto 4, 3) := by decide +kernel
theorem dX12_sort_32 : decode cX12_sort 32 = .ok (.iconst (-1), 1) := by decide +kernel
theorem dX12_sort_33 : decode cX12_sort 33 = .ok (.ireturn, 1) := by decide +kernel
theorem dX12_comes__0 : decode cX12_comes_ 0 = .ok (.aload_n 0, 1) := by decide +kernel
theorem dX12_comes__1 : decode cX12_comes_ 1 = .ok (.iload_n 1, 1) := by decide +kernel
theorem dX12_comes__2 : decode cX12_comes_ 2 = .ok (.invokevirtual 133, 3) := by decide +kernel
theorem dX12_comes__5 : decode cX12_comes_ 5 = .ok (.ifCond .eq 31, 3) := by decide +kernel
theorem dX12_comes__8 : decode cX12_comes_ 8 = .ok (.iload_n 2, 1) := by decide +kernel
theorem dX12_comes__9 : decode cX12_comes_ 9 = .ok (.i2l, 1) := by decide +kernel
theorem dX12_comes__10 : decode cX12_comes_ 10 = .ok (.lconst 0, 1) := by decide +kernel
theorem dX12_comes__11 : decode cX12_comes_ 11 = .ok (.ldc2_w 136, 3) := by decide +kernel
theorem dX12_comes__14 : decode cX12_comes_ 14 = .ok (.invokestatic 51, 3) := by decide +kernel
theorem dX12_comes__17 : decode cX12_comes_ 17 = .ok (.ifCond .eq 19, 3) := by decide +kernel
theorem dX12_comes__20 : decode cX12_comes_ 20 = .ok (.aload_n 0, 1) := by decide +kernel
theorem dX12_comes__21 : decode cX12_comes_ 21 = .ok (.bipush 25, 2) := by decide +kernel
theorem dX12_comes__23 : decode cX12_comes_ 23 = .ok (.iconst 5, 1) := by decide +kernel
theorem dX12_comes__24 : decode cX12_comes_ 24 = .ok (.iload_n 1, 1) := by decide +kernel
theorem dX12_comes__25 : decode cX12_comes_ 25 = .ok (.imul, 1) := by decide +kernel
theorem dX12_comes__26 : decode cX12_comes_ 26 = .ok (.iadd, 1) := by decide +kernel
theorem dX12_comes__27 : decode cX12_comes_ 27 = .ok (.iconst 2, 1) := by decide +kernel
theorem dX12_comes__28 : decode cX12_comes_ 28 = .ok (.iadd, 1) := by decide +kernel
theorem dX12_comes__29 : decode cX12_comes_ 29 = .ok (.iload_n 2, 1) := by decide +kernel
theorem dX12_comes__30 : decode cX12_comes_ 30 = .ok (.invokevirtual 138, 3) := by decide +kernel
theorem dX12_comes__33 : decode cX12_comes_ 33 = .ok (.goto 4, 3) := by decide +kernel
theorem dX12_comes__36 : decode cX12_comes_ 36 = .ok (.iconst (-1), 1) := by decide +kernel
theorem dX12_comes__37 : decode cX12_comes_ 37 = .ok (.ireturn, 1) := by decide +kernel
theorem dX12_set_0 : decode cX12_set 0 = .ok (.iload_n 1, 1) := by decide +kernel
theorem dX12_set_1 : decode cX12_set 1 = .ok (.iconst 1, 1) := by decide +kernel
theorem dX12_set_2 : decode cX12_set 2 = .ok (.if_icmp .ne 10, 3) := by decide +kernel
theorem dX12_set_5 : decode cX12_set 5 = .ok (.aload_n 0, 1) := by decide +kernel
theorem dX12_set_6 : decode cX12_set 6 = .ok (.iconst 4, 1) := by decide +kernel
theorem dX12_set_7 : decode cX12_set 7 = .ok (.iload_n 2, 1) := by decide +kernel
theorem dX12_set_8 : decode cX12_set 8 = .ok (.invokevirtual 138, 3) := by decide +kernel
theorem dX12_set_11 : decode cX12_set 11 = .ok (.ireturn, 1) := by decide +kernel
theorem dX12_set_12 : decode cX12_set 12 = .ok (.iload_n 1, 1) := by decide +kernel
theorem dX12_set_13 : decode cX12_set 13 = .ok (.ifCond .ne 15, 3) := by decide +kernel
theorem dX12_set_16 : decode cX12_set 16 = .ok (.iload_n 2, 1) := by decide +kernel
theorem dX12_set_17 : decode cX12_set 17 = .ok (.i2l, 1) := by decide +kernel
theorem dX12_set_18 : decode cX12_set 18 = .ok (.lconst 1, 1) := by decide +kernel
theorem dX12_set_19 : decode cX12_set 19 = .ok (.ldc2_w 113, 3) := by decide +kernel
theorem dX12_set_22 : decode cX12_set 22 = .ok (.invokestatic 51, 3) := by decide +kernel
theorem dX12_set_25 : decode cX12_set 25 = .ok (.ifCond .ne 5, 3) := by decide +kernel
theorem dX12_set_28 : decode cX12_set 28 = .ok (.iconst (-1), 1) := by decide +kernel
theorem dX12_set_29 : decode cX12_set 29 = .ok (.ireturn, 1) := by decide +kernel
theorem dX12_set_30 : decode cX12_set 30 = .ok (.iload_n 2, 1) := by decide +kernel
theorem dX12_set_31 : decode cX12_set 31 = .ok (.aload_n 0, 1) := by decide +kernel
theorem dX12_set_32 : decode cX12_set 32 = .ok (.getfield 9, 3) := by decide +kernel
theorem dX12_set_35 : decode cX12_set 35 = .ok (.iconst 0, 1) := by decide +kernel
theorem dX12_set_36 : decode cX12_set 36 = .ok (.iconst 3, 1) := by decide +kernel
theorem dX12_set_37 : decode cX12_set 37 = .ok (.invokestatic 103, 3) := by decide +kernel
theorem dX12_set_40 : decode cX12_set 40 = .ok (.if_icmp .ge 8, 3) := by decide +kernel
theorem dX12_set_43 : decode cX12_set 43 = .ok (.bipush (-3), 2) := by decide +kernel
theorem dX12_set_45 : decode cX12_set 45 = .ok (.goto 9, 3) := by decide +kernel
theorem dX12_set_48 : decode cX12_set 48 = .ok (.aload_n 0, 1) := by decide +kernel
theorem dX12_set_49 : decode cX12_set 49 = .ok (.iconst 2, 1) := by decide +kernel
theorem dX12_set_50 : decode cX12_set 50 = .ok (.iload_n 2, 1) := by decide +kernel
theorem dX12_set_51 : decode cX12_set 51 = .ok (.invokevirtual 138, 3) := by decide +kernel
theorem dX12_set_54 : decode cX12_set 54 = .ok (.ireturn, 1) := by decide +kernel
theorem dX12_toFirst_0 : decode cX12_toFirst 0 = .ok (.aload_n 0, 1) := by decide +kernel
theorem dX12_toFirst_1 : decode cX12_toFirst 1 = .ok (.iload_n 1, 1) := by decide +kernel
theorem dX12_toFirst_2 : decode cX12_toFirst 2 = .ok (.iconst 3, 1) := by decide +kernel
theorem dX12_toFirst_3 : decode cX12_toFirst 3 = .ok (.invokestatic 103, 3) := by decide +kernel
theorem dX12_toFirst_6 : decode cX12_toFirst 6 = .ok (.ifCond .le 18, 3) := by decide +kernel
theorem dX12_toFirst_9 : decode cX12_toFirst 9 = .ok (.aload_n 0, 1) := by decide +kernel
theorem dX12_toFirst_10 : decode cX12_toFirst 10 = .ok (.aload_n 0, 1) := by decide +kernel
theorem dX12_toFirst_11 : decode cX12_toFirst 11 = .ok (.iload_n 1, 1) := by decide +kernel
theorem dX12_toFirst_12 : decode cX12_toFirst 12 = .ok (.bipush 6, 2) := by decide +kernel
theorem dX12_toFirst_14 : decode cX12_toFirst 14 = .ok (.invokestatic 103, 3) := by decide +kernel
theorem dX12_toFirst_17 : decode cX12_toFirst 17 = .ok (.iconst 1, 1) := by decide +kernel
theorem dX12_toFirst_18 : decode cX12_toFirst 18 = .ok (.invokestatic 107, 3) := by decide +kernel
theorem dX12_toFirst_21 : decode cX12_toFirst 21 = .ok (.goto 5, 3) := by decide +kernel
theorem dX12_toFirst_24 : decode cX12_toFirst 24 = .ok (.bipush (-4), 2) := by decide +kernel
theorem dX12_toFirst_26 : decode cX12_toFirst 26 = .ok (.ireturn, 1) := by decide +kernel
theorem dX12_sinceOf_0 : decode cX12_sinceOf 0 = .ok (.aload_n 0, 1) := by decide +kernel
theorem dX12_sinceOf_1 : decode cX12_sinceOf 1 = .ok (.bipush 74, 2) := by decide +kernel
theorem dX12_sinceOf_3 : decode cX12_sinceOf 3 = .ok (.bipush 25, 2) := by decide +kernel
theorem dX12_sinceOf_5 : decode cX12_sinceOf 5 = .ok (.iload_n 1, 1) := by decide +kernel
theorem dX12_sinceOf_6 : decode cX12_sinceOf 6 = .ok (.imul, 1) := by decide +kernel
theorem dX12_sinceOf_7 : decode cX12_sinceOf 7 = .ok (.iadd, 1) := by decide +kernel
theorem dX12_sinceOf_8 : decode cX12_sinceOf 8 = .ok (.bipush 13, 2) := by decide +kernel
theorem dX12_sinceOf_10 : decode cX12_sinceOf 10 = .ok (.iadd, 1) := by decide +kernel
theorem dX12_sinceOf_11 : decode cX12_sinceOf 11 = .ok (.iload_n 2, 1) := by decide +kernel
theorem dX12_sinceOf_12 : decode cX12_sinceOf 12 = .ok (.iadd, 1) := by decide +kernel
theorem dX12_sinceOf_13 : decode cX12_sinceOf 13 = .ok (.iaload, 1) := by decide +kernel
theorem dX12_sinceOf_14 : decode cX12_sinceOf 14 = .ok (.ireturn, 1) := by decide +kernel
theorem dX12_longest_0 : decode cX12_longest 0 = .ok (.bipush (-4), 2) := by decide +kernel
theorem dX12_longest_2 : decode cX12_longest 2 = .ok (.istore_n 2, 1) := by decide +kernel
theorem dX12_longest_3 : decode cX12_longest 3 = .ok (.aload_n 0, 1) := by decide +kernel
theorem dX12_longest_4 : decode cX12_longest 4 = .ok (.iload_n 1, 1) := by decide +kernel
theorem dX12_longest_5 : decode cX12_longest 5 = .ok (.iconst 5, 1) := by decide +kernel
theorem dX12_longest_6 : decode cX12_longest 6 = .ok (.invokestatic 103, 3) := by decide +kernel
theorem dX12_longest_9 : decode cX12_longest 9 = .ok (.iconst 1, 1) := by decide +kernel
theorem dX12_longest_10 : decode cX12_longest 10 = .ok (.isub, 1) := by decide +kernel
theorem dX12_longest_11 : decode cX12_longest 11 = .ok (.istore_n 3, 1) := by decide +kernel
theorem dX12_longest_12 : decode cX12_longest 12 = .ok (.iconst 0, 1) := by decide +kernel
theorem dX12_longest_13 : decode cX12_longest 13 = .ok (.istore 4, 2) := by decide +kernel
theorem dX12_longest_15 : decode cX12_longest 15 = .ok (.iload 4, 2) := by decide +kernel
theorem dX12_longest_17 : decode cX12_longest 17 = .ok (.aload_n 0, 1) := by decide +kernel
theorem dX12_longest_18 : decode cX12_longest 18 = .ok (.iconst 0, 1) := by decide +kernel
theorem dX12_longest_19 : decode cX12_longest 19 = .ok (.iaload, 1) := by decide +kernel
theorem dX12_longest_20 : decode cX12_longest 20 = .ok (.if_icmp .ge 70, 3) := by decide +kernel
theorem dX12_longest_23 : decode cX12_longest 23 = .ok (.iload 4, 2) := by decide +kernel
theorem dX12_longest_25 : decode cX12_longest 25 = .ok (.aload_n 0, 1) := by decide +kernel
theorem dX12_longest_26 : decode cX12_longest 26 = .ok (.iload_n 1, 1) := by decide +kernel
theorem dX12_longest_27 : decode cX12_longest 27 = .ok (.iconst 0, 1) := by decide +kernel
theorem dX12_longest_28 : decode cX12_longest 28 = .ok (.invokestatic 103, 3) := by decide +kernel
theorem dX12_longest_31 : decode cX12_longest 31 = .ok (.if_icmp .ne 6, 3) := by decide +kernel
theorem dX12_longest_34 : decode cX12_longest 34 = .ok (.goto 50, 3) := by decide +kernel
theorem dX12_longest_37 : decode cX12_longest 37 = .ok (.iconst 0, 1) := by decide +kernel
theorem dX12_longest_38 : decode cX12_longest 38 = .ok (.istore 5, 2) := by decide +kernel
theorem dX12_longest_40 : decode cX12_longest 40 = .ok (.iload 5, 2) := by decide +kernel
theorem dX12_longest_42 : decode cX12_longest 42 = .ok (.aload_n 0, 1) := by decide +kernel
theorem dX12_longest_43 : decode cX12_longest 43 = .ok (.iload 4, 2) := by decide +kernel
theorem dX12_longest_45 : decode cX12_longest 45 = .ok (.invokestatic 99, 3) := by decide +kernel
theorem dX12_longest_48 : decode cX12_longest 48 = .ok (.if_icmp .ge 36, 3) := by decide +kernel
theorem dX12_longest_51 : decode cX12_longest 51 = .ok (.aload_n 0, 1) := by decide +kernel
theorem dX12_longest_52 : decode cX12_longest 52 = .ok (.iload 4, 2) := by decide +kernel
theorem dX12_longest_54 : decode cX12_longest 54 = .ok (.iload 5, 2) := by decide +kernel
theorem dX12_longest_56 : decode cX12_longest 56 = .ok (.invokestatic 141, 3) := by decide +kernel
theorem dX12_longest_59 : decode cX12_longest 59 = .ok (.iload_n 3, 1) := by decide +kernel
theorem dX12_longest_60 : decode cX12_longest 60 = .ok (.if_icmp .gt 6, 3) := by decide +kernel
theorem dX12_longest_63 : decode cX12_longest 63 = .ok (.goto 15, 3) := by decide +kernel
theorem dX12_longest_66 : decode cX12_longest 66 = .ok (.aload_n 0, 1) := by decide +kernel
theorem dX12_longest_67 : decode cX12_longest 67 = .ok (.iload 4, 2) := by decide +kernel
theorem dX12_longest_69 : decode cX12_longest 69 = .ok (.iload 5, 2) := by decide +kernel
theorem dX12_longest_71 : decode cX12_longest 71 = .ok (.invokestatic 141, 3) := by decide +kernel
theorem dX12_longest_74 : decode cX12_longest 74 = .ok (.istore_n 3, 1) := by decide +kernel
theorem dX12_longest_75 : decode cX12_longest 75 = .ok (.iload 4, 2) := by decide +kernel
theorem dX12_longest_77 : decode cX12_longest 77 = .ok (.istore_n 2, 1) := by decide +kernel
theorem dX12_longest_78 : decode cX12_longest 78 = .ok (.iinc 5 1, 3) := by decide +kernel
theorem dX12_longest_81 : decode cX12_longest 81 = .ok (.goto (-41), 3) := by decide +kernel
theorem dX12_longest_84 : decode cX12_longest 84 = .ok (.iinc 4 1, 3) := by decide +kernel
theorem dX12_longest_87 : decode cX12_longest 87 = .ok (.goto (-72), 3) := by decide +kernel
theorem dX12_longest_90 : decode cX12_longest 90 = .ok (.iload_n 2, 1) := by decide +kernel
theorem dX12_longest_91 : decode cX12_longest 91 = .ok (.ireturn, 1) := by decide +kernel
theorem dX12_busiest_0 : decode cX12_busiest 0 = .ok (.bipush (-4), 2) := by decide +kernel
theorem dX12_busiest_2 : decode cX12_busiest 2 = .ok (.istore_n 2, 1) := by decide +kernel
theorem dX12_busiest_3 : decode cX12_busiest 3 = .ok (.aload_n 0, 1) := by decide +kernel
theorem dX12_busiest_4 : decode cX12_busiest 4 = .ok (.iload_n 1, 1) := by decide +kernel
theorem dX12_busiest_5 : decode cX12_busiest 5 = .ok (.iconst 5, 1) := by decide +kernel
theorem dX12_busiest_6 : decode cX12_busiest 6 = .ok (.invokestatic 103, 3) := by decide +kernel
theorem dX12_busiest_9 : decode cX12_busiest 9 = .ok (.istore_n 3, 1) := by decide +kernel
theorem dX12_busiest_10 : decode cX12_busiest 10 = .ok (.iconst 0, 1) := by decide +kernel
theorem dX12_busiest_11 : decode cX12_busiest 11 = .ok (.istore 4, 2) := by decide +kernel
theorem dX12_busiest_13 : decode cX12_busiest 13 = .ok (.iload 4, 2) := by decide +kernel
theorem dX12_busiest_15 : decode cX12_busiest 15 = .ok (.aload_n 0, 1) := by decide +kernel
theorem dX12_busiest_16 : decode cX12_busiest 16 = .ok (.iconst 0, 1) := by decide +kernel
theorem dX12_busiest_17 : decode cX12_busiest 17 = .ok (.iaload, 1) := by decide +kernel
theorem dX12_busiest_18 : decode cX12_busiest 18 = .ok (.if_icmp .ge 43, 3) := by decide +kernel
theorem dX12_busiest_21 : decode cX12_busiest 21 = .ok (.iload 4, 2) := by decide +kernel
theorem dX12_busiest_23 : decode cX12_busiest 23 = .ok (.aload_n 0, 1) := by decide +kernel
theorem dX12_busiest_24 : decode cX12_busiest 24 = .ok (.iload_n 1, 1) := by decide +kernel
theorem dX12_busiest_25 : decode cX12_busiest 25 = .ok (.iconst 0, 1) := by decide +kernel
theorem dX12_busiest_26 : decode cX12_busiest 26 = .ok (.invokestatic 103, 3) := by decide +kernel
theorem dX12_busiest_29 : decode cX12_busiest 29 = .ok (.if_icmp .eq 26, 3) := by decide +kernel
theorem dX12_busiest_32 : decode cX12_busiest 32 = .ok (.aload_n 0, 1) := by decide +kernel
theorem dX12_busiest_33 : decode cX12_busiest 33 = .ok (.iload 4, 2) := by decide +kernel
theorem dX12_busiest_35 : decode cX12_busiest 35 = .ok (.invokestatic 99, 3) := by decide +kernel
theorem dX12_busiest_38 : decode cX12_busiest 38 = .ok (.iload_n 3, 1) := by decide +kernel
theorem dX12_busiest_39 : decode cX12_busiest 39 = .ok (.if_icmp .gt 6, 3) := by decide +kernel
theorem dX12_busiest_42 : decode cX12_busiest 42 = .ok (.goto 13, 3) := by decide +kernel
theorem dX12_busiest_45 : decode cX12_busiest 45 = .ok (.iload 4, 2) := by decide +kernel
theorem dX12_busiest_47 : decode cX12_busiest 47 = .ok (.istore_n 2, 1) := by decide +kernel
theorem dX12_busiest_48 : decode cX12_busiest 48 = .ok (.aload_n 0, 1) := by decide +kernel
theorem dX12_busiest_49 : decode cX12_busiest 49 = .ok (.iload 4, 2) := by decide +kernel
theorem dX12_busiest_51 : decode cX12_busiest 51 = .ok (.invokestatic 99, 3) := by decide +kernel
theorem dX12_busiest_54 : decode cX12_busiest 54 = .ok (.istore_n 3, 1) := by decide +kernel
theorem dX12_busiest_55 : decode cX12_busiest 55 = .ok (.iinc 4 1, 3) := by decide +kernel
theorem dX12_busiest_58 : decode cX12_busiest 58 = .ok (.goto (-45), 3) := by decide +kernel
theorem dX12_busiest_61 : decode cX12_busiest 61 = .ok (.iload_n 2, 1) := by decide +kernel
theorem dX12_busiest_62 : decode cX12_busiest 62 = .ok (.ireturn, 1) := by decide +kernel
theorem dX12_toMost_0 : decode cX12_toMost 0 = .ok (.bipush (-4), 2) := by decide +kernel
theorem dX12_toMost_2 : decode cX12_toMost 2 = .ok (.istore_n 2, 1) := by decide +kernel
theorem dX12_toMost_3 : decode cX12_toMost 3 = .ok (.iconst 0, 1) := by decide +kernel
theorem dX12_toMost_4 : decode cX12_toMost 4 = .ok (.istore_n 3, 1) := by decide +kernel
theorem dX12_toMost_5 : decode cX12_toMost 5 = .ok (.iconst 0, 1) := by decide +kernel
theorem dX12_toMost_6 : decode cX12_toMost 6 = .ok (.istore 4, 2) := by decide +kernel
theorem dX12_toMost_8 : decode cX12_toMost 8 = .ok (.iload 4, 2) := by decide +kernel
theorem dX12_toMost_10 : decode cX12_toMost 10 = .ok (.aload_n 0, 1) := by decide +kernel
theorem dX12_toMost_11 : decode cX12_toMost 11 = .ok (.iconst 0, 1) := by decide +kernel
theorem dX12_toMost_12 : decode cX12_toMost 12 = .ok (.iaload, 1) := by decide +kernel
theorem dX12_toMost_13 : decode cX12_toMost 13 = .ok (.if_icmp .ge 77, 3) := by decide +kernel
theorem dX12_toMost_16 : decode cX12_toMost 16 = .ok (.iconst 0, 1) := by decide +kernel
theorem dX12_toMost_17 : decode cX12_toMost 17 = .ok (.istore 5, 2) := by decide +kernel
theorem dX12_toMost_19 : decode cX12_toMost 19 = .ok (.iconst 0, 1) := by decide +kernel
theorem dX12_toMost_20 : decode cX12_toMost 20 = .ok (.istore 6, 2) := by decide +kernel
theorem dX12_toMost_22 : decode cX12_toMost 22 = .ok (.iload 6, 2) := by decide +kernel
theorem dX12_toMost_24 : decode cX12_toMost 24 = .ok (.aload_n 0, 1) := by decide +kernel
theorem dX12_toMost_25 : decode cX12_toMost 25 = .ok (.iload_n 1, 1) := by decide +kernel
theorem dX12_toMost_26 : decode cX12_toMost 26 = .ok (.iconst 3, 1) := by decide +kernel
theorem dX12_toMost_27 : decode cX12_toMost 27 = .ok (.invokestatic 103, 3) := by decide +kernel
theorem dX12_toMost_30 : decode cX12_toMost 30 = .ok (.if_icmp .ge 39, 3) := by decide +kernel
theorem dX12_toMost_33 : decode cX12_toMost 33 = .ok (.iload 5, 2) := by decide +kernel
theorem dX12_toMost_35 : decode cX12_toMost 35 = .ok (.aload_n 0, 1) := by decide +kernel
theorem dX12_toMost_36 : decode cX12_toMost 36 = .ok (.aload_n 0, 1) := by decide +kernel
theorem dX12_toMost_37 : decode cX12_toMost 37 = .ok (.iload_n 1, 1) := by decide +kernel
theorem dX12_toMost_38 : decode cX12_toMost 38 = .ok (.bipush 6, 2) := by decide +kernel
theorem dX12_toMost_40 : decode cX12_toMost 40 = .ok (.iload 6, 2) := by decide +kernel
theorem dX12_toMost_42 : decode cX12_toMost 42 = .ok (.iadd, 1) := by decide +kernel
theorem dX12_toMost_43 : decode cX12_toMost 43 = .ok (.invokestatic 103, 3) := by decide +kernel
theorem dX12_toMost_46 : decode cX12_toMost 46 = .ok (.iconst 1, 1) := by decide +kernel
theorem dX12_toMost_47 : decode cX12_toMost 47 = .ok (.invokestatic 107, 3) := by decide +kernel
theorem dX12_toMost_50 : decode cX12_toMost 50 = .ok (.iload 4, 2) := by decide +kernel
theorem dX12_toMost_52 : decode cX12_toMost 52 = .ok (.if_icmp .ne 7, 3) := by decide +kernel
theorem dX12_toMost_55 : decode cX12_toMost 55 = .ok (.iconst 1, 1) := by decide +kernel
theorem dX12_toMost_56 : decode cX12_toMost 56 = .ok (.goto 4, 3) := by decide +kernel
theorem dX12_toMost_59 : decode cX12_toMost 59 = .ok (.iconst 0, 1) := by decide +kernel
theorem dX12_toMost_60 : decode cX12_toMost 60 = .ok (.iadd, 1) := by decide +kernel
theorem dX12_toMost_61 : decode cX12_toMost 61 = .ok (.istore 5, 2) := by decide +kernel
theorem dX12_toMost_63 : decode cX12_toMost 63 = .ok (.iinc 6 1, 3) := by decide +kernel
theorem dX12_toMost_66 : decode cX12_toMost 66 = .ok (.goto (-44), 3) := by decide +kernel
theorem dX12_toMost_69 : decode cX12_toMost 69 = .ok (.iload 5, 2) := by decide +kernel
theorem dX12_toMost_71 : decode cX12_toMost 71 = .ok (.iload_n 3, 1) := by decide +kernel
theorem dX12_toMost_72 : decode cX12_toMost 72 = .ok (.if_icmp .gt 6, 3) := by decide +kernel
theorem dX12_toMost_75 : decode cX12_toMost 75 = .ok (.goto 9, 3) := by decide +kernel
theorem dX12_toMost_78 : decode cX12_toMost 78 = .ok (.iload 4, 2) := by decide +kernel
theorem dX12_toMost_80 : decode cX12_toMost 80 = .ok (.istore_n 2, 1) := by decide +kernel
theorem dX12_toMost_81 : decode cX12_toMost 81 = .ok (.iload 5, 2) := by decide +kernel
theorem dX12_toMost_83 : decode cX12_toMost 83 = .ok (.istore_n 3, 1) := by decide +kernel
theorem dX12_toMost_84 : decode cX12_toMost 84 = .ok (.iinc 4 1, 3) := by decide +kernel
theorem dX12_toMost_87 : decode cX12_toMost 87 = .ok (.goto (-79), 3) := by decide +kernel
theorem dX12_toMost_90 : decode cX12_toMost 90 = .ok (.iload_n 2, 1) := by decide +kernel
theorem dX12_toMost_91 : decode cX12_toMost 91 = .ok (.ireturn, 1) := by decide +kernel
theorem dX12_isFull_0 : decode cX12_isFull 0 = .ok (.aload_n 0, 1) := by decide +kernel
theorem dX12_isFull_1 : decode cX12_isFull 1 = .ok (.iload_n 1, 1) := by decide +kernel
theorem dX12_isFull_2 : decode cX12_isFull 2 = .ok (.iconst 3, 1) := by decide +kernel
theorem dX12_isFull_3 : decode cX12_isFull 3 = .ok (.invokestatic 103, 3) := by decide +kernel
theorem dX12_isFull_6 : decode cX12_isFull 6 = .ok (.istore_n 2, 1) := by decide +kernel
theorem dX12_isFull_7 : decode cX12_isFull 7 = .ok (.iload_n 2, 1) := by decide +kernel
theorem dX12_isFull_8 : decode cX12_isFull 8 = .ok (.aload_n 0, 1) := by decide +kernel
theorem dX12_isFull_9 : decode cX12_isFull 9 = .ok (.iload_n 1, 1) := by decide +kernel
theorem dX12_isFull_10 : decode cX12_isFull 10 = .ok (.iconst 5, 1) := by decide +kernel
theorem dX12_isFull_11 : decode cX12_isFull 11 = .ok (.invokestatic 103, 3) := by decide +kernel
theorem dX12_isFull_14 : decode cX12_isFull 14 = .ok (.if_icmp .gt 10, 3) := by decide +kernel
theorem dX12_isFull_17 : decode cX12_isFull 17 = .ok (.iload_n 2, 1) := by decide +kernel
theorem dX12_isFull_18 : decode cX12_isFull 18 = .ok (.aload_n 0, 1) := by decide +kernel
theorem dX12_isFull_19 : decode cX12_isFull 19 = .ok (.iconst 2, 1) := by decide +kernel
theorem dX12_isFull_20 : decode cX12_isFull 20 = .ok (.iaload, 1) := by decide +kernel
theorem dX12_isFull_21 : decode cX12_isFull 21 = .ok (.if_icmp .ne 5, 3) := by decide +kernel
theorem dX12_isFull_24 : decode cX12_isFull 24 = .ok (.iconst 1, 1) := by decide +kernel
theorem dX12_isFull_25 : decode cX12_isFull 25 = .ok (.ireturn, 1) := by decide +kernel
theorem dX12_isFull_26 : decode cX12_isFull 26 = .ok (.iconst 0, 1) := by decide +kernel
theorem dX12_isFull_27 : decode cX12_isFull 27 = .ok (.istore_n 3, 1) := by decide +kernel
theorem dX12_isFull_28 : decode cX12_isFull 28 = .ok (.iload_n 3, 1) := by decide +kernel
theorem dX12_isFull_29 : decode cX12_isFull 29 = .ok (.aload_n 0, 1) := by decide +kernel
theorem dX12_isFull_30 : decode cX12_isFull 30 = .ok (.iconst 1, 1) := by decide +kernel
theorem dX12_isFull_31 : decode cX12_isFull 31 = .ok (.iaload, 1) := by decide +kernel
theorem dX12_isFull_32 : decode cX12_isFull 32 = .ok (.if_icmp .ge 35, 3) := by decide +kernel
theorem dX12_isFull_35 : decode cX12_isFull 35 = .ok (.aload_n 0, 1) := by decide +kernel
theorem dX12_isFull_36 : decode cX12_isFull 36 = .ok (.iload_n 3, 1) := by decide +kernel
theorem dX12_isFull_37 : decode cX12_isFull 37 = .ok (.iconst 0, 1) := by decide +kernel
theorem dX12_isFull_38 : decode cX12_isFull 38 = .ok (.invokestatic 107, 3) := by decide +kernel
theorem dX12_isFull_41 : decode cX12_isFull 41 = .ok (.aload_n 0, 1) := by decide +kernel
theorem dX12_isFull_42 : decode cX12_isFull 42 = .ok (.iload_n 1, 1) := by decide +kernel
theorem dX12_isFull_43 : decode cX12_isFull 43 = .ok (.iconst 0, 1) := by decide +kernel
theorem dX12_isFull_44 : decode cX12_isFull 44 = .ok (.invokestatic 103, 3) := by decide +kernel
theorem dX12_isFull_47 : decode cX12_isFull 47 = .ok (.if_icmp .ne 14, 3) := by decide +kernel
theorem dX12_isFull_50 : decode cX12_isFull 50 = .ok (.aload_n 0, 1) := by decide +kernel
theorem dX12_isFull_51 : decode cX12_isFull 51 = .ok (.iload_n 3, 1) := by decide +kernel
theorem dX12_isFull_52 : decode cX12_isFull 52 = .ok (.iconst 2, 1) := by decide +kernel
theorem dX12_isFull_53 : decode cX12_isFull 53 = .ok (.invokestatic 107, 3) := by decide +kernel
theorem dX12_isFull_56 : decode cX12_isFull 56 = .ok (.ifCond .le 5, 3) := by decide +kernel
theorem dX12_isFull_59 : decode cX12_isFull 59 = .ok (.iconst 0, 1) := by decide +kernel
theorem dX12_isFull_60 : decode cX12_isFull 60 = .ok (.ireturn, 1) := by decide +kernel
theorem dX12_isFull_61 : decode cX12_isFull 61 = .ok (.iinc 3 1, 3) := by decide +kernel
theorem dX12_isFull_64 : decode cX12_isFull 64 = .ok (.goto (-36), 3) := by decide +kernel
theorem dX12_isFull_67 : decode cX12_isFull 67 = .ok (.iconst 1, 1) := by decide +kernel
theorem dX12_isFull_68 : decode cX12_isFull 68 = .ok (.ireturn, 1) := by decide +kernel
theorem dX12_goesTo_0 : decode cX12_goesTo 0 = .ok (.aload_n 0, 1) := by decide +kernel
theorem dX12_goesTo_1 : decode cX12_goesTo 1 = .ok (.iload_n 1, 1) := by decide +kernel
theorem dX12_goesTo_2 : decode cX12_goesTo 2 = .ok (.iconst 5, 1) := by decide +kernel
theorem dX12_goesTo_3 : decode cX12_goesTo 3 = .ok (.invokestatic 103, 3) := by decide +kernel
theorem dX12_goesTo_6 : decode cX12_goesTo 6 = .ok (.istore_n 2, 1) := by decide +kernel
theorem dX12_goesTo_7 : decode cX12_goesTo 7 = .ok (.aload_n 0, 1) := by decide +kernel
theorem dX12_goesTo_8 : decode cX12_goesTo 8 = .ok (.iconst 3, 1) := by decide +kernel
theorem dX12_goesTo_9 : decode cX12_goesTo 9 = .ok (.iaload, 1) := by decide +kernel
theorem dX12_goesTo_10 : decode cX12_goesTo 10 = .ok (.iload_n 2, 1) := by decide +kernel
theorem dX12_goesTo_11 : decode cX12_goesTo 11 = .ok (.iconst 1, 1) := by decide +kernel
theorem dX12_goesTo_12 : decode cX12_goesTo 12 = .ok (.iadd, 1) := by decide +kernel
theorem dX12_goesTo_13 : decode cX12_goesTo 13 = .ok (.irem, 1) := by decide +kernel
theorem dX12_goesTo_14 : decode cX12_goesTo 14 = .ok (.ifCond .ne 7, 3) := by decide +kernel
theorem dX12_goesTo_17 : decode cX12_goesTo 17 = .ok (.iconst 1, 1) := by decide +kernel
theorem dX12_goesTo_18 : decode cX12_goesTo 18 = .ok (.goto 4, 3) := by decide +kernel
theorem dX12_goesTo_21 : decode cX12_goesTo 21 = .ok (.iconst 0, 1) := by decide +kernel
theorem dX12_goesTo_22 : decode cX12_goesTo 22 = .ok (.istore_n 3, 1) := by decide +kernel
theorem dX12_goesTo_23 : decode cX12_goesTo 23 = .ok (.aload_n 0, 1) := by decide +kernel
theorem dX12_goesTo_24 : decode cX12_goesTo 24 = .ok (.iload_n 1, 1) := by decide +kernel
theorem dX12_goesTo_25 : decode cX12_goesTo 25 = .ok (.iconst 3, 1) := by decide +kernel
theorem dX12_goesTo_26 : decode cX12_goesTo 26 = .ok (.invokestatic 103, 3) := by decide +kernel
theorem dX12_goesTo_29 : decode cX12_goesTo 29 = .ok (.ifCond .ne 7, 3) := by decide +kernel
theorem dX12_goesTo_32 : decode cX12_goesTo 32 = .ok (.iconst 1, 1) := by decide +kernel
theorem dX12_goesTo_33 : decode cX12_goesTo 33 = .ok (.goto 4, 3) := by decide +kernel
theorem dX12_goesTo_36 : decode cX12_goesTo 36 = .ok (.iconst 0, 1) := by decide +kernel
theorem dX12_goesTo_37 : decode cX12_goesTo 37 = .ok (.istore 4, 2) := by decide +kernel
theorem dX12_goesTo_39 : decode cX12_goesTo 39 = .ok (.aload_n 0, 1) := by decide +kernel
theorem dX12_goesTo_40 : decode cX12_goesTo 40 = .ok (.iload_n 1, 1) := by decide +kernel
theorem dX12_goesTo_41 : decode cX12_goesTo 41 = .ok (.iconst 0, 1) := by decide +kernel
theorem dX12_goesTo_42 : decode cX12_goesTo 42 = .ok (.invokestatic 103, 3) := by decide +kernel
theorem dX12_goesTo_45 : decode cX12_goesTo 45 = .ok (.istore 5, 2) := by decide +kernel
theorem dX12_goesTo_47 : decode cX12_goesTo 47 = .ok (.aload_n 0, 1) := by decide +kernel
theorem dX12_goesTo_48 : decode cX12_goesTo 48 = .ok (.iload_n 1, 1) := by decide +kernel
theorem dX12_goesTo_49 : decode cX12_goesTo 49 = .ok (.iconst 4, 1) := by decide +kernel
theorem dX12_goesTo_50 : decode cX12_goesTo 50 = .ok (.invokestatic 103, 3) := by decide +kernel
theorem dX12_goesTo_53 : decode cX12_goesTo 53 = .ok (.tableswitch 158 1 6 #[39, 57, 76, 95, 114, 133], 39) := by decide +kernel
theorem dX12_goesTo_92 : decode cX12_goesTo 92 = .ok (.iload_n 3, 1) := by decide +kernel
theorem dX12_goesTo_93 : decode cX12_goesTo 93 = .ok (.ifCond .eq 14, 3) := by decide +kernel
theorem dX12_goesTo_96 : decode cX12_goesTo 96 = .ok (.iload 5, 2) := by decide +kernel
theorem dX12_goesTo_98 : decode cX12_goesTo 98 = .ok (.iconst 1, 1) := by decide +kernel
theorem dX12_goesTo_99 : decode cX12_goesTo 99 = .ok (.iadd, 1) := by decide +kernel
theorem dX12_goesTo_100 : decode cX12_goesTo 100 = .ok (.aload_n 0, 1) := by decide +kernel
theorem dX12_goesTo_101 : decode cX12_goesTo 101 = .ok (.iconst 0, 1) := by decide +kernel
theorem dX12_goesTo_102 : decode cX12_goesTo 102 = .ok (.iaload, 1) := by decide +kernel
theorem dX12_goesTo_103 : decode cX12_goesTo 103 = .ok (.irem, 1) := by decide +kernel
theorem dX12_goesTo_104 : decode cX12_goesTo 104 = .ok (.goto 5, 3) := by decide +kernel
theorem dX12_goesTo_107 : decode cX12_goesTo 107 = .ok (.bipush (-4), 2) := by decide +kernel
theorem dX12_goesTo_109 : decode cX12_goesTo 109 = .ok (.ireturn, 1) := by decide +kernel
theorem dX12_goesTo_110 : decode cX12_goesTo 110 = .ok (.iload 4, 2) := by decide +kernel
theorem dX12_goesTo_112 : decode cX12_goesTo 112 = .ok (.ifCond .eq 11, 3) := by decide +kernel
theorem dX12_goesTo_115 : decode cX12_goesTo 115 = .ok (.aload_n 0, 1) := by decide +kernel
theorem dX12_goesTo_116 : decode cX12_goesTo 116 = .ok (.iload_n 1, 1) := by decide +kernel
theorem dX12_goesTo_117 : decode cX12_goesTo 117 = .ok (.invokestatic 144, 3) := by decide +kernel
theorem dX12_goesTo_120 : decode cX12_goesTo 120 = .ok (.goto 8, 3) := by decide +kernel
theorem dX12_goesTo_123 : decode cX12_goesTo 123 = .ok (.aload_n 0, 1) := by decide +kernel
theorem dX12_goesTo_124 : decode cX12_goesTo 124 = .ok (.iload_n 1, 1) := by decide +kernel
theorem dX12_goesTo_125 : decode cX12_goesTo 125 = .ok (.invokestatic 147, 3) := by decide +kernel
theorem dX12_goesTo_128 : decode cX12_goesTo 128 = .ok (.ireturn, 1) := by decide +kernel
theorem dX12_goesTo_129 : decode cX12_goesTo 129 = .ok (.iload 4, 2) := by decide +kernel
theorem dX12_goesTo_131 : decode cX12_goesTo 131 = .ok (.ifCond .eq 11, 3) := by decide +kernel
theorem dX12_goesTo_134 : decode cX12_goesTo 134 = .ok (.aload_n 0, 1) := by decide +kernel
theorem dX12_goesTo_135 : decode cX12_goesTo 135 = .ok (.iload_n 1, 1) := by decide +kernel
theorem dX12_goesTo_136 : decode cX12_goesTo 136 = .ok (.invokestatic 150, 3) := by decide +kernel
theorem dX12_goesTo_139 : decode cX12_goesTo 139 = .ok (.goto 8, 3) := by decide +kernel
theorem dX12_goesTo_142 : decode cX12_goesTo 142 = .ok (.aload_n 0, 1) := by decide +kernel
theorem dX12_goesTo_143 : decode cX12_goesTo 143 = .ok (.iload_n 1, 1) := by decide +kernel
theorem dX12_goesTo_144 : decode cX12_goesTo 144 = .ok (.invokestatic 147, 3) := by decide +kernel
theorem dX12_goesTo_147 : decode cX12_goesTo 147 = .ok (.ireturn, 1) := by decide +kernel
theorem dX12_goesTo_148 : decode cX12_goesTo 148 = .ok (.aload_n 0, 1) := by decide +kernel
theorem dX12_goesTo_149 : decode cX12_goesTo 149 = .ok (.iload_n 1, 1) := by decide +kernel
theorem dX12_goesTo_150 : decode cX12_goesTo 150 = .ok (.invokestatic 153, 3) := by decide +kernel
theorem dX12_goesTo_153 : decode cX12_goesTo 153 = .ok (.ifCond .eq 11, 3) := by decide +kernel
theorem dX12_goesTo_156 : decode cX12_goesTo 156 = .ok (.aload_n 0, 1) := by decide +kernel
theorem dX12_goesTo_157 : decode cX12_goesTo 157 = .ok (.iload_n 1, 1) := by decide +kernel
theorem dX12_goesTo_158 : decode cX12_goesTo 158 = .ok (.invokestatic 147, 3) := by decide +kernel
theorem dX12_goesTo_161 : decode cX12_goesTo 161 = .ok (.goto 5, 3) := by decide +kernel
theorem dX12_goesTo_164 : decode cX12_goesTo 164 = .ok (.bipush (-4), 2) := by decide +kernel
theorem dX12_goesTo_166 : decode cX12_goesTo 166 = .ok (.ireturn, 1) := by decide +kernel
theorem dX12_goesTo_167 : decode cX12_goesTo 167 = .ok (.iload 4, 2) := by decide +kernel
theorem dX12_goesTo_169 : decode cX12_goesTo 169 = .ok (.ifCond .eq 11, 3) := by decide +kernel
theorem dX12_goesTo_172 : decode cX12_goesTo 172 = .ok (.aload_n 0, 1) := by decide +kernel
theorem dX12_goesTo_173 : decode cX12_goesTo 173 = .ok (.iload_n 1, 1) := by decide +kernel
theorem dX12_goesTo_174 : decode cX12_goesTo 174 = .ok (.invokestatic 150, 3) := by decide +kernel
theorem dX12_goesTo_177 : decode cX12_goesTo 177 = .ok (.goto 8, 3) := by decide +kernel
theorem dX12_goesTo_180 : decode cX12_goesTo 180 = .ok (.aload_n 0, 1) := by decide +kernel
theorem dX12_goesTo_181 : decode cX12_goesTo 181 = .ok (.iload_n 1, 1) := by decide +kernel
theorem dX12_goesTo_182 : decode cX12_goesTo 182 = .ok (.invokestatic 157, 3) := by decide +kernel
theorem dX12_goesTo_185 : decode cX12_goesTo 185 = .ok (.ireturn, 1) := by decide +kernel
theorem dX12_goesTo_186 : decode cX12_goesTo 186 = .ok (.iload_n 3, 1) := by decide +kernel
theorem dX12_goesTo_187 : decode cX12_goesTo 187 = .ok (.ifCond .eq 21, 3) := by decide +kernel
theorem dX12_goesTo_190 : decode cX12_goesTo 190 = .ok (.iload_n 2, 1) := by decide +kernel
theorem dX12_goesTo_191 : decode cX12_goesTo 191 = .ok (.aload_n 0, 1) := by decide +kernel
theorem dX12_goesTo_192 : decode cX12_goesTo 192 = .ok (.iconst 0, 1) := by decide +kernel
theorem dX12_goesTo_193 : decode cX12_goesTo 193 = .ok (.iaload, 1) := by decide +kernel
theorem dX12_goesTo_194 : decode cX12_goesTo 194 = .ok (.irem, 1) := by decide +kernel
theorem dX12_goesTo_195 : decode cX12_goesTo 195 = .ok (.iload 5, 2) := by decide +kernel
theorem dX12_goesTo_197 : decode cX12_goesTo 197 = .ok (.if_icmp .eq 11, 3) := by decide +kernel
theorem dX12_goesTo_200 : decode cX12_goesTo 200 = .ok (.iload_n 2, 1) := by decide +kernel
theorem dX12_goesTo_201 : decode cX12_goesTo 201 = .ok (.aload_n 0, 1) := by decide +kernel
theorem dX12_goesTo_202 : decode cX12_goesTo 202 = .ok (.iconst 0, 1) := by decide +kernel
theorem dX12_goesTo_203 : decode cX12_goesTo 203 = .ok (.iaload, 1) := by decide +kernel
theorem dX12_goesTo_204 : decode cX12_goesTo 204 = .ok (.irem, 1) := by decide +kernel
theorem dX12_goesTo_205 : decode cX12_goesTo 205 = .ok (.goto 5, 3) := by decide +kernel
theorem dX12_goesTo_208 : decode cX12_goesTo 208 = .ok (.bipush (-4), 2) := by decide +kernel
theorem dX12_goesTo_210 : decode cX12_goesTo 210 = .ok (.ireturn, 1) := by decide +kernel
theorem dX12_goesTo_211 : decode cX12_goesTo 211 = .ok (.aload_n 0, 1) := by decide +kernel
theorem dX12_goesTo_212 : decode cX12_goesTo 212 = .ok (.iload_n 1, 1) := by decide +kernel
theorem dX12_goesTo_213 : decode cX12_goesTo 213 = .ok (.invokestatic 147, 3) := by decide +kernel
theorem dX12_goesTo_216 : decode cX12_goesTo 216 = .ok (.ireturn, 1) := by decide +kernel
theorem dX12_walks_0 : decode cX12_walks 0 = .ok (.bipush 74, 2) := by decide +kernel
theorem dX12_walks_2 : decode cX12_walks 2 = .ok (.bipush 25, 2) := by decide +kernel
theorem dX12_walks_4 : decode cX12_walks 4 = .ok (.iload_n 2, 1) := by decide +kernel
theorem dX12_walks_5 : decode cX12_walks 5 = .ok (.imul, 1) := by decide +kernel
theorem dX12_walks_6 : decode cX12_walks 6 = .ok (.iadd, 1) := by decide +kernel
theorem dX12_walks_7 : decode cX12_walks 7 = .ok (.istore 4, 2) := by decide +kernel
theorem dX12_walks_9 : decode cX12_walks 9 = .ok (.iload_n 3, 1) := by decide +kernel
theorem dX12_walks_10 : decode cX12_walks 10 = .ok (.istore 5, 2) := by decide +kernel
theorem dX12_walks_12 : decode cX12_walks 12 = .ok (.iload 5, 2) := by decide +kernel
theorem dX12_walks_14 : decode cX12_walks 14 = .ok (.aload_n 1, 1) := by decide +kernel
theorem dX12_walks_15 : decode cX12_walks 15 = .ok (.iload 4, 2) := by decide +kernel
theorem dX12_walks_17 : decode cX12_walks 17 = .ok (.iaload, 1) := by decide +kernel
theorem dX12_walks_18 : decode cX12_walks 18 = .ok (.iconst 1, 1) := by decide +kernel
theorem dX12_walks_19 : decode cX12_walks 19 = .ok (.isub, 1) := by decide +kernel
theorem dX12_walks_20 : decode cX12_walks 20 = .ok (.if_icmp .ge 47, 3) := by decide +kernel
theorem dX12_walks_23 : decode cX12_walks 23 = .ok (.aload_n 1, 1) := by decide +kernel
theorem dX12_walks_24 : decode cX12_walks 24 = .ok (.iload 4, 2) := by decide +kernel
theorem dX12_walks_26 : decode cX12_walks 26 = .ok (.iconst 1, 1) := by decide +kernel
theorem dX12_walks_27 : decode cX12_walks 27 = .ok (.iadd, 1) := by decide +kernel
theorem dX12_walks_28 : decode cX12_walks 28 = .ok (.iload 5, 2) := by decide +kernel
theorem dX12_walks_30 : decode cX12_walks 30 = .ok (.iadd, 1) := by decide +kernel
theorem dX12_walks_31 : decode cX12_walks 31 = .ok (.aload_n 1, 1) := by decide +kernel
theorem dX12_walks_32 : decode cX12_walks 32 = .ok (.iload 4, 2) := by decide +kernel
theorem dX12_walks_34 : decode cX12_walks 34 = .ok (.iconst 2, 1) := by decide +kernel
theorem dX12_walks_35 : decode cX12_walks 35 = .ok (.iadd, 1) := by decide +kernel
theorem dX12_walks_36 : decode cX12_walks 36 = .ok (.iload 5, 2) := by decide +kernel
theorem dX12_walks_38 : decode cX12_walks 38 = .ok (.iadd, 1) := by decide +kernel
theorem dX12_walks_39 : decode cX12_walks 39 = .ok (.iaload, 1) := by decide +kernel
theorem dX12_walks_40 : decode cX12_walks 40 = .ok (.iastore, 1) := by decide +kernel
theorem dX12_walks_41 : decode cX12_walks 41 = .ok (.aload_n 1, 1) := by decide +kernel
theorem dX12_walks_42 : decode cX12_walks 42 = .ok (.iload 4, 2) := by decide +kernel
theorem dX12_walks_44 : decode cX12_walks 44 = .ok (.bipush 13, 2) := by decide +kernel
theorem dX12_walks_46 : decode cX12_walks 46 = .ok (.iadd, 1) := by decide +kernel
theorem dX12_walks_47 : decode cX12_walks 47 = .ok (.iload 5, 2) := by decide +kernel
theorem dX12_walks_49 : decode cX12_walks 49 = .ok (.iadd, 1) := by decide +kernel
theorem dX12_walks_50 : decode cX12_walks 50 = .ok (.aload_n 1, 1) := by decide +kernel
theorem dX12_walks_51 : decode cX12_walks 51 = .ok (.iload 4, 2) := by decide +kernel
theorem dX12_walks_53 : decode cX12_walks 53 = .ok (.bipush 14, 2) := by decide +kernel
theorem dX12_walks_55 : decode cX12_walks 55 = .ok (.iadd, 1) := by decide +kernel
theorem dX12_walks_56 : decode cX12_walks 56 = .ok (.iload 5, 2) := by decide +kernel
theorem dX12_walks_58 : decode cX12_walks 58 = .ok (.iadd, 1) := by decide +kernel
theorem dX12_walks_59 : decode cX12_walks 59 = .ok (.iaload, 1) := by decide +kernel
theorem dX12_walks_60 : decode cX12_walks 60 = .ok (.iastore, 1) := by decide +kernel
theorem dX12_walks_61 : decode cX12_walks 61 = .ok (.iinc 5 1, 3) := by decide +kernel
theorem dX12_walks_64 : decode cX12_walks 64 = .ok (.goto (-52), 3) := by decide +kernel
theorem dX12_walks_67 : decode cX12_walks 67 = .ok (.aload_n 1, 1) := by decide +kernel
theorem dX12_walks_68 : decode cX12_walks 68 = .ok (.iload 4, 2) := by decide +kernel
theorem dX12_walks_70 : decode cX12_walks 70 = .ok (.dup2, 1) := by decide +kernel
theorem dX12_walks_71 : decode cX12_walks 71 = .ok (.iaload, 1) := by decide +kernel
theorem dX12_walks_72 : decode cX12_walks 72 = .ok (.iconst 1, 1) := by decide +kernel
theorem dX12_walks_73 : decode cX12_walks 73 = .ok (.isub, 1) := by decide +kernel
theorem dX12_walks_74 : decode cX12_walks 74 = .ok (.iastore, 1) := by decide +kernel
theorem dX12_walks_75 : decode cX12_walks 75 = .ok (.return_, 1) := by decide +kernel
theorem dX12_come_0 : decode cX12_come 0 = .ok (.iconst 0, 1) := by decide +kernel
theorem dX12_come_1 : decode cX12_come 1 = .ok (.istore_n 2, 1) := by decide +kernel
theorem dX12_come_2 : decode cX12_come 2 = .ok (.iload_n 2, 1) := by decide +kernel
theorem dX12_come_3 : decode cX12_come 3 = .ok (.aload_n 1, 1) := by decide +kernel
theorem dX12_come_4 : decode cX12_come 4 = .ok (.iconst 1, 1) := by decide +kernel
theorem dX12_come_5 : decode cX12_come 5 = .ok (.iaload, 1) := by decide +kernel
theorem dX12_come_6 : decode cX12_come 6 = .ok (.if_icmp .ge 106, 3) := by decide +kernel
theorem dX12_come_9 : decode cX12_come 9 = .ok (.aload_n 1, 1) := by decide +kernel
theorem dX12_come_10 : decode cX12_come 10 = .ok (.iconst 4, 1) := by decide +kernel
theorem dX12_come_11 : decode cX12_come 11 = .ok (.aload_n 1, 1) := by decide +kernel
theorem dX12_come_12 : decode cX12_come 12 = .ok (.iconst 4, 1) := by decide +kernel
theorem dX12_come_13 : decode cX12_come 13 = .ok (.iaload, 1) := by decide +kernel
theorem dX12_come_14 : decode cX12_come 14 = .ok (.ldc 160, 2) := by decide +kernel
theorem dX12_come_16 : decode cX12_come 16 = .ok (.imul, 1) := by decide +kernel
theorem dX12_come_17 : decode cX12_come 17 = .ok (.sipush 12345, 3) := by decide +kernel
theorem dX12_come_20 : decode cX12_come 20 = .ok (.iadd, 1) := by decide +kernel
theorem dX12_come_21 : decode cX12_come 21 = .ok (.iastore, 1) := by decide +kernel
theorem dX12_come_22 : decode cX12_come 22 = .ok (.aload_n 1, 1) := by decide +kernel
theorem dX12_come_23 : decode cX12_come 23 = .ok (.iconst 4, 1) := by decide +kernel
theorem dX12_come_24 : decode cX12_come 24 = .ok (.iaload, 1) := by decide +kernel
theorem dX12_come_25 : decode cX12_come 25 = .ok (.ldc 161, 2) := by decide +kernel
theorem dX12_come_27 : decode cX12_come 27 = .ok (.iand, 1) := by decide +kernel
theorem dX12_come_28 : decode cX12_come 28 = .ok (.ldc 162, 2) := by decide +kernel
theorem dX12_come_30 : decode cX12_come 30 = .ok (.idiv, 1) := by decide +kernel
theorem dX12_come_31 : decode cX12_come 31 = .ok (.bipush 100, 2) := by decide +kernel
theorem dX12_come_33 : decode cX12_come 33 = .ok (.irem, 1) := by decide +kernel
theorem dX12_come_34 : decode cX12_come 34 = .ok (.aload_n 1, 1) := by decide +kernel
theorem dX12_come_35 : decode cX12_come 35 = .ok (.iload_n 2, 1) := by decide +kernel
theorem dX12_come_36 : decode cX12_come 36 = .ok (.iconst 2, 1) := by decide +kernel
theorem dX12_come_37 : decode cX12_come 37 = .ok (.invokestatic 107, 3) := by decide +kernel
theorem dX12_come_40 : decode cX12_come 40 = .ok (.if_icmp .lt 6, 3) := by decide +kernel
theorem dX12_come_43 : decode cX12_come 43 = .ok (.goto 63, 3) := by decide +kernel
theorem dX12_come_46 : decode cX12_come 46 = .ok (.bipush 74, 2) := by decide +kernel
theorem dX12_come_48 : decode cX12_come 48 = .ok (.bipush 25, 2) := by decide +kernel
theorem dX12_come_50 : decode cX12_come 50 = .ok (.aload_n 1, 1) := by decide +kernel
theorem dX12_come_51 : decode cX12_come 51 = .ok (.iload_n 2, 1) := by decide +kernel
theorem dX12_come_52 : decode cX12_come 52 = .ok (.iconst 0, 1) := by decide +kernel
theorem dX12_come_53 : decode cX12_come 53 = .ok (.invokestatic 107, 3) := by decide +kernel
theorem dX12_come_56 : decode cX12_come 56 = .ok (.imul, 1) := by decide +kernel
theorem dX12_come_57 : decode cX12_come 57 = .ok (.iadd, 1) := by decide +kernel
theorem dX12_come_58 : decode cX12_come 58 = .ok (.istore_n 3, 1) := by decide +kernel
theorem dX12_come_59 : decode cX12_come 59 = .ok (.aload_n 1, 1) := by decide +kernel
theorem dX12_come_60 : decode cX12_come 60 = .ok (.iload_n 3, 1) := by decide +kernel
theorem dX12_come_61 : decode cX12_come 61 = .ok (.iaload, 1) := by decide +kernel
theorem dX12_come_62 : decode cX12_come 62 = .ok (.bipush 12, 2) := by decide +kernel
theorem dX12_come_64 : decode cX12_come 64 = .ok (.if_icmp .ne 14, 3) := by decide +kernel
theorem dX12_come_67 : decode cX12_come 67 = .ok (.aload_n 1, 1) := by decide +kernel
theorem dX12_come_68 : decode cX12_come 68 = .ok (.bipush 6, 2) := by decide +kernel
theorem dX12_come_70 : decode cX12_come 70 = .ok (.dup2, 1) := by decide +kernel
theorem dX12_come_71 : decode cX12_come 71 = .ok (.iaload, 1) := by decide +kernel
theorem dX12_come_72 : decode cX12_come 72 = .ok (.iconst 1, 1) := by decide +kernel
theorem dX12_come_73 : decode cX12_come 73 = .ok (.iadd, 1) := by decide +kernel
theorem dX12_come_74 : decode cX12_come 74 = .ok (.iastore, 1) := by decide +kernel
theorem dX12_come_75 : decode cX12_come 75 = .ok (.goto 31, 3) := by decide +kernel
theorem dX12_come_78 : decode cX12_come 78 = .ok (.aload_n 1, 1) := by decide +kernel
theorem dX12_come_79 : decode cX12_come 79 = .ok (.iload_n 3, 1) := by decide +kernel
theorem dX12_come_80 : decode cX12_come 80 = .ok (.iconst 1, 1) := by decide +kernel
theorem dX12_come_81 : decode cX12_come 81 = .ok (.iadd, 1) := by decide +kernel
theorem dX12_come_82 : decode cX12_come 82 = .ok (.aload_n 1, 1) := by decide +kernel
theorem dX12_come_83 : decode cX12_come 83 = .ok (.iload_n 3, 1) := by decide +kernel
theorem dX12_come_84 : decode cX12_come 84 = .ok (.iaload, 1) := by decide +kernel
theorem dX12_come_85 : decode cX12_come 85 = .ok (.iadd, 1) := by decide +kernel
theorem dX12_come_86 : decode cX12_come 86 = .ok (.iload_n 2, 1) := by decide +kernel
theorem dX12_come_87 : decode cX12_come 87 = .ok (.iastore, 1) := by decide +kernel
theorem dX12_come_88 : decode cX12_come 88 = .ok (.aload_n 1, 1) := by decide +kernel
theorem dX12_come_89 : decode cX12_come 89 = .ok (.iload_n 3, 1) := by decide +kernel
theorem dX12_come_90 : decode cX12_come 90 = .ok (.bipush 13, 2) := by decide +kernel
theorem dX12_come_92 : decode cX12_come 92 = .ok (.iadd, 1) := by decide +kernel
theorem dX12_come_93 : decode cX12_come 93 = .ok (.aload_n 1, 1) := by decide +kernel
theorem dX12_come_94 : decode cX12_come 94 = .ok (.iload_n 3, 1) := by decide +kernel
theorem dX12_come_95 : decode cX12_come 95 = .ok (.iaload, 1) := by decide +kernel
theorem dX12_come_96 : decode cX12_come 96 = .ok (.iadd, 1) := by decide +kernel
theorem dX12_come_97 : decode cX12_come 97 = .ok (.iconst 0, 1) := by decide +kernel
theorem dX12_come_98 : decode cX12_come 98 = .ok (.iastore, 1) := by decide +kernel
theorem dX12_come_99 : decode cX12_come 99 = .ok (.aload_n 1, 1) := by decide +kernel
theorem dX12_come_100 : decode cX12_come 100 = .ok (.iload_n 3, 1) := by decide +kernel
theorem dX12_come_101 : decode cX12_come 101 = .ok (.dup2, 1) := by decide +kernel
theorem dX12_come_102 : decode cX12_come 102 = .ok (.iaload, 1) := by decide +kernel
theorem dX12_come_103 : decode cX12_come 103 = .ok (.iconst 1, 1) := by decide +kernel
theorem dX12_come_104 : decode cX12_come 104 = .ok (.iadd, 1) := by decide +kernel
theorem dX12_come_105 : decode cX12_come 105 = .ok (.iastore, 1) := by decide +kernel
theorem dX12_come_106 : decode cX12_come 106 = .ok (.iinc 2 1, 3) := by decide +kernel
theorem dX12_come_109 : decode cX12_come 109 = .ok (.goto (-107), 3) := by decide +kernel
theorem dX12_come_112 : decode cX12_come 112 = .ok (.return_, 1) := by decide +kernel
theorem dX12_isAt_0 : decode cX12_isAt 0 = .ok (.aload_n 0, 1) := by decide +kernel
theorem dX12_isAt_1 : decode cX12_isAt 1 = .ok (.iload_n 1, 1) := by decide +kernel
theorem dX12_isAt_2 : decode cX12_isAt 2 = .ok (.iconst 0, 1) := by decide +kernel
theorem dX12_isAt_3 : decode cX12_isAt 3 = .ok (.invokestatic 103, 3) := by decide +kernel
theorem dX12_isAt_6 : decode cX12_isAt 6 = .ok (.ifCond .lt 7, 3) := by decide +kernel
theorem dX12_isAt_9 : decode cX12_isAt 9 = .ok (.iconst 1, 1) := by decide +kernel
theorem dX12_isAt_10 : decode cX12_isAt 10 = .ok (.goto 4, 3) := by decide +kernel
theorem dX12_isAt_13 : decode cX12_isAt 13 = .ok (.iconst 0, 1) := by decide +kernel
theorem dX12_isAt_14 : decode cX12_isAt 14 = .ok (.ireturn, 1) := by decide +kernel
theorem dX12_lands_0 : decode cX12_lands 0 = .ok (.aload_n 1, 1) := by decide +kernel
theorem dX12_lands_1 : decode cX12_lands 1 = .ok (.iload_n 2, 1) := by decide +kernel
theorem dX12_lands_2 : decode cX12_lands 2 = .ok (.invokestatic 163, 3) := by decide +kernel
theorem dX12_lands_5 : decode cX12_lands 5 = .ok (.ifCond .eq 4, 3) := by decide +kernel
theorem dX12_lands_8 : decode cX12_lands 8 = .ok (.return_, 1) := by decide +kernel
theorem dX12_lands_9 : decode cX12_lands 9 = .ok (.aload_n 1, 1) := by decide +kernel
theorem dX12_lands_10 : decode cX12_lands 10 = .ok (.iload_n 2, 1) := by decide +kernel
theorem dX12_lands_11 : decode cX12_lands 11 = .ok (.iconst 2, 1) := by decide +kernel
theorem dX12_lands_12 : decode cX12_lands 12 = .ok (.aload_n 1, 1) := by decide +kernel
theorem dX12_lands_13 : decode cX12_lands 13 = .ok (.iload_n 2, 1) := by decide +kernel
theorem dX12_lands_14 : decode cX12_lands 14 = .ok (.iconst 2, 1) := by decide +kernel
theorem dX12_lands_15 : decode cX12_lands 15 = .ok (.invokestatic 103, 3) := by decide +kernel
theorem dX12_lands_18 : decode cX12_lands 18 = .ok (.iconst 1, 1) := by decide +kernel
theorem dX12_lands_19 : decode cX12_lands 19 = .ok (.isub, 1) := by decide +kernel
theorem dX12_lands_20 : decode cX12_lands 20 = .ok (.invokestatic 57, 3) := by decide +kernel
theorem dX12_lands_23 : decode cX12_lands 23 = .ok (.aload_n 1, 1) := by decide +kernel
theorem dX12_lands_24 : decode cX12_lands 24 = .ok (.iload_n 2, 1) := by decide +kernel
theorem dX12_lands_25 : decode cX12_lands 25 = .ok (.iconst 2, 1) := by decide +kernel
theorem dX12_lands_26 : decode cX12_lands 26 = .ok (.invokestatic 103, 3) := by decide +kernel
theorem dX12_lands_29 : decode cX12_lands 29 = .ok (.ifCond .le 4, 3) := by decide +kernel
theorem dX12_lands_32 : decode cX12_lands 32 = .ok (.return_, 1) := by decide +kernel
theorem dX12_lands_33 : decode cX12_lands 33 = .ok (.aload_n 1, 1) := by decide +kernel
theorem dX12_lands_34 : decode cX12_lands 34 = .ok (.iload_n 2, 1) := by decide +kernel
theorem dX12_lands_35 : decode cX12_lands 35 = .ok (.iconst 1, 1) := by decide +kernel
theorem dX12_lands_36 : decode cX12_lands 36 = .ok (.invokestatic 103, 3) := by decide +kernel
theorem dX12_lands_39 : decode cX12_lands 39 = .ok (.istore_n 3, 1) := by decide +kernel
theorem dX12_lands_40 : decode cX12_lands 40 = .ok (.aload_n 1, 1) := by decide +kernel
theorem dX12_lands_41 : decode cX12_lands 41 = .ok (.iload_n 2, 1) := by decide +kernel
theorem dX12_lands_42 : decode cX12_lands 42 = .ok (.iconst 0, 1) := by decide +kernel
theorem dX12_lands_43 : decode cX12_lands 43 = .ok (.iload_n 3, 1) := by decide +kernel
theorem dX12_lands_44 : decode cX12_lands 44 = .ok (.invokestatic 57, 3) := by decide +kernel
theorem dX12_lands_47 : decode cX12_lands 47 = .ok (.aload_n 1, 1) := by decide +kernel
theorem dX12_lands_48 : decode cX12_lands 48 = .ok (.iload_n 2, 1) := by decide +kernel
theorem dX12_lands_49 : decode cX12_lands 49 = .ok (.iconst 1, 1) := by decide +kernel
theorem dX12_lands_50 : decode cX12_lands 50 = .ok (.bipush (-4), 2) := by decide +kernel
theorem dX12_lands_52 : decode cX12_lands 52 = .ok (.invokestatic 57, 3) := by decide +kernel
theorem dX12_lands_55 : decode cX12_lands 55 = .ok (.iconst 0, 1) := by decide +kernel
theorem dX12_lands_56 : decode cX12_lands 56 = .ok (.istore 4, 2) := by decide +kernel
theorem dX12_lands_58 : decode cX12_lands 58 = .ok (.iconst 0, 1) := by decide +kernel
theorem dX12_lands_59 : decode cX12_lands 59 = .ok (.istore 5, 2) := by decide +kernel
theorem dX12_lands_61 : decode cX12_lands 61 = .ok (.iload 5, 2) := by decide +kernel
theorem dX12_lands_63 : decode cX12_lands 63 = .ok (.aload_n 1, 1) := by decide +kernel
theorem dX12_lands_64 : decode cX12_lands 64 = .ok (.iload_n 2, 1) := by decide +kernel
theorem dX12_lands_65 : decode cX12_lands 65 = .ok (.iconst 3, 1) := by decide +kernel
theorem dX12_lands_66 : decode cX12_lands 66 = .ok (.invokestatic 103, 3) := by decide +kernel
theorem dX12_lands_69 : decode cX12_lands 69 = .ok (.if_icmp .ge 72, 3) := by decide +kernel
theorem dX12_lands_72 : decode cX12_lands 72 = .ok (.aload_n 1, 1) := by decide +kernel
theorem dX12_lands_73 : decode cX12_lands 73 = .ok (.iload_n 2, 1) := by decide +kernel
theorem dX12_lands_74 : decode cX12_lands 74 = .ok (.bipush 6, 2) := by decide +kernel
theorem dX12_lands_76 : decode cX12_lands 76 = .ok (.iload 5, 2) := by decide +kernel
theorem dX12_lands_78 : decode cX12_lands 78 = .ok (.iadd, 1) := by decide +kernel
theorem dX12_lands_79 : decode cX12_lands 79 = .ok (.invokestatic 103, 3) := by decide +kernel
theorem dX12_lands_82 : decode cX12_lands 82 = .ok (.istore 6, 2) := by decide +kernel
theorem dX12_lands_84 : decode cX12_lands 84 = .ok (.aload_n 1, 1) := by decide +kernel
theorem dX12_lands_85 : decode cX12_lands 85 = .ok (.iload 6, 2) := by decide +kernel
theorem dX12_lands_87 : decode cX12_lands 87 = .ok (.iconst 1, 1) := by decide +kernel
theorem dX12_lands_88 : decode cX12_lands 88 = .ok (.invokestatic 107, 3) := by decide +kernel
theorem dX12_lands_91 : decode cX12_lands 91 = .ok (.iload_n 3, 1) := by decide +kernel
theorem dX12_lands_92 : decode cX12_lands 92 = .ok (.if_icmp .ne 28, 3) := by decide +kernel
theorem dX12_lands_95 : decode cX12_lands 95 = .ok (.aload_n 1, 1) := by decide +kernel
theorem dX12_lands_96 : decode cX12_lands 96 = .ok (.bipush 7, 2) := by decide +kernel
theorem dX12_lands_98 : decode cX12_lands 98 = .ok (.dup2, 1) := by decide +kernel
theorem dX12_lands_99 : decode cX12_lands 99 = .ok (.iaload, 1) := by decide +kernel
theorem dX12_lands_100 : decode cX12_lands 100 = .ok (.aload_n 1, 1) := by decide +kernel
theorem dX12_lands_101 : decode cX12_lands 101 = .ok (.iload 6, 2) := by decide +kernel
theorem dX12_lands_103 : decode cX12_lands 103 = .ok (.iconst 4, 1) := by decide +kernel
theorem dX12_lands_104 : decode cX12_lands 104 = .ok (.invokestatic 107, 3) := by decide +kernel
theorem dX12_lands_107 : decode cX12_lands 107 = .ok (.iadd, 1) := by decide +kernel
theorem dX12_lands_108 : decode cX12_lands 108 = .ok (.iastore, 1) := by decide +kernel
theorem dX12_lands_109 : decode cX12_lands 109 = .ok (.aload_n 1, 1) := by decide +kernel
theorem dX12_lands_110 : decode cX12_lands 110 = .ok (.bipush 8, 2) := by decide +kernel
theorem dX12_lands_112 : decode cX12_lands 112 = .ok (.dup2, 1) := by decide +kernel
theorem dX12_lands_113 : decode cX12_lands 113 = .ok (.iaload, 1) := by decide +kernel
theorem dX12_lands_114 : decode cX12_lands 114 = .ok (.iconst 1, 1) := by decide +kernel
theorem dX12_lands_115 : decode cX12_lands 115 = .ok (.iadd, 1) := by decide +kernel
theorem dX12_lands_116 : decode cX12_lands 116 = .ok (.iastore, 1) := by decide +kernel
theorem dX12_lands_117 : decode cX12_lands 117 = .ok (.goto 18, 3) := by decide +kernel
theorem dX12_lands_120 : decode cX12_lands 120 = .ok (.aload_n 1, 1) := by decide +kernel
theorem dX12_lands_121 : decode cX12_lands 121 = .ok (.iload_n 2, 1) := by decide +kernel
theorem dX12_lands_122 : decode cX12_lands 122 = .ok (.bipush 6, 2) := by decide +kernel
theorem dX12_lands_124 : decode cX12_lands 124 = .ok (.iload 4, 2) := by decide +kernel
theorem dX12_lands_126 : decode cX12_lands 126 = .ok (.iadd, 1) := by decide +kernel
theorem dX12_lands_127 : decode cX12_lands 127 = .ok (.iload 6, 2) := by decide +kernel
theorem dX12_lands_129 : decode cX12_lands 129 = .ok (.invokestatic 57, 3) := by decide +kernel
theorem dX12_lands_132 : decode cX12_lands 132 = .ok (.iinc 4 1, 3) := by decide +kernel
theorem dX12_lands_135 : decode cX12_lands 135 = .ok (.iinc 5 1, 3) := by decide +kernel
theorem dX12_lands_138 : decode cX12_lands 138 = .ok (.goto (-77), 3) := by decide +kernel
theorem dX12_lands_141 : decode cX12_lands 141 = .ok (.aload_n 1, 1) := by decide +kernel
theorem dX12_lands_142 : decode cX12_lands 142 = .ok (.iload_n 2, 1) := by decide +kernel
theorem dX12_lands_143 : decode cX12_lands 143 = .ok (.iconst 3, 1) := by decide +kernel
theorem dX12_lands_144 : decode cX12_lands 144 = .ok (.iload 4, 2) := by decide +kernel
theorem dX12_lands_146 : decode cX12_lands 146 = .ok (.invokestatic 57, 3) := by decide +kernel
theorem dX12_lands_149 : decode cX12_lands 149 = .ok (.return_, 1) := by decide +kernel
theorem dX12_boards_0 : decode cX12_boards 0 = .ok (.aload_n 1, 1) := by decide +kernel
theorem dX12_boards_1 : decode cX12_boards 1 = .ok (.iload_n 2, 1) := by decide +kernel
theorem dX12_boards_2 : decode cX12_boards 2 = .ok (.iconst 0, 1) := by decide +kernel
theorem dX12_boards_3 : decode cX12_boards 3 = .ok (.invokestatic 103, 3) := by decide +kernel
theorem dX12_boards_6 : decode cX12_boards 6 = .ok (.istore_n 3, 1) := by decide +kernel
theorem dX12_boards_7 : decode cX12_boards 7 = .ok (.iload_n 3, 1) := by decide +kernel
theorem dX12_boards_8 : decode cX12_boards 8 = .ok (.ifCond .lt 72, 3) := by decide +kernel
theorem dX12_boards_11 : decode cX12_boards 11 = .ok (.aload_n 1, 1) := by decide +kernel
theorem dX12_boards_12 : decode cX12_boards 12 = .ok (.iload_n 3, 1) := by decide +kernel
theorem dX12_boards_13 : decode cX12_boards 13 = .ok (.invokestatic 99, 3) := by decide +kernel
theorem dX12_boards_16 : decode cX12_boards 16 = .ok (.ifCond .le 64, 3) := by decide +kernel
theorem dX12_boards_19 : decode cX12_boards 19 = .ok (.aload_n 1, 1) := by decide +kernel
theorem dX12_boards_20 : decode cX12_boards 20 = .ok (.iload_n 2, 1) := by decide +kernel
theorem dX12_boards_21 : decode cX12_boards 21 = .ok (.iconst 3, 1) := by decide +kernel
theorem dX12_boards_22 : decode cX12_boards 22 = .ok (.invokestatic 103, 3) := by decide +kernel
theorem dX12_boards_25 : decode cX12_boards 25 = .ok (.aload_n 1, 1) := by decide +kernel
theorem dX12_boards_26 : decode cX12_boards 26 = .ok (.iconst 2, 1) := by decide +kernel
theorem dX12_boards_27 : decode cX12_boards 27 = .ok (.iaload, 1) := by decide +kernel
theorem dX12_boards_28 : decode cX12_boards 28 = .ok (.if_icmp .ge 52, 3) := by decide +kernel
theorem dX12_boards_31 : decode cX12_boards 31 = .ok (.aload_n 1, 1) := by decide +kernel
theorem dX12_boards_32 : decode cX12_boards 32 = .ok (.iload_n 2, 1) := by decide +kernel
theorem dX12_boards_33 : decode cX12_boards 33 = .ok (.bipush 6, 2) := by decide +kernel
theorem dX12_boards_35 : decode cX12_boards 35 = .ok (.aload_n 1, 1) := by decide +kernel
theorem dX12_boards_36 : decode cX12_boards 36 = .ok (.iload_n 2, 1) := by decide +kernel
theorem dX12_boards_37 : decode cX12_boards 37 = .ok (.iconst 3, 1) := by decide +kernel
theorem dX12_boards_38 : decode cX12_boards 38 = .ok (.invokestatic 103, 3) := by decide +kernel
theorem dX12_boards_41 : decode cX12_boards 41 = .ok (.iadd, 1) := by decide +kernel
theorem dX12_boards_42 : decode cX12_boards 42 = .ok (.aload_n 1, 1) := by decide +kernel
theorem dX12_boards_43 : decode cX12_boards 43 = .ok (.bipush 74, 2) := by decide +kernel
theorem dX12_boards_45 : decode cX12_boards 45 = .ok (.bipush 25, 2) := by decide +kernel
theorem dX12_boards_47 : decode cX12_boards 47 = .ok (.iload_n 3, 1) := by decide +kernel
theorem dX12_boards_48 : decode cX12_boards 48 = .ok (.imul, 1) := by decide +kernel
theorem dX12_boards_49 : decode cX12_boards 49 = .ok (.iadd, 1) := by decide +kernel
theorem dX12_boards_50 : decode cX12_boards 50 = .ok (.iconst 1, 1) := by decide +kernel
theorem dX12_boards_51 : decode cX12_boards 51 = .ok (.iadd, 1) := by decide +kernel
theorem dX12_boards_52 : decode cX12_boards 52 = .ok (.iaload, 1) := by decide +kernel
theorem dX12_boards_53 : decode cX12_boards 53 = .ok (.invokestatic 57, 3) := by decide +kernel
theorem dX12_boards_56 : decode cX12_boards 56 = .ok (.aload_n 1, 1) := by decide +kernel
theorem dX12_boards_57 : decode cX12_boards 57 = .ok (.iload_n 2, 1) := by decide +kernel
theorem dX12_boards_58 : decode cX12_boards 58 = .ok (.iconst 3, 1) := by decide +kernel
theorem dX12_boards_59 : decode cX12_boards 59 = .ok (.aload_n 1, 1) := by decide +kernel
theorem dX12_boards_60 : decode cX12_boards 60 = .ok (.iload_n 2, 1) := by decide +kernel
theorem dX12_boards_61 : decode cX12_boards 61 = .ok (.iconst 3, 1) := by decide +kernel
theorem dX12_boards_62 : decode cX12_boards 62 = .ok (.invokestatic 103, 3) := by decide +kernel
theorem dX12_boards_65 : decode cX12_boards 65 = .ok (.iconst 1, 1) := by decide +kernel
theorem dX12_boards_66 : decode cX12_boards 66 = .ok (.iadd, 1) := by decide +kernel
theorem dX12_boards_67 : decode cX12_boards 67 = .ok (.invokestatic 57, 3) := by decide +kernel
theorem dX12_boards_70 : decode cX12_boards 70 = .ok (.aload_n 0, 1) := by decide +kernel
theorem dX12_boards_71 : decode cX12_boards 71 = .ok (.aload_n 1, 1) := by decide +kernel
theorem dX12_boards_72 : decode cX12_boards 72 = .ok (.iload_n 3, 1) := by decide +kernel
theorem dX12_boards_73 : decode cX12_boards 73 = .ok (.iconst 0, 1) := by decide +kernel
theorem dX12_boards_74 : decode cX12_boards 74 = .ok (.invokevirtual 166, 3) := by decide +kernel
theorem dX12_boards_77 : decode cX12_boards 77 = .ok (.goto (-70), 3) := by decide +kernel
theorem dX12_boards_80 : decode cX12_boards 80 = .ok (.return_, 1) := by decide +kernel
theorem dX12_leaves_0 : decode cX12_leaves 0 = .ok (.aload_n 0, 1) := by decide +kernel
theorem dX12_leaves_1 : decode cX12_leaves 1 = .ok (.iload_n 1, 1) := by decide +kernel
theorem dX12_leaves_2 : decode cX12_leaves 2 = .ok (.iconst 2, 1) := by decide +kernel
theorem dX12_leaves_3 : decode cX12_leaves 3 = .ok (.aload_n 0, 1) := by decide +kernel
theorem dX12_leaves_4 : decode cX12_leaves 4 = .ok (.bipush 9, 2) := by decide +kernel
theorem dX12_leaves_6 : decode cX12_leaves 6 = .ok (.iconst 4, 1) := by decide +kernel
theorem dX12_leaves_7 : decode cX12_leaves 7 = .ok (.aload_n 0, 1) := by decide +kernel
theorem dX12_leaves_8 : decode cX12_leaves 8 = .ok (.iload_n 1, 1) := by decide +kernel
theorem dX12_leaves_9 : decode cX12_leaves 9 = .ok (.iconst 0, 1) := by decide +kernel
theorem dX12_leaves_10 : decode cX12_leaves 10 = .ok (.invokestatic 103, 3) := by decide +kernel
theorem dX12_leaves_13 : decode cX12_leaves 13 = .ok (.imul, 1) := by decide +kernel
theorem dX12_leaves_14 : decode cX12_leaves 14 = .ok (.iadd, 1) := by decide +kernel
theorem dX12_leaves_15 : decode cX12_leaves 15 = .ok (.iload_n 2, 1) := by decide +kernel
theorem dX12_leaves_16 : decode cX12_leaves 16 = .ok (.iadd, 1) := by decide +kernel
theorem dX12_leaves_17 : decode cX12_leaves 17 = .ok (.iaload, 1) := by decide +kernel
theorem dX12_leaves_18 : decode cX12_leaves 18 = .ok (.invokestatic 57, 3) := by decide +kernel
theorem dX12_leaves_21 : decode cX12_leaves 21 = .ok (.aload_n 0, 1) := by decide +kernel
theorem dX12_leaves_22 : decode cX12_leaves 22 = .ok (.iload_n 1, 1) := by decide +kernel
theorem dX12_leaves_23 : decode cX12_leaves 23 = .ok (.iconst 1, 1) := by decide +kernel
theorem dX12_leaves_24 : decode cX12_leaves 24 = .ok (.iload_n 2, 1) := by decide +kernel
theorem dX12_leaves_25 : decode cX12_leaves 25 = .ok (.invokestatic 57, 3) := by decide +kernel
theorem dX12_leaves_28 : decode cX12_leaves 28 = .ok (.aload_n 0, 1) := by decide +kernel
theorem dX12_leaves_29 : decode cX12_leaves 29 = .ok (.iload_n 1, 1) := by decide +kernel
theorem dX12_leaves_30 : decode cX12_leaves 30 = .ok (.iconst 0, 1) := by decide +kernel
theorem dX12_leaves_31 : decode cX12_leaves 31 = .ok (.bipush (-4), 2) := by decide +kernel
theorem dX12_leaves_33 : decode cX12_leaves 33 = .ok (.invokestatic 57, 3) := by decide +kernel
theorem dX12_leaves_36 : decode cX12_leaves 36 = .ok (.return_, 1) := by decide +kernel
theorem dX12_asks_0 : decode cX12_asks 0 = .ok (.aload_n 1, 1) := by decide +kernel
theorem dX12_asks_1 : decode cX12_asks 1 = .ok (.iload_n 2, 1) := by decide +kernel
theorem dX12_asks_2 : decode cX12_asks 2 = .ok (.invokestatic 163, 3) := by decide +kernel
theorem dX12_asks_5 : decode cX12_asks 5 = .ok (.ifCond .ne 4, 3) := by decide +kernel
theorem dX12_asks_8 : decode cX12_asks 8 = .ok (.return_, 1) := by decide +kernel
theorem dX12_asks_9 : decode cX12_asks 9 = .ok (.aload_n 1, 1) := by decide +kernel
theorem dX12_asks_10 : decode cX12_asks 10 = .ok (.iload_n 2, 1) := by decide +kernel
theorem dX12_asks_11 : decode cX12_asks 11 = .ok (.invokestatic 170, 3) := by decide +kernel
theorem dX12_asks_14 : decode cX12_asks 14 = .ok (.istore_n 3, 1) := by decide +kernel
theorem dX12_asks_15 : decode cX12_asks 15 = .ok (.aload_n 0, 1) := by decide +kernel
theorem dX12_asks_16 : decode cX12_asks 16 = .ok (.getfield 173, 3) := by decide +kernel
theorem dX12_asks_19 : decode cX12_asks 19 = .ok (.ifCond .le 52, 3) := by decide +kernel
theorem dX12_asks_22 : decode cX12_asks 22 = .ok (.aload_n 0, 1) := by decide +kernel
theorem dX12_asks_23 : decode cX12_asks 23 = .ok (.getfield 176, 3) := by decide +kernel
theorem dX12_asks_26 : decode cX12_asks 26 = .ok (.iconst 5, 1) := by decide +kernel
theorem dX12_asks_27 : decode cX12_asks 27 = .ok (.irem, 1) := by decide +kernel
theorem dX12_asks_28 : decode cX12_asks 28 = .ok (.iconst 1, 1) := by decide +kernel
theorem dX12_asks_29 : decode cX12_asks 29 = .ok (.isub, 1) := by decide +kernel
theorem dX12_asks_30 : decode cX12_asks 30 = .ok (.istore_n 3, 1) := by decide +kernel
theorem dX12_asks_31 : decode cX12_asks 31 = .ok (.aload_n 0, 1) := by decide +kernel
theorem dX12_asks_32 : decode cX12_asks 32 = .ok (.dup, 1) := by decide +kernel
theorem dX12_asks_33 : decode cX12_asks 33 = .ok (.getfield 176, 3) := by decide +kernel
theorem dX12_asks_36 : decode cX12_asks 36 = .ok (.iconst 5, 1) := by decide +kernel
theorem dX12_asks_37 : decode cX12_asks 37 = .ok (.idiv, 1) := by decide +kernel
theorem dX12_asks_38 : decode cX12_asks 38 = .ok (.putfield 176, 3) := by decide +kernel
theorem dX12_asks_41 : decode cX12_asks 41 = .ok (.aload_n 0, 1) := by decide +kernel
theorem dX12_asks_42 : decode cX12_asks 42 = .ok (.dup, 1) := by decide +kernel
theorem dX12_asks_43 : decode cX12_asks 43 = .ok (.getfield 173, 3) := by decide +kernel
theorem dX12_asks_46 : decode cX12_asks 46 = .ok (.iconst 1, 1) := by decide +kernel
theorem dX12_asks_47 : decode cX12_asks 47 = .ok (.isub, 1) := by decide +kernel
theorem dX12_asks_48 : decode cX12_asks 48 = .ok (.putfield 173, 3) := by decide +kernel
theorem dX12_asks_51 : decode cX12_asks 51 = .ok (.iload_n 3, 1) := by decide +kernel
theorem dX12_asks_52 : decode cX12_asks 52 = .ok (.aload_n 1, 1) := by decide +kernel
theorem dX12_asks_53 : decode cX12_asks 53 = .ok (.iload_n 2, 1) := by decide +kernel
theorem dX12_asks_54 : decode cX12_asks 54 = .ok (.iconst 0, 1) := by decide +kernel
theorem dX12_asks_55 : decode cX12_asks 55 = .ok (.invokestatic 103, 3) := by decide +kernel
theorem dX12_asks_58 : decode cX12_asks 58 = .ok (.if_icmp .eq 10, 3) := by decide +kernel
theorem dX12_asks_61 : decode cX12_asks 61 = .ok (.iload_n 3, 1) := by decide +kernel
theorem dX12_asks_62 : decode cX12_asks 62 = .ok (.aload_n 1, 1) := by decide +kernel
theorem dX12_asks_63 : decode cX12_asks 63 = .ok (.iconst 0, 1) := by decide +kernel
theorem dX12_asks_64 : decode cX12_asks 64 = .ok (.iaload, 1) := by decide +kernel
theorem dX12_asks_65 : decode cX12_asks 65 = .ok (.if_icmp .lt 6, 3) := by decide +kernel
theorem dX12_asks_68 : decode cX12_asks 68 = .ok (.bipush (-4), 2) := by decide +kernel
theorem dX12_asks_70 : decode cX12_asks 70 = .ok (.istore_n 3, 1) := by decide +kernel
theorem dX12_asks_71 : decode cX12_asks 71 = .ok (.iload_n 3, 1) := by decide +kernel
theorem dX12_asks_72 : decode cX12_asks 72 = .ok (.ifCond .lt 9, 3) := by decide +kernel
theorem dX12_asks_75 : decode cX12_asks 75 = .ok (.aload_n 1, 1) := by decide +kernel
theorem dX12_asks_76 : decode cX12_asks 76 = .ok (.iload_n 2, 1) := by decide +kernel
theorem dX12_asks_77 : decode cX12_asks 77 = .ok (.iload_n 3, 1) := by decide +kernel
theorem dX12_asks_78 : decode cX12_asks 78 = .ok (.invokestatic 179, 3) := by decide +kernel
theorem dX12_asks_81 : decode cX12_asks 81 = .ok (.return_, 1) := by decide +kernel
theorem dX12_waits_0 : decode cX12_waits 0 = .ok (.iconst 0, 1) := by decide +kernel
theorem dX12_waits_1 : decode cX12_waits 1 = .ok (.istore_n 2, 1) := by decide +kernel
theorem dX12_waits_2 : decode cX12_waits 2 = .ok (.iload_n 2, 1) := by decide +kernel
theorem dX12_waits_3 : decode cX12_waits 3 = .ok (.aload_n 1, 1) := by decide +kernel
theorem dX12_waits_4 : decode cX12_waits 4 = .ok (.iconst 0, 1) := by decide +kernel
theorem dX12_waits_5 : decode cX12_waits 5 = .ok (.iaload, 1) := by decide +kernel
theorem dX12_waits_6 : decode cX12_waits 6 = .ok (.if_icmp .ge 98, 3) := by decide +kernel
theorem dX12_waits_9 : decode cX12_waits 9 = .ok (.iconst 0, 1) := by decide +kernel
theorem dX12_waits_10 : decode cX12_waits 10 = .ok (.istore_n 3, 1) := by decide +kernel
theorem dX12_waits_11 : decode cX12_waits 11 = .ok (.iload_n 3, 1) := by decide +kernel
theorem dX12_waits_12 : decode cX12_waits 12 = .ok (.aload_n 1, 1) := by decide +kernel
theorem dX12_waits_13 : decode cX12_waits 13 = .ok (.iload_n 2, 1) := by decide +kernel
theorem dX12_waits_14 : decode cX12_waits 14 = .ok (.invokestatic 99, 3) := by decide +kernel
theorem dX12_waits_17 : decode cX12_waits 17 = .ok (.if_icmp .ge 81, 3) := by decide +kernel
theorem dX12_waits_20 : decode cX12_waits 20 = .ok (.bipush 74, 2) := by decide +kernel
theorem dX12_waits_22 : decode cX12_waits 22 = .ok (.bipush 25, 2) := by decide +kernel
theorem dX12_waits_24 : decode cX12_waits 24 = .ok (.iload_n 2, 1) := by decide +kernel
theorem dX12_waits_25 : decode cX12_waits 25 = .ok (.imul, 1) := by decide +kernel
theorem dX12_waits_26 : decode cX12_waits 26 = .ok (.iadd, 1) := by decide +kernel
theorem dX12_waits_27 : decode cX12_waits 27 = .ok (.istore 4, 2) := by decide +kernel
theorem dX12_waits_29 : decode cX12_waits 29 = .ok (.aload_n 1, 1) := by decide +kernel
theorem dX12_waits_30 : decode cX12_waits 30 = .ok (.iload 4, 2) := by decide +kernel
theorem dX12_waits_32 : decode cX12_waits 32 = .ok (.bipush 13, 2) := by decide +kernel
theorem dX12_waits_34 : decode cX12_waits 34 = .ok (.iadd, 1) := by decide +kernel
theorem dX12_waits_35 : decode cX12_waits 35 = .ok (.iload_n 3, 1) := by decide +kernel
theorem dX12_waits_36 : decode cX12_waits 36 = .ok (.iadd, 1) := by decide +kernel
theorem dX12_waits_37 : decode cX12_waits 37 = .ok (.dup2, 1) := by decide +kernel
theorem dX12_waits_38 : decode cX12_waits 38 = .ok (.iaload, 1) := by decide +kernel
theorem dX12_waits_39 : decode cX12_waits 39 = .ok (.iconst 1, 1) := by decide +kernel
theorem dX12_waits_40 : decode cX12_waits 40 = .ok (.iadd, 1) := by decide +kernel
theorem dX12_waits_41 : decode cX12_waits 41 = .ok (.iastore, 1) := by decide +kernel
theorem dX12_waits_42 : decode cX12_waits 42 = .ok (.aload_n 1, 1) := by decide +kernel
theorem dX12_waits_43 : decode cX12_waits 43 = .ok (.iconst 5, 1) := by decide +kernel
theorem dX12_waits_44 : decode cX12_waits 44 = .ok (.dup2, 1) := by decide +kernel
theorem dX12_waits_45 : decode cX12_waits 45 = .ok (.iaload, 1) := by decide +kernel
theorem dX12_waits_46 : decode cX12_waits 46 = .ok (.iconst 1, 1) := by decide +kernel
theorem dX12_waits_47 : decode cX12_waits 47 = .ok (.iadd, 1) := by decide +kernel
theorem dX12_waits_48 : decode cX12_waits 48 = .ok (.iastore, 1) := by decide +kernel
theorem dX12_waits_49 : decode cX12_waits 49 = .ok (.aload_n 1, 1) := by decide +kernel
theorem dX12_waits_50 : decode cX12_waits 50 = .ok (.iload 4, 2) := by decide +kernel
theorem dX12_waits_52 : decode cX12_waits 52 = .ok (.bipush 13, 2) := by decide +kernel
theorem dX12_waits_54 : decode cX12_waits 54 = .ok (.iadd, 1) := by decide +kernel
theorem dX12_waits_55 : decode cX12_waits 55 = .ok (.iload_n 3, 1) := by decide +kernel
theorem dX12_waits_56 : decode cX12_waits 56 = .ok (.iadd, 1) := by decide +kernel
theorem dX12_waits_57 : decode cX12_waits 57 = .ok (.iaload, 1) := by decide +kernel
theorem dX12_waits_58 : decode cX12_waits 58 = .ok (.aload_n 1, 1) := by decide +kernel
theorem dX12_waits_59 : decode cX12_waits 59 = .ok (.aload_n 1, 1) := by decide +kernel
theorem dX12_waits_60 : decode cX12_waits 60 = .ok (.iload 4, 2) := by decide +kernel
theorem dX12_waits_62 : decode cX12_waits 62 = .ok (.iconst 1, 1) := by decide +kernel
theorem dX12_waits_63 : decode cX12_waits 63 = .ok (.iadd, 1) := by decide +kernel
theorem dX12_waits_64 : decode cX12_waits 64 = .ok (.iload_n 3, 1) := by decide +kernel
theorem dX12_waits_65 : decode cX12_waits 65 = .ok (.iadd, 1) := by decide +kernel
theorem dX12_waits_66 : decode cX12_waits 66 = .ok (.iaload, 1) := by decide +kernel
theorem dX12_waits_67 : decode cX12_waits 67 = .ok (.iconst 3, 1) := by decide +kernel
theorem dX12_waits_68 : decode cX12_waits 68 = .ok (.invokestatic 107, 3) := by decide +kernel
theorem dX12_waits_71 : decode cX12_waits 71 = .ok (.if_icmp .lt 21, 3) := by decide +kernel
theorem dX12_waits_74 : decode cX12_waits 74 = .ok (.aload_n 1, 1) := by decide +kernel
theorem dX12_waits_75 : decode cX12_waits 75 = .ok (.bipush 6, 2) := by decide +kernel
theorem dX12_waits_77 : decode cX12_waits 77 = .ok (.dup2, 1) := by decide +kernel
theorem dX12_waits_78 : decode cX12_waits 78 = .ok (.iaload, 1) := by decide +kernel
theorem dX12_waits_79 : decode cX12_waits 79 = .ok (.iconst 1, 1) := by decide +kernel
theorem dX12_waits_80 : decode cX12_waits 80 = .ok (.iadd, 1) := by decide +kernel
theorem dX12_waits_81 : decode cX12_waits 81 = .ok (.iastore, 1) := by decide +kernel
theorem dX12_waits_82 : decode cX12_waits 82 = .ok (.aload_n 0, 1) := by decide +kernel
theorem dX12_waits_83 : decode cX12_waits 83 = .ok (.aload_n 1, 1) := by decide +kernel
theorem dX12_waits_84 : decode cX12_waits 84 = .ok (.iload_n 2, 1) := by decide +kernel
theorem dX12_waits_85 : decode cX12_waits 85 = .ok (.iload_n 3, 1) := by decide +kernel
theorem dX12_waits_86 : decode cX12_waits 86 = .ok (.invokevirtual 166, 3) := by decide +kernel
theorem dX12_waits_89 : decode cX12_waits 89 = .ok (.goto 6, 3) := by decide +kernel
theorem dX12_waits_92 : decode cX12_waits 92 = .ok (.iinc 3 1, 3) := by decide +kernel
theorem dX12_waits_95 : decode cX12_waits 95 = .ok (.goto (-84), 3) := by decide +kernel
theorem dX12_waits_98 : decode cX12_waits 98 = .ok (.iinc 2 1, 3) := by decide +kernel
theorem dX12_waits_101 : decode cX12_waits 101 = .ok (.goto (-99), 3) := by decide +kernel
theorem dX12_waits_104 : decode cX12_waits 104 = .ok (.return_, 1) := by decide +kernel
theorem dX12_minute_0 : decode cX12_minute 0 = .ok (.aload_n 0, 1) := by decide +kernel
theorem dX12_minute_1 : decode cX12_minute 1 = .ok (.aload_n 1, 1) := by decide +kernel
theorem dX12_minute_2 : decode cX12_minute 2 = .ok (.invokevirtual 182, 3) := by decide +kernel
theorem dX12_minute_5 : decode cX12_minute 5 = .ok (.iconst 0, 1) := by decide +kernel
theorem dX12_minute_6 : decode cX12_minute 6 = .ok (.istore_n 3, 1) := by decide +kernel
theorem dX12_minute_7 : decode cX12_minute 7 = .ok (.iload_n 3, 1) := by decide +kernel
theorem dX12_minute_8 : decode cX12_minute 8 = .ok (.iload_n 2, 1) := by decide +kernel
theorem dX12_minute_9 : decode cX12_minute 9 = .ok (.if_icmp .ge 15, 3) := by decide +kernel
theorem dX12_minute_12 : decode cX12_minute 12 = .ok (.aload_n 0, 1) := by decide +kernel
theorem dX12_minute_13 : decode cX12_minute 13 = .ok (.aload_n 1, 1) := by decide +kernel
theorem dX12_minute_14 : decode cX12_minute 14 = .ok (.iload_n 3, 1) := by decide +kernel
theorem dX12_minute_15 : decode cX12_minute 15 = .ok (.invokevirtual 186, 3) := by decide +kernel
theorem dX12_minute_18 : decode cX12_minute 18 = .ok (.iinc 3 1, 3) := by decide +kernel
theorem dX12_minute_21 : decode cX12_minute 21 = .ok (.goto (-14), 3) := by decide +kernel
theorem dX12_minute_24 : decode cX12_minute 24 = .ok (.iconst 0, 1) := by decide +kernel
theorem dX12_minute_25 : decode cX12_minute 25 = .ok (.istore_n 3, 1) := by decide +kernel
theorem dX12_minute_26 : decode cX12_minute 26 = .ok (.iload_n 3, 1) := by decide +kernel
theorem dX12_minute_27 : decode cX12_minute 27 = .ok (.iload_n 2, 1) := by decide +kernel
theorem dX12_minute_28 : decode cX12_minute 28 = .ok (.if_icmp .ge 15, 3) := by decide +kernel
theorem dX12_minute_31 : decode cX12_minute 31 = .ok (.aload_n 0, 1) := by decide +kernel
theorem dX12_minute_32 : decode cX12_minute 32 = .ok (.aload_n 1, 1) := by decide +kernel
theorem dX12_minute_33 : decode cX12_minute 33 = .ok (.iload_n 3, 1) := by decide +kernel
theorem dX12_minute_34 : decode cX12_minute 34 = .ok (.invokevirtual 190, 3) := by decide +kernel
theorem dX12_minute_37 : decode cX12_minute 37 = .ok (.iinc 3 1, 3) := by decide +kernel
theorem dX12_minute_40 : decode cX12_minute 40 = .ok (.goto (-14), 3) := by decide +kernel
theorem dX12_minute_43 : decode cX12_minute 43 = .ok (.iconst 0, 1) := by decide +kernel
theorem dX12_minute_44 : decode cX12_minute 44 = .ok (.istore_n 3, 1) := by decide +kernel
theorem dX12_minute_45 : decode cX12_minute 45 = .ok (.iload_n 3, 1) := by decide +kernel
theorem dX12_minute_46 : decode cX12_minute 46 = .ok (.iload_n 2, 1) := by decide +kernel
theorem dX12_minute_47 : decode cX12_minute 47 = .ok (.if_icmp .ge 15, 3) := by decide +kernel
theorem dX12_minute_50 : decode cX12_minute 50 = .ok (.aload_n 0, 1) := by decide +kernel
theorem dX12_minute_51 : decode cX12_minute 51 = .ok (.aload_n 1, 1) := by decide +kernel
theorem dX12_minute_52 : decode cX12_minute 52 = .ok (.iload_n 3, 1) := by decide +kernel
theorem dX12_minute_53 : decode cX12_minute 53 = .ok (.invokevirtual 193, 3) := by decide +kernel
theorem dX12_minute_56 : decode cX12_minute 56 = .ok (.iinc 3 1, 3) := by decide +kernel
theorem dX12_minute_59 : decode cX12_minute 59 = .ok (.goto (-14), 3) := by decide +kernel
theorem dX12_minute_62 : decode cX12_minute 62 = .ok (.aload_n 0, 1) := by decide +kernel
theorem dX12_minute_63 : decode cX12_minute 63 = .ok (.aload_n 1, 1) := by decide +kernel
theorem dX12_minute_64 : decode cX12_minute 64 = .ok (.invokevirtual 196, 3) := by decide +kernel
theorem dX12_minute_67 : decode cX12_minute 67 = .ok (.aload_n 1, 1) := by decide +kernel
theorem dX12_minute_68 : decode cX12_minute 68 = .ok (.iconst 3, 1) := by decide +kernel
theorem dX12_minute_69 : decode cX12_minute 69 = .ok (.dup2, 1) := by decide +kernel
theorem dX12_minute_70 : decode cX12_minute 70 = .ok (.iaload, 1) := by decide +kernel
theorem dX12_minute_71 : decode cX12_minute 71 = .ok (.iconst 1, 1) := by decide +kernel
theorem dX12_minute_72 : decode cX12_minute 72 = .ok (.iadd, 1) := by decide +kernel
theorem dX12_minute_73 : decode cX12_minute 73 = .ok (.iastore, 1) := by decide +kernel
theorem dX12_minute_74 : decode cX12_minute 74 = .ok (.return_, 1) := by decide +kernel
theorem dX12_wrongRule_0 : decode cX12_wrongRule 0 = .ok (.iload_n 1, 1) := by decide +kernel
theorem dX12_wrongRule_1 : decode cX12_wrongRule 1 = .ok (.invokestatic 117, 3) := by decide +kernel
theorem dX12_wrongRule_4 : decode cX12_wrongRule 4 = .ok (.ifCond .ne 7, 3) := by decide +kernel
theorem dX12_wrongRule_7 : decode cX12_wrongRule 7 = .ok (.iconst (-1), 1) := by decide +kernel
theorem dX12_wrongRule_8 : decode cX12_wrongRule 8 = .ok (.goto 33, 3) := by decide +kernel
theorem dX12_wrongRule_11 : decode cX12_wrongRule 11 = .ok (.aload_n 0, 1) := by decide +kernel
theorem dX12_wrongRule_12 : decode cX12_wrongRule 12 = .ok (.getfield 22, 3) := by decide +kernel
theorem dX12_wrongRule_15 : decode cX12_wrongRule 15 = .ok (.iload_n 1, 1) := by decide +kernel
theorem dX12_wrongRule_16 : decode cX12_wrongRule 16 = .ok (.iaload, 1) := by decide +kernel
theorem dX12_wrongRule_17 : decode cX12_wrongRule 17 = .ok (.ifCond .ne 8, 3) := by decide +kernel
theorem dX12_wrongRule_20 : decode cX12_wrongRule 20 = .ok (.bipush (-11), 2) := by decide +kernel
theorem dX12_wrongRule_22 : decode cX12_wrongRule 22 = .ok (.goto 19, 3) := by decide +kernel
theorem dX12_wrongRule_25 : decode cX12_wrongRule 25 = .ok (.aload_n 0, 1) := by decide +kernel
theorem dX12_wrongRule_26 : decode cX12_wrongRule 26 = .ok (.getfield 22, 3) := by decide +kernel
theorem dX12_wrongRule_29 : decode cX12_wrongRule 29 = .ok (.iload_n 1, 1) := by decide +kernel
theorem dX12_wrongRule_30 : decode cX12_wrongRule 30 = .ok (.iaload, 1) := by decide +kernel
theorem dX12_wrongRule_31 : decode cX12_wrongRule 31 = .ok (.iconst 1, 1) := by decide +kernel
theorem dX12_wrongRule_32 : decode cX12_wrongRule 32 = .ok (.if_icmp .ne 7, 3) := by decide +kernel
theorem dX12_wrongRule_35 : decode cX12_wrongRule 35 = .ok (.iconst 0, 1) := by decide +kernel
theorem dX12_wrongRule_36 : decode cX12_wrongRule 36 = .ok (.goto 5, 3) := by decide +kernel
theorem dX12_wrongRule_39 : decode cX12_wrongRule 39 = .ok (.bipush (-12), 2) := by decide +kernel
theorem dX12_wrongRule_41 : decode cX12_wrongRule 41 = .ok (.ireturn, 1) := by decide +kernel
theorem dX12_rule_0 : decode cX12_rule 0 = .ok (.aload_n 0, 1) := by decide +kernel
theorem dX12_rule_1 : decode cX12_rule 1 = .ok (.iload_n 1, 1) := by decide +kernel
theorem dX12_rule_2 : decode cX12_rule 2 = .ok (.invokevirtual 199, 3) := by decide +kernel
theorem dX12_rule_5 : decode cX12_rule 5 = .ok (.istore_n 2, 1) := by decide +kernel
theorem dX12_rule_6 : decode cX12_rule 6 = .ok (.iload_n 2, 1) := by decide +kernel
theorem dX12_rule_7 : decode cX12_rule 7 = .ok (.ifCond .eq 5, 3) := by decide +kernel
theorem dX12_rule_10 : decode cX12_rule 10 = .ok (.iload_n 2, 1) := by decide +kernel
theorem dX12_rule_11 : decode cX12_rule 11 = .ok (.ireturn, 1) := by decide +kernel
theorem dX12_rule_12 : decode cX12_rule 12 = .ok (.aload_n 0, 1) := by decide +kernel
theorem dX12_rule_13 : decode cX12_rule 13 = .ok (.getfield 9, 3) := by decide +kernel
theorem dX12_rule_16 : decode cX12_rule 16 = .ok (.iconst 0, 1) := by decide +kernel
theorem dX12_rule_17 : decode cX12_rule 17 = .ok (.iconst 4, 1) := by decide +kernel
theorem dX12_rule_18 : decode cX12_rule 18 = .ok (.aload_n 0, 1) := by decide +kernel
theorem dX12_rule_19 : decode cX12_rule 19 = .ok (.getfield 34, 3) := by decide +kernel
theorem dX12_rule_22 : decode cX12_rule 22 = .ok (.iload_n 1, 1) := by decide +kernel
theorem dX12_rule_23 : decode cX12_rule 23 = .ok (.iaload, 1) := by decide +kernel
theorem dX12_rule_24 : decode cX12_rule 24 = .ok (.invokestatic 57, 3) := by decide +kernel
theorem dX12_rule_27 : decode cX12_rule 27 = .ok (.aload_n 0, 1) := by decide +kernel
theorem dX12_rule_28 : decode cX12_rule 28 = .ok (.getfield 9, 3) := by decide +kernel
theorem dX12_rule_31 : decode cX12_rule 31 = .ok (.iconst 0, 1) := by decide +kernel
theorem dX12_rule_32 : decode cX12_rule 32 = .ok (.iconst 5, 1) := by decide +kernel
theorem dX12_rule_33 : decode cX12_rule 33 = .ok (.aload_n 0, 1) := by decide +kernel
theorem dX12_rule_34 : decode cX12_rule 34 = .ok (.getfield 37, 3) := by decide +kernel
theorem dX12_rule_37 : decode cX12_rule 37 = .ok (.iload_n 1, 1) := by decide +kernel
theorem dX12_rule_38 : decode cX12_rule 38 = .ok (.iaload, 1) := by decide +kernel
theorem dX12_rule_39 : decode cX12_rule 39 = .ok (.invokestatic 57, 3) := by decide +kernel
theorem dX12_rule_42 : decode cX12_rule 42 = .ok (.aload_n 0, 1) := by decide +kernel
theorem dX12_rule_43 : decode cX12_rule 43 = .ok (.getfield 34, 3) := by decide +kernel
theorem dX12_rule_46 : decode cX12_rule 46 = .ok (.iload_n 1, 1) := by decide +kernel
theorem dX12_rule_47 : decode cX12_rule 47 = .ok (.iaload, 1) := by decide +kernel
theorem dX12_rule_48 : decode cX12_rule 48 = .ok (.ireturn, 1) := by decide +kernel
theorem dX12_go_0 : decode cX12_go 0 = .ok (.iload_n 1, 1) := by decide +kernel
theorem dX12_go_1 : decode cX12_go 1 = .ok (.i2l, 1) := by decide +kernel
theorem dX12_go_2 : decode cX12_go 2 = .ok (.lconst 1, 1) := by decide +kernel
theorem dX12_go_3 : decode cX12_go 3 = .ok (.ldc2_w 203, 3) := by decide +kernel
theorem dX12_go_6 : decode cX12_go 6 = .ok (.invokestatic 51, 3) := by decide +kernel
theorem dX12_go_9 : decode cX12_go 9 = .ok (.ifCond .ne 5, 3) := by decide +kernel
theorem dX12_go_12 : decode cX12_go 12 = .ok (.iconst (-1), 1) := by decide +kernel
theorem dX12_go_13 : decode cX12_go 13 = .ok (.ireturn, 1) := by decide +kernel
theorem dX12_go_14 : decode cX12_go 14 = .ok (.aload_n 0, 1) := by decide +kernel
theorem dX12_go_15 : decode cX12_go 15 = .ok (.getfield 9, 3) := by decide +kernel
theorem dX12_go_18 : decode cX12_go 18 = .ok (.iconst 3, 1) := by decide +kernel
theorem dX12_go_19 : decode cX12_go 19 = .ok (.iaload, 1) := by decide +kernel
theorem dX12_go_20 : decode cX12_go 20 = .ok (.iload_n 1, 1) := by decide +kernel
theorem dX12_go_21 : decode cX12_go 21 = .ok (.iadd, 1) := by decide +kernel
theorem dX12_go_22 : decode cX12_go 22 = .ok (.sipush 999, 3) := by decide +kernel
theorem dX12_go_25 : decode cX12_go 25 = .ok (.if_icmp .le 6, 3) := by decide +kernel
theorem dX12_go_28 : decode cX12_go 28 = .ok (.bipush (-2), 2) := by decide +kernel
theorem dX12_go_30 : decode cX12_go 30 = .ok (.ireturn, 1) := by decide +kernel
theorem dX12_go_31 : decode cX12_go 31 = .ok (.aload_n 0, 1) := by decide +kernel
theorem dX12_go_32 : decode cX12_go 32 = .ok (.iconst 0, 1) := by decide +kernel
theorem dX12_go_33 : decode cX12_go 33 = .ok (.putfield 173, 3) := by decide +kernel
theorem dX12_go_36 : decode cX12_go 36 = .ok (.iconst 0, 1) := by decide +kernel
theorem dX12_go_37 : decode cX12_go 37 = .ok (.istore_n 2, 1) := by decide +kernel
theorem dX12_go_38 : decode cX12_go 38 = .ok (.iload_n 2, 1) := by decide +kernel
theorem dX12_go_39 : decode cX12_go 39 = .ok (.iload_n 1, 1) := by decide +kernel
theorem dX12_go_40 : decode cX12_go 40 = .ok (.if_icmp .ge 18, 3) := by decide +kernel
theorem dX12_go_43 : decode cX12_go 43 = .ok (.aload_n 0, 1) := by decide +kernel
theorem dX12_go_44 : decode cX12_go 44 = .ok (.aload_n 0, 1) := by decide +kernel
theorem dX12_go_45 : decode cX12_go 45 = .ok (.getfield 9, 3) := by decide +kernel
theorem dX12_go_48 : decode cX12_go 48 = .ok (.iconst 1, 1) := by decide +kernel
theorem dX12_go_49 : decode cX12_go 49 = .ok (.invokevirtual 205, 3) := by decide +kernel
theorem dX12_go_52 : decode cX12_go 52 = .ok (.iinc 2 1, 3) := by decide +kernel
theorem dX12_go_55 : decode cX12_go 55 = .ok (.goto (-17), 3) := by decide +kernel
theorem dX12_go_58 : decode cX12_go 58 = .ok (.aload_n 0, 1) := by decide +kernel
theorem dX12_go_59 : decode cX12_go 59 = .ok (.getfield 9, 3) := by decide +kernel
theorem dX12_go_62 : decode cX12_go 62 = .ok (.iconst 3, 1) := by decide +kernel
theorem dX12_go_63 : decode cX12_go 63 = .ok (.iaload, 1) := by decide +kernel
theorem dX12_go_64 : decode cX12_go 64 = .ok (.ireturn, 1) := by decide +kernel
theorem dX12_tell_0 : decode cX12_tell 0 = .ok (.aload_n 0, 1) := by decide +kernel
theorem dX12_tell_1 : decode cX12_tell 1 = .ok (.iload_n 1, 1) := by decide +kernel
theorem dX12_tell_2 : decode cX12_tell 2 = .ok (.invokevirtual 130, 3) := by decide +kernel
theorem dX12_tell_5 : decode cX12_tell 5 = .ok (.ifCond .ne 5, 3) := by decide +kernel
theorem dX12_tell_8 : decode cX12_tell 8 = .ok (.iconst (-1), 1) := by decide +kernel
theorem dX12_tell_9 : decode cX12_tell 9 = .ok (.ireturn, 1) := by decide +kernel
theorem dX12_tell_10 : decode cX12_tell 10 = .ok (.aload_n 0, 1) := by decide +kernel
theorem dX12_tell_11 : decode cX12_tell 11 = .ok (.getfield 9, 3) := by decide +kernel
theorem dX12_tell_14 : decode cX12_tell 14 = .ok (.iconst 0, 1) := by decide +kernel
theorem dX12_tell_15 : decode cX12_tell 15 = .ok (.invokestatic 163, 3) := by decide +kernel
theorem dX12_tell_18 : decode cX12_tell 18 = .ok (.ifCond .eq 16, 3) := by decide +kernel
theorem dX12_tell_21 : decode cX12_tell 21 = .ok (.aload_n 0, 1) := by decide +kernel
theorem dX12_tell_22 : decode cX12_tell 22 = .ok (.getfield 9, 3) := by decide +kernel
theorem dX12_tell_25 : decode cX12_tell 25 = .ok (.iconst 0, 1) := by decide +kernel
theorem dX12_tell_26 : decode cX12_tell 26 = .ok (.iconst 0, 1) := by decide +kernel
theorem dX12_tell_27 : decode cX12_tell 27 = .ok (.invokestatic 103, 3) := by decide +kernel
theorem dX12_tell_30 : decode cX12_tell 30 = .ok (.iload_n 1, 1) := by decide +kernel
theorem dX12_tell_31 : decode cX12_tell 31 = .ok (.if_icmp .ne 6, 3) := by decide +kernel
theorem dX12_tell_34 : decode cX12_tell 34 = .ok (.bipush (-3), 2) := by decide +kernel
theorem dX12_tell_36 : decode cX12_tell 36 = .ok (.ireturn, 1) := by decide +kernel
theorem dX12_tell_37 : decode cX12_tell 37 = .ok (.aload_n 0, 1) := by decide +kernel
theorem dX12_tell_38 : decode cX12_tell 38 = .ok (.getfield 9, 3) := by decide +kernel
theorem dX12_tell_41 : decode cX12_tell 41 = .ok (.iconst 0, 1) := by decide +kernel
theorem dX12_tell_42 : decode cX12_tell 42 = .ok (.iload_n 1, 1) := by decide +kernel
theorem dX12_tell_43 : decode cX12_tell 43 = .ok (.invokestatic 179, 3) := by decide +kernel
theorem dX12_tell_46 : decode cX12_tell 46 = .ok (.aload_n 0, 1) := by decide +kernel
theorem dX12_tell_47 : decode cX12_tell 47 = .ok (.getfield 9, 3) := by decide +kernel
theorem dX12_tell_50 : decode cX12_tell 50 = .ok (.iconst 0, 1) := by decide +kernel
theorem dX12_tell_51 : decode cX12_tell 51 = .ok (.iconst 2, 1) := by decide +kernel
theorem dX12_tell_52 : decode cX12_tell 52 = .ok (.invokestatic 103, 3) := by decide +kernel
theorem dX12_tell_55 : decode cX12_tell 55 = .ok (.ireturn, 1) := by decide +kernel
theorem dX12_boat_0 : decode cX12_boat 0 = .ok (.iload_n 1, 1) := by decide +kernel
theorem dX12_boat_1 : decode cX12_boat 1 = .ok (.tableswitch 85 0 4 #[35, 45, 55, 65, 75], 35) := by decide +kernel
theorem dX12_boat_36 : decode cX12_boat 36 = .ok (.aload_n 0, 1) := by decide +kernel
theorem dX12_boat_37 : decode cX12_boat 37 = .ok (.getfield 9, 3) := by decide +kernel
theorem dX12_boat_40 : decode cX12_boat 40 = .ok (.iconst 0, 1) := by decide +kernel
theorem dX12_boat_41 : decode cX12_boat 41 = .ok (.iconst 0, 1) := by decide +kernel
theorem dX12_boat_42 : decode cX12_boat 42 = .ok (.invokestatic 103, 3) := by decide +kernel
theorem dX12_boat_45 : decode cX12_boat 45 = .ok (.ireturn, 1) := by decide +kernel
theorem dX12_boat_46 : decode cX12_boat 46 = .ok (.aload_n 0, 1) := by decide +kernel
theorem dX12_boat_47 : decode cX12_boat 47 = .ok (.getfield 9, 3) := by decide +kernel
theorem dX12_boat_50 : decode cX12_boat 50 = .ok (.iconst 0, 1) := by decide +kernel
theorem dX12_boat_51 : decode cX12_boat 51 = .ok (.iconst 1, 1) := by decide +kernel
theorem dX12_boat_52 : decode cX12_boat 52 = .ok (.invokestatic 103, 3) := by decide +kernel
theorem dX12_boat_55 : decode cX12_boat 55 = .ok (.ireturn, 1) := by decide +kernel
theorem dX12_boat_56 : decode cX12_boat 56 = .ok (.aload_n 0, 1) := by decide +kernel
theorem dX12_boat_57 : decode cX12_boat 57 = .ok (.getfield 9, 3) := by decide +kernel
theorem dX12_boat_60 : decode cX12_boat 60 = .ok (.iconst 0, 1) := by decide +kernel
theorem dX12_boat_61 : decode cX12_boat 61 = .ok (.iconst 2, 1) := by decide +kernel
theorem dX12_boat_62 : decode cX12_boat 62 = .ok (.invokestatic 103, 3) := by decide +kernel
theorem dX12_boat_65 : decode cX12_boat 65 = .ok (.ireturn, 1) := by decide +kernel
theorem dX12_boat_66 : decode cX12_boat 66 = .ok (.aload_n 0, 1) := by decide +kernel
theorem dX12_boat_67 : decode cX12_boat 67 = .ok (.getfield 9, 3) := by decide +kernel
theorem dX12_boat_70 : decode cX12_boat 70 = .ok (.iconst 0, 1) := by decide +kernel
theorem dX12_boat_71 : decode cX12_boat 71 = .ok (.iconst 3, 1) := by decide +kernel
theorem dX12_boat_72 : decode cX12_boat 72 = .ok (.invokestatic 103, 3) := by decide +kernel
theorem dX12_boat_75 : decode cX12_boat 75 = .ok (.ireturn, 1) := by decide +kernel
theorem dX12_boat_76 : decode cX12_boat 76 = .ok (.aload_n 0, 1) := by decide +kernel
theorem dX12_boat_77 : decode cX12_boat 77 = .ok (.getfield 9, 3) := by decide +kernel
theorem dX12_boat_80 : decode cX12_boat 80 = .ok (.iconst 0, 1) := by decide +kernel
theorem dX12_boat_81 : decode cX12_boat 81 = .ok (.iconst 4, 1) := by decide +kernel
theorem dX12_boat_82 : decode cX12_boat 82 = .ok (.invokestatic 103, 3) := by decide +kernel
theorem dX12_boat_85 : decode cX12_boat 85 = .ok (.ireturn, 1) := by decide +kernel
theorem dX12_boat_86 : decode cX12_boat 86 = .ok (.iconst (-1), 1) := by decide +kernel
theorem dX12_boat_87 : decode cX12_boat 87 = .ok (.ireturn, 1) := by decide +kernel
theorem dX12_stand_0 : decode cX12_stand 0 = .ok (.aload_n 0, 1) := by decide +kernel
theorem dX12_stand_1 : decode cX12_stand 1 = .ok (.iload_n 1, 1) := by decide +kernel
theorem dX12_stand_2 : decode cX12_stand 2 = .ok (.invokevirtual 130, 3) := by decide +kernel
theorem dX12_stand_5 : decode cX12_stand 5 = .ok (.ifCond .eq 18, 3) := by decide +kernel
theorem dX12_stand_8 : decode cX12_stand 8 = .ok (.iload_n 2, 1) := by decide +kernel
theorem dX12_stand_9 : decode cX12_stand 9 = .ok (.iconst (-1), 1) := by decide +kernel
theorem dX12_stand_10 : decode cX12_stand 10 = .ok (.if_icmp .lt 13, 3) := by decide +kernel
theorem dX12_stand_13 : decode cX12_stand 13 = .ok (.iload_n 3, 1) := by decide +kernel
theorem dX12_stand_14 : decode cX12_stand 14 = .ok (.i2l, 1) := by decide +kernel
theorem dX12_stand_15 : decode cX12_stand 15 = .ok (.lconst 0, 1) := by decide +kernel
theorem dX12_stand_16 : decode cX12_stand 16 = .ok (.lconst 1, 1) := by decide +kernel
theorem dX12_stand_17 : decode cX12_stand 17 = .ok (.invokestatic 51, 3) := by decide +kernel
theorem dX12_stand_20 : decode cX12_stand 20 = .ok (.ifCond .ne 5, 3) := by decide +kernel
theorem dX12_stand_23 : decode cX12_stand 23 = .ok (.iconst (-1), 1) := by decide +kernel
theorem dX12_stand_24 : decode cX12_stand 24 = .ok (.ireturn, 1) := by decide +kernel
theorem dX12_stand_25 : decode cX12_stand 25 = .ok (.iload_n 2, 1) := by decide +kernel
theorem dX12_stand_26 : decode cX12_stand 26 = .ok (.ifCond .ge 12, 3) := by decide +kernel
theorem dX12_stand_29 : decode cX12_stand 29 = .ok (.aload_n 0, 1) := by decide +kernel
theorem dX12_stand_30 : decode cX12_stand 30 = .ok (.getfield 9, 3) := by decide +kernel
theorem dX12_stand_33 : decode cX12_stand 33 = .ok (.iload_n 1, 1) := by decide +kernel
theorem dX12_stand_34 : decode cX12_stand 34 = .ok (.invokestatic 99, 3) := by decide +kernel
theorem dX12_stand_37 : decode cX12_stand 37 = .ok (.ireturn, 1) := by decide +kernel
theorem dX12_stand_38 : decode cX12_stand 38 = .ok (.iload_n 2, 1) := by decide +kernel
theorem dX12_stand_39 : decode cX12_stand 39 = .ok (.aload_n 0, 1) := by decide +kernel
theorem dX12_stand_40 : decode cX12_stand 40 = .ok (.getfield 9, 3) := by decide +kernel
theorem dX12_stand_43 : decode cX12_stand 43 = .ok (.iload_n 1, 1) := by decide +kernel
theorem dX12_stand_44 : decode cX12_stand 44 = .ok (.invokestatic 99, 3) := by decide +kernel
theorem dX12_stand_47 : decode cX12_stand 47 = .ok (.if_icmp .lt 8, 3) := by decide +kernel
theorem dX12_stand_50 : decode cX12_stand 50 = .ok (.bipush (-4), 2) := by decide +kernel
theorem dX12_stand_52 : decode cX12_stand 52 = .ok (.goto 35, 3) := by decide +kernel
theorem dX12_stand_55 : decode cX12_stand 55 = .ok (.iload_n 3, 1) := by decide +kernel
theorem dX12_stand_56 : decode cX12_stand 56 = .ok (.ifCond .ne 22, 3) := by decide +kernel
theorem dX12_stand_59 : decode cX12_stand 59 = .ok (.aload_n 0, 1) := by decide +kernel
theorem dX12_stand_60 : decode cX12_stand 60 = .ok (.getfield 9, 3) := by decide +kernel
theorem dX12_stand_63 : decode cX12_stand 63 = .ok (.bipush 74, 2) := by decide +kernel
theorem dX12_stand_65 : decode cX12_stand 65 = .ok (.bipush 25, 2) := by decide +kernel
theorem dX12_stand_67 : decode cX12_stand 67 = .ok (.iload_n 1, 1) := by decide +kernel
theorem dX12_stand_68 : decode cX12_stand 68 = .ok (.imul, 1) := by decide +kernel
theorem dX12_stand_69 : decode cX12_stand 69 = .ok (.iadd, 1) := by decide +kernel
theorem dX12_stand_70 : decode cX12_stand 70 = .ok (.iconst 1, 1) := by decide +kernel
theorem dX12_stand_71 : decode cX12_stand 71 = .ok (.iadd, 1) := by decide +kernel
theorem dX12_stand_72 : decode cX12_stand 72 = .ok (.iload_n 2, 1) := by decide +kernel
theorem dX12_stand_73 : decode cX12_stand 73 = .ok (.iadd, 1) := by decide +kernel
theorem dX12_stand_74 : decode cX12_stand 74 = .ok (.iaload, 1) := by decide +kernel
theorem dX12_stand_75 : decode cX12_stand 75 = .ok (.goto 12, 3) := by decide +kernel
theorem dX12_stand_78 : decode cX12_stand 78 = .ok (.aload_n 0, 1) := by decide +kernel
theorem dX12_stand_79 : decode cX12_stand 79 = .ok (.getfield 9, 3) := by decide +kernel
theorem dX12_stand_82 : decode cX12_stand 82 = .ok (.iload_n 1, 1) := by decide +kernel
theorem dX12_stand_83 : decode cX12_stand 83 = .ok (.iload_n 2, 1) := by decide +kernel
theorem dX12_stand_84 : decode cX12_stand 84 = .ok (.invokestatic 141, 3) := by decide +kernel
theorem dX12_stand_87 : decode cX12_stand 87 = .ok (.ireturn, 1) := by decide +kernel
theorem dX12_aboard_0 : decode cX12_aboard 0 = .ok (.iload_n 1, 1) := by decide +kernel
theorem dX12_aboard_1 : decode cX12_aboard 1 = .ok (.ifCond .ge 7, 3) := by decide +kernel
theorem dX12_aboard_4 : decode cX12_aboard 4 = .ok (.iconst (-1), 1) := by decide +kernel
theorem dX12_aboard_5 : decode cX12_aboard 5 = .ok (.goto 33, 3) := by decide +kernel
theorem dX12_aboard_8 : decode cX12_aboard 8 = .ok (.iload_n 1, 1) := by decide +kernel
theorem dX12_aboard_9 : decode cX12_aboard 9 = .ok (.aload_n 0, 1) := by decide +kernel
theorem dX12_aboard_10 : decode cX12_aboard 10 = .ok (.getfield 9, 3) := by decide +kernel
theorem dX12_aboard_13 : decode cX12_aboard 13 = .ok (.iconst 0, 1) := by decide +kernel
theorem dX12_aboard_14 : decode cX12_aboard 14 = .ok (.iconst 3, 1) := by decide +kernel
theorem dX12_aboard_15 : decode cX12_aboard 15 = .ok (.invokestatic 103, 3) := by decide +kernel
theorem dX12_aboard_18 : decode cX12_aboard 18 = .ok (.if_icmp .ge 18, 3) := by decide +kernel
theorem dX12_aboard_21 : decode cX12_aboard 21 = .ok (.aload_n 0, 1) := by decide +kernel
theorem dX12_aboard_22 : decode cX12_aboard 22 = .ok (.getfield 9, 3) := by decide +kernel
theorem dX12_aboard_25 : decode cX12_aboard 25 = .ok (.iconst 0, 1) := by decide +kernel
theorem dX12_aboard_26 : decode cX12_aboard 26 = .ok (.bipush 6, 2) := by decide +kernel
theorem dX12_aboard_28 : decode cX12_aboard 28 = .ok (.iload_n 1, 1) := by decide +kernel
theorem dX12_aboard_29 : decode cX12_aboard 29 = .ok (.iadd, 1) := by decide +kernel
theorem dX12_aboard_30 : decode cX12_aboard 30 = .ok (.invokestatic 103, 3) := by decide +kernel
theorem dX12_aboard_33 : decode cX12_aboard 33 = .ok (.goto 5, 3) := by decide +kernel
theorem dX12_aboard_36 : decode cX12_aboard 36 = .ok (.bipush (-4), 2) := by decide +kernel
theorem dX12_aboard_38 : decode cX12_aboard 38 = .ok (.ireturn, 1) := by decide +kernel
theorem dX12_told_0 : decode cX12_told 0 = .ok (.iload_n 1, 1) := by decide +kernel
theorem dX12_told_1 : decode cX12_told 1 = .ok (.i2l, 1) := by decide +kernel
theorem dX12_told_2 : decode cX12_told 2 = .ok (.lconst 0, 1) := by decide +kernel
theorem dX12_told_3 : decode cX12_told 3 = .ok (.ldc2_w 208, 3) := by decide +kernel
theorem dX12_told_6 : decode cX12_told 6 = .ok (.invokestatic 51, 3) := by decide +kernel
theorem dX12_told_9 : decode cX12_told 9 = .ok (.ifCond .eq 14, 3) := by decide +kernel
theorem dX12_told_12 : decode cX12_told 12 = .ok (.aload_n 0, 1) := by decide +kernel
theorem dX12_told_13 : decode cX12_told 13 = .ok (.getfield 9, 3) := by decide +kernel
theorem dX12_told_16 : decode cX12_told 16 = .ok (.iconst 5, 1) := by decide +kernel
theorem dX12_told_17 : decode cX12_told 17 = .ok (.iload_n 1, 1) := by decide +kernel
theorem dX12_told_18 : decode cX12_told 18 = .ok (.iadd, 1) := by decide +kernel
theorem dX12_told_19 : decode cX12_told 19 = .ok (.iaload, 1) := by decide +kernel
theorem dX12_told_20 : decode cX12_told 20 = .ok (.goto 4, 3) := by decide +kernel
theorem dX12_told_23 : decode cX12_told 23 = .ok (.iconst (-1), 1) := by decide +kernel
theorem dX12_told_24 : decode cX12_told 24 = .ok (.ireturn, 1) := by decide +kernel
theorem dX12_begins_0 : decode cX12_begins 0 = .ok (.iconst 0, 1) := by decide +kernel
theorem dX12_begins_1 : decode cX12_begins 1 = .ok (.istore 5, 2) := by decide +kernel
theorem dX12_begins_3 : decode cX12_begins 3 = .ok (.iload 5, 2) := by decide +kernel
theorem dX12_begins_5 : decode cX12_begins 5 = .ok (.sipush 174, 3) := by decide +kernel
theorem dX12_begins_8 : decode cX12_begins 8 = .ok (.if_icmp .ge 23, 3) := by decide +kernel
theorem dX12_begins_11 : decode cX12_begins 11 = .ok (.aload_n 0, 1) := by decide +kernel
theorem dX12_begins_12 : decode cX12_begins 12 = .ok (.getfield 16, 3) := by decide +kernel
theorem dX12_begins_15 : decode cX12_begins 15 = .ok (.iload 5, 2) := by decide +kernel
theorem dX12_begins_17 : decode cX12_begins 17 = .ok (.aload_n 0, 1) := by decide +kernel
theorem dX12_begins_18 : decode cX12_begins 18 = .ok (.getfield 9, 3) := by decide +kernel
theorem dX12_begins_21 : decode cX12_begins 21 = .ok (.iload 5, 2) := by decide +kernel
theorem dX12_begins_23 : decode cX12_begins 23 = .ok (.iaload, 1) := by decide +kernel
theorem dX12_begins_24 : decode cX12_begins 24 = .ok (.iastore, 1) := by decide +kernel
theorem dX12_begins_25 : decode cX12_begins 25 = .ok (.iinc 5 1, 3) := by decide +kernel
theorem dX12_begins_28 : decode cX12_begins 28 = .ok (.goto (-25), 3) := by decide +kernel
theorem dX12_begins_31 : decode cX12_begins 31 = .ok (.aload_n 0, 1) := by decide +kernel
theorem dX12_begins_32 : decode cX12_begins 32 = .ok (.getfield 16, 3) := by decide +kernel
theorem dX12_begins_35 : decode cX12_begins 35 = .ok (.iconst 4, 1) := by decide +kernel
theorem dX12_begins_36 : decode cX12_begins 36 = .ok (.iload_n 1, 1) := by decide +kernel
theorem dX12_begins_37 : decode cX12_begins 37 = .ok (.iastore, 1) := by decide +kernel
theorem dX12_begins_38 : decode cX12_begins 38 = .ok (.aload_n 0, 1) := by decide +kernel
theorem dX12_begins_39 : decode cX12_begins 39 = .ok (.getfield 16, 3) := by decide +kernel
theorem dX12_begins_42 : decode cX12_begins 42 = .ok (.iconst 3, 1) := by decide +kernel
theorem dX12_begins_43 : decode cX12_begins 43 = .ok (.iconst 0, 1) := by decide +kernel
theorem dX12_begins_44 : decode cX12_begins 44 = .ok (.iastore, 1) := by decide +kernel
theorem dX12_begins_45 : decode cX12_begins 45 = .ok (.iconst 0, 1) := by decide +kernel
theorem dX12_begins_46 : decode cX12_begins 46 = .ok (.istore 5, 2) := by decide +kernel
theorem dX12_begins_48 : decode cX12_begins 48 = .ok (.iload 5, 2) := by decide +kernel
theorem dX12_begins_50 : decode cX12_begins 50 = .ok (.iconst 4, 1) := by decide +kernel
theorem dX12_begins_51 : decode cX12_begins 51 = .ok (.if_icmp .ge 33, 3) := by decide +kernel
theorem dX12_begins_54 : decode cX12_begins 54 = .ok (.aload_n 0, 1) := by decide +kernel
theorem dX12_begins_55 : decode cX12_begins 55 = .ok (.getfield 16, 3) := by decide +kernel
theorem dX12_begins_58 : decode cX12_begins 58 = .ok (.iconst 5, 1) := by decide +kernel
theorem dX12_begins_59 : decode cX12_begins 59 = .ok (.iload 5, 2) := by decide +kernel
theorem dX12_begins_61 : decode cX12_begins 61 = .ok (.iadd, 1) := by decide +kernel
theorem dX12_begins_62 : decode cX12_begins 62 = .ok (.iconst 0, 1) := by decide +kernel
theorem dX12_begins_63 : decode cX12_begins 63 = .ok (.iastore, 1) := by decide +kernel
theorem dX12_begins_64 : decode cX12_begins 64 = .ok (.aload_n 0, 1) := by decide +kernel
theorem dX12_begins_65 : decode cX12_begins 65 = .ok (.getfield 16, 3) := by decide +kernel
theorem dX12_begins_68 : decode cX12_begins 68 = .ok (.bipush 74, 2) := by decide +kernel
theorem dX12_begins_70 : decode cX12_begins 70 = .ok (.bipush 25, 2) := by decide +kernel
theorem dX12_begins_72 : decode cX12_begins 72 = .ok (.iload 5, 2) := by decide +kernel
theorem dX12_begins_74 : decode cX12_begins 74 = .ok (.imul, 1) := by decide +kernel
theorem dX12_begins_75 : decode cX12_begins 75 = .ok (.iadd, 1) := by decide +kernel
theorem dX12_begins_76 : decode cX12_begins 76 = .ok (.iconst 0, 1) := by decide +kernel
theorem dX12_begins_77 : decode cX12_begins 77 = .ok (.iastore, 1) := by decide +kernel
theorem dX12_begins_78 : decode cX12_begins 78 = .ok (.iinc 5 1, 3) := by decide +kernel
theorem dX12_begins_81 : decode cX12_begins 81 = .ok (.goto (-33), 3) := by decide +kernel
theorem dX12_begins_84 : decode cX12_begins 84 = .ok (.aload_n 0, 1) := by decide +kernel
theorem dX12_begins_85 : decode cX12_begins 85 = .ok (.getfield 16, 3) := by decide +kernel
theorem dX12_begins_88 : decode cX12_begins 88 = .ok (.iconst 0, 1) := by decide +kernel
theorem dX12_begins_89 : decode cX12_begins 89 = .ok (.iload_n 2, 1) := by decide +kernel
theorem dX12_begins_90 : decode cX12_begins 90 = .ok (.iload_n 3, 1) := by decide +kernel
theorem dX12_begins_91 : decode cX12_begins 91 = .ok (.iload 4, 2) := by decide +kernel
theorem dX12_begins_93 : decode cX12_begins 93 = .ok (.invokestatic 43, 3) := by decide +kernel
theorem dX12_begins_96 : decode cX12_begins 96 = .ok (.aload_n 0, 1) := by decide +kernel
theorem dX12_begins_97 : decode cX12_begins 97 = .ok (.iconst 0, 1) := by decide +kernel
theorem dX12_begins_98 : decode cX12_begins 98 = .ok (.putfield 173, 3) := by decide +kernel
theorem dX12_begins_101 : decode cX12_begins 101 = .ok (.return_, 1) := by decide +kernel
theorem dX12_goesBy_0 : decode cX12_goesBy 0 = .ok (.iconst 0, 1) := by decide +kernel
theorem dX12_goesBy_1 : decode cX12_goesBy 1 = .ok (.istore 4, 2) := by decide +kernel
theorem dX12_goesBy_3 : decode cX12_goesBy 3 = .ok (.iload 4, 2) := by decide +kernel
theorem dX12_goesBy_5 : decode cX12_goesBy 5 = .ok (.iload_n 1, 1) := by decide +kernel
theorem dX12_goesBy_6 : decode cX12_goesBy 6 = .ok (.if_icmp .ge 18, 3) := by decide +kernel
theorem dX12_goesBy_9 : decode cX12_goesBy 9 = .ok (.aload_n 0, 1) := by decide +kernel
theorem dX12_goesBy_10 : decode cX12_goesBy 10 = .ok (.aload_n 0, 1) := by decide +kernel
theorem dX12_goesBy_11 : decode cX12_goesBy 11 = .ok (.getfield 16, 3) := by decide +kernel
theorem dX12_goesBy_14 : decode cX12_goesBy 14 = .ok (.iload_n 2, 1) := by decide +kernel
theorem dX12_goesBy_15 : decode cX12_goesBy 15 = .ok (.invokevirtual 205, 3) := by decide +kernel
theorem dX12_goesBy_18 : decode cX12_goesBy 18 = .ok (.iinc 4 1, 3) := by decide +kernel
theorem dX12_goesBy_21 : decode cX12_goesBy 21 = .ok (.goto (-18), 3) := by decide +kernel
theorem dX12_goesBy_24 : decode cX12_goesBy 24 = .ok (.aload_n 0, 1) := by decide +kernel
theorem dX12_goesBy_25 : decode cX12_goesBy 25 = .ok (.getfield 16, 3) := by decide +kernel
theorem dX12_goesBy_28 : decode cX12_goesBy 28 = .ok (.iconst 5, 1) := by decide +kernel
theorem dX12_goesBy_29 : decode cX12_goesBy 29 = .ok (.iload_n 3, 1) := by decide +kernel
theorem dX12_goesBy_30 : decode cX12_goesBy 30 = .ok (.iadd, 1) := by decide +kernel
theorem dX12_goesBy_31 : decode cX12_goesBy 31 = .ok (.iaload, 1) := by decide +kernel
theorem dX12_goesBy_32 : decode cX12_goesBy 32 = .ok (.ireturn, 1) := by decide +kernel
theorem dX12_dayOf_0 : decode cX12_dayOf 0 = .ok (.aload_n 0, 1) := by decide +kernel
theorem dX12_dayOf_1 : decode cX12_dayOf 1 = .ok (.iload 4, 2) := by decide +kernel
theorem dX12_dayOf_3 : decode cX12_dayOf 3 = .ok (.iload_n 2, 1) := by decide +kernel
theorem dX12_dayOf_4 : decode cX12_dayOf 4 = .ok (.aload_n 0, 1) := by decide +kernel
theorem dX12_dayOf_5 : decode cX12_dayOf 5 = .ok (.getfield 34, 3) := by decide +kernel
theorem dX12_dayOf_8 : decode cX12_dayOf 8 = .ok (.iload_n 1, 1) := by decide +kernel
theorem dX12_dayOf_9 : decode cX12_dayOf 9 = .ok (.iaload, 1) := by decide +kernel
theorem dX12_dayOf_10 : decode cX12_dayOf 10 = .ok (.aload_n 0, 1) := by decide +kernel
theorem dX12_dayOf_11 : decode cX12_dayOf 11 = .ok (.getfield 37, 3) := by decide +kernel
theorem dX12_dayOf_14 : decode cX12_dayOf 14 = .ok (.iload_n 1, 1) := by decide +kernel
theorem dX12_dayOf_15 : decode cX12_dayOf 15 = .ok (.iaload, 1) := by decide +kernel
theorem dX12_dayOf_16 : decode cX12_dayOf 16 = .ok (.invokevirtual 210, 3) := by decide +kernel
theorem dX12_dayOf_19 : decode cX12_dayOf 19 = .ok (.aload_n 0, 1) := by decide +kernel
theorem dX12_dayOf_20 : decode cX12_dayOf 20 = .ok (.iload_n 3, 1) := by decide +kernel
theorem dX12_dayOf_21 : decode cX12_dayOf 21 = .ok (.iconst 1, 1) := by decide +kernel
theorem dX12_dayOf_22 : decode cX12_dayOf 22 = .ok (.iload 5, 2) := by decide +kernel
theorem dX12_dayOf_24 : decode cX12_dayOf 24 = .ok (.invokevirtual 214, 3) := by decide +kernel
theorem dX12_dayOf_27 : decode cX12_dayOf 27 = .ok (.ireturn, 1) := by decide +kernel
theorem dX12_isDay_0 : decode cX12_isDay 0 = .ok (.iload_n 0, 1) := by decide +kernel
theorem dX12_isDay_1 : decode cX12_isDay 1 = .ok (.i2l, 1) := by decide +kernel
theorem dX12_isDay_2 : decode cX12_isDay 2 = .ok (.lconst 1, 1) := by decide +kernel
theorem dX12_isDay_3 : decode cX12_isDay 3 = .ok (.ldc2_w 218, 3) := by decide +kernel
theorem dX12_isDay_6 : decode cX12_isDay 6 = .ok (.invokestatic 51, 3) := by decide +kernel
theorem dX12_isDay_9 : decode cX12_isDay 9 = .ok (.ireturn, 1) := by decide +kernel
theorem dX12_day_0 : decode cX12_day 0 = .ok (.iload_n 1, 1) := by decide +kernel
theorem dX12_day_1 : decode cX12_day 1 = .ok (.invokestatic 117, 3) := by decide +kernel
theorem dX12_day_4 : decode cX12_day 4 = .ok (.ifCond .eq 31, 3) := by decide +kernel
theorem dX12_day_7 : decode cX12_day 7 = .ok (.aload_n 0, 1) := by decide +kernel
theorem dX12_day_8 : decode cX12_day 8 = .ok (.iload_n 2, 1) := by decide +kernel
theorem dX12_day_9 : decode cX12_day 9 = .ok (.invokevirtual 130, 3) := by decide +kernel
theorem dX12_day_12 : decode cX12_day 12 = .ok (.ifCond .eq 23, 3) := by decide +kernel
theorem dX12_day_15 : decode cX12_day 15 = .ok (.iload_n 3, 1) := by decide +kernel
theorem dX12_day_16 : decode cX12_day 16 = .ok (.invokestatic 220, 3) := by decide +kernel
theorem dX12_day_19 : decode cX12_day 19 = .ok (.ifCond .eq 16, 3) := by decide +kernel
theorem dX12_day_22 : decode cX12_day 22 = .ok (.iload 5, 2) := by decide +kernel
theorem dX12_day_24 : decode cX12_day 24 = .ok (.i2l, 1) := by decide +kernel
theorem dX12_day_25 : decode cX12_day 25 = .ok (.lconst 0, 1) := by decide +kernel
theorem dX12_day_26 : decode cX12_day 26 = .ok (.ldc2_w 208, 3) := by decide +kernel
theorem dX12_day_29 : decode cX12_day 29 = .ok (.invokestatic 51, 3) := by decide +kernel
theorem dX12_day_32 : decode cX12_day 32 = .ok (.ifCond .ne 5, 3) := by decide +kernel
theorem dX12_day_35 : decode cX12_day 35 = .ok (.iconst (-1), 1) := by decide +kernel
theorem dX12_day_36 : decode cX12_day 36 = .ok (.ireturn, 1) := by decide +kernel
theorem dX12_day_37 : decode cX12_day 37 = .ok (.aload_n 0, 1) := by decide +kernel
theorem dX12_day_38 : decode cX12_day 38 = .ok (.iload_n 1, 1) := by decide +kernel
theorem dX12_day_39 : decode cX12_day 39 = .ok (.invokevirtual 199, 3) := by decide +kernel
theorem dX12_day_42 : decode cX12_day 42 = .ok (.istore 6, 2) := by decide +kernel
theorem dX12_day_44 : decode cX12_day 44 = .ok (.iload 6, 2) := by decide +kernel
theorem dX12_day_46 : decode cX12_day 46 = .ok (.ifCond .eq 8, 3) := by decide +kernel
theorem dX12_day_49 : decode cX12_day 49 = .ok (.iload 6, 2) := by decide +kernel
theorem dX12_day_51 : decode cX12_day 51 = .ok (.goto 14, 3) := by decide +kernel
theorem dX12_day_54 : decode cX12_day 54 = .ok (.aload_n 0, 1) := by decide +kernel
theorem dX12_day_55 : decode cX12_day 55 = .ok (.iload_n 1, 1) := by decide +kernel
theorem dX12_day_56 : decode cX12_day 56 = .ok (.iload_n 2, 1) := by decide +kernel
theorem dX12_day_57 : decode cX12_day 57 = .ok (.iload_n 3, 1) := by decide +kernel
theorem dX12_day_58 : decode cX12_day 58 = .ok (.iload 4, 2) := by decide +kernel
theorem dX12_day_60 : decode cX12_day 60 = .ok (.iload 5, 2) := by decide +kernel
theorem dX12_day_62 : decode cX12_day 62 = .ok (.invokevirtual 223, 3) := by decide +kernel
theorem dX12_day_65 : decode cX12_day 65 = .ok (.ireturn, 1) := by decide +kernel
theorem dX12_meanOf_0 : decode cX12_meanOf 0 = .ok (.iconst 0, 1) := by decide +kernel
theorem dX12_meanOf_1 : decode cX12_meanOf 1 = .ok (.istore 7, 2) := by decide +kernel
theorem dX12_meanOf_3 : decode cX12_meanOf 3 = .ok (.iconst 0, 1) := by decide +kernel
theorem dX12_meanOf_4 : decode cX12_meanOf 4 = .ok (.istore 8, 2) := by decide +kernel
theorem dX12_meanOf_6 : decode cX12_meanOf 6 = .ok (.iload 8, 2) := by decide +kernel
theorem dX12_meanOf_8 : decode cX12_meanOf 8 = .ok (.iload 5, 2) := by decide +kernel
theorem dX12_meanOf_10 : decode cX12_meanOf 10 = .ok (.if_icmp .ge 46, 3) := by decide +kernel
theorem dX12_meanOf_13 : decode cX12_meanOf 13 = .ok (.aload_n 0, 1) := by decide +kernel
theorem dX12_meanOf_14 : decode cX12_meanOf 14 = .ok (.iload 6, 2) := by decide +kernel
theorem dX12_meanOf_16 : decode cX12_meanOf 16 = .ok (.iload 8, 2) := by decide +kernel
theorem dX12_meanOf_18 : decode cX12_meanOf 18 = .ok (.iadd, 1) := by decide +kernel
theorem dX12_meanOf_19 : decode cX12_meanOf 19 = .ok (.iload_n 3, 1) := by decide +kernel
theorem dX12_meanOf_20 : decode cX12_meanOf 20 = .ok (.iload_n 1, 1) := by decide +kernel
theorem dX12_meanOf_21 : decode cX12_meanOf 21 = .ok (.iload_n 2, 1) := by decide +kernel
theorem dX12_meanOf_22 : decode cX12_meanOf 22 = .ok (.invokevirtual 210, 3) := by decide +kernel
theorem dX12_meanOf_25 : decode cX12_meanOf 25 = .ok (.aload_n 0, 1) := by decide +kernel
theorem dX12_meanOf_26 : decode cX12_meanOf 26 = .ok (.iload 4, 2) := by decide +kernel
theorem dX12_meanOf_28 : decode cX12_meanOf 28 = .ok (.iconst 1, 1) := by decide +kernel
theorem dX12_meanOf_29 : decode cX12_meanOf 29 = .ok (.iconst 0, 1) := by decide +kernel
theorem dX12_meanOf_30 : decode cX12_meanOf 30 = .ok (.invokevirtual 214, 3) := by decide +kernel
theorem dX12_meanOf_33 : decode cX12_meanOf 33 = .ok (.istore 9, 2) := by decide +kernel
theorem dX12_meanOf_35 : decode cX12_meanOf 35 = .ok (.iload 7, 2) := by decide +kernel
theorem dX12_meanOf_37 : decode cX12_meanOf 37 = .ok (.aload_n 0, 1) := by decide +kernel
theorem dX12_meanOf_38 : decode cX12_meanOf 38 = .ok (.getfield 16, 3) := by decide +kernel
theorem dX12_meanOf_41 : decode cX12_meanOf 41 = .ok (.bipush 7, 2) := by decide +kernel
theorem dX12_meanOf_43 : decode cX12_meanOf 43 = .ok (.iaload, 1) := by decide +kernel
theorem dX12_meanOf_44 : decode cX12_meanOf 44 = .ok (.iload 9, 2) := by decide +kernel
theorem dX12_meanOf_46 : decode cX12_meanOf 46 = .ok (.isub, 1) := by decide +kernel
theorem dX12_meanOf_47 : decode cX12_meanOf 47 = .ok (.iadd, 1) := by decide +kernel
theorem dX12_meanOf_48 : decode cX12_meanOf 48 = .ok (.istore 7, 2) := by decide +kernel
theorem dX12_meanOf_50 : decode cX12_meanOf 50 = .ok (.iinc 8 1, 3) := by decide +kernel
theorem dX12_meanOf_53 : decode cX12_meanOf 53 = .ok (.goto (-47), 3) := by decide +kernel
theorem dX12_meanOf_56 : decode cX12_meanOf 56 = .ok (.iload 7, 2) := by decide +kernel
theorem dX12_meanOf_58 : decode cX12_meanOf 58 = .ok (.ireturn, 1) := by decide +kernel
theorem dX12_mean_0 : decode cX12_mean 0 = .ok (.iload_n 1, 1) := by decide +kernel
theorem dX12_mean_1 : decode cX12_mean 1 = .ok (.invokestatic 117, 3) := by decide +kernel
theorem dX12_mean_4 : decode cX12_mean 4 = .ok (.ifCond .eq 31, 3) := by decide +kernel
theorem dX12_mean_7 : decode cX12_mean 7 = .ok (.aload_n 0, 1) := by decide +kernel
theorem dX12_mean_8 : decode cX12_mean 8 = .ok (.iload_n 2, 1) := by decide +kernel
theorem dX12_mean_9 : decode cX12_mean 9 = .ok (.invokevirtual 130, 3) := by decide +kernel
theorem dX12_mean_12 : decode cX12_mean 12 = .ok (.ifCond .eq 23, 3) := by decide +kernel
theorem dX12_mean_15 : decode cX12_mean 15 = .ok (.iload_n 3, 1) := by decide +kernel
theorem dX12_mean_16 : decode cX12_mean 16 = .ok (.invokestatic 220, 3) := by decide +kernel
theorem dX12_mean_19 : decode cX12_mean 19 = .ok (.ifCond .eq 16, 3) := by decide +kernel
theorem dX12_mean_22 : decode cX12_mean 22 = .ok (.iload 4, 2) := by decide +kernel
theorem dX12_mean_24 : decode cX12_mean 24 = .ok (.i2l, 1) := by decide +kernel
theorem dX12_mean_25 : decode cX12_mean 25 = .ok (.lconst 1, 1) := by decide +kernel
theorem dX12_mean_26 : decode cX12_mean 26 = .ok (.ldc2_w 227, 3) := by decide +kernel
theorem dX12_mean_29 : decode cX12_mean 29 = .ok (.invokestatic 51, 3) := by decide +kernel
theorem dX12_mean_32 : decode cX12_mean 32 = .ok (.ifCond .ne 6, 3) := by decide +kernel
theorem dX12_mean_35 : decode cX12_mean 35 = .ok (.ldc 229, 2) := by decide +kernel
theorem dX12_mean_37 : decode cX12_mean 37 = .ok (.ireturn, 1) := by decide +kernel
theorem dX12_mean_38 : decode cX12_mean 38 = .ok (.aload_n 0, 1) := by decide +kernel
theorem dX12_mean_39 : decode cX12_mean 39 = .ok (.iload_n 1, 1) := by decide +kernel
theorem dX12_mean_40 : decode cX12_mean 40 = .ok (.invokevirtual 199, 3) := by decide +kernel
theorem dX12_mean_43 : decode cX12_mean 43 = .ok (.istore 6, 2) := by decide +kernel
theorem dX12_mean_45 : decode cX12_mean 45 = .ok (.iload 6, 2) := by decide +kernel
theorem dX12_mean_47 : decode cX12_mean 47 = .ok (.ifCond .eq 11, 3) := by decide +kernel
theorem dX12_mean_50 : decode cX12_mean 50 = .ok (.ldc 230, 2) := by decide +kernel
theorem dX12_mean_52 : decode cX12_mean 52 = .ok (.iload 6, 2) := by decide +kernel
theorem dX12_mean_54 : decode cX12_mean 54 = .ok (.iadd, 1) := by decide +kernel
theorem dX12_mean_55 : decode cX12_mean 55 = .ok (.goto 25, 3) := by decide +kernel
theorem dX12_mean_58 : decode cX12_mean 58 = .ok (.aload_n 0, 1) := by decide +kernel
theorem dX12_mean_59 : decode cX12_mean 59 = .ok (.aload_n 0, 1) := by decide +kernel
theorem dX12_mean_60 : decode cX12_mean 60 = .ok (.getfield 34, 3) := by decide +kernel
theorem dX12_mean_63 : decode cX12_mean 63 = .ok (.iload_n 1, 1) := by decide +kernel
theorem dX12_mean_64 : decode cX12_mean 64 = .ok (.iaload, 1) := by decide +kernel
theorem dX12_mean_65 : decode cX12_mean 65 = .ok (.aload_n 0, 1) := by decide +kernel
theorem dX12_mean_66 : decode cX12_mean 66 = .ok (.getfield 37, 3) := by decide +kernel
theorem dX12_mean_69 : decode cX12_mean 69 = .ok (.iload_n 1, 1) := by decide +kernel
theorem dX12_mean_70 : decode cX12_mean 70 = .ok (.iaload, 1) := by decide +kernel
theorem dX12_mean_71 : decode cX12_mean 71 = .ok (.iload_n 2, 1) := by decide +kernel
theorem dX12_mean_72 : decode cX12_mean 72 = .ok (.iload_n 3, 1) := by decide +kernel
theorem dX12_mean_73 : decode cX12_mean 73 = .ok (.iload 4, 2) := by decide +kernel
theorem dX12_mean_75 : decode cX12_mean 75 = .ok (.iload 5, 2) := by decide +kernel
theorem dX12_mean_77 : decode cX12_mean 77 = .ok (.invokevirtual 231, 3) := by decide +kernel
theorem dX12_mean_80 : decode cX12_mean 80 = .ok (.ireturn, 1) := by decide +kernel
theorem dX12_best_0 : decode cX12_best 0 = .ok (.iload_n 1, 1) := by decide +kernel
theorem dX12_best_1 : decode cX12_best 1 = .ok (.invokestatic 117, 3) := by decide +kernel
theorem dX12_best_4 : decode cX12_best 4 = .ok (.ifCond .eq 35, 3) := by decide +kernel
theorem dX12_best_7 : decode cX12_best 7 = .ok (.iload_n 2, 1) := by decide +kernel
theorem dX12_best_8 : decode cX12_best 8 = .ok (.i2l, 1) := by decide +kernel
theorem dX12_best_9 : decode cX12_best 9 = .ok (.lconst 0, 1) := by decide +kernel
theorem dX12_best_10 : decode cX12_best 10 = .ok (.ldc2_w 235, 3) := by decide +kernel
theorem dX12_best_13 : decode cX12_best 13 = .ok (.invokestatic 51, 3) := by decide +kernel
theorem dX12_best_16 : decode cX12_best 16 = .ok (.ifCond .eq 23, 3) := by decide +kernel
theorem dX12_best_19 : decode cX12_best 19 = .ok (.iload_n 3, 1) := by decide +kernel
theorem dX12_best_20 : decode cX12_best 20 = .ok (.invokestatic 220, 3) := by decide +kernel
theorem dX12_best_23 : decode cX12_best 23 = .ok (.ifCond .eq 16, 3) := by decide +kernel
theorem dX12_best_26 : decode cX12_best 26 = .ok (.iload 4, 2) := by decide +kernel
theorem dX12_best_28 : decode cX12_best 28 = .ok (.i2l, 1) := by decide +kernel
theorem dX12_best_29 : decode cX12_best 29 = .ok (.lconst 1, 1) := by decide +kernel
theorem dX12_best_30 : decode cX12_best 30 = .ok (.ldc2_w 227, 3) := by decide +kernel
theorem dX12_best_33 : decode cX12_best 33 = .ok (.invokestatic 51, 3) := by decide +kernel
theorem dX12_best_36 : decode cX12_best 36 = .ok (.ifCond .ne 5, 3) := by decide +kernel
theorem dX12_best_39 : decode cX12_best 39 = .ok (.iconst (-1), 1) := by decide +kernel
theorem dX12_best_40 : decode cX12_best 40 = .ok (.ireturn, 1) := by decide +kernel
theorem dX12_best_41 : decode cX12_best 41 = .ok (.aload_n 0, 1) := by decide +kernel
theorem dX12_best_42 : decode cX12_best 42 = .ok (.iload_n 1, 1) := by decide +kernel
theorem dX12_best_43 : decode cX12_best 43 = .ok (.iconst 0, 1) := by decide +kernel
theorem dX12_best_44 : decode cX12_best 44 = .ok (.invokevirtual 120, 3) := by decide +kernel
theorem dX12_best_47 : decode cX12_best 47 = .ok (.istore 6, 2) := by decide +kernel
theorem dX12_best_49 : decode cX12_best 49 = .ok (.iload 6, 2) := by decide +kernel
theorem dX12_best_51 : decode cX12_best 51 = .ok (.ifCond .eq 6, 3) := by decide +kernel
theorem dX12_best_54 : decode cX12_best 54 = .ok (.iload 6, 2) := by decide +kernel
theorem dX12_best_56 : decode cX12_best 56 = .ok (.ireturn, 1) := by decide +kernel
theorem dX12_best_57 : decode cX12_best 57 = .ok (.aload_n 0, 1) := by decide +kernel
theorem dX12_best_58 : decode cX12_best 58 = .ok (.getfield 28, 3) := by decide +kernel
theorem dX12_best_61 : decode cX12_best 61 = .ok (.iload_n 1, 1) := by decide +kernel
theorem dX12_best_62 : decode cX12_best 62 = .ok (.iaload, 1) := by decide +kernel
theorem dX12_best_63 : decode cX12_best 63 = .ok (.i2l, 1) := by decide +kernel
theorem dX12_best_64 : decode cX12_best 64 = .ok (.lconst 1, 1) := by decide +kernel
theorem dX12_best_65 : decode cX12_best 65 = .ok (.ldc2_w 55, 3) := by decide +kernel
theorem dX12_best_68 : decode cX12_best 68 = .ok (.invokestatic 51, 3) := by decide +kernel
theorem dX12_best_71 : decode cX12_best 71 = .ok (.ifCond .ne 6, 3) := by decide +kernel
theorem dX12_best_74 : decode cX12_best 74 = .ok (.bipush (-13), 2) := by decide +kernel
theorem dX12_best_76 : decode cX12_best 76 = .ok (.ireturn, 1) := by decide +kernel
theorem dX12_best_77 : decode cX12_best 77 = .ok (.iconst 0, 1) := by decide +kernel
theorem dX12_best_78 : decode cX12_best 78 = .ok (.istore 7, 2) := by decide +kernel
theorem dX12_best_80 : decode cX12_best 80 = .ok (.iload 7, 2) := by decide +kernel
theorem dX12_best_82 : decode cX12_best 82 = .ok (.aload_n 0, 1) := by decide +kernel
theorem dX12_best_83 : decode cX12_best 83 = .ok (.getfield 28, 3) := by decide +kernel
theorem dX12_best_86 : decode cX12_best 86 = .ok (.iload_n 1, 1) := by decide +kernel
theorem dX12_best_87 : decode cX12_best 87 = .ok (.iaload, 1) := by decide +kernel
theorem dX12_best_88 : decode cX12_best 88 = .ok (.if_icmp .ge 35, 3) := by decide +kernel
theorem dX12_best_91 : decode cX12_best 91 = .ok (.aload_n 0, 1) := by decide +kernel
theorem dX12_best_92 : decode cX12_best 92 = .ok (.getfield 31, 3) := by decide +kernel
theorem dX12_best_95 : decode cX12_best 95 = .ok (.bipush 100, 2) := by decide +kernel
theorem dX12_best_97 : decode cX12_best 97 = .ok (.iload_n 1, 1) := by decide +kernel
theorem dX12_best_98 : decode cX12_best 98 = .ok (.imul, 1) := by decide +kernel
theorem dX12_best_99 : decode cX12_best 99 = .ok (.iload 7, 2) := by decide +kernel
theorem dX12_best_101 : decode cX12_best 101 = .ok (.iadd, 1) := by decide +kernel
theorem dX12_best_102 : decode cX12_best 102 = .ok (.iaload, 1) := by decide +kernel
theorem dX12_best_103 : decode cX12_best 103 = .ok (.i2l, 1) := by decide +kernel
theorem dX12_best_104 : decode cX12_best 104 = .ok (.lconst 0, 1) := by decide +kernel
theorem dX12_best_105 : decode cX12_best 105 = .ok (.ldc2_w 113, 3) := by decide +kernel
theorem dX12_best_108 : decode cX12_best 108 = .ok (.invokestatic 51, 3) := by decide +kernel
theorem dX12_best_111 : decode cX12_best 111 = .ok (.ifCond .ne 6, 3) := by decide +kernel
theorem dX12_best_114 : decode cX12_best 114 = .ok (.bipush (-13), 2) := by decide +kernel
theorem dX12_best_116 : decode cX12_best 116 = .ok (.ireturn, 1) := by decide +kernel
theorem dX12_best_117 : decode cX12_best 117 = .ok (.iinc 7 1, 3) := by decide +kernel
theorem dX12_best_120 : decode cX12_best 120 = .ok (.goto (-40), 3) := by decide +kernel
theorem dX12_best_123 : decode cX12_best 123 = .ok (.bipush (-4), 2) := by decide +kernel
theorem dX12_best_125 : decode cX12_best 125 = .ok (.istore 7, 2) := by decide +kernel
theorem dX12_best_127 : decode cX12_best 127 = .ok (.iconst 0, 1) := by decide +kernel
theorem dX12_best_128 : decode cX12_best 128 = .ok (.istore 8, 2) := by decide +kernel
theorem dX12_best_130 : decode cX12_best 130 = .ok (.iconst 0, 1) := by decide +kernel
theorem dX12_best_131 : decode cX12_best 131 = .ok (.istore 9, 2) := by decide +kernel
theorem dX12_best_133 : decode cX12_best 133 = .ok (.iload 9, 2) := by decide +kernel
theorem dX12_best_135 : decode cX12_best 135 = .ok (.aload_n 0, 1) := by decide +kernel
theorem dX12_best_136 : decode cX12_best 136 = .ok (.getfield 28, 3) := by decide +kernel
theorem dX12_best_139 : decode cX12_best 139 = .ok (.iload_n 1, 1) := by decide +kernel
theorem dX12_best_140 : decode cX12_best 140 = .ok (.iaload, 1) := by decide +kernel
theorem dX12_best_141 : decode cX12_best 141 = .ok (.if_icmp .ge 57, 3) := by decide +kernel
theorem dX12_best_144 : decode cX12_best 144 = .ok (.aload_n 0, 1) := by decide +kernel
theorem dX12_best_145 : decode cX12_best 145 = .ok (.aload_n 0, 1) := by decide +kernel
theorem dX12_best_146 : decode cX12_best 146 = .ok (.getfield 31, 3) := by decide +kernel
theorem dX12_best_149 : decode cX12_best 149 = .ok (.bipush 100, 2) := by decide +kernel
theorem dX12_best_151 : decode cX12_best 151 = .ok (.iload_n 1, 1) := by decide +kernel
theorem dX12_best_152 : decode cX12_best 152 = .ok (.imul, 1) := by decide +kernel
theorem dX12_best_153 : decode cX12_best 153 = .ok (.iload 9, 2) := by decide +kernel
theorem dX12_best_155 : decode cX12_best 155 = .ok (.iadd, 1) := by decide +kernel
theorem dX12_best_156 : decode cX12_best 156 = .ok (.iaload, 1) := by decide +kernel
theorem dX12_best_157 : decode cX12_best 157 = .ok (.iload_n 2, 1) := by decide +kernel
theorem dX12_best_158 : decode cX12_best 158 = .ok (.iconst 0, 1) := by decide +kernel
theorem dX12_best_159 : decode cX12_best 159 = .ok (.iload_n 3, 1) := by decide +kernel
theorem dX12_best_160 : decode cX12_best 160 = .ok (.iload 4, 2) := by decide +kernel
theorem dX12_best_162 : decode cX12_best 162 = .ok (.iload 5, 2) := by decide +kernel
theorem dX12_best_164 : decode cX12_best 164 = .ok (.invokevirtual 231, 3) := by decide +kernel
theorem dX12_best_167 : decode cX12_best 167 = .ok (.istore 10, 2) := by decide +kernel
theorem dX12_best_169 : decode cX12_best 169 = .ok (.iload 7, 2) := by decide +kernel
theorem dX12_best_171 : decode cX12_best 171 = .ok (.ifCond .lt 13, 3) := by decide +kernel
theorem dX12_best_174 : decode cX12_best 174 = .ok (.iload 10, 2) := by decide +kernel
theorem dX12_best_176 : decode cX12_best 176 = .ok (.iload 8, 2) := by decide +kernel
theorem dX12_best_178 : decode cX12_best 178 = .ok (.if_icmp .gt 6, 3) := by decide +kernel
theorem dX12_best_181 : decode cX12_best 181 = .ok (.goto 11, 3) := by decide +kernel
theorem dX12_best_184 : decode cX12_best 184 = .ok (.iload 9, 2) := by decide +kernel
theorem dX12_best_186 : decode cX12_best 186 = .ok (.istore 7, 2) := by decide +kernel
theorem dX12_best_188 : decode cX12_best 188 = .ok (.iload 10, 2) := by decide +kernel
theorem dX12_best_190 : decode cX12_best 190 = .ok (.istore 8, 2) := by decide +kernel
theorem dX12_best_192 : decode cX12_best 192 = .ok (.iinc 9 1, 3) := by decide +kernel
theorem dX12_best_195 : decode cX12_best 195 = .ok (.goto (-62), 3) := by decide +kernel
theorem dX12_best_198 : decode cX12_best 198 = .ok (.iload 7, 2) := by decide +kernel
theorem dX12_best_200 : decode cX12_best 200 = .ok (.ireturn, 1) := by decide +kernel
theorem dX12_where_0 : decode cX12_where 0 = .ok (.iload_n 1, 1) := by decide +kernel
theorem dX12_where_1 : decode cX12_where 1 = .ok (.invokestatic 117, 3) := by decide +kernel
theorem dX12_where_4 : decode cX12_where 4 = .ok (.ifCond .eq 22, 3) := by decide +kernel
theorem dX12_where_7 : decode cX12_where 7 = .ok (.iload_n 2, 1) := by decide +kernel
theorem dX12_where_8 : decode cX12_where 8 = .ok (.invokestatic 220, 3) := by decide +kernel
theorem dX12_where_11 : decode cX12_where 11 = .ok (.ifCond .eq 15, 3) := by decide +kernel
theorem dX12_where_14 : decode cX12_where 14 = .ok (.iload_n 3, 1) := by decide +kernel
theorem dX12_where_15 : decode cX12_where 15 = .ok (.i2l, 1) := by decide +kernel
theorem dX12_where_16 : decode cX12_where 16 = .ok (.lconst 1, 1) := by decide +kernel
theorem dX12_where_17 : decode cX12_where 17 = .ok (.ldc2_w 227, 3) := by decide +kernel
theorem dX12_where_20 : decode cX12_where 20 = .ok (.invokestatic 51, 3) := by decide +kernel
theorem dX12_where_23 : decode cX12_where 23 = .ok (.ifCond .ne 5, 3) := by decide +kernel
theorem dX12_where_26 : decode cX12_where 26 = .ok (.iconst (-1), 1) := by decide +kernel
theorem dX12_where_27 : decode cX12_where 27 = .ok (.ireturn, 1) := by decide +kernel
theorem dX12_where_28 : decode cX12_where 28 = .ok (.aload_n 0, 1) := by decide +kernel
theorem dX12_where_29 : decode cX12_where 29 = .ok (.iload_n 1, 1) := by decide +kernel
theorem dX12_where_30 : decode cX12_where 30 = .ok (.invokevirtual 199, 3) := by decide +kernel
theorem dX12_where_33 : decode cX12_where 33 = .ok (.istore 5, 2) := by decide +kernel
theorem dX12_where_35 : decode cX12_where 35 = .ok (.iload 5, 2) := by decide +kernel
theorem dX12_where_37 : decode cX12_where 37 = .ok (.ifCond .eq 6, 3) := by decide +kernel
theorem dX12_where_40 : decode cX12_where 40 = .ok (.iload 5, 2) := by decide +kernel
theorem dX12_where_42 : decode cX12_where 42 = .ok (.ireturn, 1) := by decide +kernel
theorem dX12_where_43 : decode cX12_where 43 = .ok (.bipush (-4), 2) := by decide +kernel
theorem dX12_where_45 : decode cX12_where 45 = .ok (.istore 6, 2) := by decide +kernel
theorem dX12_where_47 : decode cX12_where 47 = .ok (.iconst 0, 1) := by decide +kernel
theorem dX12_where_48 : decode cX12_where 48 = .ok (.istore 7, 2) := by decide +kernel
theorem dX12_where_50 : decode cX12_where 50 = .ok (.iconst 0, 1) := by decide +kernel
theorem dX12_where_51 : decode cX12_where 51 = .ok (.istore 8, 2) := by decide +kernel
theorem dX12_where_53 : decode cX12_where 53 = .ok (.iload 8, 2) := by decide +kernel
theorem dX12_where_55 : decode cX12_where 55 = .ok (.aload_n 0, 1) := by decide +kernel
theorem dX12_where_56 : decode cX12_where 56 = .ok (.getfield 9, 3) := by decide +kernel
theorem dX12_where_59 : decode cX12_where 59 = .ok (.iconst 0, 1) := by decide +kernel
theorem dX12_where_60 : decode cX12_where 60 = .ok (.iaload, 1) := by decide +kernel
theorem dX12_where_61 : decode cX12_where 61 = .ok (.if_icmp .ge 56, 3) := by decide +kernel
theorem dX12_where_64 : decode cX12_where 64 = .ok (.aload_n 0, 1) := by decide +kernel
theorem dX12_where_65 : decode cX12_where 65 = .ok (.aload_n 0, 1) := by decide +kernel
theorem dX12_where_66 : decode cX12_where 66 = .ok (.getfield 34, 3) := by decide +kernel
theorem dX12_where_69 : decode cX12_where 69 = .ok (.iload_n 1, 1) := by decide +kernel
theorem dX12_where_70 : decode cX12_where 70 = .ok (.iaload, 1) := by decide +kernel
theorem dX12_where_71 : decode cX12_where 71 = .ok (.aload_n 0, 1) := by decide +kernel
theorem dX12_where_72 : decode cX12_where 72 = .ok (.getfield 37, 3) := by decide +kernel
theorem dX12_where_75 : decode cX12_where 75 = .ok (.iload_n 1, 1) := by decide +kernel
theorem dX12_where_76 : decode cX12_where 76 = .ok (.iaload, 1) := by decide +kernel
theorem dX12_where_77 : decode cX12_where 77 = .ok (.iload 8, 2) := by decide +kernel
theorem dX12_where_79 : decode cX12_where 79 = .ok (.iload_n 2, 1) := by decide +kernel
theorem dX12_where_80 : decode cX12_where 80 = .ok (.iload_n 3, 1) := by decide +kernel
theorem dX12_where_81 : decode cX12_where 81 = .ok (.iload 4, 2) := by decide +kernel
theorem dX12_where_83 : decode cX12_where 83 = .ok (.invokevirtual 231, 3) := by decide +kernel
theorem dX12_where_86 : decode cX12_where 86 = .ok (.istore 9, 2) := by decide +kernel
theorem dX12_where_88 : decode cX12_where 88 = .ok (.iload 6, 2) := by decide +kernel
theorem dX12_where_90 : decode cX12_where 90 = .ok (.ifCond .lt 13, 3) := by decide +kernel
theorem dX12_where_93 : decode cX12_where 93 = .ok (.iload 9, 2) := by decide +kernel
theorem dX12_where_95 : decode cX12_where 95 = .ok (.iload 7, 2) := by decide +kernel
theorem dX12_where_97 : decode cX12_where 97 = .ok (.if_icmp .gt 6, 3) := by decide +kernel
theorem dX12_where_100 : decode cX12_where 100 = .ok (.goto 11, 3) := by decide +kernel
theorem dX12_where_103 : decode cX12_where 103 = .ok (.iload 8, 2) := by decide +kernel
theorem dX12_where_105 : decode cX12_where 105 = .ok (.istore 6, 2) := by decide +kernel
theorem dX12_where_107 : decode cX12_where 107 = .ok (.iload 9, 2) := by decide +kernel
theorem dX12_where_109 : decode cX12_where 109 = .ok (.istore 7, 2) := by decide +kernel
theorem dX12_where_111 : decode cX12_where 111 = .ok (.iinc 8 1, 3) := by decide +kernel
theorem dX12_where_114 : decode cX12_where 114 = .ok (.goto (-61), 3) := by decide +kernel
theorem dX12_where_117 : decode cX12_where 117 = .ok (.iload 6, 2) := by decide +kernel
theorem dX12_where_119 : decode cX12_where 119 = .ok (.ireturn, 1) := by decide +kernel
theorem dX12_wrongDay_0 : decode cX12_wrongDay 0 = .ok (.iload_n 1, 1) := by decide +kernel
theorem dX12_wrongDay_1 : decode cX12_wrongDay 1 = .ok (.invokestatic 117, 3) := by decide +kernel
theorem dX12_wrongDay_4 : decode cX12_wrongDay 4 = .ok (.ifCond .eq 18, 3) := by decide +kernel
theorem dX12_wrongDay_7 : decode cX12_wrongDay 7 = .ok (.aload_n 0, 1) := by decide +kernel
theorem dX12_wrongDay_8 : decode cX12_wrongDay 8 = .ok (.iload_n 2, 1) := by decide +kernel
theorem dX12_wrongDay_9 : decode cX12_wrongDay 9 = .ok (.invokevirtual 130, 3) := by decide +kernel
theorem dX12_wrongDay_12 : decode cX12_wrongDay 12 = .ok (.ifCond .eq 10, 3) := by decide +kernel
theorem dX12_wrongDay_15 : decode cX12_wrongDay 15 = .ok (.iload_n 3, 1) := by decide +kernel
theorem dX12_wrongDay_16 : decode cX12_wrongDay 16 = .ok (.invokestatic 220, 3) := by decide +kernel
theorem dX12_wrongDay_19 : decode cX12_wrongDay 19 = .ok (.ifCond .ne 5, 3) := by decide +kernel
theorem dX12_wrongDay_22 : decode cX12_wrongDay 22 = .ok (.iconst (-1), 1) := by decide +kernel
theorem dX12_wrongDay_23 : decode cX12_wrongDay 23 = .ok (.ireturn, 1) := by decide +kernel
theorem dX12_wrongDay_24 : decode cX12_wrongDay 24 = .ok (.aload_n 0, 1) := by decide +kernel
theorem dX12_wrongDay_25 : decode cX12_wrongDay 25 = .ok (.iload_n 1, 1) := by decide +kernel
theorem dX12_wrongDay_26 : decode cX12_wrongDay 26 = .ok (.invokevirtual 199, 3) := by decide +kernel
theorem dX12_wrongDay_29 : decode cX12_wrongDay 29 = .ok (.ireturn, 1) := by decide +kernel
theorem dX12_enough_0 : decode cX12_enough 0 = .ok (.aload_n 0, 1) := by decide +kernel
theorem dX12_enough_1 : decode cX12_enough 1 = .ok (.iload_n 1, 1) := by decide +kernel
theorem dX12_enough_2 : decode cX12_enough 2 = .ok (.iload_n 2, 1) := by decide +kernel
theorem dX12_enough_3 : decode cX12_enough 3 = .ok (.iload_n 3, 1) := by decide +kernel
theorem dX12_enough_4 : decode cX12_enough 4 = .ok (.invokevirtual 237, 3) := by decide +kernel
theorem dX12_enough_7 : decode cX12_enough 7 = .ok (.istore 5, 2) := by decide +kernel
theorem dX12_enough_9 : decode cX12_enough 9 = .ok (.iload 5, 2) := by decide +kernel
theorem dX12_enough_11 : decode cX12_enough 11 = .ok (.ifCond .eq 6, 3) := by decide +kernel
theorem dX12_enough_14 : decode cX12_enough 14 = .ok (.iload 5, 2) := by decide +kernel
theorem dX12_enough_16 : decode cX12_enough 16 = .ok (.ireturn, 1) := by decide +kernel
theorem dX12_enough_17 : decode cX12_enough 17 = .ok (.iconst 1, 1) := by decide +kernel
theorem dX12_enough_18 : decode cX12_enough 18 = .ok (.istore 6, 2) := by decide +kernel
theorem dX12_enough_20 : decode cX12_enough 20 = .ok (.iload 6, 2) := by decide +kernel
theorem dX12_enough_22 : decode cX12_enough 22 = .ok (.bipush 7, 2) := by decide +kernel
theorem dX12_enough_24 : decode cX12_enough 24 = .ok (.if_icmp .ge 49, 3) := by decide +kernel
theorem dX12_enough_27 : decode cX12_enough 27 = .ok (.aload_n 0, 1) := by decide +kernel
theorem dX12_enough_28 : decode cX12_enough 28 = .ok (.iload 4, 2) := by decide +kernel
theorem dX12_enough_30 : decode cX12_enough 30 = .ok (.iload_n 2, 1) := by decide +kernel
theorem dX12_enough_31 : decode cX12_enough 31 = .ok (.aload_n 0, 1) := by decide +kernel
theorem dX12_enough_32 : decode cX12_enough 32 = .ok (.getfield 34, 3) := by decide +kernel
theorem dX12_enough_35 : decode cX12_enough 35 = .ok (.iload_n 1, 1) := by decide +kernel
theorem dX12_enough_36 : decode cX12_enough 36 = .ok (.iaload, 1) := by decide +kernel
theorem dX12_enough_37 : decode cX12_enough 37 = .ok (.aload_n 0, 1) := by decide +kernel
theorem dX12_enough_38 : decode cX12_enough 38 = .ok (.getfield 37, 3) := by decide +kernel
theorem dX12_enough_41 : decode cX12_enough 41 = .ok (.iload_n 1, 1) := by decide +kernel
theorem dX12_enough_42 : decode cX12_enough 42 = .ok (.iaload, 1) := by decide +kernel
theorem dX12_enough_43 : decode cX12_enough 43 = .ok (.invokevirtual 210, 3) := by decide +kernel
theorem dX12_enough_46 : decode cX12_enough 46 = .ok (.aload_n 0, 1) := by decide +kernel
theorem dX12_enough_47 : decode cX12_enough 47 = .ok (.getfield 16, 3) := by decide +kernel
theorem dX12_enough_50 : decode cX12_enough 50 = .ok (.iconst 2, 1) := by decide +kernel
theorem dX12_enough_51 : decode cX12_enough 51 = .ok (.iload 6, 2) := by decide +kernel
theorem dX12_enough_53 : decode cX12_enough 53 = .ok (.iastore, 1) := by decide +kernel
theorem dX12_enough_54 : decode cX12_enough 54 = .ok (.aload_n 0, 1) := by decide +kernel
theorem dX12_enough_55 : decode cX12_enough 55 = .ok (.iload_n 3, 1) := by decide +kernel
theorem dX12_enough_56 : decode cX12_enough 56 = .ok (.iconst 1, 1) := by decide +kernel
theorem dX12_enough_57 : decode cX12_enough 57 = .ok (.iconst 1, 1) := by decide +kernel
theorem dX12_enough_58 : decode cX12_enough 58 = .ok (.invokevirtual 214, 3) := by decide +kernel
theorem dX12_enough_61 : decode cX12_enough 61 = .ok (.ifCond .ne 6, 3) := by decide +kernel
theorem dX12_enough_64 : decode cX12_enough 64 = .ok (.iload 6, 2) := by decide +kernel
theorem dX12_enough_66 : decode cX12_enough 66 = .ok (.ireturn, 1) := by decide +kernel
theorem dX12_enough_67 : decode cX12_enough 67 = .ok (.iinc 6 1, 3) := by decide +kernel
theorem dX12_enough_70 : decode cX12_enough 70 = .ok (.goto (-50), 3) := by decide +kernel
theorem dX12_enough_73 : decode cX12_enough 73 = .ok (.bipush (-4), 2) := by decide +kernel
theorem dX12_enough_75 : decode cX12_enough 75 = .ok (.ireturn, 1) := by decide +kernel
theorem dX12_lantern_0 : decode cX12_lantern 0 = .ok (.iload 5, 2) := by decide +kernel
theorem dX12_lantern_2 : decode cX12_lantern 2 = .ok (.i2l, 1) := by decide +kernel
theorem dX12_lantern_3 : decode cX12_lantern 3 = .ok (.lconst 0, 1) := by decide +kernel
theorem dX12_lantern_4 : decode cX12_lantern 4 = .ok (.ldc2_w 115, 3) := by decide +kernel
theorem dX12_lantern_7 : decode cX12_lantern 7 = .ok (.invokestatic 51, 3) := by decide +kernel
theorem dX12_lantern_10 : decode cX12_lantern 10 = .ok (.ifCond .ne 6, 3) := by decide +kernel
theorem dX12_lantern_13 : decode cX12_lantern 13 = .ok (.ldc 229, 2) := by decide +kernel
theorem dX12_lantern_15 : decode cX12_lantern 15 = .ok (.ireturn, 1) := by decide +kernel
theorem dX12_lantern_16 : decode cX12_lantern 16 = .ok (.aload_n 0, 1) := by decide +kernel
theorem dX12_lantern_17 : decode cX12_lantern 17 = .ok (.iload_n 1, 1) := by decide +kernel
theorem dX12_lantern_18 : decode cX12_lantern 18 = .ok (.iload_n 2, 1) := by decide +kernel
theorem dX12_lantern_19 : decode cX12_lantern 19 = .ok (.iload_n 3, 1) := by decide +kernel
theorem dX12_lantern_20 : decode cX12_lantern 20 = .ok (.invokevirtual 237, 3) := by decide +kernel
theorem dX12_lantern_23 : decode cX12_lantern 23 = .ok (.istore 6, 2) := by decide +kernel
theorem dX12_lantern_25 : decode cX12_lantern 25 = .ok (.iload 6, 2) := by decide +kernel
theorem dX12_lantern_27 : decode cX12_lantern 27 = .ok (.ifCond .eq 9, 3) := by decide +kernel
theorem dX12_lantern_30 : decode cX12_lantern 30 = .ok (.ldc 230, 2) := by decide +kernel
theorem dX12_lantern_32 : decode cX12_lantern 32 = .ok (.iload 6, 2) := by decide +kernel
theorem dX12_lantern_34 : decode cX12_lantern 34 = .ok (.iadd, 1) := by decide +kernel
theorem dX12_lantern_35 : decode cX12_lantern 35 = .ok (.ireturn, 1) := by decide +kernel
theorem dX12_lantern_36 : decode cX12_lantern 36 = .ok (.aload_n 0, 1) := by decide +kernel
theorem dX12_lantern_37 : decode cX12_lantern 37 = .ok (.iload_n 1, 1) := by decide +kernel
theorem dX12_lantern_38 : decode cX12_lantern 38 = .ok (.iload_n 2, 1) := by decide +kernel
theorem dX12_lantern_39 : decode cX12_lantern 39 = .ok (.iload_n 3, 1) := by decide +kernel
theorem dX12_lantern_40 : decode cX12_lantern 40 = .ok (.iload 4, 2) := by decide +kernel
theorem dX12_lantern_42 : decode cX12_lantern 42 = .ok (.iconst 1, 1) := by decide +kernel
theorem dX12_lantern_43 : decode cX12_lantern 43 = .ok (.invokevirtual 223, 3) := by decide +kernel
theorem dX12_lantern_46 : decode cX12_lantern 46 = .ok (.istore 7, 2) := by decide +kernel
theorem dX12_lantern_48 : decode cX12_lantern 48 = .ok (.aload_n 0, 1) := by decide +kernel
theorem dX12_lantern_49 : decode cX12_lantern 49 = .ok (.iload 4, 2) := by decide +kernel
theorem dX12_lantern_51 : decode cX12_lantern 51 = .ok (.iload_n 2, 1) := by decide +kernel
theorem dX12_lantern_52 : decode cX12_lantern 52 = .ok (.aload_n 0, 1) := by decide +kernel
theorem dX12_lantern_53 : decode cX12_lantern 53 = .ok (.getfield 34, 3) := by decide +kernel
theorem dX12_lantern_56 : decode cX12_lantern 56 = .ok (.iload_n 1, 1) := by decide +kernel
theorem dX12_lantern_57 : decode cX12_lantern 57 = .ok (.iaload, 1) := by decide +kernel
theorem dX12_lantern_58 : decode cX12_lantern 58 = .ok (.aload_n 0, 1) := by decide +kernel
theorem dX12_lantern_59 : decode cX12_lantern 59 = .ok (.getfield 37, 3) := by decide +kernel
theorem dX12_lantern_62 : decode cX12_lantern 62 = .ok (.iload_n 1, 1) := by decide +kernel
theorem dX12_lantern_63 : decode cX12_lantern 63 = .ok (.iaload, 1) := by decide +kernel
theorem dX12_lantern_64 : decode cX12_lantern 64 = .ok (.invokevirtual 210, 3) := by decide +kernel
theorem dX12_lantern_67 : decode cX12_lantern 67 = .ok (.iconst 0, 1) := by decide +kernel
theorem dX12_lantern_68 : decode cX12_lantern 68 = .ok (.istore 8, 2) := by decide +kernel
theorem dX12_lantern_70 : decode cX12_lantern 70 = .ok (.iload 8, 2) := by decide +kernel
theorem dX12_lantern_72 : decode cX12_lantern 72 = .ok (.aload_n 0, 1) := by decide +kernel
theorem dX12_lantern_73 : decode cX12_lantern 73 = .ok (.getfield 16, 3) := by decide +kernel
theorem dX12_lantern_76 : decode cX12_lantern 76 = .ok (.iconst 1, 1) := by decide +kernel
theorem dX12_lantern_77 : decode cX12_lantern 77 = .ok (.iaload, 1) := by decide +kernel
theorem dX12_lantern_78 : decode cX12_lantern 78 = .ok (.if_icmp .ge 52, 3) := by decide +kernel
theorem dX12_lantern_81 : decode cX12_lantern 81 = .ok (.aload_n 0, 1) := by decide +kernel
theorem dX12_lantern_82 : decode cX12_lantern 82 = .ok (.getfield 16, 3) := by decide +kernel
theorem dX12_lantern_85 : decode cX12_lantern 85 = .ok (.iload 8, 2) := by decide +kernel
theorem dX12_lantern_87 : decode cX12_lantern 87 = .ok (.iconst 3, 1) := by decide +kernel
theorem dX12_lantern_88 : decode cX12_lantern 88 = .ok (.invokestatic 107, 3) := by decide +kernel
theorem dX12_lantern_91 : decode cX12_lantern 91 = .ok (.iload 5, 2) := by decide +kernel
theorem dX12_lantern_93 : decode cX12_lantern 93 = .ok (.iadd, 1) := by decide +kernel
theorem dX12_lantern_94 : decode cX12_lantern 94 = .ok (.istore 9, 2) := by decide +kernel
theorem dX12_lantern_96 : decode cX12_lantern 96 = .ok (.aload_n 0, 1) := by decide +kernel
theorem dX12_lantern_97 : decode cX12_lantern 97 = .ok (.getfield 16, 3) := by decide +kernel
theorem dX12_lantern_100 : decode cX12_lantern 100 = .ok (.bipush 25, 2) := by decide +kernel
theorem dX12_lantern_102 : decode cX12_lantern 102 = .ok (.iconst 5, 1) := by decide +kernel
theorem dX12_lantern_103 : decode cX12_lantern 103 = .ok (.iload 8, 2) := by decide +kernel
theorem dX12_lantern_105 : decode cX12_lantern 105 = .ok (.imul, 1) := by decide +kernel
theorem dX12_lantern_106 : decode cX12_lantern 106 = .ok (.iadd, 1) := by decide +kernel
theorem dX12_lantern_107 : decode cX12_lantern 107 = .ok (.iconst 3, 1) := by decide +kernel
theorem dX12_lantern_108 : decode cX12_lantern 108 = .ok (.iadd, 1) := by decide +kernel
theorem dX12_lantern_109 : decode cX12_lantern 109 = .ok (.iload 9, 2) := by decide +kernel
theorem dX12_lantern_111 : decode cX12_lantern 111 = .ok (.bipush 20, 2) := by decide +kernel
theorem dX12_lantern_113 : decode cX12_lantern 113 = .ok (.if_icmp .le 8, 3) := by decide +kernel
theorem dX12_lantern_116 : decode cX12_lantern 116 = .ok (.bipush 20, 2) := by decide +kernel
theorem dX12_lantern_118 : decode cX12_lantern 118 = .ok (.goto 5, 3) := by decide +kernel
theorem dX12_lantern_121 : decode cX12_lantern 121 = .ok (.iload 9, 2) := by decide +kernel
theorem dX12_lantern_123 : decode cX12_lantern 123 = .ok (.iastore, 1) := by decide +kernel
theorem dX12_lantern_124 : decode cX12_lantern 124 = .ok (.iinc 8 1, 3) := by decide +kernel
theorem dX12_lantern_127 : decode cX12_lantern 127 = .ok (.goto (-57), 3) := by decide +kernel
theorem dX12_lantern_130 : decode cX12_lantern 130 = .ok (.iload 7, 2) := by decide +kernel
theorem dX12_lantern_132 : decode cX12_lantern 132 = .ok (.aload_n 0, 1) := by decide +kernel
theorem dX12_lantern_133 : decode cX12_lantern 133 = .ok (.iload_n 3, 1) := by decide +kernel
theorem dX12_lantern_134 : decode cX12_lantern 134 = .ok (.iconst 1, 1) := by decide +kernel
theorem dX12_lantern_135 : decode cX12_lantern 135 = .ok (.iconst 1, 1) := by decide +kernel
theorem dX12_lantern_136 : decode cX12_lantern 136 = .ok (.invokevirtual 214, 3) := by decide +kernel
theorem dX12_lantern_139 : decode cX12_lantern 139 = .ok (.isub, 1) := by decide +kernel
theorem dX12_lantern_140 : decode cX12_lantern 140 = .ok (.ireturn, 1) := by decide +kernel
theorem dX12_price_0 : decode cX12_price 0 = .ok (.aload_n 0, 1) := by decide +kernel
theorem dX12_price_1 : decode cX12_price 1 = .ok (.iload_n 2, 1) := by decide +kernel
theorem dX12_price_2 : decode cX12_price 2 = .ok (.invokevirtual 133, 3) := by decide +kernel
theorem dX12_price_5 : decode cX12_price 5 = .ok (.ifCond .eq 16, 3) := by decide +kernel
theorem dX12_price_8 : decode cX12_price 8 = .ok (.iload 5, 2) := by decide +kernel
theorem dX12_price_10 : decode cX12_price 10 = .ok (.i2l, 1) := by decide +kernel
theorem dX12_price_11 : decode cX12_price 11 = .ok (.lconst 0, 1) := by decide +kernel
theorem dX12_price_12 : decode cX12_price 12 = .ok (.ldc2_w 240, 3) := by decide +kernel
theorem dX12_price_15 : decode cX12_price 15 = .ok (.invokestatic 51, 3) := by decide +kernel
theorem dX12_price_18 : decode cX12_price 18 = .ok (.ifCond .ne 6, 3) := by decide +kernel
theorem dX12_price_21 : decode cX12_price 21 = .ok (.ldc 229, 2) := by decide +kernel
theorem dX12_price_23 : decode cX12_price 23 = .ok (.ireturn, 1) := by decide +kernel
theorem dX12_price_24 : decode cX12_price 24 = .ok (.aload_n 0, 1) := by decide +kernel
theorem dX12_price_25 : decode cX12_price 25 = .ok (.iload_n 1, 1) := by decide +kernel
theorem dX12_price_26 : decode cX12_price 26 = .ok (.iconst 0, 1) := by decide +kernel
theorem dX12_price_27 : decode cX12_price 27 = .ok (.iload_n 3, 1) := by decide +kernel
theorem dX12_price_28 : decode cX12_price 28 = .ok (.invokevirtual 237, 3) := by decide +kernel
theorem dX12_price_31 : decode cX12_price 31 = .ok (.istore 6, 2) := by decide +kernel
theorem dX12_price_33 : decode cX12_price 33 = .ok (.iload 6, 2) := by decide +kernel
theorem dX12_price_35 : decode cX12_price 35 = .ok (.ifCond .eq 9, 3) := by decide +kernel
theorem dX12_price_38 : decode cX12_price 38 = .ok (.ldc 230, 2) := by decide +kernel
theorem dX12_price_40 : decode cX12_price 40 = .ok (.iload 6, 2) := by decide +kernel
theorem dX12_price_42 : decode cX12_price 42 = .ok (.iadd, 1) := by decide +kernel
theorem dX12_price_43 : decode cX12_price 43 = .ok (.ireturn, 1) := by decide +kernel
theorem dX12_price_44 : decode cX12_price 44 = .ok (.aload_n 0, 1) := by decide +kernel
theorem dX12_price_45 : decode cX12_price 45 = .ok (.iload_n 1, 1) := by decide +kernel
theorem dX12_price_46 : decode cX12_price 46 = .ok (.iconst 0, 1) := by decide +kernel
theorem dX12_price_47 : decode cX12_price 47 = .ok (.iload_n 3, 1) := by decide +kernel
theorem dX12_price_48 : decode cX12_price 48 = .ok (.iload 4, 2) := by decide +kernel
theorem dX12_price_50 : decode cX12_price 50 = .ok (.iconst 2, 1) := by decide +kernel
theorem dX12_price_51 : decode cX12_price 51 = .ok (.invokevirtual 223, 3) := by decide +kernel
theorem dX12_price_54 : decode cX12_price 54 = .ok (.istore 7, 2) := by decide +kernel
theorem dX12_price_56 : decode cX12_price 56 = .ok (.aload_n 0, 1) := by decide +kernel
theorem dX12_price_57 : decode cX12_price 57 = .ok (.iload 4, 2) := by decide +kernel
theorem dX12_price_59 : decode cX12_price 59 = .ok (.iconst 0, 1) := by decide +kernel
theorem dX12_price_60 : decode cX12_price 60 = .ok (.aload_n 0, 1) := by decide +kernel
theorem dX12_price_61 : decode cX12_price 61 = .ok (.getfield 34, 3) := by decide +kernel
theorem dX12_price_64 : decode cX12_price 64 = .ok (.iload_n 1, 1) := by decide +kernel
theorem dX12_price_65 : decode cX12_price 65 = .ok (.iaload, 1) := by decide +kernel
theorem dX12_price_66 : decode cX12_price 66 = .ok (.aload_n 0, 1) := by decide +kernel
theorem dX12_price_67 : decode cX12_price 67 = .ok (.getfield 37, 3) := by decide +kernel
theorem dX12_price_70 : decode cX12_price 70 = .ok (.iload_n 1, 1) := by decide +kernel
theorem dX12_price_71 : decode cX12_price 71 = .ok (.iaload, 1) := by decide +kernel
theorem dX12_price_72 : decode cX12_price 72 = .ok (.invokevirtual 210, 3) := by decide +kernel
theorem dX12_price_75 : decode cX12_price 75 = .ok (.aload_n 0, 1) := by decide +kernel
theorem dX12_price_76 : decode cX12_price 76 = .ok (.getfield 16, 3) := by decide +kernel
theorem dX12_price_79 : decode cX12_price 79 = .ok (.iload_n 2, 1) := by decide +kernel
theorem dX12_price_80 : decode cX12_price 80 = .ok (.iconst 4, 1) := by decide +kernel
theorem dX12_price_81 : decode cX12_price 81 = .ok (.invokestatic 107, 3) := by decide +kernel
theorem dX12_price_84 : decode cX12_price 84 = .ok (.iload 5, 2) := by decide +kernel
theorem dX12_price_86 : decode cX12_price 86 = .ok (.iadd, 1) := by decide +kernel
theorem dX12_price_87 : decode cX12_price 87 = .ok (.istore 8, 2) := by decide +kernel
theorem dX12_price_89 : decode cX12_price 89 = .ok (.aload_n 0, 1) := by decide +kernel
theorem dX12_price_90 : decode cX12_price 90 = .ok (.getfield 16, 3) := by decide +kernel
theorem dX12_price_93 : decode cX12_price 93 = .ok (.iload_n 2, 1) := by decide +kernel
theorem dX12_price_94 : decode cX12_price 94 = .ok (.iconst 3, 1) := by decide +kernel
theorem dX12_price_95 : decode cX12_price 95 = .ok (.invokestatic 107, 3) := by decide +kernel
theorem dX12_price_98 : decode cX12_price 98 = .ok (.iload 5, 2) := by decide +kernel
theorem dX12_price_100 : decode cX12_price 100 = .ok (.bipush 10, 2) := by decide +kernel
theorem dX12_price_102 : decode cX12_price 102 = .ok (.idiv, 1) := by decide +kernel
theorem dX12_price_103 : decode cX12_price 103 = .ok (.isub, 1) := by decide +kernel
theorem dX12_price_104 : decode cX12_price 104 = .ok (.istore 9, 2) := by decide +kernel
theorem dX12_price_106 : decode cX12_price 106 = .ok (.aload_n 0, 1) := by decide +kernel
theorem dX12_price_107 : decode cX12_price 107 = .ok (.getfield 16, 3) := by decide +kernel
theorem dX12_price_110 : decode cX12_price 110 = .ok (.bipush 25, 2) := by decide +kernel
theorem dX12_price_112 : decode cX12_price 112 = .ok (.iconst 5, 1) := by decide +kernel
theorem dX12_price_113 : decode cX12_price 113 = .ok (.iload_n 2, 1) := by decide +kernel
theorem dX12_price_114 : decode cX12_price 114 = .ok (.imul, 1) := by decide +kernel
theorem dX12_price_115 : decode cX12_price 115 = .ok (.iadd, 1) := by decide +kernel
theorem dX12_price_116 : decode cX12_price 116 = .ok (.iconst 4, 1) := by decide +kernel
theorem dX12_price_117 : decode cX12_price 117 = .ok (.iadd, 1) := by decide +kernel
theorem dX12_price_118 : decode cX12_price 118 = .ok (.iload 8, 2) := by decide +kernel
theorem dX12_price_120 : decode cX12_price 120 = .ok (.bipush 99, 2) := by decide +kernel
theorem dX12_price_122 : decode cX12_price 122 = .ok (.if_icmp .le 8, 3) := by decide +kernel
theorem dX12_price_125 : decode cX12_price 125 = .ok (.bipush 99, 2) := by decide +kernel
theorem dX12_price_127 : decode cX12_price 127 = .ok (.goto 5, 3) := by decide +kernel
theorem dX12_price_130 : decode cX12_price 130 = .ok (.iload 8, 2) := by decide +kernel
theorem dX12_price_132 : decode cX12_price 132 = .ok (.iastore, 1) := by decide +kernel
theorem dX12_price_133 : decode cX12_price 133 = .ok (.aload_n 0, 1) := by decide +kernel
theorem dX12_price_134 : decode cX12_price 134 = .ok (.getfield 16, 3) := by decide +kernel
theorem dX12_price_137 : decode cX12_price 137 = .ok (.bipush 25, 2) := by decide +kernel
theorem dX12_price_139 : decode cX12_price 139 = .ok (.iconst 5, 1) := by decide +kernel
theorem dX12_price_140 : decode cX12_price 140 = .ok (.iload_n 2, 1) := by decide +kernel
theorem dX12_price_141 : decode cX12_price 141 = .ok (.imul, 1) := by decide +kernel
theorem dX12_price_142 : decode cX12_price 142 = .ok (.iadd, 1) := by decide +kernel
theorem dX12_price_143 : decode cX12_price 143 = .ok (.iconst 3, 1) := by decide +kernel
theorem dX12_price_144 : decode cX12_price 144 = .ok (.iadd, 1) := by decide +kernel
theorem dX12_price_145 : decode cX12_price 145 = .ok (.iload 9, 2) := by decide +kernel
theorem dX12_price_147 : decode cX12_price 147 = .ok (.iconst 1, 1) := by decide +kernel
theorem dX12_price_148 : decode cX12_price 148 = .ok (.if_icmp .ge 7, 3) := by decide +kernel
theorem dX12_price_151 : decode cX12_price 151 = .ok (.iconst 1, 1) := by decide +kernel
theorem dX12_price_152 : decode cX12_price 152 = .ok (.goto 5, 3) := by decide +kernel
theorem dX12_price_155 : decode cX12_price 155 = .ok (.iload 9, 2) := by decide +kernel
theorem dX12_price_157 : decode cX12_price 157 = .ok (.iastore, 1) := by decide +kernel
theorem dX12_price_158 : decode cX12_price 158 = .ok (.aload_n 0, 1) := by decide +kernel
theorem dX12_price_159 : decode cX12_price 159 = .ok (.iload_n 3, 1) := by decide +kernel
theorem dX12_price_160 : decode cX12_price 160 = .ok (.iconst 1, 1) := by decide +kernel
theorem dX12_price_161 : decode cX12_price 161 = .ok (.iconst 2, 1) := by decide +kernel
theorem dX12_price_162 : decode cX12_price 162 = .ok (.invokevirtual 214, 3) := by decide +kernel
theorem dX12_price_165 : decode cX12_price 165 = .ok (.iload 7, 2) := by decide +kernel
theorem dX12_price_167 : decode cX12_price 167 = .ok (.isub, 1) := by decide +kernel
theorem dX12_price_168 : decode cX12_price 168 = .ok (.ireturn, 1) := by decide +kernel
theorem dX12_son_0 : decode cX12_son 0 = .ok (.aload_n 0, 1) := by decide +kernel
theorem dX12_son_1 : decode cX12_son 1 = .ok (.iload_n 3, 1) := by decide +kernel
theorem dX12_son_2 : decode cX12_son 2 = .ok (.invokevirtual 130, 3) := by decide +kernel
theorem dX12_son_5 : decode cX12_son 5 = .ok (.ifCond .eq 8, 3) := by decide +kernel
theorem dX12_son_8 : decode cX12_son 8 = .ok (.iload_n 3, 1) := by decide +kernel
theorem dX12_son_9 : decode cX12_son 9 = .ok (.iload_n 2, 1) := by decide +kernel
theorem dX12_son_10 : decode cX12_son 10 = .ok (.if_icmp .ne 6, 3) := by decide +kernel
theorem dX12_son_13 : decode cX12_son 13 = .ok (.ldc 229, 2) := by decide +kernel
theorem dX12_son_15 : decode cX12_son 15 = .ok (.ireturn, 1) := by decide +kernel
theorem dX12_son_16 : decode cX12_son 16 = .ok (.aload_n 0, 1) := by decide +kernel
theorem dX12_son_17 : decode cX12_son 17 = .ok (.iload_n 1, 1) := by decide +kernel
theorem dX12_son_18 : decode cX12_son 18 = .ok (.iload_n 2, 1) := by decide +kernel
theorem dX12_son_19 : decode cX12_son 19 = .ok (.iload 4, 2) := by decide +kernel
theorem dX12_son_21 : decode cX12_son 21 = .ok (.invokevirtual 237, 3) := by decide +kernel
theorem dX12_son_24 : decode cX12_son 24 = .ok (.istore 6, 2) := by decide +kernel
theorem dX12_son_26 : decode cX12_son 26 = .ok (.iload 6, 2) := by decide +kernel
theorem dX12_son_28 : decode cX12_son 28 = .ok (.ifCond .eq 9, 3) := by decide +kernel
theorem dX12_son_31 : decode cX12_son 31 = .ok (.ldc 230, 2) := by decide +kernel
theorem dX12_son_33 : decode cX12_son 33 = .ok (.iload 6, 2) := by decide +kernel
theorem dX12_son_35 : decode cX12_son 35 = .ok (.iadd, 1) := by decide +kernel
theorem dX12_son_36 : decode cX12_son 36 = .ok (.ireturn, 1) := by decide +kernel
theorem dX12_son_37 : decode cX12_son 37 = .ok (.aload_n 0, 1) := by decide +kernel
theorem dX12_son_38 : decode cX12_son 38 = .ok (.iload_n 1, 1) := by decide +kernel
theorem dX12_son_39 : decode cX12_son 39 = .ok (.iload_n 2, 1) := by decide +kernel
theorem dX12_son_40 : decode cX12_son 40 = .ok (.iload 4, 2) := by decide +kernel
theorem dX12_son_42 : decode cX12_son 42 = .ok (.iload 5, 2) := by decide +kernel
theorem dX12_son_44 : decode cX12_son 44 = .ok (.iconst 0, 1) := by decide +kernel
theorem dX12_son_45 : decode cX12_son 45 = .ok (.invokevirtual 223, 3) := by decide +kernel
theorem dX12_son_48 : decode cX12_son 48 = .ok (.istore 7, 2) := by decide +kernel
theorem dX12_son_50 : decode cX12_son 50 = .ok (.aload_n 0, 1) := by decide +kernel
theorem dX12_son_51 : decode cX12_son 51 = .ok (.iload 5, 2) := by decide +kernel
theorem dX12_son_53 : decode cX12_son 53 = .ok (.iload_n 2, 1) := by decide +kernel
theorem dX12_son_54 : decode cX12_son 54 = .ok (.aload_n 0, 1) := by decide +kernel
theorem dX12_son_55 : decode cX12_son 55 = .ok (.getfield 34, 3) := by decide +kernel
theorem dX12_son_58 : decode cX12_son 58 = .ok (.iload_n 1, 1) := by decide +kernel
theorem dX12_son_59 : decode cX12_son 59 = .ok (.iaload, 1) := by decide +kernel
theorem dX12_son_60 : decode cX12_son 60 = .ok (.aload_n 0, 1) := by decide +kernel
theorem dX12_son_61 : decode cX12_son 61 = .ok (.getfield 37, 3) := by decide +kernel
theorem dX12_son_64 : decode cX12_son 64 = .ok (.iload_n 1, 1) := by decide +kernel
theorem dX12_son_65 : decode cX12_son 65 = .ok (.iaload, 1) := by decide +kernel
theorem dX12_son_66 : decode cX12_son 66 = .ok (.invokevirtual 210, 3) := by decide +kernel
theorem dX12_son_69 : decode cX12_son 69 = .ok (.aload_n 0, 1) := by decide +kernel
theorem dX12_son_70 : decode cX12_son 70 = .ok (.getfield 16, 3) := by decide +kernel
theorem dX12_son_73 : decode cX12_son 73 = .ok (.iconst 1, 1) := by decide +kernel
theorem dX12_son_74 : decode cX12_son 74 = .ok (.iload_n 3, 1) := by decide +kernel
theorem dX12_son_75 : decode cX12_son 75 = .ok (.aload_n 0, 1) := by decide +kernel
theorem dX12_son_76 : decode cX12_son 76 = .ok (.getfield 34, 3) := by decide +kernel
theorem dX12_son_79 : decode cX12_son 79 = .ok (.iload_n 1, 1) := by decide +kernel
theorem dX12_son_80 : decode cX12_son 80 = .ok (.iaload, 1) := by decide +kernel
theorem dX12_son_81 : decode cX12_son 81 = .ok (.aload_n 0, 1) := by decide +kernel
theorem dX12_son_82 : decode cX12_son 82 = .ok (.getfield 37, 3) := by decide +kernel
theorem dX12_son_85 : decode cX12_son 85 = .ok (.iload_n 1, 1) := by decide +kernel
theorem dX12_son_86 : decode cX12_son 86 = .ok (.iaload, 1) := by decide +kernel
theorem dX12_son_87 : decode cX12_son 87 = .ok (.invokestatic 43, 3) := by decide +kernel
theorem dX12_son_90 : decode cX12_son 90 = .ok (.iload 7, 2) := by decide +kernel
theorem dX12_son_92 : decode cX12_son 92 = .ok (.aload_n 0, 1) := by decide +kernel
theorem dX12_son_93 : decode cX12_son 93 = .ok (.iload 4, 2) := by decide +kernel
theorem dX12_son_95 : decode cX12_son 95 = .ok (.iconst 2, 1) := by decide +kernel
theorem dX12_son_96 : decode cX12_son 96 = .ok (.iconst 0, 1) := by decide +kernel
theorem dX12_son_97 : decode cX12_son 97 = .ok (.invokevirtual 214, 3) := by decide +kernel
theorem dX12_son_100 : decode cX12_son 100 = .ok (.isub, 1) := by decide +kernel
theorem dX12_son_101 : decode cX12_son 101 = .ok (.ireturn, 1) := by decide +kernel
theorem dX12_goingsOf_0 : decode cX12_goingsOf 0 = .ok (.iconst 0, 1) := by decide +kernel
theorem dX12_goingsOf_1 : decode cX12_goingsOf 1 = .ok (.istore_n 3, 1) := by decide +kernel
theorem dX12_goingsOf_2 : decode cX12_goingsOf 2 = .ok (.iload_n 3, 1) := by decide +kernel
theorem dX12_goingsOf_3 : decode cX12_goingsOf 3 = .ok (.sipush 174, 3) := by decide +kernel
theorem dX12_goingsOf_6 : decode cX12_goingsOf 6 = .ok (.if_icmp .ge 21, 3) := by decide +kernel
theorem dX12_goingsOf_9 : decode cX12_goingsOf 9 = .ok (.aload_n 0, 1) := by decide +kernel
theorem dX12_goingsOf_10 : decode cX12_goingsOf 10 = .ok (.getfield 16, 3) := by decide +kernel
theorem dX12_goingsOf_13 : decode cX12_goingsOf 13 = .ok (.iload_n 3, 1) := by decide +kernel
theorem dX12_goingsOf_14 : decode cX12_goingsOf 14 = .ok (.aload_n 0, 1) := by decide +kernel
theorem dX12_goingsOf_15 : decode cX12_goingsOf 15 = .ok (.getfield 9, 3) := by decide +kernel
theorem dX12_goingsOf_18 : decode cX12_goingsOf 18 = .ok (.iload_n 3, 1) := by decide +kernel
theorem dX12_goingsOf_19 : decode cX12_goingsOf 19 = .ok (.iaload, 1) := by decide +kernel
theorem dX12_goingsOf_20 : decode cX12_goingsOf 20 = .ok (.iastore, 1) := by decide +kernel
theorem dX12_goingsOf_21 : decode cX12_goingsOf 21 = .ok (.iinc 3 1, 3) := by decide +kernel
theorem dX12_goingsOf_24 : decode cX12_goingsOf 24 = .ok (.goto (-22), 3) := by decide +kernel
theorem dX12_goingsOf_27 : decode cX12_goingsOf 27 = .ok (.aload_n 0, 1) := by decide +kernel
theorem dX12_goingsOf_28 : decode cX12_goingsOf 28 = .ok (.iload_n 1, 1) := by decide +kernel
theorem dX12_goingsOf_29 : decode cX12_goingsOf 29 = .ok (.putfield 176, 3) := by decide +kernel
theorem dX12_goingsOf_32 : decode cX12_goingsOf 32 = .ok (.aload_n 0, 1) := by decide +kernel
theorem dX12_goingsOf_33 : decode cX12_goingsOf 33 = .ok (.iconst 4, 1) := by decide +kernel
theorem dX12_goingsOf_34 : decode cX12_goingsOf 34 = .ok (.putfield 173, 3) := by decide +kernel
theorem dX12_goingsOf_37 : decode cX12_goingsOf 37 = .ok (.aload_n 0, 1) := by decide +kernel
theorem dX12_goingsOf_38 : decode cX12_goingsOf 38 = .ok (.iload_n 2, 1) := by decide +kernel
theorem dX12_goingsOf_39 : decode cX12_goingsOf 39 = .ok (.iconst 1, 1) := by decide +kernel
theorem dX12_goingsOf_40 : decode cX12_goingsOf 40 = .ok (.iconst 0, 1) := by decide +kernel
theorem dX12_goingsOf_41 : decode cX12_goingsOf 41 = .ok (.invokevirtual 214, 3) := by decide +kernel
theorem dX12_goingsOf_44 : decode cX12_goingsOf 44 = .ok (.aload_n 0, 1) := by decide +kernel
theorem dX12_goingsOf_45 : decode cX12_goingsOf 45 = .ok (.getfield 9, 3) := by decide +kernel
theorem dX12_goingsOf_48 : decode cX12_goingsOf 48 = .ok (.iconst 5, 1) := by decide +kernel
theorem dX12_goingsOf_49 : decode cX12_goingsOf 49 = .ok (.iaload, 1) := by decide +kernel
theorem dX12_goingsOf_50 : decode cX12_goingsOf 50 = .ok (.isub, 1) := by decide +kernel
theorem dX12_goingsOf_51 : decode cX12_goingsOf 51 = .ok (.istore_n 3, 1) := by decide +kernel
theorem dX12_goingsOf_52 : decode cX12_goingsOf 52 = .ok (.aload_n 0, 1) := by decide +kernel
theorem dX12_goingsOf_53 : decode cX12_goingsOf 53 = .ok (.iconst 0, 1) := by decide +kernel
theorem dX12_goingsOf_54 : decode cX12_goingsOf 54 = .ok (.putfield 173, 3) := by decide +kernel
theorem dX12_goingsOf_57 : decode cX12_goingsOf 57 = .ok (.aload_n 0, 1) := by decide +kernel
theorem dX12_goingsOf_58 : decode cX12_goingsOf 58 = .ok (.getfield 16, 3) := by decide +kernel
theorem dX12_goingsOf_61 : decode cX12_goingsOf 61 = .ok (.bipush 7, 2) := by decide +kernel
theorem dX12_goingsOf_63 : decode cX12_goingsOf 63 = .ok (.iaload, 1) := by decide +kernel
theorem dX12_goingsOf_64 : decode cX12_goingsOf 64 = .ok (.aload_n 0, 1) := by decide +kernel
theorem dX12_goingsOf_65 : decode cX12_goingsOf 65 = .ok (.getfield 9, 3) := by decide +kernel
theorem dX12_goingsOf_68 : decode cX12_goingsOf 68 = .ok (.bipush 7, 2) := by decide +kernel
theorem dX12_goingsOf_70 : decode cX12_goingsOf 70 = .ok (.iaload, 1) := by decide +kernel
theorem dX12_goingsOf_71 : decode cX12_goingsOf 71 = .ok (.isub, 1) := by decide +kernel
theorem dX12_goingsOf_72 : decode cX12_goingsOf 72 = .ok (.iload_n 3, 1) := by decide +kernel
theorem dX12_goingsOf_73 : decode cX12_goingsOf 73 = .ok (.isub, 1) := by decide +kernel
theorem dX12_goingsOf_74 : decode cX12_goingsOf 74 = .ok (.ireturn, 1) := by decide +kernel
theorem dX12_goings_0 : decode cX12_goings 0 = .ok (.iload_n 1, 1) := by decide +kernel
theorem dX12_goings_1 : decode cX12_goings 1 = .ok (.i2l, 1) := by decide +kernel
theorem dX12_goings_2 : decode cX12_goings 2 = .ok (.lconst 0, 1) := by decide +kernel
theorem dX12_goings_3 : decode cX12_goings 3 = .ok (.ldc2_w 242, 3) := by decide +kernel
theorem dX12_goings_6 : decode cX12_goings 6 = .ok (.invokestatic 51, 3) := by decide +kernel
theorem dX12_goings_9 : decode cX12_goings 9 = .ok (.ifCond .eq 19, 3) := by decide +kernel
theorem dX12_goings_12 : decode cX12_goings 12 = .ok (.iload_n 2, 1) := by decide +kernel
theorem dX12_goings_13 : decode cX12_goings 13 = .ok (.invokestatic 220, 3) := by decide +kernel
theorem dX12_goings_16 : decode cX12_goings 16 = .ok (.ifCond .eq 12, 3) := by decide +kernel
theorem dX12_goings_19 : decode cX12_goings 19 = .ok (.aload_n 0, 1) := by decide +kernel
theorem dX12_goings_20 : decode cX12_goings 20 = .ok (.iload_n 1, 1) := by decide +kernel
theorem dX12_goings_21 : decode cX12_goings 21 = .ok (.iload_n 2, 1) := by decide +kernel
theorem dX12_goings_22 : decode cX12_goings 22 = .ok (.invokevirtual 244, 3) := by decide +kernel
theorem dX12_goings_25 : decode cX12_goings 25 = .ok (.goto 5, 3) := by decide +kernel
theorem dX12_goings_28 : decode cX12_goings 28 = .ok (.ldc 229, 2) := by decide +kernel
theorem dX12_goings_30 : decode cX12_goings 30 = .ok (.ireturn, 1) := by decide +kernel
theorem dX12_bestGoings_0 : decode cX12_bestGoings 0 = .ok (.iload_n 1, 1) := by decide +kernel
theorem dX12_bestGoings_1 : decode cX12_bestGoings 1 = .ok (.invokestatic 220, 3) := by decide +kernel
theorem dX12_bestGoings_4 : decode cX12_bestGoings 4 = .ok (.ifCond .ne 5, 3) := by decide +kernel
theorem dX12_bestGoings_7 : decode cX12_bestGoings 7 = .ok (.iconst (-1), 1) := by decide +kernel
theorem dX12_bestGoings_8 : decode cX12_bestGoings 8 = .ok (.ireturn, 1) := by decide +kernel
theorem dX12_bestGoings_9 : decode cX12_bestGoings 9 = .ok (.iconst 0, 1) := by decide +kernel
theorem dX12_bestGoings_10 : decode cX12_bestGoings 10 = .ok (.istore_n 2, 1) := by decide +kernel
theorem dX12_bestGoings_11 : decode cX12_bestGoings 11 = .ok (.aload_n 0, 1) := by decide +kernel
theorem dX12_bestGoings_12 : decode cX12_bestGoings 12 = .ok (.iconst 0, 1) := by decide +kernel
theorem dX12_bestGoings_13 : decode cX12_bestGoings 13 = .ok (.iload_n 1, 1) := by decide +kernel
theorem dX12_bestGoings_14 : decode cX12_bestGoings 14 = .ok (.invokevirtual 244, 3) := by decide +kernel
theorem dX12_bestGoings_17 : decode cX12_bestGoings 17 = .ok (.istore_n 3, 1) := by decide +kernel
theorem dX12_bestGoings_18 : decode cX12_bestGoings 18 = .ok (.iconst 1, 1) := by decide +kernel
theorem dX12_bestGoings_19 : decode cX12_bestGoings 19 = .ok (.istore 4, 2) := by decide +kernel
theorem dX12_bestGoings_21 : decode cX12_bestGoings 21 = .ok (.iload 4, 2) := by decide +kernel
theorem dX12_bestGoings_23 : decode cX12_bestGoings 23 = .ok (.sipush 625, 3) := by decide +kernel
theorem dX12_bestGoings_26 : decode cX12_bestGoings 26 = .ok (.if_icmp .ge 33, 3) := by decide +kernel
theorem dX12_bestGoings_29 : decode cX12_bestGoings 29 = .ok (.aload_n 0, 1) := by decide +kernel
theorem dX12_bestGoings_30 : decode cX12_bestGoings 30 = .ok (.iload 4, 2) := by decide +kernel
theorem dX12_bestGoings_32 : decode cX12_bestGoings 32 = .ok (.iload_n 1, 1) := by decide +kernel
theorem dX12_bestGoings_33 : decode cX12_bestGoings 33 = .ok (.invokevirtual 244, 3) := by decide +kernel
theorem dX12_bestGoings_36 : decode cX12_bestGoings 36 = .ok (.istore 5, 2) := by decide +kernel
theorem dX12_bestGoings_38 : decode cX12_bestGoings 38 = .ok (.iload 5, 2) := by decide +kernel
theorem dX12_bestGoings_40 : decode cX12_bestGoings 40 = .ok (.iload_n 3, 1) := by decide +kernel
theorem dX12_bestGoings_41 : decode cX12_bestGoings 41 = .ok (.if_icmp .gt 6, 3) := by decide +kernel
theorem dX12_bestGoings_44 : decode cX12_bestGoings 44 = .ok (.goto 9, 3) := by decide +kernel
theorem dX12_bestGoings_47 : decode cX12_bestGoings 47 = .ok (.iload 4, 2) := by decide +kernel
theorem dX12_bestGoings_49 : decode cX12_bestGoings 49 = .ok (.istore_n 2, 1) := by decide +kernel
theorem dX12_bestGoings_50 : decode cX12_bestGoings 50 = .ok (.iload 5, 2) := by decide +kernel
theorem dX12_bestGoings_52 : decode cX12_bestGoings 52 = .ok (.istore_n 3, 1) := by decide +kernel
theorem dX12_bestGoings_53 : decode cX12_bestGoings 53 = .ok (.iinc 4 1, 3) := by decide +kernel
theorem dX12_bestGoings_56 : decode cX12_bestGoings 56 = .ok (.goto (-35), 3) := by decide +kernel
theorem dX12_bestGoings_59 : decode cX12_bestGoings 59 = .ok (.iload_n 2, 1) := by decide +kernel
theorem dX12_bestGoings_60 : decode cX12_bestGoings 60 = .ok (.ireturn, 1) := by decide +kernel
theorem dX12_common_0 : decode cX12_common 0 = .ok (.lload_n 0, 1) := by decide +kernel
theorem dX12_common_1 : decode cX12_common 1 = .ok (.lstore 4, 2) := by decide +kernel
theorem dX12_common_3 : decode cX12_common 3 = .ok (.lload_n 2, 1) := by decide +kernel
theorem dX12_common_4 : decode cX12_common 4 = .ok (.lstore 6, 2) := by decide +kernel
theorem dX12_common_6 : decode cX12_common 6 = .ok (.lload 6, 2) := by decide +kernel
theorem dX12_common_8 : decode cX12_common 8 = .ok (.lconst 0, 1) := by decide +kernel
theorem dX12_common_9 : decode cX12_common 9 = .ok (.lcmp, 1) := by decide +kernel
theorem dX12_common_10 : decode cX12_common 10 = .ok (.ifCond .eq 21, 3) := by decide +kernel
theorem dX12_common_13 : decode cX12_common 13 = .ok (.lload 4, 2) := by decide +kernel
theorem dX12_common_15 : decode cX12_common 15 = .ok (.lload 6, 2) := by decide +kernel
theorem dX12_common_17 : decode cX12_common 17 = .ok (.lrem, 1) := by decide +kernel
theorem dX12_common_18 : decode cX12_common 18 = .ok (.lstore 8, 2) := by decide +kernel
theorem dX12_common_20 : decode cX12_common 20 = .ok (.lload 6, 2) := by decide +kernel
theorem dX12_common_22 : decode cX12_common 22 = .ok (.lstore 4, 2) := by decide +kernel
theorem dX12_common_24 : decode cX12_common 24 = .ok (.lload 8, 2) := by decide +kernel
theorem dX12_common_26 : decode cX12_common 26 = .ok (.lstore 6, 2) := by decide +kernel
theorem dX12_common_28 : decode cX12_common 28 = .ok (.goto (-22), 3) := by decide +kernel
theorem dX12_common_31 : decode cX12_common 31 = .ok (.lload 4, 2) := by decide +kernel
theorem dX12_common_33 : decode cX12_common 33 = .ok (.lreturn, 1) := by decide +kernel
theorem dX12_nobody_0 : decode cX12_nobody 0 = .ok (.aload_n 0, 1) := by decide +kernel
theorem dX12_nobody_1 : decode cX12_nobody 1 = .ok (.iload_n 1, 1) := by decide +kernel
theorem dX12_nobody_2 : decode cX12_nobody 2 = .ok (.invokevirtual 130, 3) := by decide +kernel
theorem dX12_nobody_5 : decode cX12_nobody 5 = .ok (.ifCond .eq 25, 3) := by decide +kernel
theorem dX12_nobody_8 : decode cX12_nobody 8 = .ok (.iload_n 2, 1) := by decide +kernel
theorem dX12_nobody_9 : decode cX12_nobody 9 = .ok (.i2l, 1) := by decide +kernel
theorem dX12_nobody_10 : decode cX12_nobody 10 = .ok (.lconst 0, 1) := by decide +kernel
theorem dX12_nobody_11 : decode cX12_nobody 11 = .ok (.ldc2_w 97, 3) := by decide +kernel
theorem dX12_nobody_14 : decode cX12_nobody 14 = .ok (.invokestatic 51, 3) := by decide +kernel
theorem dX12_nobody_17 : decode cX12_nobody 17 = .ok (.ifCond .eq 13, 3) := by decide +kernel
theorem dX12_nobody_20 : decode cX12_nobody 20 = .ok (.iload_n 3, 1) := by decide +kernel
theorem dX12_nobody_21 : decode cX12_nobody 21 = .ok (.i2l, 1) := by decide +kernel
theorem dX12_nobody_22 : decode cX12_nobody 22 = .ok (.lconst 0, 1) := by decide +kernel
theorem dX12_nobody_23 : decode cX12_nobody 23 = .ok (.lconst 1, 1) := by decide +kernel
theorem dX12_nobody_24 : decode cX12_nobody 24 = .ok (.invokestatic 51, 3) := by decide +kernel
theorem dX12_nobody_27 : decode cX12_nobody 27 = .ok (.ifCond .ne 7, 3) := by decide +kernel
theorem dX12_nobody_30 : decode cX12_nobody 30 = .ok (.ldc2_w 247, 3) := by decide +kernel
theorem dX12_nobody_33 : decode cX12_nobody 33 = .ok (.lreturn, 1) := by decide +kernel
theorem dX12_nobody_34 : decode cX12_nobody 34 = .ok (.iconst 0, 1) := by decide +kernel
theorem dX12_nobody_35 : decode cX12_nobody 35 = .ok (.istore 4, 2) := by decide +kernel
theorem dX12_nobody_37 : decode cX12_nobody 37 = .ok (.iconst 0, 1) := by decide +kernel
theorem dX12_nobody_38 : decode cX12_nobody 38 = .ok (.istore 5, 2) := by decide +kernel
theorem dX12_nobody_40 : decode cX12_nobody 40 = .ok (.iload 5, 2) := by decide +kernel
theorem dX12_nobody_42 : decode cX12_nobody 42 = .ok (.aload_n 0, 1) := by decide +kernel
theorem dX12_nobody_43 : decode cX12_nobody 43 = .ok (.getfield 9, 3) := by decide +kernel
theorem dX12_nobody_46 : decode cX12_nobody 46 = .ok (.iconst 1, 1) := by decide +kernel
theorem dX12_nobody_47 : decode cX12_nobody 47 = .ok (.iaload, 1) := by decide +kernel
theorem dX12_nobody_48 : decode cX12_nobody 48 = .ok (.if_icmp .ge 33, 3) := by decide +kernel
theorem dX12_nobody_51 : decode cX12_nobody 51 = .ok (.iload 4, 2) := by decide +kernel
theorem dX12_nobody_53 : decode cX12_nobody 53 = .ok (.aload_n 0, 1) := by decide +kernel
theorem dX12_nobody_54 : decode cX12_nobody 54 = .ok (.getfield 9, 3) := by decide +kernel
theorem dX12_nobody_57 : decode cX12_nobody 57 = .ok (.iload 5, 2) := by decide +kernel
theorem dX12_nobody_59 : decode cX12_nobody 59 = .ok (.iconst 0, 1) := by decide +kernel
theorem dX12_nobody_60 : decode cX12_nobody 60 = .ok (.invokestatic 107, 3) := by decide +kernel
theorem dX12_nobody_63 : decode cX12_nobody 63 = .ok (.iload_n 1, 1) := by decide +kernel
theorem dX12_nobody_64 : decode cX12_nobody 64 = .ok (.if_icmp .ne 7, 3) := by decide +kernel
theorem dX12_nobody_67 : decode cX12_nobody 67 = .ok (.iconst 1, 1) := by decide +kernel
theorem dX12_nobody_68 : decode cX12_nobody 68 = .ok (.goto 4, 3) := by decide +kernel
theorem dX12_nobody_71 : decode cX12_nobody 71 = .ok (.iconst 0, 1) := by decide +kernel
theorem dX12_nobody_72 : decode cX12_nobody 72 = .ok (.iadd, 1) := by decide +kernel
theorem dX12_nobody_73 : decode cX12_nobody 73 = .ok (.istore 4, 2) := by decide +kernel
theorem dX12_nobody_75 : decode cX12_nobody 75 = .ok (.iinc 5 1, 3) := by decide +kernel
theorem dX12_nobody_78 : decode cX12_nobody 78 = .ok (.goto (-38), 3) := by decide +kernel
theorem dX12_nobody_81 : decode cX12_nobody 81 = .ok (.iload_n 2, 1) := by decide +kernel
theorem dX12_nobody_82 : decode cX12_nobody 82 = .ok (.iload 4, 2) := by decide +kernel
theorem dX12_nobody_84 : decode cX12_nobody 84 = .ok (.imul, 1) := by decide +kernel
theorem dX12_nobody_85 : decode cX12_nobody 85 = .ok (.bipush 8, 2) := by decide +kernel
theorem dX12_nobody_87 : decode cX12_nobody 87 = .ok (.if_icmp .le 7, 3) := by decide +kernel
theorem dX12_nobody_90 : decode cX12_nobody 90 = .ok (.ldc2_w 249, 3) := by decide +kernel
theorem dX12_nobody_93 : decode cX12_nobody 93 = .ok (.lreturn, 1) := by decide +kernel
theorem dX12_nobody_94 : decode cX12_nobody 94 = .ok (.lconst 1, 1) := by decide +kernel
theorem dX12_nobody_95 : decode cX12_nobody 95 = .ok (.lstore 5, 2) := by decide +kernel
theorem dX12_nobody_97 : decode cX12_nobody 97 = .ok (.lconst 1, 1) := by decide +kernel
theorem dX12_nobody_98 : decode cX12_nobody 98 = .ok (.lstore 7, 2) := by decide +kernel
theorem dX12_nobody_100 : decode cX12_nobody 100 = .ok (.iconst 0, 1) := by decide +kernel
theorem dX12_nobody_101 : decode cX12_nobody 101 = .ok (.istore 9, 2) := by decide +kernel
theorem dX12_nobody_103 : decode cX12_nobody 103 = .ok (.iload 9, 2) := by decide +kernel
theorem dX12_nobody_105 : decode cX12_nobody 105 = .ok (.aload_n 0, 1) := by decide +kernel
theorem dX12_nobody_106 : decode cX12_nobody 106 = .ok (.getfield 9, 3) := by decide +kernel
theorem dX12_nobody_109 : decode cX12_nobody 109 = .ok (.iconst 1, 1) := by decide +kernel
theorem dX12_nobody_110 : decode cX12_nobody 110 = .ok (.iaload, 1) := by decide +kernel
theorem dX12_nobody_111 : decode cX12_nobody 111 = .ok (.if_icmp .ge 68, 3) := by decide +kernel
theorem dX12_nobody_114 : decode cX12_nobody 114 = .ok (.aload_n 0, 1) := by decide +kernel
theorem dX12_nobody_115 : decode cX12_nobody 115 = .ok (.getfield 9, 3) := by decide +kernel
theorem dX12_nobody_118 : decode cX12_nobody 118 = .ok (.iload 9, 2) := by decide +kernel
theorem dX12_nobody_120 : decode cX12_nobody 120 = .ok (.iconst 0, 1) := by decide +kernel
theorem dX12_nobody_121 : decode cX12_nobody 121 = .ok (.invokestatic 107, 3) := by decide +kernel
theorem dX12_nobody_124 : decode cX12_nobody 124 = .ok (.iload_n 1, 1) := by decide +kernel
theorem dX12_nobody_125 : decode cX12_nobody 125 = .ok (.if_icmp .eq 6, 3) := by decide +kernel
theorem dX12_nobody_128 : decode cX12_nobody 128 = .ok (.goto 45, 3) := by decide +kernel
theorem dX12_nobody_131 : decode cX12_nobody 131 = .ok (.iconst 0, 1) := by decide +kernel
theorem dX12_nobody_132 : decode cX12_nobody 132 = .ok (.istore 10, 2) := by decide +kernel
theorem dX12_nobody_134 : decode cX12_nobody 134 = .ok (.iload 10, 2) := by decide +kernel
theorem dX12_nobody_136 : decode cX12_nobody 136 = .ok (.iload_n 2, 1) := by decide +kernel
theorem dX12_nobody_137 : decode cX12_nobody 137 = .ok (.if_icmp .ge 36, 3) := by decide +kernel
theorem dX12_nobody_140 : decode cX12_nobody 140 = .ok (.lload 5, 2) := by decide +kernel
theorem dX12_nobody_142 : decode cX12_nobody 142 = .ok (.bipush 100, 2) := by decide +kernel
theorem dX12_nobody_144 : decode cX12_nobody 144 = .ok (.aload_n 0, 1) := by decide +kernel
theorem dX12_nobody_145 : decode cX12_nobody 145 = .ok (.getfield 9, 3) := by decide +kernel
theorem dX12_nobody_148 : decode cX12_nobody 148 = .ok (.iload 9, 2) := by decide +kernel
theorem dX12_nobody_150 : decode cX12_nobody 150 = .ok (.iconst 2, 1) := by decide +kernel
theorem dX12_nobody_151 : decode cX12_nobody 151 = .ok (.invokestatic 107, 3) := by decide +kernel
theorem dX12_nobody_154 : decode cX12_nobody 154 = .ok (.isub, 1) := by decide +kernel
theorem dX12_nobody_155 : decode cX12_nobody 155 = .ok (.i2l, 1) := by decide +kernel
theorem dX12_nobody_156 : decode cX12_nobody 156 = .ok (.lmul, 1) := by decide +kernel
theorem dX12_nobody_157 : decode cX12_nobody 157 = .ok (.lstore 5, 2) := by decide +kernel
theorem dX12_nobody_159 : decode cX12_nobody 159 = .ok (.lload 7, 2) := by decide +kernel
theorem dX12_nobody_161 : decode cX12_nobody 161 = .ok (.ldc2_w 136, 3) := by decide +kernel
theorem dX12_nobody_164 : decode cX12_nobody 164 = .ok (.lmul, 1) := by decide +kernel
theorem dX12_nobody_165 : decode cX12_nobody 165 = .ok (.lstore 7, 2) := by decide +kernel
theorem dX12_nobody_167 : decode cX12_nobody 167 = .ok (.iinc 10 1, 3) := by decide +kernel
theorem dX12_nobody_170 : decode cX12_nobody 170 = .ok (.goto (-36), 3) := by decide +kernel
theorem dX12_nobody_173 : decode cX12_nobody 173 = .ok (.iinc 9 1, 3) := by decide +kernel
theorem dX12_nobody_176 : decode cX12_nobody 176 = .ok (.goto (-73), 3) := by decide +kernel
theorem dX12_nobody_179 : decode cX12_nobody 179 = .ok (.lload 5, 2) := by decide +kernel
theorem dX12_nobody_181 : decode cX12_nobody 181 = .ok (.lload 7, 2) := by decide +kernel
theorem dX12_nobody_183 : decode cX12_nobody 183 = .ok (.invokestatic 251, 3) := by decide +kernel
theorem dX12_nobody_186 : decode cX12_nobody 186 = .ok (.lstore 9, 2) := by decide +kernel
theorem dX12_nobody_188 : decode cX12_nobody 188 = .ok (.iload_n 3, 1) := by decide +kernel
theorem dX12_nobody_189 : decode cX12_nobody 189 = .ok (.ifCond .ne 11, 3) := by decide +kernel
theorem dX12_nobody_192 : decode cX12_nobody 192 = .ok (.lload 5, 2) := by decide +kernel
theorem dX12_nobody_194 : decode cX12_nobody 194 = .ok (.lload 9, 2) := by decide +kernel
theorem dX12_nobody_196 : decode cX12_nobody 196 = .ok (.ldiv, 1) := by decide +kernel
theorem dX12_nobody_197 : decode cX12_nobody 197 = .ok (.goto 8, 3) := by decide +kernel
theorem dX12_nobody_200 : decode cX12_nobody 200 = .ok (.lload 7, 2) := by decide +kernel
theorem dX12_nobody_202 : decode cX12_nobody 202 = .ok (.lload 9, 2) := by decide +kernel
theorem dX12_nobody_204 : decode cX12_nobody 204 = .ok (.ldiv, 1) := by decide +kernel
theorem dX12_nobody_205 : decode cX12_nobody 205 = .ok (.lreturn, 1) := by decide +kernel
theorem dX12_leastOf_0 : decode cX12_leastOf 0 = .ok (.aload_n 0, 1) := by decide +kernel
theorem dX12_leastOf_1 : decode cX12_leastOf 1 = .ok (.getfield 25, 3) := by decide +kernel
theorem dX12_leastOf_4 : decode cX12_leastOf 4 = .ok (.iload_n 1, 1) := by decide +kernel
theorem dX12_leastOf_5 : decode cX12_leastOf 5 = .ok (.iaload, 1) := by decide +kernel
theorem dX12_leastOf_6 : decode cX12_leastOf 6 = .ok (.ifCond .ne 8, 3) := by decide +kernel
theorem dX12_leastOf_9 : decode cX12_leastOf 9 = .ok (.bipush (-128), 2) := by decide +kernel
theorem dX12_leastOf_11 : decode cX12_leastOf 11 = .ok (.goto 21, 3) := by decide +kernel
theorem dX12_leastOf_14 : decode cX12_leastOf 14 = .ok (.aload_n 0, 1) := by decide +kernel
theorem dX12_leastOf_15 : decode cX12_leastOf 15 = .ok (.getfield 25, 3) := by decide +kernel
theorem dX12_leastOf_18 : decode cX12_leastOf 18 = .ok (.iload_n 1, 1) := by decide +kernel
theorem dX12_leastOf_19 : decode cX12_leastOf 19 = .ok (.iaload, 1) := by decide +kernel
theorem dX12_leastOf_20 : decode cX12_leastOf 20 = .ok (.iconst 1, 1) := by decide +kernel
theorem dX12_leastOf_21 : decode cX12_leastOf 21 = .ok (.if_icmp .ne 9, 3) := by decide +kernel
theorem dX12_leastOf_24 : decode cX12_leastOf 24 = .ok (.sipush (-32768), 3) := by decide +kernel
theorem dX12_leastOf_27 : decode cX12_leastOf 27 = .ok (.goto 5, 3) := by decide +kernel
theorem dX12_leastOf_30 : decode cX12_leastOf 30 = .ok (.ldc 255, 2) := by decide +kernel
theorem dX12_leastOf_32 : decode cX12_leastOf 32 = .ok (.ireturn, 1) := by decide +kernel
theorem dX12_judge_0 : decode cX12_judge 0 = .ok (.aload_n 0, 1) := by decide +kernel
theorem dX12_judge_1 : decode cX12_judge 1 = .ok (.iload_n 1, 1) := by decide +kernel
theorem dX12_judge_2 : decode cX12_judge 2 = .ok (.invokevirtual 130, 3) := by decide +kernel
theorem dX12_judge_5 : decode cX12_judge 5 = .ok (.ifCond .eq 10, 3) := by decide +kernel
theorem dX12_judge_8 : decode cX12_judge 8 = .ok (.iload_n 2, 1) := by decide +kernel
theorem dX12_judge_9 : decode cX12_judge 9 = .ok (.invokestatic 117, 3) := by decide +kernel
theorem dX12_judge_12 : decode cX12_judge 12 = .ok (.ifCond .ne 5, 3) := by decide +kernel
theorem dX12_judge_15 : decode cX12_judge 15 = .ok (.iconst (-1), 1) := by decide +kernel
theorem dX12_judge_16 : decode cX12_judge 16 = .ok (.ireturn, 1) := by decide +kernel
theorem dX12_judge_17 : decode cX12_judge 17 = .ok (.aload_n 0, 1) := by decide +kernel
theorem dX12_judge_18 : decode cX12_judge 18 = .ok (.iload_n 2, 1) := by decide +kernel
theorem dX12_judge_19 : decode cX12_judge 19 = .ok (.iconst (-1), 1) := by decide +kernel
theorem dX12_judge_20 : decode cX12_judge 20 = .ok (.invokevirtual 120, 3) := by decide +kernel
theorem dX12_judge_23 : decode cX12_judge 23 = .ok (.istore_n 3, 1) := by decide +kernel
theorem dX12_judge_24 : decode cX12_judge 24 = .ok (.iload_n 3, 1) := by decide +kernel
theorem dX12_judge_25 : decode cX12_judge 25 = .ok (.ifCond .eq 5, 3) := by decide +kernel
theorem dX12_judge_28 : decode cX12_judge 28 = .ok (.iload_n 3, 1) := by decide +kernel
theorem dX12_judge_29 : decode cX12_judge 29 = .ok (.ireturn, 1) := by decide +kernel
theorem dX12_judge_30 : decode cX12_judge 30 = .ok (.iconst 0, 1) := by decide +kernel
theorem dX12_judge_31 : decode cX12_judge 31 = .ok (.istore 4, 2) := by decide +kernel
theorem dX12_judge_33 : decode cX12_judge 33 = .ok (.iload 4, 2) := by decide +kernel
theorem dX12_judge_35 : decode cX12_judge 35 = .ok (.sipush 174, 3) := by decide +kernel
theorem dX12_judge_38 : decode cX12_judge 38 = .ok (.if_icmp .ge 23, 3) := by decide +kernel
theorem dX12_judge_41 : decode cX12_judge 41 = .ok (.aload_n 0, 1) := by decide +kernel
theorem dX12_judge_42 : decode cX12_judge 42 = .ok (.getfield 16, 3) := by decide +kernel
theorem dX12_judge_45 : decode cX12_judge 45 = .ok (.iload 4, 2) := by decide +kernel
theorem dX12_judge_47 : decode cX12_judge 47 = .ok (.aload_n 0, 1) := by decide +kernel
theorem dX12_judge_48 : decode cX12_judge 48 = .ok (.getfield 9, 3) := by decide +kernel
theorem dX12_judge_51 : decode cX12_judge 51 = .ok (.iload 4, 2) := by decide +kernel
theorem dX12_judge_53 : decode cX12_judge 53 = .ok (.iaload, 1) := by decide +kernel
theorem dX12_judge_54 : decode cX12_judge 54 = .ok (.iastore, 1) := by decide +kernel
theorem dX12_judge_55 : decode cX12_judge 55 = .ok (.iinc 4 1, 3) := by decide +kernel
theorem dX12_judge_58 : decode cX12_judge 58 = .ok (.goto (-25), 3) := by decide +kernel
theorem dX12_judge_61 : decode cX12_judge 61 = .ok (.aload_n 0, 1) := by decide +kernel
theorem dX12_judge_62 : decode cX12_judge 62 = .ok (.iconst 0, 1) := by decide +kernel
theorem dX12_judge_63 : decode cX12_judge 63 = .ok (.putfield 173, 3) := by decide +kernel
theorem dX12_judge_66 : decode cX12_judge 66 = .ok (.iconst 0, 1) := by decide +kernel
theorem dX12_judge_67 : decode cX12_judge 67 = .ok (.istore 4, 2) := by decide +kernel
theorem dX12_judge_69 : decode cX12_judge 69 = .ok (.iload 4, 2) := by decide +kernel
theorem dX12_judge_71 : decode cX12_judge 71 = .ok (.aload_n 0, 1) := by decide +kernel
theorem dX12_judge_72 : decode cX12_judge 72 = .ok (.getfield 28, 3) := by decide +kernel
theorem dX12_judge_75 : decode cX12_judge 75 = .ok (.iload_n 2, 1) := by decide +kernel
theorem dX12_judge_76 : decode cX12_judge 76 = .ok (.iaload, 1) := by decide +kernel
theorem dX12_judge_77 : decode cX12_judge 77 = .ok (.if_icmp .ge 58, 3) := by decide +kernel
theorem dX12_judge_80 : decode cX12_judge 80 = .ok (.aload_n 0, 1) := by decide +kernel
theorem dX12_judge_81 : decode cX12_judge 81 = .ok (.aload_n 0, 1) := by decide +kernel
theorem dX12_judge_82 : decode cX12_judge 82 = .ok (.getfield 16, 3) := by decide +kernel
theorem dX12_judge_85 : decode cX12_judge 85 = .ok (.iconst 1, 1) := by decide +kernel
theorem dX12_judge_86 : decode cX12_judge 86 = .ok (.invokevirtual 205, 3) := by decide +kernel
theorem dX12_judge_89 : decode cX12_judge 89 = .ok (.aload_n 0, 1) := by decide +kernel
theorem dX12_judge_90 : decode cX12_judge 90 = .ok (.getfield 31, 3) := by decide +kernel
theorem dX12_judge_93 : decode cX12_judge 93 = .ok (.bipush 100, 2) := by decide +kernel
theorem dX12_judge_95 : decode cX12_judge 95 = .ok (.iload_n 2, 1) := by decide +kernel
theorem dX12_judge_96 : decode cX12_judge 96 = .ok (.imul, 1) := by decide +kernel
theorem dX12_judge_97 : decode cX12_judge 97 = .ok (.iload 4, 2) := by decide +kernel
theorem dX12_judge_99 : decode cX12_judge 99 = .ok (.iadd, 1) := by decide +kernel
theorem dX12_judge_100 : decode cX12_judge 100 = .ok (.iaload, 1) := by decide +kernel
theorem dX12_judge_101 : decode cX12_judge 101 = .ok (.istore 5, 2) := by decide +kernel
theorem dX12_judge_103 : decode cX12_judge 103 = .ok (.iload 5, 2) := by decide +kernel
theorem dX12_judge_105 : decode cX12_judge 105 = .ok (.aload_n 0, 1) := by decide +kernel
theorem dX12_judge_106 : decode cX12_judge 106 = .ok (.iload_n 2, 1) := by decide +kernel
theorem dX12_judge_107 : decode cX12_judge 107 = .ok (.invokevirtual 256, 3) := by decide +kernel
theorem dX12_judge_110 : decode cX12_judge 110 = .ok (.if_icmp .eq 19, 3) := by decide +kernel
theorem dX12_judge_113 : decode cX12_judge 113 = .ok (.iload 5, 2) := by decide +kernel
theorem dX12_judge_115 : decode cX12_judge 115 = .ok (.aload_n 0, 1) := by decide +kernel
theorem dX12_judge_116 : decode cX12_judge 116 = .ok (.getfield 16, 3) := by decide +kernel
theorem dX12_judge_119 : decode cX12_judge 119 = .ok (.iload_n 1, 1) := by decide +kernel
theorem dX12_judge_120 : decode cX12_judge 120 = .ok (.invokestatic 99, 3) := by decide +kernel
theorem dX12_judge_123 : decode cX12_judge 123 = .ok (.if_icmp .eq 6, 3) := by decide +kernel
theorem dX12_judge_126 : decode cX12_judge 126 = .ok (.iload 4, 2) := by decide +kernel
theorem dX12_judge_128 : decode cX12_judge 128 = .ok (.ireturn, 1) := by decide +kernel
theorem dX12_judge_129 : decode cX12_judge 129 = .ok (.iinc 4 1, 3) := by decide +kernel
theorem dX12_judge_132 : decode cX12_judge 132 = .ok (.goto (-63), 3) := by decide +kernel
theorem dX12_judge_135 : decode cX12_judge 135 = .ok (.bipush (-4), 2) := by decide +kernel
theorem dX12_judge_137 : decode cX12_judge 137 = .ok (.ireturn, 1) := by decide +kernel
theorem dX12_image_0 : decode cX12_image 0 = .ok (.iconst 0, 1) := by decide +kernel
theorem dX12_image_1 : decode cX12_image 1 = .ok (.istore_n 1, 1) := by decide +kernel
theorem dX12_image_2 : decode cX12_image 2 = .ok (.iload_n 1, 1) := by decide +kernel
theorem dX12_image_3 : decode cX12_image 3 = .ok (.sipush 174, 3) := by decide +kernel
theorem dX12_image_6 : decode cX12_image 6 = .ok (.if_icmp .ge 21, 3) := by decide +kernel
theorem dX12_image_9 : decode cX12_image 9 = .ok (.aload_n 0, 1) := by decide +kernel
theorem dX12_image_10 : decode cX12_image 10 = .ok (.getfield 13, 3) := by decide +kernel
theorem dX12_image_13 : decode cX12_image 13 = .ok (.iload_n 1, 1) := by decide +kernel
theorem dX12_image_14 : decode cX12_image 14 = .ok (.aload_n 0, 1) := by decide +kernel
theorem dX12_image_15 : decode cX12_image 15 = .ok (.getfield 9, 3) := by decide +kernel
theorem dX12_image_18 : decode cX12_image 18 = .ok (.iload_n 1, 1) := by decide +kernel
theorem dX12_image_19 : decode cX12_image 19 = .ok (.iaload, 1) := by decide +kernel
theorem dX12_image_20 : decode cX12_image 20 = .ok (.iastore, 1) := by decide +kernel
theorem dX12_image_21 : decode cX12_image 21 = .ok (.iinc 1 1, 3) := by decide +kernel
theorem dX12_image_24 : decode cX12_image 24 = .ok (.goto (-22), 3) := by decide +kernel
theorem dX12_image_27 : decode cX12_image 27 = .ok (.aload_n 0, 1) := by decide +kernel
theorem dX12_image_28 : decode cX12_image 28 = .ok (.iconst 1, 1) := by decide +kernel
theorem dX12_image_29 : decode cX12_image 29 = .ok (.putfield 259, 3) := by decide +kernel
theorem dX12_image_32 : decode cX12_image 32 = .ok (.aload_n 0, 1) := by decide +kernel
theorem dX12_image_33 : decode cX12_image 33 = .ok (.getfield 9, 3) := by decide +kernel
theorem dX12_image_36 : decode cX12_image 36 = .ok (.iconst 3, 1) := by decide +kernel
theorem dX12_image_37 : decode cX12_image 37 = .ok (.iaload, 1) := by decide +kernel
theorem dX12_image_38 : decode cX12_image 38 = .ok (.ireturn, 1) := by decide +kernel
theorem dX12_restore_0 : decode cX12_restore 0 = .ok (.aload_n 0, 1) := by decide +kernel
theorem dX12_restore_1 : decode cX12_restore 1 = .ok (.getfield 259, 3) := by decide +kernel
theorem dX12_restore_4 : decode cX12_restore 4 = .ok (.ifCond .ne 6, 3) := by decide +kernel
theorem dX12_restore_7 : decode cX12_restore 7 = .ok (.bipush (-3), 2) := by decide +kernel
theorem dX12_restore_9 : decode cX12_restore 9 = .ok (.ireturn, 1) := by decide +kernel
theorem dX12_restore_10 : decode cX12_restore 10 = .ok (.iconst 0, 1) := by decide +kernel
theorem dX12_restore_11 : decode cX12_restore 11 = .ok (.istore_n 1, 1) := by decide +kernel
theorem dX12_restore_12 : decode cX12_restore 12 = .ok (.iload_n 1, 1) := by decide +kernel
theorem dX12_restore_13 : decode cX12_restore 13 = .ok (.sipush 174, 3) := by decide +kernel
theorem dX12_restore_16 : decode cX12_restore 16 = .ok (.if_icmp .ge 21, 3) := by decide +kernel
theorem dX12_restore_19 : decode cX12_restore 19 = .ok (.aload_n 0, 1) := by decide +kernel
theorem dX12_restore_20 : decode cX12_restore 20 = .ok (.getfield 9, 3) := by decide +kernel
theorem dX12_restore_23 : decode cX12_restore 23 = .ok (.iload_n 1, 1) := by decide +kernel
theorem dX12_restore_24 : decode cX12_restore 24 = .ok (.aload_n 0, 1) := by decide +kernel
theorem dX12_restore_25 : decode cX12_restore 25 = .ok (.getfield 13, 3) := by decide +kernel
theorem dX12_restore_28 : decode cX12_restore 28 = .ok (.iload_n 1, 1) := by decide +kernel
theorem dX12_restore_29 : decode cX12_restore 29 = .ok (.iaload, 1) := by decide +kernel
theorem dX12_restore_30 : decode cX12_restore 30 = .ok (.iastore, 1) := by decide +kernel
theorem dX12_restore_31 : decode cX12_restore 31 = .ok (.iinc 1 1, 3) := by decide +kernel
theorem dX12_restore_34 : decode cX12_restore 34 = .ok (.goto (-22), 3) := by decide +kernel
theorem dX12_restore_37 : decode cX12_restore 37 = .ok (.aload_n 0, 1) := by decide +kernel
theorem dX12_restore_38 : decode cX12_restore 38 = .ok (.getfield 9, 3) := by decide +kernel
theorem dX12_restore_41 : decode cX12_restore 41 = .ok (.iconst 3, 1) := by decide +kernel
theorem dX12_restore_42 : decode cX12_restore 42 = .ok (.iaload, 1) := by decide +kernel
theorem dX12_restore_43 : decode cX12_restore 43 = .ok (.ireturn, 1) := by decide +kernel
theorem dX12_count_0 : decode cX12_count 0 = .ok (.iconst 0, 1) := by decide +kernel
theorem dX12_count_1 : decode cX12_count 1 = .ok (.istore_n 2, 1) := by decide +kernel
theorem dX12_count_2 : decode cX12_count 2 = .ok (.iload_n 1, 1) := by decide +kernel
theorem dX12_count_3 : decode cX12_count 3 = .ok (.tableswitch 107 0 5 #[37, 37, 37, 37, 44, 75], 37) := by decide +kernel
theorem dX12_count_40 : decode cX12_count 40 = .ok (.aload_n 0, 1) := by decide +kernel
theorem dX12_count_41 : decode cX12_count 41 = .ok (.getfield 9, 3) := by decide +kernel
theorem dX12_count_44 : decode cX12_count 44 = .ok (.iload_n 1, 1) := by decide +kernel
theorem dX12_count_45 : decode cX12_count 45 = .ok (.iaload, 1) := by decide +kernel
theorem dX12_count_46 : decode cX12_count 46 = .ok (.ireturn, 1) := by decide +kernel
theorem dX12_count_47 : decode cX12_count 47 = .ok (.iconst 0, 1) := by decide +kernel
theorem dX12_count_48 : decode cX12_count 48 = .ok (.istore_n 3, 1) := by decide +kernel
theorem dX12_count_49 : decode cX12_count 49 = .ok (.iload_n 3, 1) := by decide +kernel
theorem dX12_count_50 : decode cX12_count 50 = .ok (.aload_n 0, 1) := by decide +kernel
theorem dX12_count_51 : decode cX12_count 51 = .ok (.getfield 9, 3) := by decide +kernel
theorem dX12_count_54 : decode cX12_count 54 = .ok (.iconst 0, 1) := by decide +kernel
theorem dX12_count_55 : decode cX12_count 55 = .ok (.iaload, 1) := by decide +kernel
theorem dX12_count_56 : decode cX12_count 56 = .ok (.if_icmp .ge 20, 3) := by decide +kernel
theorem dX12_count_59 : decode cX12_count 59 = .ok (.iload_n 2, 1) := by decide +kernel
theorem dX12_count_60 : decode cX12_count 60 = .ok (.aload_n 0, 1) := by decide +kernel
theorem dX12_count_61 : decode cX12_count 61 = .ok (.getfield 9, 3) := by decide +kernel
theorem dX12_count_64 : decode cX12_count 64 = .ok (.iload_n 3, 1) := by decide +kernel
theorem dX12_count_65 : decode cX12_count 65 = .ok (.invokestatic 99, 3) := by decide +kernel
theorem dX12_count_68 : decode cX12_count 68 = .ok (.iadd, 1) := by decide +kernel
theorem dX12_count_69 : decode cX12_count 69 = .ok (.istore_n 2, 1) := by decide +kernel
theorem dX12_count_70 : decode cX12_count 70 = .ok (.iinc 3 1, 3) := by decide +kernel
theorem dX12_count_73 : decode cX12_count 73 = .ok (.goto (-24), 3) := by decide +kernel
theorem dX12_count_76 : decode cX12_count 76 = .ok (.iload_n 2, 1) := by decide +kernel
theorem dX12_count_77 : decode cX12_count 77 = .ok (.ireturn, 1) := by decide +kernel
theorem dX12_count_78 : decode cX12_count 78 = .ok (.iconst 0, 1) := by decide +kernel
theorem dX12_count_79 : decode cX12_count 79 = .ok (.istore_n 3, 1) := by decide +kernel
theorem dX12_count_80 : decode cX12_count 80 = .ok (.iload_n 3, 1) := by decide +kernel
theorem dX12_count_81 : decode cX12_count 81 = .ok (.aload_n 0, 1) := by decide +kernel
theorem dX12_count_82 : decode cX12_count 82 = .ok (.getfield 9, 3) := by decide +kernel
theorem dX12_count_85 : decode cX12_count 85 = .ok (.iconst 1, 1) := by decide +kernel
theorem dX12_count_86 : decode cX12_count 86 = .ok (.iaload, 1) := by decide +kernel
theorem dX12_count_87 : decode cX12_count 87 = .ok (.if_icmp .ge 21, 3) := by decide +kernel
theorem dX12_count_90 : decode cX12_count 90 = .ok (.iload_n 2, 1) := by decide +kernel
theorem dX12_count_91 : decode cX12_count 91 = .ok (.aload_n 0, 1) := by decide +kernel
theorem dX12_count_92 : decode cX12_count 92 = .ok (.getfield 9, 3) := by decide +kernel
theorem dX12_count_95 : decode cX12_count 95 = .ok (.iload_n 3, 1) := by decide +kernel
theorem dX12_count_96 : decode cX12_count 96 = .ok (.iconst 2, 1) := by decide +kernel
theorem dX12_count_97 : decode cX12_count 97 = .ok (.invokestatic 107, 3) := by decide +kernel
theorem dX12_count_100 : decode cX12_count 100 = .ok (.iadd, 1) := by decide +kernel
theorem dX12_count_101 : decode cX12_count 101 = .ok (.istore_n 2, 1) := by decide +kernel
theorem dX12_count_102 : decode cX12_count 102 = .ok (.iinc 3 1, 3) := by decide +kernel
theorem dX12_count_105 : decode cX12_count 105 = .ok (.goto (-25), 3) := by decide +kernel
theorem dX12_count_108 : decode cX12_count 108 = .ok (.iload_n 2, 1) := by decide +kernel
theorem dX12_count_109 : decode cX12_count 109 = .ok (.ireturn, 1) := by decide +kernel
theorem dX12_count_110 : decode cX12_count 110 = .ok (.iconst (-1), 1) := by decide +kernel
theorem dX12_count_111 : decode cX12_count 111 = .ok (.ireturn, 1) := by decide +kernel
theorem dX12_keep_0 : decode cX12_keep 0 = .ok (.iload_n 1, 1) := by decide +kernel
theorem dX12_keep_1 : decode cX12_keep 1 = .ok (.invokestatic 117, 3) := by decide +kernel
theorem dX12_keep_4 : decode cX12_keep 4 = .ok (.ifCond .eq 43, 3) := by decide +kernel
theorem dX12_keep_7 : decode cX12_keep 7 = .ok (.iload_n 2, 1) := by decide +kernel
theorem dX12_keep_8 : decode cX12_keep 8 = .ok (.i2l, 1) := by decide +kernel
theorem dX12_keep_9 : decode cX12_keep 9 = .ok (.lconst 0, 1) := by decide +kernel
theorem dX12_keep_10 : decode cX12_keep 10 = .ok (.lconst 1, 1) := by decide +kernel
theorem dX12_keep_11 : decode cX12_keep 11 = .ok (.invokestatic 51, 3) := by decide +kernel
theorem dX12_keep_14 : decode cX12_keep 14 = .ok (.ifCond .eq 33, 3) := by decide +kernel
theorem dX12_keep_17 : decode cX12_keep 17 = .ok (.iload_n 2, 1) := by decide +kernel
theorem dX12_keep_18 : decode cX12_keep 18 = .ok (.iconst 1, 1) := by decide +kernel
theorem dX12_keep_19 : decode cX12_keep 19 = .ok (.if_icmp .ne 30, 3) := by decide +kernel
theorem dX12_keep_22 : decode cX12_keep 22 = .ok (.iload_n 3, 1) := by decide +kernel
theorem dX12_keep_23 : decode cX12_keep 23 = .ok (.i2l, 1) := by decide +kernel
theorem dX12_keep_24 : decode cX12_keep 24 = .ok (.lconst 0, 1) := by decide +kernel
theorem dX12_keep_25 : decode cX12_keep 25 = .ok (.ldc2_w 113, 3) := by decide +kernel
theorem dX12_keep_28 : decode cX12_keep 28 = .ok (.invokestatic 51, 3) := by decide +kernel
theorem dX12_keep_31 : decode cX12_keep 31 = .ok (.ifCond .eq 16, 3) := by decide +kernel
theorem dX12_keep_34 : decode cX12_keep 34 = .ok (.iload 4, 2) := by decide +kernel
theorem dX12_keep_36 : decode cX12_keep 36 = .ok (.i2l, 1) := by decide +kernel
theorem dX12_keep_37 : decode cX12_keep 37 = .ok (.lconst 0, 1) := by decide +kernel
theorem dX12_keep_38 : decode cX12_keep 38 = .ok (.ldc2_w 235, 3) := by decide +kernel
theorem dX12_keep_41 : decode cX12_keep 41 = .ok (.invokestatic 51, 3) := by decide +kernel
theorem dX12_keep_44 : decode cX12_keep 44 = .ok (.ifCond .ne 5, 3) := by decide +kernel
theorem dX12_keep_47 : decode cX12_keep 47 = .ok (.iconst (-1), 1) := by decide +kernel
theorem dX12_keep_48 : decode cX12_keep 48 = .ok (.ireturn, 1) := by decide +kernel
theorem dX12_keep_49 : decode cX12_keep 49 = .ok (.aload_n 0, 1) := by decide +kernel
theorem dX12_keep_50 : decode cX12_keep 50 = .ok (.getfield 22, 3) := by decide +kernel
theorem dX12_keep_53 : decode cX12_keep 53 = .ok (.iload_n 1, 1) := by decide +kernel
theorem dX12_keep_54 : decode cX12_keep 54 = .ok (.iload_n 2, 1) := by decide +kernel
theorem dX12_keep_55 : decode cX12_keep 55 = .ok (.iastore, 1) := by decide +kernel
theorem dX12_keep_56 : decode cX12_keep 56 = .ok (.aload_n 0, 1) := by decide +kernel
theorem dX12_keep_57 : decode cX12_keep 57 = .ok (.getfield 34, 3) := by decide +kernel
theorem dX12_keep_60 : decode cX12_keep 60 = .ok (.iload_n 1, 1) := by decide +kernel
theorem dX12_keep_61 : decode cX12_keep 61 = .ok (.iload_n 3, 1) := by decide +kernel
theorem dX12_keep_62 : decode cX12_keep 62 = .ok (.iastore, 1) := by decide +kernel
theorem dX12_keep_63 : decode cX12_keep 63 = .ok (.aload_n 0, 1) := by decide +kernel
theorem dX12_keep_64 : decode cX12_keep 64 = .ok (.getfield 37, 3) := by decide +kernel
theorem dX12_keep_67 : decode cX12_keep 67 = .ok (.iload_n 1, 1) := by decide +kernel
theorem dX12_keep_68 : decode cX12_keep 68 = .ok (.iload 4, 2) := by decide +kernel
theorem dX12_keep_70 : decode cX12_keep 70 = .ok (.iastore, 1) := by decide +kernel
theorem dX12_keep_71 : decode cX12_keep 71 = .ok (.iconst 0, 1) := by decide +kernel
theorem dX12_keep_72 : decode cX12_keep 72 = .ok (.ireturn, 1) := by decide +kernel
theorem dX12_row_0 : decode cX12_row 0 = .ok (.iload_n 1, 1) := by decide +kernel
theorem dX12_row_1 : decode cX12_row 1 = .ok (.invokestatic 117, 3) := by decide +kernel
theorem dX12_row_4 : decode cX12_row 4 = .ok (.ifCond .eq 21, 3) := by decide +kernel
theorem dX12_row_7 : decode cX12_row 7 = .ok (.iload_n 2, 1) := by decide +kernel
theorem dX12_row_8 : decode cX12_row 8 = .ok (.i2l, 1) := by decide +kernel
theorem dX12_row_9 : decode cX12_row 9 = .ok (.lconst 0, 1) := by decide +kernel
theorem dX12_row_10 : decode cX12_row 10 = .ok (.ldc2_w 95, 3) := by decide +kernel
theorem dX12_row_13 : decode cX12_row 13 = .ok (.invokestatic 51, 3) := by decide +kernel
theorem dX12_row_16 : decode cX12_row 16 = .ok (.ifCond .eq 9, 3) := by decide +kernel
theorem dX12_row_19 : decode cX12_row 19 = .ok (.iload_n 3, 1) := by decide +kernel
theorem dX12_row_20 : decode cX12_row 20 = .ok (.bipush 100, 2) := by decide +kernel
theorem dX12_row_22 : decode cX12_row 22 = .ok (.if_icmp .le 5, 3) := by decide +kernel
theorem dX12_row_25 : decode cX12_row 25 = .ok (.iconst (-1), 1) := by decide +kernel
theorem dX12_row_26 : decode cX12_row 26 = .ok (.ireturn, 1) := by decide +kernel
theorem dX12_row_27 : decode cX12_row 27 = .ok (.iload_n 3, 1) := by decide +kernel
theorem dX12_row_28 : decode cX12_row 28 = .ok (.ifCond .ge 6, 3) := by decide +kernel
theorem dX12_row_31 : decode cX12_row 31 = .ok (.bipush (-14), 2) := by decide +kernel
theorem dX12_row_33 : decode cX12_row 33 = .ok (.ireturn, 1) := by decide +kernel
theorem dX12_row_34 : decode cX12_row 34 = .ok (.aload_n 0, 1) := by decide +kernel
theorem dX12_row_35 : decode cX12_row 35 = .ok (.getfield 22, 3) := by decide +kernel
theorem dX12_row_38 : decode cX12_row 38 = .ok (.iload_n 1, 1) := by decide +kernel
theorem dX12_row_39 : decode cX12_row 39 = .ok (.iconst 2, 1) := by decide +kernel
theorem dX12_row_40 : decode cX12_row 40 = .ok (.iastore, 1) := by decide +kernel
theorem dX12_row_41 : decode cX12_row 41 = .ok (.aload_n 0, 1) := by decide +kernel
theorem dX12_row_42 : decode cX12_row 42 = .ok (.getfield 25, 3) := by decide +kernel
theorem dX12_row_45 : decode cX12_row 45 = .ok (.iload_n 1, 1) := by decide +kernel
theorem dX12_row_46 : decode cX12_row 46 = .ok (.iload_n 2, 1) := by decide +kernel
theorem dX12_row_47 : decode cX12_row 47 = .ok (.iastore, 1) := by decide +kernel
theorem dX12_row_48 : decode cX12_row 48 = .ok (.aload_n 0, 1) := by decide +kernel
theorem dX12_row_49 : decode cX12_row 49 = .ok (.getfield 28, 3) := by decide +kernel
theorem dX12_row_52 : decode cX12_row 52 = .ok (.iload_n 1, 1) := by decide +kernel
theorem dX12_row_53 : decode cX12_row 53 = .ok (.iload_n 3, 1) := by decide +kernel
theorem dX12_row_54 : decode cX12_row 54 = .ok (.iastore, 1) := by decide +kernel
theorem dX12_row_55 : decode cX12_row 55 = .ok (.iconst 0, 1) := by decide +kernel
theorem dX12_row_56 : decode cX12_row 56 = .ok (.istore 4, 2) := by decide +kernel
theorem dX12_row_58 : decode cX12_row 58 = .ok (.iload 4, 2) := by decide +kernel
theorem dX12_row_60 : decode cX12_row 60 = .ok (.bipush 100, 2) := by decide +kernel
theorem dX12_row_62 : decode cX12_row 62 = .ok (.if_icmp .ge 22, 3) := by decide +kernel
theorem dX12_row_65 : decode cX12_row 65 = .ok (.aload_n 0, 1) := by decide +kernel
theorem dX12_row_66 : decode cX12_row 66 = .ok (.getfield 31, 3) := by decide +kernel
theorem dX12_row_69 : decode cX12_row 69 = .ok (.bipush 100, 2) := by decide +kernel
theorem dX12_row_71 : decode cX12_row 71 = .ok (.iload_n 1, 1) := by decide +kernel
theorem dX12_row_72 : decode cX12_row 72 = .ok (.imul, 1) := by decide +kernel
theorem dX12_row_73 : decode cX12_row 73 = .ok (.iload 4, 2) := by decide +kernel
theorem dX12_row_75 : decode cX12_row 75 = .ok (.iadd, 1) := by decide +kernel
theorem dX12_row_76 : decode cX12_row 76 = .ok (.iconst 0, 1) := by decide +kernel
theorem dX12_row_77 : decode cX12_row 77 = .ok (.iastore, 1) := by decide +kernel
theorem dX12_row_78 : decode cX12_row 78 = .ok (.iinc 4 1, 3) := by decide +kernel
theorem dX12_row_81 : decode cX12_row 81 = .ok (.goto (-23), 3) := by decide +kernel
theorem dX12_row_84 : decode cX12_row 84 = .ok (.iconst 0, 1) := by decide +kernel
theorem dX12_row_85 : decode cX12_row 85 = .ok (.ireturn, 1) := by decide +kernel
theorem dX12_put_0 : decode cX12_put 0 = .ok (.aload_n 0, 1) := by decide +kernel
theorem dX12_put_1 : decode cX12_put 1 = .ok (.iload_n 1, 1) := by decide +kernel
theorem dX12_put_2 : decode cX12_put 2 = .ok (.iconst (-1), 1) := by decide +kernel
theorem dX12_put_3 : decode cX12_put 3 = .ok (.invokevirtual 120, 3) := by decide +kernel
theorem dX12_put_6 : decode cX12_put 6 = .ok (.istore 4, 2) := by decide +kernel
theorem dX12_put_8 : decode cX12_put 8 = .ok (.iload 4, 2) := by decide +kernel
theorem dX12_put_10 : decode cX12_put 10 = .ok (.ifCond .eq 6, 3) := by decide +kernel
theorem dX12_put_13 : decode cX12_put 13 = .ok (.iload 4, 2) := by decide +kernel
theorem dX12_put_15 : decode cX12_put 15 = .ok (.ireturn, 1) := by decide +kernel
theorem dX12_put_16 : decode cX12_put 16 = .ok (.iload_n 2, 1) := by decide +kernel
theorem dX12_put_17 : decode cX12_put 17 = .ok (.i2l, 1) := by decide +kernel
theorem dX12_put_18 : decode cX12_put 18 = .ok (.lconst 0, 1) := by decide +kernel
theorem dX12_put_19 : decode cX12_put 19 = .ok (.aload_n 0, 1) := by decide +kernel
theorem dX12_put_20 : decode cX12_put 20 = .ok (.getfield 28, 3) := by decide +kernel
theorem dX12_put_23 : decode cX12_put 23 = .ok (.iload_n 1, 1) := by decide +kernel
theorem dX12_put_24 : decode cX12_put 24 = .ok (.iaload, 1) := by decide +kernel
theorem dX12_put_25 : decode cX12_put 25 = .ok (.iconst 1, 1) := by decide +kernel
theorem dX12_put_26 : decode cX12_put 26 = .ok (.isub, 1) := by decide +kernel
theorem dX12_put_27 : decode cX12_put 27 = .ok (.i2l, 1) := by decide +kernel
theorem dX12_put_28 : decode cX12_put 28 = .ok (.invokestatic 51, 3) := by decide +kernel
theorem dX12_put_31 : decode cX12_put 31 = .ok (.ifCond .ne 6, 3) := by decide +kernel
theorem dX12_put_34 : decode cX12_put 34 = .ok (.bipush (-13), 2) := by decide +kernel
theorem dX12_put_36 : decode cX12_put 36 = .ok (.ireturn, 1) := by decide +kernel
theorem dX12_put_37 : decode cX12_put 37 = .ok (.aload_n 0, 1) := by decide +kernel
theorem dX12_put_38 : decode cX12_put 38 = .ok (.getfield 31, 3) := by decide +kernel
theorem dX12_put_41 : decode cX12_put 41 = .ok (.bipush 100, 2) := by decide +kernel
theorem dX12_put_43 : decode cX12_put 43 = .ok (.iload_n 1, 1) := by decide +kernel
theorem dX12_put_44 : decode cX12_put 44 = .ok (.imul, 1) := by decide +kernel
theorem dX12_put_45 : decode cX12_put 45 = .ok (.iload_n 2, 1) := by decide +kernel
theorem dX12_put_46 : decode cX12_put 46 = .ok (.iadd, 1) := by decide +kernel
theorem dX12_put_47 : decode cX12_put 47 = .ok (.aload_n 0, 1) := by decide +kernel
theorem dX12_put_48 : decode cX12_put 48 = .ok (.getfield 25, 3) := by decide +kernel
theorem dX12_put_51 : decode cX12_put 51 = .ok (.iload_n 1, 1) := by decide +kernel
theorem dX12_put_52 : decode cX12_put 52 = .ok (.iaload, 1) := by decide +kernel
theorem dX12_put_53 : decode cX12_put 53 = .ok (.ifCond .ne 8, 3) := by decide +kernel
theorem dX12_put_56 : decode cX12_put 56 = .ok (.iload_n 3, 1) := by decide +kernel
theorem dX12_put_57 : decode cX12_put 57 = .ok (.i2b, 1) := by decide +kernel
theorem dX12_put_58 : decode cX12_put 58 = .ok (.goto 19, 3) := by decide +kernel
theorem dX12_put_61 : decode cX12_put 61 = .ok (.aload_n 0, 1) := by decide +kernel
theorem dX12_put_62 : decode cX12_put 62 = .ok (.getfield 25, 3) := by decide +kernel
theorem dX12_put_65 : decode cX12_put 65 = .ok (.iload_n 1, 1) := by decide +kernel
theorem dX12_put_66 : decode cX12_put 66 = .ok (.iaload, 1) := by decide +kernel
theorem dX12_put_67 : decode cX12_put 67 = .ok (.iconst 1, 1) := by decide +kernel
theorem dX12_put_68 : decode cX12_put 68 = .ok (.if_icmp .ne 8, 3) := by decide +kernel
theorem dX12_put_71 : decode cX12_put 71 = .ok (.iload_n 3, 1) := by decide +kernel
theorem dX12_put_72 : decode cX12_put 72 = .ok (.i2s, 1) := by decide +kernel
theorem dX12_put_73 : decode cX12_put 73 = .ok (.goto 4, 3) := by decide +kernel
theorem dX12_put_76 : decode cX12_put 76 = .ok (.iload_n 3, 1) := by decide +kernel
theorem dX12_put_77 : decode cX12_put 77 = .ok (.iastore, 1) := by decide +kernel
theorem dX12_put_78 : decode cX12_put 78 = .ok (.iconst 0, 1) := by decide +kernel
theorem dX12_put_79 : decode cX12_put 79 = .ok (.ireturn, 1) := by decide +kernel
theorem dX12_element_0 : decode cX12_element 0 = .ok (.aload_n 0, 1) := by decide +kernel
theorem dX12_element_1 : decode cX12_element 1 = .ok (.iload_n 1, 1) := by decide +kernel
theorem dX12_element_2 : decode cX12_element 2 = .ok (.invokestatic 117, 3) := by decide +kernel
theorem dX12_element_5 : decode cX12_element 5 = .ok (.ifCond .ne 7, 3) := by decide +kernel
theorem dX12_element_8 : decode cX12_element 8 = .ok (.iconst 1, 1) := by decide +kernel
theorem dX12_element_9 : decode cX12_element 9 = .ok (.goto 36, 3) := by decide +kernel
theorem dX12_element_12 : decode cX12_element 12 = .ok (.aload_n 0, 1) := by decide +kernel
theorem dX12_element_13 : decode cX12_element 13 = .ok (.getfield 22, 3) := by decide +kernel
theorem dX12_element_16 : decode cX12_element 16 = .ok (.iload_n 1, 1) := by decide +kernel
theorem dX12_element_17 : decode cX12_element 17 = .ok (.iaload, 1) := by decide +kernel
theorem dX12_element_18 : decode cX12_element 18 = .ok (.iconst 2, 1) := by decide +kernel
theorem dX12_element_19 : decode cX12_element 19 = .ok (.if_icmp .ne 21, 3) := by decide +kernel
theorem dX12_element_22 : decode cX12_element 22 = .ok (.iload_n 2, 1) := by decide +kernel
theorem dX12_element_23 : decode cX12_element 23 = .ok (.i2l, 1) := by decide +kernel
theorem dX12_element_24 : decode cX12_element 24 = .ok (.lconst 0, 1) := by decide +kernel
theorem dX12_element_25 : decode cX12_element 25 = .ok (.aload_n 0, 1) := by decide +kernel
theorem dX12_element_26 : decode cX12_element 26 = .ok (.getfield 28, 3) := by decide +kernel
theorem dX12_element_29 : decode cX12_element 29 = .ok (.iload_n 1, 1) := by decide +kernel
theorem dX12_element_30 : decode cX12_element 30 = .ok (.iaload, 1) := by decide +kernel
theorem dX12_element_31 : decode cX12_element 31 = .ok (.iconst 1, 1) := by decide +kernel
theorem dX12_element_32 : decode cX12_element 32 = .ok (.isub, 1) := by decide +kernel
theorem dX12_element_33 : decode cX12_element 33 = .ok (.i2l, 1) := by decide +kernel
theorem dX12_element_34 : decode cX12_element 34 = .ok (.invokestatic 51, 3) := by decide +kernel
theorem dX12_element_37 : decode cX12_element 37 = .ok (.ifCond .ne 7, 3) := by decide +kernel
theorem dX12_element_40 : decode cX12_element 40 = .ok (.iconst 2, 1) := by decide +kernel
theorem dX12_element_41 : decode cX12_element 41 = .ok (.goto 4, 3) := by decide +kernel
theorem dX12_element_44 : decode cX12_element 44 = .ok (.iconst 0, 1) := by decide +kernel
theorem dX12_element_45 : decode cX12_element 45 = .ok (.putfield 47, 3) := by decide +kernel
theorem dX12_element_48 : decode cX12_element 48 = .ok (.aload_n 0, 1) := by decide +kernel
theorem dX12_element_49 : decode cX12_element 49 = .ok (.getfield 47, 3) := by decide +kernel
theorem dX12_element_52 : decode cX12_element 52 = .ok (.ifCond .ne 18, 3) := by decide +kernel
theorem dX12_element_55 : decode cX12_element 55 = .ok (.aload_n 0, 1) := by decide +kernel
theorem dX12_element_56 : decode cX12_element 56 = .ok (.getfield 31, 3) := by decide +kernel
theorem dX12_element_59 : decode cX12_element 59 = .ok (.bipush 100, 2) := by decide +kernel
theorem dX12_element_61 : decode cX12_element 61 = .ok (.iload_n 1, 1) := by decide +kernel
theorem dX12_element_62 : decode cX12_element 62 = .ok (.imul, 1) := by decide +kernel
theorem dX12_element_63 : decode cX12_element 63 = .ok (.iload_n 2, 1) := by decide +kernel
theorem dX12_element_64 : decode cX12_element 64 = .ok (.iadd, 1) := by decide +kernel
theorem dX12_element_65 : decode cX12_element 65 = .ok (.iaload, 1) := by decide +kernel
theorem dX12_element_66 : decode cX12_element 66 = .ok (.i2l, 1) := by decide +kernel
theorem dX12_element_67 : decode cX12_element 67 = .ok (.goto 4, 3) := by decide +kernel
theorem dX12_element_70 : decode cX12_element 70 = .ok (.lconst 0, 1) := by decide +kernel
theorem dX12_element_71 : decode cX12_element 71 = .ok (.lreturn, 1) := by decide +kernel
theorem dX12_copy_0 : decode cX12_copy 0 = .ok (.iload_n 1, 1) := by decide +kernel
theorem dX12_copy_1 : decode cX12_copy 1 = .ok (.invokestatic 117, 3) := by decide +kernel
theorem dX12_copy_4 : decode cX12_copy 4 = .ok (.ifCond .eq 10, 3) := by decide +kernel
theorem dX12_copy_7 : decode cX12_copy 7 = .ok (.iload_n 3, 1) := by decide +kernel
theorem dX12_copy_8 : decode cX12_copy 8 = .ok (.invokestatic 117, 3) := by decide +kernel
theorem dX12_copy_11 : decode cX12_copy 11 = .ok (.ifCond .ne 5, 3) := by decide +kernel
theorem dX12_copy_14 : decode cX12_copy 14 = .ok (.iconst (-1), 1) := by decide +kernel
theorem dX12_copy_15 : decode cX12_copy 15 = .ok (.ireturn, 1) := by decide +kernel
theorem dX12_copy_16 : decode cX12_copy 16 = .ok (.aload_n 0, 1) := by decide +kernel
theorem dX12_copy_17 : decode cX12_copy 17 = .ok (.getfield 22, 3) := by decide +kernel
theorem dX12_copy_20 : decode cX12_copy 20 = .ok (.iload_n 1, 1) := by decide +kernel
theorem dX12_copy_21 : decode cX12_copy 21 = .ok (.iaload, 1) := by decide +kernel
theorem dX12_copy_22 : decode cX12_copy 22 = .ok (.ifCond .eq 12, 3) := by decide +kernel
theorem dX12_copy_25 : decode cX12_copy 25 = .ok (.aload_n 0, 1) := by decide +kernel
theorem dX12_copy_26 : decode cX12_copy 26 = .ok (.getfield 22, 3) := by decide +kernel
theorem dX12_copy_29 : decode cX12_copy 29 = .ok (.iload_n 3, 1) := by decide +kernel
theorem dX12_copy_30 : decode cX12_copy 30 = .ok (.iaload, 1) := by decide +kernel
theorem dX12_copy_31 : decode cX12_copy 31 = .ok (.ifCond .ne 6, 3) := by decide +kernel
theorem dX12_copy_34 : decode cX12_copy 34 = .ok (.bipush (-11), 2) := by decide +kernel
theorem dX12_copy_36 : decode cX12_copy 36 = .ok (.ireturn, 1) := by decide +kernel
theorem dX12_copy_37 : decode cX12_copy 37 = .ok (.aload_n 0, 1) := by decide +kernel
theorem dX12_copy_38 : decode cX12_copy 38 = .ok (.getfield 22, 3) := by decide +kernel
theorem dX12_copy_41 : decode cX12_copy 41 = .ok (.iload_n 1, 1) := by decide +kernel
theorem dX12_copy_42 : decode cX12_copy 42 = .ok (.iaload, 1) := by decide +kernel
theorem dX12_copy_43 : decode cX12_copy 43 = .ok (.iconst 2, 1) := by decide +kernel
theorem dX12_copy_44 : decode cX12_copy 44 = .ok (.if_icmp .ne 28, 3) := by decide +kernel
theorem dX12_copy_47 : decode cX12_copy 47 = .ok (.aload_n 0, 1) := by decide +kernel
theorem dX12_copy_48 : decode cX12_copy 48 = .ok (.getfield 22, 3) := by decide +kernel
theorem dX12_copy_51 : decode cX12_copy 51 = .ok (.iload_n 3, 1) := by decide +kernel
theorem dX12_copy_52 : decode cX12_copy 52 = .ok (.iaload, 1) := by decide +kernel
theorem dX12_copy_53 : decode cX12_copy 53 = .ok (.iconst 2, 1) := by decide +kernel
theorem dX12_copy_54 : decode cX12_copy 54 = .ok (.if_icmp .ne 18, 3) := by decide +kernel
theorem dX12_copy_57 : decode cX12_copy 57 = .ok (.aload_n 0, 1) := by decide +kernel
theorem dX12_copy_58 : decode cX12_copy 58 = .ok (.getfield 25, 3) := by decide +kernel
theorem dX12_copy_61 : decode cX12_copy 61 = .ok (.iload_n 1, 1) := by decide +kernel
theorem dX12_copy_62 : decode cX12_copy 62 = .ok (.iaload, 1) := by decide +kernel
theorem dX12_copy_63 : decode cX12_copy 63 = .ok (.aload_n 0, 1) := by decide +kernel
theorem dX12_copy_64 : decode cX12_copy 64 = .ok (.getfield 25, 3) := by decide +kernel
theorem dX12_copy_67 : decode cX12_copy 67 = .ok (.iload_n 3, 1) := by decide +kernel
theorem dX12_copy_68 : decode cX12_copy 68 = .ok (.iaload, 1) := by decide +kernel
theorem dX12_copy_69 : decode cX12_copy 69 = .ok (.if_icmp .eq 6, 3) := by decide +kernel
theorem dX12_copy_72 : decode cX12_copy 72 = .ok (.bipush (-12), 2) := by decide +kernel
theorem dX12_copy_74 : decode cX12_copy 74 = .ok (.ireturn, 1) := by decide +kernel
theorem dX12_copy_75 : decode cX12_copy 75 = .ok (.iload 5, 2) := by decide +kernel
theorem dX12_copy_77 : decode cX12_copy 77 = .ok (.ifCond .lt 39, 3) := by decide +kernel
theorem dX12_copy_80 : decode cX12_copy 80 = .ok (.iload_n 2, 1) := by decide +kernel
theorem dX12_copy_81 : decode cX12_copy 81 = .ok (.ifCond .lt 35, 3) := by decide +kernel
theorem dX12_copy_84 : decode cX12_copy 84 = .ok (.iload 4, 2) := by decide +kernel
theorem dX12_copy_86 : decode cX12_copy 86 = .ok (.ifCond .lt 30, 3) := by decide +kernel
theorem dX12_copy_89 : decode cX12_copy 89 = .ok (.iload 5, 2) := by decide +kernel
theorem dX12_copy_91 : decode cX12_copy 91 = .ok (.aload_n 0, 1) := by decide +kernel
theorem dX12_copy_92 : decode cX12_copy 92 = .ok (.getfield 28, 3) := by decide +kernel
theorem dX12_copy_95 : decode cX12_copy 95 = .ok (.iload_n 1, 1) := by decide +kernel
theorem dX12_copy_96 : decode cX12_copy 96 = .ok (.iaload, 1) := by decide +kernel
theorem dX12_copy_97 : decode cX12_copy 97 = .ok (.iload_n 2, 1) := by decide +kernel
theorem dX12_copy_98 : decode cX12_copy 98 = .ok (.isub, 1) := by decide +kernel
theorem dX12_copy_99 : decode cX12_copy 99 = .ok (.if_icmp .gt 17, 3) := by decide +kernel
theorem dX12_copy_102 : decode cX12_copy 102 = .ok (.iload 5, 2) := by decide +kernel
theorem dX12_copy_104 : decode cX12_copy 104 = .ok (.aload_n 0, 1) := by decide +kernel
theorem dX12_copy_105 : decode cX12_copy 105 = .ok (.getfield 28, 3) := by decide +kernel
theorem dX12_copy_108 : decode cX12_copy 108 = .ok (.iload_n 3, 1) := by decide +kernel
theorem dX12_copy_109 : decode cX12_copy 109 = .ok (.iaload, 1) := by decide +kernel
theorem dX12_copy_110 : decode cX12_copy 110 = .ok (.iload 4, 2) := by decide +kernel
theorem dX12_copy_112 : decode cX12_copy 112 = .ok (.isub, 1) := by decide +kernel
theorem dX12_copy_113 : decode cX12_copy 113 = .ok (.if_icmp .le 6, 3) := by decide +kernel
theorem dX12_copy_116 : decode cX12_copy 116 = .ok (.bipush (-13), 2) := by decide +kernel
theorem dX12_copy_118 : decode cX12_copy 118 = .ok (.ireturn, 1) := by decide +kernel
theorem dX12_copy_119 : decode cX12_copy 119 = .ok (.iconst 0, 1) := by decide +kernel
theorem dX12_copy_120 : decode cX12_copy 120 = .ok (.istore 6, 2) := by decide +kernel
theorem dX12_copy_122 : decode cX12_copy 122 = .ok (.iload 6, 2) := by decide +kernel
theorem dX12_copy_124 : decode cX12_copy 124 = .ok (.iload 5, 2) := by decide +kernel
theorem dX12_copy_126 : decode cX12_copy 126 = .ok (.if_icmp .ge 58, 3) := by decide +kernel
theorem dX12_copy_129 : decode cX12_copy 129 = .ok (.iload_n 2, 1) := by decide +kernel
theorem dX12_copy_130 : decode cX12_copy 130 = .ok (.iload 4, 2) := by decide +kernel
theorem dX12_copy_132 : decode cX12_copy 132 = .ok (.if_icmp .le 8, 3) := by decide +kernel
theorem dX12_copy_135 : decode cX12_copy 135 = .ok (.iload 6, 2) := by decide +kernel
theorem dX12_copy_137 : decode cX12_copy 137 = .ok (.goto 10, 3) := by decide +kernel
theorem dX12_copy_140 : decode cX12_copy 140 = .ok (.iload 5, 2) := by decide +kernel
theorem dX12_copy_142 : decode cX12_copy 142 = .ok (.iconst 1, 1) := by decide +kernel
theorem dX12_copy_143 : decode cX12_copy 143 = .ok (.isub, 1) := by decide +kernel
theorem dX12_copy_144 : decode cX12_copy 144 = .ok (.iload 6, 2) := by decide +kernel
theorem dX12_copy_146 : decode cX12_copy 146 = .ok (.isub, 1) := by decide +kernel
theorem dX12_copy_147 : decode cX12_copy 147 = .ok (.istore 7, 2) := by decide +kernel
theorem dX12_copy_149 : decode cX12_copy 149 = .ok (.aload_n 0, 1) := by decide +kernel
theorem dX12_copy_150 : decode cX12_copy 150 = .ok (.getfield 31, 3) := by decide +kernel
theorem dX12_copy_153 : decode cX12_copy 153 = .ok (.bipush 100, 2) := by decide +kernel
theorem dX12_copy_155 : decode cX12_copy 155 = .ok (.iload_n 3, 1) := by decide +kernel
theorem dX12_copy_156 : decode cX12_copy 156 = .ok (.imul, 1) := by decide +kernel
theorem dX12_copy_157 : decode cX12_copy 157 = .ok (.iload 4, 2) := by decide +kernel
theorem dX12_copy_159 : decode cX12_copy 159 = .ok (.iadd, 1) := by decide +kernel
theorem dX12_copy_160 : decode cX12_copy 160 = .ok (.iload 7, 2) := by decide +kernel
theorem dX12_copy_162 : decode cX12_copy 162 = .ok (.iadd, 1) := by decide +kernel
theorem dX12_copy_163 : decode cX12_copy 163 = .ok (.aload_n 0, 1) := by decide +kernel
theorem dX12_copy_164 : decode cX12_copy 164 = .ok (.getfield 31, 3) := by decide +kernel
theorem dX12_copy_167 : decode cX12_copy 167 = .ok (.bipush 100, 2) := by decide +kernel
theorem dX12_copy_169 : decode cX12_copy 169 = .ok (.iload_n 1, 1) := by decide +kernel
theorem dX12_copy_170 : decode cX12_copy 170 = .ok (.imul, 1) := by decide +kernel
theorem dX12_copy_171 : decode cX12_copy 171 = .ok (.iload_n 2, 1) := by decide +kernel
theorem dX12_copy_172 : decode cX12_copy 172 = .ok (.iadd, 1) := by decide +kernel
theorem dX12_copy_173 : decode cX12_copy 173 = .ok (.iload 7, 2) := by decide +kernel
theorem dX12_copy_175 : decode cX12_copy 175 = .ok (.iadd, 1) := by decide +kernel
theorem dX12_copy_176 : decode cX12_copy 176 = .ok (.iaload, 1) := by decide +kernel
theorem dX12_copy_177 : decode cX12_copy 177 = .ok (.iastore, 1) := by decide +kernel
theorem dX12_copy_178 : decode cX12_copy 178 = .ok (.iinc 6 1, 3) := by decide +kernel
theorem dX12_copy_181 : decode cX12_copy 181 = .ok (.goto (-59), 3) := by decide +kernel
theorem dX12_copy_184 : decode cX12_copy 184 = .ok (.iload 5, 2) := by decide +kernel
theorem dX12_copy_186 : decode cX12_copy 186 = .ok (.ireturn, 1) := by decide +kernel
theorem dX12_careOf_0 : decode cX12_careOf 0 = .ok (.aload_n 0, 1) := by decide +kernel
theorem dX12_careOf_1 : decode cX12_careOf 1 = .ok (.getfield 37, 3) := by decide +kernel
theorem dX12_careOf_4 : decode cX12_careOf 4 = .ok (.iload_n 1, 1) := by decide +kernel
theorem dX12_careOf_5 : decode cX12_careOf 5 = .ok (.iaload, 1) := by decide +kernel
theorem dX12_careOf_6 : decode cX12_careOf 6 = .ok (.istore_n 2, 1) := by decide +kernel
theorem dX12_careOf_7 : decode cX12_careOf 7 = .ok (.aload_n 0, 1) := by decide +kernel
theorem dX12_careOf_8 : decode cX12_careOf 8 = .ok (.getfield 34, 3) := by decide +kernel
theorem dX12_careOf_11 : decode cX12_careOf 11 = .ok (.iload_n 1, 1) := by decide +kernel
theorem dX12_careOf_12 : decode cX12_careOf 12 = .ok (.iaload, 1) := by decide +kernel
theorem dX12_careOf_13 : decode cX12_careOf 13 = .ok (.tableswitch 64 1 6 #[39, 43, 46, 49, 53, 58], 39) := by decide +kernel
theorem dX12_careOf_52 : decode cX12_careOf 52 = .ok (.iconst 5, 1) := by decide +kernel
theorem dX12_careOf_53 : decode cX12_careOf 53 = .ok (.iload_n 2, 1) := by decide +kernel
theorem dX12_careOf_54 : decode cX12_careOf 54 = .ok (.iadd, 1) := by decide +kernel
theorem dX12_careOf_55 : decode cX12_careOf 55 = .ok (.ireturn, 1) := by decide +kernel
theorem dX12_careOf_56 : decode cX12_careOf 56 = .ok (.bipush 10, 2) := by decide +kernel
theorem dX12_careOf_58 : decode cX12_careOf 58 = .ok (.ireturn, 1) := by decide +kernel
theorem dX12_careOf_59 : decode cX12_careOf 59 = .ok (.bipush 11, 2) := by decide +kernel
theorem dX12_careOf_61 : decode cX12_careOf 61 = .ok (.ireturn, 1) := by decide +kernel
theorem dX12_careOf_62 : decode cX12_careOf 62 = .ok (.iconst 5, 1) := by decide +kernel
theorem dX12_careOf_63 : decode cX12_careOf 63 = .ok (.iload_n 2, 1) := by decide +kernel
theorem dX12_careOf_64 : decode cX12_careOf 64 = .ok (.isub, 1) := by decide +kernel
theorem dX12_careOf_65 : decode cX12_careOf 65 = .ok (.ireturn, 1) := by decide +kernel
theorem dX12_careOf_66 : decode cX12_careOf 66 = .ok (.bipush 11, 2) := by decide +kernel
theorem dX12_careOf_68 : decode cX12_careOf 68 = .ok (.iload_n 2, 1) := by decide +kernel
theorem dX12_careOf_69 : decode cX12_careOf 69 = .ok (.iadd, 1) := by decide +kernel
theorem dX12_careOf_70 : decode cX12_careOf 70 = .ok (.ireturn, 1) := by decide +kernel
theorem dX12_careOf_71 : decode cX12_careOf 71 = .ok (.iconst 5, 1) := by decide +kernel
theorem dX12_careOf_72 : decode cX12_careOf 72 = .ok (.iload_n 2, 1) := by decide +kernel
theorem dX12_careOf_73 : decode cX12_careOf 73 = .ok (.iadd, 1) := by decide +kernel
theorem dX12_careOf_74 : decode cX12_careOf 74 = .ok (.iconst 2, 1) := by decide +kernel
theorem dX12_careOf_75 : decode cX12_careOf 75 = .ok (.idiv, 1) := by decide +kernel
theorem dX12_careOf_76 : decode cX12_careOf 76 = .ok (.ireturn, 1) := by decide +kernel
theorem dX12_careOf_77 : decode cX12_careOf 77 = .ok (.iconst 5, 1) := by decide +kernel
theorem dX12_careOf_78 : decode cX12_careOf 78 = .ok (.ireturn, 1) := by decide +kernel
theorem dX12_care_0 : decode cX12_care 0 = .ok (.aload_n 0, 1) := by decide +kernel
theorem dX12_care_1 : decode cX12_care 1 = .ok (.iload_n 1, 1) := by decide +kernel
theorem dX12_care_2 : decode cX12_care 2 = .ok (.invokevirtual 199, 3) := by decide +kernel
theorem dX12_care_5 : decode cX12_care 5 = .ok (.istore_n 2, 1) := by decide +kernel
theorem dX12_care_6 : decode cX12_care 6 = .ok (.iload_n 2, 1) := by decide +kernel
theorem dX12_care_7 : decode cX12_care 7 = .ok (.ifCond .eq 10, 3) := by decide +kernel
theorem dX12_care_10 : decode cX12_care 10 = .ok (.ldc 230, 2) := by decide +kernel
theorem dX12_care_12 : decode cX12_care 12 = .ok (.iload_n 2, 1) := by decide +kernel
theorem dX12_care_13 : decode cX12_care 13 = .ok (.iadd, 1) := by decide +kernel
theorem dX12_care_14 : decode cX12_care 14 = .ok (.goto 8, 3) := by decide +kernel
theorem dX12_care_17 : decode cX12_care 17 = .ok (.aload_n 0, 1) := by decide +kernel
theorem dX12_care_18 : decode cX12_care 18 = .ok (.iload_n 1, 1) := by decide +kernel
theorem dX12_care_19 : decode cX12_care 19 = .ok (.invokevirtual 263, 3) := by decide +kernel
theorem dX12_care_22 : decode cX12_care 22 = .ok (.ireturn, 1) := by decide +kernel
theorem dX12_toss_0 : decode cX12_toss 0 = .ok (.aload_n 0, 1) := by decide +kernel
theorem dX12_toss_1 : decode cX12_toss 1 = .ok (.iload_n 1, 1) := by decide +kernel
theorem dX12_toss_2 : decode cX12_toss 2 = .ok (.invokevirtual 199, 3) := by decide +kernel
theorem dX12_toss_5 : decode cX12_toss 5 = .ok (.istore_n 2, 1) := by decide +kernel
theorem dX12_toss_6 : decode cX12_toss 6 = .ok (.iload_n 2, 1) := by decide +kernel
theorem dX12_toss_7 : decode cX12_toss 7 = .ok (.ifCond .eq 5, 3) := by decide +kernel
theorem dX12_toss_10 : decode cX12_toss 10 = .ok (.iload_n 2, 1) := by decide +kernel
theorem dX12_toss_11 : decode cX12_toss 11 = .ok (.ireturn, 1) := by decide +kernel
theorem dX12_toss_12 : decode cX12_toss 12 = .ok (.aload_n 0, 1) := by decide +kernel
theorem dX12_toss_13 : decode cX12_toss 13 = .ok (.getfield 37, 3) := by decide +kernel
theorem dX12_toss_16 : decode cX12_toss 16 = .ok (.iload_n 1, 1) := by decide +kernel
theorem dX12_toss_17 : decode cX12_toss 17 = .ok (.iaload, 1) := by decide +kernel
theorem dX12_toss_18 : decode cX12_toss 18 = .ok (.istore_n 3, 1) := by decide +kernel
theorem dX12_toss_19 : decode cX12_toss 19 = .ok (.aload_n 0, 1) := by decide +kernel
theorem dX12_toss_20 : decode cX12_toss 20 = .ok (.getfield 34, 3) := by decide +kernel
theorem dX12_toss_23 : decode cX12_toss 23 = .ok (.iload_n 1, 1) := by decide +kernel
theorem dX12_toss_24 : decode cX12_toss 24 = .ok (.iaload, 1) := by decide +kernel
theorem dX12_toss_25 : decode cX12_toss 25 = .ok (.istore 4, 2) := by decide +kernel
theorem dX12_toss_27 : decode cX12_toss 27 = .ok (.iload 4, 2) := by decide +kernel
theorem dX12_toss_29 : decode cX12_toss 29 = .ok (.iconst 4, 1) := by decide +kernel
theorem dX12_toss_30 : decode cX12_toss 30 = .ok (.if_icmp .eq 7, 3) := by decide +kernel
theorem dX12_toss_33 : decode cX12_toss 33 = .ok (.iload_n 3, 1) := by decide +kernel
theorem dX12_toss_34 : decode cX12_toss 34 = .ok (.ifCond .ne 8, 3) := by decide +kernel
theorem dX12_toss_37 : decode cX12_toss 37 = .ok (.bipush (-15), 2) := by decide +kernel
theorem dX12_toss_39 : decode cX12_toss 39 = .ok (.goto 42, 3) := by decide +kernel
theorem dX12_toss_42 : decode cX12_toss 42 = .ok (.iload 4, 2) := by decide +kernel
theorem dX12_toss_44 : decode cX12_toss 44 = .ok (.iconst 3, 1) := by decide +kernel
theorem dX12_toss_45 : decode cX12_toss 45 = .ok (.if_icmp .eq 9, 3) := by decide +kernel
theorem dX12_toss_48 : decode cX12_toss 48 = .ok (.iload 4, 2) := by decide +kernel
theorem dX12_toss_50 : decode cX12_toss 50 = .ok (.iconst 5, 1) := by decide +kernel
theorem dX12_toss_51 : decode cX12_toss 51 = .ok (.if_icmp .ne 10, 3) := by decide +kernel
theorem dX12_toss_54 : decode cX12_toss 54 = .ok (.bipush 100, 2) := by decide +kernel
theorem dX12_toss_56 : decode cX12_toss 56 = .ok (.iload_n 3, 1) := by decide +kernel
theorem dX12_toss_57 : decode cX12_toss 57 = .ok (.iadd, 1) := by decide +kernel
theorem dX12_toss_58 : decode cX12_toss 58 = .ok (.goto 23, 3) := by decide +kernel
theorem dX12_toss_61 : decode cX12_toss 61 = .ok (.iload 4, 2) := by decide +kernel
theorem dX12_toss_63 : decode cX12_toss 63 = .ok (.bipush 6, 2) := by decide +kernel
theorem dX12_toss_65 : decode cX12_toss 65 = .ok (.if_icmp .ne 15, 3) := by decide +kernel
theorem dX12_toss_68 : decode cX12_toss 68 = .ok (.sipush 200, 3) := by decide +kernel
theorem dX12_toss_71 : decode cX12_toss 71 = .ok (.aload_n 0, 1) := by decide +kernel
theorem dX12_toss_72 : decode cX12_toss 72 = .ok (.iload_n 1, 1) := by decide +kernel
theorem dX12_toss_73 : decode cX12_toss 73 = .ok (.invokevirtual 263, 3) := by decide +kernel
theorem dX12_toss_76 : decode cX12_toss 76 = .ok (.iadd, 1) := by decide +kernel
theorem dX12_toss_77 : decode cX12_toss 77 = .ok (.goto 4, 3) := by decide +kernel
theorem dX12_toss_80 : decode cX12_toss 80 = .ok (.iload_n 3, 1) := by decide +kernel
theorem dX12_toss_81 : decode cX12_toss 81 = .ok (.ireturn, 1) := by decide +kernel
theorem dL_element_0 : decode cL_element 0 = .ok (.aload_n 3, 1) := by decide +kernel
theorem dL_element_1 : decode cL_element 1 = .ok (.iconst 0, 1) := by decide +kernel
theorem dL_element_2 : decode cL_element 2 = .ok (.aload_n 0, 1) := by decide +kernel
theorem dL_element_3 : decode cL_element 3 = .ok (.iload_n 1, 1) := by decide +kernel
theorem dL_element_4 : decode cL_element 4 = .ok (.iload_n 2, 1) := by decide +kernel
theorem dL_element_5 : decode cL_element 5 = .ok (.invokevirtual 7, 3) := by decide +kernel
theorem dL_element_8 : decode cL_element 8 = .ok (.lastore, 1) := by decide +kernel
theorem dL_element_9 : decode cL_element 9 = .ok (.goto 11, 3) := by decide +kernel
theorem dL_element_12 : decode cL_element 12 = .ok (.astore 4, 2) := by decide +kernel
theorem dL_element_14 : decode cL_element 14 = .ok (.iconst 1, 1) := by decide +kernel
theorem dL_element_15 : decode cL_element 15 = .ok (.ireturn, 1) := by decide +kernel
theorem dL_element_16 : decode cL_element 16 = .ok (.astore 4, 2) := by decide +kernel
theorem dL_element_18 : decode cL_element 18 = .ok (.iconst 2, 1) := by decide +kernel
theorem dL_element_19 : decode cL_element 19 = .ok (.ireturn, 1) := by decide +kernel
theorem dL_element_20 : decode cL_element 20 = .ok (.iconst 0, 1) := by decide +kernel
theorem dL_element_21 : decode cL_element 21 = .ok (.ireturn, 1) := by decide +kernel
