theorem dX0_init_0 : decode cX0_init 0 = .ok (.aload_n 0, 1) := by decide +kernel
theorem dX0_init_1 : decode cX0_init 1 = .ok (.invokespecial 3, 3) := by decide +kernel
theorem dX0_init_4 : decode cX0_init 4 = .ok (.aload_n 0, 1) := by decide +kernel
theorem dX0_init_5 : decode cX0_init 5 = .ok (.new 9, 3) := by decide +kernel
theorem dX0_init_8 : decode cX0_init 8 = .ok (.dup, 1) := by decide +kernel
theorem dX0_init_9 : decode cX0_init 9 = .ok (.invokespecial 11, 3) := by decide +kernel
theorem dX0_init_12 : decode cX0_init 12 = .ok (.putfield 12, 3) := by decide +kernel
theorem dX0_init_15 : decode cX0_init 15 = .ok (.aload_n 0, 1) := by decide +kernel
theorem dX0_init_16 : decode cX0_init 16 = .ok (.aload_n 1, 1) := by decide +kernel
theorem dX0_init_17 : decode cX0_init 17 = .ok (.putfield 18, 3) := by decide +kernel
theorem dX0_init_20 : decode cX0_init 20 = .ok (.return_, 1) := by decide +kernel
theorem dX0_hold_0 : decode cX0_hold 0 = .ok (.aload_n 0, 1) := by decide +kernel
theorem dX0_hold_1 : decode cX0_hold 1 = .ok (.iconst 1, 1) := by decide +kernel
theorem dX0_hold_2 : decode cX0_hold 2 = .ok (.putfield 22, 3) := by decide +kernel
theorem dX0_hold_5 : decode cX0_hold 5 = .ok (.aload_n 0, 1) := by decide +kernel
theorem dX0_hold_6 : decode cX0_hold 6 = .ok (.iconst 0, 1) := by decide +kernel
theorem dX0_hold_7 : decode cX0_hold 7 = .ok (.putfield 26, 3) := by decide +kernel
theorem dX0_hold_10 : decode cX0_hold 10 = .ok (.aload_n 0, 1) := by decide +kernel
theorem dX0_hold_11 : decode cX0_hold 11 = .ok (.iconst (-1), 1) := by decide +kernel
theorem dX0_hold_12 : decode cX0_hold 12 = .ok (.putfield 30, 3) := by decide +kernel
theorem dX0_hold_15 : decode cX0_hold 15 = .ok (.aload_n 0, 1) := by decide +kernel
theorem dX0_hold_16 : decode cX0_hold 16 = .ok (.iload_n 2, 1) := by decide +kernel
theorem dX0_hold_17 : decode cX0_hold 17 = .ok (.i2l, 1) := by decide +kernel
theorem dX0_hold_18 : decode cX0_hold 18 = .ok (.putfield 33, 3) := by decide +kernel
theorem dX0_hold_21 : decode cX0_hold 21 = .ok (.iconst 0, 1) := by decide +kernel
theorem dX0_hold_22 : decode cX0_hold 22 = .ok (.istore 4, 2) := by decide +kernel
theorem dX0_hold_24 : decode cX0_hold 24 = .ok (.iconst 0, 1) := by decide +kernel
theorem dX0_hold_25 : decode cX0_hold 25 = .ok (.istore 5, 2) := by decide +kernel
theorem dX0_hold_27 : decode cX0_hold 27 = .ok (.iload 5, 2) := by decide +kernel
theorem dX0_hold_29 : decode cX0_hold 29 = .ok (.iload_n 3, 1) := by decide +kernel
theorem dX0_hold_30 : decode cX0_hold 30 = .ok (.if_icmp .ge 82, 3) := by decide +kernel
theorem dX0_hold_33 : decode cX0_hold 33 = .ok (.aload_n 0, 1) := by decide +kernel
theorem dX0_hold_34 : decode cX0_hold 34 = .ok (.aload_n 1, 1) := by decide +kernel
theorem dX0_hold_35 : decode cX0_hold 35 = .ok (.invokevirtual 37, 3) := by decide +kernel
theorem dX0_hold_38 : decode cX0_hold 38 = .ok (.aload_n 1, 1) := by decide +kernel
theorem dX0_hold_39 : decode cX0_hold 39 = .ok (.iconst 0, 1) := by decide +kernel
theorem dX0_hold_40 : decode cX0_hold 40 = .ok (.putfield 41, 3) := by decide +kernel
theorem dX0_hold_43 : decode cX0_hold 43 = .ok (.aload_n 0, 1) := by decide +kernel
theorem dX0_hold_44 : decode cX0_hold 44 = .ok (.getfield 12, 3) := by decide +kernel
theorem dX0_hold_47 : decode cX0_hold 47 = .ok (.aload_n 1, 1) := by decide +kernel
theorem dX0_hold_48 : decode cX0_hold 48 = .ok (.invokevirtual 44, 3) := by decide +kernel
theorem dX0_hold_51 : decode cX0_hold 51 = .ok (.aload_n 0, 1) := by decide +kernel
theorem dX0_hold_52 : decode cX0_hold 52 = .ok (.getfield 18, 3) := by decide +kernel
theorem dX0_hold_55 : decode cX0_hold 55 = .ok (.aload_n 1, 1) := by decide +kernel
theorem dX0_hold_56 : decode cX0_hold 56 = .ok (.invokevirtual 47, 3) := by decide +kernel
theorem dX0_hold_59 : decode cX0_hold 59 = .ok (.aload_n 0, 1) := by decide +kernel
theorem dX0_hold_60 : decode cX0_hold 60 = .ok (.getfield 18, 3) := by decide +kernel
theorem dX0_hold_63 : decode cX0_hold 63 = .ok (.getfield 52, 3) := by decide +kernel
theorem dX0_hold_66 : decode cX0_hold 66 = .ok (.ifCond .ne 40, 3) := by decide +kernel
theorem dX0_hold_69 : decode cX0_hold 69 = .ok (.iinc 4 1, 3) := by decide +kernel
theorem dX0_hold_72 : decode cX0_hold 72 = .ok (.aload_n 0, 1) := by decide +kernel
theorem dX0_hold_73 : decode cX0_hold 73 = .ok (.dup, 1) := by decide +kernel
theorem dX0_hold_74 : decode cX0_hold 74 = .ok (.getfield 26, 3) := by decide +kernel
theorem dX0_hold_77 : decode cX0_hold 77 = .ok (.aload_n 0, 1) := by decide +kernel
theorem dX0_hold_78 : decode cX0_hold 78 = .ok (.getfield 18, 3) := by decide +kernel
theorem dX0_hold_81 : decode cX0_hold 81 = .ok (.getfield 55, 3) := by decide +kernel
theorem dX0_hold_84 : decode cX0_hold 84 = .ok (.iadd, 1) := by decide +kernel
theorem dX0_hold_85 : decode cX0_hold 85 = .ok (.putfield 26, 3) := by decide +kernel
theorem dX0_hold_88 : decode cX0_hold 88 = .ok (.aload_n 0, 1) := by decide +kernel
theorem dX0_hold_89 : decode cX0_hold 89 = .ok (.aload_n 0, 1) := by decide +kernel
theorem dX0_hold_90 : decode cX0_hold 90 = .ok (.getfield 30, 3) := by decide +kernel
theorem dX0_hold_93 : decode cX0_hold 93 = .ok (.aload_n 0, 1) := by decide +kernel
theorem dX0_hold_94 : decode cX0_hold 94 = .ok (.getfield 18, 3) := by decide +kernel
theorem dX0_hold_97 : decode cX0_hold 97 = .ok (.getfield 55, 3) := by decide +kernel
theorem dX0_hold_100 : decode cX0_hold 100 = .ok (.invokestatic 58, 3) := by decide +kernel
theorem dX0_hold_103 : decode cX0_hold 103 = .ok (.putfield 30, 3) := by decide +kernel
theorem dX0_hold_106 : decode cX0_hold 106 = .ok (.iinc 5 1, 3) := by decide +kernel
theorem dX0_hold_109 : decode cX0_hold 109 = .ok (.goto (-82), 3) := by decide +kernel
theorem dX0_hold_112 : decode cX0_hold 112 = .ok (.iload 4, 2) := by decide +kernel
theorem dX0_hold_114 : decode cX0_hold 114 = .ok (.ireturn, 1) := by decide +kernel
theorem dX0_shuffle_0 : decode cX0_shuffle 0 = .ok (.aload_n 1, 1) := by decide +kernel
theorem dX0_shuffle_1 : decode cX0_shuffle 1 = .ok (.getfield 64, 3) := by decide +kernel
theorem dX0_shuffle_4 : decode cX0_shuffle 4 = .ok (.iconst 1, 1) := by decide +kernel
theorem dX0_shuffle_5 : decode cX0_shuffle 5 = .ok (.isub, 1) := by decide +kernel
theorem dX0_shuffle_6 : decode cX0_shuffle 6 = .ok (.istore_n 2, 1) := by decide +kernel
theorem dX0_shuffle_7 : decode cX0_shuffle 7 = .ok (.iload_n 2, 1) := by decide +kernel
theorem dX0_shuffle_8 : decode cX0_shuffle 8 = .ok (.ifCond .le 44, 3) := by decide +kernel
theorem dX0_shuffle_11 : decode cX0_shuffle 11 = .ok (.aload_n 0, 1) := by decide +kernel
theorem dX0_shuffle_12 : decode cX0_shuffle 12 = .ok (.aload_n 0, 1) := by decide +kernel
theorem dX0_shuffle_13 : decode cX0_shuffle 13 = .ok (.getfield 33, 3) := by decide +kernel
theorem dX0_shuffle_16 : decode cX0_shuffle 16 = .ok (.ldc2_w 67, 3) := by decide +kernel
theorem dX0_shuffle_19 : decode cX0_shuffle 19 = .ok (.lmul, 1) := by decide +kernel
theorem dX0_shuffle_20 : decode cX0_shuffle 20 = .ok (.ldc2_w 69, 3) := by decide +kernel
theorem dX0_shuffle_23 : decode cX0_shuffle 23 = .ok (.ladd, 1) := by decide +kernel
theorem dX0_shuffle_24 : decode cX0_shuffle 24 = .ok (.ldc2_w 71, 3) := by decide +kernel
theorem dX0_shuffle_27 : decode cX0_shuffle 27 = .ok (.lrem, 1) := by decide +kernel
theorem dX0_shuffle_28 : decode cX0_shuffle 28 = .ok (.putfield 33, 3) := by decide +kernel
theorem dX0_shuffle_31 : decode cX0_shuffle 31 = .ok (.aload_n 1, 1) := by decide +kernel
theorem dX0_shuffle_32 : decode cX0_shuffle 32 = .ok (.iload_n 2, 1) := by decide +kernel
theorem dX0_shuffle_33 : decode cX0_shuffle 33 = .ok (.aload_n 0, 1) := by decide +kernel
theorem dX0_shuffle_34 : decode cX0_shuffle 34 = .ok (.getfield 33, 3) := by decide +kernel
theorem dX0_shuffle_37 : decode cX0_shuffle 37 = .ok (.iload_n 2, 1) := by decide +kernel
theorem dX0_shuffle_38 : decode cX0_shuffle 38 = .ok (.iconst 1, 1) := by decide +kernel
theorem dX0_shuffle_39 : decode cX0_shuffle 39 = .ok (.iadd, 1) := by decide +kernel
theorem dX0_shuffle_40 : decode cX0_shuffle 40 = .ok (.i2l, 1) := by decide +kernel
theorem dX0_shuffle_41 : decode cX0_shuffle 41 = .ok (.lrem, 1) := by decide +kernel
theorem dX0_shuffle_42 : decode cX0_shuffle 42 = .ok (.l2i, 1) := by decide +kernel
theorem dX0_shuffle_43 : decode cX0_shuffle 43 = .ok (.invokevirtual 73, 3) := by decide +kernel
theorem dX0_shuffle_46 : decode cX0_shuffle 46 = .ok (.iinc 2 (-1), 3) := by decide +kernel
theorem dX0_shuffle_49 : decode cX0_shuffle 49 = .ok (.goto (-42), 3) := by decide +kernel
theorem dX0_shuffle_52 : decode cX0_shuffle 52 = .ok (.return_, 1) := by decide +kernel
theorem dX1_init_0 : decode cX1_init 0 = .ok (.aload_n 0, 1) := by decide +kernel
theorem dX1_init_1 : decode cX1_init 1 = .ok (.invokespecial 3, 3) := by decide +kernel
theorem dX1_init_4 : decode cX1_init 4 = .ok (.aload_n 0, 1) := by decide +kernel
theorem dX1_init_5 : decode cX1_init 5 = .ok (.iconst (-1), 1) := by decide +kernel
theorem dX1_init_6 : decode cX1_init 6 = .ok (.putfield 9, 3) := by decide +kernel
theorem dX1_init_9 : decode cX1_init 9 = .ok (.aload_n 0, 1) := by decide +kernel
theorem dX1_init_10 : decode cX1_init 10 = .ok (.new 15, 3) := by decide +kernel
theorem dX1_init_13 : decode cX1_init 13 = .ok (.dup, 1) := by decide +kernel
theorem dX1_init_14 : decode cX1_init 14 = .ok (.invokespecial 17, 3) := by decide +kernel
theorem dX1_init_17 : decode cX1_init 17 = .ok (.putfield 18, 3) := by decide +kernel
theorem dX1_init_20 : decode cX1_init 20 = .ok (.aload_n 0, 1) := by decide +kernel
theorem dX1_init_21 : decode cX1_init 21 = .ok (.new 22, 3) := by decide +kernel
theorem dX1_init_24 : decode cX1_init 24 = .ok (.dup, 1) := by decide +kernel
theorem dX1_init_25 : decode cX1_init 25 = .ok (.invokespecial 24, 3) := by decide +kernel
theorem dX1_init_28 : decode cX1_init 28 = .ok (.putfield 25, 3) := by decide +kernel
theorem dX1_init_31 : decode cX1_init 31 = .ok (.aload_n 0, 1) := by decide +kernel
theorem dX1_init_32 : decode cX1_init 32 = .ok (.bipush 21, 2) := by decide +kernel
theorem dX1_init_34 : decode cX1_init 34 = .ok (.newarray .int, 2) := by decide +kernel
theorem dX1_init_36 : decode cX1_init 36 = .ok (.putfield 29, 3) := by decide +kernel
theorem dX1_init_39 : decode cX1_init 39 = .ok (.aload_n 0, 1) := by decide +kernel
theorem dX1_init_40 : decode cX1_init 40 = .ok (.aload_n 1, 1) := by decide +kernel
theorem dX1_init_41 : decode cX1_init 41 = .ok (.putfield 33, 3) := by decide +kernel
theorem dX1_init_44 : decode cX1_init 44 = .ok (.aload_n 0, 1) := by decide +kernel
theorem dX1_init_45 : decode cX1_init 45 = .ok (.aload_n 2, 1) := by decide +kernel
theorem dX1_init_46 : decode cX1_init 46 = .ok (.putfield 36, 3) := by decide +kernel
theorem dX1_init_49 : decode cX1_init 49 = .ok (.aload_n 0, 1) := by decide +kernel
theorem dX1_init_50 : decode cX1_init 50 = .ok (.aload_n 3, 1) := by decide +kernel
theorem dX1_init_51 : decode cX1_init 51 = .ok (.putfield 39, 3) := by decide +kernel
theorem dX1_init_54 : decode cX1_init 54 = .ok (.return_, 1) := by decide +kernel
theorem dX1_tread_0 : decode cX1_tread 0 = .ok (.aload_n 0, 1) := by decide +kernel
theorem dX1_tread_1 : decode cX1_tread 1 = .ok (.getfield 33, 3) := by decide +kernel
theorem dX1_tread_4 : decode cX1_tread 4 = .ok (.iload_n 1, 1) := by decide +kernel
theorem dX1_tread_5 : decode cX1_tread 5 = .ok (.invokevirtual 43, 3) := by decide +kernel
theorem dX1_tread_8 : decode cX1_tread 8 = .ok (.astore_n 2, 1) := by decide +kernel
theorem dX1_tread_9 : decode cX1_tread 9 = .ok (.aload_n 2, 1) := by decide +kernel
theorem dX1_tread_10 : decode cX1_tread 10 = .ok (.ifnonnull 6, 3) := by decide +kernel
theorem dX1_tread_13 : decode cX1_tread 13 = .ok (.bipush (-2), 2) := by decide +kernel
theorem dX1_tread_15 : decode cX1_tread 15 = .ok (.ireturn, 1) := by decide +kernel
theorem dX1_tread_16 : decode cX1_tread 16 = .ok (.aload_n 0, 1) := by decide +kernel
theorem dX1_tread_17 : decode cX1_tread 17 = .ok (.getfield 39, 3) := by decide +kernel
theorem dX1_tread_20 : decode cX1_tread 20 = .ok (.aload_n 2, 1) := by decide +kernel
theorem dX1_tread_21 : decode cX1_tread 21 = .ok (.invokevirtual 47, 3) := by decide +kernel
theorem dX1_tread_24 : decode cX1_tread 24 = .ok (.iconst 3, 1) := by decide +kernel
theorem dX1_tread_25 : decode cX1_tread 25 = .ok (.if_icmp .eq 6, 3) := by decide +kernel
theorem dX1_tread_28 : decode cX1_tread 28 = .ok (.bipush (-3), 2) := by decide +kernel
theorem dX1_tread_30 : decode cX1_tread 30 = .ok (.ireturn, 1) := by decide +kernel
theorem dX1_tread_31 : decode cX1_tread 31 = .ok (.aload_n 0, 1) := by decide +kernel
theorem dX1_tread_32 : decode cX1_tread 32 = .ok (.getfield 36, 3) := by decide +kernel
theorem dX1_tread_35 : decode cX1_tread 35 = .ok (.iconst 0, 1) := by decide +kernel
theorem dX1_tread_36 : decode cX1_tread 36 = .ok (.aload_n 2, 1) := by decide +kernel
theorem dX1_tread_37 : decode cX1_tread 37 = .ok (.invokevirtual 53, 3) := by decide +kernel
theorem dX1_tread_40 : decode cX1_tread 40 = .ok (.aload_n 0, 1) := by decide +kernel
theorem dX1_tread_41 : decode cX1_tread 41 = .ok (.getfield 39, 3) := by decide +kernel
theorem dX1_tread_44 : decode cX1_tread 44 = .ok (.aload_n 2, 1) := by decide +kernel
theorem dX1_tread_45 : decode cX1_tread 45 = .ok (.invokevirtual 57, 3) := by decide +kernel
theorem dX1_tread_48 : decode cX1_tread 48 = .ok (.aload_n 2, 1) := by decide +kernel
theorem dX1_tread_49 : decode cX1_tread 49 = .ok (.getfield 61, 3) := by decide +kernel
theorem dX1_tread_52 : decode cX1_tread 52 = .ok (.ireturn, 1) := by decide +kernel
theorem dX1_exchange_0 : decode cX1_exchange 0 = .ok (.aload_n 0, 1) := by decide +kernel
theorem dX1_exchange_1 : decode cX1_exchange 1 = .ok (.getfield 33, 3) := by decide +kernel
theorem dX1_exchange_4 : decode cX1_exchange 4 = .ok (.iload_n 1, 1) := by decide +kernel
theorem dX1_exchange_5 : decode cX1_exchange 5 = .ok (.invokevirtual 43, 3) := by decide +kernel
theorem dX1_exchange_8 : decode cX1_exchange 8 = .ok (.astore 4, 2) := by decide +kernel
theorem dX1_exchange_10 : decode cX1_exchange 10 = .ok (.aload 4, 2) := by decide +kernel
theorem dX1_exchange_12 : decode cX1_exchange 12 = .ok (.ifnonnull 6, 3) := by decide +kernel
theorem dX1_exchange_15 : decode cX1_exchange 15 = .ok (.bipush (-2), 2) := by decide +kernel
theorem dX1_exchange_17 : decode cX1_exchange 17 = .ok (.ireturn, 1) := by decide +kernel
theorem dX1_exchange_18 : decode cX1_exchange 18 = .ok (.iload_n 2, 1) := by decide +kernel
theorem dX1_exchange_19 : decode cX1_exchange 19 = .ok (.iload_n 3, 1) := by decide +kernel
theorem dX1_exchange_20 : decode cX1_exchange 20 = .ok (.if_icmp .eq 21, 3) := by decide +kernel
theorem dX1_exchange_23 : decode cX1_exchange 23 = .ok (.aload 4, 2) := by decide +kernel
theorem dX1_exchange_25 : decode cX1_exchange 25 = .ok (.iload_n 2, 1) := by decide +kernel
theorem dX1_exchange_26 : decode cX1_exchange 26 = .ok (.invokevirtual 66, 3) := by decide +kernel
theorem dX1_exchange_29 : decode cX1_exchange 29 = .ok (.ifCond .eq 12, 3) := by decide +kernel
theorem dX1_exchange_32 : decode cX1_exchange 32 = .ok (.aload 4, 2) := by decide +kernel
theorem dX1_exchange_34 : decode cX1_exchange 34 = .ok (.iload_n 3, 1) := by decide +kernel
theorem dX1_exchange_35 : decode cX1_exchange 35 = .ok (.invokevirtual 66, 3) := by decide +kernel
theorem dX1_exchange_38 : decode cX1_exchange 38 = .ok (.ifCond .ne 5, 3) := by decide +kernel
theorem dX1_exchange_41 : decode cX1_exchange 41 = .ok (.iconst (-1), 1) := by decide +kernel
theorem dX1_exchange_42 : decode cX1_exchange 42 = .ok (.ireturn, 1) := by decide +kernel
theorem dX1_exchange_43 : decode cX1_exchange 43 = .ok (.aload_n 0, 1) := by decide +kernel
theorem dX1_exchange_44 : decode cX1_exchange 44 = .ok (.getfield 36, 3) := by decide +kernel
theorem dX1_exchange_47 : decode cX1_exchange 47 = .ok (.iconst 1, 1) := by decide +kernel
theorem dX1_exchange_48 : decode cX1_exchange 48 = .ok (.aload 4, 2) := by decide +kernel
theorem dX1_exchange_50 : decode cX1_exchange 50 = .ok (.invokevirtual 53, 3) := by decide +kernel
theorem dX1_exchange_53 : decode cX1_exchange 53 = .ok (.aload 4, 2) := by decide +kernel
theorem dX1_exchange_55 : decode cX1_exchange 55 = .ok (.iload_n 2, 1) := by decide +kernel
theorem dX1_exchange_56 : decode cX1_exchange 56 = .ok (.iload_n 3, 1) := by decide +kernel
theorem dX1_exchange_57 : decode cX1_exchange 57 = .ok (.invokevirtual 70, 3) := by decide +kernel
theorem dX1_exchange_60 : decode cX1_exchange 60 = .ok (.aload 4, 2) := by decide +kernel
theorem dX1_exchange_62 : decode cX1_exchange 62 = .ok (.iconst 0, 1) := by decide +kernel
theorem dX1_exchange_63 : decode cX1_exchange 63 = .ok (.invokevirtual 74, 3) := by decide +kernel
theorem dX1_exchange_66 : decode cX1_exchange 66 = .ok (.ireturn, 1) := by decide +kernel
theorem dX1_lift_0 : decode cX1_lift 0 = .ok (.aload_n 0, 1) := by decide +kernel
theorem dX1_lift_1 : decode cX1_lift 1 = .ok (.getfield 33, 3) := by decide +kernel
theorem dX1_lift_4 : decode cX1_lift 4 = .ok (.iload_n 1, 1) := by decide +kernel
theorem dX1_lift_5 : decode cX1_lift 5 = .ok (.invokevirtual 43, 3) := by decide +kernel
theorem dX1_lift_8 : decode cX1_lift 8 = .ok (.astore_n 3, 1) := by decide +kernel
theorem dX1_lift_9 : decode cX1_lift 9 = .ok (.aload_n 3, 1) := by decide +kernel
theorem dX1_lift_10 : decode cX1_lift 10 = .ok (.ifnonnull 6, 3) := by decide +kernel
theorem dX1_lift_13 : decode cX1_lift 13 = .ok (.bipush (-2), 2) := by decide +kernel
theorem dX1_lift_15 : decode cX1_lift 15 = .ok (.ireturn, 1) := by decide +kernel
theorem dX1_lift_16 : decode cX1_lift 16 = .ok (.iload_n 2, 1) := by decide +kernel
theorem dX1_lift_17 : decode cX1_lift 17 = .ok (.iconst 1, 1) := by decide +kernel
theorem dX1_lift_18 : decode cX1_lift 18 = .ok (.if_icmp .lt 11, 3) := by decide +kernel
theorem dX1_lift_21 : decode cX1_lift 21 = .ok (.iload_n 2, 1) := by decide +kernel
theorem dX1_lift_22 : decode cX1_lift 22 = .ok (.aload_n 3, 1) := by decide +kernel
theorem dX1_lift_23 : decode cX1_lift 23 = .ok (.getfield 78, 3) := by decide +kernel
theorem dX1_lift_26 : decode cX1_lift 26 = .ok (.if_icmp .le 5, 3) := by decide +kernel
theorem dX1_lift_29 : decode cX1_lift 29 = .ok (.iconst (-1), 1) := by decide +kernel
theorem dX1_lift_30 : decode cX1_lift 30 = .ok (.ireturn, 1) := by decide +kernel
theorem dX1_lift_31 : decode cX1_lift 31 = .ok (.aload_n 0, 1) := by decide +kernel
theorem dX1_lift_32 : decode cX1_lift 32 = .ok (.getfield 36, 3) := by decide +kernel
theorem dX1_lift_35 : decode cX1_lift 35 = .ok (.iconst 2, 1) := by decide +kernel
theorem dX1_lift_36 : decode cX1_lift 36 = .ok (.aload_n 3, 1) := by decide +kernel
theorem dX1_lift_37 : decode cX1_lift 37 = .ok (.invokevirtual 53, 3) := by decide +kernel
theorem dX1_lift_40 : decode cX1_lift 40 = .ok (.aload_n 3, 1) := by decide +kernel
theorem dX1_lift_41 : decode cX1_lift 41 = .ok (.iload_n 2, 1) := by decide +kernel
theorem dX1_lift_42 : decode cX1_lift 42 = .ok (.invokevirtual 81, 3) := by decide +kernel
theorem dX1_lift_45 : decode cX1_lift 45 = .ok (.aload_n 3, 1) := by decide +kernel
theorem dX1_lift_46 : decode cX1_lift 46 = .ok (.iconst 0, 1) := by decide +kernel
theorem dX1_lift_47 : decode cX1_lift 47 = .ok (.invokevirtual 74, 3) := by decide +kernel
theorem dX1_lift_50 : decode cX1_lift 50 = .ok (.ireturn, 1) := by decide +kernel
theorem dX1_run_0 : decode cX1_run 0 = .ok (.aload_n 0, 1) := by decide +kernel
theorem dX1_run_1 : decode cX1_run 1 = .ok (.getfield 18, 3) := by decide +kernel
theorem dX1_run_4 : decode cX1_run 4 = .ok (.aload_n 0, 1) := by decide +kernel
theorem dX1_run_5 : decode cX1_run 5 = .ok (.getfield 33, 3) := by decide +kernel
theorem dX1_run_8 : decode cX1_run 8 = .ok (.invokevirtual 85, 3) := by decide +kernel
theorem dX1_run_11 : decode cX1_run 11 = .ok (.aload_n 0, 1) := by decide +kernel
theorem dX1_run_12 : decode cX1_run 12 = .ok (.getfield 25, 3) := by decide +kernel
theorem dX1_run_15 : decode cX1_run 15 = .ok (.aload_n 0, 1) := by decide +kernel
theorem dX1_run_16 : decode cX1_run 16 = .ok (.getfield 36, 3) := by decide +kernel
theorem dX1_run_19 : decode cX1_run 19 = .ok (.invokevirtual 89, 3) := by decide +kernel
theorem dX1_run_22 : decode cX1_run 22 = .ok (.aload_n 0, 1) := by decide +kernel
theorem dX1_run_23 : decode cX1_run 23 = .ok (.iconst 0, 1) := by decide +kernel
theorem dX1_run_24 : decode cX1_run 24 = .ok (.putfield 93, 3) := by decide +kernel
theorem dX1_run_27 : decode cX1_run 27 = .ok (.aload_n 0, 1) := by decide +kernel
theorem dX1_run_28 : decode cX1_run 28 = .ok (.iconst (-1), 1) := by decide +kernel
theorem dX1_run_29 : decode cX1_run 29 = .ok (.putfield 96, 3) := by decide +kernel
theorem dX1_run_32 : decode cX1_run 32 = .ok (.iconst 0, 1) := by decide +kernel
theorem dX1_run_33 : decode cX1_run 33 = .ok (.istore_n 2, 1) := by decide +kernel
theorem dX1_run_34 : decode cX1_run 34 = .ok (.iload_n 2, 1) := by decide +kernel
theorem dX1_run_35 : decode cX1_run 35 = .ok (.aload_n 1, 1) := by decide +kernel
theorem dX1_run_36 : decode cX1_run 36 = .ok (.getfield 99, 3) := by decide +kernel
theorem dX1_run_39 : decode cX1_run 39 = .ok (.if_icmp .ge 65, 3) := by decide +kernel
theorem dX1_run_42 : decode cX1_run 42 = .ok (.iconst 0, 1) := by decide +kernel
theorem dX1_run_43 : decode cX1_run 43 = .ok (.istore_n 3, 1) := by decide +kernel
theorem dX1_run_44 : decode cX1_run 44 = .ok (.iload_n 3, 1) := by decide +kernel
theorem dX1_run_45 : decode cX1_run 45 = .ok (.aload_n 1, 1) := by decide +kernel
theorem dX1_run_46 : decode cX1_run 46 = .ok (.iload_n 2, 1) := by decide +kernel
theorem dX1_run_47 : decode cX1_run 47 = .ok (.invokevirtual 104, 3) := by decide +kernel
theorem dX1_run_50 : decode cX1_run 50 = .ok (.if_icmp .ge 48, 3) := by decide +kernel
theorem dX1_run_53 : decode cX1_run 53 = .ok (.aload_n 0, 1) := by decide +kernel
theorem dX1_run_54 : decode cX1_run 54 = .ok (.aload_n 1, 1) := by decide +kernel
theorem dX1_run_55 : decode cX1_run 55 = .ok (.iload_n 2, 1) := by decide +kernel
theorem dX1_run_56 : decode cX1_run 56 = .ok (.invokevirtual 107, 3) := by decide +kernel
theorem dX1_run_59 : decode cX1_run 59 = .ok (.ifCond .ne 33, 3) := by decide +kernel
theorem dX1_run_62 : decode cX1_run 62 = .ok (.aload_n 0, 1) := by decide +kernel
theorem dX1_run_63 : decode cX1_run 63 = .ok (.getfield 33, 3) := by decide +kernel
theorem dX1_run_66 : decode cX1_run 66 = .ok (.aload_n 0, 1) := by decide +kernel
theorem dX1_run_67 : decode cX1_run 67 = .ok (.getfield 18, 3) := by decide +kernel
theorem dX1_run_70 : decode cX1_run 70 = .ok (.invokevirtual 85, 3) := by decide +kernel
theorem dX1_run_73 : decode cX1_run 73 = .ok (.aload_n 0, 1) := by decide +kernel
theorem dX1_run_74 : decode cX1_run 74 = .ok (.getfield 36, 3) := by decide +kernel
theorem dX1_run_77 : decode cX1_run 77 = .ok (.aload_n 0, 1) := by decide +kernel
theorem dX1_run_78 : decode cX1_run 78 = .ok (.getfield 25, 3) := by decide +kernel
theorem dX1_run_81 : decode cX1_run 81 = .ok (.invokevirtual 89, 3) := by decide +kernel
theorem dX1_run_84 : decode cX1_run 84 = .ok (.aload_n 0, 1) := by decide +kernel
theorem dX1_run_85 : decode cX1_run 85 = .ok (.iload_n 2, 1) := by decide +kernel
theorem dX1_run_86 : decode cX1_run 86 = .ok (.putfield 9, 3) := by decide +kernel
theorem dX1_run_89 : decode cX1_run 89 = .ok (.bipush (-3), 2) := by decide +kernel
theorem dX1_run_91 : decode cX1_run 91 = .ok (.ireturn, 1) := by decide +kernel
theorem dX1_run_92 : decode cX1_run 92 = .ok (.iinc 3 1, 3) := by decide +kernel
theorem dX1_run_95 : decode cX1_run 95 = .ok (.goto (-51), 3) := by decide +kernel
theorem dX1_run_98 : decode cX1_run 98 = .ok (.iinc 2 1, 3) := by decide +kernel
theorem dX1_run_101 : decode cX1_run 101 = .ok (.goto (-67), 3) := by decide +kernel
theorem dX1_run_104 : decode cX1_run 104 = .ok (.aload_n 0, 1) := by decide +kernel
theorem dX1_run_105 : decode cX1_run 105 = .ok (.getfield 93, 3) := by decide +kernel
theorem dX1_run_108 : decode cX1_run 108 = .ok (.ireturn, 1) := by decide +kernel
theorem dX1_runOnce_0 : decode cX1_runOnce 0 = .ok (.aload_n 0, 1) := by decide +kernel
theorem dX1_runOnce_1 : decode cX1_runOnce 1 = .ok (.invokevirtual 111, 3) := by decide +kernel
theorem dX1_runOnce_4 : decode cX1_runOnce 4 = .ok (.aload_n 1, 1) := by decide +kernel
theorem dX1_runOnce_5 : decode cX1_runOnce 5 = .ok (.iload_n 2, 1) := by decide +kernel
theorem dX1_runOnce_6 : decode cX1_runOnce 6 = .ok (.aload_n 0, 1) := by decide +kernel
theorem dX1_runOnce_7 : decode cX1_runOnce 7 = .ok (.getfield 29, 3) := by decide +kernel
theorem dX1_runOnce_10 : decode cX1_runOnce 10 = .ok (.invokevirtual 114, 3) := by decide +kernel
theorem dX1_runOnce_13 : decode cX1_runOnce 13 = .ok (.ifCond .ne 5, 3) := by decide +kernel
theorem dX1_runOnce_16 : decode cX1_runOnce 16 = .ok (.iconst 1, 1) := by decide +kernel
theorem dX1_runOnce_17 : decode cX1_runOnce 17 = .ok (.ireturn, 1) := by decide +kernel
theorem dX1_runOnce_18 : decode cX1_runOnce 18 = .ok (.aload_n 1, 1) := by decide +kernel
theorem dX1_runOnce_19 : decode cX1_runOnce 19 = .ok (.iload_n 2, 1) := by decide +kernel
theorem dX1_runOnce_20 : decode cX1_runOnce 20 = .ok (.invokevirtual 118, 3) := by decide +kernel
theorem dX1_runOnce_23 : decode cX1_runOnce 23 = .ok (.istore_n 3, 1) := by decide +kernel
theorem dX1_runOnce_24 : decode cX1_runOnce 24 = .ok (.aload_n 1, 1) := by decide +kernel
theorem dX1_runOnce_25 : decode cX1_runOnce 25 = .ok (.iload_n 2, 1) := by decide +kernel
theorem dX1_runOnce_26 : decode cX1_runOnce 26 = .ok (.iconst 0, 1) := by decide +kernel
theorem dX1_runOnce_27 : decode cX1_runOnce 27 = .ok (.aload_n 0, 1) := by decide +kernel
theorem dX1_runOnce_28 : decode cX1_runOnce 28 = .ok (.getfield 29, 3) := by decide +kernel
theorem dX1_runOnce_31 : decode cX1_runOnce 31 = .ok (.invokevirtual 121, 3) := by decide +kernel
theorem dX1_runOnce_34 : decode cX1_runOnce 34 = .ok (.istore 4, 2) := by decide +kernel
theorem dX1_runOnce_36 : decode cX1_runOnce 36 = .ok (.iload_n 3, 1) := by decide +kernel
theorem dX1_runOnce_37 : decode cX1_runOnce 37 = .ok (.ifCond .ne 7, 3) := by decide +kernel
theorem dX1_runOnce_40 : decode cX1_runOnce 40 = .ok (.iconst 0, 1) := by decide +kernel
theorem dX1_runOnce_41 : decode cX1_runOnce 41 = .ok (.goto 13, 3) := by decide +kernel
theorem dX1_runOnce_44 : decode cX1_runOnce 44 = .ok (.aload_n 1, 1) := by decide +kernel
theorem dX1_runOnce_45 : decode cX1_runOnce 45 = .ok (.iload_n 2, 1) := by decide +kernel
theorem dX1_runOnce_46 : decode cX1_runOnce 46 = .ok (.iconst 1, 1) := by decide +kernel
theorem dX1_runOnce_47 : decode cX1_runOnce 47 = .ok (.aload_n 0, 1) := by decide +kernel
theorem dX1_runOnce_48 : decode cX1_runOnce 48 = .ok (.getfield 29, 3) := by decide +kernel
theorem dX1_runOnce_51 : decode cX1_runOnce 51 = .ok (.invokevirtual 121, 3) := by decide +kernel
theorem dX1_runOnce_54 : decode cX1_runOnce 54 = .ok (.istore 5, 2) := by decide +kernel
theorem dX1_runOnce_56 : decode cX1_runOnce 56 = .ok (.iload_n 3, 1) := by decide +kernel
theorem dX1_runOnce_57 : decode cX1_runOnce 57 = .ok (.iconst 1, 1) := by decide +kernel
theorem dX1_runOnce_58 : decode cX1_runOnce 58 = .ok (.if_icmp .ne 16, 3) := by decide +kernel
theorem dX1_runOnce_61 : decode cX1_runOnce 61 = .ok (.aload_n 1, 1) := by decide +kernel
theorem dX1_runOnce_62 : decode cX1_runOnce 62 = .ok (.iload_n 2, 1) := by decide +kernel
theorem dX1_runOnce_63 : decode cX1_runOnce 63 = .ok (.iconst 2, 1) := by decide +kernel
theorem dX1_runOnce_64 : decode cX1_runOnce 64 = .ok (.aload_n 0, 1) := by decide +kernel
theorem dX1_runOnce_65 : decode cX1_runOnce 65 = .ok (.getfield 29, 3) := by decide +kernel
theorem dX1_runOnce_68 : decode cX1_runOnce 68 = .ok (.invokevirtual 121, 3) := by decide +kernel
theorem dX1_runOnce_71 : decode cX1_runOnce 71 = .ok (.goto 4, 3) := by decide +kernel
theorem dX1_runOnce_74 : decode cX1_runOnce 74 = .ok (.iconst 0, 1) := by decide +kernel
theorem dX1_runOnce_75 : decode cX1_runOnce 75 = .ok (.istore 6, 2) := by decide +kernel
theorem dX1_runOnce_77 : decode cX1_runOnce 77 = .ok (.iload 4, 2) := by decide +kernel
theorem dX1_runOnce_79 : decode cX1_runOnce 79 = .ok (.ldc 125, 2) := by decide +kernel
theorem dX1_runOnce_81 : decode cX1_runOnce 81 = .ok (.if_icmp .eq 17, 3) := by decide +kernel
theorem dX1_runOnce_84 : decode cX1_runOnce 84 = .ok (.iload 5, 2) := by decide +kernel
theorem dX1_runOnce_86 : decode cX1_runOnce 86 = .ok (.ldc 125, 2) := by decide +kernel
theorem dX1_runOnce_88 : decode cX1_runOnce 88 = .ok (.if_icmp .eq 10, 3) := by decide +kernel
theorem dX1_runOnce_91 : decode cX1_runOnce 91 = .ok (.iload 6, 2) := by decide +kernel
theorem dX1_runOnce_93 : decode cX1_runOnce 93 = .ok (.ldc 125, 2) := by decide +kernel
theorem dX1_runOnce_95 : decode cX1_runOnce 95 = .ok (.if_icmp .ne 5, 3) := by decide +kernel
theorem dX1_runOnce_98 : decode cX1_runOnce 98 = .ok (.iconst 0, 1) := by decide +kernel
theorem dX1_runOnce_99 : decode cX1_runOnce 99 = .ok (.ireturn, 1) := by decide +kernel
theorem dX1_runOnce_100 : decode cX1_runOnce 100 = .ok (.iload_n 3, 1) := by decide +kernel
theorem dX1_runOnce_101 : decode cX1_runOnce 101 = .ok (.ifCond .ne 20, 3) := by decide +kernel
theorem dX1_runOnce_104 : decode cX1_runOnce 104 = .ok (.aload_n 0, 1) := by decide +kernel
theorem dX1_runOnce_105 : decode cX1_runOnce 105 = .ok (.iload 4, 2) := by decide +kernel
theorem dX1_runOnce_107 : decode cX1_runOnce 107 = .ok (.invokevirtual 126, 3) := by decide +kernel
theorem dX1_runOnce_110 : decode cX1_runOnce 110 = .ok (.istore 7, 2) := by decide +kernel
theorem dX1_runOnce_112 : decode cX1_runOnce 112 = .ok (.aload_n 0, 1) := by decide +kernel
theorem dX1_runOnce_113 : decode cX1_runOnce 113 = .ok (.iload 7, 2) := by decide +kernel
theorem dX1_runOnce_115 : decode cX1_runOnce 115 = .ok (.putfield 96, 3) := by decide +kernel
theorem dX1_runOnce_118 : decode cX1_runOnce 118 = .ok (.goto 31, 3) := by decide +kernel
theorem dX1_runOnce_121 : decode cX1_runOnce 121 = .ok (.iload_n 3, 1) := by decide +kernel
theorem dX1_runOnce_122 : decode cX1_runOnce 122 = .ok (.iconst 1, 1) := by decide +kernel
theorem dX1_runOnce_123 : decode cX1_runOnce 123 = .ok (.if_icmp .ne 16, 3) := by decide +kernel
theorem dX1_runOnce_126 : decode cX1_runOnce 126 = .ok (.aload_n 0, 1) := by decide +kernel
theorem dX1_runOnce_127 : decode cX1_runOnce 127 = .ok (.iload 6, 2) := by decide +kernel
theorem dX1_runOnce_129 : decode cX1_runOnce 129 = .ok (.iload 4, 2) := by decide +kernel
theorem dX1_runOnce_131 : decode cX1_runOnce 131 = .ok (.iload 5, 2) := by decide +kernel
theorem dX1_runOnce_133 : decode cX1_runOnce 133 = .ok (.invokevirtual 129, 3) := by decide +kernel
theorem dX1_runOnce_136 : decode cX1_runOnce 136 = .ok (.goto 11, 3) := by decide +kernel
theorem dX1_runOnce_139 : decode cX1_runOnce 139 = .ok (.aload_n 0, 1) := by decide +kernel
theorem dX1_runOnce_140 : decode cX1_runOnce 140 = .ok (.iload 5, 2) := by decide +kernel
theorem dX1_runOnce_142 : decode cX1_runOnce 142 = .ok (.iload 4, 2) := by decide +kernel
theorem dX1_runOnce_144 : decode cX1_runOnce 144 = .ok (.invokevirtual 132, 3) := by decide +kernel
theorem dX1_runOnce_147 : decode cX1_runOnce 147 = .ok (.istore 7, 2) := by decide +kernel
theorem dX1_runOnce_149 : decode cX1_runOnce 149 = .ok (.aload_n 0, 1) := by decide +kernel
theorem dX1_runOnce_150 : decode cX1_runOnce 150 = .ok (.dup, 1) := by decide +kernel
theorem dX1_runOnce_151 : decode cX1_runOnce 151 = .ok (.getfield 93, 3) := by decide +kernel
theorem dX1_runOnce_154 : decode cX1_runOnce 154 = .ok (.iconst 1, 1) := by decide +kernel
theorem dX1_runOnce_155 : decode cX1_runOnce 155 = .ok (.iadd, 1) := by decide +kernel
theorem dX1_runOnce_156 : decode cX1_runOnce 156 = .ok (.putfield 93, 3) := by decide +kernel
theorem dX1_runOnce_159 : decode cX1_runOnce 159 = .ok (.iload 7, 2) := by decide +kernel
theorem dX1_runOnce_161 : decode cX1_runOnce 161 = .ok (.ifCond .lt 7, 3) := by decide +kernel
theorem dX1_runOnce_164 : decode cX1_runOnce 164 = .ok (.iconst 1, 1) := by decide +kernel
theorem dX1_runOnce_165 : decode cX1_runOnce 165 = .ok (.goto 4, 3) := by decide +kernel
theorem dX1_runOnce_168 : decode cX1_runOnce 168 = .ok (.iconst 0, 1) := by decide +kernel
theorem dX1_runOnce_169 : decode cX1_runOnce 169 = .ok (.ireturn, 1) := by decide +kernel
theorem dX1_fillWords_0 : decode cX1_fillWords 0 = .ok (.aload_n 0, 1) := by decide +kernel
theorem dX1_fillWords_1 : decode cX1_fillWords 1 = .ok (.getfield 29, 3) := by decide +kernel
theorem dX1_fillWords_4 : decode cX1_fillWords 4 = .ok (.iconst 0, 1) := by decide +kernel
theorem dX1_fillWords_5 : decode cX1_fillWords 5 = .ok (.aload_n 0, 1) := by decide +kernel
theorem dX1_fillWords_6 : decode cX1_fillWords 6 = .ok (.getfield 33, 3) := by decide +kernel
theorem dX1_fillWords_9 : decode cX1_fillWords 9 = .ok (.getfield 136, 3) := by decide +kernel
theorem dX1_fillWords_12 : decode cX1_fillWords 12 = .ok (.iastore, 1) := by decide +kernel
theorem dX1_fillWords_13 : decode cX1_fillWords 13 = .ok (.aload_n 0, 1) := by decide +kernel
theorem dX1_fillWords_14 : decode cX1_fillWords 14 = .ok (.getfield 29, 3) := by decide +kernel
theorem dX1_fillWords_17 : decode cX1_fillWords 17 = .ok (.iconst 1, 1) := by decide +kernel
theorem dX1_fillWords_18 : decode cX1_fillWords 18 = .ok (.aload_n 0, 1) := by decide +kernel
theorem dX1_fillWords_19 : decode cX1_fillWords 19 = .ok (.getfield 93, 3) := by decide +kernel
theorem dX1_fillWords_22 : decode cX1_fillWords 22 = .ok (.iastore, 1) := by decide +kernel
theorem dX1_fillWords_23 : decode cX1_fillWords 23 = .ok (.aload_n 0, 1) := by decide +kernel
theorem dX1_fillWords_24 : decode cX1_fillWords 24 = .ok (.getfield 29, 3) := by decide +kernel
theorem dX1_fillWords_27 : decode cX1_fillWords 27 = .ok (.iconst 2, 1) := by decide +kernel
theorem dX1_fillWords_28 : decode cX1_fillWords 28 = .ok (.aload_n 0, 1) := by decide +kernel
theorem dX1_fillWords_29 : decode cX1_fillWords 29 = .ok (.getfield 96, 3) := by decide +kernel
theorem dX1_fillWords_32 : decode cX1_fillWords 32 = .ok (.iastore, 1) := by decide +kernel
theorem dX1_fillWords_33 : decode cX1_fillWords 33 = .ok (.iconst 0, 1) := by decide +kernel
theorem dX1_fillWords_34 : decode cX1_fillWords 34 = .ok (.istore_n 1, 1) := by decide +kernel
theorem dX1_fillWords_35 : decode cX1_fillWords 35 = .ok (.iload_n 1, 1) := by decide +kernel
theorem dX1_fillWords_36 : decode cX1_fillWords 36 = .ok (.bipush 6, 2) := by decide +kernel
theorem dX1_fillWords_38 : decode cX1_fillWords 38 = .ok (.if_icmp .ge 83, 3) := by decide +kernel
theorem dX1_fillWords_41 : decode cX1_fillWords 41 = .ok (.aload_n 0, 1) := by decide +kernel
theorem dX1_fillWords_42 : decode cX1_fillWords 42 = .ok (.getfield 33, 3) := by decide +kernel
theorem dX1_fillWords_45 : decode cX1_fillWords 45 = .ok (.iload_n 1, 1) := by decide +kernel
theorem dX1_fillWords_46 : decode cX1_fillWords 46 = .ok (.invokevirtual 43, 3) := by decide +kernel
theorem dX1_fillWords_49 : decode cX1_fillWords 49 = .ok (.astore_n 2, 1) := by decide +kernel
theorem dX1_fillWords_50 : decode cX1_fillWords 50 = .ok (.iconst 3, 1) := by decide +kernel
theorem dX1_fillWords_51 : decode cX1_fillWords 51 = .ok (.iload_n 1, 1) := by decide +kernel
theorem dX1_fillWords_52 : decode cX1_fillWords 52 = .ok (.iadd, 1) := by decide +kernel
theorem dX1_fillWords_53 : decode cX1_fillWords 53 = .ok (.istore_n 3, 1) := by decide +kernel
theorem dX1_fillWords_54 : decode cX1_fillWords 54 = .ok (.aload_n 0, 1) := by decide +kernel
theorem dX1_fillWords_55 : decode cX1_fillWords 55 = .ok (.getfield 29, 3) := by decide +kernel
theorem dX1_fillWords_58 : decode cX1_fillWords 58 = .ok (.iload_n 3, 1) := by decide +kernel
theorem dX1_fillWords_59 : decode cX1_fillWords 59 = .ok (.aload_n 2, 1) := by decide +kernel
theorem dX1_fillWords_60 : decode cX1_fillWords 60 = .ok (.ifnonnull 7, 3) := by decide +kernel
theorem dX1_fillWords_63 : decode cX1_fillWords 63 = .ok (.iconst (-1), 1) := by decide +kernel
theorem dX1_fillWords_64 : decode cX1_fillWords 64 = .ok (.goto 8, 3) := by decide +kernel
theorem dX1_fillWords_67 : decode cX1_fillWords 67 = .ok (.aload_n 2, 1) := by decide +kernel
theorem dX1_fillWords_68 : decode cX1_fillWords 68 = .ok (.iconst 0, 1) := by decide +kernel
theorem dX1_fillWords_69 : decode cX1_fillWords 69 = .ok (.invokevirtual 74, 3) := by decide +kernel
theorem dX1_fillWords_72 : decode cX1_fillWords 72 = .ok (.iastore, 1) := by decide +kernel
theorem dX1_fillWords_73 : decode cX1_fillWords 73 = .ok (.aload_n 0, 1) := by decide +kernel
theorem dX1_fillWords_74 : decode cX1_fillWords 74 = .ok (.getfield 29, 3) := by decide +kernel
theorem dX1_fillWords_77 : decode cX1_fillWords 77 = .ok (.iload_n 3, 1) := by decide +kernel
theorem dX1_fillWords_78 : decode cX1_fillWords 78 = .ok (.bipush 6, 2) := by decide +kernel
theorem dX1_fillWords_80 : decode cX1_fillWords 80 = .ok (.iadd, 1) := by decide +kernel
theorem dX1_fillWords_81 : decode cX1_fillWords 81 = .ok (.aload_n 2, 1) := by decide +kernel
theorem dX1_fillWords_82 : decode cX1_fillWords 82 = .ok (.ifnonnull 7, 3) := by decide +kernel
theorem dX1_fillWords_85 : decode cX1_fillWords 85 = .ok (.iconst (-1), 1) := by decide +kernel
theorem dX1_fillWords_86 : decode cX1_fillWords 86 = .ok (.goto 7, 3) := by decide +kernel
theorem dX1_fillWords_89 : decode cX1_fillWords 89 = .ok (.aload_n 2, 1) := by decide +kernel
theorem dX1_fillWords_90 : decode cX1_fillWords 90 = .ok (.getfield 61, 3) := by decide +kernel
theorem dX1_fillWords_93 : decode cX1_fillWords 93 = .ok (.iastore, 1) := by decide +kernel
theorem dX1_fillWords_94 : decode cX1_fillWords 94 = .ok (.aload_n 0, 1) := by decide +kernel
theorem dX1_fillWords_95 : decode cX1_fillWords 95 = .ok (.getfield 29, 3) := by decide +kernel
theorem dX1_fillWords_98 : decode cX1_fillWords 98 = .ok (.iload_n 3, 1) := by decide +kernel
theorem dX1_fillWords_99 : decode cX1_fillWords 99 = .ok (.bipush 12, 2) := by decide +kernel
theorem dX1_fillWords_101 : decode cX1_fillWords 101 = .ok (.iadd, 1) := by decide +kernel
theorem dX1_fillWords_102 : decode cX1_fillWords 102 = .ok (.aload_n 2, 1) := by decide +kernel
theorem dX1_fillWords_103 : decode cX1_fillWords 103 = .ok (.ifnonnull 7, 3) := by decide +kernel
theorem dX1_fillWords_106 : decode cX1_fillWords 106 = .ok (.iconst (-1), 1) := by decide +kernel
theorem dX1_fillWords_107 : decode cX1_fillWords 107 = .ok (.goto 7, 3) := by decide +kernel
theorem dX1_fillWords_110 : decode cX1_fillWords 110 = .ok (.aload_n 2, 1) := by decide +kernel
theorem dX1_fillWords_111 : decode cX1_fillWords 111 = .ok (.getfield 78, 3) := by decide +kernel
theorem dX1_fillWords_114 : decode cX1_fillWords 114 = .ok (.iastore, 1) := by decide +kernel
theorem dX1_fillWords_115 : decode cX1_fillWords 115 = .ok (.iinc 1 1, 3) := by decide +kernel
theorem dX1_fillWords_118 : decode cX1_fillWords 118 = .ok (.goto (-83), 3) := by decide +kernel
theorem dX1_fillWords_121 : decode cX1_fillWords 121 = .ok (.return_, 1) := by decide +kernel
theorem dX2_init_0 : decode cX2_init 0 = .ok (.aload_n 0, 1) := by decide +kernel
theorem dX2_init_1 : decode cX2_init 1 = .ok (.invokespecial 3, 3) := by decide +kernel
theorem dX2_init_4 : decode cX2_init 4 = .ok (.aload_n 0, 1) := by decide +kernel
theorem dX2_init_5 : decode cX2_init 5 = .ok (.bipush 16, 2) := by decide +kernel
theorem dX2_init_7 : decode cX2_init 7 = .ok (.anewarray 11, 3) := by decide +kernel
theorem dX2_init_10 : decode cX2_init 10 = .ok (.putfield 13, 3) := by decide +kernel
theorem dX2_init_13 : decode cX2_init 13 = .ok (.aload_n 0, 1) := by decide +kernel
theorem dX2_init_14 : decode cX2_init 14 = .ok (.bipush 16, 2) := by decide +kernel
theorem dX2_init_16 : decode cX2_init 16 = .ok (.newarray .int, 2) := by decide +kernel
theorem dX2_init_18 : decode cX2_init 18 = .ok (.putfield 17, 3) := by decide +kernel
theorem dX2_init_21 : decode cX2_init 21 = .ok (.iconst 0, 1) := by decide +kernel
theorem dX2_init_22 : decode cX2_init 22 = .ok (.istore_n 1, 1) := by decide +kernel
theorem dX2_init_23 : decode cX2_init 23 = .ok (.iload_n 1, 1) := by decide +kernel
theorem dX2_init_24 : decode cX2_init 24 = .ok (.bipush 16, 2) := by decide +kernel
theorem dX2_init_26 : decode cX2_init 26 = .ok (.if_icmp .ge 22, 3) := by decide +kernel
theorem dX2_init_29 : decode cX2_init 29 = .ok (.aload_n 0, 1) := by decide +kernel
theorem dX2_init_30 : decode cX2_init 30 = .ok (.getfield 13, 3) := by decide +kernel
theorem dX2_init_33 : decode cX2_init 33 = .ok (.iload_n 1, 1) := by decide +kernel
theorem dX2_init_34 : decode cX2_init 34 = .ok (.new 11, 3) := by decide +kernel
theorem dX2_init_37 : decode cX2_init 37 = .ok (.dup, 1) := by decide +kernel
theorem dX2_init_38 : decode cX2_init 38 = .ok (.invokespecial 21, 3) := by decide +kernel
theorem dX2_init_41 : decode cX2_init 41 = .ok (.aastore, 1) := by decide +kernel
theorem dX2_init_42 : decode cX2_init 42 = .ok (.iinc 1 1, 3) := by decide +kernel
theorem dX2_init_45 : decode cX2_init 45 = .ok (.goto (-22), 3) := by decide +kernel
theorem dX2_init_48 : decode cX2_init 48 = .ok (.return_, 1) := by decide +kernel
theorem dX2_clear_0 : decode cX2_clear 0 = .ok (.aload_n 0, 1) := by decide +kernel
theorem dX2_clear_1 : decode cX2_clear 1 = .ok (.iconst 0, 1) := by decide +kernel
theorem dX2_clear_2 : decode cX2_clear 2 = .ok (.putfield 22, 3) := by decide +kernel
theorem dX2_clear_5 : decode cX2_clear 5 = .ok (.aload_n 0, 1) := by decide +kernel
theorem dX2_clear_6 : decode cX2_clear 6 = .ok (.iconst 0, 1) := by decide +kernel
theorem dX2_clear_7 : decode cX2_clear 7 = .ok (.putfield 26, 3) := by decide +kernel
theorem dX2_clear_10 : decode cX2_clear 10 = .ok (.return_, 1) := by decide +kernel
theorem dX2_copy_0 : decode cX2_copy 0 = .ok (.aload_n 0, 1) := by decide +kernel
theorem dX2_copy_1 : decode cX2_copy 1 = .ok (.aload_n 1, 1) := by decide +kernel
theorem dX2_copy_2 : decode cX2_copy 2 = .ok (.getfield 22, 3) := by decide +kernel
theorem dX2_copy_5 : decode cX2_copy 5 = .ok (.putfield 22, 3) := by decide +kernel
theorem dX2_copy_8 : decode cX2_copy 8 = .ok (.aload_n 0, 1) := by decide +kernel
theorem dX2_copy_9 : decode cX2_copy 9 = .ok (.aload_n 1, 1) := by decide +kernel
theorem dX2_copy_10 : decode cX2_copy 10 = .ok (.getfield 26, 3) := by decide +kernel
theorem dX2_copy_13 : decode cX2_copy 13 = .ok (.putfield 26, 3) := by decide +kernel
theorem dX2_copy_16 : decode cX2_copy 16 = .ok (.iconst 0, 1) := by decide +kernel
theorem dX2_copy_17 : decode cX2_copy 17 = .ok (.istore_n 2, 1) := by decide +kernel
theorem dX2_copy_18 : decode cX2_copy 18 = .ok (.iload_n 2, 1) := by decide +kernel
theorem dX2_copy_19 : decode cX2_copy 19 = .ok (.bipush 16, 2) := by decide +kernel
theorem dX2_copy_21 : decode cX2_copy 21 = .ok (.if_icmp .ge 36, 3) := by decide +kernel
theorem dX2_copy_24 : decode cX2_copy 24 = .ok (.aload_n 0, 1) := by decide +kernel
theorem dX2_copy_25 : decode cX2_copy 25 = .ok (.getfield 13, 3) := by decide +kernel
theorem dX2_copy_28 : decode cX2_copy 28 = .ok (.iload_n 2, 1) := by decide +kernel
theorem dX2_copy_29 : decode cX2_copy 29 = .ok (.aaload, 1) := by decide +kernel
theorem dX2_copy_30 : decode cX2_copy 30 = .ok (.aload_n 1, 1) := by decide +kernel
theorem dX2_copy_31 : decode cX2_copy 31 = .ok (.getfield 13, 3) := by decide +kernel
theorem dX2_copy_34 : decode cX2_copy 34 = .ok (.iload_n 2, 1) := by decide +kernel
theorem dX2_copy_35 : decode cX2_copy 35 = .ok (.aaload, 1) := by decide +kernel
theorem dX2_copy_36 : decode cX2_copy 36 = .ok (.invokevirtual 29, 3) := by decide +kernel
theorem dX2_copy_39 : decode cX2_copy 39 = .ok (.aload_n 0, 1) := by decide +kernel
theorem dX2_copy_40 : decode cX2_copy 40 = .ok (.getfield 17, 3) := by decide +kernel
theorem dX2_copy_43 : decode cX2_copy 43 = .ok (.iload_n 2, 1) := by decide +kernel
theorem dX2_copy_44 : decode cX2_copy 44 = .ok (.aload_n 1, 1) := by decide +kernel
theorem dX2_copy_45 : decode cX2_copy 45 = .ok (.getfield 17, 3) := by decide +kernel
theorem dX2_copy_48 : decode cX2_copy 48 = .ok (.iload_n 2, 1) := by decide +kernel
theorem dX2_copy_49 : decode cX2_copy 49 = .ok (.iaload, 1) := by decide +kernel
theorem dX2_copy_50 : decode cX2_copy 50 = .ok (.iastore, 1) := by decide +kernel
theorem dX2_copy_51 : decode cX2_copy 51 = .ok (.iinc 2 1, 3) := by decide +kernel
theorem dX2_copy_54 : decode cX2_copy 54 = .ok (.goto (-36), 3) := by decide +kernel
theorem dX2_copy_57 : decode cX2_copy 57 = .ok (.return_, 1) := by decide +kernel
theorem dX2_keep_0 : decode cX2_keep 0 = .ok (.aload_n 0, 1) := by decide +kernel
theorem dX2_keep_1 : decode cX2_keep 1 = .ok (.getfield 26, 3) := by decide +kernel
theorem dX2_keep_4 : decode cX2_keep 4 = .ok (.ifCond .lt 12, 3) := by decide +kernel
theorem dX2_keep_7 : decode cX2_keep 7 = .ok (.aload_n 0, 1) := by decide +kernel
theorem dX2_keep_8 : decode cX2_keep 8 = .ok (.getfield 26, 3) := by decide +kernel
theorem dX2_keep_11 : decode cX2_keep 11 = .ok (.bipush 16, 2) := by decide +kernel
theorem dX2_keep_13 : decode cX2_keep 13 = .ok (.if_icmp .lt 8, 3) := by decide +kernel
theorem dX2_keep_16 : decode cX2_keep 16 = .ok (.aload_n 0, 1) := by decide +kernel
theorem dX2_keep_17 : decode cX2_keep 17 = .ok (.iconst 0, 1) := by decide +kernel
theorem dX2_keep_18 : decode cX2_keep 18 = .ok (.putfield 26, 3) := by decide +kernel
theorem dX2_keep_21 : decode cX2_keep 21 = .ok (.aload_n 0, 1) := by decide +kernel
theorem dX2_keep_22 : decode cX2_keep 22 = .ok (.getfield 13, 3) := by decide +kernel
theorem dX2_keep_25 : decode cX2_keep 25 = .ok (.aload_n 0, 1) := by decide +kernel
theorem dX2_keep_26 : decode cX2_keep 26 = .ok (.getfield 26, 3) := by decide +kernel
theorem dX2_keep_29 : decode cX2_keep 29 = .ok (.aaload, 1) := by decide +kernel
theorem dX2_keep_30 : decode cX2_keep 30 = .ok (.aload_n 2, 1) := by decide +kernel
theorem dX2_keep_31 : decode cX2_keep 31 = .ok (.invokevirtual 29, 3) := by decide +kernel
theorem dX2_keep_34 : decode cX2_keep 34 = .ok (.aload_n 0, 1) := by decide +kernel
theorem dX2_keep_35 : decode cX2_keep 35 = .ok (.getfield 17, 3) := by decide +kernel
theorem dX2_keep_38 : decode cX2_keep 38 = .ok (.aload_n 0, 1) := by decide +kernel
theorem dX2_keep_39 : decode cX2_keep 39 = .ok (.getfield 26, 3) := by decide +kernel
theorem dX2_keep_42 : decode cX2_keep 42 = .ok (.iload_n 1, 1) := by decide +kernel
theorem dX2_keep_43 : decode cX2_keep 43 = .ok (.iastore, 1) := by decide +kernel
theorem dX2_keep_44 : decode cX2_keep 44 = .ok (.aload_n 0, 1) := by decide +kernel
theorem dX2_keep_45 : decode cX2_keep 45 = .ok (.aload_n 0, 1) := by decide +kernel
theorem dX2_keep_46 : decode cX2_keep 46 = .ok (.getfield 26, 3) := by decide +kernel
theorem dX2_keep_49 : decode cX2_keep 49 = .ok (.iconst 1, 1) := by decide +kernel
theorem dX2_keep_50 : decode cX2_keep 50 = .ok (.iadd, 1) := by decide +kernel
theorem dX2_keep_51 : decode cX2_keep 51 = .ok (.bipush 16, 2) := by decide +kernel
theorem dX2_keep_53 : decode cX2_keep 53 = .ok (.irem, 1) := by decide +kernel
theorem dX2_keep_54 : decode cX2_keep 54 = .ok (.putfield 26, 3) := by decide +kernel
theorem dX2_keep_57 : decode cX2_keep 57 = .ok (.aload_n 0, 1) := by decide +kernel
theorem dX2_keep_58 : decode cX2_keep 58 = .ok (.aload_n 0, 1) := by decide +kernel
theorem dX2_keep_59 : decode cX2_keep 59 = .ok (.getfield 22, 3) := by decide +kernel
theorem dX2_keep_62 : decode cX2_keep 62 = .ok (.iconst 1, 1) := by decide +kernel
theorem dX2_keep_63 : decode cX2_keep 63 = .ok (.iadd, 1) := by decide +kernel
theorem dX2_keep_64 : decode cX2_keep 64 = .ok (.bipush 16, 2) := by decide +kernel
theorem dX2_keep_66 : decode cX2_keep 66 = .ok (.invokestatic 33, 3) := by decide +kernel
theorem dX2_keep_69 : decode cX2_keep 69 = .ok (.putfield 22, 3) := by decide +kernel
theorem dX2_keep_72 : decode cX2_keep 72 = .ok (.return_, 1) := by decide +kernel
theorem dX2_takeBack_0 : decode cX2_takeBack 0 = .ok (.aload_n 0, 1) := by decide +kernel
theorem dX2_takeBack_1 : decode cX2_takeBack 1 = .ok (.aload_n 0, 1) := by decide +kernel
theorem dX2_takeBack_2 : decode cX2_takeBack 2 = .ok (.getfield 26, 3) := by decide +kernel
theorem dX2_takeBack_5 : decode cX2_takeBack 5 = .ok (.bipush 16, 2) := by decide +kernel
theorem dX2_takeBack_7 : decode cX2_takeBack 7 = .ok (.iadd, 1) := by decide +kernel
theorem dX2_takeBack_8 : decode cX2_takeBack 8 = .ok (.iconst 1, 1) := by decide +kernel
theorem dX2_takeBack_9 : decode cX2_takeBack 9 = .ok (.isub, 1) := by decide +kernel
theorem dX2_takeBack_10 : decode cX2_takeBack 10 = .ok (.bipush 16, 2) := by decide +kernel
theorem dX2_takeBack_12 : decode cX2_takeBack 12 = .ok (.irem, 1) := by decide +kernel
theorem dX2_takeBack_13 : decode cX2_takeBack 13 = .ok (.putfield 26, 3) := by decide +kernel
theorem dX2_takeBack_16 : decode cX2_takeBack 16 = .ok (.aload_n 0, 1) := by decide +kernel
theorem dX2_takeBack_17 : decode cX2_takeBack 17 = .ok (.aload_n 0, 1) := by decide +kernel
theorem dX2_takeBack_18 : decode cX2_takeBack 18 = .ok (.getfield 22, 3) := by decide +kernel
theorem dX2_takeBack_21 : decode cX2_takeBack 21 = .ok (.iconst 1, 1) := by decide +kernel
theorem dX2_takeBack_22 : decode cX2_takeBack 22 = .ok (.isub, 1) := by decide +kernel
theorem dX2_takeBack_23 : decode cX2_takeBack 23 = .ok (.iconst 0, 1) := by decide +kernel
theorem dX2_takeBack_24 : decode cX2_takeBack 24 = .ok (.invokestatic 39, 3) := by decide +kernel
theorem dX2_takeBack_27 : decode cX2_takeBack 27 = .ok (.putfield 22, 3) := by decide +kernel
theorem dX2_takeBack_30 : decode cX2_takeBack 30 = .ok (.aload_n 0, 1) := by decide +kernel
theorem dX2_takeBack_31 : decode cX2_takeBack 31 = .ok (.getfield 26, 3) := by decide +kernel
theorem dX2_takeBack_34 : decode cX2_takeBack 34 = .ok (.ifCond .ge 5, 3) := by decide +kernel
theorem dX2_takeBack_37 : decode cX2_takeBack 37 = .ok (.iconst (-1), 1) := by decide +kernel
theorem dX2_takeBack_38 : decode cX2_takeBack 38 = .ok (.ireturn, 1) := by decide +kernel
theorem dX2_takeBack_39 : decode cX2_takeBack 39 = .ok (.aload_n 1, 1) := by decide +kernel
theorem dX2_takeBack_40 : decode cX2_takeBack 40 = .ok (.aload_n 0, 1) := by decide +kernel
theorem dX2_takeBack_41 : decode cX2_takeBack 41 = .ok (.getfield 13, 3) := by decide +kernel
theorem dX2_takeBack_44 : decode cX2_takeBack 44 = .ok (.aload_n 0, 1) := by decide +kernel
theorem dX2_takeBack_45 : decode cX2_takeBack 45 = .ok (.getfield 26, 3) := by decide +kernel
theorem dX2_takeBack_48 : decode cX2_takeBack 48 = .ok (.aaload, 1) := by decide +kernel
theorem dX2_takeBack_49 : decode cX2_takeBack 49 = .ok (.getfield 42, 3) := by decide +kernel
theorem dX2_takeBack_52 : decode cX2_takeBack 52 = .ok (.invokevirtual 45, 3) := by decide +kernel
theorem dX2_takeBack_55 : decode cX2_takeBack 55 = .ok (.astore_n 2, 1) := by decide +kernel
theorem dX2_takeBack_56 : decode cX2_takeBack 56 = .ok (.aload_n 2, 1) := by decide +kernel
theorem dX2_takeBack_57 : decode cX2_takeBack 57 = .ok (.ifnull 16, 3) := by decide +kernel
theorem dX2_takeBack_60 : decode cX2_takeBack 60 = .ok (.aload_n 2, 1) := by decide +kernel
theorem dX2_takeBack_61 : decode cX2_takeBack 61 = .ok (.aload_n 0, 1) := by decide +kernel
theorem dX2_takeBack_62 : decode cX2_takeBack 62 = .ok (.getfield 13, 3) := by decide +kernel
theorem dX2_takeBack_65 : decode cX2_takeBack 65 = .ok (.aload_n 0, 1) := by decide +kernel
theorem dX2_takeBack_66 : decode cX2_takeBack 66 = .ok (.getfield 26, 3) := by decide +kernel
theorem dX2_takeBack_69 : decode cX2_takeBack 69 = .ok (.aaload, 1) := by decide +kernel
theorem dX2_takeBack_70 : decode cX2_takeBack 70 = .ok (.invokevirtual 29, 3) := by decide +kernel
theorem dX2_takeBack_73 : decode cX2_takeBack 73 = .ok (.aload_n 0, 1) := by decide +kernel
theorem dX2_takeBack_74 : decode cX2_takeBack 74 = .ok (.getfield 17, 3) := by decide +kernel
theorem dX2_takeBack_77 : decode cX2_takeBack 77 = .ok (.aload_n 0, 1) := by decide +kernel
theorem dX2_takeBack_78 : decode cX2_takeBack 78 = .ok (.getfield 26, 3) := by decide +kernel
theorem dX2_takeBack_81 : decode cX2_takeBack 81 = .ok (.iaload, 1) := by decide +kernel
theorem dX2_takeBack_82 : decode cX2_takeBack 82 = .ok (.ireturn, 1) := by decide +kernel
theorem dX3_init_0 : decode cX3_init 0 = .ok (.aload_n 0, 1) := by decide +kernel
theorem dX3_init_1 : decode cX3_init 1 = .ok (.invokespecial 3, 3) := by decide +kernel
theorem dX3_init_4 : decode cX3_init 4 = .ok (.aload_n 0, 1) := by decide +kernel
theorem dX3_init_5 : decode cX3_init 5 = .ok (.new 9, 3) := by decide +kernel
theorem dX3_init_8 : decode cX3_init 8 = .ok (.dup, 1) := by decide +kernel
theorem dX3_init_9 : decode cX3_init 9 = .ok (.invokespecial 11, 3) := by decide +kernel
theorem dX3_init_12 : decode cX3_init 12 = .ok (.putfield 12, 3) := by decide +kernel
theorem dX3_init_15 : decode cX3_init 15 = .ok (.aload_n 0, 1) := by decide +kernel
theorem dX3_init_16 : decode cX3_init 16 = .ok (.aload_n 1, 1) := by decide +kernel
theorem dX3_init_17 : decode cX3_init 17 = .ok (.putfield 18, 3) := by decide +kernel
theorem dX3_init_20 : decode cX3_init 20 = .ok (.return_, 1) := by decide +kernel
theorem dX3_read_0 : decode cX3_read 0 = .ok (.aload_n 0, 1) := by decide +kernel
theorem dX3_read_1 : decode cX3_read 1 = .ok (.iload_n 1, 1) := by decide +kernel
theorem dX3_read_2 : decode cX3_read 2 = .ok (.putfield 22, 3) := by decide +kernel
theorem dX3_read_5 : decode cX3_read 5 = .ok (.aload_n 0, 1) := by decide +kernel
theorem dX3_read_6 : decode cX3_read 6 = .ok (.iconst 0, 1) := by decide +kernel
theorem dX3_read_7 : decode cX3_read 7 = .ok (.putfield 26, 3) := by decide +kernel
theorem dX3_read_10 : decode cX3_read 10 = .ok (.aload_n 0, 1) := by decide +kernel
theorem dX3_read_11 : decode cX3_read 11 = .ok (.getfield 12, 3) := by decide +kernel
theorem dX3_read_14 : decode cX3_read 14 = .ok (.invokevirtual 30, 3) := by decide +kernel
theorem dX3_read_17 : decode cX3_read 17 = .ok (.aload_n 0, 1) := by decide +kernel
theorem dX3_read_18 : decode cX3_read 18 = .ok (.getfield 18, 3) := by decide +kernel
theorem dX3_read_21 : decode cX3_read 21 = .ok (.invokevirtual 33, 3) := by decide +kernel
theorem dX3_read_24 : decode cX3_read 24 = .ok (.iconst 0, 1) := by decide +kernel
theorem dX3_read_25 : decode cX3_read 25 = .ok (.istore_n 2, 1) := by decide +kernel
theorem dX3_read_26 : decode cX3_read 26 = .ok (.iload_n 2, 1) := by decide +kernel
theorem dX3_read_27 : decode cX3_read 27 = .ok (.bipush 12, 2) := by decide +kernel
theorem dX3_read_29 : decode cX3_read 29 = .ok (.if_icmp .ge 63, 3) := by decide +kernel
theorem dX3_read_32 : decode cX3_read 32 = .ok (.iload_n 1, 1) := by decide +kernel
theorem dX3_read_33 : decode cX3_read 33 = .ok (.ifCond .eq 10, 3) := by decide +kernel
theorem dX3_read_36 : decode cX3_read 36 = .ok (.aload_n 0, 1) := by decide +kernel
theorem dX3_read_37 : decode cX3_read 37 = .ok (.invokevirtual 38, 3) := by decide +kernel
theorem dX3_read_40 : decode cX3_read 40 = .ok (.goto 7, 3) := by decide +kernel
theorem dX3_read_43 : decode cX3_read 43 = .ok (.aload_n 0, 1) := by decide +kernel
theorem dX3_read_44 : decode cX3_read 44 = .ok (.invokevirtual 42, 3) := by decide +kernel
theorem dX3_read_47 : decode cX3_read 47 = .ok (.istore_n 3, 1) := by decide +kernel
theorem dX3_read_48 : decode cX3_read 48 = .ok (.iload_n 3, 1) := by decide +kernel
theorem dX3_read_49 : decode cX3_read 49 = .ok (.ifCond .eq 16, 3) := by decide +kernel
theorem dX3_read_52 : decode cX3_read 52 = .ok (.aload_n 0, 1) := by decide +kernel
theorem dX3_read_53 : decode cX3_read 53 = .ok (.getfield 18, 3) := by decide +kernel
theorem dX3_read_56 : decode cX3_read 56 = .ok (.getfield 45, 3) := by decide +kernel
theorem dX3_read_59 : decode cX3_read 59 = .ok (.iconst 4, 1) := by decide +kernel
theorem dX3_read_60 : decode cX3_read 60 = .ok (.if_icmp .ne 5, 3) := by decide +kernel
theorem dX3_read_63 : decode cX3_read 63 = .ok (.iconst (-1), 1) := by decide +kernel
theorem dX3_read_64 : decode cX3_read 64 = .ok (.ireturn, 1) := by decide +kernel
theorem dX3_read_65 : decode cX3_read 65 = .ok (.iload_n 3, 1) := by decide +kernel
theorem dX3_read_66 : decode cX3_read 66 = .ok (.ifCond .eq 12, 3) := by decide +kernel
theorem dX3_read_69 : decode cX3_read 69 = .ok (.aload_n 0, 1) := by decide +kernel
theorem dX3_read_70 : decode cX3_read 70 = .ok (.bipush 59, 2) := by decide +kernel
theorem dX3_read_72 : decode cX3_read 72 = .ok (.invokevirtual 48, 3) := by decide +kernel
theorem dX3_read_75 : decode cX3_read 75 = .ok (.ifCond .ne 11, 3) := by decide +kernel
theorem dX3_read_78 : decode cX3_read 78 = .ok (.aload_n 0, 1) := by decide +kernel
theorem dX3_read_79 : decode cX3_read 79 = .ok (.getfield 18, 3) := by decide +kernel
theorem dX3_read_82 : decode cX3_read 82 = .ok (.getfield 52, 3) := by decide +kernel
theorem dX3_read_85 : decode cX3_read 85 = .ok (.ireturn, 1) := by decide +kernel
theorem dX3_read_86 : decode cX3_read 86 = .ok (.iinc 2 1, 3) := by decide +kernel
theorem dX3_read_89 : decode cX3_read 89 = .ok (.goto (-63), 3) := by decide +kernel
theorem dX3_read_92 : decode cX3_read 92 = .ok (.aload_n 0, 1) := by decide +kernel
theorem dX3_read_93 : decode cX3_read 93 = .ok (.getfield 18, 3) := by decide +kernel
theorem dX3_read_96 : decode cX3_read 96 = .ok (.getfield 52, 3) := by decide +kernel
theorem dX3_read_99 : decode cX3_read 99 = .ok (.ireturn, 1) := by decide +kernel
theorem dX3_readRule_0 : decode cX3_readRule 0 = .ok (.aload_n 0, 1) := by decide +kernel
theorem dX3_readRule_1 : decode cX3_readRule 1 = .ok (.getfield 18, 3) := by decide +kernel
theorem dX3_readRule_4 : decode cX3_readRule 4 = .ok (.ldc 55, 2) := by decide +kernel
theorem dX3_readRule_6 : decode cX3_readRule 6 = .ok (.invokevirtual 57, 3) := by decide +kernel
theorem dX3_readRule_9 : decode cX3_readRule 9 = .ok (.istore_n 1, 1) := by decide +kernel
theorem dX3_readRule_10 : decode cX3_readRule 10 = .ok (.iload_n 1, 1) := by decide +kernel
theorem dX3_readRule_11 : decode cX3_readRule 11 = .ok (.iconst (-1), 1) := by decide +kernel
theorem dX3_readRule_12 : decode cX3_readRule 12 = .ok (.if_icmp .ne 5, 3) := by decide +kernel
theorem dX3_readRule_15 : decode cX3_readRule 15 = .ok (.iconst 0, 1) := by decide +kernel
theorem dX3_readRule_16 : decode cX3_readRule 16 = .ok (.ireturn, 1) := by decide +kernel
theorem dX3_readRule_17 : decode cX3_readRule 17 = .ok (.aload_n 0, 1) := by decide +kernel
theorem dX3_readRule_18 : decode cX3_readRule 18 = .ok (.getfield 12, 3) := by decide +kernel
theorem dX3_readRule_21 : decode cX3_readRule 21 = .ok (.iload_n 1, 1) := by decide +kernel
theorem dX3_readRule_22 : decode cX3_readRule 22 = .ok (.invokevirtual 61, 3) := by decide +kernel
theorem dX3_readRule_25 : decode cX3_readRule 25 = .ok (.aload_n 0, 1) := by decide +kernel
theorem dX3_readRule_26 : decode cX3_readRule 26 = .ok (.getfield 18, 3) := by decide +kernel
theorem dX3_readRule_29 : decode cX3_readRule 29 = .ok (.invokevirtual 65, 3) := by decide +kernel
theorem dX3_readRule_32 : decode cX3_readRule 32 = .ok (.iload_n 1, 1) := by decide +kernel
theorem dX3_readRule_33 : decode cX3_readRule 33 = .ok (.iconst 2, 1) := by decide +kernel
theorem dX3_readRule_34 : decode cX3_readRule 34 = .ok (.if_icmp .eq 11, 3) := by decide +kernel
theorem dX3_readRule_37 : decode cX3_readRule 37 = .ok (.aload_n 0, 1) := by decide +kernel
theorem dX3_readRule_38 : decode cX3_readRule 38 = .ok (.iconst 0, 1) := by decide +kernel
theorem dX3_readRule_39 : decode cX3_readRule 39 = .ok (.invokevirtual 68, 3) := by decide +kernel
theorem dX3_readRule_42 : decode cX3_readRule 42 = .ok (.ifCond .eq 14, 3) := by decide +kernel
theorem dX3_readRule_45 : decode cX3_readRule 45 = .ok (.aload_n 0, 1) := by decide +kernel
theorem dX3_readRule_46 : decode cX3_readRule 46 = .ok (.invokevirtual 72, 3) := by decide +kernel
theorem dX3_readRule_49 : decode cX3_readRule 49 = .ok (.ifCond .eq 7, 3) := by decide +kernel
theorem dX3_readRule_52 : decode cX3_readRule 52 = .ok (.iconst 1, 1) := by decide +kernel
theorem dX3_readRule_53 : decode cX3_readRule 53 = .ok (.goto 4, 3) := by decide +kernel
theorem dX3_readRule_56 : decode cX3_readRule 56 = .ok (.iconst 0, 1) := by decide +kernel
theorem dX3_readRule_57 : decode cX3_readRule 57 = .ok (.ireturn, 1) := by decide +kernel
theorem dX3_readOrder_0 : decode cX3_readOrder 0 = .ok (.aload_n 0, 1) := by decide +kernel
theorem dX3_readOrder_1 : decode cX3_readOrder 1 = .ok (.getfield 18, 3) := by decide +kernel
theorem dX3_readOrder_4 : decode cX3_readOrder 4 = .ok (.ldc 75, 2) := by decide +kernel
theorem dX3_readOrder_6 : decode cX3_readOrder 6 = .ok (.invokevirtual 57, 3) := by decide +kernel
theorem dX3_readOrder_9 : decode cX3_readOrder 9 = .ok (.istore_n 1, 1) := by decide +kernel
theorem dX3_readOrder_10 : decode cX3_readOrder 10 = .ok (.iload_n 1, 1) := by decide +kernel
theorem dX3_readOrder_11 : decode cX3_readOrder 11 = .ok (.iconst (-1), 1) := by decide +kernel
theorem dX3_readOrder_12 : decode cX3_readOrder 12 = .ok (.if_icmp .ne 5, 3) := by decide +kernel
theorem dX3_readOrder_15 : decode cX3_readOrder 15 = .ok (.iconst 0, 1) := by decide +kernel
theorem dX3_readOrder_16 : decode cX3_readOrder 16 = .ok (.ireturn, 1) := by decide +kernel
theorem dX3_readOrder_17 : decode cX3_readOrder 17 = .ok (.aload_n 0, 1) := by decide +kernel
theorem dX3_readOrder_18 : decode cX3_readOrder 18 = .ok (.getfield 12, 3) := by decide +kernel
theorem dX3_readOrder_21 : decode cX3_readOrder 21 = .ok (.iload_n 1, 1) := by decide +kernel
theorem dX3_readOrder_22 : decode cX3_readOrder 22 = .ok (.invokevirtual 61, 3) := by decide +kernel
theorem dX3_readOrder_25 : decode cX3_readOrder 25 = .ok (.aload_n 0, 1) := by decide +kernel
theorem dX3_readOrder_26 : decode cX3_readOrder 26 = .ok (.getfield 18, 3) := by decide +kernel
theorem dX3_readOrder_29 : decode cX3_readOrder 29 = .ok (.invokevirtual 65, 3) := by decide +kernel
theorem dX3_readOrder_32 : decode cX3_readOrder 32 = .ok (.aload_n 0, 1) := by decide +kernel
theorem dX3_readOrder_33 : decode cX3_readOrder 33 = .ok (.iconst 0, 1) := by decide +kernel
theorem dX3_readOrder_34 : decode cX3_readOrder 34 = .ok (.invokevirtual 68, 3) := by decide +kernel
theorem dX3_readOrder_37 : decode cX3_readOrder 37 = .ok (.istore_n 2, 1) := by decide +kernel
theorem dX3_readOrder_38 : decode cX3_readOrder 38 = .ok (.iload_n 1, 1) := by decide +kernel
theorem dX3_readOrder_39 : decode cX3_readOrder 39 = .ok (.iconst 1, 1) := by decide +kernel
theorem dX3_readOrder_40 : decode cX3_readOrder 40 = .ok (.if_icmp .ne 50, 3) := by decide +kernel
theorem dX3_readOrder_43 : decode cX3_readOrder 43 = .ok (.iload_n 2, 1) := by decide +kernel
theorem dX3_readOrder_44 : decode cX3_readOrder 44 = .ok (.ifCond .eq 41, 3) := by decide +kernel
theorem dX3_readOrder_47 : decode cX3_readOrder 47 = .ok (.aload_n 0, 1) := by decide +kernel
theorem dX3_readOrder_48 : decode cX3_readOrder 48 = .ok (.ldc 77, 2) := by decide +kernel
theorem dX3_readOrder_50 : decode cX3_readOrder 50 = .ok (.invokevirtual 79, 3) := by decide +kernel
theorem dX3_readOrder_53 : decode cX3_readOrder 53 = .ok (.ifCond .eq 32, 3) := by decide +kernel
theorem dX3_readOrder_56 : decode cX3_readOrder 56 = .ok (.aload_n 0, 1) := by decide +kernel
theorem dX3_readOrder_57 : decode cX3_readOrder 57 = .ok (.iconst 1, 1) := by decide +kernel
theorem dX3_readOrder_58 : decode cX3_readOrder 58 = .ok (.invokevirtual 68, 3) := by decide +kernel
theorem dX3_readOrder_61 : decode cX3_readOrder 61 = .ok (.ifCond .eq 24, 3) := by decide +kernel
theorem dX3_readOrder_64 : decode cX3_readOrder 64 = .ok (.aload_n 0, 1) := by decide +kernel
theorem dX3_readOrder_65 : decode cX3_readOrder 65 = .ok (.ldc 83, 2) := by decide +kernel
theorem dX3_readOrder_67 : decode cX3_readOrder 67 = .ok (.invokevirtual 79, 3) := by decide +kernel
theorem dX3_readOrder_70 : decode cX3_readOrder 70 = .ok (.ifCond .eq 15, 3) := by decide +kernel
theorem dX3_readOrder_73 : decode cX3_readOrder 73 = .ok (.aload_n 0, 1) := by decide +kernel
theorem dX3_readOrder_74 : decode cX3_readOrder 74 = .ok (.iconst 2, 1) := by decide +kernel
theorem dX3_readOrder_75 : decode cX3_readOrder 75 = .ok (.invokevirtual 68, 3) := by decide +kernel
theorem dX3_readOrder_78 : decode cX3_readOrder 78 = .ok (.ifCond .eq 7, 3) := by decide +kernel
theorem dX3_readOrder_81 : decode cX3_readOrder 81 = .ok (.iconst 1, 1) := by decide +kernel
theorem dX3_readOrder_82 : decode cX3_readOrder 82 = .ok (.goto 4, 3) := by decide +kernel
theorem dX3_readOrder_85 : decode cX3_readOrder 85 = .ok (.iconst 0, 1) := by decide +kernel
theorem dX3_readOrder_86 : decode cX3_readOrder 86 = .ok (.istore_n 2, 1) := by decide +kernel
theorem dX3_readOrder_87 : decode cX3_readOrder 87 = .ok (.goto 35, 3) := by decide +kernel
theorem dX3_readOrder_90 : decode cX3_readOrder 90 = .ok (.iload_n 1, 1) := by decide +kernel
theorem dX3_readOrder_91 : decode cX3_readOrder 91 = .ok (.iconst 2, 1) := by decide +kernel
theorem dX3_readOrder_92 : decode cX3_readOrder 92 = .ok (.if_icmp .ne 30, 3) := by decide +kernel
theorem dX3_readOrder_95 : decode cX3_readOrder 95 = .ok (.iload_n 2, 1) := by decide +kernel
theorem dX3_readOrder_96 : decode cX3_readOrder 96 = .ok (.ifCond .eq 24, 3) := by decide +kernel
theorem dX3_readOrder_99 : decode cX3_readOrder 99 = .ok (.aload_n 0, 1) := by decide +kernel
theorem dX3_readOrder_100 : decode cX3_readOrder 100 = .ok (.ldc 83, 2) := by decide +kernel
theorem dX3_readOrder_102 : decode cX3_readOrder 102 = .ok (.invokevirtual 79, 3) := by decide +kernel
theorem dX3_readOrder_105 : decode cX3_readOrder 105 = .ok (.ifCond .eq 15, 3) := by decide +kernel
theorem dX3_readOrder_108 : decode cX3_readOrder 108 = .ok (.aload_n 0, 1) := by decide +kernel
theorem dX3_readOrder_109 : decode cX3_readOrder 109 = .ok (.iconst 1, 1) := by decide +kernel
theorem dX3_readOrder_110 : decode cX3_readOrder 110 = .ok (.invokevirtual 68, 3) := by decide +kernel
theorem dX3_readOrder_113 : decode cX3_readOrder 113 = .ok (.ifCond .eq 7, 3) := by decide +kernel
theorem dX3_readOrder_116 : decode cX3_readOrder 116 = .ok (.iconst 1, 1) := by decide +kernel
theorem dX3_readOrder_117 : decode cX3_readOrder 117 = .ok (.goto 4, 3) := by decide +kernel
theorem dX3_readOrder_120 : decode cX3_readOrder 120 = .ok (.iconst 0, 1) := by decide +kernel
theorem dX3_readOrder_121 : decode cX3_readOrder 121 = .ok (.istore_n 2, 1) := by decide +kernel
theorem dX3_readOrder_122 : decode cX3_readOrder 122 = .ok (.iload_n 2, 1) := by decide +kernel
theorem dX3_readOrder_123 : decode cX3_readOrder 123 = .ok (.ifCond .eq 21, 3) := by decide +kernel
theorem dX3_readOrder_126 : decode cX3_readOrder 126 = .ok (.aload_n 0, 1) := by decide +kernel
theorem dX3_readOrder_127 : decode cX3_readOrder 127 = .ok (.invokevirtual 85, 3) := by decide +kernel
theorem dX3_readOrder_130 : decode cX3_readOrder 130 = .ok (.ifCond .eq 14, 3) := by decide +kernel
theorem dX3_readOrder_133 : decode cX3_readOrder 133 = .ok (.aload_n 0, 1) := by decide +kernel
theorem dX3_readOrder_134 : decode cX3_readOrder 134 = .ok (.invokevirtual 72, 3) := by decide +kernel
theorem dX3_readOrder_137 : decode cX3_readOrder 137 = .ok (.ifCond .eq 7, 3) := by decide +kernel
theorem dX3_readOrder_140 : decode cX3_readOrder 140 = .ok (.iconst 1, 1) := by decide +kernel
theorem dX3_readOrder_141 : decode cX3_readOrder 141 = .ok (.goto 4, 3) := by decide +kernel
theorem dX3_readOrder_144 : decode cX3_readOrder 144 = .ok (.iconst 0, 1) := by decide +kernel
theorem dX3_readOrder_145 : decode cX3_readOrder 145 = .ok (.ireturn, 1) := by decide +kernel
theorem dX3_take_0 : decode cX3_take 0 = .ok (.aload_n 0, 1) := by decide +kernel
theorem dX3_take_1 : decode cX3_take 1 = .ok (.getfield 18, 3) := by decide +kernel
theorem dX3_take_4 : decode cX3_take 4 = .ok (.aload_n 1, 1) := by decide +kernel
theorem dX3_take_5 : decode cX3_take 5 = .ok (.invokevirtual 88, 3) := by decide +kernel
theorem dX3_take_8 : decode cX3_take 8 = .ok (.ifCond .ne 5, 3) := by decide +kernel
theorem dX3_take_11 : decode cX3_take 11 = .ok (.iconst 0, 1) := by decide +kernel
theorem dX3_take_12 : decode cX3_take 12 = .ok (.ireturn, 1) := by decide +kernel
theorem dX3_take_13 : decode cX3_take 13 = .ok (.aload_n 0, 1) := by decide +kernel
theorem dX3_take_14 : decode cX3_take 14 = .ok (.getfield 18, 3) := by decide +kernel
theorem dX3_take_17 : decode cX3_take 17 = .ok (.invokevirtual 65, 3) := by decide +kernel
theorem dX3_take_20 : decode cX3_take 20 = .ok (.iconst 1, 1) := by decide +kernel
theorem dX3_take_21 : decode cX3_take 21 = .ok (.ireturn, 1) := by decide +kernel
theorem dX3_takeSign_0 : decode cX3_takeSign 0 = .ok (.aload_n 0, 1) := by decide +kernel
theorem dX3_takeSign_1 : decode cX3_takeSign 1 = .ok (.getfield 18, 3) := by decide +kernel
theorem dX3_takeSign_4 : decode cX3_takeSign 4 = .ok (.iload_n 1, 1) := by decide +kernel
theorem dX3_takeSign_5 : decode cX3_takeSign 5 = .ok (.invokevirtual 91, 3) := by decide +kernel
theorem dX3_takeSign_8 : decode cX3_takeSign 8 = .ok (.ifCond .ne 5, 3) := by decide +kernel
theorem dX3_takeSign_11 : decode cX3_takeSign 11 = .ok (.iconst 0, 1) := by decide +kernel
theorem dX3_takeSign_12 : decode cX3_takeSign 12 = .ok (.ireturn, 1) := by decide +kernel
theorem dX3_takeSign_13 : decode cX3_takeSign 13 = .ok (.aload_n 0, 1) := by decide +kernel
theorem dX3_takeSign_14 : decode cX3_takeSign 14 = .ok (.getfield 18, 3) := by decide +kernel
theorem dX3_takeSign_17 : decode cX3_takeSign 17 = .ok (.invokevirtual 65, 3) := by decide +kernel
theorem dX3_takeSign_20 : decode cX3_takeSign 20 = .ok (.iconst 1, 1) := by decide +kernel
theorem dX3_takeSign_21 : decode cX3_takeSign 21 = .ok (.ireturn, 1) := by decide +kernel
theorem dX3_readTimes_0 : decode cX3_readTimes 0 = .ok (.aload_n 0, 1) := by decide +kernel
theorem dX3_readTimes_1 : decode cX3_readTimes 1 = .ok (.ldc 94, 2) := by decide +kernel
theorem dX3_readTimes_3 : decode cX3_readTimes 3 = .ok (.invokevirtual 79, 3) := by decide +kernel
theorem dX3_readTimes_6 : decode cX3_readTimes 6 = .ok (.ifCond .ne 5, 3) := by decide +kernel
theorem dX3_readTimes_9 : decode cX3_readTimes 9 = .ok (.iconst 1, 1) := by decide +kernel
theorem dX3_readTimes_10 : decode cX3_readTimes 10 = .ok (.ireturn, 1) := by decide +kernel
theorem dX3_readTimes_11 : decode cX3_readTimes 11 = .ok (.aload_n 0, 1) := by decide +kernel
theorem dX3_readTimes_12 : decode cX3_readTimes 12 = .ok (.getfield 18, 3) := by decide +kernel
theorem dX3_readTimes_15 : decode cX3_readTimes 15 = .ok (.invokevirtual 96, 3) := by decide +kernel
theorem dX3_readTimes_18 : decode cX3_readTimes 18 = .ok (.istore_n 1, 1) := by decide +kernel
theorem dX3_readTimes_19 : decode cX3_readTimes 19 = .ok (.iload_n 1, 1) := by decide +kernel
theorem dX3_readTimes_20 : decode cX3_readTimes 20 = .ok (.iconst 1, 1) := by decide +kernel
theorem dX3_readTimes_21 : decode cX3_readTimes 21 = .ok (.if_icmp .lt 9, 3) := by decide +kernel
theorem dX3_readTimes_24 : decode cX3_readTimes 24 = .ok (.iload_n 1, 1) := by decide +kernel
theorem dX3_readTimes_25 : decode cX3_readTimes 25 = .ok (.bipush 20, 2) := by decide +kernel
theorem dX3_readTimes_27 : decode cX3_readTimes 27 = .ok (.if_icmp .le 5, 3) := by decide +kernel
theorem dX3_readTimes_30 : decode cX3_readTimes 30 = .ok (.iconst 0, 1) := by decide +kernel
theorem dX3_readTimes_31 : decode cX3_readTimes 31 = .ok (.ireturn, 1) := by decide +kernel
theorem dX3_readTimes_32 : decode cX3_readTimes 32 = .ok (.aload_n 0, 1) := by decide +kernel
theorem dX3_readTimes_33 : decode cX3_readTimes 33 = .ok (.getfield 12, 3) := by decide +kernel
theorem dX3_readTimes_36 : decode cX3_readTimes 36 = .ok (.iload_n 1, 1) := by decide +kernel
theorem dX3_readTimes_37 : decode cX3_readTimes 37 = .ok (.invokevirtual 100, 3) := by decide +kernel
theorem dX3_readTimes_40 : decode cX3_readTimes 40 = .ok (.aload_n 0, 1) := by decide +kernel
theorem dX3_readTimes_41 : decode cX3_readTimes 41 = .ok (.getfield 18, 3) := by decide +kernel
theorem dX3_readTimes_44 : decode cX3_readTimes 44 = .ok (.invokevirtual 65, 3) := by decide +kernel
theorem dX3_readTimes_47 : decode cX3_readTimes 47 = .ok (.iconst 1, 1) := by decide +kernel
theorem dX3_readTimes_48 : decode cX3_readTimes 48 = .ok (.ireturn, 1) := by decide +kernel
theorem dX3_readIf_0 : decode cX3_readIf 0 = .ok (.aload_n 0, 1) := by decide +kernel
theorem dX3_readIf_1 : decode cX3_readIf 1 = .ok (.ldc 103, 2) := by decide +kernel
theorem dX3_readIf_3 : decode cX3_readIf 3 = .ok (.invokevirtual 79, 3) := by decide +kernel
theorem dX3_readIf_6 : decode cX3_readIf 6 = .ok (.ifCond .ne 5, 3) := by decide +kernel
theorem dX3_readIf_9 : decode cX3_readIf 9 = .ok (.iconst 1, 1) := by decide +kernel
theorem dX3_readIf_10 : decode cX3_readIf 10 = .ok (.ireturn, 1) := by decide +kernel
theorem dX3_readIf_11 : decode cX3_readIf 11 = .ok (.aload_n 0, 1) := by decide +kernel
theorem dX3_readIf_12 : decode cX3_readIf 12 = .ok (.getfield 12, 3) := by decide +kernel
theorem dX3_readIf_15 : decode cX3_readIf 15 = .ok (.invokevirtual 105, 3) := by decide +kernel
theorem dX3_readIf_18 : decode cX3_readIf 18 = .ok (.aload_n 0, 1) := by decide +kernel
theorem dX3_readIf_19 : decode cX3_readIf 19 = .ok (.iconst 0, 1) := by decide +kernel
theorem dX3_readIf_20 : decode cX3_readIf 20 = .ok (.invokevirtual 108, 3) := by decide +kernel
theorem dX3_readIf_23 : decode cX3_readIf 23 = .ok (.istore_n 1, 1) := by decide +kernel
theorem dX3_readIf_24 : decode cX3_readIf 24 = .ok (.aload_n 0, 1) := by decide +kernel
theorem dX3_readIf_25 : decode cX3_readIf 25 = .ok (.getfield 12, 3) := by decide +kernel
theorem dX3_readIf_28 : decode cX3_readIf 28 = .ok (.iconst 0, 1) := by decide +kernel
theorem dX3_readIf_29 : decode cX3_readIf 29 = .ok (.iconst 0, 1) := by decide +kernel
theorem dX3_readIf_30 : decode cX3_readIf 30 = .ok (.invokevirtual 111, 3) := by decide +kernel
theorem dX3_readIf_33 : decode cX3_readIf 33 = .ok (.pop, 1) := by decide +kernel
theorem dX3_readIf_34 : decode cX3_readIf 34 = .ok (.iload_n 1, 1) := by decide +kernel
theorem dX3_readIf_35 : decode cX3_readIf 35 = .ok (.ireturn, 1) := by decide +kernel
theorem dX3_readSum_0 : decode cX3_readSum 0 = .ok (.aload_n 0, 1) := by decide +kernel
theorem dX3_readSum_1 : decode cX3_readSum 1 = .ok (.getfield 12, 3) := by decide +kernel
theorem dX3_readSum_4 : decode cX3_readSum 4 = .ok (.iload_n 1, 1) := by decide +kernel
theorem dX3_readSum_5 : decode cX3_readSum 5 = .ok (.invokevirtual 115, 3) := by decide +kernel
theorem dX3_readSum_8 : decode cX3_readSum 8 = .ok (.aload_n 0, 1) := by decide +kernel
theorem dX3_readSum_9 : decode cX3_readSum 9 = .ok (.iconst 0, 1) := by decide +kernel
theorem dX3_readSum_10 : decode cX3_readSum 10 = .ok (.invokevirtual 118, 3) := by decide +kernel
theorem dX3_readSum_13 : decode cX3_readSum 13 = .ok (.istore_n 2, 1) := by decide +kernel
theorem dX3_readSum_14 : decode cX3_readSum 14 = .ok (.aload_n 0, 1) := by decide +kernel
theorem dX3_readSum_15 : decode cX3_readSum 15 = .ok (.getfield 12, 3) := by decide +kernel
theorem dX3_readSum_18 : decode cX3_readSum 18 = .ok (.iconst 0, 1) := by decide +kernel
theorem dX3_readSum_19 : decode cX3_readSum 19 = .ok (.iconst 0, 1) := by decide +kernel
theorem dX3_readSum_20 : decode cX3_readSum 20 = .ok (.invokevirtual 111, 3) := by decide +kernel
theorem dX3_readSum_23 : decode cX3_readSum 23 = .ok (.pop, 1) := by decide +kernel
theorem dX3_readSum_24 : decode cX3_readSum 24 = .ok (.iload_n 2, 1) := by decide +kernel
theorem dX3_readSum_25 : decode cX3_readSum 25 = .ok (.ireturn, 1) := by decide +kernel
theorem dX3_test_0 : decode cX3_test 0 = .ok (.aload_n 0, 1) := by decide +kernel
theorem dX3_test_1 : decode cX3_test 1 = .ok (.iload_n 1, 1) := by decide +kernel
theorem dX3_test_2 : decode cX3_test 2 = .ok (.invokevirtual 121, 3) := by decide +kernel
theorem dX3_test_5 : decode cX3_test 5 = .ok (.istore_n 2, 1) := by decide +kernel
theorem dX3_test_6 : decode cX3_test 6 = .ok (.iconst 0, 1) := by decide +kernel
theorem dX3_test_7 : decode cX3_test 7 = .ok (.istore_n 3, 1) := by decide +kernel
theorem dX3_test_8 : decode cX3_test 8 = .ok (.iload_n 3, 1) := by decide +kernel
theorem dX3_test_9 : decode cX3_test 9 = .ok (.sipush 400, 3) := by decide +kernel
theorem dX3_test_12 : decode cX3_test 12 = .ok (.if_icmp .ge 59, 3) := by decide +kernel
theorem dX3_test_15 : decode cX3_test 15 = .ok (.iload_n 2, 1) := by decide +kernel
theorem dX3_test_16 : decode cX3_test 16 = .ok (.ifCond .eq 55, 3) := by decide +kernel
theorem dX3_test_19 : decode cX3_test 19 = .ok (.aload_n 0, 1) := by decide +kernel
theorem dX3_test_20 : decode cX3_test 20 = .ok (.getfield 18, 3) := by decide +kernel
theorem dX3_test_23 : decode cX3_test 23 = .ok (.ldc 124, 2) := by decide +kernel
theorem dX3_test_25 : decode cX3_test 25 = .ok (.invokevirtual 88, 3) := by decide +kernel
theorem dX3_test_28 : decode cX3_test 28 = .ok (.ifCond .eq 43, 3) := by decide +kernel
theorem dX3_test_31 : decode cX3_test 31 = .ok (.aload_n 0, 1) := by decide +kernel
theorem dX3_test_32 : decode cX3_test 32 = .ok (.getfield 18, 3) := by decide +kernel
theorem dX3_test_35 : decode cX3_test 35 = .ok (.invokevirtual 65, 3) := by decide +kernel
theorem dX3_test_38 : decode cX3_test 38 = .ok (.aload_n 0, 1) := by decide +kernel
theorem dX3_test_39 : decode cX3_test 39 = .ok (.getfield 12, 3) := by decide +kernel
theorem dX3_test_42 : decode cX3_test 42 = .ok (.bipush 12, 2) := by decide +kernel
theorem dX3_test_44 : decode cX3_test 44 = .ok (.iconst 0, 1) := by decide +kernel
theorem dX3_test_45 : decode cX3_test 45 = .ok (.invokevirtual 111, 3) := by decide +kernel
theorem dX3_test_48 : decode cX3_test 48 = .ok (.istore 4, 2) := by decide +kernel
theorem dX3_test_50 : decode cX3_test 50 = .ok (.aload_n 0, 1) := by decide +kernel
theorem dX3_test_51 : decode cX3_test 51 = .ok (.iload_n 1, 1) := by decide +kernel
theorem dX3_test_52 : decode cX3_test 52 = .ok (.invokevirtual 121, 3) := by decide +kernel
theorem dX3_test_55 : decode cX3_test 55 = .ok (.istore_n 2, 1) := by decide +kernel
theorem dX3_test_56 : decode cX3_test 56 = .ok (.aload_n 0, 1) := by decide +kernel
theorem dX3_test_57 : decode cX3_test 57 = .ok (.getfield 12, 3) := by decide +kernel
theorem dX3_test_60 : decode cX3_test 60 = .ok (.iload 4, 2) := by decide +kernel
theorem dX3_test_62 : decode cX3_test 62 = .ok (.invokevirtual 126, 3) := by decide +kernel
theorem dX3_test_65 : decode cX3_test 65 = .ok (.iinc 3 1, 3) := by decide +kernel
theorem dX3_test_68 : decode cX3_test 68 = .ok (.goto (-60), 3) := by decide +kernel
theorem dX3_test_71 : decode cX3_test 71 = .ok (.iload_n 2, 1) := by decide +kernel
theorem dX3_test_72 : decode cX3_test 72 = .ok (.ireturn, 1) := by decide +kernel
theorem dX3_both_0 : decode cX3_both 0 = .ok (.aload_n 0, 1) := by decide +kernel
theorem dX3_both_1 : decode cX3_both 1 = .ok (.iload_n 1, 1) := by decide +kernel
theorem dX3_both_2 : decode cX3_both 2 = .ok (.invokevirtual 129, 3) := by decide +kernel
theorem dX3_both_5 : decode cX3_both 5 = .ok (.istore_n 2, 1) := by decide +kernel
theorem dX3_both_6 : decode cX3_both 6 = .ok (.iconst 0, 1) := by decide +kernel
theorem dX3_both_7 : decode cX3_both 7 = .ok (.istore_n 3, 1) := by decide +kernel
theorem dX3_both_8 : decode cX3_both 8 = .ok (.iload_n 3, 1) := by decide +kernel
theorem dX3_both_9 : decode cX3_both 9 = .ok (.sipush 400, 3) := by decide +kernel
theorem dX3_both_12 : decode cX3_both 12 = .ok (.if_icmp .ge 59, 3) := by decide +kernel
theorem dX3_both_15 : decode cX3_both 15 = .ok (.iload_n 2, 1) := by decide +kernel
theorem dX3_both_16 : decode cX3_both 16 = .ok (.ifCond .eq 55, 3) := by decide +kernel
theorem dX3_both_19 : decode cX3_both 19 = .ok (.aload_n 0, 1) := by decide +kernel
theorem dX3_both_20 : decode cX3_both 20 = .ok (.getfield 18, 3) := by decide +kernel
theorem dX3_both_23 : decode cX3_both 23 = .ok (.ldc 132, 2) := by decide +kernel
theorem dX3_both_25 : decode cX3_both 25 = .ok (.invokevirtual 88, 3) := by decide +kernel
theorem dX3_both_28 : decode cX3_both 28 = .ok (.ifCond .eq 43, 3) := by decide +kernel
theorem dX3_both_31 : decode cX3_both 31 = .ok (.aload_n 0, 1) := by decide +kernel
theorem dX3_both_32 : decode cX3_both 32 = .ok (.getfield 18, 3) := by decide +kernel
theorem dX3_both_35 : decode cX3_both 35 = .ok (.invokevirtual 65, 3) := by decide +kernel
theorem dX3_both_38 : decode cX3_both 38 = .ok (.aload_n 0, 1) := by decide +kernel
theorem dX3_both_39 : decode cX3_both 39 = .ok (.getfield 12, 3) := by decide +kernel
theorem dX3_both_42 : decode cX3_both 42 = .ok (.bipush 13, 2) := by decide +kernel
theorem dX3_both_44 : decode cX3_both 44 = .ok (.iconst 0, 1) := by decide +kernel
theorem dX3_both_45 : decode cX3_both 45 = .ok (.invokevirtual 111, 3) := by decide +kernel
theorem dX3_both_48 : decode cX3_both 48 = .ok (.istore 4, 2) := by decide +kernel
theorem dX3_both_50 : decode cX3_both 50 = .ok (.aload_n 0, 1) := by decide +kernel
theorem dX3_both_51 : decode cX3_both 51 = .ok (.iload_n 1, 1) := by decide +kernel
theorem dX3_both_52 : decode cX3_both 52 = .ok (.invokevirtual 129, 3) := by decide +kernel
theorem dX3_both_55 : decode cX3_both 55 = .ok (.istore_n 2, 1) := by decide +kernel
theorem dX3_both_56 : decode cX3_both 56 = .ok (.aload_n 0, 1) := by decide +kernel
theorem dX3_both_57 : decode cX3_both 57 = .ok (.getfield 12, 3) := by decide +kernel
theorem dX3_both_60 : decode cX3_both 60 = .ok (.iload 4, 2) := by decide +kernel
theorem dX3_both_62 : decode cX3_both 62 = .ok (.invokevirtual 126, 3) := by decide +kernel
theorem dX3_both_65 : decode cX3_both 65 = .ok (.iinc 3 1, 3) := by decide +kernel
theorem dX3_both_68 : decode cX3_both 68 = .ok (.goto (-60), 3) := by decide +kernel
theorem dX3_both_71 : decode cX3_both 71 = .ok (.iload_n 2, 1) := by decide +kernel
theorem dX3_both_72 : decode cX3_both 72 = .ok (.ireturn, 1) := by decide +kernel
theorem dX3_plain_0 : decode cX3_plain 0 = .ok (.iconst 0, 1) := by decide +kernel
theorem dX3_plain_1 : decode cX3_plain 1 = .ok (.istore_n 2, 1) := by decide +kernel
theorem dX3_plain_2 : decode cX3_plain 2 = .ok (.iconst 0, 1) := by decide +kernel
theorem dX3_plain_3 : decode cX3_plain 3 = .ok (.istore_n 3, 1) := by decide +kernel
theorem dX3_plain_4 : decode cX3_plain 4 = .ok (.iload_n 3, 1) := by decide +kernel
theorem dX3_plain_5 : decode cX3_plain 5 = .ok (.sipush 400, 3) := by decide +kernel
theorem dX3_plain_8 : decode cX3_plain 8 = .ok (.if_icmp .ge 38, 3) := by decide +kernel
theorem dX3_plain_11 : decode cX3_plain 11 = .ok (.aload_n 0, 1) := by decide +kernel
theorem dX3_plain_12 : decode cX3_plain 12 = .ok (.getfield 18, 3) := by decide +kernel
theorem dX3_plain_15 : decode cX3_plain 15 = .ok (.ldc 134, 2) := by decide +kernel
theorem dX3_plain_17 : decode cX3_plain 17 = .ok (.invokevirtual 88, 3) := by decide +kernel
theorem dX3_plain_20 : decode cX3_plain 20 = .ok (.ifCond .eq 26, 3) := by decide +kernel
theorem dX3_plain_23 : decode cX3_plain 23 = .ok (.iload_n 2, 1) := by decide +kernel
theorem dX3_plain_24 : decode cX3_plain 24 = .ok (.ifCond .ne 7, 3) := by decide +kernel
theorem dX3_plain_27 : decode cX3_plain 27 = .ok (.iconst 1, 1) := by decide +kernel
theorem dX3_plain_28 : decode cX3_plain 28 = .ok (.goto 4, 3) := by decide +kernel
theorem dX3_plain_31 : decode cX3_plain 31 = .ok (.iconst 0, 1) := by decide +kernel
theorem dX3_plain_32 : decode cX3_plain 32 = .ok (.istore_n 2, 1) := by decide +kernel
theorem dX3_plain_33 : decode cX3_plain 33 = .ok (.aload_n 0, 1) := by decide +kernel
theorem dX3_plain_34 : decode cX3_plain 34 = .ok (.getfield 18, 3) := by decide +kernel
theorem dX3_plain_37 : decode cX3_plain 37 = .ok (.invokevirtual 65, 3) := by decide +kernel
theorem dX3_plain_40 : decode cX3_plain 40 = .ok (.iinc 3 1, 3) := by decide +kernel
theorem dX3_plain_43 : decode cX3_plain 43 = .ok (.goto (-39), 3) := by decide +kernel
theorem dX3_plain_46 : decode cX3_plain 46 = .ok (.aload_n 0, 1) := by decide +kernel
theorem dX3_plain_47 : decode cX3_plain 47 = .ok (.getfield 18, 3) := by decide +kernel
theorem dX3_plain_50 : decode cX3_plain 50 = .ok (.bipush 40, 2) := by decide +kernel
theorem dX3_plain_52 : decode cX3_plain 52 = .ok (.invokevirtual 91, 3) := by decide +kernel
theorem dX3_plain_55 : decode cX3_plain 55 = .ok (.ifCond .eq 46, 3) := by decide +kernel
theorem dX3_plain_58 : decode cX3_plain 58 = .ok (.iload_n 1, 1) := by decide +kernel
theorem dX3_plain_59 : decode cX3_plain 59 = .ok (.bipush 8, 2) := by decide +kernel
theorem dX3_plain_61 : decode cX3_plain 61 = .ok (.if_icmp .ge 35, 3) := by decide +kernel
theorem dX3_plain_64 : decode cX3_plain 64 = .ok (.aload_n 0, 1) := by decide +kernel
theorem dX3_plain_65 : decode cX3_plain 65 = .ok (.bipush 40, 2) := by decide +kernel
theorem dX3_plain_67 : decode cX3_plain 67 = .ok (.invokevirtual 48, 3) := by decide +kernel
theorem dX3_plain_70 : decode cX3_plain 70 = .ok (.ifCond .eq 26, 3) := by decide +kernel
theorem dX3_plain_73 : decode cX3_plain 73 = .ok (.aload_n 0, 1) := by decide +kernel
theorem dX3_plain_74 : decode cX3_plain 74 = .ok (.iload_n 1, 1) := by decide +kernel
theorem dX3_plain_75 : decode cX3_plain 75 = .ok (.iconst 1, 1) := by decide +kernel
theorem dX3_plain_76 : decode cX3_plain 76 = .ok (.iadd, 1) := by decide +kernel
theorem dX3_plain_77 : decode cX3_plain 77 = .ok (.invokevirtual 108, 3) := by decide +kernel
theorem dX3_plain_80 : decode cX3_plain 80 = .ok (.ifCond .eq 16, 3) := by decide +kernel
theorem dX3_plain_83 : decode cX3_plain 83 = .ok (.aload_n 0, 1) := by decide +kernel
theorem dX3_plain_84 : decode cX3_plain 84 = .ok (.bipush 41, 2) := by decide +kernel
theorem dX3_plain_86 : decode cX3_plain 86 = .ok (.invokevirtual 48, 3) := by decide +kernel
theorem dX3_plain_89 : decode cX3_plain 89 = .ok (.ifCond .eq 7, 3) := by decide +kernel
theorem dX3_plain_92 : decode cX3_plain 92 = .ok (.iconst 1, 1) := by decide +kernel
theorem dX3_plain_93 : decode cX3_plain 93 = .ok (.goto 4, 3) := by decide +kernel
theorem dX3_plain_96 : decode cX3_plain 96 = .ok (.iconst 0, 1) := by decide +kernel
theorem dX3_plain_97 : decode cX3_plain 97 = .ok (.istore_n 3, 1) := by decide +kernel
theorem dX3_plain_98 : decode cX3_plain 98 = .ok (.goto 56, 3) := by decide +kernel
theorem dX3_plain_101 : decode cX3_plain 101 = .ok (.aload_n 0, 1) := by decide +kernel
theorem dX3_plain_102 : decode cX3_plain 102 = .ok (.iload_n 1, 1) := by decide +kernel
theorem dX3_plain_103 : decode cX3_plain 103 = .ok (.invokevirtual 118, 3) := by decide +kernel
theorem dX3_plain_106 : decode cX3_plain 106 = .ok (.ifCond .eq 10, 3) := by decide +kernel
theorem dX3_plain_109 : decode cX3_plain 109 = .ok (.aload_n 0, 1) := by decide +kernel
theorem dX3_plain_110 : decode cX3_plain 110 = .ok (.invokevirtual 136, 3) := by decide +kernel
theorem dX3_plain_113 : decode cX3_plain 113 = .ok (.goto 4, 3) := by decide +kernel
theorem dX3_plain_116 : decode cX3_plain 116 = .ok (.iconst (-1), 1) := by decide +kernel
theorem dX3_plain_117 : decode cX3_plain 117 = .ok (.istore 4, 2) := by decide +kernel
theorem dX3_plain_119 : decode cX3_plain 119 = .ok (.iload 4, 2) := by decide +kernel
theorem dX3_plain_121 : decode cX3_plain 121 = .ok (.iconst (-1), 1) := by decide +kernel
theorem dX3_plain_122 : decode cX3_plain 122 = .ok (.if_icmp .eq 15, 3) := by decide +kernel
theorem dX3_plain_125 : decode cX3_plain 125 = .ok (.aload_n 0, 1) := by decide +kernel
theorem dX3_plain_126 : decode cX3_plain 126 = .ok (.iload_n 1, 1) := by decide +kernel
theorem dX3_plain_127 : decode cX3_plain 127 = .ok (.invokevirtual 118, 3) := by decide +kernel
theorem dX3_plain_130 : decode cX3_plain 130 = .ok (.ifCond .eq 7, 3) := by decide +kernel
theorem dX3_plain_133 : decode cX3_plain 133 = .ok (.iconst 1, 1) := by decide +kernel
theorem dX3_plain_134 : decode cX3_plain 134 = .ok (.goto 4, 3) := by decide +kernel
theorem dX3_plain_137 : decode cX3_plain 137 = .ok (.iconst 0, 1) := by decide +kernel
theorem dX3_plain_138 : decode cX3_plain 138 = .ok (.istore_n 3, 1) := by decide +kernel
theorem dX3_plain_139 : decode cX3_plain 139 = .ok (.aload_n 0, 1) := by decide +kernel
theorem dX3_plain_140 : decode cX3_plain 140 = .ok (.getfield 12, 3) := by decide +kernel
theorem dX3_plain_143 : decode cX3_plain 143 = .ok (.iload 4, 2) := by decide +kernel
theorem dX3_plain_145 : decode cX3_plain 145 = .ok (.iconst 0, 1) := by decide +kernel
theorem dX3_plain_146 : decode cX3_plain 146 = .ok (.invokestatic 139, 3) := by decide +kernel
theorem dX3_plain_149 : decode cX3_plain 149 = .ok (.iconst 0, 1) := by decide +kernel
theorem dX3_plain_150 : decode cX3_plain 150 = .ok (.invokevirtual 111, 3) := by decide +kernel
theorem dX3_plain_153 : decode cX3_plain 153 = .ok (.pop, 1) := by decide +kernel
theorem dX3_plain_154 : decode cX3_plain 154 = .ok (.iload_n 2, 1) := by decide +kernel
theorem dX3_plain_155 : decode cX3_plain 155 = .ok (.ifCond .eq 14, 3) := by decide +kernel
theorem dX3_plain_158 : decode cX3_plain 158 = .ok (.aload_n 0, 1) := by decide +kernel
theorem dX3_plain_159 : decode cX3_plain 159 = .ok (.getfield 12, 3) := by decide +kernel
theorem dX3_plain_162 : decode cX3_plain 162 = .ok (.bipush 11, 2) := by decide +kernel
theorem dX3_plain_164 : decode cX3_plain 164 = .ok (.iconst 0, 1) := by decide +kernel
theorem dX3_plain_165 : decode cX3_plain 165 = .ok (.invokevirtual 111, 3) := by decide +kernel
theorem dX3_plain_168 : decode cX3_plain 168 = .ok (.pop, 1) := by decide +kernel
theorem dX3_plain_169 : decode cX3_plain 169 = .ok (.iload_n 3, 1) := by decide +kernel
theorem dX3_plain_170 : decode cX3_plain 170 = .ok (.ireturn, 1) := by decide +kernel
theorem dX3_comparison_0 : decode cX3_comparison 0 = .ok (.iconst (-1), 1) := by decide +kernel
theorem dX3_comparison_1 : decode cX3_comparison 1 = .ok (.istore_n 1, 1) := by decide +kernel
theorem dX3_comparison_2 : decode cX3_comparison 2 = .ok (.aload_n 0, 1) := by decide +kernel
theorem dX3_comparison_3 : decode cX3_comparison 3 = .ok (.getfield 18, 3) := by decide +kernel
theorem dX3_comparison_6 : decode cX3_comparison 6 = .ok (.bipush 60, 2) := by decide +kernel
theorem dX3_comparison_8 : decode cX3_comparison 8 = .ok (.invokevirtual 91, 3) := by decide +kernel
theorem dX3_comparison_11 : decode cX3_comparison 11 = .ok (.ifCond .eq 9, 3) := by decide +kernel
theorem dX3_comparison_14 : decode cX3_comparison 14 = .ok (.bipush 8, 2) := by decide +kernel
theorem dX3_comparison_16 : decode cX3_comparison 16 = .ok (.istore_n 1, 1) := by decide +kernel
theorem dX3_comparison_17 : decode cX3_comparison 17 = .ok (.goto 36, 3) := by decide +kernel
theorem dX3_comparison_20 : decode cX3_comparison 20 = .ok (.aload_n 0, 1) := by decide +kernel
theorem dX3_comparison_21 : decode cX3_comparison 21 = .ok (.getfield 18, 3) := by decide +kernel
theorem dX3_comparison_24 : decode cX3_comparison 24 = .ok (.bipush 62, 2) := by decide +kernel
theorem dX3_comparison_26 : decode cX3_comparison 26 = .ok (.invokevirtual 91, 3) := by decide +kernel
theorem dX3_comparison_29 : decode cX3_comparison 29 = .ok (.ifCond .eq 9, 3) := by decide +kernel
theorem dX3_comparison_32 : decode cX3_comparison 32 = .ok (.bipush 9, 2) := by decide +kernel
theorem dX3_comparison_34 : decode cX3_comparison 34 = .ok (.istore_n 1, 1) := by decide +kernel
theorem dX3_comparison_35 : decode cX3_comparison 35 = .ok (.goto 18, 3) := by decide +kernel
theorem dX3_comparison_38 : decode cX3_comparison 38 = .ok (.aload_n 0, 1) := by decide +kernel
theorem dX3_comparison_39 : decode cX3_comparison 39 = .ok (.getfield 18, 3) := by decide +kernel
theorem dX3_comparison_42 : decode cX3_comparison 42 = .ok (.bipush 61, 2) := by decide +kernel
theorem dX3_comparison_44 : decode cX3_comparison 44 = .ok (.invokevirtual 91, 3) := by decide +kernel
theorem dX3_comparison_47 : decode cX3_comparison 47 = .ok (.ifCond .eq 6, 3) := by decide +kernel
theorem dX3_comparison_50 : decode cX3_comparison 50 = .ok (.bipush 10, 2) := by decide +kernel
theorem dX3_comparison_52 : decode cX3_comparison 52 = .ok (.istore_n 1, 1) := by decide +kernel
theorem dX3_comparison_53 : decode cX3_comparison 53 = .ok (.iload_n 1, 1) := by decide +kernel
theorem dX3_comparison_54 : decode cX3_comparison 54 = .ok (.iconst (-1), 1) := by decide +kernel
theorem dX3_comparison_55 : decode cX3_comparison 55 = .ok (.if_icmp .eq 10, 3) := by decide +kernel
theorem dX3_comparison_58 : decode cX3_comparison 58 = .ok (.aload_n 0, 1) := by decide +kernel
theorem dX3_comparison_59 : decode cX3_comparison 59 = .ok (.getfield 18, 3) := by decide +kernel
theorem dX3_comparison_62 : decode cX3_comparison 62 = .ok (.invokevirtual 65, 3) := by decide +kernel
theorem dX3_comparison_65 : decode cX3_comparison 65 = .ok (.iload_n 1, 1) := by decide +kernel
theorem dX3_comparison_66 : decode cX3_comparison 66 = .ok (.ireturn, 1) := by decide +kernel
theorem dX3_sum_0 : decode cX3_sum 0 = .ok (.aload_n 0, 1) := by decide +kernel
theorem dX3_sum_1 : decode cX3_sum 1 = .ok (.iload_n 1, 1) := by decide +kernel
theorem dX3_sum_2 : decode cX3_sum 2 = .ok (.invokevirtual 144, 3) := by decide +kernel
theorem dX3_sum_5 : decode cX3_sum 5 = .ok (.istore_n 2, 1) := by decide +kernel
theorem dX3_sum_6 : decode cX3_sum 6 = .ok (.iconst 0, 1) := by decide +kernel
theorem dX3_sum_7 : decode cX3_sum 7 = .ok (.istore_n 3, 1) := by decide +kernel
theorem dX3_sum_8 : decode cX3_sum 8 = .ok (.iload_n 3, 1) := by decide +kernel
theorem dX3_sum_9 : decode cX3_sum 9 = .ok (.sipush 400, 3) := by decide +kernel
theorem dX3_sum_12 : decode cX3_sum 12 = .ok (.if_icmp .ge 80, 3) := by decide +kernel
theorem dX3_sum_15 : decode cX3_sum 15 = .ok (.iload_n 2, 1) := by decide +kernel
theorem dX3_sum_16 : decode cX3_sum 16 = .ok (.ifCond .eq 76, 3) := by decide +kernel
theorem dX3_sum_19 : decode cX3_sum 19 = .ok (.aload_n 0, 1) := by decide +kernel
theorem dX3_sum_20 : decode cX3_sum 20 = .ok (.getfield 18, 3) := by decide +kernel
theorem dX3_sum_23 : decode cX3_sum 23 = .ok (.bipush 43, 2) := by decide +kernel
theorem dX3_sum_25 : decode cX3_sum 25 = .ok (.invokevirtual 91, 3) := by decide +kernel
theorem dX3_sum_28 : decode cX3_sum 28 = .ok (.ifCond .ne 15, 3) := by decide +kernel
theorem dX3_sum_31 : decode cX3_sum 31 = .ok (.aload_n 0, 1) := by decide +kernel
theorem dX3_sum_32 : decode cX3_sum 32 = .ok (.getfield 18, 3) := by decide +kernel
theorem dX3_sum_35 : decode cX3_sum 35 = .ok (.bipush 45, 2) := by decide +kernel
theorem dX3_sum_37 : decode cX3_sum 37 = .ok (.invokevirtual 91, 3) := by decide +kernel
theorem dX3_sum_40 : decode cX3_sum 40 = .ok (.ifCond .eq 52, 3) := by decide +kernel
theorem dX3_sum_43 : decode cX3_sum 43 = .ok (.aload_n 0, 1) := by decide +kernel
theorem dX3_sum_44 : decode cX3_sum 44 = .ok (.getfield 18, 3) := by decide +kernel
theorem dX3_sum_47 : decode cX3_sum 47 = .ok (.bipush 43, 2) := by decide +kernel
theorem dX3_sum_49 : decode cX3_sum 49 = .ok (.invokevirtual 91, 3) := by decide +kernel
theorem dX3_sum_52 : decode cX3_sum 52 = .ok (.ifCond .eq 7, 3) := by decide +kernel
theorem dX3_sum_55 : decode cX3_sum 55 = .ok (.iconst 3, 1) := by decide +kernel
theorem dX3_sum_56 : decode cX3_sum 56 = .ok (.goto 4, 3) := by decide +kernel
theorem dX3_sum_59 : decode cX3_sum 59 = .ok (.iconst 4, 1) := by decide +kernel
theorem dX3_sum_60 : decode cX3_sum 60 = .ok (.istore 4, 2) := by decide +kernel
theorem dX3_sum_62 : decode cX3_sum 62 = .ok (.aload_n 0, 1) := by decide +kernel
theorem dX3_sum_63 : decode cX3_sum 63 = .ok (.getfield 18, 3) := by decide +kernel
theorem dX3_sum_66 : decode cX3_sum 66 = .ok (.invokevirtual 65, 3) := by decide +kernel
theorem dX3_sum_69 : decode cX3_sum 69 = .ok (.aload_n 0, 1) := by decide +kernel
theorem dX3_sum_70 : decode cX3_sum 70 = .ok (.iload_n 1, 1) := by decide +kernel
theorem dX3_sum_71 : decode cX3_sum 71 = .ok (.invokevirtual 144, 3) := by decide +kernel
theorem dX3_sum_74 : decode cX3_sum 74 = .ok (.istore_n 2, 1) := by decide +kernel
theorem dX3_sum_75 : decode cX3_sum 75 = .ok (.aload_n 0, 1) := by decide +kernel
theorem dX3_sum_76 : decode cX3_sum 76 = .ok (.getfield 12, 3) := by decide +kernel
theorem dX3_sum_79 : decode cX3_sum 79 = .ok (.iload 4, 2) := by decide +kernel
theorem dX3_sum_81 : decode cX3_sum 81 = .ok (.iconst 0, 1) := by decide +kernel
theorem dX3_sum_82 : decode cX3_sum 82 = .ok (.invokevirtual 111, 3) := by decide +kernel
theorem dX3_sum_85 : decode cX3_sum 85 = .ok (.pop, 1) := by decide +kernel
theorem dX3_sum_86 : decode cX3_sum 86 = .ok (.iinc 3 1, 3) := by decide +kernel
theorem dX3_sum_89 : decode cX3_sum 89 = .ok (.goto (-81), 3) := by decide +kernel
theorem dX3_sum_92 : decode cX3_sum 92 = .ok (.iload_n 2, 1) := by decide +kernel
theorem dX3_sum_93 : decode cX3_sum 93 = .ok (.ireturn, 1) := by decide +kernel
theorem dX3_term_0 : decode cX3_term 0 = .ok (.aload_n 0, 1) := by decide +kernel
theorem dX3_term_1 : decode cX3_term 1 = .ok (.iload_n 1, 1) := by decide +kernel
theorem dX3_term_2 : decode cX3_term 2 = .ok (.invokevirtual 147, 3) := by decide +kernel
theorem dX3_term_5 : decode cX3_term 5 = .ok (.istore_n 2, 1) := by decide +kernel
theorem dX3_term_6 : decode cX3_term 6 = .ok (.aload_n 0, 1) := by decide +kernel
theorem dX3_term_7 : decode cX3_term 7 = .ok (.invokevirtual 150, 3) := by decide +kernel
theorem dX3_term_10 : decode cX3_term 10 = .ok (.istore_n 3, 1) := by decide +kernel
theorem dX3_term_11 : decode cX3_term 11 = .ok (.iconst 0, 1) := by decide +kernel
theorem dX3_term_12 : decode cX3_term 12 = .ok (.istore 4, 2) := by decide +kernel
theorem dX3_term_14 : decode cX3_term 14 = .ok (.iload 4, 2) := by decide +kernel
theorem dX3_term_16 : decode cX3_term 16 = .ok (.sipush 400, 3) := by decide +kernel
theorem dX3_term_19 : decode cX3_term 19 = .ok (.if_icmp .ge 46, 3) := by decide +kernel
theorem dX3_term_22 : decode cX3_term 22 = .ok (.iload_n 2, 1) := by decide +kernel
theorem dX3_term_23 : decode cX3_term 23 = .ok (.ifCond .eq 42, 3) := by decide +kernel
theorem dX3_term_26 : decode cX3_term 26 = .ok (.iload_n 3, 1) := by decide +kernel
theorem dX3_term_27 : decode cX3_term 27 = .ok (.iconst (-1), 1) := by decide +kernel
theorem dX3_term_28 : decode cX3_term 28 = .ok (.if_icmp .eq 37, 3) := by decide +kernel
theorem dX3_term_31 : decode cX3_term 31 = .ok (.aload_n 0, 1) := by decide +kernel
theorem dX3_term_32 : decode cX3_term 32 = .ok (.getfield 18, 3) := by decide +kernel
theorem dX3_term_35 : decode cX3_term 35 = .ok (.invokevirtual 65, 3) := by decide +kernel
theorem dX3_term_38 : decode cX3_term 38 = .ok (.aload_n 0, 1) := by decide +kernel
theorem dX3_term_39 : decode cX3_term 39 = .ok (.iload_n 1, 1) := by decide +kernel
theorem dX3_term_40 : decode cX3_term 40 = .ok (.invokevirtual 147, 3) := by decide +kernel
theorem dX3_term_43 : decode cX3_term 43 = .ok (.istore_n 2, 1) := by decide +kernel
theorem dX3_term_44 : decode cX3_term 44 = .ok (.aload_n 0, 1) := by decide +kernel
theorem dX3_term_45 : decode cX3_term 45 = .ok (.getfield 12, 3) := by decide +kernel
theorem dX3_term_48 : decode cX3_term 48 = .ok (.iload_n 3, 1) := by decide +kernel
theorem dX3_term_49 : decode cX3_term 49 = .ok (.iconst 0, 1) := by decide +kernel
theorem dX3_term_50 : decode cX3_term 50 = .ok (.invokevirtual 111, 3) := by decide +kernel
theorem dX3_term_53 : decode cX3_term 53 = .ok (.pop, 1) := by decide +kernel
theorem dX3_term_54 : decode cX3_term 54 = .ok (.aload_n 0, 1) := by decide +kernel
theorem dX3_term_55 : decode cX3_term 55 = .ok (.invokevirtual 150, 3) := by decide +kernel
theorem dX3_term_58 : decode cX3_term 58 = .ok (.istore_n 3, 1) := by decide +kernel
theorem dX3_term_59 : decode cX3_term 59 = .ok (.iinc 4 1, 3) := by decide +kernel
theorem dX3_term_62 : decode cX3_term 62 = .ok (.goto (-48), 3) := by decide +kernel
theorem dX3_term_65 : decode cX3_term 65 = .ok (.iload_n 2, 1) := by decide +kernel
theorem dX3_term_66 : decode cX3_term 66 = .ok (.ireturn, 1) := by decide +kernel
theorem dX3_multiplying_0 : decode cX3_multiplying 0 = .ok (.aload_n 0, 1) := by decide +kernel
theorem dX3_multiplying_1 : decode cX3_multiplying 1 = .ok (.getfield 18, 3) := by decide +kernel
theorem dX3_multiplying_4 : decode cX3_multiplying 4 = .ok (.bipush 42, 2) := by decide +kernel
theorem dX3_multiplying_6 : decode cX3_multiplying 6 = .ok (.invokevirtual 91, 3) := by decide +kernel
theorem dX3_multiplying_9 : decode cX3_multiplying 9 = .ok (.ifCond .eq 5, 3) := by decide +kernel
theorem dX3_multiplying_12 : decode cX3_multiplying 12 = .ok (.iconst 5, 1) := by decide +kernel
theorem dX3_multiplying_13 : decode cX3_multiplying 13 = .ok (.ireturn, 1) := by decide +kernel
theorem dX3_multiplying_14 : decode cX3_multiplying 14 = .ok (.aload_n 0, 1) := by decide +kernel
theorem dX3_multiplying_15 : decode cX3_multiplying 15 = .ok (.getfield 18, 3) := by decide +kernel
theorem dX3_multiplying_18 : decode cX3_multiplying 18 = .ok (.bipush 47, 2) := by decide +kernel
theorem dX3_multiplying_20 : decode cX3_multiplying 20 = .ok (.invokevirtual 91, 3) := by decide +kernel
theorem dX3_multiplying_23 : decode cX3_multiplying 23 = .ok (.ifCond .eq 6, 3) := by decide +kernel
theorem dX3_multiplying_26 : decode cX3_multiplying 26 = .ok (.bipush 6, 2) := by decide +kernel
theorem dX3_multiplying_28 : decode cX3_multiplying 28 = .ok (.ireturn, 1) := by decide +kernel
theorem dX3_multiplying_29 : decode cX3_multiplying 29 = .ok (.aload_n 0, 1) := by decide +kernel
theorem dX3_multiplying_30 : decode cX3_multiplying 30 = .ok (.getfield 18, 3) := by decide +kernel
theorem dX3_multiplying_33 : decode cX3_multiplying 33 = .ok (.bipush 37, 2) := by decide +kernel
theorem dX3_multiplying_35 : decode cX3_multiplying 35 = .ok (.invokevirtual 91, 3) := by decide +kernel
theorem dX3_multiplying_38 : decode cX3_multiplying 38 = .ok (.ifCond .eq 8, 3) := by decide +kernel
theorem dX3_multiplying_41 : decode cX3_multiplying 41 = .ok (.bipush 7, 2) := by decide +kernel
theorem dX3_multiplying_43 : decode cX3_multiplying 43 = .ok (.goto 4, 3) := by decide +kernel
theorem dX3_multiplying_46 : decode cX3_multiplying 46 = .ok (.iconst (-1), 1) := by decide +kernel
theorem dX3_multiplying_47 : decode cX3_multiplying 47 = .ok (.ireturn, 1) := by decide +kernel
theorem dX3_part_0 : decode cX3_part 0 = .ok (.aload_n 0, 1) := by decide +kernel
theorem dX3_part_1 : decode cX3_part 1 = .ok (.getfield 18, 3) := by decide +kernel
theorem dX3_part_4 : decode cX3_part 4 = .ok (.bipush 91, 2) := by decide +kernel
theorem dX3_part_6 : decode cX3_part 6 = .ok (.invokevirtual 91, 3) := by decide +kernel
theorem dX3_part_9 : decode cX3_part 9 = .ok (.ifCond .eq 43, 3) := by decide +kernel
theorem dX3_part_12 : decode cX3_part 12 = .ok (.iload_n 1, 1) := by decide +kernel
theorem dX3_part_13 : decode cX3_part 13 = .ok (.bipush 8, 2) := by decide +kernel
theorem dX3_part_15 : decode cX3_part 15 = .ok (.if_icmp .ge 35, 3) := by decide +kernel
theorem dX3_part_18 : decode cX3_part 18 = .ok (.aload_n 0, 1) := by decide +kernel
theorem dX3_part_19 : decode cX3_part 19 = .ok (.bipush 91, 2) := by decide +kernel
theorem dX3_part_21 : decode cX3_part 21 = .ok (.invokevirtual 48, 3) := by decide +kernel
theorem dX3_part_24 : decode cX3_part 24 = .ok (.ifCond .eq 26, 3) := by decide +kernel
theorem dX3_part_27 : decode cX3_part 27 = .ok (.aload_n 0, 1) := by decide +kernel
theorem dX3_part_28 : decode cX3_part 28 = .ok (.iload_n 1, 1) := by decide +kernel
theorem dX3_part_29 : decode cX3_part 29 = .ok (.iconst 1, 1) := by decide +kernel
theorem dX3_part_30 : decode cX3_part 30 = .ok (.iadd, 1) := by decide +kernel
theorem dX3_part_31 : decode cX3_part 31 = .ok (.invokevirtual 118, 3) := by decide +kernel
theorem dX3_part_34 : decode cX3_part 34 = .ok (.ifCond .eq 16, 3) := by decide +kernel
theorem dX3_part_37 : decode cX3_part 37 = .ok (.aload_n 0, 1) := by decide +kernel
theorem dX3_part_38 : decode cX3_part 38 = .ok (.bipush 93, 2) := by decide +kernel
theorem dX3_part_40 : decode cX3_part 40 = .ok (.invokevirtual 48, 3) := by decide +kernel
theorem dX3_part_43 : decode cX3_part 43 = .ok (.ifCond .eq 7, 3) := by decide +kernel
theorem dX3_part_46 : decode cX3_part 46 = .ok (.iconst 1, 1) := by decide +kernel
theorem dX3_part_47 : decode cX3_part 47 = .ok (.goto 4, 3) := by decide +kernel
theorem dX3_part_50 : decode cX3_part 50 = .ok (.iconst 0, 1) := by decide +kernel
theorem dX3_part_51 : decode cX3_part 51 = .ok (.ireturn, 1) := by decide +kernel
theorem dX3_part_52 : decode cX3_part 52 = .ok (.aload_n 0, 1) := by decide +kernel
theorem dX3_part_53 : decode cX3_part 53 = .ok (.getfield 26, 3) := by decide +kernel
theorem dX3_part_56 : decode cX3_part 56 = .ok (.bipush 50, 2) := by decide +kernel
theorem dX3_part_58 : decode cX3_part 58 = .ok (.if_icmp .lt 5, 3) := by decide +kernel
theorem dX3_part_61 : decode cX3_part 61 = .ok (.iconst 0, 1) := by decide +kernel
theorem dX3_part_62 : decode cX3_part 62 = .ok (.ireturn, 1) := by decide +kernel
theorem dX3_part_63 : decode cX3_part 63 = .ok (.aload_n 0, 1) := by decide +kernel
theorem dX3_part_64 : decode cX3_part 64 = .ok (.dup, 1) := by decide +kernel
theorem dX3_part_65 : decode cX3_part 65 = .ok (.getfield 26, 3) := by decide +kernel
theorem dX3_part_68 : decode cX3_part 68 = .ok (.iconst 1, 1) := by decide +kernel
theorem dX3_part_69 : decode cX3_part 69 = .ok (.iadd, 1) := by decide +kernel
theorem dX3_part_70 : decode cX3_part 70 = .ok (.putfield 26, 3) := by decide +kernel
theorem dX3_part_73 : decode cX3_part 73 = .ok (.aload_n 0, 1) := by decide +kernel
theorem dX3_part_74 : decode cX3_part 74 = .ok (.getfield 18, 3) := by decide +kernel
theorem dX3_part_77 : decode cX3_part 77 = .ok (.getfield 45, 3) := by decide +kernel
theorem dX3_part_80 : decode cX3_part 80 = .ok (.iconst 2, 1) := by decide +kernel
theorem dX3_part_81 : decode cX3_part 81 = .ok (.if_icmp .ne 8, 3) := by decide +kernel
theorem dX3_part_84 : decode cX3_part 84 = .ok (.aload_n 0, 1) := by decide +kernel
theorem dX3_part_85 : decode cX3_part 85 = .ok (.invokevirtual 153, 3) := by decide +kernel
theorem dX3_part_88 : decode cX3_part 88 = .ok (.ireturn, 1) := by decide +kernel
theorem dX3_part_89 : decode cX3_part 89 = .ok (.aload_n 0, 1) := by decide +kernel
theorem dX3_part_90 : decode cX3_part 90 = .ok (.getfield 22, 3) := by decide +kernel
theorem dX3_part_93 : decode cX3_part 93 = .ok (.ifCond .eq 10, 3) := by decide +kernel
theorem dX3_part_96 : decode cX3_part 96 = .ok (.aload_n 0, 1) := by decide +kernel
theorem dX3_part_97 : decode cX3_part 97 = .ok (.invokevirtual 155, 3) := by decide +kernel
theorem dX3_part_100 : decode cX3_part 100 = .ok (.goto 7, 3) := by decide +kernel
theorem dX3_part_103 : decode cX3_part 103 = .ok (.aload_n 0, 1) := by decide +kernel
theorem dX3_part_104 : decode cX3_part 104 = .ok (.invokevirtual 158, 3) := by decide +kernel
theorem dX3_part_107 : decode cX3_part 107 = .ok (.ireturn, 1) := by decide +kernel
theorem dX3_number_0 : decode cX3_number 0 = .ok (.aload_n 0, 1) := by decide +kernel
theorem dX3_number_1 : decode cX3_number 1 = .ok (.getfield 18, 3) := by decide +kernel
theorem dX3_number_4 : decode cX3_number 4 = .ok (.invokevirtual 96, 3) := by decide +kernel
theorem dX3_number_7 : decode cX3_number 7 = .ok (.istore_n 1, 1) := by decide +kernel
theorem dX3_number_8 : decode cX3_number 8 = .ok (.iload_n 1, 1) := by decide +kernel
theorem dX3_number_9 : decode cX3_number 9 = .ok (.ifCond .lt 10, 3) := by decide +kernel
theorem dX3_number_12 : decode cX3_number 12 = .ok (.iload_n 1, 1) := by decide +kernel
theorem dX3_number_13 : decode cX3_number 13 = .ok (.sipush 1000, 3) := by decide +kernel
theorem dX3_number_16 : decode cX3_number 16 = .ok (.if_icmp .le 5, 3) := by decide +kernel
theorem dX3_number_19 : decode cX3_number 19 = .ok (.iconst 0, 1) := by decide +kernel
theorem dX3_number_20 : decode cX3_number 20 = .ok (.ireturn, 1) := by decide +kernel
theorem dX3_number_21 : decode cX3_number 21 = .ok (.aload_n 0, 1) := by decide +kernel
theorem dX3_number_22 : decode cX3_number 22 = .ok (.getfield 12, 3) := by decide +kernel
theorem dX3_number_25 : decode cX3_number 25 = .ok (.iconst 1, 1) := by decide +kernel
theorem dX3_number_26 : decode cX3_number 26 = .ok (.iload_n 1, 1) := by decide +kernel
theorem dX3_number_27 : decode cX3_number 27 = .ok (.invokevirtual 111, 3) := by decide +kernel
theorem dX3_number_30 : decode cX3_number 30 = .ok (.pop, 1) := by decide +kernel
theorem dX3_number_31 : decode cX3_number 31 = .ok (.aload_n 0, 1) := by decide +kernel
theorem dX3_number_32 : decode cX3_number 32 = .ok (.getfield 18, 3) := by decide +kernel
theorem dX3_number_35 : decode cX3_number 35 = .ok (.invokevirtual 65, 3) := by decide +kernel
theorem dX3_number_38 : decode cX3_number 38 = .ok (.iconst 1, 1) := by decide +kernel
theorem dX3_number_39 : decode cX3_number 39 = .ok (.ireturn, 1) := by decide +kernel
theorem dX3_lawWord_0 : decode cX3_lawWord 0 = .ok (.aload_n 0, 1) := by decide +kernel
theorem dX3_lawWord_1 : decode cX3_lawWord 1 = .ok (.getfield 18, 3) := by decide +kernel
theorem dX3_lawWord_4 : decode cX3_lawWord 4 = .ok (.ldc 161, 2) := by decide +kernel
theorem dX3_lawWord_6 : decode cX3_lawWord 6 = .ok (.invokevirtual 57, 3) := by decide +kernel
theorem dX3_lawWord_9 : decode cX3_lawWord 9 = .ok (.istore_n 1, 1) := by decide +kernel
theorem dX3_lawWord_10 : decode cX3_lawWord 10 = .ok (.iload_n 1, 1) := by decide +kernel
theorem dX3_lawWord_11 : decode cX3_lawWord 11 = .ok (.iconst (-1), 1) := by decide +kernel
theorem dX3_lawWord_12 : decode cX3_lawWord 12 = .ok (.if_icmp .ne 5, 3) := by decide +kernel
theorem dX3_lawWord_15 : decode cX3_lawWord 15 = .ok (.iconst 0, 1) := by decide +kernel
theorem dX3_lawWord_16 : decode cX3_lawWord 16 = .ok (.ireturn, 1) := by decide +kernel
theorem dX3_lawWord_17 : decode cX3_lawWord 17 = .ok (.aload_n 0, 1) := by decide +kernel
theorem dX3_lawWord_18 : decode cX3_lawWord 18 = .ok (.getfield 12, 3) := by decide +kernel
theorem dX3_lawWord_21 : decode cX3_lawWord 21 = .ok (.iconst 2, 1) := by decide +kernel
theorem dX3_lawWord_22 : decode cX3_lawWord 22 = .ok (.iload_n 1, 1) := by decide +kernel
theorem dX3_lawWord_23 : decode cX3_lawWord 23 = .ok (.invokevirtual 111, 3) := by decide +kernel
theorem dX3_lawWord_26 : decode cX3_lawWord 26 = .ok (.pop, 1) := by decide +kernel
theorem dX3_lawWord_27 : decode cX3_lawWord 27 = .ok (.aload_n 0, 1) := by decide +kernel
theorem dX3_lawWord_28 : decode cX3_lawWord 28 = .ok (.getfield 12, 3) := by decide +kernel
theorem dX3_lawWord_31 : decode cX3_lawWord 31 = .ok (.aload_n 0, 1) := by decide +kernel
theorem dX3_lawWord_32 : decode cX3_lawWord 32 = .ok (.getfield 12, 3) := by decide +kernel
theorem dX3_lawWord_35 : decode cX3_lawWord 35 = .ok (.getfield 163, 3) := by decide +kernel
theorem dX3_lawWord_38 : decode cX3_lawWord 38 = .ok (.ifCond .ne 8, 3) := by decide +kernel
theorem dX3_lawWord_41 : decode cX3_lawWord 41 = .ok (.iload_n 1, 1) := by decide +kernel
theorem dX3_lawWord_42 : decode cX3_lawWord 42 = .ok (.iconst 5, 1) := by decide +kernel
theorem dX3_lawWord_43 : decode cX3_lawWord 43 = .ok (.if_icmp .ne 7, 3) := by decide +kernel
theorem dX3_lawWord_46 : decode cX3_lawWord 46 = .ok (.iconst 1, 1) := by decide +kernel
theorem dX3_lawWord_47 : decode cX3_lawWord 47 = .ok (.goto 4, 3) := by decide +kernel
theorem dX3_lawWord_50 : decode cX3_lawWord 50 = .ok (.iconst 0, 1) := by decide +kernel
theorem dX3_lawWord_51 : decode cX3_lawWord 51 = .ok (.putfield 163, 3) := by decide +kernel
theorem dX3_lawWord_54 : decode cX3_lawWord 54 = .ok (.aload_n 0, 1) := by decide +kernel
theorem dX3_lawWord_55 : decode cX3_lawWord 55 = .ok (.getfield 18, 3) := by decide +kernel
theorem dX3_lawWord_58 : decode cX3_lawWord 58 = .ok (.invokevirtual 65, 3) := by decide +kernel
theorem dX3_lawWord_61 : decode cX3_lawWord 61 = .ok (.iconst 1, 1) := by decide +kernel
theorem dX3_lawWord_62 : decode cX3_lawWord 62 = .ok (.ireturn, 1) := by decide +kernel
theorem dX3_orderWord_0 : decode cX3_orderWord 0 = .ok (.aload_n 0, 1) := by decide +kernel
theorem dX3_orderWord_1 : decode cX3_orderWord 1 = .ok (.getfield 18, 3) := by decide +kernel
theorem dX3_orderWord_4 : decode cX3_orderWord 4 = .ok (.ldc 166, 2) := by decide +kernel
theorem dX3_orderWord_6 : decode cX3_orderWord 6 = .ok (.invokevirtual 57, 3) := by decide +kernel
theorem dX3_orderWord_9 : decode cX3_orderWord 9 = .ok (.istore_n 1, 1) := by decide +kernel
theorem dX3_orderWord_10 : decode cX3_orderWord 10 = .ok (.iload_n 1, 1) := by decide +kernel
theorem dX3_orderWord_11 : decode cX3_orderWord 11 = .ok (.iconst (-1), 1) := by decide +kernel
theorem dX3_orderWord_12 : decode cX3_orderWord 12 = .ok (.if_icmp .ne 5, 3) := by decide +kernel
theorem dX3_orderWord_15 : decode cX3_orderWord 15 = .ok (.iconst 0, 1) := by decide +kernel
theorem dX3_orderWord_16 : decode cX3_orderWord 16 = .ok (.ireturn, 1) := by decide +kernel
theorem dX3_orderWord_17 : decode cX3_orderWord 17 = .ok (.aload_n 0, 1) := by decide +kernel
theorem dX3_orderWord_18 : decode cX3_orderWord 18 = .ok (.getfield 18, 3) := by decide +kernel
theorem dX3_orderWord_21 : decode cX3_orderWord 21 = .ok (.invokevirtual 65, 3) := by decide +kernel
theorem dX3_orderWord_24 : decode cX3_orderWord 24 = .ok (.iload_n 1, 1) := by decide +kernel
theorem dX3_orderWord_25 : decode cX3_orderWord 25 = .ok (.iconst 3, 1) := by decide +kernel
theorem dX3_orderWord_26 : decode cX3_orderWord 26 = .ok (.if_icmp .ge 15, 3) := by decide +kernel
theorem dX3_orderWord_29 : decode cX3_orderWord 29 = .ok (.aload_n 0, 1) := by decide +kernel
theorem dX3_orderWord_30 : decode cX3_orderWord 30 = .ok (.getfield 12, 3) := by decide +kernel
theorem dX3_orderWord_33 : decode cX3_orderWord 33 = .ok (.iconst 2, 1) := by decide +kernel
theorem dX3_orderWord_34 : decode cX3_orderWord 34 = .ok (.iload_n 1, 1) := by decide +kernel
theorem dX3_orderWord_35 : decode cX3_orderWord 35 = .ok (.invokevirtual 111, 3) := by decide +kernel
theorem dX3_orderWord_38 : decode cX3_orderWord 38 = .ok (.pop, 1) := by decide +kernel
theorem dX3_orderWord_39 : decode cX3_orderWord 39 = .ok (.iconst 1, 1) := by decide +kernel
theorem dX3_orderWord_40 : decode cX3_orderWord 40 = .ok (.ireturn, 1) := by decide +kernel
theorem dX3_orderWord_41 : decode cX3_orderWord 41 = .ok (.aload_n 0, 1) := by decide +kernel
theorem dX3_orderWord_42 : decode cX3_orderWord 42 = .ok (.getfield 18, 3) := by decide +kernel
theorem dX3_orderWord_45 : decode cX3_orderWord 45 = .ok (.invokevirtual 96, 3) := by decide +kernel
theorem dX3_orderWord_48 : decode cX3_orderWord 48 = .ok (.istore_n 2, 1) := by decide +kernel
theorem dX3_orderWord_49 : decode cX3_orderWord 49 = .ok (.iload_n 2, 1) := by decide +kernel
theorem dX3_orderWord_50 : decode cX3_orderWord 50 = .ok (.ifCond .lt 9, 3) := by decide +kernel
theorem dX3_orderWord_53 : decode cX3_orderWord 53 = .ok (.iload_n 2, 1) := by decide +kernel
theorem dX3_orderWord_54 : decode cX3_orderWord 54 = .ok (.bipush 6, 2) := by decide +kernel
theorem dX3_orderWord_56 : decode cX3_orderWord 56 = .ok (.if_icmp .lt 5, 3) := by decide +kernel
theorem dX3_orderWord_59 : decode cX3_orderWord 59 = .ok (.iconst 0, 1) := by decide +kernel
theorem dX3_orderWord_60 : decode cX3_orderWord 60 = .ok (.ireturn, 1) := by decide +kernel
theorem dX3_orderWord_61 : decode cX3_orderWord 61 = .ok (.aload_n 0, 1) := by decide +kernel
theorem dX3_orderWord_62 : decode cX3_orderWord 62 = .ok (.getfield 12, 3) := by decide +kernel
theorem dX3_orderWord_65 : decode cX3_orderWord 65 = .ok (.iconst 2, 1) := by decide +kernel
theorem dX3_orderWord_66 : decode cX3_orderWord 66 = .ok (.iconst 3, 1) := by decide +kernel
theorem dX3_orderWord_67 : decode cX3_orderWord 67 = .ok (.iload_n 1, 1) := by decide +kernel
theorem dX3_orderWord_68 : decode cX3_orderWord 68 = .ok (.iconst 3, 1) := by decide +kernel
theorem dX3_orderWord_69 : decode cX3_orderWord 69 = .ok (.isub, 1) := by decide +kernel
theorem dX3_orderWord_70 : decode cX3_orderWord 70 = .ok (.bipush 6, 2) := by decide +kernel
theorem dX3_orderWord_72 : decode cX3_orderWord 72 = .ok (.imul, 1) := by decide +kernel
theorem dX3_orderWord_73 : decode cX3_orderWord 73 = .ok (.iadd, 1) := by decide +kernel
theorem dX3_orderWord_74 : decode cX3_orderWord 74 = .ok (.iload_n 2, 1) := by decide +kernel
theorem dX3_orderWord_75 : decode cX3_orderWord 75 = .ok (.iadd, 1) := by decide +kernel
theorem dX3_orderWord_76 : decode cX3_orderWord 76 = .ok (.invokevirtual 111, 3) := by decide +kernel
theorem dX3_orderWord_79 : decode cX3_orderWord 79 = .ok (.pop, 1) := by decide +kernel
theorem dX3_orderWord_80 : decode cX3_orderWord 80 = .ok (.aload_n 0, 1) := by decide +kernel
theorem dX3_orderWord_81 : decode cX3_orderWord 81 = .ok (.getfield 18, 3) := by decide +kernel
theorem dX3_orderWord_84 : decode cX3_orderWord 84 = .ok (.invokevirtual 65, 3) := by decide +kernel
theorem dX3_orderWord_87 : decode cX3_orderWord 87 = .ok (.iconst 1, 1) := by decide +kernel
theorem dX3_orderWord_88 : decode cX3_orderWord 88 = .ok (.ireturn, 1) := by decide +kernel
theorem dX5_init_0 : decode cX5_init 0 = .ok (.aload_n 0, 1) := by decide +kernel
theorem dX5_init_1 : decode cX5_init 1 = .ok (.invokespecial 3, 3) := by decide +kernel
theorem dX5_init_4 : decode cX5_init 4 = .ok (.aload_n 0, 1) := by decide +kernel
theorem dX5_init_5 : decode cX5_init 5 = .ok (.bipush 12, 2) := by decide +kernel
theorem dX5_init_7 : decode cX5_init 7 = .ok (.newarray .int, 2) := by decide +kernel
theorem dX5_init_9 : decode cX5_init 9 = .ok (.putfield 11, 3) := by decide +kernel
theorem dX5_init_12 : decode cX5_init 12 = .ok (.aload_n 0, 1) := by decide +kernel
theorem dX5_init_13 : decode cX5_init 13 = .ok (.bipush 16, 2) := by decide +kernel
theorem dX5_init_15 : decode cX5_init 15 = .ok (.newarray .int, 2) := by decide +kernel
theorem dX5_init_17 : decode cX5_init 17 = .ok (.putfield 15, 3) := by decide +kernel
theorem dX5_init_20 : decode cX5_init 20 = .ok (.return_, 1) := by decide +kernel
theorem dX5_block_0 : decode cX5_block 0 = .ok (.iload_n 1, 1) := by decide +kernel
theorem dX5_block_1 : decode cX5_block 1 = .ok (.ifCond .lt 26, 3) := by decide +kernel
theorem dX5_block_4 : decode cX5_block 4 = .ok (.iload_n 1, 1) := by decide +kernel
theorem dX5_block_5 : decode cX5_block 5 = .ok (.aload_n 0, 1) := by decide +kernel
theorem dX5_block_6 : decode cX5_block 6 = .ok (.getfield 18, 3) := by decide +kernel
theorem dX5_block_9 : decode cX5_block 9 = .ok (.if_icmp .ge 18, 3) := by decide +kernel
theorem dX5_block_12 : decode cX5_block 12 = .ok (.iload_n 1, 1) := by decide +kernel
theorem dX5_block_13 : decode cX5_block 13 = .ok (.bipush 12, 2) := by decide +kernel
theorem dX5_block_15 : decode cX5_block 15 = .ok (.if_icmp .ge 12, 3) := by decide +kernel
theorem dX5_block_18 : decode cX5_block 18 = .ok (.aload_n 0, 1) := by decide +kernel
theorem dX5_block_19 : decode cX5_block 19 = .ok (.getfield 11, 3) := by decide +kernel
theorem dX5_block_22 : decode cX5_block 22 = .ok (.iload_n 1, 1) := by decide +kernel
theorem dX5_block_23 : decode cX5_block 23 = .ok (.iaload, 1) := by decide +kernel
theorem dX5_block_24 : decode cX5_block 24 = .ok (.goto 4, 3) := by decide +kernel
theorem dX5_block_27 : decode cX5_block 27 = .ok (.iconst (-1), 1) := by decide +kernel
theorem dX5_block_28 : decode cX5_block 28 = .ok (.ireturn, 1) := by decide +kernel
theorem dX5_putInOrder_0 : decode cX5_putInOrder 0 = .ok (.aload_n 0, 1) := by decide +kernel
theorem dX5_putInOrder_1 : decode cX5_putInOrder 1 = .ok (.aload_n 1, 1) := by decide +kernel
theorem dX5_putInOrder_2 : decode cX5_putInOrder 2 = .ok (.invokevirtual 22, 3) := by decide +kernel
theorem dX5_putInOrder_5 : decode cX5_putInOrder 5 = .ok (.aload_n 0, 1) := by decide +kernel
theorem dX5_putInOrder_6 : decode cX5_putInOrder 6 = .ok (.iconst 0, 1) := by decide +kernel
theorem dX5_putInOrder_7 : decode cX5_putInOrder 7 = .ok (.putfield 18, 3) := by decide +kernel
theorem dX5_putInOrder_10 : decode cX5_putInOrder 10 = .ok (.iconst 0, 1) := by decide +kernel
theorem dX5_putInOrder_11 : decode cX5_putInOrder 11 = .ok (.istore_n 2, 1) := by decide +kernel
theorem dX5_putInOrder_12 : decode cX5_putInOrder 12 = .ok (.iload_n 2, 1) := by decide +kernel
theorem dX5_putInOrder_13 : decode cX5_putInOrder 13 = .ok (.bipush 12, 2) := by decide +kernel
theorem dX5_putInOrder_15 : decode cX5_putInOrder 15 = .ok (.if_icmp .ge 25, 3) := by decide +kernel
theorem dX5_putInOrder_18 : decode cX5_putInOrder 18 = .ok (.aload_n 0, 1) := by decide +kernel
theorem dX5_putInOrder_19 : decode cX5_putInOrder 19 = .ok (.aload_n 1, 1) := by decide +kernel
theorem dX5_putInOrder_20 : decode cX5_putInOrder 20 = .ok (.iconst 0, 1) := by decide +kernel
theorem dX5_putInOrder_21 : decode cX5_putInOrder 21 = .ok (.iload_n 2, 1) := by decide +kernel
theorem dX5_putInOrder_22 : decode cX5_putInOrder 22 = .ok (.invokevirtual 26, 3) := by decide +kernel
theorem dX5_putInOrder_25 : decode cX5_putInOrder 25 = .ok (.ifCond .eq 9, 3) := by decide +kernel
theorem dX5_putInOrder_28 : decode cX5_putInOrder 28 = .ok (.aload_n 0, 1) := by decide +kernel
theorem dX5_putInOrder_29 : decode cX5_putInOrder 29 = .ok (.iload_n 2, 1) := by decide +kernel
theorem dX5_putInOrder_30 : decode cX5_putInOrder 30 = .ok (.putfield 18, 3) := by decide +kernel
theorem dX5_putInOrder_33 : decode cX5_putInOrder 33 = .ok (.return_, 1) := by decide +kernel
theorem dX5_putInOrder_34 : decode cX5_putInOrder 34 = .ok (.iinc 2 1, 3) := by decide +kernel
theorem dX5_putInOrder_37 : decode cX5_putInOrder 37 = .ok (.goto (-25), 3) := by decide +kernel
theorem dX5_putInOrder_40 : decode cX5_putInOrder 40 = .ok (.return_, 1) := by decide +kernel
theorem dX5_rankCards_0 : decode cX5_rankCards 0 = .ok (.aload_n 0, 1) := by decide +kernel
theorem dX5_rankCards_1 : decode cX5_rankCards 1 = .ok (.getfield 15, 3) := by decide +kernel
theorem dX5_rankCards_4 : decode cX5_rankCards 4 = .ok (.iconst 0, 1) := by decide +kernel
theorem dX5_rankCards_5 : decode cX5_rankCards 5 = .ok (.invokestatic 30, 3) := by decide +kernel
theorem dX5_rankCards_8 : decode cX5_rankCards 8 = .ok (.iconst 0, 1) := by decide +kernel
theorem dX5_rankCards_9 : decode cX5_rankCards 9 = .ok (.istore_n 2, 1) := by decide +kernel
theorem dX5_rankCards_10 : decode cX5_rankCards 10 = .ok (.iload_n 2, 1) := by decide +kernel
theorem dX5_rankCards_11 : decode cX5_rankCards 11 = .ok (.aload_n 1, 1) := by decide +kernel
theorem dX5_rankCards_12 : decode cX5_rankCards 12 = .ok (.getfield 36, 3) := by decide +kernel
theorem dX5_rankCards_15 : decode cX5_rankCards 15 = .ok (.if_icmp .ge 24, 3) := by decide +kernel
theorem dX5_rankCards_18 : decode cX5_rankCards 18 = .ok (.aload_n 0, 1) := by decide +kernel
theorem dX5_rankCards_19 : decode cX5_rankCards 19 = .ok (.getfield 15, 3) := by decide +kernel
theorem dX5_rankCards_22 : decode cX5_rankCards 22 = .ok (.aload_n 1, 1) := by decide +kernel
theorem dX5_rankCards_23 : decode cX5_rankCards 23 = .ok (.getfield 41, 3) := by decide +kernel
theorem dX5_rankCards_26 : decode cX5_rankCards 26 = .ok (.iload_n 2, 1) := by decide +kernel
theorem dX5_rankCards_27 : decode cX5_rankCards 27 = .ok (.iaload, 1) := by decide +kernel
theorem dX5_rankCards_28 : decode cX5_rankCards 28 = .ok (.bipush 15, 2) := by decide +kernel
theorem dX5_rankCards_30 : decode cX5_rankCards 30 = .ok (.iand, 1) := by decide +kernel
theorem dX5_rankCards_31 : decode cX5_rankCards 31 = .ok (.iconst 1, 1) := by decide +kernel
theorem dX5_rankCards_32 : decode cX5_rankCards 32 = .ok (.iastore, 1) := by decide +kernel
theorem dX5_rankCards_33 : decode cX5_rankCards 33 = .ok (.iinc 2 1, 3) := by decide +kernel
theorem dX5_rankCards_36 : decode cX5_rankCards 36 = .ok (.goto (-26), 3) := by decide +kernel
theorem dX5_rankCards_39 : decode cX5_rankCards 39 = .ok (.aload_n 0, 1) := by decide +kernel
theorem dX5_rankCards_40 : decode cX5_rankCards 40 = .ok (.iconst 0, 1) := by decide +kernel
theorem dX5_rankCards_41 : decode cX5_rankCards 41 = .ok (.putfield 44, 3) := by decide +kernel
theorem dX5_rankCards_44 : decode cX5_rankCards 44 = .ok (.iconst 0, 1) := by decide +kernel
theorem dX5_rankCards_45 : decode cX5_rankCards 45 = .ok (.istore_n 2, 1) := by decide +kernel
theorem dX5_rankCards_46 : decode cX5_rankCards 46 = .ok (.iload_n 2, 1) := by decide +kernel
theorem dX5_rankCards_47 : decode cX5_rankCards 47 = .ok (.aload_n 0, 1) := by decide +kernel
theorem dX5_rankCards_48 : decode cX5_rankCards 48 = .ok (.getfield 15, 3) := by decide +kernel
theorem dX5_rankCards_51 : decode cX5_rankCards 51 = .ok (.arraylength, 1) := by decide +kernel
theorem dX5_rankCards_52 : decode cX5_rankCards 52 = .ok (.if_icmp .ge 34, 3) := by decide +kernel
theorem dX5_rankCards_55 : decode cX5_rankCards 55 = .ok (.aload_n 0, 1) := by decide +kernel
theorem dX5_rankCards_56 : decode cX5_rankCards 56 = .ok (.dup, 1) := by decide +kernel
theorem dX5_rankCards_57 : decode cX5_rankCards 57 = .ok (.getfield 44, 3) := by decide +kernel
theorem dX5_rankCards_60 : decode cX5_rankCards 60 = .ok (.aload_n 0, 1) := by decide +kernel
theorem dX5_rankCards_61 : decode cX5_rankCards 61 = .ok (.getfield 15, 3) := by decide +kernel
theorem dX5_rankCards_64 : decode cX5_rankCards 64 = .ok (.iload_n 2, 1) := by decide +kernel
theorem dX5_rankCards_65 : decode cX5_rankCards 65 = .ok (.iaload, 1) := by decide +kernel
theorem dX5_rankCards_66 : decode cX5_rankCards 66 = .ok (.iadd, 1) := by decide +kernel
theorem dX5_rankCards_67 : decode cX5_rankCards 67 = .ok (.putfield 44, 3) := by decide +kernel
theorem dX5_rankCards_70 : decode cX5_rankCards 70 = .ok (.aload_n 0, 1) := by decide +kernel
theorem dX5_rankCards_71 : decode cX5_rankCards 71 = .ok (.getfield 15, 3) := by decide +kernel
theorem dX5_rankCards_74 : decode cX5_rankCards 74 = .ok (.iload_n 2, 1) := by decide +kernel
theorem dX5_rankCards_75 : decode cX5_rankCards 75 = .ok (.aload_n 0, 1) := by decide +kernel
theorem dX5_rankCards_76 : decode cX5_rankCards 76 = .ok (.getfield 44, 3) := by decide +kernel
theorem dX5_rankCards_79 : decode cX5_rankCards 79 = .ok (.iastore, 1) := by decide +kernel
theorem dX5_rankCards_80 : decode cX5_rankCards 80 = .ok (.iinc 2 1, 3) := by decide +kernel
theorem dX5_rankCards_83 : decode cX5_rankCards 83 = .ok (.goto (-37), 3) := by decide +kernel
theorem dX5_rankCards_86 : decode cX5_rankCards 86 = .ok (.return_, 1) := by decide +kernel
theorem dX5_search_0 : decode cX5_search 0 = .ok (.iload_n 2, 1) := by decide +kernel
theorem dX5_search_1 : decode cX5_search 1 = .ok (.iload_n 3, 1) := by decide +kernel
theorem dX5_search_2 : decode cX5_search 2 = .ok (.if_icmp .lt 8, 3) := by decide +kernel
theorem dX5_search_5 : decode cX5_search 5 = .ok (.aload_n 1, 1) := by decide +kernel
theorem dX5_search_6 : decode cX5_search 6 = .ok (.invokevirtual 47, 3) := by decide +kernel
theorem dX5_search_9 : decode cX5_search 9 = .ok (.ireturn, 1) := by decide +kernel
theorem dX5_search_10 : decode cX5_search 10 = .ok (.iload_n 2, 1) := by decide +kernel
theorem dX5_search_11 : decode cX5_search 11 = .ok (.aload_n 0, 1) := by decide +kernel
theorem dX5_search_12 : decode cX5_search 12 = .ok (.aload_n 1, 1) := by decide +kernel
theorem dX5_search_13 : decode cX5_search 13 = .ok (.invokevirtual 51, 3) := by decide +kernel
theorem dX5_search_16 : decode cX5_search 16 = .ok (.iadd, 1) := by decide +kernel
theorem dX5_search_17 : decode cX5_search 17 = .ok (.iload_n 3, 1) := by decide +kernel
theorem dX5_search_18 : decode cX5_search 18 = .ok (.if_icmp .gt 9, 3) := by decide +kernel
theorem dX5_search_21 : decode cX5_search 21 = .ok (.iload_n 2, 1) := by decide +kernel
theorem dX5_search_22 : decode cX5_search 22 = .ok (.bipush 12, 2) := by decide +kernel
theorem dX5_search_24 : decode cX5_search 24 = .ok (.if_icmp .lt 5, 3) := by decide +kernel
theorem dX5_search_27 : decode cX5_search 27 = .ok (.iconst 0, 1) := by decide +kernel
theorem dX5_search_28 : decode cX5_search 28 = .ok (.ireturn, 1) := by decide +kernel
theorem dX5_search_29 : decode cX5_search 29 = .ok (.iconst 2, 1) := by decide +kernel
theorem dX5_search_30 : decode cX5_search 30 = .ok (.istore 4, 2) := by decide +kernel
theorem dX5_search_32 : decode cX5_search 32 = .ok (.iload 4, 2) := by decide +kernel
theorem dX5_search_34 : decode cX5_search 34 = .ok (.aload_n 1, 1) := by decide +kernel
theorem dX5_search_35 : decode cX5_search 35 = .ok (.getfield 36, 3) := by decide +kernel
theorem dX5_search_38 : decode cX5_search 38 = .ok (.if_icmp .gt 53, 3) := by decide +kernel
theorem dX5_search_41 : decode cX5_search 41 = .ok (.aload_n 0, 1) := by decide +kernel
theorem dX5_search_42 : decode cX5_search 42 = .ok (.getfield 11, 3) := by decide +kernel
theorem dX5_search_45 : decode cX5_search 45 = .ok (.iload_n 2, 1) := by decide +kernel
theorem dX5_search_46 : decode cX5_search 46 = .ok (.iload 4, 2) := by decide +kernel
theorem dX5_search_48 : decode cX5_search 48 = .ok (.iastore, 1) := by decide +kernel
theorem dX5_search_49 : decode cX5_search 49 = .ok (.aload_n 1, 1) := by decide +kernel
theorem dX5_search_50 : decode cX5_search 50 = .ok (.iconst 0, 1) := by decide +kernel
theorem dX5_search_51 : decode cX5_search 51 = .ok (.iload 4, 2) := by decide +kernel
theorem dX5_search_53 : decode cX5_search 53 = .ok (.iconst 1, 1) := by decide +kernel
theorem dX5_search_54 : decode cX5_search 54 = .ok (.isub, 1) := by decide +kernel
theorem dX5_search_55 : decode cX5_search 55 = .ok (.invokevirtual 55, 3) := by decide +kernel
theorem dX5_search_58 : decode cX5_search 58 = .ok (.aload_n 0, 1) := by decide +kernel
theorem dX5_search_59 : decode cX5_search 59 = .ok (.aload_n 1, 1) := by decide +kernel
theorem dX5_search_60 : decode cX5_search 60 = .ok (.iload_n 2, 1) := by decide +kernel
theorem dX5_search_61 : decode cX5_search 61 = .ok (.iconst 1, 1) := by decide +kernel
theorem dX5_search_62 : decode cX5_search 62 = .ok (.iadd, 1) := by decide +kernel
theorem dX5_search_63 : decode cX5_search 63 = .ok (.iload_n 3, 1) := by decide +kernel
theorem dX5_search_64 : decode cX5_search 64 = .ok (.invokevirtual 26, 3) := by decide +kernel
theorem dX5_search_67 : decode cX5_search 67 = .ok (.istore 5, 2) := by decide +kernel
theorem dX5_search_69 : decode cX5_search 69 = .ok (.aload_n 1, 1) := by decide +kernel
theorem dX5_search_70 : decode cX5_search 70 = .ok (.iconst 0, 1) := by decide +kernel
theorem dX5_search_71 : decode cX5_search 71 = .ok (.iload 4, 2) := by decide +kernel
theorem dX5_search_73 : decode cX5_search 73 = .ok (.iconst 1, 1) := by decide +kernel
theorem dX5_search_74 : decode cX5_search 74 = .ok (.isub, 1) := by decide +kernel
theorem dX5_search_75 : decode cX5_search 75 = .ok (.invokevirtual 55, 3) := by decide +kernel
theorem dX5_search_78 : decode cX5_search 78 = .ok (.iload 5, 2) := by decide +kernel
theorem dX5_search_80 : decode cX5_search 80 = .ok (.ifCond .eq 5, 3) := by decide +kernel
theorem dX5_search_83 : decode cX5_search 83 = .ok (.iconst 1, 1) := by decide +kernel
theorem dX5_search_84 : decode cX5_search 84 = .ok (.ireturn, 1) := by decide +kernel
theorem dX5_search_85 : decode cX5_search 85 = .ok (.iinc 4 1, 3) := by decide +kernel
theorem dX5_search_88 : decode cX5_search 88 = .ok (.goto (-56), 3) := by decide +kernel
theorem dX5_search_91 : decode cX5_search 91 = .ok (.iconst 0, 1) := by decide +kernel
theorem dX5_search_92 : decode cX5_search 92 = .ok (.ireturn, 1) := by decide +kernel
theorem dX5_atLeast_0 : decode cX5_atLeast 0 = .ok (.iconst 0, 1) := by decide +kernel
theorem dX5_atLeast_1 : decode cX5_atLeast 1 = .ok (.istore_n 2, 1) := by decide +kernel
theorem dX5_atLeast_2 : decode cX5_atLeast 2 = .ok (.iconst 0, 1) := by decide +kernel
theorem dX5_atLeast_3 : decode cX5_atLeast 3 = .ok (.istore_n 3, 1) := by decide +kernel
theorem dX5_atLeast_4 : decode cX5_atLeast 4 = .ok (.iconst 0, 1) := by decide +kernel
theorem dX5_atLeast_5 : decode cX5_atLeast 5 = .ok (.istore 4, 2) := by decide +kernel
theorem dX5_atLeast_7 : decode cX5_atLeast 7 = .ok (.iload 4, 2) := by decide +kernel
theorem dX5_atLeast_9 : decode cX5_atLeast 9 = .ok (.aload_n 1, 1) := by decide +kernel
theorem dX5_atLeast_10 : decode cX5_atLeast 10 = .ok (.getfield 36, 3) := by decide +kernel
theorem dX5_atLeast_13 : decode cX5_atLeast 13 = .ok (.if_icmp .ge 117, 3) := by decide +kernel
theorem dX5_atLeast_16 : decode cX5_atLeast 16 = .ok (.aload_n 0, 1) := by decide +kernel
theorem dX5_atLeast_17 : decode cX5_atLeast 17 = .ok (.getfield 15, 3) := by decide +kernel
theorem dX5_atLeast_20 : decode cX5_atLeast 20 = .ok (.aload_n 1, 1) := by decide +kernel
theorem dX5_atLeast_21 : decode cX5_atLeast 21 = .ok (.getfield 41, 3) := by decide +kernel
theorem dX5_atLeast_24 : decode cX5_atLeast 24 = .ok (.iload 4, 2) := by decide +kernel
theorem dX5_atLeast_26 : decode cX5_atLeast 26 = .ok (.iaload, 1) := by decide +kernel
theorem dX5_atLeast_27 : decode cX5_atLeast 27 = .ok (.bipush 15, 2) := by decide +kernel
theorem dX5_atLeast_29 : decode cX5_atLeast 29 = .ok (.iand, 1) := by decide +kernel
theorem dX5_atLeast_30 : decode cX5_atLeast 30 = .ok (.iaload, 1) := by decide +kernel
theorem dX5_atLeast_31 : decode cX5_atLeast 31 = .ok (.istore 5, 2) := by decide +kernel
theorem dX5_atLeast_33 : decode cX5_atLeast 33 = .ok (.iload 4, 2) := by decide +kernel
theorem dX5_atLeast_35 : decode cX5_atLeast 35 = .ok (.iconst 1, 1) := by decide +kernel
theorem dX5_atLeast_36 : decode cX5_atLeast 36 = .ok (.iadd, 1) := by decide +kernel
theorem dX5_atLeast_37 : decode cX5_atLeast 37 = .ok (.aload_n 1, 1) := by decide +kernel
theorem dX5_atLeast_38 : decode cX5_atLeast 38 = .ok (.getfield 36, 3) := by decide +kernel
theorem dX5_atLeast_41 : decode cX5_atLeast 41 = .ok (.if_icmp .ge 23, 3) := by decide +kernel
theorem dX5_atLeast_44 : decode cX5_atLeast 44 = .ok (.aload_n 0, 1) := by decide +kernel
theorem dX5_atLeast_45 : decode cX5_atLeast 45 = .ok (.getfield 15, 3) := by decide +kernel
theorem dX5_atLeast_48 : decode cX5_atLeast 48 = .ok (.aload_n 1, 1) := by decide +kernel
theorem dX5_atLeast_49 : decode cX5_atLeast 49 = .ok (.getfield 41, 3) := by decide +kernel
theorem dX5_atLeast_52 : decode cX5_atLeast 52 = .ok (.iload 4, 2) := by decide +kernel
theorem dX5_atLeast_54 : decode cX5_atLeast 54 = .ok (.iconst 1, 1) := by decide +kernel
theorem dX5_atLeast_55 : decode cX5_atLeast 55 = .ok (.iadd, 1) := by decide +kernel
theorem dX5_atLeast_56 : decode cX5_atLeast 56 = .ok (.iaload, 1) := by decide +kernel
theorem dX5_atLeast_57 : decode cX5_atLeast 57 = .ok (.bipush 15, 2) := by decide +kernel
theorem dX5_atLeast_59 : decode cX5_atLeast 59 = .ok (.iand, 1) := by decide +kernel
theorem dX5_atLeast_60 : decode cX5_atLeast 60 = .ok (.iaload, 1) := by decide +kernel
theorem dX5_atLeast_61 : decode cX5_atLeast 61 = .ok (.goto 7, 3) := by decide +kernel
theorem dX5_atLeast_64 : decode cX5_atLeast 64 = .ok (.aload_n 0, 1) := by decide +kernel
theorem dX5_atLeast_65 : decode cX5_atLeast 65 = .ok (.getfield 44, 3) := by decide +kernel
theorem dX5_atLeast_68 : decode cX5_atLeast 68 = .ok (.istore 6, 2) := by decide +kernel
theorem dX5_atLeast_70 : decode cX5_atLeast 70 = .ok (.iload 5, 2) := by decide +kernel
theorem dX5_atLeast_72 : decode cX5_atLeast 72 = .ok (.iload 6, 2) := by decide +kernel
theorem dX5_atLeast_74 : decode cX5_atLeast 74 = .ok (.isub, 1) := by decide +kernel
theorem dX5_atLeast_75 : decode cX5_atLeast 75 = .ok (.invokestatic 59, 3) := by decide +kernel
theorem dX5_atLeast_78 : decode cX5_atLeast 78 = .ok (.iconst 1, 1) := by decide +kernel
theorem dX5_atLeast_79 : decode cX5_atLeast 79 = .ok (.if_icmp .gt 21, 3) := by decide +kernel
theorem dX5_atLeast_82 : decode cX5_atLeast 82 = .ok (.iload 4, 2) := by decide +kernel
theorem dX5_atLeast_84 : decode cX5_atLeast 84 = .ok (.iconst 1, 1) := by decide +kernel
theorem dX5_atLeast_85 : decode cX5_atLeast 85 = .ok (.iadd, 1) := by decide +kernel
theorem dX5_atLeast_86 : decode cX5_atLeast 86 = .ok (.aload_n 1, 1) := by decide +kernel
theorem dX5_atLeast_87 : decode cX5_atLeast 87 = .ok (.getfield 36, 3) := by decide +kernel
theorem dX5_atLeast_90 : decode cX5_atLeast 90 = .ok (.if_icmp .ne 13, 3) := by decide +kernel
theorem dX5_atLeast_93 : decode cX5_atLeast 93 = .ok (.iload 5, 2) := by decide +kernel
theorem dX5_atLeast_95 : decode cX5_atLeast 95 = .ok (.iload 6, 2) := by decide +kernel
theorem dX5_atLeast_97 : decode cX5_atLeast 97 = .ok (.if_icmp .eq 6, 3) := by decide +kernel
theorem dX5_atLeast_100 : decode cX5_atLeast 100 = .ok (.iinc 2 1, 3) := by decide +kernel
theorem dX5_atLeast_103 : decode cX5_atLeast 103 = .ok (.iload 4, 2) := by decide +kernel
theorem dX5_atLeast_105 : decode cX5_atLeast 105 = .ok (.iconst 1, 1) := by decide +kernel
theorem dX5_atLeast_106 : decode cX5_atLeast 106 = .ok (.iadd, 1) := by decide +kernel
theorem dX5_atLeast_107 : decode cX5_atLeast 107 = .ok (.aload_n 1, 1) := by decide +kernel
theorem dX5_atLeast_108 : decode cX5_atLeast 108 = .ok (.getfield 36, 3) := by decide +kernel
theorem dX5_atLeast_111 : decode cX5_atLeast 111 = .ok (.if_icmp .ge 13, 3) := by decide +kernel
theorem dX5_atLeast_114 : decode cX5_atLeast 114 = .ok (.iload 5, 2) := by decide +kernel
theorem dX5_atLeast_116 : decode cX5_atLeast 116 = .ok (.iload 6, 2) := by decide +kernel
theorem dX5_atLeast_118 : decode cX5_atLeast 118 = .ok (.if_icmp .eq 6, 3) := by decide +kernel
theorem dX5_atLeast_121 : decode cX5_atLeast 121 = .ok (.iinc 3 1, 3) := by decide +kernel
theorem dX5_atLeast_124 : decode cX5_atLeast 124 = .ok (.iinc 4 1, 3) := by decide +kernel
theorem dX5_atLeast_127 : decode cX5_atLeast 127 = .ok (.goto (-120), 3) := by decide +kernel
theorem dX5_atLeast_130 : decode cX5_atLeast 130 = .ok (.iload_n 2, 1) := by decide +kernel
theorem dX5_atLeast_131 : decode cX5_atLeast 131 = .ok (.iload_n 3, 1) := by decide +kernel
theorem dX5_atLeast_132 : decode cX5_atLeast 132 = .ok (.aload_n 0, 1) := by decide +kernel
theorem dX5_atLeast_133 : decode cX5_atLeast 133 = .ok (.getfield 44, 3) := by decide +kernel
theorem dX5_atLeast_136 : decode cX5_atLeast 136 = .ok (.isub, 1) := by decide +kernel
theorem dX5_atLeast_137 : decode cX5_atLeast 137 = .ok (.iconst 1, 1) := by decide +kernel
theorem dX5_atLeast_138 : decode cX5_atLeast 138 = .ok (.iadd, 1) := by decide +kernel
theorem dX5_atLeast_139 : decode cX5_atLeast 139 = .ok (.invokestatic 65, 3) := by decide +kernel
theorem dX5_atLeast_142 : decode cX5_atLeast 142 = .ok (.ireturn, 1) := by decide +kernel
theorem dX6_init_0 : decode cX6_init 0 = .ok (.aload_n 0, 1) := by decide +kernel
theorem dX6_init_1 : decode cX6_init 1 = .ok (.invokespecial 3, 3) := by decide +kernel
theorem dX6_init_4 : decode cX6_init 4 = .ok (.aload_n 0, 1) := by decide +kernel
theorem dX6_init_5 : decode cX6_init 5 = .ok (.bipush 8, 2) := by decide +kernel
theorem dX6_init_7 : decode cX6_init 7 = .ok (.newarray .int, 2) := by decide +kernel
theorem dX6_init_9 : decode cX6_init 9 = .ok (.putfield 9, 3) := by decide +kernel
theorem dX6_init_12 : decode cX6_init 12 = .ok (.aload_n 0, 1) := by decide +kernel
theorem dX6_init_13 : decode cX6_init 13 = .ok (.sipush 301, 3) := by decide +kernel
theorem dX6_init_16 : decode cX6_init 16 = .ok (.newarray .long, 2) := by decide +kernel
theorem dX6_init_18 : decode cX6_init 18 = .ok (.putfield 15, 3) := by decide +kernel
theorem dX6_init_21 : decode cX6_init 21 = .ok (.aload_n 0, 1) := by decide +kernel
theorem dX6_init_22 : decode cX6_init 22 = .ok (.aload_n 1, 1) := by decide +kernel
theorem dX6_init_23 : decode cX6_init 23 = .ok (.putfield 19, 3) := by decide +kernel
theorem dX6_init_26 : decode cX6_init 26 = .ok (.return_, 1) := by decide +kernel
theorem dX6_look_0 : decode cX6_look 0 = .ok (.aload_n 1, 1) := by decide +kernel
theorem dX6_look_1 : decode cX6_look 1 = .ok (.iconst 0, 1) := by decide +kernel
theorem dX6_look_2 : decode cX6_look 2 = .ok (.invokevirtual 23, 3) := by decide +kernel
theorem dX6_look_5 : decode cX6_look 5 = .ok (.istore_n 2, 1) := by decide +kernel
theorem dX6_look_6 : decode cX6_look 6 = .ok (.iload_n 2, 1) := by decide +kernel
theorem dX6_look_7 : decode cX6_look 7 = .ok (.iconst 1, 1) := by decide +kernel
theorem dX6_look_8 : decode cX6_look 8 = .ok (.if_icmp .ne 7, 3) := by decide +kernel
theorem dX6_look_11 : decode cX6_look 11 = .ok (.iconst 1, 1) := by decide +kernel
theorem dX6_look_12 : decode cX6_look 12 = .ok (.goto 4, 3) := by decide +kernel
theorem dX6_look_15 : decode cX6_look 15 = .ok (.iconst 0, 1) := by decide +kernel
theorem dX6_look_16 : decode cX6_look 16 = .ok (.istore_n 3, 1) := by decide +kernel
theorem dX6_look_17 : decode cX6_look 17 = .ok (.aload_n 0, 1) := by decide +kernel
theorem dX6_look_18 : decode cX6_look 18 = .ok (.iload_n 2, 1) := by decide +kernel
theorem dX6_look_19 : decode cX6_look 19 = .ok (.ifCond .ne 10, 3) := by decide +kernel
theorem dX6_look_22 : decode cX6_look 22 = .ok (.aload_n 1, 1) := by decide +kernel
theorem dX6_look_23 : decode cX6_look 23 = .ok (.getfield 29, 3) := by decide +kernel
theorem dX6_look_26 : decode cX6_look 26 = .ok (.goto 4, 3) := by decide +kernel
theorem dX6_look_29 : decode cX6_look 29 = .ok (.iload_n 2, 1) := by decide +kernel
theorem dX6_look_30 : decode cX6_look 30 = .ok (.putfield 33, 3) := by decide +kernel
theorem dX6_look_33 : decode cX6_look 33 = .ok (.aload_n 0, 1) := by decide +kernel
theorem dX6_look_34 : decode cX6_look 34 = .ok (.iconst 0, 1) := by decide +kernel
theorem dX6_look_35 : decode cX6_look 35 = .ok (.putfield 36, 3) := by decide +kernel
theorem dX6_look_38 : decode cX6_look 38 = .ok (.aload_n 0, 1) := by decide +kernel
theorem dX6_look_39 : decode cX6_look 39 = .ok (.getfield 19, 3) := by decide +kernel
theorem dX6_look_42 : decode cX6_look 42 = .ok (.invokevirtual 39, 3) := by decide +kernel
theorem dX6_look_45 : decode cX6_look 45 = .ok (.astore 4, 2) := by decide +kernel
theorem dX6_look_47 : decode cX6_look 47 = .ok (.aload 4, 2) := by decide +kernel
theorem dX6_look_49 : decode cX6_look 49 = .ok (.ifnull 52, 3) := by decide +kernel
theorem dX6_look_52 : decode cX6_look 52 = .ok (.aload_n 0, 1) := by decide +kernel
theorem dX6_look_53 : decode cX6_look 53 = .ok (.aload_n 1, 1) := by decide +kernel
theorem dX6_look_54 : decode cX6_look 54 = .ok (.invokevirtual 45, 3) := by decide +kernel
theorem dX6_look_57 : decode cX6_look 57 = .ok (.aload_n 0, 1) := by decide +kernel
theorem dX6_look_58 : decode cX6_look 58 = .ok (.aload 4, 2) := by decide +kernel
theorem dX6_look_60 : decode cX6_look 60 = .ok (.iconst 0, 1) := by decide +kernel
theorem dX6_look_61 : decode cX6_look 61 = .ok (.aload_n 0, 1) := by decide +kernel
theorem dX6_look_62 : decode cX6_look 62 = .ok (.getfield 9, 3) := by decide +kernel
theorem dX6_look_65 : decode cX6_look 65 = .ok (.aload_n 0, 1) := by decide +kernel
theorem dX6_look_66 : decode cX6_look 66 = .ok (.getfield 33, 3) := by decide +kernel
theorem dX6_look_69 : decode cX6_look 69 = .ok (.invokevirtual 51, 3) := by decide +kernel
theorem dX6_look_72 : decode cX6_look 72 = .ok (.putfield 33, 3) := by decide +kernel
theorem dX6_look_75 : decode cX6_look 75 = .ok (.aload_n 0, 1) := by decide +kernel
theorem dX6_look_76 : decode cX6_look 76 = .ok (.aload 4, 2) := by decide +kernel
theorem dX6_look_78 : decode cX6_look 78 = .ok (.iconst 1, 1) := by decide +kernel
theorem dX6_look_79 : decode cX6_look 79 = .ok (.aload_n 0, 1) := by decide +kernel
theorem dX6_look_80 : decode cX6_look 80 = .ok (.getfield 9, 3) := by decide +kernel
theorem dX6_look_83 : decode cX6_look 83 = .ok (.iconst 0, 1) := by decide +kernel
theorem dX6_look_84 : decode cX6_look 84 = .ok (.invokevirtual 51, 3) := by decide +kernel
theorem dX6_look_87 : decode cX6_look 87 = .ok (.putfield 36, 3) := by decide +kernel
theorem dX6_look_90 : decode cX6_look 90 = .ok (.aload 4, 2) := by decide +kernel
theorem dX6_look_92 : decode cX6_look 92 = .ok (.aload_n 0, 1) := by decide +kernel
theorem dX6_look_93 : decode cX6_look 93 = .ok (.getfield 9, 3) := by decide +kernel
theorem dX6_look_96 : decode cX6_look 96 = .ok (.iload_n 3, 1) := by decide +kernel
theorem dX6_look_97 : decode cX6_look 97 = .ok (.invokevirtual 55, 3) := by decide +kernel
theorem dX6_look_100 : decode cX6_look 100 = .ok (.istore_n 3, 1) := by decide +kernel
theorem dX6_look_101 : decode cX6_look 101 = .ok (.iload_n 3, 1) := by decide +kernel
theorem dX6_look_102 : decode cX6_look 102 = .ok (.ifCond .eq 5, 3) := by decide +kernel
theorem dX6_look_105 : decode cX6_look 105 = .ok (.iconst 0, 1) := by decide +kernel
theorem dX6_look_106 : decode cX6_look 106 = .ok (.ireturn, 1) := by decide +kernel
theorem dX6_look_107 : decode cX6_look 107 = .ok (.aload_n 0, 1) := by decide +kernel
theorem dX6_look_108 : decode cX6_look 108 = .ok (.getfield 33, 3) := by decide +kernel
theorem dX6_look_111 : decode cX6_look 111 = .ok (.ifCond .lt 36, 3) := by decide +kernel
theorem dX6_look_114 : decode cX6_look 114 = .ok (.aload_n 0, 1) := by decide +kernel
theorem dX6_look_115 : decode cX6_look 115 = .ok (.getfield 33, 3) := by decide +kernel
theorem dX6_look_118 : decode cX6_look 118 = .ok (.aload_n 1, 1) := by decide +kernel
theorem dX6_look_119 : decode cX6_look 119 = .ok (.getfield 59, 3) := by decide +kernel
theorem dX6_look_122 : decode cX6_look 122 = .ok (.if_icmp .gt 25, 3) := by decide +kernel
theorem dX6_look_125 : decode cX6_look 125 = .ok (.aload_n 0, 1) := by decide +kernel
theorem dX6_look_126 : decode cX6_look 126 = .ok (.getfield 36, 3) := by decide +kernel
theorem dX6_look_129 : decode cX6_look 129 = .ok (.ifCond .lt 18, 3) := by decide +kernel
theorem dX6_look_132 : decode cX6_look 132 = .ok (.aload_n 0, 1) := by decide +kernel
theorem dX6_look_133 : decode cX6_look 133 = .ok (.getfield 36, 3) := by decide +kernel
theorem dX6_look_136 : decode cX6_look 136 = .ok (.aload_n 1, 1) := by decide +kernel
theorem dX6_look_137 : decode cX6_look 137 = .ok (.getfield 59, 3) := by decide +kernel
theorem dX6_look_140 : decode cX6_look 140 = .ok (.if_icmp .gt 7, 3) := by decide +kernel
theorem dX6_look_143 : decode cX6_look 143 = .ok (.iconst 1, 1) := by decide +kernel
theorem dX6_look_144 : decode cX6_look 144 = .ok (.goto 4, 3) := by decide +kernel
theorem dX6_look_147 : decode cX6_look 147 = .ok (.iconst 0, 1) := by decide +kernel
theorem dX6_look_148 : decode cX6_look 148 = .ok (.istore 5, 2) := by decide +kernel
theorem dX6_look_150 : decode cX6_look 150 = .ok (.iload 5, 2) := by decide +kernel
theorem dX6_look_152 : decode cX6_look 152 = .ok (.ifCond .eq 7, 3) := by decide +kernel
theorem dX6_look_155 : decode cX6_look 155 = .ok (.iconst 3, 1) := by decide +kernel
theorem dX6_look_156 : decode cX6_look 156 = .ok (.goto 4, 3) := by decide +kernel
theorem dX6_look_159 : decode cX6_look 159 = .ok (.iconst 1, 1) := by decide +kernel
theorem dX6_look_160 : decode cX6_look 160 = .ok (.ireturn, 1) := by decide +kernel
theorem dX6_fillWords_0 : decode cX6_fillWords 0 = .ok (.aload_n 0, 1) := by decide +kernel
theorem dX6_fillWords_1 : decode cX6_fillWords 1 = .ok (.getfield 9, 3) := by decide +kernel
theorem dX6_fillWords_4 : decode cX6_fillWords 4 = .ok (.iconst 0, 1) := by decide +kernel
theorem dX6_fillWords_5 : decode cX6_fillWords 5 = .ok (.aload_n 1, 1) := by decide +kernel
theorem dX6_fillWords_6 : decode cX6_fillWords 6 = .ok (.iconst 0, 1) := by decide +kernel
theorem dX6_fillWords_7 : decode cX6_fillWords 7 = .ok (.invokevirtual 23, 3) := by decide +kernel
theorem dX6_fillWords_10 : decode cX6_fillWords 10 = .ok (.iastore, 1) := by decide +kernel
theorem dX6_fillWords_11 : decode cX6_fillWords 11 = .ok (.aload_n 0, 1) := by decide +kernel
theorem dX6_fillWords_12 : decode cX6_fillWords 12 = .ok (.getfield 9, 3) := by decide +kernel
theorem dX6_fillWords_15 : decode cX6_fillWords 15 = .ok (.iconst 1, 1) := by decide +kernel
theorem dX6_fillWords_16 : decode cX6_fillWords 16 = .ok (.aload_n 1, 1) := by decide +kernel
theorem dX6_fillWords_17 : decode cX6_fillWords 17 = .ok (.iconst 1, 1) := by decide +kernel
theorem dX6_fillWords_18 : decode cX6_fillWords 18 = .ok (.invokevirtual 23, 3) := by decide +kernel
theorem dX6_fillWords_21 : decode cX6_fillWords 21 = .ok (.iastore, 1) := by decide +kernel
theorem dX6_fillWords_22 : decode cX6_fillWords 22 = .ok (.aload_n 0, 1) := by decide +kernel
theorem dX6_fillWords_23 : decode cX6_fillWords 23 = .ok (.getfield 9, 3) := by decide +kernel
theorem dX6_fillWords_26 : decode cX6_fillWords 26 = .ok (.iconst 2, 1) := by decide +kernel
theorem dX6_fillWords_27 : decode cX6_fillWords 27 = .ok (.aload_n 1, 1) := by decide +kernel
theorem dX6_fillWords_28 : decode cX6_fillWords 28 = .ok (.iconst 2, 1) := by decide +kernel
theorem dX6_fillWords_29 : decode cX6_fillWords 29 = .ok (.invokevirtual 23, 3) := by decide +kernel
theorem dX6_fillWords_32 : decode cX6_fillWords 32 = .ok (.iastore, 1) := by decide +kernel
theorem dX6_fillWords_33 : decode cX6_fillWords 33 = .ok (.aload_n 0, 1) := by decide +kernel
theorem dX6_fillWords_34 : decode cX6_fillWords 34 = .ok (.getfield 9, 3) := by decide +kernel
theorem dX6_fillWords_37 : decode cX6_fillWords 37 = .ok (.iconst 3, 1) := by decide +kernel
theorem dX6_fillWords_38 : decode cX6_fillWords 38 = .ok (.aload_n 1, 1) := by decide +kernel
theorem dX6_fillWords_39 : decode cX6_fillWords 39 = .ok (.aload_n 1, 1) := by decide +kernel
theorem dX6_fillWords_40 : decode cX6_fillWords 40 = .ok (.getfield 59, 3) := by decide +kernel
theorem dX6_fillWords_43 : decode cX6_fillWords 43 = .ok (.iconst 1, 1) := by decide +kernel
theorem dX6_fillWords_44 : decode cX6_fillWords 44 = .ok (.isub, 1) := by decide +kernel
theorem dX6_fillWords_45 : decode cX6_fillWords 45 = .ok (.invokevirtual 23, 3) := by decide +kernel
theorem dX6_fillWords_48 : decode cX6_fillWords 48 = .ok (.iastore, 1) := by decide +kernel
theorem dX6_fillWords_49 : decode cX6_fillWords 49 = .ok (.aload_n 0, 1) := by decide +kernel
theorem dX6_fillWords_50 : decode cX6_fillWords 50 = .ok (.getfield 9, 3) := by decide +kernel
theorem dX6_fillWords_53 : decode cX6_fillWords 53 = .ok (.iconst 4, 1) := by decide +kernel
theorem dX6_fillWords_54 : decode cX6_fillWords 54 = .ok (.aload_n 1, 1) := by decide +kernel
theorem dX6_fillWords_55 : decode cX6_fillWords 55 = .ok (.getfield 59, 3) := by decide +kernel
theorem dX6_fillWords_58 : decode cX6_fillWords 58 = .ok (.iastore, 1) := by decide +kernel
theorem dX6_fillWords_59 : decode cX6_fillWords 59 = .ok (.aload_n 0, 1) := by decide +kernel
theorem dX6_fillWords_60 : decode cX6_fillWords 60 = .ok (.getfield 9, 3) := by decide +kernel
theorem dX6_fillWords_63 : decode cX6_fillWords 63 = .ok (.iconst 5, 1) := by decide +kernel
theorem dX6_fillWords_64 : decode cX6_fillWords 64 = .ok (.aload_n 1, 1) := by decide +kernel
theorem dX6_fillWords_65 : decode cX6_fillWords 65 = .ok (.getfield 29, 3) := by decide +kernel
theorem dX6_fillWords_68 : decode cX6_fillWords 68 = .ok (.iastore, 1) := by decide +kernel
theorem dX6_fillWords_69 : decode cX6_fillWords 69 = .ok (.aload_n 0, 1) := by decide +kernel
theorem dX6_fillWords_70 : decode cX6_fillWords 70 = .ok (.getfield 9, 3) := by decide +kernel
theorem dX6_fillWords_73 : decode cX6_fillWords 73 = .ok (.bipush 6, 2) := by decide +kernel
theorem dX6_fillWords_75 : decode cX6_fillWords 75 = .ok (.aload_n 1, 1) := by decide +kernel
theorem dX6_fillWords_76 : decode cX6_fillWords 76 = .ok (.getfield 62, 3) := by decide +kernel
theorem dX6_fillWords_79 : decode cX6_fillWords 79 = .ok (.iastore, 1) := by decide +kernel
theorem dX6_fillWords_80 : decode cX6_fillWords 80 = .ok (.aload_n 0, 1) := by decide +kernel
theorem dX6_fillWords_81 : decode cX6_fillWords 81 = .ok (.getfield 9, 3) := by decide +kernel
theorem dX6_fillWords_84 : decode cX6_fillWords 84 = .ok (.bipush 7, 2) := by decide +kernel
theorem dX6_fillWords_86 : decode cX6_fillWords 86 = .ok (.aload_n 0, 1) := by decide +kernel
theorem dX6_fillWords_87 : decode cX6_fillWords 87 = .ok (.getfield 19, 3) := by decide +kernel
theorem dX6_fillWords_90 : decode cX6_fillWords 90 = .ok (.getfield 65, 3) := by decide +kernel
theorem dX6_fillWords_93 : decode cX6_fillWords 93 = .ok (.iastore, 1) := by decide +kernel
theorem dX6_fillWords_94 : decode cX6_fillWords 94 = .ok (.return_, 1) := by decide +kernel
theorem dX6_make_0 : decode cX6_make 0 = .ok (.aload_n 1, 1) := by decide +kernel
theorem dX6_make_1 : decode cX6_make 1 = .ok (.iconst 0, 1) := by decide +kernel
theorem dX6_make_2 : decode cX6_make 2 = .ok (.aload_n 0, 1) := by decide +kernel
theorem dX6_make_3 : decode cX6_make 3 = .ok (.getfield 33, 3) := by decide +kernel
theorem dX6_make_6 : decode cX6_make 6 = .ok (.iconst 1, 1) := by decide +kernel
theorem dX6_make_7 : decode cX6_make 7 = .ok (.isub, 1) := by decide +kernel
theorem dX6_make_8 : decode cX6_make 8 = .ok (.invokevirtual 68, 3) := by decide +kernel
theorem dX6_make_11 : decode cX6_make 11 = .ok (.aload_n 0, 1) := by decide +kernel
theorem dX6_make_12 : decode cX6_make 12 = .ok (.getfield 36, 3) := by decide +kernel
theorem dX6_make_15 : decode cX6_make 15 = .ok (.ifCond .le 11, 3) := by decide +kernel
theorem dX6_make_18 : decode cX6_make 18 = .ok (.aload_n 1, 1) := by decide +kernel
theorem dX6_make_19 : decode cX6_make 19 = .ok (.aload_n 0, 1) := by decide +kernel
theorem dX6_make_20 : decode cX6_make 20 = .ok (.getfield 36, 3) := by decide +kernel
theorem dX6_make_23 : decode cX6_make 23 = .ok (.invokevirtual 72, 3) := by decide +kernel
theorem dX6_make_26 : decode cX6_make 26 = .ok (.aload_n 1, 1) := by decide +kernel
theorem dX6_make_27 : decode cX6_make 27 = .ok (.aload_n 1, 1) := by decide +kernel
theorem dX6_make_28 : decode cX6_make 28 = .ok (.getfield 76, 3) := by decide +kernel
theorem dX6_make_31 : decode cX6_make 31 = .ok (.iconst 1, 1) := by decide +kernel
theorem dX6_make_32 : decode cX6_make 32 = .ok (.iadd, 1) := by decide +kernel
theorem dX6_make_33 : decode cX6_make 33 = .ok (.sipush 9999, 3) := by decide +kernel
theorem dX6_make_36 : decode cX6_make 36 = .ok (.invokestatic 79, 3) := by decide +kernel
theorem dX6_make_39 : decode cX6_make 39 = .ok (.putfield 76, 3) := by decide +kernel
theorem dX6_make_42 : decode cX6_make 42 = .ok (.aload_n 1, 1) := by decide +kernel
theorem dX6_make_43 : decode cX6_make 43 = .ok (.aload_n 0, 1) := by decide +kernel
theorem dX6_make_44 : decode cX6_make 44 = .ok (.getfield 33, 3) := by decide +kernel
theorem dX6_make_47 : decode cX6_make 47 = .ok (.bipush 13, 2) := by decide +kernel
theorem dX6_make_49 : decode cX6_make 49 = .ok (.invokestatic 79, 3) := by decide +kernel
theorem dX6_make_52 : decode cX6_make 52 = .ok (.putfield 29, 3) := by decide +kernel
theorem dX6_make_55 : decode cX6_make 55 = .ok (.return_, 1) := by decide +kernel
theorem dX6_goOn_0 : decode cX6_goOn 0 = .ok (.aload_n 0, 1) := by decide +kernel
theorem dX6_goOn_1 : decode cX6_goOn 1 = .ok (.getfield 19, 3) := by decide +kernel
theorem dX6_goOn_4 : decode cX6_goOn 4 = .ok (.getfield 85, 3) := by decide +kernel
theorem dX6_goOn_7 : decode cX6_goOn 7 = .ok (.sipush 300, 3) := by decide +kernel
theorem dX6_goOn_10 : decode cX6_goOn 10 = .ok (.invokestatic 79, 3) := by decide +kernel
theorem dX6_goOn_13 : decode cX6_goOn 13 = .ok (.istore_n 2, 1) := by decide +kernel
theorem dX6_goOn_14 : decode cX6_goOn 14 = .ok (.aload_n 0, 1) := by decide +kernel
theorem dX6_goOn_15 : decode cX6_goOn 15 = .ok (.iconst (-1), 1) := by decide +kernel
theorem dX6_goOn_16 : decode cX6_goOn 16 = .ok (.putfield 88, 3) := by decide +kernel
theorem dX6_goOn_19 : decode cX6_goOn 19 = .ok (.aload_n 0, 1) := by decide +kernel
theorem dX6_goOn_20 : decode cX6_goOn 20 = .ok (.iconst 3, 1) := by decide +kernel
theorem dX6_goOn_21 : decode cX6_goOn 21 = .ok (.putfield 91, 3) := by decide +kernel
theorem dX6_goOn_24 : decode cX6_goOn 24 = .ok (.aload_n 0, 1) := by decide +kernel
theorem dX6_goOn_25 : decode cX6_goOn 25 = .ok (.iconst 0, 1) := by decide +kernel
theorem dX6_goOn_26 : decode cX6_goOn 26 = .ok (.putfield 94, 3) := by decide +kernel
theorem dX6_goOn_29 : decode cX6_goOn 29 = .ok (.iconst 0, 1) := by decide +kernel
theorem dX6_goOn_30 : decode cX6_goOn 30 = .ok (.istore_n 3, 1) := by decide +kernel
theorem dX6_goOn_31 : decode cX6_goOn 31 = .ok (.iload_n 3, 1) := by decide +kernel
theorem dX6_goOn_32 : decode cX6_goOn 32 = .ok (.iload_n 2, 1) := by decide +kernel
theorem dX6_goOn_33 : decode cX6_goOn 33 = .ok (.if_icmp .gt 75, 3) := by decide +kernel
theorem dX6_goOn_36 : decode cX6_goOn 36 = .ok (.aload_n 0, 1) := by decide +kernel
theorem dX6_goOn_37 : decode cX6_goOn 37 = .ok (.iload_n 3, 1) := by decide +kernel
theorem dX6_goOn_38 : decode cX6_goOn 38 = .ok (.putfield 94, 3) := by decide +kernel
theorem dX6_goOn_41 : decode cX6_goOn 41 = .ok (.aload_n 0, 1) := by decide +kernel
theorem dX6_goOn_42 : decode cX6_goOn 42 = .ok (.aload_n 0, 1) := by decide +kernel
theorem dX6_goOn_43 : decode cX6_goOn 43 = .ok (.aload_n 1, 1) := by decide +kernel
theorem dX6_goOn_44 : decode cX6_goOn 44 = .ok (.invokevirtual 97, 3) := by decide +kernel
theorem dX6_goOn_47 : decode cX6_goOn 47 = .ok (.putfield 91, 3) := by decide +kernel
theorem dX6_goOn_50 : decode cX6_goOn 50 = .ok (.aload_n 0, 1) := by decide +kernel
theorem dX6_goOn_51 : decode cX6_goOn 51 = .ok (.getfield 91, 3) := by decide +kernel
theorem dX6_goOn_54 : decode cX6_goOn 54 = .ok (.iconst 3, 1) := by decide +kernel
theorem dX6_goOn_55 : decode cX6_goOn 55 = .ok (.if_icmp .eq 4, 3) := by decide +kernel
theorem dX6_goOn_58 : decode cX6_goOn 58 = .ok (.return_, 1) := by decide +kernel
theorem dX6_goOn_59 : decode cX6_goOn 59 = .ok (.aload_n 0, 1) := by decide +kernel
theorem dX6_goOn_60 : decode cX6_goOn 60 = .ok (.getfield 15, 3) := by decide +kernel
theorem dX6_goOn_63 : decode cX6_goOn 63 = .ok (.iload_n 3, 1) := by decide +kernel
theorem dX6_goOn_64 : decode cX6_goOn 64 = .ok (.aload_n 1, 1) := by decide +kernel
theorem dX6_goOn_65 : decode cX6_goOn 65 = .ok (.invokevirtual 101, 3) := by decide +kernel
theorem dX6_goOn_68 : decode cX6_goOn 68 = .ok (.lastore, 1) := by decide +kernel
theorem dX6_goOn_69 : decode cX6_goOn 69 = .ok (.aload_n 0, 1) := by decide +kernel
theorem dX6_goOn_70 : decode cX6_goOn 70 = .ok (.aload_n 0, 1) := by decide +kernel
theorem dX6_goOn_71 : decode cX6_goOn 71 = .ok (.iload_n 3, 1) := by decide +kernel
theorem dX6_goOn_72 : decode cX6_goOn 72 = .ok (.invokevirtual 105, 3) := by decide +kernel
theorem dX6_goOn_75 : decode cX6_goOn 75 = .ok (.putfield 88, 3) := by decide +kernel
theorem dX6_goOn_78 : decode cX6_goOn 78 = .ok (.aload_n 0, 1) := by decide +kernel
theorem dX6_goOn_79 : decode cX6_goOn 79 = .ok (.getfield 88, 3) := by decide +kernel
theorem dX6_goOn_82 : decode cX6_goOn 82 = .ok (.iconst (-1), 1) := by decide +kernel
theorem dX6_goOn_83 : decode cX6_goOn 83 = .ok (.if_icmp .eq 9, 3) := by decide +kernel
theorem dX6_goOn_86 : decode cX6_goOn 86 = .ok (.aload_n 0, 1) := by decide +kernel
theorem dX6_goOn_87 : decode cX6_goOn 87 = .ok (.iconst 2, 1) := by decide +kernel
theorem dX6_goOn_88 : decode cX6_goOn 88 = .ok (.putfield 91, 3) := by decide +kernel
theorem dX6_goOn_91 : decode cX6_goOn 91 = .ok (.return_, 1) := by decide +kernel
theorem dX6_goOn_92 : decode cX6_goOn 92 = .ok (.iload_n 3, 1) := by decide +kernel
theorem dX6_goOn_93 : decode cX6_goOn 93 = .ok (.iload_n 2, 1) := by decide +kernel
theorem dX6_goOn_94 : decode cX6_goOn 94 = .ok (.if_icmp .ge 8, 3) := by decide +kernel
theorem dX6_goOn_97 : decode cX6_goOn 97 = .ok (.aload_n 0, 1) := by decide +kernel
theorem dX6_goOn_98 : decode cX6_goOn 98 = .ok (.aload_n 1, 1) := by decide +kernel
theorem dX6_goOn_99 : decode cX6_goOn 99 = .ok (.invokevirtual 108, 3) := by decide +kernel
theorem dX6_goOn_102 : decode cX6_goOn 102 = .ok (.iinc 3 1, 3) := by decide +kernel
theorem dX6_goOn_105 : decode cX6_goOn 105 = .ok (.goto (-74), 3) := by decide +kernel
theorem dX6_goOn_108 : decode cX6_goOn 108 = .ok (.return_, 1) := by decide +kernel
theorem dX6_earlier_0 : decode cX6_earlier 0 = .ok (.iconst 0, 1) := by decide +kernel
theorem dX6_earlier_1 : decode cX6_earlier 1 = .ok (.istore_n 2, 1) := by decide +kernel
theorem dX6_earlier_2 : decode cX6_earlier 2 = .ok (.iload_n 2, 1) := by decide +kernel
theorem dX6_earlier_3 : decode cX6_earlier 3 = .ok (.iload_n 1, 1) := by decide +kernel
theorem dX6_earlier_4 : decode cX6_earlier 4 = .ok (.if_icmp .ge 36, 3) := by decide +kernel
theorem dX6_earlier_7 : decode cX6_earlier 7 = .ok (.iload_n 1, 1) := by decide +kernel
theorem dX6_earlier_8 : decode cX6_earlier 8 = .ok (.aload_n 0, 1) := by decide +kernel
theorem dX6_earlier_9 : decode cX6_earlier 9 = .ok (.getfield 15, 3) := by decide +kernel
theorem dX6_earlier_12 : decode cX6_earlier 12 = .ok (.arraylength, 1) := by decide +kernel
theorem dX6_earlier_13 : decode cX6_earlier 13 = .ok (.if_icmp .ge 27, 3) := by decide +kernel
theorem dX6_earlier_16 : decode cX6_earlier 16 = .ok (.aload_n 0, 1) := by decide +kernel
theorem dX6_earlier_17 : decode cX6_earlier 17 = .ok (.getfield 15, 3) := by decide +kernel
theorem dX6_earlier_20 : decode cX6_earlier 20 = .ok (.iload_n 2, 1) := by decide +kernel
theorem dX6_earlier_21 : decode cX6_earlier 21 = .ok (.laload, 1) := by decide +kernel
theorem dX6_earlier_22 : decode cX6_earlier 22 = .ok (.aload_n 0, 1) := by decide +kernel
theorem dX6_earlier_23 : decode cX6_earlier 23 = .ok (.getfield 15, 3) := by decide +kernel
theorem dX6_earlier_26 : decode cX6_earlier 26 = .ok (.iload_n 1, 1) := by decide +kernel
theorem dX6_earlier_27 : decode cX6_earlier 27 = .ok (.laload, 1) := by decide +kernel
theorem dX6_earlier_28 : decode cX6_earlier 28 = .ok (.lcmp, 1) := by decide +kernel
theorem dX6_earlier_29 : decode cX6_earlier 29 = .ok (.ifCond .ne 5, 3) := by decide +kernel
theorem dX6_earlier_32 : decode cX6_earlier 32 = .ok (.iload_n 2, 1) := by decide +kernel
theorem dX6_earlier_33 : decode cX6_earlier 33 = .ok (.ireturn, 1) := by decide +kernel
theorem dX6_earlier_34 : decode cX6_earlier 34 = .ok (.iinc 2 1, 3) := by decide +kernel
theorem dX6_earlier_37 : decode cX6_earlier 37 = .ok (.goto (-35), 3) := by decide +kernel
theorem dX6_earlier_40 : decode cX6_earlier 40 = .ok (.iconst (-1), 1) := by decide +kernel
theorem dX6_earlier_41 : decode cX6_earlier 41 = .ok (.ireturn, 1) := by decide +kernel
theorem dX6_endsBehind_0 : decode cX6_endsBehind 0 = .ok (.aload_n 0, 1) := by decide +kernel
theorem dX6_endsBehind_1 : decode cX6_endsBehind 1 = .ok (.getfield 19, 3) := by decide +kernel
theorem dX6_endsBehind_4 : decode cX6_endsBehind 4 = .ok (.getfield 85, 3) := by decide +kernel
theorem dX6_endsBehind_7 : decode cX6_endsBehind 7 = .ok (.sipush 300, 3) := by decide +kernel
theorem dX6_endsBehind_10 : decode cX6_endsBehind 10 = .ok (.invokestatic 79, 3) := by decide +kernel
theorem dX6_endsBehind_13 : decode cX6_endsBehind 13 = .ok (.istore_n 2, 1) := by decide +kernel
theorem dX6_endsBehind_14 : decode cX6_endsBehind 14 = .ok (.ldc2_w 111, 3) := by decide +kernel
theorem dX6_endsBehind_17 : decode cX6_endsBehind 17 = .ok (.lstore_n 3, 1) := by decide +kernel
theorem dX6_endsBehind_18 : decode cX6_endsBehind 18 = .ok (.iconst 0, 1) := by decide +kernel
theorem dX6_endsBehind_19 : decode cX6_endsBehind 19 = .ok (.istore 5, 2) := by decide +kernel
theorem dX6_endsBehind_21 : decode cX6_endsBehind 21 = .ok (.iload 5, 2) := by decide +kernel
theorem dX6_endsBehind_23 : decode cX6_endsBehind 23 = .ok (.iload_n 2, 1) := by decide +kernel
theorem dX6_endsBehind_24 : decode cX6_endsBehind 24 = .ok (.if_icmp .gt 67, 3) := by decide +kernel
theorem dX6_endsBehind_27 : decode cX6_endsBehind 27 = .ok (.aload_n 0, 1) := by decide +kernel
theorem dX6_endsBehind_28 : decode cX6_endsBehind 28 = .ok (.aload_n 1, 1) := by decide +kernel
theorem dX6_endsBehind_29 : decode cX6_endsBehind 29 = .ok (.invokevirtual 97, 3) := by decide +kernel
theorem dX6_endsBehind_32 : decode cX6_endsBehind 32 = .ok (.istore 6, 2) := by decide +kernel
theorem dX6_endsBehind_34 : decode cX6_endsBehind 34 = .ok (.iload 6, 2) := by decide +kernel
theorem dX6_endsBehind_36 : decode cX6_endsBehind 36 = .ok (.iconst 3, 1) := by decide +kernel
theorem dX6_endsBehind_37 : decode cX6_endsBehind 37 = .ok (.if_icmp .eq 15, 3) := by decide +kernel
theorem dX6_endsBehind_40 : decode cX6_endsBehind 40 = .ok (.iload 6, 2) := by decide +kernel
theorem dX6_endsBehind_42 : decode cX6_endsBehind 42 = .ok (.ifCond .ne 8, 3) := by decide +kernel
theorem dX6_endsBehind_45 : decode cX6_endsBehind 45 = .ok (.iload 5, 2) := by decide +kernel
theorem dX6_endsBehind_47 : decode cX6_endsBehind 47 = .ok (.goto 4, 3) := by decide +kernel
theorem dX6_endsBehind_50 : decode cX6_endsBehind 50 = .ok (.iconst (-1), 1) := by decide +kernel
theorem dX6_endsBehind_51 : decode cX6_endsBehind 51 = .ok (.ireturn, 1) := by decide +kernel
theorem dX6_endsBehind_52 : decode cX6_endsBehind 52 = .ok (.aload_n 1, 1) := by decide +kernel
theorem dX6_endsBehind_53 : decode cX6_endsBehind 53 = .ok (.invokevirtual 101, 3) := by decide +kernel
theorem dX6_endsBehind_56 : decode cX6_endsBehind 56 = .ok (.lstore 7, 2) := by decide +kernel
theorem dX6_endsBehind_58 : decode cX6_endsBehind 58 = .ok (.lload 7, 2) := by decide +kernel
theorem dX6_endsBehind_60 : decode cX6_endsBehind 60 = .ok (.lload_n 3, 1) := by decide +kernel
theorem dX6_endsBehind_61 : decode cX6_endsBehind 61 = .ok (.lcmp, 1) := by decide +kernel
theorem dX6_endsBehind_62 : decode cX6_endsBehind 62 = .ok (.ifCond .ne 5, 3) := by decide +kernel
theorem dX6_endsBehind_65 : decode cX6_endsBehind 65 = .ok (.iconst (-1), 1) := by decide +kernel
theorem dX6_endsBehind_66 : decode cX6_endsBehind 66 = .ok (.ireturn, 1) := by decide +kernel
theorem dX6_endsBehind_67 : decode cX6_endsBehind 67 = .ok (.iload 5, 2) := by decide +kernel
theorem dX6_endsBehind_69 : decode cX6_endsBehind 69 = .ok (.iload 5, 2) := by decide +kernel
theorem dX6_endsBehind_71 : decode cX6_endsBehind 71 = .ok (.iconst 1, 1) := by decide +kernel
theorem dX6_endsBehind_72 : decode cX6_endsBehind 72 = .ok (.isub, 1) := by decide +kernel
theorem dX6_endsBehind_73 : decode cX6_endsBehind 73 = .ok (.iand, 1) := by decide +kernel
theorem dX6_endsBehind_74 : decode cX6_endsBehind 74 = .ok (.ifCond .ne 6, 3) := by decide +kernel
theorem dX6_endsBehind_77 : decode cX6_endsBehind 77 = .ok (.lload 7, 2) := by decide +kernel
theorem dX6_endsBehind_79 : decode cX6_endsBehind 79 = .ok (.lstore_n 3, 1) := by decide +kernel
theorem dX6_endsBehind_80 : decode cX6_endsBehind 80 = .ok (.aload_n 0, 1) := by decide +kernel
theorem dX6_endsBehind_81 : decode cX6_endsBehind 81 = .ok (.aload_n 1, 1) := by decide +kernel
theorem dX6_endsBehind_82 : decode cX6_endsBehind 82 = .ok (.invokevirtual 108, 3) := by decide +kernel
theorem dX6_endsBehind_85 : decode cX6_endsBehind 85 = .ok (.iinc 5 1, 3) := by decide +kernel
theorem dX6_endsBehind_88 : decode cX6_endsBehind 88 = .ok (.goto (-67), 3) := by decide +kernel
theorem dX6_endsBehind_91 : decode cX6_endsBehind 91 = .ok (.iconst (-1), 1) := by decide +kernel
theorem dX6_endsBehind_92 : decode cX6_endsBehind 92 = .ok (.ireturn, 1) := by decide +kernel
theorem dX6_lookForCheat_0 : decode cX6_lookForCheat 0 = .ok (.aload_n 0, 1) := by decide +kernel
theorem dX6_lookForCheat_1 : decode cX6_lookForCheat 1 = .ok (.iconst (-1), 1) := by decide +kernel
theorem dX6_lookForCheat_2 : decode cX6_lookForCheat 2 = .ok (.putfield 113, 3) := by decide +kernel
theorem dX6_lookForCheat_5 : decode cX6_lookForCheat 5 = .ok (.aload_n 0, 1) := by decide +kernel
theorem dX6_lookForCheat_6 : decode cX6_lookForCheat 6 = .ok (.iconst (-1), 1) := by decide +kernel
theorem dX6_lookForCheat_7 : decode cX6_lookForCheat 7 = .ok (.putfield 116, 3) := by decide +kernel
theorem dX6_lookForCheat_10 : decode cX6_lookForCheat 10 = .ok (.aload_n 0, 1) := by decide +kernel
theorem dX6_lookForCheat_11 : decode cX6_lookForCheat 11 = .ok (.iconst (-1), 1) := by decide +kernel
theorem dX6_lookForCheat_12 : decode cX6_lookForCheat 12 = .ok (.putfield 119, 3) := by decide +kernel
theorem dX6_lookForCheat_15 : decode cX6_lookForCheat 15 = .ok (.iconst 0, 1) := by decide +kernel
theorem dX6_lookForCheat_16 : decode cX6_lookForCheat 16 = .ok (.istore_n 3, 1) := by decide +kernel
theorem dX6_lookForCheat_17 : decode cX6_lookForCheat 17 = .ok (.iload_n 3, 1) := by decide +kernel
theorem dX6_lookForCheat_18 : decode cX6_lookForCheat 18 = .ok (.aload_n 1, 1) := by decide +kernel
theorem dX6_lookForCheat_19 : decode cX6_lookForCheat 19 = .ok (.getfield 59, 3) := by decide +kernel
theorem dX6_lookForCheat_22 : decode cX6_lookForCheat 22 = .ok (.if_icmp .ge 88, 3) := by decide +kernel
theorem dX6_lookForCheat_25 : decode cX6_lookForCheat 25 = .ok (.iload_n 3, 1) := by decide +kernel
theorem dX6_lookForCheat_26 : decode cX6_lookForCheat 26 = .ok (.iconst 1, 1) := by decide +kernel
theorem dX6_lookForCheat_27 : decode cX6_lookForCheat 27 = .ok (.iadd, 1) := by decide +kernel
theorem dX6_lookForCheat_28 : decode cX6_lookForCheat 28 = .ok (.istore 4, 2) := by decide +kernel
theorem dX6_lookForCheat_30 : decode cX6_lookForCheat 30 = .ok (.iload 4, 2) := by decide +kernel
theorem dX6_lookForCheat_32 : decode cX6_lookForCheat 32 = .ok (.aload_n 1, 1) := by decide +kernel
theorem dX6_lookForCheat_33 : decode cX6_lookForCheat 33 = .ok (.getfield 59, 3) := by decide +kernel
theorem dX6_lookForCheat_36 : decode cX6_lookForCheat 36 = .ok (.if_icmp .ge 68, 3) := by decide +kernel
theorem dX6_lookForCheat_39 : decode cX6_lookForCheat 39 = .ok (.aload_n 1, 1) := by decide +kernel
theorem dX6_lookForCheat_40 : decode cX6_lookForCheat 40 = .ok (.iload_n 3, 1) := by decide +kernel
theorem dX6_lookForCheat_41 : decode cX6_lookForCheat 41 = .ok (.invokevirtual 23, 3) := by decide +kernel
theorem dX6_lookForCheat_44 : decode cX6_lookForCheat 44 = .ok (.aload_n 1, 1) := by decide +kernel
theorem dX6_lookForCheat_45 : decode cX6_lookForCheat 45 = .ok (.iload 4, 2) := by decide +kernel
theorem dX6_lookForCheat_47 : decode cX6_lookForCheat 47 = .ok (.invokevirtual 23, 3) := by decide +kernel
theorem dX6_lookForCheat_50 : decode cX6_lookForCheat 50 = .ok (.if_icmp .eq 48, 3) := by decide +kernel
theorem dX6_lookForCheat_53 : decode cX6_lookForCheat 53 = .ok (.aload_n 2, 1) := by decide +kernel
theorem dX6_lookForCheat_54 : decode cX6_lookForCheat 54 = .ok (.aload_n 1, 1) := by decide +kernel
theorem dX6_lookForCheat_55 : decode cX6_lookForCheat 55 = .ok (.invokevirtual 122, 3) := by decide +kernel
theorem dX6_lookForCheat_58 : decode cX6_lookForCheat 58 = .ok (.aload_n 2, 1) := by decide +kernel
theorem dX6_lookForCheat_59 : decode cX6_lookForCheat 59 = .ok (.iload_n 3, 1) := by decide +kernel
theorem dX6_lookForCheat_60 : decode cX6_lookForCheat 60 = .ok (.iload 4, 2) := by decide +kernel
theorem dX6_lookForCheat_62 : decode cX6_lookForCheat 62 = .ok (.invokevirtual 125, 3) := by decide +kernel
theorem dX6_lookForCheat_65 : decode cX6_lookForCheat 65 = .ok (.aload_n 0, 1) := by decide +kernel
theorem dX6_lookForCheat_66 : decode cX6_lookForCheat 66 = .ok (.aload_n 2, 1) := by decide +kernel
theorem dX6_lookForCheat_67 : decode cX6_lookForCheat 67 = .ok (.invokevirtual 128, 3) := by decide +kernel
theorem dX6_lookForCheat_70 : decode cX6_lookForCheat 70 = .ok (.istore 5, 2) := by decide +kernel
theorem dX6_lookForCheat_72 : decode cX6_lookForCheat 72 = .ok (.iload 5, 2) := by decide +kernel
theorem dX6_lookForCheat_74 : decode cX6_lookForCheat 74 = .ok (.aload_n 0, 1) := by decide +kernel
theorem dX6_lookForCheat_75 : decode cX6_lookForCheat 75 = .ok (.getfield 113, 3) := by decide +kernel
theorem dX6_lookForCheat_78 : decode cX6_lookForCheat 78 = .ok (.if_icmp .le 20, 3) := by decide +kernel
theorem dX6_lookForCheat_81 : decode cX6_lookForCheat 81 = .ok (.aload_n 0, 1) := by decide +kernel
theorem dX6_lookForCheat_82 : decode cX6_lookForCheat 82 = .ok (.iload 5, 2) := by decide +kernel
theorem dX6_lookForCheat_84 : decode cX6_lookForCheat 84 = .ok (.putfield 113, 3) := by decide +kernel
theorem dX6_lookForCheat_87 : decode cX6_lookForCheat 87 = .ok (.aload_n 0, 1) := by decide +kernel
theorem dX6_lookForCheat_88 : decode cX6_lookForCheat 88 = .ok (.iload_n 3, 1) := by decide +kernel
theorem dX6_lookForCheat_89 : decode cX6_lookForCheat 89 = .ok (.putfield 116, 3) := by decide +kernel
theorem dX6_lookForCheat_92 : decode cX6_lookForCheat 92 = .ok (.aload_n 0, 1) := by decide +kernel
theorem dX6_lookForCheat_93 : decode cX6_lookForCheat 93 = .ok (.iload 4, 2) := by decide +kernel
theorem dX6_lookForCheat_95 : decode cX6_lookForCheat 95 = .ok (.putfield 119, 3) := by decide +kernel
theorem dX6_lookForCheat_98 : decode cX6_lookForCheat 98 = .ok (.iinc 4 1, 3) := by decide +kernel
theorem dX6_lookForCheat_101 : decode cX6_lookForCheat 101 = .ok (.goto (-71), 3) := by decide +kernel
theorem dX6_lookForCheat_104 : decode cX6_lookForCheat 104 = .ok (.iinc 3 1, 3) := by decide +kernel
theorem dX6_lookForCheat_107 : decode cX6_lookForCheat 107 = .ok (.goto (-90), 3) := by decide +kernel
theorem dX6_lookForCheat_110 : decode cX6_lookForCheat 110 = .ok (.return_, 1) := by decide +kernel
theorem dX7_init_0 : decode cX7_init 0 = .ok (.aload_n 0, 1) := by decide +kernel
theorem dX7_init_1 : decode cX7_init 1 = .ok (.invokespecial 3, 3) := by decide +kernel
theorem dX7_init_4 : decode cX7_init 4 = .ok (.aload_n 0, 1) := by decide +kernel
theorem dX7_init_5 : decode cX7_init 5 = .ok (.iconst (-1), 1) := by decide +kernel
theorem dX7_init_6 : decode cX7_init 6 = .ok (.putfield 9, 3) := by decide +kernel
theorem dX7_init_9 : decode cX7_init 9 = .ok (.aload_n 0, 1) := by decide +kernel
theorem dX7_init_10 : decode cX7_init 10 = .ok (.sipush 200, 3) := by decide +kernel
theorem dX7_init_13 : decode cX7_init 13 = .ok (.putfield 15, 3) := by decide +kernel
theorem dX7_init_16 : decode cX7_init 16 = .ok (.aload_n 0, 1) := by decide +kernel
theorem dX7_init_17 : decode cX7_init 17 = .ok (.bipush 6, 2) := by decide +kernel
theorem dX7_init_19 : decode cX7_init 19 = .ok (.anewarray 18, 3) := by decide +kernel
theorem dX7_init_22 : decode cX7_init 22 = .ok (.putfield 20, 3) := by decide +kernel
theorem dX7_init_25 : decode cX7_init 25 = .ok (.aload_n 0, 1) := by decide +kernel
theorem dX7_init_26 : decode cX7_init 26 = .ok (.bipush 8, 2) := by decide +kernel
theorem dX7_init_28 : decode cX7_init 28 = .ok (.newarray .int, 2) := by decide +kernel
theorem dX7_init_30 : decode cX7_init 30 = .ok (.putfield 24, 3) := by decide +kernel
theorem dX7_init_33 : decode cX7_init 33 = .ok (.aload_n 0, 1) := by decide +kernel
theorem dX7_init_34 : decode cX7_init 34 = .ok (.bipush 8, 2) := by decide +kernel
theorem dX7_init_36 : decode cX7_init 36 = .ok (.newarray .int, 2) := by decide +kernel
theorem dX7_init_38 : decode cX7_init 38 = .ok (.putfield 28, 3) := by decide +kernel
theorem dX7_init_41 : decode cX7_init 41 = .ok (.aload_n 0, 1) := by decide +kernel
theorem dX7_init_42 : decode cX7_init 42 = .ok (.bipush 6, 2) := by decide +kernel
theorem dX7_init_44 : decode cX7_init 44 = .ok (.anewarray 31, 3) := by decide +kernel
theorem dX7_init_47 : decode cX7_init 47 = .ok (.putfield 33, 3) := by decide +kernel
theorem dX7_init_50 : decode cX7_init 50 = .ok (.iconst 0, 1) := by decide +kernel
theorem dX7_init_51 : decode cX7_init 51 = .ok (.istore_n 1, 1) := by decide +kernel
theorem dX7_init_52 : decode cX7_init 52 = .ok (.iload_n 1, 1) := by decide +kernel
theorem dX7_init_53 : decode cX7_init 53 = .ok (.aload_n 0, 1) := by decide +kernel
theorem dX7_init_54 : decode cX7_init 54 = .ok (.getfield 20, 3) := by decide +kernel
theorem dX7_init_57 : decode cX7_init 57 = .ok (.arraylength, 1) := by decide +kernel
theorem dX7_init_58 : decode cX7_init 58 = .ok (.if_icmp .ge 22, 3) := by decide +kernel
theorem dX7_init_61 : decode cX7_init 61 = .ok (.aload_n 0, 1) := by decide +kernel
theorem dX7_init_62 : decode cX7_init 62 = .ok (.getfield 20, 3) := by decide +kernel
theorem dX7_init_65 : decode cX7_init 65 = .ok (.iload_n 1, 1) := by decide +kernel
theorem dX7_init_66 : decode cX7_init 66 = .ok (.new 18, 3) := by decide +kernel
theorem dX7_init_69 : decode cX7_init 69 = .ok (.dup, 1) := by decide +kernel
theorem dX7_init_70 : decode cX7_init 70 = .ok (.invokespecial 37, 3) := by decide +kernel
theorem dX7_init_73 : decode cX7_init 73 = .ok (.aastore, 1) := by decide +kernel
theorem dX7_init_74 : decode cX7_init 74 = .ok (.iinc 1 1, 3) := by decide +kernel
theorem dX7_init_77 : decode cX7_init 77 = .ok (.goto (-25), 3) := by decide +kernel
theorem dX7_init_80 : decode cX7_init 80 = .ok (.return_, 1) := by decide +kernel
theorem dX7_copy_0 : decode cX7_copy 0 = .ok (.aload_n 0, 1) := by decide +kernel
theorem dX7_copy_1 : decode cX7_copy 1 = .ok (.aload_n 1, 1) := by decide +kernel
theorem dX7_copy_2 : decode cX7_copy 2 = .ok (.getfield 38, 3) := by decide +kernel
theorem dX7_copy_5 : decode cX7_copy 5 = .ok (.putfield 38, 3) := by decide +kernel
theorem dX7_copy_8 : decode cX7_copy 8 = .ok (.aload_n 0, 1) := by decide +kernel
theorem dX7_copy_9 : decode cX7_copy 9 = .ok (.aload_n 1, 1) := by decide +kernel
theorem dX7_copy_10 : decode cX7_copy 10 = .ok (.getfield 41, 3) := by decide +kernel
theorem dX7_copy_13 : decode cX7_copy 13 = .ok (.putfield 41, 3) := by decide +kernel
theorem dX7_copy_16 : decode cX7_copy 16 = .ok (.aload_n 0, 1) := by decide +kernel
theorem dX7_copy_17 : decode cX7_copy 17 = .ok (.aload_n 1, 1) := by decide +kernel
theorem dX7_copy_18 : decode cX7_copy 18 = .ok (.getfield 44, 3) := by decide +kernel
theorem dX7_copy_21 : decode cX7_copy 21 = .ok (.putfield 44, 3) := by decide +kernel
theorem dX7_copy_24 : decode cX7_copy 24 = .ok (.aload_n 0, 1) := by decide +kernel
theorem dX7_copy_25 : decode cX7_copy 25 = .ok (.aload_n 1, 1) := by decide +kernel
theorem dX7_copy_26 : decode cX7_copy 26 = .ok (.getfield 9, 3) := by decide +kernel
theorem dX7_copy_29 : decode cX7_copy 29 = .ok (.putfield 9, 3) := by decide +kernel
theorem dX7_copy_32 : decode cX7_copy 32 = .ok (.aload_n 0, 1) := by decide +kernel
theorem dX7_copy_33 : decode cX7_copy 33 = .ok (.aload_n 1, 1) := by decide +kernel
theorem dX7_copy_34 : decode cX7_copy 34 = .ok (.getfield 47, 3) := by decide +kernel
theorem dX7_copy_37 : decode cX7_copy 37 = .ok (.putfield 47, 3) := by decide +kernel
theorem dX7_copy_40 : decode cX7_copy 40 = .ok (.aload_n 0, 1) := by decide +kernel
theorem dX7_copy_41 : decode cX7_copy 41 = .ok (.aload_n 1, 1) := by decide +kernel
theorem dX7_copy_42 : decode cX7_copy 42 = .ok (.getfield 15, 3) := by decide +kernel
theorem dX7_copy_45 : decode cX7_copy 45 = .ok (.putfield 15, 3) := by decide +kernel
theorem dX7_copy_48 : decode cX7_copy 48 = .ok (.aload_n 0, 1) := by decide +kernel
theorem dX7_copy_49 : decode cX7_copy 49 = .ok (.aload_n 1, 1) := by decide +kernel
theorem dX7_copy_50 : decode cX7_copy 50 = .ok (.invokevirtual 50, 3) := by decide +kernel
theorem dX7_copy_53 : decode cX7_copy 53 = .ok (.aload_n 1, 1) := by decide +kernel
theorem dX7_copy_54 : decode cX7_copy 54 = .ok (.getfield 24, 3) := by decide +kernel
theorem dX7_copy_57 : decode cX7_copy 57 = .ok (.iconst 0, 1) := by decide +kernel
theorem dX7_copy_58 : decode cX7_copy 58 = .ok (.aload_n 0, 1) := by decide +kernel
theorem dX7_copy_59 : decode cX7_copy 59 = .ok (.getfield 24, 3) := by decide +kernel
theorem dX7_copy_62 : decode cX7_copy 62 = .ok (.iconst 0, 1) := by decide +kernel
theorem dX7_copy_63 : decode cX7_copy 63 = .ok (.bipush 8, 2) := by decide +kernel
theorem dX7_copy_65 : decode cX7_copy 65 = .ok (.invokestatic 54, 3) := by decide +kernel
theorem dX7_copy_68 : decode cX7_copy 68 = .ok (.aload_n 1, 1) := by decide +kernel
theorem dX7_copy_69 : decode cX7_copy 69 = .ok (.getfield 28, 3) := by decide +kernel
theorem dX7_copy_72 : decode cX7_copy 72 = .ok (.iconst 0, 1) := by decide +kernel
theorem dX7_copy_73 : decode cX7_copy 73 = .ok (.aload_n 0, 1) := by decide +kernel
theorem dX7_copy_74 : decode cX7_copy 74 = .ok (.getfield 28, 3) := by decide +kernel
theorem dX7_copy_77 : decode cX7_copy 77 = .ok (.iconst 0, 1) := by decide +kernel
theorem dX7_copy_78 : decode cX7_copy 78 = .ok (.bipush 8, 2) := by decide +kernel
theorem dX7_copy_80 : decode cX7_copy 80 = .ok (.invokestatic 54, 3) := by decide +kernel
theorem dX7_copy_83 : decode cX7_copy 83 = .ok (.iconst 0, 1) := by decide +kernel
theorem dX7_copy_84 : decode cX7_copy 84 = .ok (.istore_n 2, 1) := by decide +kernel
theorem dX7_copy_85 : decode cX7_copy 85 = .ok (.iload_n 2, 1) := by decide +kernel
theorem dX7_copy_86 : decode cX7_copy 86 = .ok (.aload_n 0, 1) := by decide +kernel
theorem dX7_copy_87 : decode cX7_copy 87 = .ok (.getfield 33, 3) := by decide +kernel
theorem dX7_copy_90 : decode cX7_copy 90 = .ok (.arraylength, 1) := by decide +kernel
theorem dX7_copy_91 : decode cX7_copy 91 = .ok (.if_icmp .ge 21, 3) := by decide +kernel
theorem dX7_copy_94 : decode cX7_copy 94 = .ok (.aload_n 0, 1) := by decide +kernel
theorem dX7_copy_95 : decode cX7_copy 95 = .ok (.getfield 33, 3) := by decide +kernel
theorem dX7_copy_98 : decode cX7_copy 98 = .ok (.iload_n 2, 1) := by decide +kernel
theorem dX7_copy_99 : decode cX7_copy 99 = .ok (.aload_n 1, 1) := by decide +kernel
theorem dX7_copy_100 : decode cX7_copy 100 = .ok (.getfield 33, 3) := by decide +kernel
theorem dX7_copy_103 : decode cX7_copy 103 = .ok (.iload_n 2, 1) := by decide +kernel
theorem dX7_copy_104 : decode cX7_copy 104 = .ok (.aaload, 1) := by decide +kernel
theorem dX7_copy_105 : decode cX7_copy 105 = .ok (.aastore, 1) := by decide +kernel
theorem dX7_copy_106 : decode cX7_copy 106 = .ok (.iinc 2 1, 3) := by decide +kernel
theorem dX7_copy_109 : decode cX7_copy 109 = .ok (.goto (-24), 3) := by decide +kernel
theorem dX7_copy_112 : decode cX7_copy 112 = .ok (.return_, 1) := by decide +kernel
theorem dX7_copyHeaps_0 : decode cX7_copyHeaps 0 = .ok (.iconst 0, 1) := by decide +kernel
theorem dX7_copyHeaps_1 : decode cX7_copyHeaps 1 = .ok (.istore_n 2, 1) := by decide +kernel
theorem dX7_copyHeaps_2 : decode cX7_copyHeaps 2 = .ok (.iload_n 2, 1) := by decide +kernel
theorem dX7_copyHeaps_3 : decode cX7_copyHeaps 3 = .ok (.aload_n 0, 1) := by decide +kernel
theorem dX7_copyHeaps_4 : decode cX7_copyHeaps 4 = .ok (.getfield 20, 3) := by decide +kernel
theorem dX7_copyHeaps_7 : decode cX7_copyHeaps 7 = .ok (.arraylength, 1) := by decide +kernel
theorem dX7_copyHeaps_8 : decode cX7_copyHeaps 8 = .ok (.if_icmp .ge 24, 3) := by decide +kernel
theorem dX7_copyHeaps_11 : decode cX7_copyHeaps 11 = .ok (.aload_n 0, 1) := by decide +kernel
theorem dX7_copyHeaps_12 : decode cX7_copyHeaps 12 = .ok (.getfield 20, 3) := by decide +kernel
theorem dX7_copyHeaps_15 : decode cX7_copyHeaps 15 = .ok (.iload_n 2, 1) := by decide +kernel
theorem dX7_copyHeaps_16 : decode cX7_copyHeaps 16 = .ok (.aaload, 1) := by decide +kernel
theorem dX7_copyHeaps_17 : decode cX7_copyHeaps 17 = .ok (.aload_n 1, 1) := by decide +kernel
theorem dX7_copyHeaps_18 : decode cX7_copyHeaps 18 = .ok (.getfield 20, 3) := by decide +kernel
theorem dX7_copyHeaps_21 : decode cX7_copyHeaps 21 = .ok (.iload_n 2, 1) := by decide +kernel
theorem dX7_copyHeaps_22 : decode cX7_copyHeaps 22 = .ok (.aaload, 1) := by decide +kernel
theorem dX7_copyHeaps_23 : decode cX7_copyHeaps 23 = .ok (.invokevirtual 60, 3) := by decide +kernel
theorem dX7_copyHeaps_26 : decode cX7_copyHeaps 26 = .ok (.iinc 2 1, 3) := by decide +kernel
theorem dX7_copyHeaps_29 : decode cX7_copyHeaps 29 = .ok (.goto (-27), 3) := by decide +kernel
theorem dX7_copyHeaps_32 : decode cX7_copyHeaps 32 = .ok (.return_, 1) := by decide +kernel
theorem dX7_at_0 : decode cX7_at 0 = .ok (.iload_n 1, 1) := by decide +kernel
theorem dX7_at_1 : decode cX7_at 1 = .ok (.ifCond .lt 29, 3) := by decide +kernel
theorem dX7_at_4 : decode cX7_at 4 = .ok (.iload_n 1, 1) := by decide +kernel
theorem dX7_at_5 : decode cX7_at 5 = .ok (.aload_n 0, 1) := by decide +kernel
theorem dX7_at_6 : decode cX7_at 6 = .ok (.getfield 38, 3) := by decide +kernel
theorem dX7_at_9 : decode cX7_at 9 = .ok (.if_icmp .ge 21, 3) := by decide +kernel
theorem dX7_at_12 : decode cX7_at 12 = .ok (.iload_n 1, 1) := by decide +kernel
theorem dX7_at_13 : decode cX7_at 13 = .ok (.aload_n 0, 1) := by decide +kernel
theorem dX7_at_14 : decode cX7_at 14 = .ok (.getfield 20, 3) := by decide +kernel
theorem dX7_at_17 : decode cX7_at 17 = .ok (.arraylength, 1) := by decide +kernel
theorem dX7_at_18 : decode cX7_at 18 = .ok (.if_icmp .ge 12, 3) := by decide +kernel
theorem dX7_at_21 : decode cX7_at 21 = .ok (.aload_n 0, 1) := by decide +kernel
theorem dX7_at_22 : decode cX7_at 22 = .ok (.getfield 20, 3) := by decide +kernel
theorem dX7_at_25 : decode cX7_at 25 = .ok (.iload_n 1, 1) := by decide +kernel
theorem dX7_at_26 : decode cX7_at 26 = .ok (.aaload, 1) := by decide +kernel
theorem dX7_at_27 : decode cX7_at 27 = .ok (.goto 4, 3) := by decide +kernel
theorem dX7_at_30 : decode cX7_at 30 = .ok (.aconst_null, 1) := by decide +kernel
theorem dX7_at_31 : decode cX7_at 31 = .ok (.areturn, 1) := by decide +kernel
theorem dX7_inForce_0 : decode cX7_inForce 0 = .ok (.aload_n 0, 1) := by decide +kernel
theorem dX7_inForce_1 : decode cX7_inForce 1 = .ok (.getfield 9, 3) := by decide +kernel
theorem dX7_inForce_4 : decode cX7_inForce 4 = .ok (.ifCond .lt 27, 3) := by decide +kernel
theorem dX7_inForce_7 : decode cX7_inForce 7 = .ok (.aload_n 0, 1) := by decide +kernel
theorem dX7_inForce_8 : decode cX7_inForce 8 = .ok (.getfield 9, 3) := by decide +kernel
theorem dX7_inForce_11 : decode cX7_inForce 11 = .ok (.aload_n 0, 1) := by decide +kernel
theorem dX7_inForce_12 : decode cX7_inForce 12 = .ok (.getfield 33, 3) := by decide +kernel
theorem dX7_inForce_15 : decode cX7_inForce 15 = .ok (.arraylength, 1) := by decide +kernel
theorem dX7_inForce_16 : decode cX7_inForce 16 = .ok (.if_icmp .ge 15, 3) := by decide +kernel
theorem dX7_inForce_19 : decode cX7_inForce 19 = .ok (.aload_n 0, 1) := by decide +kernel
theorem dX7_inForce_20 : decode cX7_inForce 20 = .ok (.getfield 33, 3) := by decide +kernel
theorem dX7_inForce_23 : decode cX7_inForce 23 = .ok (.aload_n 0, 1) := by decide +kernel
theorem dX7_inForce_24 : decode cX7_inForce 24 = .ok (.getfield 9, 3) := by decide +kernel
theorem dX7_inForce_27 : decode cX7_inForce 27 = .ok (.aaload, 1) := by decide +kernel
theorem dX7_inForce_28 : decode cX7_inForce 28 = .ok (.goto 4, 3) := by decide +kernel
theorem dX7_inForce_31 : decode cX7_inForce 31 = .ok (.aconst_null, 1) := by decide +kernel
theorem dX7_inForce_32 : decode cX7_inForce 32 = .ok (.areturn, 1) := by decide +kernel
theorem dX7_addHeap_0 : decode cX7_addHeap 0 = .ok (.aload_n 0, 1) := by decide +kernel
theorem dX7_addHeap_1 : decode cX7_addHeap 1 = .ok (.getfield 38, 3) := by decide +kernel
theorem dX7_addHeap_4 : decode cX7_addHeap 4 = .ok (.aload_n 0, 1) := by decide +kernel
theorem dX7_addHeap_5 : decode cX7_addHeap 5 = .ok (.getfield 20, 3) := by decide +kernel
theorem dX7_addHeap_8 : decode cX7_addHeap 8 = .ok (.arraylength, 1) := by decide +kernel
theorem dX7_addHeap_9 : decode cX7_addHeap 9 = .ok (.if_icmp .lt 5, 3) := by decide +kernel
theorem dX7_addHeap_12 : decode cX7_addHeap 12 = .ok (.iconst (-1), 1) := by decide +kernel
theorem dX7_addHeap_13 : decode cX7_addHeap 13 = .ok (.ireturn, 1) := by decide +kernel
theorem dX7_addHeap_14 : decode cX7_addHeap 14 = .ok (.aload_n 0, 1) := by decide +kernel
theorem dX7_addHeap_15 : decode cX7_addHeap 15 = .ok (.getfield 20, 3) := by decide +kernel
theorem dX7_addHeap_18 : decode cX7_addHeap 18 = .ok (.aload_n 0, 1) := by decide +kernel
theorem dX7_addHeap_19 : decode cX7_addHeap 19 = .ok (.getfield 38, 3) := by decide +kernel
theorem dX7_addHeap_22 : decode cX7_addHeap 22 = .ok (.aaload, 1) := by decide +kernel
theorem dX7_addHeap_23 : decode cX7_addHeap 23 = .ok (.astore_n 3, 1) := by decide +kernel
theorem dX7_addHeap_24 : decode cX7_addHeap 24 = .ok (.aload_n 3, 1) := by decide +kernel
theorem dX7_addHeap_25 : decode cX7_addHeap 25 = .ok (.iconst 0, 1) := by decide +kernel
theorem dX7_addHeap_26 : decode cX7_addHeap 26 = .ok (.iload_n 2, 1) := by decide +kernel
theorem dX7_addHeap_27 : decode cX7_addHeap 27 = .ok (.bipush 13, 2) := by decide +kernel
theorem dX7_addHeap_29 : decode cX7_addHeap 29 = .ok (.aload_n 1, 1) := by decide +kernel
theorem dX7_addHeap_30 : decode cX7_addHeap 30 = .ok (.arraylength, 1) := by decide +kernel
theorem dX7_addHeap_31 : decode cX7_addHeap 31 = .ok (.invokestatic 64, 3) := by decide +kernel
theorem dX7_addHeap_34 : decode cX7_addHeap 34 = .ok (.invokestatic 64, 3) := by decide +kernel
theorem dX7_addHeap_37 : decode cX7_addHeap 37 = .ok (.invokestatic 70, 3) := by decide +kernel
theorem dX7_addHeap_40 : decode cX7_addHeap 40 = .ok (.putfield 73, 3) := by decide +kernel
theorem dX7_addHeap_43 : decode cX7_addHeap 43 = .ok (.iconst 0, 1) := by decide +kernel
theorem dX7_addHeap_44 : decode cX7_addHeap 44 = .ok (.istore 4, 2) := by decide +kernel
theorem dX7_addHeap_46 : decode cX7_addHeap 46 = .ok (.iload 4, 2) := by decide +kernel
theorem dX7_addHeap_48 : decode cX7_addHeap 48 = .ok (.aload_n 3, 1) := by decide +kernel
theorem dX7_addHeap_49 : decode cX7_addHeap 49 = .ok (.getfield 73, 3) := by decide +kernel
theorem dX7_addHeap_52 : decode cX7_addHeap 52 = .ok (.if_icmp .ge 20, 3) := by decide +kernel
theorem dX7_addHeap_55 : decode cX7_addHeap 55 = .ok (.aload_n 3, 1) := by decide +kernel
theorem dX7_addHeap_56 : decode cX7_addHeap 56 = .ok (.getfield 74, 3) := by decide +kernel
theorem dX7_addHeap_59 : decode cX7_addHeap 59 = .ok (.iload 4, 2) := by decide +kernel
theorem dX7_addHeap_61 : decode cX7_addHeap 61 = .ok (.aload_n 1, 1) := by decide +kernel
theorem dX7_addHeap_62 : decode cX7_addHeap 62 = .ok (.iload 4, 2) := by decide +kernel
theorem dX7_addHeap_64 : decode cX7_addHeap 64 = .ok (.baload, 1) := by decide +kernel
theorem dX7_addHeap_65 : decode cX7_addHeap 65 = .ok (.iastore, 1) := by decide +kernel
theorem dX7_addHeap_66 : decode cX7_addHeap 66 = .ok (.iinc 4 1, 3) := by decide +kernel
theorem dX7_addHeap_69 : decode cX7_addHeap 69 = .ok (.goto (-23), 3) := by decide +kernel
theorem dX7_addHeap_72 : decode cX7_addHeap 72 = .ok (.aload_n 3, 1) := by decide +kernel
theorem dX7_addHeap_73 : decode cX7_addHeap 73 = .ok (.iconst 0, 1) := by decide +kernel
theorem dX7_addHeap_74 : decode cX7_addHeap 74 = .ok (.putfield 77, 3) := by decide +kernel
theorem dX7_addHeap_77 : decode cX7_addHeap 77 = .ok (.aload_n 3, 1) := by decide +kernel
theorem dX7_addHeap_78 : decode cX7_addHeap 78 = .ok (.iconst 0, 1) := by decide +kernel
theorem dX7_addHeap_79 : decode cX7_addHeap 79 = .ok (.putfield 80, 3) := by decide +kernel
theorem dX7_addHeap_82 : decode cX7_addHeap 82 = .ok (.aload_n 3, 1) := by decide +kernel
theorem dX7_addHeap_83 : decode cX7_addHeap 83 = .ok (.aload_n 0, 1) := by decide +kernel
theorem dX7_addHeap_84 : decode cX7_addHeap 84 = .ok (.getfield 38, 3) := by decide +kernel
theorem dX7_addHeap_87 : decode cX7_addHeap 87 = .ok (.putfield 83, 3) := by decide +kernel
theorem dX7_addHeap_90 : decode cX7_addHeap 90 = .ok (.aload_n 0, 1) := by decide +kernel
theorem dX7_addHeap_91 : decode cX7_addHeap 91 = .ok (.dup, 1) := by decide +kernel
theorem dX7_addHeap_92 : decode cX7_addHeap 92 = .ok (.getfield 38, 3) := by decide +kernel
theorem dX7_addHeap_95 : decode cX7_addHeap 95 = .ok (.iconst 1, 1) := by decide +kernel
theorem dX7_addHeap_96 : decode cX7_addHeap 96 = .ok (.iadd, 1) := by decide +kernel
theorem dX7_addHeap_97 : decode cX7_addHeap 97 = .ok (.putfield 38, 3) := by decide +kernel
theorem dX7_addHeap_100 : decode cX7_addHeap 100 = .ok (.aload_n 3, 1) := by decide +kernel
theorem dX7_addHeap_101 : decode cX7_addHeap 101 = .ok (.getfield 83, 3) := by decide +kernel
theorem dX7_addHeap_104 : decode cX7_addHeap 104 = .ok (.ireturn, 1) := by decide +kernel
theorem dX7_addLaw_0 : decode cX7_addLaw 0 = .ok (.aload_n 0, 1) := by decide +kernel
theorem dX7_addLaw_1 : decode cX7_addLaw 1 = .ok (.getfield 44, 3) := by decide +kernel
theorem dX7_addLaw_4 : decode cX7_addLaw 4 = .ok (.aload_n 0, 1) := by decide +kernel
theorem dX7_addLaw_5 : decode cX7_addLaw 5 = .ok (.getfield 33, 3) := by decide +kernel
theorem dX7_addLaw_8 : decode cX7_addLaw 8 = .ok (.arraylength, 1) := by decide +kernel
theorem dX7_addLaw_9 : decode cX7_addLaw 9 = .ok (.if_icmp .lt 5, 3) := by decide +kernel
theorem dX7_addLaw_12 : decode cX7_addLaw 12 = .ok (.iconst (-1), 1) := by decide +kernel
theorem dX7_addLaw_13 : decode cX7_addLaw 13 = .ok (.ireturn, 1) := by decide +kernel
theorem dX7_addLaw_14 : decode cX7_addLaw 14 = .ok (.aload_n 0, 1) := by decide +kernel
theorem dX7_addLaw_15 : decode cX7_addLaw 15 = .ok (.getfield 33, 3) := by decide +kernel
theorem dX7_addLaw_18 : decode cX7_addLaw 18 = .ok (.aload_n 0, 1) := by decide +kernel
theorem dX7_addLaw_19 : decode cX7_addLaw 19 = .ok (.getfield 44, 3) := by decide +kernel
theorem dX7_addLaw_22 : decode cX7_addLaw 22 = .ok (.aload_n 1, 1) := by decide +kernel
theorem dX7_addLaw_23 : decode cX7_addLaw 23 = .ok (.aastore, 1) := by decide +kernel
theorem dX7_addLaw_24 : decode cX7_addLaw 24 = .ok (.aload_n 0, 1) := by decide +kernel
theorem dX7_addLaw_25 : decode cX7_addLaw 25 = .ok (.dup, 1) := by decide +kernel
theorem dX7_addLaw_26 : decode cX7_addLaw 26 = .ok (.getfield 44, 3) := by decide +kernel
theorem dX7_addLaw_29 : decode cX7_addLaw 29 = .ok (.iconst 1, 1) := by decide +kernel
theorem dX7_addLaw_30 : decode cX7_addLaw 30 = .ok (.iadd, 1) := by decide +kernel
theorem dX7_addLaw_31 : decode cX7_addLaw 31 = .ok (.putfield 44, 3) := by decide +kernel
theorem dX7_addLaw_34 : decode cX7_addLaw 34 = .ok (.aload_n 0, 1) := by decide +kernel
theorem dX7_addLaw_35 : decode cX7_addLaw 35 = .ok (.getfield 44, 3) := by decide +kernel
theorem dX7_addLaw_38 : decode cX7_addLaw 38 = .ok (.iconst 1, 1) := by decide +kernel
theorem dX7_addLaw_39 : decode cX7_addLaw 39 = .ok (.isub, 1) := by decide +kernel
theorem dX7_addLaw_40 : decode cX7_addLaw 40 = .ok (.ireturn, 1) := by decide +kernel
theorem dX7_addSight_0 : decode cX7_addSight 0 = .ok (.aload_n 0, 1) := by decide +kernel
theorem dX7_addSight_1 : decode cX7_addSight 1 = .ok (.getfield 41, 3) := by decide +kernel
theorem dX7_addSight_4 : decode cX7_addSight 4 = .ok (.bipush 8, 2) := by decide +kernel
theorem dX7_addSight_6 : decode cX7_addSight 6 = .ok (.if_icmp .ge 33, 3) := by decide +kernel
theorem dX7_addSight_9 : decode cX7_addSight 9 = .ok (.aload_n 0, 1) := by decide +kernel
theorem dX7_addSight_10 : decode cX7_addSight 10 = .ok (.getfield 24, 3) := by decide +kernel
theorem dX7_addSight_13 : decode cX7_addSight 13 = .ok (.aload_n 0, 1) := by decide +kernel
theorem dX7_addSight_14 : decode cX7_addSight 14 = .ok (.getfield 41, 3) := by decide +kernel
theorem dX7_addSight_17 : decode cX7_addSight 17 = .ok (.iload_n 1, 1) := by decide +kernel
theorem dX7_addSight_18 : decode cX7_addSight 18 = .ok (.iastore, 1) := by decide +kernel
theorem dX7_addSight_19 : decode cX7_addSight 19 = .ok (.aload_n 0, 1) := by decide +kernel
theorem dX7_addSight_20 : decode cX7_addSight 20 = .ok (.getfield 28, 3) := by decide +kernel
theorem dX7_addSight_23 : decode cX7_addSight 23 = .ok (.aload_n 0, 1) := by decide +kernel
theorem dX7_addSight_24 : decode cX7_addSight 24 = .ok (.getfield 41, 3) := by decide +kernel
theorem dX7_addSight_27 : decode cX7_addSight 27 = .ok (.iload_n 2, 1) := by decide +kernel
theorem dX7_addSight_28 : decode cX7_addSight 28 = .ok (.iastore, 1) := by decide +kernel
theorem dX7_addSight_29 : decode cX7_addSight 29 = .ok (.aload_n 0, 1) := by decide +kernel
theorem dX7_addSight_30 : decode cX7_addSight 30 = .ok (.dup, 1) := by decide +kernel
theorem dX7_addSight_31 : decode cX7_addSight 31 = .ok (.getfield 41, 3) := by decide +kernel
theorem dX7_addSight_34 : decode cX7_addSight 34 = .ok (.iconst 1, 1) := by decide +kernel
theorem dX7_addSight_35 : decode cX7_addSight 35 = .ok (.iadd, 1) := by decide +kernel
theorem dX7_addSight_36 : decode cX7_addSight 36 = .ok (.putfield 41, 3) := by decide +kernel
theorem dX7_addSight_39 : decode cX7_addSight 39 = .ok (.aload_n 0, 1) := by decide +kernel
theorem dX7_addSight_40 : decode cX7_addSight 40 = .ok (.getfield 41, 3) := by decide +kernel
theorem dX7_addSight_43 : decode cX7_addSight 43 = .ok (.ireturn, 1) := by decide +kernel
theorem dX7_stepsOf_0 : decode cX7_stepsOf 0 = .ok (.iload_n 1, 1) := by decide +kernel
theorem dX7_stepsOf_1 : decode cX7_stepsOf 1 = .ok (.ifCond .lt 20, 3) := by decide +kernel
theorem dX7_stepsOf_4 : decode cX7_stepsOf 4 = .ok (.iload_n 1, 1) := by decide +kernel
theorem dX7_stepsOf_5 : decode cX7_stepsOf 5 = .ok (.aload_n 0, 1) := by decide +kernel
theorem dX7_stepsOf_6 : decode cX7_stepsOf 6 = .ok (.getfield 41, 3) := by decide +kernel
theorem dX7_stepsOf_9 : decode cX7_stepsOf 9 = .ok (.if_icmp .ge 12, 3) := by decide +kernel
theorem dX7_stepsOf_12 : decode cX7_stepsOf 12 = .ok (.aload_n 0, 1) := by decide +kernel
theorem dX7_stepsOf_13 : decode cX7_stepsOf 13 = .ok (.getfield 24, 3) := by decide +kernel
theorem dX7_stepsOf_16 : decode cX7_stepsOf 16 = .ok (.iload_n 1, 1) := by decide +kernel
theorem dX7_stepsOf_17 : decode cX7_stepsOf 17 = .ok (.iaload, 1) := by decide +kernel
theorem dX7_stepsOf_18 : decode cX7_stepsOf 18 = .ok (.goto 4, 3) := by decide +kernel
theorem dX7_stepsOf_21 : decode cX7_stepsOf 21 = .ok (.iconst (-1), 1) := by decide +kernel
theorem dX7_stepsOf_22 : decode cX7_stepsOf 22 = .ok (.ireturn, 1) := by decide +kernel
theorem dX7_cardOf_0 : decode cX7_cardOf 0 = .ok (.iload_n 1, 1) := by decide +kernel
theorem dX7_cardOf_1 : decode cX7_cardOf 1 = .ok (.ifCond .lt 20, 3) := by decide +kernel
theorem dX7_cardOf_4 : decode cX7_cardOf 4 = .ok (.iload_n 1, 1) := by decide +kernel
theorem dX7_cardOf_5 : decode cX7_cardOf 5 = .ok (.aload_n 0, 1) := by decide +kernel
theorem dX7_cardOf_6 : decode cX7_cardOf 6 = .ok (.getfield 41, 3) := by decide +kernel
theorem dX7_cardOf_9 : decode cX7_cardOf 9 = .ok (.if_icmp .ge 12, 3) := by decide +kernel
theorem dX7_cardOf_12 : decode cX7_cardOf 12 = .ok (.aload_n 0, 1) := by decide +kernel
theorem dX7_cardOf_13 : decode cX7_cardOf 13 = .ok (.getfield 28, 3) := by decide +kernel
theorem dX7_cardOf_16 : decode cX7_cardOf 16 = .ok (.iload_n 1, 1) := by decide +kernel
theorem dX7_cardOf_17 : decode cX7_cardOf 17 = .ok (.iaload, 1) := by decide +kernel
theorem dX7_cardOf_18 : decode cX7_cardOf 18 = .ok (.goto 4, 3) := by decide +kernel
theorem dX7_cardOf_21 : decode cX7_cardOf 21 = .ok (.iconst (-1), 1) := by decide +kernel
theorem dX7_cardOf_22 : decode cX7_cardOf 22 = .ok (.ireturn, 1) := by decide +kernel
theorem dX8_init_0 : decode cX8_init 0 = .ok (.aload_n 0, 1) := by decide +kernel
theorem dX8_init_1 : decode cX8_init 1 = .ok (.invokespecial 3, 3) := by decide +kernel
theorem dX8_init_4 : decode cX8_init 4 = .ok (.aload_n 0, 1) := by decide +kernel
theorem dX8_init_5 : decode cX8_init 5 = .ok (.sipush 400, 3) := by decide +kernel
theorem dX8_init_8 : decode cX8_init 8 = .ok (.newarray .byte, 2) := by decide +kernel
theorem dX8_init_10 : decode cX8_init 10 = .ok (.putfield 9, 3) := by decide +kernel
theorem dX8_init_13 : decode cX8_init 13 = .ok (.return_, 1) := by decide +kernel
theorem dX8_addFour_0 : decode cX8_addFour 0 = .ok (.bipush 24, 2) := by decide +kernel
theorem dX8_addFour_2 : decode cX8_addFour 2 = .ok (.istore_n 2, 1) := by decide +kernel
theorem dX8_addFour_3 : decode cX8_addFour 3 = .ok (.iload_n 2, 1) := by decide +kernel
theorem dX8_addFour_4 : decode cX8_addFour 4 = .ok (.ifCond .lt 42, 3) := by decide +kernel
theorem dX8_addFour_7 : decode cX8_addFour 7 = .ok (.aload_n 0, 1) := by decide +kernel
theorem dX8_addFour_8 : decode cX8_addFour 8 = .ok (.getfield 15, 3) := by decide +kernel
theorem dX8_addFour_11 : decode cX8_addFour 11 = .ok (.sipush 400, 3) := by decide +kernel
theorem dX8_addFour_14 : decode cX8_addFour 14 = .ok (.if_icmp .ge 26, 3) := by decide +kernel
theorem dX8_addFour_17 : decode cX8_addFour 17 = .ok (.aload_n 0, 1) := by decide +kernel
theorem dX8_addFour_18 : decode cX8_addFour 18 = .ok (.getfield 9, 3) := by decide +kernel
theorem dX8_addFour_21 : decode cX8_addFour 21 = .ok (.aload_n 0, 1) := by decide +kernel
theorem dX8_addFour_22 : decode cX8_addFour 22 = .ok (.getfield 15, 3) := by decide +kernel
theorem dX8_addFour_25 : decode cX8_addFour 25 = .ok (.iload_n 1, 1) := by decide +kernel
theorem dX8_addFour_26 : decode cX8_addFour 26 = .ok (.iload_n 2, 1) := by decide +kernel
theorem dX8_addFour_27 : decode cX8_addFour 27 = .ok (.ishr, 1) := by decide +kernel
theorem dX8_addFour_28 : decode cX8_addFour 28 = .ok (.i2b, 1) := by decide +kernel
theorem dX8_addFour_29 : decode cX8_addFour 29 = .ok (.bastore, 1) := by decide +kernel
theorem dX8_addFour_30 : decode cX8_addFour 30 = .ok (.aload_n 0, 1) := by decide +kernel
theorem dX8_addFour_31 : decode cX8_addFour 31 = .ok (.dup, 1) := by decide +kernel
theorem dX8_addFour_32 : decode cX8_addFour 32 = .ok (.getfield 15, 3) := by decide +kernel
theorem dX8_addFour_35 : decode cX8_addFour 35 = .ok (.iconst 1, 1) := by decide +kernel
theorem dX8_addFour_36 : decode cX8_addFour 36 = .ok (.iadd, 1) := by decide +kernel
theorem dX8_addFour_37 : decode cX8_addFour 37 = .ok (.putfield 15, 3) := by decide +kernel
theorem dX8_addFour_40 : decode cX8_addFour 40 = .ok (.iinc 2 (-8), 3) := by decide +kernel
theorem dX8_addFour_43 : decode cX8_addFour 43 = .ok (.goto (-40), 3) := by decide +kernel
theorem dX8_addFour_46 : decode cX8_addFour 46 = .ok (.return_, 1) := by decide +kernel
theorem dX8_holdsCards_0 : decode cX8_holdsCards 0 = .ok (.iload_n 1, 1) := by decide +kernel
theorem dX8_holdsCards_1 : decode cX8_holdsCards 1 = .ok (.iconst 1, 1) := by decide +kernel
theorem dX8_holdsCards_2 : decode cX8_holdsCards 2 = .ok (.if_icmp .lt 9, 3) := by decide +kernel
theorem dX8_holdsCards_5 : decode cX8_holdsCards 5 = .ok (.iload_n 1, 1) := by decide +kernel
theorem dX8_holdsCards_6 : decode cX8_holdsCards 6 = .ok (.bipush 13, 2) := by decide +kernel
theorem dX8_holdsCards_8 : decode cX8_holdsCards 8 = .ok (.if_icmp .le 5, 3) := by decide +kernel
theorem dX8_holdsCards_11 : decode cX8_holdsCards 11 = .ok (.iconst 0, 1) := by decide +kernel
theorem dX8_holdsCards_12 : decode cX8_holdsCards 12 = .ok (.ireturn, 1) := by decide +kernel
theorem dX8_holdsCards_13 : decode cX8_holdsCards 13 = .ok (.iconst 0, 1) := by decide +kernel
theorem dX8_holdsCards_14 : decode cX8_holdsCards 14 = .ok (.istore_n 2, 1) := by decide +kernel
theorem dX8_holdsCards_15 : decode cX8_holdsCards 15 = .ok (.iload_n 2, 1) := by decide +kernel
theorem dX8_holdsCards_16 : decode cX8_holdsCards 16 = .ok (.iload_n 1, 1) := by decide +kernel
theorem dX8_holdsCards_17 : decode cX8_holdsCards 17 = .ok (.if_icmp .ge 31, 3) := by decide +kernel
theorem dX8_holdsCards_20 : decode cX8_holdsCards 20 = .ok (.aload_n 0, 1) := by decide +kernel
theorem dX8_holdsCards_21 : decode cX8_holdsCards 21 = .ok (.getfield 9, 3) := by decide +kernel
theorem dX8_holdsCards_24 : decode cX8_holdsCards 24 = .ok (.iload_n 2, 1) := by decide +kernel
theorem dX8_holdsCards_25 : decode cX8_holdsCards 25 = .ok (.baload, 1) := by decide +kernel
theorem dX8_holdsCards_26 : decode cX8_holdsCards 26 = .ok (.ifCond .lt 14, 3) := by decide +kernel
theorem dX8_holdsCards_29 : decode cX8_holdsCards 29 = .ok (.aload_n 0, 1) := by decide +kernel
theorem dX8_holdsCards_30 : decode cX8_holdsCards 30 = .ok (.getfield 9, 3) := by decide +kernel
theorem dX8_holdsCards_33 : decode cX8_holdsCards 33 = .ok (.iload_n 2, 1) := by decide +kernel
theorem dX8_holdsCards_34 : decode cX8_holdsCards 34 = .ok (.baload, 1) := by decide +kernel
theorem dX8_holdsCards_35 : decode cX8_holdsCards 35 = .ok (.bipush 13, 2) := by decide +kernel
theorem dX8_holdsCards_37 : decode cX8_holdsCards 37 = .ok (.if_icmp .le 5, 3) := by decide +kernel
theorem dX8_holdsCards_40 : decode cX8_holdsCards 40 = .ok (.iconst 0, 1) := by decide +kernel
theorem dX8_holdsCards_41 : decode cX8_holdsCards 41 = .ok (.ireturn, 1) := by decide +kernel
theorem dX8_holdsCards_42 : decode cX8_holdsCards 42 = .ok (.iinc 2 1, 3) := by decide +kernel
theorem dX8_holdsCards_45 : decode cX8_holdsCards 45 = .ok (.goto (-30), 3) := by decide +kernel
theorem dX8_holdsCards_48 : decode cX8_holdsCards 48 = .ok (.iconst 1, 1) := by decide +kernel
theorem dX8_holdsCards_49 : decode cX8_holdsCards 49 = .ok (.ireturn, 1) := by decide +kernel
theorem dX8_rewind_0 : decode cX8_rewind 0 = .ok (.aload_n 0, 1) := by decide +kernel
theorem dX8_rewind_1 : decode cX8_rewind 1 = .ok (.iconst 0, 1) := by decide +kernel
theorem dX8_rewind_2 : decode cX8_rewind 2 = .ok (.putfield 19, 3) := by decide +kernel
theorem dX8_rewind_5 : decode cX8_rewind 5 = .ok (.aload_n 0, 1) := by decide +kernel
theorem dX8_rewind_6 : decode cX8_rewind 6 = .ok (.invokevirtual 22, 3) := by decide +kernel
theorem dX8_rewind_9 : decode cX8_rewind 9 = .ok (.return_, 1) := by decide +kernel
theorem dX8_go_0 : decode cX8_go 0 = .ok (.aload_n 0, 1) := by decide +kernel
theorem dX8_go_1 : decode cX8_go 1 = .ok (.aload_n 0, 1) := by decide +kernel
theorem dX8_go_2 : decode cX8_go 2 = .ok (.getfield 19, 3) := by decide +kernel
theorem dX8_go_5 : decode cX8_go 5 = .ok (.putfield 25, 3) := by decide +kernel
theorem dX8_go_8 : decode cX8_go 8 = .ok (.aload_n 0, 1) := by decide +kernel
theorem dX8_go_9 : decode cX8_go 9 = .ok (.getfield 25, 3) := by decide +kernel
theorem dX8_go_12 : decode cX8_go 12 = .ok (.aload_n 0, 1) := by decide +kernel
theorem dX8_go_13 : decode cX8_go 13 = .ok (.getfield 15, 3) := by decide +kernel
theorem dX8_go_16 : decode cX8_go 16 = .ok (.if_icmp .ge 30, 3) := by decide +kernel
theorem dX8_go_19 : decode cX8_go 19 = .ok (.aload_n 0, 1) := by decide +kernel
theorem dX8_go_20 : decode cX8_go 20 = .ok (.getfield 9, 3) := by decide +kernel
theorem dX8_go_23 : decode cX8_go 23 = .ok (.aload_n 0, 1) := by decide +kernel
theorem dX8_go_24 : decode cX8_go 24 = .ok (.getfield 25, 3) := by decide +kernel
theorem dX8_go_27 : decode cX8_go 27 = .ok (.baload, 1) := by decide +kernel
theorem dX8_go_28 : decode cX8_go 28 = .ok (.bipush 32, 2) := by decide +kernel
theorem dX8_go_30 : decode cX8_go 30 = .ok (.if_icmp .ne 16, 3) := by decide +kernel
theorem dX8_go_33 : decode cX8_go 33 = .ok (.aload_n 0, 1) := by decide +kernel
theorem dX8_go_34 : decode cX8_go 34 = .ok (.dup, 1) := by decide +kernel
theorem dX8_go_35 : decode cX8_go 35 = .ok (.getfield 25, 3) := by decide +kernel
theorem dX8_go_38 : decode cX8_go 38 = .ok (.iconst 1, 1) := by decide +kernel
theorem dX8_go_39 : decode cX8_go 39 = .ok (.iadd, 1) := by decide +kernel
theorem dX8_go_40 : decode cX8_go 40 = .ok (.putfield 25, 3) := by decide +kernel
theorem dX8_go_43 : decode cX8_go 43 = .ok (.goto (-35), 3) := by decide +kernel
theorem dX8_go_46 : decode cX8_go 46 = .ok (.aload_n 0, 1) := by decide +kernel
theorem dX8_go_47 : decode cX8_go 47 = .ok (.getfield 25, 3) := by decide +kernel
theorem dX8_go_50 : decode cX8_go 50 = .ok (.aload_n 0, 1) := by decide +kernel
theorem dX8_go_51 : decode cX8_go 51 = .ok (.getfield 15, 3) := by decide +kernel
theorem dX8_go_54 : decode cX8_go 54 = .ok (.if_icmp .lt 17, 3) := by decide +kernel
theorem dX8_go_57 : decode cX8_go 57 = .ok (.aload_n 0, 1) := by decide +kernel
theorem dX8_go_58 : decode cX8_go 58 = .ok (.iconst 4, 1) := by decide +kernel
theorem dX8_go_59 : decode cX8_go 59 = .ok (.putfield 28, 3) := by decide +kernel
theorem dX8_go_62 : decode cX8_go 62 = .ok (.aload_n 0, 1) := by decide +kernel
theorem dX8_go_63 : decode cX8_go 63 = .ok (.aload_n 0, 1) := by decide +kernel
theorem dX8_go_64 : decode cX8_go 64 = .ok (.getfield 25, 3) := by decide +kernel
theorem dX8_go_67 : decode cX8_go 67 = .ok (.putfield 19, 3) := by decide +kernel
theorem dX8_go_70 : decode cX8_go 70 = .ok (.return_, 1) := by decide +kernel
theorem dX8_go_71 : decode cX8_go 71 = .ok (.aload_n 0, 1) := by decide +kernel
theorem dX8_go_72 : decode cX8_go 72 = .ok (.getfield 9, 3) := by decide +kernel
theorem dX8_go_75 : decode cX8_go 75 = .ok (.aload_n 0, 1) := by decide +kernel
theorem dX8_go_76 : decode cX8_go 76 = .ok (.getfield 25, 3) := by decide +kernel
theorem dX8_go_79 : decode cX8_go 79 = .ok (.baload, 1) := by decide +kernel
theorem dX8_go_80 : decode cX8_go 80 = .ok (.istore_n 1, 1) := by decide +kernel
theorem dX8_go_81 : decode cX8_go 81 = .ok (.iload_n 1, 1) := by decide +kernel
theorem dX8_go_82 : decode cX8_go 82 = .ok (.bipush 97, 2) := by decide +kernel
theorem dX8_go_84 : decode cX8_go 84 = .ok (.if_icmp .lt 13, 3) := by decide +kernel
theorem dX8_go_87 : decode cX8_go 87 = .ok (.iload_n 1, 1) := by decide +kernel
theorem dX8_go_88 : decode cX8_go 88 = .ok (.bipush 122, 2) := by decide +kernel
theorem dX8_go_90 : decode cX8_go 90 = .ok (.if_icmp .gt 7, 3) := by decide +kernel
theorem dX8_go_93 : decode cX8_go 93 = .ok (.iconst 1, 1) := by decide +kernel
theorem dX8_go_94 : decode cX8_go 94 = .ok (.goto 4, 3) := by decide +kernel
theorem dX8_go_97 : decode cX8_go 97 = .ok (.iconst 0, 1) := by decide +kernel
theorem dX8_go_98 : decode cX8_go 98 = .ok (.istore_n 2, 1) := by decide +kernel
theorem dX8_go_99 : decode cX8_go 99 = .ok (.iload_n 1, 1) := by decide +kernel
theorem dX8_go_100 : decode cX8_go 100 = .ok (.bipush 48, 2) := by decide +kernel
theorem dX8_go_102 : decode cX8_go 102 = .ok (.if_icmp .lt 13, 3) := by decide +kernel
theorem dX8_go_105 : decode cX8_go 105 = .ok (.iload_n 1, 1) := by decide +kernel
theorem dX8_go_106 : decode cX8_go 106 = .ok (.bipush 57, 2) := by decide +kernel
theorem dX8_go_108 : decode cX8_go 108 = .ok (.if_icmp .gt 7, 3) := by decide +kernel
theorem dX8_go_111 : decode cX8_go 111 = .ok (.iconst 1, 1) := by decide +kernel
theorem dX8_go_112 : decode cX8_go 112 = .ok (.goto 4, 3) := by decide +kernel
theorem dX8_go_115 : decode cX8_go 115 = .ok (.iconst 0, 1) := by decide +kernel
theorem dX8_go_116 : decode cX8_go 116 = .ok (.istore_n 3, 1) := by decide +kernel
theorem dX8_go_117 : decode cX8_go 117 = .ok (.aload_n 0, 1) := by decide +kernel
theorem dX8_go_118 : decode cX8_go 118 = .ok (.iload_n 2, 1) := by decide +kernel
theorem dX8_go_119 : decode cX8_go 119 = .ok (.ifCond .eq 7, 3) := by decide +kernel
theorem dX8_go_122 : decode cX8_go 122 = .ok (.iconst 1, 1) := by decide +kernel
theorem dX8_go_123 : decode cX8_go 123 = .ok (.goto 12, 3) := by decide +kernel
theorem dX8_go_126 : decode cX8_go 126 = .ok (.iload_n 3, 1) := by decide +kernel
theorem dX8_go_127 : decode cX8_go 127 = .ok (.ifCond .eq 7, 3) := by decide +kernel
theorem dX8_go_130 : decode cX8_go 130 = .ok (.iconst 2, 1) := by decide +kernel
theorem dX8_go_131 : decode cX8_go 131 = .ok (.goto 4, 3) := by decide +kernel
theorem dX8_go_134 : decode cX8_go 134 = .ok (.iconst 3, 1) := by decide +kernel
theorem dX8_go_135 : decode cX8_go 135 = .ok (.putfield 28, 3) := by decide +kernel
theorem dX8_go_138 : decode cX8_go 138 = .ok (.iload_n 2, 1) := by decide +kernel
theorem dX8_go_139 : decode cX8_go 139 = .ok (.ifCond .eq 8, 3) := by decide +kernel
theorem dX8_go_142 : decode cX8_go 142 = .ok (.bipush 97, 2) := by decide +kernel
theorem dX8_go_144 : decode cX8_go 144 = .ok (.goto 5, 3) := by decide +kernel
theorem dX8_go_147 : decode cX8_go 147 = .ok (.bipush 48, 2) := by decide +kernel
theorem dX8_go_149 : decode cX8_go 149 = .ok (.istore 4, 2) := by decide +kernel
theorem dX8_go_151 : decode cX8_go 151 = .ok (.iload_n 2, 1) := by decide +kernel
theorem dX8_go_152 : decode cX8_go 152 = .ok (.ifCond .eq 8, 3) := by decide +kernel
theorem dX8_go_155 : decode cX8_go 155 = .ok (.bipush 122, 2) := by decide +kernel
theorem dX8_go_157 : decode cX8_go 157 = .ok (.goto 5, 3) := by decide +kernel
theorem dX8_go_160 : decode cX8_go 160 = .ok (.bipush 57, 2) := by decide +kernel
theorem dX8_go_162 : decode cX8_go 162 = .ok (.istore 5, 2) := by decide +kernel
theorem dX8_go_164 : decode cX8_go 164 = .ok (.aload_n 0, 1) := by decide +kernel
theorem dX8_go_165 : decode cX8_go 165 = .ok (.aload_n 0, 1) := by decide +kernel
theorem dX8_go_166 : decode cX8_go 166 = .ok (.getfield 25, 3) := by decide +kernel
theorem dX8_go_169 : decode cX8_go 169 = .ok (.iconst 1, 1) := by decide +kernel
theorem dX8_go_170 : decode cX8_go 170 = .ok (.iadd, 1) := by decide +kernel
theorem dX8_go_171 : decode cX8_go 171 = .ok (.putfield 19, 3) := by decide +kernel
theorem dX8_go_174 : decode cX8_go 174 = .ok (.aload_n 0, 1) := by decide +kernel
theorem dX8_go_175 : decode cX8_go 175 = .ok (.getfield 28, 3) := by decide +kernel
theorem dX8_go_178 : decode cX8_go 178 = .ok (.iconst 3, 1) := by decide +kernel
theorem dX8_go_179 : decode cX8_go 179 = .ok (.if_icmp .eq 55, 3) := by decide +kernel
theorem dX8_go_182 : decode cX8_go 182 = .ok (.aload_n 0, 1) := by decide +kernel
theorem dX8_go_183 : decode cX8_go 183 = .ok (.getfield 19, 3) := by decide +kernel
theorem dX8_go_186 : decode cX8_go 186 = .ok (.aload_n 0, 1) := by decide +kernel
theorem dX8_go_187 : decode cX8_go 187 = .ok (.getfield 15, 3) := by decide +kernel
theorem dX8_go_190 : decode cX8_go 190 = .ok (.if_icmp .ge 44, 3) := by decide +kernel
theorem dX8_go_193 : decode cX8_go 193 = .ok (.aload_n 0, 1) := by decide +kernel
theorem dX8_go_194 : decode cX8_go 194 = .ok (.getfield 9, 3) := by decide +kernel
theorem dX8_go_197 : decode cX8_go 197 = .ok (.aload_n 0, 1) := by decide +kernel
theorem dX8_go_198 : decode cX8_go 198 = .ok (.getfield 19, 3) := by decide +kernel
theorem dX8_go_201 : decode cX8_go 201 = .ok (.baload, 1) := by decide +kernel
theorem dX8_go_202 : decode cX8_go 202 = .ok (.iload 4, 2) := by decide +kernel
theorem dX8_go_204 : decode cX8_go 204 = .ok (.if_icmp .lt 30, 3) := by decide +kernel
theorem dX8_go_207 : decode cX8_go 207 = .ok (.aload_n 0, 1) := by decide +kernel
theorem dX8_go_208 : decode cX8_go 208 = .ok (.getfield 9, 3) := by decide +kernel
theorem dX8_go_211 : decode cX8_go 211 = .ok (.aload_n 0, 1) := by decide +kernel
theorem dX8_go_212 : decode cX8_go 212 = .ok (.getfield 19, 3) := by decide +kernel
theorem dX8_go_215 : decode cX8_go 215 = .ok (.baload, 1) := by decide +kernel
theorem dX8_go_216 : decode cX8_go 216 = .ok (.iload 5, 2) := by decide +kernel
theorem dX8_go_218 : decode cX8_go 218 = .ok (.if_icmp .gt 16, 3) := by decide +kernel
theorem dX8_go_221 : decode cX8_go 221 = .ok (.aload_n 0, 1) := by decide +kernel
theorem dX8_go_222 : decode cX8_go 222 = .ok (.dup, 1) := by decide +kernel
theorem dX8_go_223 : decode cX8_go 223 = .ok (.getfield 19, 3) := by decide +kernel
theorem dX8_go_226 : decode cX8_go 226 = .ok (.iconst 1, 1) := by decide +kernel
theorem dX8_go_227 : decode cX8_go 227 = .ok (.iadd, 1) := by decide +kernel
theorem dX8_go_228 : decode cX8_go 228 = .ok (.putfield 19, 3) := by decide +kernel
theorem dX8_go_231 : decode cX8_go 231 = .ok (.goto (-57), 3) := by decide +kernel
theorem dX8_go_234 : decode cX8_go 234 = .ok (.return_, 1) := by decide +kernel
theorem dX8_isSign_0 : decode cX8_isSign 0 = .ok (.aload_n 0, 1) := by decide +kernel
theorem dX8_isSign_1 : decode cX8_isSign 1 = .ok (.getfield 28, 3) := by decide +kernel
theorem dX8_isSign_4 : decode cX8_isSign 4 = .ok (.iconst 3, 1) := by decide +kernel
theorem dX8_isSign_5 : decode cX8_isSign 5 = .ok (.if_icmp .ne 31, 3) := by decide +kernel
theorem dX8_isSign_8 : decode cX8_isSign 8 = .ok (.aload_n 0, 1) := by decide +kernel
theorem dX8_isSign_9 : decode cX8_isSign 9 = .ok (.getfield 25, 3) := by decide +kernel
theorem dX8_isSign_12 : decode cX8_isSign 12 = .ok (.aload_n 0, 1) := by decide +kernel
theorem dX8_isSign_13 : decode cX8_isSign 13 = .ok (.getfield 15, 3) := by decide +kernel
theorem dX8_isSign_16 : decode cX8_isSign 16 = .ok (.if_icmp .ge 20, 3) := by decide +kernel
theorem dX8_isSign_19 : decode cX8_isSign 19 = .ok (.aload_n 0, 1) := by decide +kernel
theorem dX8_isSign_20 : decode cX8_isSign 20 = .ok (.getfield 9, 3) := by decide +kernel
theorem dX8_isSign_23 : decode cX8_isSign 23 = .ok (.aload_n 0, 1) := by decide +kernel
theorem dX8_isSign_24 : decode cX8_isSign 24 = .ok (.getfield 25, 3) := by decide +kernel
theorem dX8_isSign_27 : decode cX8_isSign 27 = .ok (.baload, 1) := by decide +kernel
theorem dX8_isSign_28 : decode cX8_isSign 28 = .ok (.iload_n 1, 1) := by decide +kernel
theorem dX8_isSign_29 : decode cX8_isSign 29 = .ok (.if_icmp .ne 7, 3) := by decide +kernel
theorem dX8_isSign_32 : decode cX8_isSign 32 = .ok (.iconst 1, 1) := by decide +kernel
theorem dX8_isSign_33 : decode cX8_isSign 33 = .ok (.goto 4, 3) := by decide +kernel
theorem dX8_isSign_36 : decode cX8_isSign 36 = .ok (.iconst 0, 1) := by decide +kernel
theorem dX8_isSign_37 : decode cX8_isSign 37 = .ok (.ireturn, 1) := by decide +kernel
theorem dX8_isWord_0 : decode cX8_isWord 0 = .ok (.aload_n 0, 1) := by decide +kernel
theorem dX8_isWord_1 : decode cX8_isWord 1 = .ok (.aload_n 1, 1) := by decide +kernel
theorem dX8_isWord_2 : decode cX8_isWord 2 = .ok (.invokevirtual 31, 3) := by decide +kernel
theorem dX8_isWord_5 : decode cX8_isWord 5 = .ok (.ifCond .ne 7, 3) := by decide +kernel
theorem dX8_isWord_8 : decode cX8_isWord 8 = .ok (.iconst 1, 1) := by decide +kernel
theorem dX8_isWord_9 : decode cX8_isWord 9 = .ok (.goto 4, 3) := by decide +kernel
theorem dX8_isWord_12 : decode cX8_isWord 12 = .ok (.iconst 0, 1) := by decide +kernel
theorem dX8_isWord_13 : decode cX8_isWord 13 = .ok (.ireturn, 1) := by decide +kernel
theorem dX8_among_0 : decode cX8_among 0 = .ok (.iconst 0, 1) := by decide +kernel
theorem dX8_among_1 : decode cX8_among 1 = .ok (.istore_n 2, 1) := by decide +kernel
theorem dX8_among_2 : decode cX8_among 2 = .ok (.iconst 0, 1) := by decide +kernel
theorem dX8_among_3 : decode cX8_among 3 = .ok (.istore_n 3, 1) := by decide +kernel
theorem dX8_among_4 : decode cX8_among 4 = .ok (.aload_n 0, 1) := by decide +kernel
theorem dX8_among_5 : decode cX8_among 5 = .ok (.getfield 28, 3) := by decide +kernel
theorem dX8_among_8 : decode cX8_among 8 = .ok (.iconst 1, 1) := by decide +kernel
theorem dX8_among_9 : decode cX8_among 9 = .ok (.if_icmp .ne 7, 3) := by decide +kernel
theorem dX8_among_12 : decode cX8_among 12 = .ok (.iconst 1, 1) := by decide +kernel
theorem dX8_among_13 : decode cX8_among 13 = .ok (.goto 4, 3) := by decide +kernel
theorem dX8_among_16 : decode cX8_among 16 = .ok (.iconst 0, 1) := by decide +kernel
theorem dX8_among_17 : decode cX8_among 17 = .ok (.istore 4, 2) := by decide +kernel
theorem dX8_among_19 : decode cX8_among 19 = .ok (.iconst 0, 1) := by decide +kernel
theorem dX8_among_20 : decode cX8_among 20 = .ok (.istore 5, 2) := by decide +kernel
theorem dX8_among_22 : decode cX8_among 22 = .ok (.iload 5, 2) := by decide +kernel
theorem dX8_among_24 : decode cX8_among 24 = .ok (.aload_n 1, 1) := by decide +kernel
theorem dX8_among_25 : decode cX8_among 25 = .ok (.invokevirtual 35, 3) := by decide +kernel
theorem dX8_among_28 : decode cX8_among 28 = .ok (.if_icmp .gt 131, 3) := by decide +kernel
theorem dX8_among_31 : decode cX8_among 31 = .ok (.aload_n 0, 1) := by decide +kernel
theorem dX8_among_32 : decode cX8_among 32 = .ok (.getfield 28, 3) := by decide +kernel
theorem dX8_among_35 : decode cX8_among 35 = .ok (.iconst 1, 1) := by decide +kernel
theorem dX8_among_36 : decode cX8_among 36 = .ok (.if_icmp .ne 123, 3) := by decide +kernel
theorem dX8_among_39 : decode cX8_among 39 = .ok (.iload 5, 2) := by decide +kernel
theorem dX8_among_41 : decode cX8_among 41 = .ok (.aload_n 1, 1) := by decide +kernel
theorem dX8_among_42 : decode cX8_among 42 = .ok (.invokevirtual 35, 3) := by decide +kernel
theorem dX8_among_45 : decode cX8_among 45 = .ok (.if_icmp .eq 14, 3) := by decide +kernel
theorem dX8_among_48 : decode cX8_among 48 = .ok (.aload_n 1, 1) := by decide +kernel
theorem dX8_among_49 : decode cX8_among 49 = .ok (.iload 5, 2) := by decide +kernel
theorem dX8_among_51 : decode cX8_among 51 = .ok (.invokevirtual 40, 3) := by decide +kernel
theorem dX8_among_54 : decode cX8_among 54 = .ok (.bipush 32, 2) := by decide +kernel
theorem dX8_among_56 : decode cX8_among 56 = .ok (.if_icmp .ne 40, 3) := by decide +kernel
theorem dX8_among_59 : decode cX8_among 59 = .ok (.iload 4, 2) := by decide +kernel
theorem dX8_among_61 : decode cX8_among 61 = .ok (.ifCond .eq 21, 3) := by decide +kernel
theorem dX8_among_64 : decode cX8_among 64 = .ok (.iload 5, 2) := by decide +kernel
theorem dX8_among_66 : decode cX8_among 66 = .ok (.iload_n 3, 1) := by decide +kernel
theorem dX8_among_67 : decode cX8_among 67 = .ok (.isub, 1) := by decide +kernel
theorem dX8_among_68 : decode cX8_among 68 = .ok (.aload_n 0, 1) := by decide +kernel
theorem dX8_among_69 : decode cX8_among 69 = .ok (.getfield 19, 3) := by decide +kernel
theorem dX8_among_72 : decode cX8_among 72 = .ok (.aload_n 0, 1) := by decide +kernel
theorem dX8_among_73 : decode cX8_among 73 = .ok (.getfield 25, 3) := by decide +kernel
theorem dX8_among_76 : decode cX8_among 76 = .ok (.isub, 1) := by decide +kernel
theorem dX8_among_77 : decode cX8_among 77 = .ok (.if_icmp .ne 5, 3) := by decide +kernel
theorem dX8_among_80 : decode cX8_among 80 = .ok (.iload_n 2, 1) := by decide +kernel
theorem dX8_among_81 : decode cX8_among 81 = .ok (.ireturn, 1) := by decide +kernel
theorem dX8_among_82 : decode cX8_among 82 = .ok (.iinc 2 1, 3) := by decide +kernel
theorem dX8_among_85 : decode cX8_among 85 = .ok (.iload 5, 2) := by decide +kernel
theorem dX8_among_87 : decode cX8_among 87 = .ok (.iconst 1, 1) := by decide +kernel
theorem dX8_among_88 : decode cX8_among 88 = .ok (.iadd, 1) := by decide +kernel
theorem dX8_among_89 : decode cX8_among 89 = .ok (.istore_n 3, 1) := by decide +kernel
theorem dX8_among_90 : decode cX8_among 90 = .ok (.iconst 1, 1) := by decide +kernel
theorem dX8_among_91 : decode cX8_among 91 = .ok (.istore 4, 2) := by decide +kernel
theorem dX8_among_93 : decode cX8_among 93 = .ok (.goto 60, 3) := by decide +kernel
theorem dX8_among_96 : decode cX8_among 96 = .ok (.aload_n 0, 1) := by decide +kernel
theorem dX8_among_97 : decode cX8_among 97 = .ok (.getfield 25, 3) := by decide +kernel
theorem dX8_among_100 : decode cX8_among 100 = .ok (.iload 5, 2) := by decide +kernel
theorem dX8_among_102 : decode cX8_among 102 = .ok (.iadd, 1) := by decide +kernel
theorem dX8_among_103 : decode cX8_among 103 = .ok (.iload_n 3, 1) := by decide +kernel
theorem dX8_among_104 : decode cX8_among 104 = .ok (.isub, 1) := by decide +kernel
theorem dX8_among_105 : decode cX8_among 105 = .ok (.istore 6, 2) := by decide +kernel
theorem dX8_among_107 : decode cX8_among 107 = .ok (.iload 4, 2) := by decide +kernel
theorem dX8_among_109 : decode cX8_among 109 = .ok (.ifCond .eq 41, 3) := by decide +kernel
theorem dX8_among_112 : decode cX8_among 112 = .ok (.iload 6, 2) := by decide +kernel
theorem dX8_among_114 : decode cX8_among 114 = .ok (.aload_n 0, 1) := by decide +kernel
theorem dX8_among_115 : decode cX8_among 115 = .ok (.getfield 19, 3) := by decide +kernel
theorem dX8_among_118 : decode cX8_among 118 = .ok (.if_icmp .ge 32, 3) := by decide +kernel
theorem dX8_among_121 : decode cX8_among 121 = .ok (.iload 6, 2) := by decide +kernel
theorem dX8_among_123 : decode cX8_among 123 = .ok (.aload_n 0, 1) := by decide +kernel
theorem dX8_among_124 : decode cX8_among 124 = .ok (.getfield 15, 3) := by decide +kernel
theorem dX8_among_127 : decode cX8_among 127 = .ok (.if_icmp .ge 23, 3) := by decide +kernel
theorem dX8_among_130 : decode cX8_among 130 = .ok (.aload_n 0, 1) := by decide +kernel
theorem dX8_among_131 : decode cX8_among 131 = .ok (.getfield 9, 3) := by decide +kernel
theorem dX8_among_134 : decode cX8_among 134 = .ok (.iload 6, 2) := by decide +kernel
theorem dX8_among_136 : decode cX8_among 136 = .ok (.baload, 1) := by decide +kernel
theorem dX8_among_137 : decode cX8_among 137 = .ok (.aload_n 1, 1) := by decide +kernel
theorem dX8_among_138 : decode cX8_among 138 = .ok (.iload 5, 2) := by decide +kernel
theorem dX8_among_140 : decode cX8_among 140 = .ok (.invokevirtual 40, 3) := by decide +kernel
theorem dX8_among_143 : decode cX8_among 143 = .ok (.if_icmp .ne 7, 3) := by decide +kernel
theorem dX8_among_146 : decode cX8_among 146 = .ok (.iconst 1, 1) := by decide +kernel
theorem dX8_among_147 : decode cX8_among 147 = .ok (.goto 4, 3) := by decide +kernel
theorem dX8_among_150 : decode cX8_among 150 = .ok (.iconst 0, 1) := by decide +kernel
theorem dX8_among_151 : decode cX8_among 151 = .ok (.istore 4, 2) := by decide +kernel
theorem dX8_among_153 : decode cX8_among 153 = .ok (.iinc 5 1, 3) := by decide +kernel
theorem dX8_among_156 : decode cX8_among 156 = .ok (.goto (-134), 3) := by decide +kernel
theorem dX8_among_159 : decode cX8_among 159 = .ok (.iconst (-1), 1) := by decide +kernel
theorem dX8_among_160 : decode cX8_among 160 = .ok (.ireturn, 1) := by decide +kernel
theorem dX8_number_0 : decode cX8_number 0 = .ok (.aload_n 0, 1) := by decide +kernel
theorem dX8_number_1 : decode cX8_number 1 = .ok (.getfield 28, 3) := by decide +kernel
theorem dX8_number_4 : decode cX8_number 4 = .ok (.iconst 2, 1) := by decide +kernel
theorem dX8_number_5 : decode cX8_number 5 = .ok (.if_icmp .eq 5, 3) := by decide +kernel
theorem dX8_number_8 : decode cX8_number 8 = .ok (.iconst (-1), 1) := by decide +kernel
theorem dX8_number_9 : decode cX8_number 9 = .ok (.ireturn, 1) := by decide +kernel
theorem dX8_number_10 : decode cX8_number 10 = .ok (.iconst 0, 1) := by decide +kernel
theorem dX8_number_11 : decode cX8_number 11 = .ok (.istore_n 1, 1) := by decide +kernel
theorem dX8_number_12 : decode cX8_number 12 = .ok (.aload_n 0, 1) := by decide +kernel
theorem dX8_number_13 : decode cX8_number 13 = .ok (.getfield 25, 3) := by decide +kernel
theorem dX8_number_16 : decode cX8_number 16 = .ok (.istore_n 2, 1) := by decide +kernel
theorem dX8_number_17 : decode cX8_number 17 = .ok (.iload_n 2, 1) := by decide +kernel
theorem dX8_number_18 : decode cX8_number 18 = .ok (.aload_n 0, 1) := by decide +kernel
theorem dX8_number_19 : decode cX8_number 19 = .ok (.getfield 19, 3) := by decide +kernel
theorem dX8_number_22 : decode cX8_number 22 = .ok (.if_icmp .ge 38, 3) := by decide +kernel
theorem dX8_number_25 : decode cX8_number 25 = .ok (.iload_n 2, 1) := by decide +kernel
theorem dX8_number_26 : decode cX8_number 26 = .ok (.aload_n 0, 1) := by decide +kernel
theorem dX8_number_27 : decode cX8_number 27 = .ok (.getfield 15, 3) := by decide +kernel
theorem dX8_number_30 : decode cX8_number 30 = .ok (.if_icmp .ge 30, 3) := by decide +kernel
theorem dX8_number_33 : decode cX8_number 33 = .ok (.iload_n 1, 1) := by decide +kernel
theorem dX8_number_34 : decode cX8_number 34 = .ok (.bipush 10, 2) := by decide +kernel
theorem dX8_number_36 : decode cX8_number 36 = .ok (.imul, 1) := by decide +kernel
theorem dX8_number_37 : decode cX8_number 37 = .ok (.aload_n 0, 1) := by decide +kernel
theorem dX8_number_38 : decode cX8_number 38 = .ok (.getfield 9, 3) := by decide +kernel
theorem dX8_number_41 : decode cX8_number 41 = .ok (.iload_n 2, 1) := by decide +kernel
theorem dX8_number_42 : decode cX8_number 42 = .ok (.baload, 1) := by decide +kernel
theorem dX8_number_43 : decode cX8_number 43 = .ok (.iadd, 1) := by decide +kernel
theorem dX8_number_44 : decode cX8_number 44 = .ok (.bipush 48, 2) := by decide +kernel
theorem dX8_number_46 : decode cX8_number 46 = .ok (.isub, 1) := by decide +kernel
theorem dX8_number_47 : decode cX8_number 47 = .ok (.sipush 1001, 3) := by decide +kernel
theorem dX8_number_50 : decode cX8_number 50 = .ok (.invokestatic 44, 3) := by decide +kernel
theorem dX8_number_53 : decode cX8_number 53 = .ok (.istore_n 1, 1) := by decide +kernel
theorem dX8_number_54 : decode cX8_number 54 = .ok (.iinc 2 1, 3) := by decide +kernel
theorem dX8_number_57 : decode cX8_number 57 = .ok (.goto (-40), 3) := by decide +kernel
theorem dX8_number_60 : decode cX8_number 60 = .ok (.iload_n 1, 1) := by decide +kernel
theorem dX8_number_61 : decode cX8_number 61 = .ok (.ireturn, 1) := by decide +kernel
