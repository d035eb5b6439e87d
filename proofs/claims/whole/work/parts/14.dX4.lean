theorem dX4_init_0 : decode cX4_init 0 = .ok (.aload_n 0, 1) := by decide +kernel
theorem dX4_init_1 : decode cX4_init 1 = .ok (.invokespecial 3, 3) := by decide +kernel
theorem dX4_init_4 : decode cX4_init 4 = .ok (.aload_n 0, 1) := by decide +kernel
theorem dX4_init_5 : decode cX4_init 5 = .ok (.bipush 13, 2) := by decide +kernel
theorem dX4_init_7 : decode cX4_init 7 = .ok (.newarray .int, 2) := by decide +kernel
theorem dX4_init_9 : decode cX4_init 9 = .ok (.putfield 9, 3) := by decide +kernel
theorem dX4_init_12 : decode cX4_init 12 = .ok (.aload_n 0, 1) := by decide +kernel
theorem dX4_init_13 : decode cX4_init 13 = .ok (.iconst (-1), 1) := by decide +kernel
theorem dX4_init_14 : decode cX4_init 14 = .ok (.putfield 15, 3) := by decide +kernel
theorem dX4_init_17 : decode cX4_init 17 = .ok (.return_, 1) := by decide +kernel
theorem dX4_copy_0 : decode cX4_copy 0 = .ok (.aload_n 1, 1) := by decide +kernel
theorem dX4_copy_1 : decode cX4_copy 1 = .ok (.getfield 9, 3) := by decide +kernel
theorem dX4_copy_4 : decode cX4_copy 4 = .ok (.iconst 0, 1) := by decide +kernel
theorem dX4_copy_5 : decode cX4_copy 5 = .ok (.aload_n 0, 1) := by decide +kernel
theorem dX4_copy_6 : decode cX4_copy 6 = .ok (.getfield 9, 3) := by decide +kernel
theorem dX4_copy_9 : decode cX4_copy 9 = .ok (.iconst 0, 1) := by decide +kernel
theorem dX4_copy_10 : decode cX4_copy 10 = .ok (.bipush 13, 2) := by decide +kernel
theorem dX4_copy_12 : decode cX4_copy 12 = .ok (.invokestatic 19, 3) := by decide +kernel
theorem dX4_copy_15 : decode cX4_copy 15 = .ok (.aload_n 0, 1) := by decide +kernel
theorem dX4_copy_16 : decode cX4_copy 16 = .ok (.aload_n 1, 1) := by decide +kernel
theorem dX4_copy_17 : decode cX4_copy 17 = .ok (.getfield 25, 3) := by decide +kernel
theorem dX4_copy_20 : decode cX4_copy 20 = .ok (.putfield 25, 3) := by decide +kernel
theorem dX4_copy_23 : decode cX4_copy 23 = .ok (.aload_n 0, 1) := by decide +kernel
theorem dX4_copy_24 : decode cX4_copy 24 = .ok (.aload_n 1, 1) := by decide +kernel
theorem dX4_copy_25 : decode cX4_copy 25 = .ok (.getfield 28, 3) := by decide +kernel
theorem dX4_copy_28 : decode cX4_copy 28 = .ok (.putfield 28, 3) := by decide +kernel
theorem dX4_copy_31 : decode cX4_copy 31 = .ok (.aload_n 0, 1) := by decide +kernel
theorem dX4_copy_32 : decode cX4_copy 32 = .ok (.aload_n 1, 1) := by decide +kernel
theorem dX4_copy_33 : decode cX4_copy 33 = .ok (.getfield 31, 3) := by decide +kernel
theorem dX4_copy_36 : decode cX4_copy 36 = .ok (.putfield 31, 3) := by decide +kernel
theorem dX4_copy_39 : decode cX4_copy 39 = .ok (.aload_n 0, 1) := by decide +kernel
theorem dX4_copy_40 : decode cX4_copy 40 = .ok (.aload_n 1, 1) := by decide +kernel
theorem dX4_copy_41 : decode cX4_copy 41 = .ok (.getfield 15, 3) := by decide +kernel
theorem dX4_copy_44 : decode cX4_copy 44 = .ok (.putfield 15, 3) := by decide +kernel
theorem dX4_copy_47 : decode cX4_copy 47 = .ok (.return_, 1) := by decide +kernel
theorem dX4_rise_0 : decode cX4_rise 0 = .ok (.aload_n 0, 1) := by decide +kernel
theorem dX4_rise_1 : decode cX4_rise 1 = .ok (.iconst 0, 1) := by decide +kernel
theorem dX4_rise_2 : decode cX4_rise 2 = .ok (.iload_n 1, 1) := by decide +kernel
theorem dX4_rise_3 : decode cX4_rise 3 = .ok (.bipush 13, 2) := by decide +kernel
theorem dX4_rise_5 : decode cX4_rise 5 = .ok (.invokestatic 34, 3) := by decide +kernel
theorem dX4_rise_8 : decode cX4_rise 8 = .ok (.invokestatic 40, 3) := by decide +kernel
theorem dX4_rise_11 : decode cX4_rise 11 = .ok (.putfield 25, 3) := by decide +kernel
theorem dX4_rise_14 : decode cX4_rise 14 = .ok (.iconst 0, 1) := by decide +kernel
theorem dX4_rise_15 : decode cX4_rise 15 = .ok (.istore_n 2, 1) := by decide +kernel
theorem dX4_rise_16 : decode cX4_rise 16 = .ok (.iload_n 2, 1) := by decide +kernel
theorem dX4_rise_17 : decode cX4_rise 17 = .ok (.aload_n 0, 1) := by decide +kernel
theorem dX4_rise_18 : decode cX4_rise 18 = .ok (.getfield 25, 3) := by decide +kernel
theorem dX4_rise_21 : decode cX4_rise 21 = .ok (.if_icmp .ge 18, 3) := by decide +kernel
theorem dX4_rise_24 : decode cX4_rise 24 = .ok (.aload_n 0, 1) := by decide +kernel
theorem dX4_rise_25 : decode cX4_rise 25 = .ok (.getfield 9, 3) := by decide +kernel
theorem dX4_rise_28 : decode cX4_rise 28 = .ok (.iload_n 2, 1) := by decide +kernel
theorem dX4_rise_29 : decode cX4_rise 29 = .ok (.iload_n 2, 1) := by decide +kernel
theorem dX4_rise_30 : decode cX4_rise 30 = .ok (.iconst 1, 1) := by decide +kernel
theorem dX4_rise_31 : decode cX4_rise 31 = .ok (.iadd, 1) := by decide +kernel
theorem dX4_rise_32 : decode cX4_rise 32 = .ok (.iastore, 1) := by decide +kernel
theorem dX4_rise_33 : decode cX4_rise 33 = .ok (.iinc 2 1, 3) := by decide +kernel
theorem dX4_rise_36 : decode cX4_rise 36 = .ok (.goto (-20), 3) := by decide +kernel
theorem dX4_rise_39 : decode cX4_rise 39 = .ok (.aload_n 0, 1) := by decide +kernel
theorem dX4_rise_40 : decode cX4_rise 40 = .ok (.iconst 0, 1) := by decide +kernel
theorem dX4_rise_41 : decode cX4_rise 41 = .ok (.putfield 28, 3) := by decide +kernel
theorem dX4_rise_44 : decode cX4_rise 44 = .ok (.aload_n 0, 1) := by decide +kernel
theorem dX4_rise_45 : decode cX4_rise 45 = .ok (.iconst 0, 1) := by decide +kernel
theorem dX4_rise_46 : decode cX4_rise 46 = .ok (.putfield 31, 3) := by decide +kernel
theorem dX4_rise_49 : decode cX4_rise 49 = .ok (.aload_n 0, 1) := by decide +kernel
theorem dX4_rise_50 : decode cX4_rise 50 = .ok (.iconst (-1), 1) := by decide +kernel
theorem dX4_rise_51 : decode cX4_rise 51 = .ok (.putfield 15, 3) := by decide +kernel
theorem dX4_rise_54 : decode cX4_rise 54 = .ok (.return_, 1) := by decide +kernel
theorem dX4_card_0 : decode cX4_card 0 = .ok (.iload_n 1, 1) := by decide +kernel
theorem dX4_card_1 : decode cX4_card 1 = .ok (.ifCond .lt 20, 3) := by decide +kernel
theorem dX4_card_4 : decode cX4_card 4 = .ok (.iload_n 1, 1) := by decide +kernel
theorem dX4_card_5 : decode cX4_card 5 = .ok (.aload_n 0, 1) := by decide +kernel
theorem dX4_card_6 : decode cX4_card 6 = .ok (.getfield 25, 3) := by decide +kernel
theorem dX4_card_9 : decode cX4_card 9 = .ok (.if_icmp .ge 12, 3) := by decide +kernel
theorem dX4_card_12 : decode cX4_card 12 = .ok (.aload_n 0, 1) := by decide +kernel
theorem dX4_card_13 : decode cX4_card 13 = .ok (.getfield 9, 3) := by decide +kernel
theorem dX4_card_16 : decode cX4_card 16 = .ok (.iload_n 1, 1) := by decide +kernel
theorem dX4_card_17 : decode cX4_card 17 = .ok (.iaload, 1) := by decide +kernel
theorem dX4_card_18 : decode cX4_card 18 = .ok (.goto 4, 3) := by decide +kernel
theorem dX4_card_21 : decode cX4_card 21 = .ok (.iconst (-1), 1) := by decide +kernel
theorem dX4_card_22 : decode cX4_card 22 = .ok (.ireturn, 1) := by decide +kernel
theorem dX4_has_0 : decode cX4_has 0 = .ok (.iload_n 1, 1) := by decide +kernel
theorem dX4_has_1 : decode cX4_has 1 = .ok (.ifCond .lt 15, 3) := by decide +kernel
theorem dX4_has_4 : decode cX4_has 4 = .ok (.iload_n 1, 1) := by decide +kernel
theorem dX4_has_5 : decode cX4_has 5 = .ok (.aload_n 0, 1) := by decide +kernel
theorem dX4_has_6 : decode cX4_has 6 = .ok (.getfield 25, 3) := by decide +kernel
theorem dX4_has_9 : decode cX4_has 9 = .ok (.if_icmp .ge 7, 3) := by decide +kernel
theorem dX4_has_12 : decode cX4_has 12 = .ok (.iconst 1, 1) := by decide +kernel
theorem dX4_has_13 : decode cX4_has 13 = .ok (.goto 4, 3) := by decide +kernel
theorem dX4_has_16 : decode cX4_has 16 = .ok (.iconst 0, 1) := by decide +kernel
theorem dX4_has_17 : decode cX4_has 17 = .ok (.ireturn, 1) := by decide +kernel
theorem dX4_exchange_0 : decode cX4_exchange 0 = .ok (.aload_n 0, 1) := by decide +kernel
theorem dX4_exchange_1 : decode cX4_exchange 1 = .ok (.iload_n 1, 1) := by decide +kernel
theorem dX4_exchange_2 : decode cX4_exchange 2 = .ok (.invokevirtual 43, 3) := by decide +kernel
theorem dX4_exchange_5 : decode cX4_exchange 5 = .ok (.ifCond .eq 37, 3) := by decide +kernel
theorem dX4_exchange_8 : decode cX4_exchange 8 = .ok (.aload_n 0, 1) := by decide +kernel
theorem dX4_exchange_9 : decode cX4_exchange 9 = .ok (.iload_n 2, 1) := by decide +kernel
theorem dX4_exchange_10 : decode cX4_exchange 10 = .ok (.invokevirtual 43, 3) := by decide +kernel
theorem dX4_exchange_13 : decode cX4_exchange 13 = .ok (.ifCond .eq 29, 3) := by decide +kernel
theorem dX4_exchange_16 : decode cX4_exchange 16 = .ok (.aload_n 0, 1) := by decide +kernel
theorem dX4_exchange_17 : decode cX4_exchange 17 = .ok (.getfield 9, 3) := by decide +kernel
theorem dX4_exchange_20 : decode cX4_exchange 20 = .ok (.iload_n 1, 1) := by decide +kernel
theorem dX4_exchange_21 : decode cX4_exchange 21 = .ok (.iaload, 1) := by decide +kernel
theorem dX4_exchange_22 : decode cX4_exchange 22 = .ok (.istore_n 3, 1) := by decide +kernel
theorem dX4_exchange_23 : decode cX4_exchange 23 = .ok (.aload_n 0, 1) := by decide +kernel
theorem dX4_exchange_24 : decode cX4_exchange 24 = .ok (.getfield 9, 3) := by decide +kernel
theorem dX4_exchange_27 : decode cX4_exchange 27 = .ok (.iload_n 1, 1) := by decide +kernel
theorem dX4_exchange_28 : decode cX4_exchange 28 = .ok (.aload_n 0, 1) := by decide +kernel
theorem dX4_exchange_29 : decode cX4_exchange 29 = .ok (.getfield 9, 3) := by decide +kernel
theorem dX4_exchange_32 : decode cX4_exchange 32 = .ok (.iload_n 2, 1) := by decide +kernel
theorem dX4_exchange_33 : decode cX4_exchange 33 = .ok (.iaload, 1) := by decide +kernel
theorem dX4_exchange_34 : decode cX4_exchange 34 = .ok (.iastore, 1) := by decide +kernel
theorem dX4_exchange_35 : decode cX4_exchange 35 = .ok (.aload_n 0, 1) := by decide +kernel
theorem dX4_exchange_36 : decode cX4_exchange 36 = .ok (.getfield 9, 3) := by decide +kernel
theorem dX4_exchange_39 : decode cX4_exchange 39 = .ok (.iload_n 2, 1) := by decide +kernel
theorem dX4_exchange_40 : decode cX4_exchange 40 = .ok (.iload_n 3, 1) := by decide +kernel
theorem dX4_exchange_41 : decode cX4_exchange 41 = .ok (.iastore, 1) := by decide +kernel
theorem dX4_exchange_42 : decode cX4_exchange 42 = .ok (.return_, 1) := by decide +kernel
theorem dX4_reverse_0 : decode cX4_reverse 0 = .ok (.iload_n 2, 1) := by decide +kernel
theorem dX4_reverse_1 : decode cX4_reverse 1 = .ok (.aload_n 0, 1) := by decide +kernel
theorem dX4_reverse_2 : decode cX4_reverse 2 = .ok (.getfield 25, 3) := by decide +kernel
theorem dX4_reverse_5 : decode cX4_reverse 5 = .ok (.iconst 1, 1) := by decide +kernel
theorem dX4_reverse_6 : decode cX4_reverse 6 = .ok (.isub, 1) := by decide +kernel
theorem dX4_reverse_7 : decode cX4_reverse 7 = .ok (.invokestatic 34, 3) := by decide +kernel
theorem dX4_reverse_10 : decode cX4_reverse 10 = .ok (.istore_n 3, 1) := by decide +kernel
theorem dX4_reverse_11 : decode cX4_reverse 11 = .ok (.iload_n 1, 1) := by decide +kernel
theorem dX4_reverse_12 : decode cX4_reverse 12 = .ok (.iconst 0, 1) := by decide +kernel
theorem dX4_reverse_13 : decode cX4_reverse 13 = .ok (.invokestatic 40, 3) := by decide +kernel
theorem dX4_reverse_16 : decode cX4_reverse 16 = .ok (.istore 4, 2) := by decide +kernel
theorem dX4_reverse_18 : decode cX4_reverse 18 = .ok (.iload 4, 2) := by decide +kernel
theorem dX4_reverse_20 : decode cX4_reverse 20 = .ok (.iload_n 3, 1) := by decide +kernel
theorem dX4_reverse_21 : decode cX4_reverse 21 = .ok (.if_icmp .ge 42, 3) := by decide +kernel
theorem dX4_reverse_24 : decode cX4_reverse 24 = .ok (.aload_n 0, 1) := by decide +kernel
theorem dX4_reverse_25 : decode cX4_reverse 25 = .ok (.getfield 9, 3) := by decide +kernel
theorem dX4_reverse_28 : decode cX4_reverse 28 = .ok (.iload 4, 2) := by decide +kernel
theorem dX4_reverse_30 : decode cX4_reverse 30 = .ok (.iaload, 1) := by decide +kernel
theorem dX4_reverse_31 : decode cX4_reverse 31 = .ok (.istore 5, 2) := by decide +kernel
theorem dX4_reverse_33 : decode cX4_reverse 33 = .ok (.aload_n 0, 1) := by decide +kernel
theorem dX4_reverse_34 : decode cX4_reverse 34 = .ok (.getfield 9, 3) := by decide +kernel
theorem dX4_reverse_37 : decode cX4_reverse 37 = .ok (.iload 4, 2) := by decide +kernel
theorem dX4_reverse_39 : decode cX4_reverse 39 = .ok (.aload_n 0, 1) := by decide +kernel
theorem dX4_reverse_40 : decode cX4_reverse 40 = .ok (.getfield 9, 3) := by decide +kernel
theorem dX4_reverse_43 : decode cX4_reverse 43 = .ok (.iload_n 3, 1) := by decide +kernel
theorem dX4_reverse_44 : decode cX4_reverse 44 = .ok (.iaload, 1) := by decide +kernel
theorem dX4_reverse_45 : decode cX4_reverse 45 = .ok (.iastore, 1) := by decide +kernel
theorem dX4_reverse_46 : decode cX4_reverse 46 = .ok (.aload_n 0, 1) := by decide +kernel
theorem dX4_reverse_47 : decode cX4_reverse 47 = .ok (.getfield 9, 3) := by decide +kernel
theorem dX4_reverse_50 : decode cX4_reverse 50 = .ok (.iload_n 3, 1) := by decide +kernel
theorem dX4_reverse_51 : decode cX4_reverse 51 = .ok (.iload 5, 2) := by decide +kernel
theorem dX4_reverse_53 : decode cX4_reverse 53 = .ok (.iastore, 1) := by decide +kernel
theorem dX4_reverse_54 : decode cX4_reverse 54 = .ok (.iinc 3 (-1), 3) := by decide +kernel
theorem dX4_reverse_57 : decode cX4_reverse 57 = .ok (.iinc 4 1, 3) := by decide +kernel
theorem dX4_reverse_60 : decode cX4_reverse 60 = .ok (.goto (-42), 3) := by decide +kernel
theorem dX4_reverse_63 : decode cX4_reverse 63 = .ok (.return_, 1) := by decide +kernel
theorem dX4_lower_0 : decode cX4_lower 0 = .ok (.aload_n 0, 1) := by decide +kernel
theorem dX4_lower_1 : decode cX4_lower 1 = .ok (.iconst 0, 1) := by decide +kernel
theorem dX4_lower_2 : decode cX4_lower 2 = .ok (.iload_n 1, 1) := by decide +kernel
theorem dX4_lower_3 : decode cX4_lower 3 = .ok (.iconst 1, 1) := by decide +kernel
theorem dX4_lower_4 : decode cX4_lower 4 = .ok (.isub, 1) := by decide +kernel
theorem dX4_lower_5 : decode cX4_lower 5 = .ok (.invokevirtual 47, 3) := by decide +kernel
theorem dX4_lower_8 : decode cX4_lower 8 = .ok (.aload_n 0, 1) := by decide +kernel
theorem dX4_lower_9 : decode cX4_lower 9 = .ok (.iload_n 1, 1) := by decide +kernel
theorem dX4_lower_10 : decode cX4_lower 10 = .ok (.aload_n 0, 1) := by decide +kernel
theorem dX4_lower_11 : decode cX4_lower 11 = .ok (.getfield 25, 3) := by decide +kernel
theorem dX4_lower_14 : decode cX4_lower 14 = .ok (.iconst 1, 1) := by decide +kernel
theorem dX4_lower_15 : decode cX4_lower 15 = .ok (.isub, 1) := by decide +kernel
theorem dX4_lower_16 : decode cX4_lower 16 = .ok (.invokevirtual 47, 3) := by decide +kernel
theorem dX4_lower_19 : decode cX4_lower 19 = .ok (.aload_n 0, 1) := by decide +kernel
theorem dX4_lower_20 : decode cX4_lower 20 = .ok (.iconst 0, 1) := by decide +kernel
theorem dX4_lower_21 : decode cX4_lower 21 = .ok (.aload_n 0, 1) := by decide +kernel
theorem dX4_lower_22 : decode cX4_lower 22 = .ok (.getfield 25, 3) := by decide +kernel
theorem dX4_lower_25 : decode cX4_lower 25 = .ok (.iconst 1, 1) := by decide +kernel
theorem dX4_lower_26 : decode cX4_lower 26 = .ok (.isub, 1) := by decide +kernel
theorem dX4_lower_27 : decode cX4_lower 27 = .ok (.invokevirtual 47, 3) := by decide +kernel
theorem dX4_lower_30 : decode cX4_lower 30 = .ok (.return_, 1) := by decide +kernel
theorem dX4_order_0 : decode cX4_order 0 = .ok (.iload_n 1, 1) := by decide +kernel
theorem dX4_order_1 : decode cX4_order 1 = .ok (.iconst 0, 1) := by decide +kernel
theorem dX4_order_2 : decode cX4_order 2 = .ok (.invokestatic 40, 3) := by decide +kernel
theorem dX4_order_5 : decode cX4_order 5 = .ok (.iconst 1, 1) := by decide +kernel
theorem dX4_order_6 : decode cX4_order 6 = .ok (.iadd, 1) := by decide +kernel
theorem dX4_order_7 : decode cX4_order 7 = .ok (.istore_n 2, 1) := by decide +kernel
theorem dX4_order_8 : decode cX4_order 8 = .ok (.iload_n 2, 1) := by decide +kernel
theorem dX4_order_9 : decode cX4_order 9 = .ok (.aload_n 0, 1) := by decide +kernel
theorem dX4_order_10 : decode cX4_order 10 = .ok (.getfield 25, 3) := by decide +kernel
theorem dX4_order_13 : decode cX4_order 13 = .ok (.if_icmp .ge 51, 3) := by decide +kernel
theorem dX4_order_16 : decode cX4_order 16 = .ok (.iload_n 2, 1) := by decide +kernel
theorem dX4_order_17 : decode cX4_order 17 = .ok (.istore_n 3, 1) := by decide +kernel
theorem dX4_order_18 : decode cX4_order 18 = .ok (.iload_n 3, 1) := by decide +kernel
theorem dX4_order_19 : decode cX4_order 19 = .ok (.iload_n 1, 1) := by decide +kernel
theorem dX4_order_20 : decode cX4_order 20 = .ok (.if_icmp .le 38, 3) := by decide +kernel
theorem dX4_order_23 : decode cX4_order 23 = .ok (.iload_n 3, 1) := by decide +kernel
theorem dX4_order_24 : decode cX4_order 24 = .ok (.ifCond .le 34, 3) := by decide +kernel
theorem dX4_order_27 : decode cX4_order 27 = .ok (.aload_n 0, 1) := by decide +kernel
theorem dX4_order_28 : decode cX4_order 28 = .ok (.getfield 9, 3) := by decide +kernel
theorem dX4_order_31 : decode cX4_order 31 = .ok (.iload_n 3, 1) := by decide +kernel
theorem dX4_order_32 : decode cX4_order 32 = .ok (.iconst 1, 1) := by decide +kernel
theorem dX4_order_33 : decode cX4_order 33 = .ok (.isub, 1) := by decide +kernel
theorem dX4_order_34 : decode cX4_order 34 = .ok (.iaload, 1) := by decide +kernel
theorem dX4_order_35 : decode cX4_order 35 = .ok (.aload_n 0, 1) := by decide +kernel
theorem dX4_order_36 : decode cX4_order 36 = .ok (.getfield 9, 3) := by decide +kernel
theorem dX4_order_39 : decode cX4_order 39 = .ok (.iload_n 3, 1) := by decide +kernel
theorem dX4_order_40 : decode cX4_order 40 = .ok (.iaload, 1) := by decide +kernel
theorem dX4_order_41 : decode cX4_order 41 = .ok (.if_icmp .le 17, 3) := by decide +kernel
theorem dX4_order_44 : decode cX4_order 44 = .ok (.aload_n 0, 1) := by decide +kernel
theorem dX4_order_45 : decode cX4_order 45 = .ok (.iload_n 3, 1) := by decide +kernel
theorem dX4_order_46 : decode cX4_order 46 = .ok (.iconst 1, 1) := by decide +kernel
theorem dX4_order_47 : decode cX4_order 47 = .ok (.isub, 1) := by decide +kernel
theorem dX4_order_48 : decode cX4_order 48 = .ok (.iload_n 3, 1) := by decide +kernel
theorem dX4_order_49 : decode cX4_order 49 = .ok (.invokevirtual 51, 3) := by decide +kernel
theorem dX4_order_52 : decode cX4_order 52 = .ok (.iinc 3 (-1), 3) := by decide +kernel
theorem dX4_order_55 : decode cX4_order 55 = .ok (.goto (-37), 3) := by decide +kernel
theorem dX4_order_58 : decode cX4_order 58 = .ok (.iinc 2 1, 3) := by decide +kernel
theorem dX4_order_61 : decode cX4_order 61 = .ok (.goto (-53), 3) := by decide +kernel
theorem dX4_order_64 : decode cX4_order 64 = .ok (.return_, 1) := by decide +kernel
theorem dX4_advance_0 : decode cX4_advance 0 = .ok (.aload_n 0, 1) := by decide +kernel
theorem dX4_advance_1 : decode cX4_advance 1 = .ok (.getfield 25, 3) := by decide +kernel
theorem dX4_advance_4 : decode cX4_advance 4 = .ok (.iconst 2, 1) := by decide +kernel
theorem dX4_advance_5 : decode cX4_advance 5 = .ok (.isub, 1) := by decide +kernel
theorem dX4_advance_6 : decode cX4_advance 6 = .ok (.istore_n 2, 1) := by decide +kernel
theorem dX4_advance_7 : decode cX4_advance 7 = .ok (.iload_n 2, 1) := by decide +kernel
theorem dX4_advance_8 : decode cX4_advance 8 = .ok (.iload_n 1, 1) := by decide +kernel
theorem dX4_advance_9 : decode cX4_advance 9 = .ok (.if_icmp .lt 30, 3) := by decide +kernel
theorem dX4_advance_12 : decode cX4_advance 12 = .ok (.iload_n 2, 1) := by decide +kernel
theorem dX4_advance_13 : decode cX4_advance 13 = .ok (.ifCond .lt 26, 3) := by decide +kernel
theorem dX4_advance_16 : decode cX4_advance 16 = .ok (.aload_n 0, 1) := by decide +kernel
theorem dX4_advance_17 : decode cX4_advance 17 = .ok (.getfield 9, 3) := by decide +kernel
theorem dX4_advance_20 : decode cX4_advance 20 = .ok (.iload_n 2, 1) := by decide +kernel
theorem dX4_advance_21 : decode cX4_advance 21 = .ok (.iaload, 1) := by decide +kernel
theorem dX4_advance_22 : decode cX4_advance 22 = .ok (.aload_n 0, 1) := by decide +kernel
theorem dX4_advance_23 : decode cX4_advance 23 = .ok (.getfield 9, 3) := by decide +kernel
theorem dX4_advance_26 : decode cX4_advance 26 = .ok (.iload_n 2, 1) := by decide +kernel
theorem dX4_advance_27 : decode cX4_advance 27 = .ok (.iconst 1, 1) := by decide +kernel
theorem dX4_advance_28 : decode cX4_advance 28 = .ok (.iadd, 1) := by decide +kernel
theorem dX4_advance_29 : decode cX4_advance 29 = .ok (.iaload, 1) := by decide +kernel
theorem dX4_advance_30 : decode cX4_advance 30 = .ok (.if_icmp .lt 9, 3) := by decide +kernel
theorem dX4_advance_33 : decode cX4_advance 33 = .ok (.iinc 2 (-1), 3) := by decide +kernel
theorem dX4_advance_36 : decode cX4_advance 36 = .ok (.goto (-29), 3) := by decide +kernel
theorem dX4_advance_39 : decode cX4_advance 39 = .ok (.iload_n 2, 1) := by decide +kernel
theorem dX4_advance_40 : decode cX4_advance 40 = .ok (.iload_n 1, 1) := by decide +kernel
theorem dX4_advance_41 : decode cX4_advance 41 = .ok (.if_icmp .lt 7, 3) := by decide +kernel
theorem dX4_advance_44 : decode cX4_advance 44 = .ok (.iload_n 2, 1) := by decide +kernel
theorem dX4_advance_45 : decode cX4_advance 45 = .ok (.ifCond .ge 5, 3) := by decide +kernel
theorem dX4_advance_48 : decode cX4_advance 48 = .ok (.iconst 0, 1) := by decide +kernel
theorem dX4_advance_49 : decode cX4_advance 49 = .ok (.ireturn, 1) := by decide +kernel
theorem dX4_advance_50 : decode cX4_advance 50 = .ok (.aload_n 0, 1) := by decide +kernel
theorem dX4_advance_51 : decode cX4_advance 51 = .ok (.getfield 25, 3) := by decide +kernel
theorem dX4_advance_54 : decode cX4_advance 54 = .ok (.iconst 1, 1) := by decide +kernel
theorem dX4_advance_55 : decode cX4_advance 55 = .ok (.isub, 1) := by decide +kernel
theorem dX4_advance_56 : decode cX4_advance 56 = .ok (.istore_n 3, 1) := by decide +kernel
theorem dX4_advance_57 : decode cX4_advance 57 = .ok (.iload_n 3, 1) := by decide +kernel
theorem dX4_advance_58 : decode cX4_advance 58 = .ok (.iload_n 2, 1) := by decide +kernel
theorem dX4_advance_59 : decode cX4_advance 59 = .ok (.if_icmp .le 24, 3) := by decide +kernel
theorem dX4_advance_62 : decode cX4_advance 62 = .ok (.aload_n 0, 1) := by decide +kernel
theorem dX4_advance_63 : decode cX4_advance 63 = .ok (.getfield 9, 3) := by decide +kernel
theorem dX4_advance_66 : decode cX4_advance 66 = .ok (.iload_n 3, 1) := by decide +kernel
theorem dX4_advance_67 : decode cX4_advance 67 = .ok (.iaload, 1) := by decide +kernel
theorem dX4_advance_68 : decode cX4_advance 68 = .ok (.aload_n 0, 1) := by decide +kernel
theorem dX4_advance_69 : decode cX4_advance 69 = .ok (.getfield 9, 3) := by decide +kernel
theorem dX4_advance_72 : decode cX4_advance 72 = .ok (.iload_n 2, 1) := by decide +kernel
theorem dX4_advance_73 : decode cX4_advance 73 = .ok (.iaload, 1) := by decide +kernel
theorem dX4_advance_74 : decode cX4_advance 74 = .ok (.if_icmp .gt 9, 3) := by decide +kernel
theorem dX4_advance_77 : decode cX4_advance 77 = .ok (.iinc 3 (-1), 3) := by decide +kernel
theorem dX4_advance_80 : decode cX4_advance 80 = .ok (.goto (-23), 3) := by decide +kernel
theorem dX4_advance_83 : decode cX4_advance 83 = .ok (.aload_n 0, 1) := by decide +kernel
theorem dX4_advance_84 : decode cX4_advance 84 = .ok (.iload_n 2, 1) := by decide +kernel
theorem dX4_advance_85 : decode cX4_advance 85 = .ok (.iload_n 3, 1) := by decide +kernel
theorem dX4_advance_86 : decode cX4_advance 86 = .ok (.invokevirtual 51, 3) := by decide +kernel
theorem dX4_advance_89 : decode cX4_advance 89 = .ok (.aload_n 0, 1) := by decide +kernel
theorem dX4_advance_90 : decode cX4_advance 90 = .ok (.iload_n 2, 1) := by decide +kernel
theorem dX4_advance_91 : decode cX4_advance 91 = .ok (.iconst 1, 1) := by decide +kernel
theorem dX4_advance_92 : decode cX4_advance 92 = .ok (.iadd, 1) := by decide +kernel
theorem dX4_advance_93 : decode cX4_advance 93 = .ok (.aload_n 0, 1) := by decide +kernel
theorem dX4_advance_94 : decode cX4_advance 94 = .ok (.getfield 25, 3) := by decide +kernel
theorem dX4_advance_97 : decode cX4_advance 97 = .ok (.iconst 1, 1) := by decide +kernel
theorem dX4_advance_98 : decode cX4_advance 98 = .ok (.isub, 1) := by decide +kernel
theorem dX4_advance_99 : decode cX4_advance 99 = .ok (.invokevirtual 47, 3) := by decide +kernel
theorem dX4_advance_102 : decode cX4_advance 102 = .ok (.iconst 1, 1) := by decide +kernel
theorem dX4_advance_103 : decode cX4_advance 103 = .ok (.ireturn, 1) := by decide +kernel
theorem dX4_rises_0 : decode cX4_rises 0 = .ok (.iconst 1, 1) := by decide +kernel
theorem dX4_rises_1 : decode cX4_rises 1 = .ok (.istore_n 1, 1) := by decide +kernel
theorem dX4_rises_2 : decode cX4_rises 2 = .ok (.iload_n 1, 1) := by decide +kernel
theorem dX4_rises_3 : decode cX4_rises 3 = .ok (.aload_n 0, 1) := by decide +kernel
theorem dX4_rises_4 : decode cX4_rises 4 = .ok (.getfield 25, 3) := by decide +kernel
theorem dX4_rises_7 : decode cX4_rises 7 = .ok (.if_icmp .ge 28, 3) := by decide +kernel
theorem dX4_rises_10 : decode cX4_rises 10 = .ok (.aload_n 0, 1) := by decide +kernel
theorem dX4_rises_11 : decode cX4_rises 11 = .ok (.getfield 9, 3) := by decide +kernel
theorem dX4_rises_14 : decode cX4_rises 14 = .ok (.iload_n 1, 1) := by decide +kernel
theorem dX4_rises_15 : decode cX4_rises 15 = .ok (.iconst 1, 1) := by decide +kernel
theorem dX4_rises_16 : decode cX4_rises 16 = .ok (.isub, 1) := by decide +kernel
theorem dX4_rises_17 : decode cX4_rises 17 = .ok (.iaload, 1) := by decide +kernel
theorem dX4_rises_18 : decode cX4_rises 18 = .ok (.aload_n 0, 1) := by decide +kernel
theorem dX4_rises_19 : decode cX4_rises 19 = .ok (.getfield 9, 3) := by decide +kernel
theorem dX4_rises_22 : decode cX4_rises 22 = .ok (.iload_n 1, 1) := by decide +kernel
theorem dX4_rises_23 : decode cX4_rises 23 = .ok (.iaload, 1) := by decide +kernel
theorem dX4_rises_24 : decode cX4_rises 24 = .ok (.if_icmp .le 5, 3) := by decide +kernel
theorem dX4_rises_27 : decode cX4_rises 27 = .ok (.iconst 0, 1) := by decide +kernel
theorem dX4_rises_28 : decode cX4_rises 28 = .ok (.ireturn, 1) := by decide +kernel
theorem dX4_rises_29 : decode cX4_rises 29 = .ok (.iinc 1 1, 3) := by decide +kernel
theorem dX4_rises_32 : decode cX4_rises 32 = .ok (.goto (-30), 3) := by decide +kernel
theorem dX4_rises_35 : decode cX4_rises 35 = .ok (.iconst 1, 1) := by decide +kernel
theorem dX4_rises_36 : decode cX4_rises 36 = .ok (.ireturn, 1) := by decide +kernel
theorem dX4_packed_0 : decode cX4_packed 0 = .ok (.aload_n 0, 1) := by decide +kernel
theorem dX4_packed_1 : decode cX4_packed 1 = .ok (.getfield 31, 3) := by decide +kernel
theorem dX4_packed_4 : decode cX4_packed 4 = .ok (.i2l, 1) := by decide +kernel
theorem dX4_packed_5 : decode cX4_packed 5 = .ok (.lstore_n 1, 1) := by decide +kernel
theorem dX4_packed_6 : decode cX4_packed 6 = .ok (.iconst 0, 1) := by decide +kernel
theorem dX4_packed_7 : decode cX4_packed 7 = .ok (.istore_n 3, 1) := by decide +kernel
theorem dX4_packed_8 : decode cX4_packed 8 = .ok (.iload_n 3, 1) := by decide +kernel
theorem dX4_packed_9 : decode cX4_packed 9 = .ok (.aload_n 0, 1) := by decide +kernel
theorem dX4_packed_10 : decode cX4_packed 10 = .ok (.getfield 25, 3) := by decide +kernel
theorem dX4_packed_13 : decode cX4_packed 13 = .ok (.if_icmp .ge 21, 3) := by decide +kernel
theorem dX4_packed_16 : decode cX4_packed 16 = .ok (.lload_n 1, 1) := by decide +kernel
theorem dX4_packed_17 : decode cX4_packed 17 = .ok (.iconst 4, 1) := by decide +kernel
theorem dX4_packed_18 : decode cX4_packed 18 = .ok (.lshl, 1) := by decide +kernel
theorem dX4_packed_19 : decode cX4_packed 19 = .ok (.aload_n 0, 1) := by decide +kernel
theorem dX4_packed_20 : decode cX4_packed 20 = .ok (.getfield 9, 3) := by decide +kernel
theorem dX4_packed_23 : decode cX4_packed 23 = .ok (.iload_n 3, 1) := by decide +kernel
theorem dX4_packed_24 : decode cX4_packed 24 = .ok (.iaload, 1) := by decide +kernel
theorem dX4_packed_25 : decode cX4_packed 25 = .ok (.i2l, 1) := by decide +kernel
theorem dX4_packed_26 : decode cX4_packed 26 = .ok (.lor, 1) := by decide +kernel
theorem dX4_packed_27 : decode cX4_packed 27 = .ok (.lstore_n 1, 1) := by decide +kernel
theorem dX4_packed_28 : decode cX4_packed 28 = .ok (.iinc 3 1, 3) := by decide +kernel
theorem dX4_packed_31 : decode cX4_packed 31 = .ok (.goto (-23), 3) := by decide +kernel
theorem dX4_packed_34 : decode cX4_packed 34 = .ok (.lload_n 1, 1) := by decide +kernel
theorem dX4_packed_35 : decode cX4_packed 35 = .ok (.lreturn, 1) := by decide +kernel
