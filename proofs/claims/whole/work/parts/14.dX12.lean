theorem dX12_lies_0 : decode cX12_lies 0 = .ok (.iload_n 0, 1) := by decide +kernel
theorem dX12_lies_1 : decode cX12_lies 1 = .ok (.iload_n 1, 1) := by decide +kernel
theorem dX12_lies_2 : decode cX12_lies 2 = .ok (.if_icmp .lt 12, 3) := by decide +kernel
theorem dX12_lies_5 : decode cX12_lies 5 = .ok (.iload_n 0, 1) := by decide +kernel
theorem dX12_lies_6 : decode cX12_lies 6 = .ok (.iload_n 2, 1) := by decide +kernel
theorem dX12_lies_7 : decode cX12_lies 7 = .ok (.if_icmp .gt 7, 3) := by decide +kernel
theorem dX12_lies_10 : decode cX12_lies 10 = .ok (.iconst 1, 1) := by decide +kernel
theorem dX12_lies_11 : decode cX12_lies 11 = .ok (.goto 4, 3) := by decide +kernel
theorem dX12_lies_14 : decode cX12_lies 14 = .ok (.iconst 0, 1) := by decide +kernel
theorem dX12_lies_15 : decode cX12_lies 15 = .ok (.ireturn, 1) := by decide +kernel
theorem dX12_lesser_0 : decode cX12_lesser 0 = .ok (.iload_n 0, 1) := by decide +kernel
theorem dX12_lesser_1 : decode cX12_lesser 1 = .ok (.iload_n 1, 1) := by decide +kernel
theorem dX12_lesser_2 : decode cX12_lesser 2 = .ok (.if_icmp .ge 7, 3) := by decide +kernel
theorem dX12_lesser_5 : decode cX12_lesser 5 = .ok (.iload_n 0, 1) := by decide +kernel
theorem dX12_lesser_6 : decode cX12_lesser 6 = .ok (.goto 4, 3) := by decide +kernel
theorem dX12_lesser_9 : decode cX12_lesser 9 = .ok (.iload_n 1, 1) := by decide +kernel
theorem dX12_lesser_10 : decode cX12_lesser 10 = .ok (.ireturn, 1) := by decide +kernel
theorem dX12_refuses_0 : decode cX12_refuses 0 = .ok (.aload_n 0, 1) := by decide +kernel
theorem dX12_refuses_1 : decode cX12_refuses 1 = .ok (.iload_n 1, 1) := by decide +kernel
theorem dX12_refuses_2 : decode cX12_refuses 2 = .ok (.putfield 3, 3) := by decide +kernel
theorem dX12_refuses_5 : decode cX12_refuses 5 = .ok (.aload_n 0, 1) := by decide +kernel
theorem dX12_refuses_6 : decode cX12_refuses 6 = .ok (.getfield 7, 3) := by decide +kernel
theorem dX12_refuses_9 : decode cX12_refuses 9 = .ok (.iload_n 1, 1) := by decide +kernel
theorem dX12_refuses_10 : decode cX12_refuses 10 = .ok (.ineg, 1) := by decide +kernel
theorem dX12_refuses_11 : decode cX12_refuses 11 = .ok (.dup2, 1) := by decide +kernel
theorem dX12_refuses_12 : decode cX12_refuses 12 = .ok (.iaload, 1) := by decide +kernel
theorem dX12_refuses_13 : decode cX12_refuses 13 = .ok (.iconst 1, 1) := by decide +kernel
theorem dX12_refuses_14 : decode cX12_refuses 14 = .ok (.iadd, 1) := by decide +kernel
theorem dX12_refuses_15 : decode cX12_refuses 15 = .ok (.iastore, 1) := by decide +kernel
theorem dX12_refuses_16 : decode cX12_refuses 16 = .ok (.iload_n 1, 1) := by decide +kernel
theorem dX12_refuses_17 : decode cX12_refuses 17 = .ok (.ireturn, 1) := by decide +kernel
theorem dX12_good_0 : decode cX12_good 0 = .ok (.aload_n 0, 1) := by decide +kernel
theorem dX12_good_1 : decode cX12_good 1 = .ok (.iconst 0, 1) := by decide +kernel
theorem dX12_good_2 : decode cX12_good 2 = .ok (.putfield 3, 3) := by decide +kernel
theorem dX12_good_5 : decode cX12_good 5 = .ok (.iload_n 1, 1) := by decide +kernel
theorem dX12_good_6 : decode cX12_good 6 = .ok (.ireturn, 1) := by decide +kernel
theorem dX12_settled_0 : decode cX12_settled 0 = .ok (.aload_n 0, 1) := by decide +kernel
theorem dX12_settled_1 : decode cX12_settled 1 = .ok (.iconst 0, 1) := by decide +kernel
theorem dX12_settled_2 : decode cX12_settled 2 = .ok (.putfield 11, 3) := by decide +kernel
theorem dX12_settled_5 : decode cX12_settled 5 = .ok (.aload_n 0, 1) := by decide +kernel
theorem dX12_settled_6 : decode cX12_settled 6 = .ok (.iload_n 1, 1) := by decide +kernel
theorem dX12_settled_7 : decode cX12_settled 7 = .ok (.invokevirtual 14, 3) := by decide +kernel
theorem dX12_settled_10 : decode cX12_settled 10 = .ok (.ireturn, 1) := by decide +kernel
theorem dX12_common_0 : decode cX12_common 0 = .ok (.iload_n 0, 1) := by decide +kernel
theorem dX12_common_1 : decode cX12_common 1 = .ok (.istore_n 2, 1) := by decide +kernel
theorem dX12_common_2 : decode cX12_common 2 = .ok (.iload_n 1, 1) := by decide +kernel
theorem dX12_common_3 : decode cX12_common 3 = .ok (.istore_n 3, 1) := by decide +kernel
theorem dX12_common_4 : decode cX12_common 4 = .ok (.iload_n 3, 1) := by decide +kernel
theorem dX12_common_5 : decode cX12_common 5 = .ok (.ifCond .eq 16, 3) := by decide +kernel
theorem dX12_common_8 : decode cX12_common 8 = .ok (.iload_n 2, 1) := by decide +kernel
theorem dX12_common_9 : decode cX12_common 9 = .ok (.iload_n 3, 1) := by decide +kernel
theorem dX12_common_10 : decode cX12_common 10 = .ok (.irem, 1) := by decide +kernel
theorem dX12_common_11 : decode cX12_common 11 = .ok (.istore 4, 2) := by decide +kernel
theorem dX12_common_13 : decode cX12_common 13 = .ok (.iload_n 3, 1) := by decide +kernel
theorem dX12_common_14 : decode cX12_common 14 = .ok (.istore_n 2, 1) := by decide +kernel
theorem dX12_common_15 : decode cX12_common 15 = .ok (.iload 4, 2) := by decide +kernel
theorem dX12_common_17 : decode cX12_common 17 = .ok (.istore_n 3, 1) := by decide +kernel
theorem dX12_common_18 : decode cX12_common 18 = .ok (.goto (-14), 3) := by decide +kernel
theorem dX12_common_21 : decode cX12_common 21 = .ok (.iload_n 2, 1) := by decide +kernel
theorem dX12_common_22 : decode cX12_common 22 = .ok (.ireturn, 1) := by decide +kernel
theorem dX12_image_0 : decode cX12_image 0 = .ok (.iload_n 1, 1) := by decide +kernel
theorem dX12_image_1 : decode cX12_image 1 = .ok (.iconst 0, 1) := by decide +kernel
theorem dX12_image_2 : decode cX12_image 2 = .ok (.iconst 1, 1) := by decide +kernel
theorem dX12_image_3 : decode cX12_image 3 = .ok (.invokestatic 102, 3) := by decide +kernel
theorem dX12_image_6 : decode cX12_image 6 = .ok (.ifCond .ne 9, 3) := by decide +kernel
theorem dX12_image_9 : decode cX12_image 9 = .ok (.aload_n 0, 1) := by decide +kernel
theorem dX12_image_10 : decode cX12_image 10 = .ok (.iconst (-1), 1) := by decide +kernel
theorem dX12_image_11 : decode cX12_image 11 = .ok (.invokevirtual 106, 3) := by decide +kernel
theorem dX12_image_14 : decode cX12_image 14 = .ok (.ireturn, 1) := by decide +kernel
theorem dX12_image_15 : decode cX12_image 15 = .ok (.iconst 0, 1) := by decide +kernel
theorem dX12_image_16 : decode cX12_image 16 = .ok (.istore_n 2, 1) := by decide +kernel
theorem dX12_image_17 : decode cX12_image 17 = .ok (.iload_n 2, 1) := by decide +kernel
theorem dX12_image_18 : decode cX12_image 18 = .ok (.sipush 5725, 3) := by decide +kernel
theorem dX12_image_21 : decode cX12_image 21 = .ok (.if_icmp .ge 27, 3) := by decide +kernel
theorem dX12_image_24 : decode cX12_image 24 = .ok (.aload_n 0, 1) := by decide +kernel
theorem dX12_image_25 : decode cX12_image 25 = .ok (.getfield 27, 3) := by decide +kernel
theorem dX12_image_28 : decode cX12_image 28 = .ok (.sipush 5725, 3) := by decide +kernel
theorem dX12_image_31 : decode cX12_image 31 = .ok (.iload_n 1, 1) := by decide +kernel
theorem dX12_image_32 : decode cX12_image 32 = .ok (.imul, 1) := by decide +kernel
theorem dX12_image_33 : decode cX12_image 33 = .ok (.iload_n 2, 1) := by decide +kernel
theorem dX12_image_34 : decode cX12_image 34 = .ok (.iadd, 1) := by decide +kernel
theorem dX12_image_35 : decode cX12_image 35 = .ok (.aload_n 0, 1) := by decide +kernel
theorem dX12_image_36 : decode cX12_image 36 = .ok (.getfield 24, 3) := by decide +kernel
theorem dX12_image_39 : decode cX12_image 39 = .ok (.iload_n 2, 1) := by decide +kernel
theorem dX12_image_40 : decode cX12_image 40 = .ok (.iaload, 1) := by decide +kernel
theorem dX12_image_41 : decode cX12_image 41 = .ok (.iastore, 1) := by decide +kernel
theorem dX12_image_42 : decode cX12_image 42 = .ok (.iinc 2 1, 3) := by decide +kernel
theorem dX12_image_45 : decode cX12_image 45 = .ok (.goto (-28), 3) := by decide +kernel
theorem dX12_image_48 : decode cX12_image 48 = .ok (.aload_n 0, 1) := by decide +kernel
theorem dX12_image_49 : decode cX12_image 49 = .ok (.getfield 30, 3) := by decide +kernel
theorem dX12_image_52 : decode cX12_image 52 = .ok (.iload_n 1, 1) := by decide +kernel
theorem dX12_image_53 : decode cX12_image 53 = .ok (.iconst 1, 1) := by decide +kernel
theorem dX12_image_54 : decode cX12_image 54 = .ok (.bastore, 1) := by decide +kernel
theorem dX12_image_55 : decode cX12_image 55 = .ok (.aload_n 0, 1) := by decide +kernel
theorem dX12_image_56 : decode cX12_image 56 = .ok (.iconst 0, 1) := by decide +kernel
theorem dX12_image_57 : decode cX12_image 57 = .ok (.invokevirtual 14, 3) := by decide +kernel
theorem dX12_image_60 : decode cX12_image 60 = .ok (.ireturn, 1) := by decide +kernel
theorem dX12_back_0 : decode cX12_back 0 = .ok (.iload_n 1, 1) := by decide +kernel
theorem dX12_back_1 : decode cX12_back 1 = .ok (.iconst 0, 1) := by decide +kernel
theorem dX12_back_2 : decode cX12_back 2 = .ok (.iconst 1, 1) := by decide +kernel
theorem dX12_back_3 : decode cX12_back 3 = .ok (.invokestatic 102, 3) := by decide +kernel
theorem dX12_back_6 : decode cX12_back 6 = .ok (.ifCond .ne 9, 3) := by decide +kernel
theorem dX12_back_9 : decode cX12_back 9 = .ok (.aload_n 0, 1) := by decide +kernel
theorem dX12_back_10 : decode cX12_back 10 = .ok (.iconst (-1), 1) := by decide +kernel
theorem dX12_back_11 : decode cX12_back 11 = .ok (.invokevirtual 106, 3) := by decide +kernel
theorem dX12_back_14 : decode cX12_back 14 = .ok (.ireturn, 1) := by decide +kernel
theorem dX12_back_15 : decode cX12_back 15 = .ok (.aload_n 0, 1) := by decide +kernel
theorem dX12_back_16 : decode cX12_back 16 = .ok (.getfield 30, 3) := by decide +kernel
theorem dX12_back_19 : decode cX12_back 19 = .ok (.iload_n 1, 1) := by decide +kernel
theorem dX12_back_20 : decode cX12_back 20 = .ok (.baload, 1) := by decide +kernel
theorem dX12_back_21 : decode cX12_back 21 = .ok (.ifCond .ne 10, 3) := by decide +kernel
theorem dX12_back_24 : decode cX12_back 24 = .ok (.aload_n 0, 1) := by decide +kernel
theorem dX12_back_25 : decode cX12_back 25 = .ok (.bipush (-2), 2) := by decide +kernel
theorem dX12_back_27 : decode cX12_back 27 = .ok (.invokevirtual 106, 3) := by decide +kernel
theorem dX12_back_30 : decode cX12_back 30 = .ok (.ireturn, 1) := by decide +kernel
theorem dX12_back_31 : decode cX12_back 31 = .ok (.iconst 0, 1) := by decide +kernel
theorem dX12_back_32 : decode cX12_back 32 = .ok (.istore_n 2, 1) := by decide +kernel
theorem dX12_back_33 : decode cX12_back 33 = .ok (.iload_n 2, 1) := by decide +kernel
theorem dX12_back_34 : decode cX12_back 34 = .ok (.sipush 5725, 3) := by decide +kernel
theorem dX12_back_37 : decode cX12_back 37 = .ok (.if_icmp .ge 27, 3) := by decide +kernel
theorem dX12_back_40 : decode cX12_back 40 = .ok (.aload_n 0, 1) := by decide +kernel
theorem dX12_back_41 : decode cX12_back 41 = .ok (.getfield 24, 3) := by decide +kernel
theorem dX12_back_44 : decode cX12_back 44 = .ok (.iload_n 2, 1) := by decide +kernel
theorem dX12_back_45 : decode cX12_back 45 = .ok (.aload_n 0, 1) := by decide +kernel
theorem dX12_back_46 : decode cX12_back 46 = .ok (.getfield 27, 3) := by decide +kernel
theorem dX12_back_49 : decode cX12_back 49 = .ok (.sipush 5725, 3) := by decide +kernel
theorem dX12_back_52 : decode cX12_back 52 = .ok (.iload_n 1, 1) := by decide +kernel
theorem dX12_back_53 : decode cX12_back 53 = .ok (.imul, 1) := by decide +kernel
theorem dX12_back_54 : decode cX12_back 54 = .ok (.iload_n 2, 1) := by decide +kernel
theorem dX12_back_55 : decode cX12_back 55 = .ok (.iadd, 1) := by decide +kernel
theorem dX12_back_56 : decode cX12_back 56 = .ok (.iaload, 1) := by decide +kernel
theorem dX12_back_57 : decode cX12_back 57 = .ok (.iastore, 1) := by decide +kernel
theorem dX12_back_58 : decode cX12_back 58 = .ok (.iinc 2 1, 3) := by decide +kernel
theorem dX12_back_61 : decode cX12_back 61 = .ok (.goto (-28), 3) := by decide +kernel
theorem dX12_back_64 : decode cX12_back 64 = .ok (.aload_n 0, 1) := by decide +kernel
theorem dX12_back_65 : decode cX12_back 65 = .ok (.iconst 0, 1) := by decide +kernel
theorem dX12_back_66 : decode cX12_back 66 = .ok (.invokevirtual 109, 3) := by decide +kernel
theorem dX12_back_69 : decode cX12_back 69 = .ok (.ireturn, 1) := by decide +kernel
theorem dX12_isHeap_0 : decode cX12_isHeap 0 = .ok (.iload_n 1, 1) := by decide +kernel
theorem dX12_isHeap_1 : decode cX12_isHeap 1 = .ok (.iconst 0, 1) := by decide +kernel
theorem dX12_isHeap_2 : decode cX12_isHeap 2 = .ok (.aload_n 0, 1) := by decide +kernel
theorem dX12_isHeap_3 : decode cX12_isHeap 3 = .ok (.getfield 24, 3) := by decide +kernel
theorem dX12_isHeap_6 : decode cX12_isHeap 6 = .ok (.bipush 96, 2) := by decide +kernel
theorem dX12_isHeap_8 : decode cX12_isHeap 8 = .ok (.iaload, 1) := by decide +kernel
theorem dX12_isHeap_9 : decode cX12_isHeap 9 = .ok (.iconst 1, 1) := by decide +kernel
theorem dX12_isHeap_10 : decode cX12_isHeap 10 = .ok (.isub, 1) := by decide +kernel
theorem dX12_isHeap_11 : decode cX12_isHeap 11 = .ok (.invokestatic 102, 3) := by decide +kernel
theorem dX12_isHeap_14 : decode cX12_isHeap 14 = .ok (.ireturn, 1) := by decide +kernel
theorem dX12_placeOf_0 : decode cX12_placeOf 0 = .ok (.iconst 0, 1) := by decide +kernel
theorem dX12_placeOf_1 : decode cX12_placeOf 1 = .ok (.bipush 16, 2) := by decide +kernel
theorem dX12_placeOf_3 : decode cX12_placeOf 3 = .ok (.iload_n 0, 1) := by decide +kernel
theorem dX12_placeOf_4 : decode cX12_placeOf 4 = .ok (.imul, 1) := by decide +kernel
theorem dX12_placeOf_5 : decode cX12_placeOf 5 = .ok (.iadd, 1) := by decide +kernel
theorem dX12_placeOf_6 : decode cX12_placeOf 6 = .ok (.ireturn, 1) := by decide +kernel
theorem dX12_manyIn_0 : decode cX12_manyIn 0 = .ok (.aload_n 0, 1) := by decide +kernel
theorem dX12_manyIn_1 : decode cX12_manyIn 1 = .ok (.getfield 24, 3) := by decide +kernel
theorem dX12_manyIn_4 : decode cX12_manyIn 4 = .ok (.iload_n 1, 1) := by decide +kernel
theorem dX12_manyIn_5 : decode cX12_manyIn 5 = .ok (.invokestatic 112, 3) := by decide +kernel
theorem dX12_manyIn_8 : decode cX12_manyIn 8 = .ok (.iconst 0, 1) := by decide +kernel
theorem dX12_manyIn_9 : decode cX12_manyIn 9 = .ok (.iadd, 1) := by decide +kernel
theorem dX12_manyIn_10 : decode cX12_manyIn 10 = .ok (.iaload, 1) := by decide +kernel
theorem dX12_manyIn_11 : decode cX12_manyIn 11 = .ok (.ireturn, 1) := by decide +kernel
theorem dX12_cardOf_0 : decode cX12_cardOf 0 = .ok (.aload_n 0, 1) := by decide +kernel
theorem dX12_cardOf_1 : decode cX12_cardOf 1 = .ok (.getfield 24, 3) := by decide +kernel
theorem dX12_cardOf_4 : decode cX12_cardOf 4 = .ok (.iload_n 1, 1) := by decide +kernel
theorem dX12_cardOf_5 : decode cX12_cardOf 5 = .ok (.invokestatic 112, 3) := by decide +kernel
theorem dX12_cardOf_8 : decode cX12_cardOf 8 = .ok (.iconst 3, 1) := by decide +kernel
theorem dX12_cardOf_9 : decode cX12_cardOf 9 = .ok (.iadd, 1) := by decide +kernel
theorem dX12_cardOf_10 : decode cX12_cardOf 10 = .ok (.iload_n 2, 1) := by decide +kernel
theorem dX12_cardOf_11 : decode cX12_cardOf 11 = .ok (.iadd, 1) := by decide +kernel
theorem dX12_cardOf_12 : decode cX12_cardOf 12 = .ok (.iaload, 1) := by decide +kernel
theorem dX12_cardOf_13 : decode cX12_cardOf 13 = .ok (.ireturn, 1) := by decide +kernel
theorem dX12_heap_0 : decode cX12_heap 0 = .ok (.aload_n 0, 1) := by decide +kernel
theorem dX12_heap_1 : decode cX12_heap 1 = .ok (.getfield 115, 3) := by decide +kernel
theorem dX12_heap_4 : decode cX12_heap 4 = .ok (.istore_n 1, 1) := by decide +kernel
theorem dX12_heap_5 : decode cX12_heap 5 = .ok (.aload_n 0, 1) := by decide +kernel
theorem dX12_heap_6 : decode cX12_heap 6 = .ok (.iconst 0, 1) := by decide +kernel
theorem dX12_heap_7 : decode cX12_heap 7 = .ok (.putfield 115, 3) := by decide +kernel
theorem dX12_heap_10 : decode cX12_heap 10 = .ok (.aload_n 0, 1) := by decide +kernel
theorem dX12_heap_11 : decode cX12_heap 11 = .ok (.getfield 24, 3) := by decide +kernel
theorem dX12_heap_14 : decode cX12_heap 14 = .ok (.bipush 96, 2) := by decide +kernel
theorem dX12_heap_16 : decode cX12_heap 16 = .ok (.iaload, 1) := by decide +kernel
theorem dX12_heap_17 : decode cX12_heap 17 = .ok (.istore_n 2, 1) := by decide +kernel
theorem dX12_heap_18 : decode cX12_heap 18 = .ok (.iload_n 2, 1) := by decide +kernel
theorem dX12_heap_19 : decode cX12_heap 19 = .ok (.bipush 6, 2) := by decide +kernel
theorem dX12_heap_21 : decode cX12_heap 21 = .ok (.if_icmp .ne 10, 3) := by decide +kernel
theorem dX12_heap_24 : decode cX12_heap 24 = .ok (.aload_n 0, 1) := by decide +kernel
theorem dX12_heap_25 : decode cX12_heap 25 = .ok (.bipush (-5), 2) := by decide +kernel
theorem dX12_heap_27 : decode cX12_heap 27 = .ok (.invokevirtual 106, 3) := by decide +kernel
theorem dX12_heap_30 : decode cX12_heap 30 = .ok (.ireturn, 1) := by decide +kernel
theorem dX12_heap_31 : decode cX12_heap 31 = .ok (.iload_n 1, 1) := by decide +kernel
theorem dX12_heap_32 : decode cX12_heap 32 = .ok (.iconst 1, 1) := by decide +kernel
theorem dX12_heap_33 : decode cX12_heap 33 = .ok (.bipush 13, 2) := by decide +kernel
theorem dX12_heap_35 : decode cX12_heap 35 = .ok (.invokestatic 102, 3) := by decide +kernel
theorem dX12_heap_38 : decode cX12_heap 38 = .ok (.istore_n 3, 1) := by decide +kernel
theorem dX12_heap_39 : decode cX12_heap 39 = .ok (.iconst 0, 1) := by decide +kernel
theorem dX12_heap_40 : decode cX12_heap 40 = .ok (.istore 4, 2) := by decide +kernel
theorem dX12_heap_42 : decode cX12_heap 42 = .ok (.iload 4, 2) := by decide +kernel
theorem dX12_heap_44 : decode cX12_heap 44 = .ok (.iload_n 1, 1) := by decide +kernel
theorem dX12_heap_45 : decode cX12_heap 45 = .ok (.if_icmp .ge 27, 3) := by decide +kernel
theorem dX12_heap_48 : decode cX12_heap 48 = .ok (.iload_n 3, 1) := by decide +kernel
theorem dX12_heap_49 : decode cX12_heap 49 = .ok (.ifCond .eq 23, 3) := by decide +kernel
theorem dX12_heap_52 : decode cX12_heap 52 = .ok (.aload_n 0, 1) := by decide +kernel
theorem dX12_heap_53 : decode cX12_heap 53 = .ok (.getfield 41, 3) := by decide +kernel
theorem dX12_heap_56 : decode cX12_heap 56 = .ok (.iload 4, 2) := by decide +kernel
theorem dX12_heap_58 : decode cX12_heap 58 = .ok (.baload, 1) := by decide +kernel
theorem dX12_heap_59 : decode cX12_heap 59 = .ok (.iconst 0, 1) := by decide +kernel
theorem dX12_heap_60 : decode cX12_heap 60 = .ok (.bipush 13, 2) := by decide +kernel
theorem dX12_heap_62 : decode cX12_heap 62 = .ok (.invokestatic 102, 3) := by decide +kernel
theorem dX12_heap_65 : decode cX12_heap 65 = .ok (.istore_n 3, 1) := by decide +kernel
theorem dX12_heap_66 : decode cX12_heap 66 = .ok (.iinc 4 1, 3) := by decide +kernel
theorem dX12_heap_69 : decode cX12_heap 69 = .ok (.goto (-27), 3) := by decide +kernel
theorem dX12_heap_72 : decode cX12_heap 72 = .ok (.iload_n 3, 1) := by decide +kernel
theorem dX12_heap_73 : decode cX12_heap 73 = .ok (.ifCond .ne 10, 3) := by decide +kernel
theorem dX12_heap_76 : decode cX12_heap 76 = .ok (.aload_n 0, 1) := by decide +kernel
theorem dX12_heap_77 : decode cX12_heap 77 = .ok (.bipush (-6), 2) := by decide +kernel
theorem dX12_heap_79 : decode cX12_heap 79 = .ok (.invokevirtual 106, 3) := by decide +kernel
theorem dX12_heap_82 : decode cX12_heap 82 = .ok (.ireturn, 1) := by decide +kernel
theorem dX12_heap_83 : decode cX12_heap 83 = .ok (.iload_n 2, 1) := by decide +kernel
theorem dX12_heap_84 : decode cX12_heap 84 = .ok (.invokestatic 112, 3) := by decide +kernel
theorem dX12_heap_87 : decode cX12_heap 87 = .ok (.istore 4, 2) := by decide +kernel
theorem dX12_heap_89 : decode cX12_heap 89 = .ok (.aload_n 0, 1) := by decide +kernel
theorem dX12_heap_90 : decode cX12_heap 90 = .ok (.getfield 24, 3) := by decide +kernel
theorem dX12_heap_93 : decode cX12_heap 93 = .ok (.iload 4, 2) := by decide +kernel
theorem dX12_heap_95 : decode cX12_heap 95 = .ok (.iconst 0, 1) := by decide +kernel
theorem dX12_heap_96 : decode cX12_heap 96 = .ok (.iadd, 1) := by decide +kernel
theorem dX12_heap_97 : decode cX12_heap 97 = .ok (.iload_n 1, 1) := by decide +kernel
theorem dX12_heap_98 : decode cX12_heap 98 = .ok (.iastore, 1) := by decide +kernel
theorem dX12_heap_99 : decode cX12_heap 99 = .ok (.aload_n 0, 1) := by decide +kernel
theorem dX12_heap_100 : decode cX12_heap 100 = .ok (.getfield 24, 3) := by decide +kernel
theorem dX12_heap_103 : decode cX12_heap 103 = .ok (.iload 4, 2) := by decide +kernel
theorem dX12_heap_105 : decode cX12_heap 105 = .ok (.iconst 1, 1) := by decide +kernel
theorem dX12_heap_106 : decode cX12_heap 106 = .ok (.iadd, 1) := by decide +kernel
theorem dX12_heap_107 : decode cX12_heap 107 = .ok (.iconst 0, 1) := by decide +kernel
theorem dX12_heap_108 : decode cX12_heap 108 = .ok (.iastore, 1) := by decide +kernel
theorem dX12_heap_109 : decode cX12_heap 109 = .ok (.aload_n 0, 1) := by decide +kernel
theorem dX12_heap_110 : decode cX12_heap 110 = .ok (.getfield 24, 3) := by decide +kernel
theorem dX12_heap_113 : decode cX12_heap 113 = .ok (.iload 4, 2) := by decide +kernel
theorem dX12_heap_115 : decode cX12_heap 115 = .ok (.iconst 2, 1) := by decide +kernel
theorem dX12_heap_116 : decode cX12_heap 116 = .ok (.iadd, 1) := by decide +kernel
theorem dX12_heap_117 : decode cX12_heap 117 = .ok (.iconst 0, 1) := by decide +kernel
theorem dX12_heap_118 : decode cX12_heap 118 = .ok (.iastore, 1) := by decide +kernel
theorem dX12_heap_119 : decode cX12_heap 119 = .ok (.iconst 0, 1) := by decide +kernel
theorem dX12_heap_120 : decode cX12_heap 120 = .ok (.istore 5, 2) := by decide +kernel
theorem dX12_heap_122 : decode cX12_heap 122 = .ok (.iload 5, 2) := by decide +kernel
theorem dX12_heap_124 : decode cX12_heap 124 = .ok (.bipush 13, 2) := by decide +kernel
theorem dX12_heap_126 : decode cX12_heap 126 = .ok (.if_icmp .ge 38, 3) := by decide +kernel
theorem dX12_heap_129 : decode cX12_heap 129 = .ok (.aload_n 0, 1) := by decide +kernel
theorem dX12_heap_130 : decode cX12_heap 130 = .ok (.getfield 24, 3) := by decide +kernel
theorem dX12_heap_133 : decode cX12_heap 133 = .ok (.iload 4, 2) := by decide +kernel
theorem dX12_heap_135 : decode cX12_heap 135 = .ok (.iconst 3, 1) := by decide +kernel
theorem dX12_heap_136 : decode cX12_heap 136 = .ok (.iadd, 1) := by decide +kernel
theorem dX12_heap_137 : decode cX12_heap 137 = .ok (.iload 5, 2) := by decide +kernel
theorem dX12_heap_139 : decode cX12_heap 139 = .ok (.iadd, 1) := by decide +kernel
theorem dX12_heap_140 : decode cX12_heap 140 = .ok (.iload 5, 2) := by decide +kernel
theorem dX12_heap_142 : decode cX12_heap 142 = .ok (.iload_n 1, 1) := by decide +kernel
theorem dX12_heap_143 : decode cX12_heap 143 = .ok (.if_icmp .ge 13, 3) := by decide +kernel
theorem dX12_heap_146 : decode cX12_heap 146 = .ok (.aload_n 0, 1) := by decide +kernel
theorem dX12_heap_147 : decode cX12_heap 147 = .ok (.getfield 41, 3) := by decide +kernel
theorem dX12_heap_150 : decode cX12_heap 150 = .ok (.iload 5, 2) := by decide +kernel
theorem dX12_heap_152 : decode cX12_heap 152 = .ok (.baload, 1) := by decide +kernel
theorem dX12_heap_153 : decode cX12_heap 153 = .ok (.goto 4, 3) := by decide +kernel
theorem dX12_heap_156 : decode cX12_heap 156 = .ok (.iconst 0, 1) := by decide +kernel
theorem dX12_heap_157 : decode cX12_heap 157 = .ok (.iastore, 1) := by decide +kernel
theorem dX12_heap_158 : decode cX12_heap 158 = .ok (.iinc 5 1, 3) := by decide +kernel
theorem dX12_heap_161 : decode cX12_heap 161 = .ok (.goto (-39), 3) := by decide +kernel
theorem dX12_heap_164 : decode cX12_heap 164 = .ok (.aload_n 0, 1) := by decide +kernel
theorem dX12_heap_165 : decode cX12_heap 165 = .ok (.getfield 24, 3) := by decide +kernel
theorem dX12_heap_168 : decode cX12_heap 168 = .ok (.bipush 96, 2) := by decide +kernel
theorem dX12_heap_170 : decode cX12_heap 170 = .ok (.dup2, 1) := by decide +kernel
theorem dX12_heap_171 : decode cX12_heap 171 = .ok (.iaload, 1) := by decide +kernel
theorem dX12_heap_172 : decode cX12_heap 172 = .ok (.iconst 1, 1) := by decide +kernel
theorem dX12_heap_173 : decode cX12_heap 173 = .ok (.iadd, 1) := by decide +kernel
theorem dX12_heap_174 : decode cX12_heap 174 = .ok (.iastore, 1) := by decide +kernel
theorem dX12_heap_175 : decode cX12_heap 175 = .ok (.aload_n 0, 1) := by decide +kernel
theorem dX12_heap_176 : decode cX12_heap 176 = .ok (.iload_n 2, 1) := by decide +kernel
theorem dX12_heap_177 : decode cX12_heap 177 = .ok (.invokevirtual 109, 3) := by decide +kernel
theorem dX12_heap_180 : decode cX12_heap 180 = .ok (.ireturn, 1) := by decide +kernel
theorem dX12_near_0 : decode cX12_near 0 = .ok (.lload_n 0, 1) := by decide +kernel
theorem dX12_near_1 : decode cX12_near 1 = .ok (.ldc2_w 118, 3) := by decide +kernel
theorem dX12_near_4 : decode cX12_near 4 = .ok (.lcmp, 1) := by decide +kernel
theorem dX12_near_5 : decode cX12_near 5 = .ok (.ifCond .ge 9, 3) := by decide +kernel
theorem dX12_near_8 : decode cX12_near 8 = .ok (.sipush (-1000), 3) := by decide +kernel
theorem dX12_near_11 : decode cX12_near 11 = .ok (.goto 19, 3) := by decide +kernel
theorem dX12_near_14 : decode cX12_near 14 = .ok (.lload_n 0, 1) := by decide +kernel
theorem dX12_near_15 : decode cX12_near 15 = .ok (.ldc2_w 120, 3) := by decide +kernel
theorem dX12_near_18 : decode cX12_near 18 = .ok (.lcmp, 1) := by decide +kernel
theorem dX12_near_19 : decode cX12_near 19 = .ok (.ifCond .le 9, 3) := by decide +kernel
theorem dX12_near_22 : decode cX12_near 22 = .ok (.sipush 1000, 3) := by decide +kernel
theorem dX12_near_25 : decode cX12_near 25 = .ok (.goto 5, 3) := by decide +kernel
theorem dX12_near_28 : decode cX12_near 28 = .ok (.lload_n 0, 1) := by decide +kernel
theorem dX12_near_29 : decode cX12_near 29 = .ok (.l2i, 1) := by decide +kernel
theorem dX12_near_30 : decode cX12_near 30 = .ok (.ireturn, 1) := by decide +kernel
theorem dX12_of_0 : decode cX12_of 0 = .ok (.aload_n 0, 1) := by decide +kernel
theorem dX12_of_1 : decode cX12_of 1 = .ok (.iload_n 1, 1) := by decide +kernel
theorem dX12_of_2 : decode cX12_of 2 = .ok (.invokevirtual 122, 3) := by decide +kernel
theorem dX12_of_5 : decode cX12_of 5 = .ok (.ifCond .ne 7, 3) := by decide +kernel
theorem dX12_of_8 : decode cX12_of 8 = .ok (.sipush (-1001), 3) := by decide +kernel
theorem dX12_of_11 : decode cX12_of 11 = .ok (.ireturn, 1) := by decide +kernel
theorem dX12_of_12 : decode cX12_of 12 = .ok (.aload_n 0, 1) := by decide +kernel
theorem dX12_of_13 : decode cX12_of 13 = .ok (.iload_n 1, 1) := by decide +kernel
theorem dX12_of_14 : decode cX12_of 14 = .ok (.invokevirtual 126, 3) := by decide +kernel
theorem dX12_of_17 : decode cX12_of 17 = .ok (.iload_n 2, 1) := by decide +kernel
theorem dX12_of_18 : decode cX12_of 18 = .ok (.tableswitch 106 0 6 #[42, 47, 59, 64, 77, 90, 98], 42) := by decide +kernel
theorem dX12_of_60 : decode cX12_of 60 = .ok (.aload_n 0, 1) := by decide +kernel
theorem dX12_of_61 : decode cX12_of 61 = .ok (.getfield 130, 3) := by decide +kernel
theorem dX12_of_64 : decode cX12_of 64 = .ok (.ireturn, 1) := by decide +kernel
theorem dX12_of_65 : decode cX12_of 65 = .ok (.aload_n 0, 1) := by decide +kernel
theorem dX12_of_66 : decode cX12_of 66 = .ok (.getfield 24, 3) := by decide +kernel
theorem dX12_of_69 : decode cX12_of 69 = .ok (.iload_n 1, 1) := by decide +kernel
theorem dX12_of_70 : decode cX12_of 70 = .ok (.invokestatic 112, 3) := by decide +kernel
theorem dX12_of_73 : decode cX12_of 73 = .ok (.iconst 1, 1) := by decide +kernel
theorem dX12_of_74 : decode cX12_of 74 = .ok (.iadd, 1) := by decide +kernel
theorem dX12_of_75 : decode cX12_of 75 = .ok (.iaload, 1) := by decide +kernel
theorem dX12_of_76 : decode cX12_of 76 = .ok (.ireturn, 1) := by decide +kernel
theorem dX12_of_77 : decode cX12_of 77 = .ok (.aload_n 0, 1) := by decide +kernel
theorem dX12_of_78 : decode cX12_of 78 = .ok (.getfield 133, 3) := by decide +kernel
theorem dX12_of_81 : decode cX12_of 81 = .ok (.ireturn, 1) := by decide +kernel
theorem dX12_of_82 : decode cX12_of 82 = .ok (.aload_n 0, 1) := by decide +kernel
theorem dX12_of_83 : decode cX12_of 83 = .ok (.invokevirtual 136, 3) := by decide +kernel
theorem dX12_of_86 : decode cX12_of 86 = .ok (.ifCond .eq 7, 3) := by decide +kernel
theorem dX12_of_89 : decode cX12_of 89 = .ok (.iconst 1, 1) := by decide +kernel
theorem dX12_of_90 : decode cX12_of 90 = .ok (.goto 4, 3) := by decide +kernel
theorem dX12_of_93 : decode cX12_of 93 = .ok (.iconst 0, 1) := by decide +kernel
theorem dX12_of_94 : decode cX12_of 94 = .ok (.ireturn, 1) := by decide +kernel
theorem dX12_of_95 : decode cX12_of 95 = .ok (.aload_n 0, 1) := by decide +kernel
theorem dX12_of_96 : decode cX12_of 96 = .ok (.invokevirtual 140, 3) := by decide +kernel
theorem dX12_of_99 : decode cX12_of 99 = .ok (.ifCond .eq 7, 3) := by decide +kernel
theorem dX12_of_102 : decode cX12_of 102 = .ok (.iconst 1, 1) := by decide +kernel
theorem dX12_of_103 : decode cX12_of 103 = .ok (.goto 4, 3) := by decide +kernel
theorem dX12_of_106 : decode cX12_of 106 = .ok (.iconst 0, 1) := by decide +kernel
theorem dX12_of_107 : decode cX12_of 107 = .ok (.ireturn, 1) := by decide +kernel
theorem dX12_of_108 : decode cX12_of 108 = .ok (.aload_n 0, 1) := by decide +kernel
theorem dX12_of_109 : decode cX12_of 109 = .ok (.invokevirtual 143, 3) := by decide +kernel
theorem dX12_of_112 : decode cX12_of 112 = .ok (.invokestatic 147, 3) := by decide +kernel
theorem dX12_of_115 : decode cX12_of 115 = .ok (.ireturn, 1) := by decide +kernel
theorem dX12_of_116 : decode cX12_of 116 = .ok (.aload_n 0, 1) := by decide +kernel
theorem dX12_of_117 : decode cX12_of 117 = .ok (.invokevirtual 151, 3) := by decide +kernel
theorem dX12_of_120 : decode cX12_of 120 = .ok (.invokestatic 147, 3) := by decide +kernel
theorem dX12_of_123 : decode cX12_of 123 = .ok (.ireturn, 1) := by decide +kernel
theorem dX12_of_124 : decode cX12_of 124 = .ok (.iload_n 2, 1) := by decide +kernel
theorem dX12_of_125 : decode cX12_of 125 = .ok (.bipush 7, 2) := by decide +kernel
theorem dX12_of_127 : decode cX12_of 127 = .ok (.bipush 6, 2) := by decide +kernel
theorem dX12_of_129 : decode cX12_of 129 = .ok (.aload_n 0, 1) := by decide +kernel
theorem dX12_of_130 : decode cX12_of 130 = .ok (.getfield 130, 3) := by decide +kernel
theorem dX12_of_133 : decode cX12_of 133 = .ok (.iadd, 1) := by decide +kernel
theorem dX12_of_134 : decode cX12_of 134 = .ok (.invokestatic 102, 3) := by decide +kernel
theorem dX12_of_137 : decode cX12_of 137 = .ok (.ifCond .eq 15, 3) := by decide +kernel
theorem dX12_of_140 : decode cX12_of 140 = .ok (.aload_n 0, 1) := by decide +kernel
theorem dX12_of_141 : decode cX12_of 141 = .ok (.getfield 65, 3) := by decide +kernel
theorem dX12_of_144 : decode cX12_of 144 = .ok (.iload_n 2, 1) := by decide +kernel
theorem dX12_of_145 : decode cX12_of 145 = .ok (.bipush 7, 2) := by decide +kernel
theorem dX12_of_147 : decode cX12_of 147 = .ok (.isub, 1) := by decide +kernel
theorem dX12_of_148 : decode cX12_of 148 = .ok (.iaload, 1) := by decide +kernel
theorem dX12_of_149 : decode cX12_of 149 = .ok (.goto 6, 3) := by decide +kernel
theorem dX12_of_152 : decode cX12_of 152 = .ok (.sipush (-1001), 3) := by decide +kernel
theorem dX12_of_155 : decode cX12_of 155 = .ok (.ireturn, 1) := by decide +kernel
theorem dX12_terms_0 : decode cX12_terms 0 = .ok (.iload_n 1, 1) := by decide +kernel
theorem dX12_terms_1 : decode cX12_terms 1 = .ok (.iconst 0, 1) := by decide +kernel
theorem dX12_terms_2 : decode cX12_terms 2 = .ok (.iconst 1, 1) := by decide +kernel
theorem dX12_terms_3 : decode cX12_terms 3 = .ok (.invokestatic 102, 3) := by decide +kernel
theorem dX12_terms_6 : decode cX12_terms 6 = .ok (.ifCond .eq 23, 3) := by decide +kernel
theorem dX12_terms_9 : decode cX12_terms 9 = .ok (.iload_n 2, 1) := by decide +kernel
theorem dX12_terms_10 : decode cX12_terms 10 = .ok (.iload_n 1, 1) := by decide +kernel
theorem dX12_terms_11 : decode cX12_terms 11 = .ok (.iload_n 1, 1) := by decide +kernel
theorem dX12_terms_12 : decode cX12_terms 12 = .ok (.ifCond .ne 8, 3) := by decide +kernel
theorem dX12_terms_15 : decode cX12_terms 15 = .ok (.bipush 9, 2) := by decide +kernel
theorem dX12_terms_17 : decode cX12_terms 17 = .ok (.goto 6, 3) := by decide +kernel
theorem dX12_terms_20 : decode cX12_terms 20 = .ok (.sipush 300, 3) := by decide +kernel
theorem dX12_terms_23 : decode cX12_terms 23 = .ok (.invokestatic 102, 3) := by decide +kernel
theorem dX12_terms_26 : decode cX12_terms 26 = .ok (.ifCond .ne 9, 3) := by decide +kernel
theorem dX12_terms_29 : decode cX12_terms 29 = .ok (.aload_n 0, 1) := by decide +kernel
theorem dX12_terms_30 : decode cX12_terms 30 = .ok (.iconst (-1), 1) := by decide +kernel
theorem dX12_terms_31 : decode cX12_terms 31 = .ok (.invokevirtual 106, 3) := by decide +kernel
theorem dX12_terms_34 : decode cX12_terms 34 = .ok (.ireturn, 1) := by decide +kernel
theorem dX12_terms_35 : decode cX12_terms 35 = .ok (.aload_n 0, 1) := by decide +kernel
theorem dX12_terms_36 : decode cX12_terms 36 = .ok (.getfield 24, 3) := by decide +kernel
theorem dX12_terms_39 : decode cX12_terms 39 = .ok (.bipush 113, 2) := by decide +kernel
theorem dX12_terms_41 : decode cX12_terms 41 = .ok (.iload_n 1, 1) := by decide +kernel
theorem dX12_terms_42 : decode cX12_terms 42 = .ok (.iadd, 1) := by decide +kernel
theorem dX12_terms_43 : decode cX12_terms 43 = .ok (.iaload, 1) := by decide +kernel
theorem dX12_terms_44 : decode cX12_terms 44 = .ok (.istore_n 3, 1) := by decide +kernel
theorem dX12_terms_45 : decode cX12_terms 45 = .ok (.aload_n 0, 1) := by decide +kernel
theorem dX12_terms_46 : decode cX12_terms 46 = .ok (.getfield 24, 3) := by decide +kernel
theorem dX12_terms_49 : decode cX12_terms 49 = .ok (.bipush 113, 2) := by decide +kernel
theorem dX12_terms_51 : decode cX12_terms 51 = .ok (.iload_n 1, 1) := by decide +kernel
theorem dX12_terms_52 : decode cX12_terms 52 = .ok (.iadd, 1) := by decide +kernel
theorem dX12_terms_53 : decode cX12_terms 53 = .ok (.iload_n 2, 1) := by decide +kernel
theorem dX12_terms_54 : decode cX12_terms 54 = .ok (.iastore, 1) := by decide +kernel
theorem dX12_terms_55 : decode cX12_terms 55 = .ok (.aload_n 0, 1) := by decide +kernel
theorem dX12_terms_56 : decode cX12_terms 56 = .ok (.iload_n 3, 1) := by decide +kernel
theorem dX12_terms_57 : decode cX12_terms 57 = .ok (.invokevirtual 109, 3) := by decide +kernel
theorem dX12_terms_60 : decode cX12_terms 60 = .ok (.ireturn, 1) := by decide +kernel
theorem dX12_feed_0 : decode cX12_feed 0 = .ok (.aload_n 0, 1) := by decide +kernel
theorem dX12_feed_1 : decode cX12_feed 1 = .ok (.getfield 115, 3) := by decide +kernel
theorem dX12_feed_4 : decode cX12_feed 4 = .ok (.bipush 20, 2) := by decide +kernel
theorem dX12_feed_6 : decode cX12_feed 6 = .ok (.iadd, 1) := by decide +kernel
theorem dX12_feed_7 : decode cX12_feed 7 = .ok (.sipush 400, 3) := by decide +kernel
theorem dX12_feed_10 : decode cX12_feed 10 = .ok (.if_icmp .le 5, 3) := by decide +kernel
theorem dX12_feed_13 : decode cX12_feed 13 = .ok (.iconst (-1), 1) := by decide +kernel
theorem dX12_feed_14 : decode cX12_feed 14 = .ok (.ireturn, 1) := by decide +kernel
theorem dX12_feed_15 : decode cX12_feed 15 = .ok (.aload_n 0, 1) := by decide +kernel
theorem dX12_feed_16 : decode cX12_feed 16 = .ok (.getfield 44, 3) := by decide +kernel
theorem dX12_feed_19 : decode cX12_feed 19 = .ok (.iconst 0, 1) := by decide +kernel
theorem dX12_feed_20 : decode cX12_feed 20 = .ok (.iload_n 1, 1) := by decide +kernel
theorem dX12_feed_21 : decode cX12_feed 21 = .ok (.iastore, 1) := by decide +kernel
theorem dX12_feed_22 : decode cX12_feed 22 = .ok (.aload_n 0, 1) := by decide +kernel
theorem dX12_feed_23 : decode cX12_feed 23 = .ok (.getfield 44, 3) := by decide +kernel
theorem dX12_feed_26 : decode cX12_feed 26 = .ok (.iconst 1, 1) := by decide +kernel
theorem dX12_feed_27 : decode cX12_feed 27 = .ok (.iload_n 2, 1) := by decide +kernel
theorem dX12_feed_28 : decode cX12_feed 28 = .ok (.iastore, 1) := by decide +kernel
theorem dX12_feed_29 : decode cX12_feed 29 = .ok (.aload_n 0, 1) := by decide +kernel
theorem dX12_feed_30 : decode cX12_feed 30 = .ok (.getfield 44, 3) := by decide +kernel
theorem dX12_feed_33 : decode cX12_feed 33 = .ok (.iconst 2, 1) := by decide +kernel
theorem dX12_feed_34 : decode cX12_feed 34 = .ok (.iload_n 3, 1) := by decide +kernel
theorem dX12_feed_35 : decode cX12_feed 35 = .ok (.iastore, 1) := by decide +kernel
theorem dX12_feed_36 : decode cX12_feed 36 = .ok (.aload_n 0, 1) := by decide +kernel
theorem dX12_feed_37 : decode cX12_feed 37 = .ok (.getfield 44, 3) := by decide +kernel
theorem dX12_feed_40 : decode cX12_feed 40 = .ok (.iconst 3, 1) := by decide +kernel
theorem dX12_feed_41 : decode cX12_feed 41 = .ok (.iload 4, 2) := by decide +kernel
theorem dX12_feed_43 : decode cX12_feed 43 = .ok (.iastore, 1) := by decide +kernel
theorem dX12_feed_44 : decode cX12_feed 44 = .ok (.aload_n 0, 1) := by decide +kernel
theorem dX12_feed_45 : decode cX12_feed 45 = .ok (.getfield 44, 3) := by decide +kernel
theorem dX12_feed_48 : decode cX12_feed 48 = .ok (.iconst 4, 1) := by decide +kernel
theorem dX12_feed_49 : decode cX12_feed 49 = .ok (.iload 5, 2) := by decide +kernel
theorem dX12_feed_51 : decode cX12_feed 51 = .ok (.iastore, 1) := by decide +kernel
theorem dX12_feed_52 : decode cX12_feed 52 = .ok (.iconst 0, 1) := by decide +kernel
theorem dX12_feed_53 : decode cX12_feed 53 = .ok (.istore 6, 2) := by decide +kernel
theorem dX12_feed_55 : decode cX12_feed 55 = .ok (.iload 6, 2) := by decide +kernel
theorem dX12_feed_57 : decode cX12_feed 57 = .ok (.bipush 20, 2) := by decide +kernel
theorem dX12_feed_59 : decode cX12_feed 59 = .ok (.if_icmp .ge 42, 3) := by decide +kernel
theorem dX12_feed_62 : decode cX12_feed 62 = .ok (.aload_n 0, 1) := by decide +kernel
theorem dX12_feed_63 : decode cX12_feed 63 = .ok (.getfield 41, 3) := by decide +kernel
theorem dX12_feed_66 : decode cX12_feed 66 = .ok (.aload_n 0, 1) := by decide +kernel
theorem dX12_feed_67 : decode cX12_feed 67 = .ok (.getfield 115, 3) := by decide +kernel
theorem dX12_feed_70 : decode cX12_feed 70 = .ok (.iload 6, 2) := by decide +kernel
theorem dX12_feed_72 : decode cX12_feed 72 = .ok (.iadd, 1) := by decide +kernel
theorem dX12_feed_73 : decode cX12_feed 73 = .ok (.aload_n 0, 1) := by decide +kernel
theorem dX12_feed_74 : decode cX12_feed 74 = .ok (.getfield 44, 3) := by decide +kernel
theorem dX12_feed_77 : decode cX12_feed 77 = .ok (.iload 6, 2) := by decide +kernel
theorem dX12_feed_79 : decode cX12_feed 79 = .ok (.iconst 4, 1) := by decide +kernel
theorem dX12_feed_80 : decode cX12_feed 80 = .ok (.idiv, 1) := by decide +kernel
theorem dX12_feed_81 : decode cX12_feed 81 = .ok (.iaload, 1) := by decide +kernel
theorem dX12_feed_82 : decode cX12_feed 82 = .ok (.bipush 24, 2) := by decide +kernel
theorem dX12_feed_84 : decode cX12_feed 84 = .ok (.bipush 8, 2) := by decide +kernel
theorem dX12_feed_86 : decode cX12_feed 86 = .ok (.iload 6, 2) := by decide +kernel
theorem dX12_feed_88 : decode cX12_feed 88 = .ok (.iconst 4, 1) := by decide +kernel
theorem dX12_feed_89 : decode cX12_feed 89 = .ok (.irem, 1) := by decide +kernel
theorem dX12_feed_90 : decode cX12_feed 90 = .ok (.imul, 1) := by decide +kernel
theorem dX12_feed_91 : decode cX12_feed 91 = .ok (.isub, 1) := by decide +kernel
theorem dX12_feed_92 : decode cX12_feed 92 = .ok (.ishr, 1) := by decide +kernel
theorem dX12_feed_93 : decode cX12_feed 93 = .ok (.i2b, 1) := by decide +kernel
theorem dX12_feed_94 : decode cX12_feed 94 = .ok (.bastore, 1) := by decide +kernel
theorem dX12_feed_95 : decode cX12_feed 95 = .ok (.iinc 6 1, 3) := by decide +kernel
theorem dX12_feed_98 : decode cX12_feed 98 = .ok (.goto (-43), 3) := by decide +kernel
theorem dX12_feed_101 : decode cX12_feed 101 = .ok (.aload_n 0, 1) := by decide +kernel
theorem dX12_feed_102 : decode cX12_feed 102 = .ok (.dup, 1) := by decide +kernel
theorem dX12_feed_103 : decode cX12_feed 103 = .ok (.getfield 115, 3) := by decide +kernel
theorem dX12_feed_106 : decode cX12_feed 106 = .ok (.bipush 20, 2) := by decide +kernel
theorem dX12_feed_108 : decode cX12_feed 108 = .ok (.iadd, 1) := by decide +kernel
theorem dX12_feed_109 : decode cX12_feed 109 = .ok (.putfield 115, 3) := by decide +kernel
theorem dX12_feed_112 : decode cX12_feed 112 = .ok (.aload_n 0, 1) := by decide +kernel
theorem dX12_feed_113 : decode cX12_feed 113 = .ok (.getfield 115, 3) := by decide +kernel
theorem dX12_feed_116 : decode cX12_feed 116 = .ok (.ireturn, 1) := by decide +kernel
theorem dX12_end_0 : decode cX12_end 0 = .ok (.iload_n 1, 1) := by decide +kernel
theorem dX12_end_1 : decode cX12_end 1 = .ok (.iconst 0, 1) := by decide +kernel
theorem dX12_end_2 : decode cX12_end 2 = .ok (.aload_n 0, 1) := by decide +kernel
theorem dX12_end_3 : decode cX12_end 3 = .ok (.getfield 115, 3) := by decide +kernel
theorem dX12_end_6 : decode cX12_end 6 = .ok (.invokestatic 102, 3) := by decide +kernel
theorem dX12_end_9 : decode cX12_end 9 = .ok (.ifCond .ne 5, 3) := by decide +kernel
theorem dX12_end_12 : decode cX12_end 12 = .ok (.iconst (-1), 1) := by decide +kernel
theorem dX12_end_13 : decode cX12_end 13 = .ok (.ireturn, 1) := by decide +kernel
theorem dX12_end_14 : decode cX12_end 14 = .ok (.aload_n 0, 1) := by decide +kernel
theorem dX12_end_15 : decode cX12_end 15 = .ok (.iload_n 1, 1) := by decide +kernel
theorem dX12_end_16 : decode cX12_end 16 = .ok (.putfield 115, 3) := by decide +kernel
theorem dX12_end_19 : decode cX12_end 19 = .ok (.iload_n 1, 1) := by decide +kernel
theorem dX12_end_20 : decode cX12_end 20 = .ok (.ireturn, 1) := by decide +kernel
theorem dX12_isSmall_0 : decode cX12_isSmall 0 = .ok (.iload_n 0, 1) := by decide +kernel
theorem dX12_isSmall_1 : decode cX12_isSmall 1 = .ok (.bipush 97, 2) := by decide +kernel
theorem dX12_isSmall_3 : decode cX12_isSmall 3 = .ok (.if_icmp .lt 13, 3) := by decide +kernel
theorem dX12_isSmall_6 : decode cX12_isSmall 6 = .ok (.iload_n 0, 1) := by decide +kernel
theorem dX12_isSmall_7 : decode cX12_isSmall 7 = .ok (.bipush 122, 2) := by decide +kernel
theorem dX12_isSmall_9 : decode cX12_isSmall 9 = .ok (.if_icmp .gt 7, 3) := by decide +kernel
theorem dX12_isSmall_12 : decode cX12_isSmall 12 = .ok (.iconst 1, 1) := by decide +kernel
theorem dX12_isSmall_13 : decode cX12_isSmall 13 = .ok (.goto 4, 3) := by decide +kernel
theorem dX12_isSmall_16 : decode cX12_isSmall 16 = .ok (.iconst 0, 1) := by decide +kernel
theorem dX12_isSmall_17 : decode cX12_isSmall 17 = .ok (.ireturn, 1) := by decide +kernel
theorem dX12_isDigit_0 : decode cX12_isDigit 0 = .ok (.iload_n 0, 1) := by decide +kernel
theorem dX12_isDigit_1 : decode cX12_isDigit 1 = .ok (.bipush 48, 2) := by decide +kernel
theorem dX12_isDigit_3 : decode cX12_isDigit 3 = .ok (.if_icmp .lt 13, 3) := by decide +kernel
theorem dX12_isDigit_6 : decode cX12_isDigit 6 = .ok (.iload_n 0, 1) := by decide +kernel
theorem dX12_isDigit_7 : decode cX12_isDigit 7 = .ok (.bipush 57, 2) := by decide +kernel
theorem dX12_isDigit_9 : decode cX12_isDigit 9 = .ok (.if_icmp .gt 7, 3) := by decide +kernel
theorem dX12_isDigit_12 : decode cX12_isDigit 12 = .ok (.iconst 1, 1) := by decide +kernel
theorem dX12_isDigit_13 : decode cX12_isDigit 13 = .ok (.goto 4, 3) := by decide +kernel
theorem dX12_isDigit_16 : decode cX12_isDigit 16 = .ok (.iconst 0, 1) := by decide +kernel
theorem dX12_isDigit_17 : decode cX12_isDigit 17 = .ok (.ireturn, 1) := by decide +kernel
theorem dX12_wordOf_0 : decode cX12_wordOf 0 = .ok (.iconst 1, 1) := by decide +kernel
theorem dX12_wordOf_1 : decode cX12_wordOf 1 = .ok (.istore_n 3, 1) := by decide +kernel
theorem dX12_wordOf_2 : decode cX12_wordOf 2 = .ok (.iconst 0, 1) := by decide +kernel
theorem dX12_wordOf_3 : decode cX12_wordOf 3 = .ok (.istore 4, 2) := by decide +kernel
theorem dX12_wordOf_5 : decode cX12_wordOf 5 = .ok (.iload 4, 2) := by decide +kernel
theorem dX12_wordOf_7 : decode cX12_wordOf 7 = .ok (.aload_n 0, 1) := by decide +kernel
theorem dX12_wordOf_8 : decode cX12_wordOf 8 = .ok (.getfield 37, 3) := by decide +kernel
theorem dX12_wordOf_11 : decode cX12_wordOf 11 = .ok (.arraylength, 1) := by decide +kernel
theorem dX12_wordOf_12 : decode cX12_wordOf 12 = .ok (.if_icmp .ge 114, 3) := by decide +kernel
theorem dX12_wordOf_15 : decode cX12_wordOf 15 = .ok (.iconst 0, 1) := by decide +kernel
theorem dX12_wordOf_16 : decode cX12_wordOf 16 = .ok (.istore 5, 2) := by decide +kernel
theorem dX12_wordOf_18 : decode cX12_wordOf 18 = .ok (.aload_n 0, 1) := by decide +kernel
theorem dX12_wordOf_19 : decode cX12_wordOf 19 = .ok (.getfield 37, 3) := by decide +kernel
theorem dX12_wordOf_22 : decode cX12_wordOf 22 = .ok (.iload 4, 2) := by decide +kernel
theorem dX12_wordOf_24 : decode cX12_wordOf 24 = .ok (.iload 5, 2) := by decide +kernel
theorem dX12_wordOf_26 : decode cX12_wordOf 26 = .ok (.iadd, 1) := by decide +kernel
theorem dX12_wordOf_27 : decode cX12_wordOf 27 = .ok (.baload, 1) := by decide +kernel
theorem dX12_wordOf_28 : decode cX12_wordOf 28 = .ok (.bipush 32, 2) := by decide +kernel
theorem dX12_wordOf_30 : decode cX12_wordOf 30 = .ok (.if_icmp .eq 9, 3) := by decide +kernel
theorem dX12_wordOf_33 : decode cX12_wordOf 33 = .ok (.iinc 5 1, 3) := by decide +kernel
theorem dX12_wordOf_36 : decode cX12_wordOf 36 = .ok (.goto (-18), 3) := by decide +kernel
theorem dX12_wordOf_39 : decode cX12_wordOf 39 = .ok (.iload 5, 2) := by decide +kernel
theorem dX12_wordOf_41 : decode cX12_wordOf 41 = .ok (.iload_n 2, 1) := by decide +kernel
theorem dX12_wordOf_42 : decode cX12_wordOf 42 = .ok (.iload_n 1, 1) := by decide +kernel
theorem dX12_wordOf_43 : decode cX12_wordOf 43 = .ok (.isub, 1) := by decide +kernel
theorem dX12_wordOf_44 : decode cX12_wordOf 44 = .ok (.if_icmp .ne 7, 3) := by decide +kernel
theorem dX12_wordOf_47 : decode cX12_wordOf 47 = .ok (.iconst 1, 1) := by decide +kernel
theorem dX12_wordOf_48 : decode cX12_wordOf 48 = .ok (.goto 4, 3) := by decide +kernel
theorem dX12_wordOf_51 : decode cX12_wordOf 51 = .ok (.iconst 0, 1) := by decide +kernel
theorem dX12_wordOf_52 : decode cX12_wordOf 52 = .ok (.istore 6, 2) := by decide +kernel
theorem dX12_wordOf_54 : decode cX12_wordOf 54 = .ok (.iconst 0, 1) := by decide +kernel
theorem dX12_wordOf_55 : decode cX12_wordOf 55 = .ok (.istore 7, 2) := by decide +kernel
theorem dX12_wordOf_57 : decode cX12_wordOf 57 = .ok (.iload 7, 2) := by decide +kernel
theorem dX12_wordOf_59 : decode cX12_wordOf 59 = .ok (.iload 5, 2) := by decide +kernel
theorem dX12_wordOf_61 : decode cX12_wordOf 61 = .ok (.if_icmp .ge 43, 3) := by decide +kernel
theorem dX12_wordOf_64 : decode cX12_wordOf 64 = .ok (.iload 6, 2) := by decide +kernel
theorem dX12_wordOf_66 : decode cX12_wordOf 66 = .ok (.ifCond .eq 38, 3) := by decide +kernel
theorem dX12_wordOf_69 : decode cX12_wordOf 69 = .ok (.aload_n 0, 1) := by decide +kernel
theorem dX12_wordOf_70 : decode cX12_wordOf 70 = .ok (.getfield 37, 3) := by decide +kernel
theorem dX12_wordOf_73 : decode cX12_wordOf 73 = .ok (.iload 4, 2) := by decide +kernel
theorem dX12_wordOf_75 : decode cX12_wordOf 75 = .ok (.iload 7, 2) := by decide +kernel
theorem dX12_wordOf_77 : decode cX12_wordOf 77 = .ok (.iadd, 1) := by decide +kernel
theorem dX12_wordOf_78 : decode cX12_wordOf 78 = .ok (.baload, 1) := by decide +kernel
theorem dX12_wordOf_79 : decode cX12_wordOf 79 = .ok (.aload_n 0, 1) := by decide +kernel
theorem dX12_wordOf_80 : decode cX12_wordOf 80 = .ok (.getfield 41, 3) := by decide +kernel
theorem dX12_wordOf_83 : decode cX12_wordOf 83 = .ok (.iload_n 1, 1) := by decide +kernel
theorem dX12_wordOf_84 : decode cX12_wordOf 84 = .ok (.iload 7, 2) := by decide +kernel
theorem dX12_wordOf_86 : decode cX12_wordOf 86 = .ok (.iadd, 1) := by decide +kernel
theorem dX12_wordOf_87 : decode cX12_wordOf 87 = .ok (.baload, 1) := by decide +kernel
theorem dX12_wordOf_88 : decode cX12_wordOf 88 = .ok (.if_icmp .ne 7, 3) := by decide +kernel
theorem dX12_wordOf_91 : decode cX12_wordOf 91 = .ok (.iconst 1, 1) := by decide +kernel
theorem dX12_wordOf_92 : decode cX12_wordOf 92 = .ok (.goto 4, 3) := by decide +kernel
theorem dX12_wordOf_95 : decode cX12_wordOf 95 = .ok (.iconst 0, 1) := by decide +kernel
theorem dX12_wordOf_96 : decode cX12_wordOf 96 = .ok (.istore 6, 2) := by decide +kernel
theorem dX12_wordOf_98 : decode cX12_wordOf 98 = .ok (.iinc 7 1, 3) := by decide +kernel
theorem dX12_wordOf_101 : decode cX12_wordOf 101 = .ok (.goto (-44), 3) := by decide +kernel
theorem dX12_wordOf_104 : decode cX12_wordOf 104 = .ok (.iload 6, 2) := by decide +kernel
theorem dX12_wordOf_106 : decode cX12_wordOf 106 = .ok (.ifCond .eq 5, 3) := by decide +kernel
theorem dX12_wordOf_109 : decode cX12_wordOf 109 = .ok (.iload_n 3, 1) := by decide +kernel
theorem dX12_wordOf_110 : decode cX12_wordOf 110 = .ok (.ireturn, 1) := by decide +kernel
theorem dX12_wordOf_111 : decode cX12_wordOf 111 = .ok (.iload 4, 2) := by decide +kernel
theorem dX12_wordOf_113 : decode cX12_wordOf 113 = .ok (.iload 5, 2) := by decide +kernel
theorem dX12_wordOf_115 : decode cX12_wordOf 115 = .ok (.iconst 1, 1) := by decide +kernel
theorem dX12_wordOf_116 : decode cX12_wordOf 116 = .ok (.iadd, 1) := by decide +kernel
theorem dX12_wordOf_117 : decode cX12_wordOf 117 = .ok (.iadd, 1) := by decide +kernel
theorem dX12_wordOf_118 : decode cX12_wordOf 118 = .ok (.istore 4, 2) := by decide +kernel
theorem dX12_wordOf_120 : decode cX12_wordOf 120 = .ok (.iinc 3 1, 3) := by decide +kernel
theorem dX12_wordOf_123 : decode cX12_wordOf 123 = .ok (.goto (-118), 3) := by decide +kernel
theorem dX12_wordOf_126 : decode cX12_wordOf 126 = .ok (.iconst 0, 1) := by decide +kernel
theorem dX12_wordOf_127 : decode cX12_wordOf 127 = .ok (.ireturn, 1) := by decide +kernel
theorem dX12_splits_0 : decode cX12_splits 0 = .ok (.aload_n 0, 1) := by decide +kernel
theorem dX12_splits_1 : decode cX12_splits 1 = .ok (.iconst 0, 1) := by decide +kernel
theorem dX12_splits_2 : decode cX12_splits 2 = .ok (.putfield 154, 3) := by decide +kernel
theorem dX12_splits_5 : decode cX12_splits 5 = .ok (.iconst 0, 1) := by decide +kernel
theorem dX12_splits_6 : decode cX12_splits 6 = .ok (.istore_n 2, 1) := by decide +kernel
theorem dX12_splits_7 : decode cX12_splits 7 = .ok (.iload_n 2, 1) := by decide +kernel
theorem dX12_splits_8 : decode cX12_splits 8 = .ok (.iload_n 1, 1) := by decide +kernel
theorem dX12_splits_9 : decode cX12_splits 9 = .ok (.if_icmp .ge 254, 3) := by decide +kernel
theorem dX12_splits_12 : decode cX12_splits 12 = .ok (.aload_n 0, 1) := by decide +kernel
theorem dX12_splits_13 : decode cX12_splits 13 = .ok (.getfield 41, 3) := by decide +kernel
theorem dX12_splits_16 : decode cX12_splits 16 = .ok (.iload_n 2, 1) := by decide +kernel
theorem dX12_splits_17 : decode cX12_splits 17 = .ok (.baload, 1) := by decide +kernel
theorem dX12_splits_18 : decode cX12_splits 18 = .ok (.istore_n 3, 1) := by decide +kernel
theorem dX12_splits_19 : decode cX12_splits 19 = .ok (.iload_n 3, 1) := by decide +kernel
theorem dX12_splits_20 : decode cX12_splits 20 = .ok (.bipush 32, 2) := by decide +kernel
theorem dX12_splits_22 : decode cX12_splits 22 = .ok (.if_icmp .ne 9, 3) := by decide +kernel
theorem dX12_splits_25 : decode cX12_splits 25 = .ok (.iinc 2 1, 3) := by decide +kernel
theorem dX12_splits_28 : decode cX12_splits 28 = .ok (.goto (-21), 3) := by decide +kernel
theorem dX12_splits_31 : decode cX12_splits 31 = .ok (.iload_n 2, 1) := by decide +kernel
theorem dX12_splits_32 : decode cX12_splits 32 = .ok (.iconst 1, 1) := by decide +kernel
theorem dX12_splits_33 : decode cX12_splits 33 = .ok (.iadd, 1) := by decide +kernel
theorem dX12_splits_34 : decode cX12_splits 34 = .ok (.istore 4, 2) := by decide +kernel
theorem dX12_splits_36 : decode cX12_splits 36 = .ok (.iload_n 3, 1) := by decide +kernel
theorem dX12_splits_37 : decode cX12_splits 37 = .ok (.invokestatic 157, 3) := by decide +kernel
theorem dX12_splits_40 : decode cX12_splits 40 = .ok (.ifCond .eq 28, 3) := by decide +kernel
theorem dX12_splits_43 : decode cX12_splits 43 = .ok (.iload 4, 2) := by decide +kernel
theorem dX12_splits_45 : decode cX12_splits 45 = .ok (.iload_n 1, 1) := by decide +kernel
theorem dX12_splits_46 : decode cX12_splits 46 = .ok (.if_icmp .ge 22, 3) := by decide +kernel
theorem dX12_splits_49 : decode cX12_splits 49 = .ok (.aload_n 0, 1) := by decide +kernel
theorem dX12_splits_50 : decode cX12_splits 50 = .ok (.getfield 41, 3) := by decide +kernel
theorem dX12_splits_53 : decode cX12_splits 53 = .ok (.iload 4, 2) := by decide +kernel
theorem dX12_splits_55 : decode cX12_splits 55 = .ok (.baload, 1) := by decide +kernel
theorem dX12_splits_56 : decode cX12_splits 56 = .ok (.invokestatic 157, 3) := by decide +kernel
theorem dX12_splits_59 : decode cX12_splits 59 = .ok (.ifCond .eq 9, 3) := by decide +kernel
theorem dX12_splits_62 : decode cX12_splits 62 = .ok (.iinc 4 1, 3) := by decide +kernel
theorem dX12_splits_65 : decode cX12_splits 65 = .ok (.goto (-22), 3) := by decide +kernel
theorem dX12_splits_68 : decode cX12_splits 68 = .ok (.iload_n 3, 1) := by decide +kernel
theorem dX12_splits_69 : decode cX12_splits 69 = .ok (.invokestatic 160, 3) := by decide +kernel
theorem dX12_splits_72 : decode cX12_splits 72 = .ok (.ifCond .eq 28, 3) := by decide +kernel
theorem dX12_splits_75 : decode cX12_splits 75 = .ok (.iload 4, 2) := by decide +kernel
theorem dX12_splits_77 : decode cX12_splits 77 = .ok (.iload_n 1, 1) := by decide +kernel
theorem dX12_splits_78 : decode cX12_splits 78 = .ok (.if_icmp .ge 22, 3) := by decide +kernel
theorem dX12_splits_81 : decode cX12_splits 81 = .ok (.aload_n 0, 1) := by decide +kernel
theorem dX12_splits_82 : decode cX12_splits 82 = .ok (.getfield 41, 3) := by decide +kernel
theorem dX12_splits_85 : decode cX12_splits 85 = .ok (.iload 4, 2) := by decide +kernel
theorem dX12_splits_87 : decode cX12_splits 87 = .ok (.baload, 1) := by decide +kernel
theorem dX12_splits_88 : decode cX12_splits 88 = .ok (.invokestatic 160, 3) := by decide +kernel
theorem dX12_splits_91 : decode cX12_splits 91 = .ok (.ifCond .eq 9, 3) := by decide +kernel
theorem dX12_splits_94 : decode cX12_splits 94 = .ok (.iinc 4 1, 3) := by decide +kernel
theorem dX12_splits_97 : decode cX12_splits 97 = .ok (.goto (-22), 3) := by decide +kernel
theorem dX12_splits_100 : decode cX12_splits 100 = .ok (.aload_n 0, 1) := by decide +kernel
theorem dX12_splits_101 : decode cX12_splits 101 = .ok (.getfield 56, 3) := by decide +kernel
theorem dX12_splits_104 : decode cX12_splits 104 = .ok (.aload_n 0, 1) := by decide +kernel
theorem dX12_splits_105 : decode cX12_splits 105 = .ok (.getfield 154, 3) := by decide +kernel
theorem dX12_splits_108 : decode cX12_splits 108 = .ok (.iload_n 2, 1) := by decide +kernel
theorem dX12_splits_109 : decode cX12_splits 109 = .ok (.iastore, 1) := by decide +kernel
theorem dX12_splits_110 : decode cX12_splits 110 = .ok (.aload_n 0, 1) := by decide +kernel
theorem dX12_splits_111 : decode cX12_splits 111 = .ok (.getfield 53, 3) := by decide +kernel
theorem dX12_splits_114 : decode cX12_splits 114 = .ok (.aload_n 0, 1) := by decide +kernel
theorem dX12_splits_115 : decode cX12_splits 115 = .ok (.getfield 154, 3) := by decide +kernel
theorem dX12_splits_118 : decode cX12_splits 118 = .ok (.iconst 0, 1) := by decide +kernel
theorem dX12_splits_119 : decode cX12_splits 119 = .ok (.iastore, 1) := by decide +kernel
theorem dX12_splits_120 : decode cX12_splits 120 = .ok (.aload_n 0, 1) := by decide +kernel
theorem dX12_splits_121 : decode cX12_splits 121 = .ok (.getfield 50, 3) := by decide +kernel
theorem dX12_splits_124 : decode cX12_splits 124 = .ok (.aload_n 0, 1) := by decide +kernel
theorem dX12_splits_125 : decode cX12_splits 125 = .ok (.getfield 154, 3) := by decide +kernel
theorem dX12_splits_128 : decode cX12_splits 128 = .ok (.iload_n 3, 1) := by decide +kernel
theorem dX12_splits_129 : decode cX12_splits 129 = .ok (.invokestatic 157, 3) := by decide +kernel
theorem dX12_splits_132 : decode cX12_splits 132 = .ok (.ifCond .eq 13, 3) := by decide +kernel
theorem dX12_splits_135 : decode cX12_splits 135 = .ok (.aload_n 0, 1) := by decide +kernel
theorem dX12_splits_136 : decode cX12_splits 136 = .ok (.iload_n 2, 1) := by decide +kernel
theorem dX12_splits_137 : decode cX12_splits 137 = .ok (.iload 4, 2) := by decide +kernel
theorem dX12_splits_139 : decode cX12_splits 139 = .ok (.invokevirtual 163, 3) := by decide +kernel
theorem dX12_splits_142 : decode cX12_splits 142 = .ok (.goto 23, 3) := by decide +kernel
theorem dX12_splits_145 : decode cX12_splits 145 = .ok (.iload_n 3, 1) := by decide +kernel
theorem dX12_splits_146 : decode cX12_splits 146 = .ok (.invokestatic 160, 3) := by decide +kernel
theorem dX12_splits_149 : decode cX12_splits 149 = .ok (.ifCond .eq 8, 3) := by decide +kernel
theorem dX12_splits_152 : decode cX12_splits 152 = .ok (.bipush 50, 2) := by decide +kernel
theorem dX12_splits_154 : decode cX12_splits 154 = .ok (.goto 11, 3) := by decide +kernel
theorem dX12_splits_157 : decode cX12_splits 157 = .ok (.bipush 100, 2) := by decide +kernel
theorem dX12_splits_159 : decode cX12_splits 159 = .ok (.iload_n 3, 1) := by decide +kernel
theorem dX12_splits_160 : decode cX12_splits 160 = .ok (.sipush 255, 3) := by decide +kernel
theorem dX12_splits_163 : decode cX12_splits 163 = .ok (.iand, 1) := by decide +kernel
theorem dX12_splits_164 : decode cX12_splits 164 = .ok (.iadd, 1) := by decide +kernel
theorem dX12_splits_165 : decode cX12_splits 165 = .ok (.iastore, 1) := by decide +kernel
theorem dX12_splits_166 : decode cX12_splits 166 = .ok (.iload_n 2, 1) := by decide +kernel
theorem dX12_splits_167 : decode cX12_splits 167 = .ok (.istore 5, 2) := by decide +kernel
theorem dX12_splits_169 : decode cX12_splits 169 = .ok (.iload 5, 2) := by decide +kernel
theorem dX12_splits_171 : decode cX12_splits 171 = .ok (.iload 4, 2) := by decide +kernel
theorem dX12_splits_173 : decode cX12_splits 173 = .ok (.if_icmp .ge 74, 3) := by decide +kernel
theorem dX12_splits_176 : decode cX12_splits 176 = .ok (.iload_n 3, 1) := by decide +kernel
theorem dX12_splits_177 : decode cX12_splits 177 = .ok (.invokestatic 160, 3) := by decide +kernel
theorem dX12_splits_180 : decode cX12_splits 180 = .ok (.ifCond .eq 67, 3) := by decide +kernel
theorem dX12_splits_183 : decode cX12_splits 183 = .ok (.aload_n 0, 1) := by decide +kernel
theorem dX12_splits_184 : decode cX12_splits 184 = .ok (.getfield 53, 3) := by decide +kernel
theorem dX12_splits_187 : decode cX12_splits 187 = .ok (.aload_n 0, 1) := by decide +kernel
theorem dX12_splits_188 : decode cX12_splits 188 = .ok (.getfield 154, 3) := by decide +kernel
theorem dX12_splits_191 : decode cX12_splits 191 = .ok (.aload_n 0, 1) := by decide +kernel
theorem dX12_splits_192 : decode cX12_splits 192 = .ok (.getfield 53, 3) := by decide +kernel
theorem dX12_splits_195 : decode cX12_splits 195 = .ok (.aload_n 0, 1) := by decide +kernel
theorem dX12_splits_196 : decode cX12_splits 196 = .ok (.getfield 154, 3) := by decide +kernel
theorem dX12_splits_199 : decode cX12_splits 199 = .ok (.iaload, 1) := by decide +kernel
theorem dX12_splits_200 : decode cX12_splits 200 = .ok (.ldc 167, 2) := by decide +kernel
theorem dX12_splits_202 : decode cX12_splits 202 = .ok (.if_icmp .le 15, 3) := by decide +kernel
theorem dX12_splits_205 : decode cX12_splits 205 = .ok (.aload_n 0, 1) := by decide +kernel
theorem dX12_splits_206 : decode cX12_splits 206 = .ok (.getfield 53, 3) := by decide +kernel
theorem dX12_splits_209 : decode cX12_splits 209 = .ok (.aload_n 0, 1) := by decide +kernel
theorem dX12_splits_210 : decode cX12_splits 210 = .ok (.getfield 154, 3) := by decide +kernel
theorem dX12_splits_213 : decode cX12_splits 213 = .ok (.iaload, 1) := by decide +kernel
theorem dX12_splits_214 : decode cX12_splits 214 = .ok (.goto 26, 3) := by decide +kernel
theorem dX12_splits_217 : decode cX12_splits 217 = .ok (.bipush 10, 2) := by decide +kernel
theorem dX12_splits_219 : decode cX12_splits 219 = .ok (.aload_n 0, 1) := by decide +kernel
theorem dX12_splits_220 : decode cX12_splits 220 = .ok (.getfield 53, 3) := by decide +kernel
theorem dX12_splits_223 : decode cX12_splits 223 = .ok (.aload_n 0, 1) := by decide +kernel
theorem dX12_splits_224 : decode cX12_splits 224 = .ok (.getfield 154, 3) := by decide +kernel
theorem dX12_splits_227 : decode cX12_splits 227 = .ok (.iaload, 1) := by decide +kernel
theorem dX12_splits_228 : decode cX12_splits 228 = .ok (.imul, 1) := by decide +kernel
theorem dX12_splits_229 : decode cX12_splits 229 = .ok (.aload_n 0, 1) := by decide +kernel
theorem dX12_splits_230 : decode cX12_splits 230 = .ok (.getfield 41, 3) := by decide +kernel
theorem dX12_splits_233 : decode cX12_splits 233 = .ok (.iload 5, 2) := by decide +kernel
theorem dX12_splits_235 : decode cX12_splits 235 = .ok (.baload, 1) := by decide +kernel
theorem dX12_splits_236 : decode cX12_splits 236 = .ok (.iadd, 1) := by decide +kernel
theorem dX12_splits_237 : decode cX12_splits 237 = .ok (.bipush 48, 2) := by decide +kernel
theorem dX12_splits_239 : decode cX12_splits 239 = .ok (.isub, 1) := by decide +kernel
theorem dX12_splits_240 : decode cX12_splits 240 = .ok (.iastore, 1) := by decide +kernel
theorem dX12_splits_241 : decode cX12_splits 241 = .ok (.iinc 5 1, 3) := by decide +kernel
theorem dX12_splits_244 : decode cX12_splits 244 = .ok (.goto (-75), 3) := by decide +kernel
theorem dX12_splits_247 : decode cX12_splits 247 = .ok (.aload_n 0, 1) := by decide +kernel
theorem dX12_splits_248 : decode cX12_splits 248 = .ok (.dup, 1) := by decide +kernel
theorem dX12_splits_249 : decode cX12_splits 249 = .ok (.getfield 154, 3) := by decide +kernel
theorem dX12_splits_252 : decode cX12_splits 252 = .ok (.iconst 1, 1) := by decide +kernel
theorem dX12_splits_253 : decode cX12_splits 253 = .ok (.iadd, 1) := by decide +kernel
theorem dX12_splits_254 : decode cX12_splits 254 = .ok (.putfield 154, 3) := by decide +kernel
theorem dX12_splits_257 : decode cX12_splits 257 = .ok (.iload 4, 2) := by decide +kernel
theorem dX12_splits_259 : decode cX12_splits 259 = .ok (.istore_n 2, 1) := by decide +kernel
theorem dX12_splits_260 : decode cX12_splits 260 = .ok (.goto (-253), 3) := by decide +kernel
theorem dX12_splits_263 : decode cX12_splits 263 = .ok (.aload_n 0, 1) := by decide +kernel
theorem dX12_splits_264 : decode cX12_splits 264 = .ok (.getfield 56, 3) := by decide +kernel
theorem dX12_splits_267 : decode cX12_splits 267 = .ok (.aload_n 0, 1) := by decide +kernel
theorem dX12_splits_268 : decode cX12_splits 268 = .ok (.getfield 154, 3) := by decide +kernel
theorem dX12_splits_271 : decode cX12_splits 271 = .ok (.iload_n 1, 1) := by decide +kernel
theorem dX12_splits_272 : decode cX12_splits 272 = .ok (.iastore, 1) := by decide +kernel
theorem dX12_splits_273 : decode cX12_splits 273 = .ok (.aload_n 0, 1) := by decide +kernel
theorem dX12_splits_274 : decode cX12_splits 274 = .ok (.getfield 50, 3) := by decide +kernel
theorem dX12_splits_277 : decode cX12_splits 277 = .ok (.aload_n 0, 1) := by decide +kernel
theorem dX12_splits_278 : decode cX12_splits 278 = .ok (.getfield 154, 3) := by decide +kernel
theorem dX12_splits_281 : decode cX12_splits 281 = .ok (.iconst 0, 1) := by decide +kernel
theorem dX12_splits_282 : decode cX12_splits 282 = .ok (.iastore, 1) := by decide +kernel
theorem dX12_splits_283 : decode cX12_splits 283 = .ok (.aload_n 0, 1) := by decide +kernel
theorem dX12_splits_284 : decode cX12_splits 284 = .ok (.getfield 53, 3) := by decide +kernel
theorem dX12_splits_287 : decode cX12_splits 287 = .ok (.aload_n 0, 1) := by decide +kernel
theorem dX12_splits_288 : decode cX12_splits 288 = .ok (.getfield 154, 3) := by decide +kernel
theorem dX12_splits_291 : decode cX12_splits 291 = .ok (.iconst 0, 1) := by decide +kernel
theorem dX12_splits_292 : decode cX12_splits 292 = .ok (.iastore, 1) := by decide +kernel
theorem dX12_splits_293 : decode cX12_splits 293 = .ok (.return_, 1) := by decide +kernel
theorem dX12_fine_0 : decode cX12_fine 0 = .ok (.aload_n 0, 1) := by decide +kernel
theorem dX12_fine_1 : decode cX12_fine 1 = .ok (.getfield 168, 3) := by decide +kernel
theorem dX12_fine_4 : decode cX12_fine 4 = .ok (.iconst (-1), 1) := by decide +kernel
theorem dX12_fine_5 : decode cX12_fine 5 = .ok (.if_icmp .ne 7, 3) := by decide +kernel
theorem dX12_fine_8 : decode cX12_fine 8 = .ok (.iconst 1, 1) := by decide +kernel
theorem dX12_fine_9 : decode cX12_fine 9 = .ok (.goto 4, 3) := by decide +kernel
theorem dX12_fine_12 : decode cX12_fine 12 = .ok (.iconst 0, 1) := by decide +kernel
theorem dX12_fine_13 : decode cX12_fine 13 = .ok (.ireturn, 1) := by decide +kernel
theorem dX12_faults_0 : decode cX12_faults 0 = .ok (.aload_n 0, 1) := by decide +kernel
theorem dX12_faults_1 : decode cX12_faults 1 = .ok (.invokevirtual 171, 3) := by decide +kernel
theorem dX12_faults_4 : decode cX12_faults 4 = .ok (.ifCond .eq 16, 3) := by decide +kernel
theorem dX12_faults_7 : decode cX12_faults 7 = .ok (.aload_n 0, 1) := by decide +kernel
theorem dX12_faults_8 : decode cX12_faults 8 = .ok (.aload_n 0, 1) := by decide +kernel
theorem dX12_faults_9 : decode cX12_faults 9 = .ok (.getfield 56, 3) := by decide +kernel
theorem dX12_faults_12 : decode cX12_faults 12 = .ok (.aload_n 0, 1) := by decide +kernel
theorem dX12_faults_13 : decode cX12_faults 13 = .ok (.getfield 174, 3) := by decide +kernel
theorem dX12_faults_16 : decode cX12_faults 16 = .ok (.iaload, 1) := by decide +kernel
theorem dX12_faults_17 : decode cX12_faults 17 = .ok (.putfield 168, 3) := by decide +kernel
theorem dX12_faults_20 : decode cX12_faults 20 = .ok (.return_, 1) := by decide +kernel
theorem dX12_takes0_0 : decode cX12_takes0 0 = .ok (.aload_n 0, 1) := by decide +kernel
theorem dX12_takes0_1 : decode cX12_takes0 1 = .ok (.invokevirtual 171, 3) := by decide +kernel
theorem dX12_takes0_4 : decode cX12_takes0 4 = .ok (.ifCond .eq 20, 3) := by decide +kernel
theorem dX12_takes0_7 : decode cX12_takes0 7 = .ok (.aload_n 0, 1) := by decide +kernel
theorem dX12_takes0_8 : decode cX12_takes0 8 = .ok (.getfield 50, 3) := by decide +kernel
theorem dX12_takes0_11 : decode cX12_takes0 11 = .ok (.aload_n 0, 1) := by decide +kernel
theorem dX12_takes0_12 : decode cX12_takes0 12 = .ok (.getfield 174, 3) := by decide +kernel
theorem dX12_takes0_15 : decode cX12_takes0 15 = .ok (.iaload, 1) := by decide +kernel
theorem dX12_takes0_16 : decode cX12_takes0 16 = .ok (.iload_n 1, 1) := by decide +kernel
theorem dX12_takes0_17 : decode cX12_takes0 17 = .ok (.if_icmp .ne 7, 3) := by decide +kernel
theorem dX12_takes0_20 : decode cX12_takes0 20 = .ok (.iconst 1, 1) := by decide +kernel
theorem dX12_takes0_21 : decode cX12_takes0 21 = .ok (.goto 4, 3) := by decide +kernel
theorem dX12_takes0_24 : decode cX12_takes0 24 = .ok (.iconst 0, 1) := by decide +kernel
theorem dX12_takes0_25 : decode cX12_takes0 25 = .ok (.istore_n 2, 1) := by decide +kernel
theorem dX12_takes0_26 : decode cX12_takes0 26 = .ok (.iload_n 2, 1) := by decide +kernel
theorem dX12_takes0_27 : decode cX12_takes0 27 = .ok (.ifCond .eq 13, 3) := by decide +kernel
theorem dX12_takes0_30 : decode cX12_takes0 30 = .ok (.aload_n 0, 1) := by decide +kernel
theorem dX12_takes0_31 : decode cX12_takes0 31 = .ok (.dup, 1) := by decide +kernel
theorem dX12_takes0_32 : decode cX12_takes0 32 = .ok (.getfield 174, 3) := by decide +kernel
theorem dX12_takes0_35 : decode cX12_takes0 35 = .ok (.iconst 1, 1) := by decide +kernel
theorem dX12_takes0_36 : decode cX12_takes0 36 = .ok (.iadd, 1) := by decide +kernel
theorem dX12_takes0_37 : decode cX12_takes0 37 = .ok (.putfield 174, 3) := by decide +kernel
theorem dX12_takes0_40 : decode cX12_takes0 40 = .ok (.iload_n 2, 1) := by decide +kernel
theorem dX12_takes0_41 : decode cX12_takes0 41 = .ok (.ireturn, 1) := by decide +kernel
theorem dX12_must_0 : decode cX12_must 0 = .ok (.aload_n 0, 1) := by decide +kernel
theorem dX12_must_1 : decode cX12_must 1 = .ok (.iload_n 1, 1) := by decide +kernel
theorem dX12_must_2 : decode cX12_must 2 = .ok (.invokevirtual 177, 3) := by decide +kernel
theorem dX12_must_5 : decode cX12_must 5 = .ok (.ifCond .ne 7, 3) := by decide +kernel
theorem dX12_must_8 : decode cX12_must 8 = .ok (.aload_n 0, 1) := by decide +kernel
theorem dX12_must_9 : decode cX12_must 9 = .ok (.invokevirtual 180, 3) := by decide +kernel
theorem dX12_must_12 : decode cX12_must 12 = .ok (.return_, 1) := by decide +kernel
theorem dX12_leaf_0 : decode cX12_leaf 0 = .ok (.aload_n 0, 1) := by decide +kernel
theorem dX12_leaf_1 : decode cX12_leaf 1 = .ok (.getfield 183, 3) := by decide +kernel
theorem dX12_leaf_4 : decode cX12_leaf 4 = .ok (.bipush 50, 2) := by decide +kernel
theorem dX12_leaf_6 : decode cX12_leaf 6 = .ok (.if_icmp .ne 7, 3) := by decide +kernel
theorem dX12_leaf_9 : decode cX12_leaf 9 = .ok (.aload_n 0, 1) := by decide +kernel
theorem dX12_leaf_10 : decode cX12_leaf 10 = .ok (.invokevirtual 180, 3) := by decide +kernel
theorem dX12_leaf_13 : decode cX12_leaf 13 = .ok (.aload_n 0, 1) := by decide +kernel
theorem dX12_leaf_14 : decode cX12_leaf 14 = .ok (.dup, 1) := by decide +kernel
theorem dX12_leaf_15 : decode cX12_leaf 15 = .ok (.getfield 183, 3) := by decide +kernel
theorem dX12_leaf_18 : decode cX12_leaf 18 = .ok (.iconst 1, 1) := by decide +kernel
theorem dX12_leaf_19 : decode cX12_leaf 19 = .ok (.iadd, 1) := by decide +kernel
theorem dX12_leaf_20 : decode cX12_leaf 20 = .ok (.putfield 183, 3) := by decide +kernel
theorem dX12_leaf_23 : decode cX12_leaf 23 = .ok (.aload_n 0, 1) := by decide +kernel
theorem dX12_leaf_24 : decode cX12_leaf 24 = .ok (.invokevirtual 171, 3) := by decide +kernel
theorem dX12_leaf_27 : decode cX12_leaf 27 = .ok (.ifCond .eq 13, 3) := by decide +kernel
theorem dX12_leaf_30 : decode cX12_leaf 30 = .ok (.aload_n 0, 1) := by decide +kernel
theorem dX12_leaf_31 : decode cX12_leaf 31 = .ok (.dup, 1) := by decide +kernel
theorem dX12_leaf_32 : decode cX12_leaf 32 = .ok (.getfield 174, 3) := by decide +kernel
theorem dX12_leaf_35 : decode cX12_leaf 35 = .ok (.iconst 1, 1) := by decide +kernel
theorem dX12_leaf_36 : decode cX12_leaf 36 = .ok (.iadd, 1) := by decide +kernel
theorem dX12_leaf_37 : decode cX12_leaf 37 = .ok (.putfield 174, 3) := by decide +kernel
theorem dX12_leaf_40 : decode cX12_leaf 40 = .ok (.return_, 1) := by decide +kernel
theorem dX12_sign_0 : decode cX12_sign 0 = .ok (.bipush 100, 2) := by decide +kernel
theorem dX12_sign_2 : decode cX12_sign 2 = .ok (.iload_n 0, 1) := by decide +kernel
theorem dX12_sign_3 : decode cX12_sign 3 = .ok (.iadd, 1) := by decide +kernel
theorem dX12_sign_4 : decode cX12_sign 4 = .ok (.ireturn, 1) := by decide +kernel
theorem dX12_mustNumber_0 : decode cX12_mustNumber 0 = .ok (.aload_n 0, 1) := by decide +kernel
theorem dX12_mustNumber_1 : decode cX12_mustNumber 1 = .ok (.invokevirtual 171, 3) := by decide +kernel
theorem dX12_mustNumber_4 : decode cX12_mustNumber 4 = .ok (.ifCond .eq 38, 3) := by decide +kernel
theorem dX12_mustNumber_7 : decode cX12_mustNumber 7 = .ok (.aload_n 0, 1) := by decide +kernel
theorem dX12_mustNumber_8 : decode cX12_mustNumber 8 = .ok (.getfield 50, 3) := by decide +kernel
theorem dX12_mustNumber_11 : decode cX12_mustNumber 11 = .ok (.aload_n 0, 1) := by decide +kernel
theorem dX12_mustNumber_12 : decode cX12_mustNumber 12 = .ok (.getfield 174, 3) := by decide +kernel
theorem dX12_mustNumber_15 : decode cX12_mustNumber 15 = .ok (.iaload, 1) := by decide +kernel
theorem dX12_mustNumber_16 : decode cX12_mustNumber 16 = .ok (.bipush 50, 2) := by decide +kernel
theorem dX12_mustNumber_18 : decode cX12_mustNumber 18 = .ok (.if_icmp .ne 20, 3) := by decide +kernel
theorem dX12_mustNumber_21 : decode cX12_mustNumber 21 = .ok (.aload_n 0, 1) := by decide +kernel
theorem dX12_mustNumber_22 : decode cX12_mustNumber 22 = .ok (.getfield 53, 3) := by decide +kernel
theorem dX12_mustNumber_25 : decode cX12_mustNumber 25 = .ok (.aload_n 0, 1) := by decide +kernel
theorem dX12_mustNumber_26 : decode cX12_mustNumber 26 = .ok (.getfield 174, 3) := by decide +kernel
theorem dX12_mustNumber_29 : decode cX12_mustNumber 29 = .ok (.iaload, 1) := by decide +kernel
theorem dX12_mustNumber_30 : decode cX12_mustNumber 30 = .ok (.iload_n 1, 1) := by decide +kernel
theorem dX12_mustNumber_31 : decode cX12_mustNumber 31 = .ok (.iload_n 2, 1) := by decide +kernel
theorem dX12_mustNumber_32 : decode cX12_mustNumber 32 = .ok (.invokestatic 102, 3) := by decide +kernel
theorem dX12_mustNumber_35 : decode cX12_mustNumber 35 = .ok (.ifCond .ne 7, 3) := by decide +kernel
theorem dX12_mustNumber_38 : decode cX12_mustNumber 38 = .ok (.aload_n 0, 1) := by decide +kernel
theorem dX12_mustNumber_39 : decode cX12_mustNumber 39 = .ok (.invokevirtual 180, 3) := by decide +kernel
theorem dX12_mustNumber_42 : decode cX12_mustNumber 42 = .ok (.aload_n 0, 1) := by decide +kernel
theorem dX12_mustNumber_43 : decode cX12_mustNumber 43 = .ok (.invokevirtual 171, 3) := by decide +kernel
theorem dX12_mustNumber_46 : decode cX12_mustNumber 46 = .ok (.ifCond .eq 13, 3) := by decide +kernel
theorem dX12_mustNumber_49 : decode cX12_mustNumber 49 = .ok (.aload_n 0, 1) := by decide +kernel
theorem dX12_mustNumber_50 : decode cX12_mustNumber 50 = .ok (.dup, 1) := by decide +kernel
theorem dX12_mustNumber_51 : decode cX12_mustNumber 51 = .ok (.getfield 174, 3) := by decide +kernel
theorem dX12_mustNumber_54 : decode cX12_mustNumber 54 = .ok (.iconst 1, 1) := by decide +kernel
theorem dX12_mustNumber_55 : decode cX12_mustNumber 55 = .ok (.iadd, 1) := by decide +kernel
theorem dX12_mustNumber_56 : decode cX12_mustNumber 56 = .ok (.putfield 174, 3) := by decide +kernel
theorem dX12_mustNumber_59 : decode cX12_mustNumber 59 = .ok (.return_, 1) := by decide +kernel
theorem dX12_readClause_0 : decode cX12_readClause 0 = .ok (.aload_n 0, 1) := by decide +kernel
theorem dX12_readClause_1 : decode cX12_readClause 1 = .ok (.iconst 1, 1) := by decide +kernel
theorem dX12_readClause_2 : decode cX12_readClause 2 = .ok (.invokevirtual 177, 3) := by decide +kernel
theorem dX12_readClause_5 : decode cX12_readClause 5 = .ok (.ifCond .ne 11, 3) := by decide +kernel
theorem dX12_readClause_8 : decode cX12_readClause 8 = .ok (.aload_n 0, 1) := by decide +kernel
theorem dX12_readClause_9 : decode cX12_readClause 9 = .ok (.iconst 2, 1) := by decide +kernel
theorem dX12_readClause_10 : decode cX12_readClause 10 = .ok (.invokevirtual 177, 3) := by decide +kernel
theorem dX12_readClause_13 : decode cX12_readClause 13 = .ok (.ifCond .eq 11, 3) := by decide +kernel
theorem dX12_readClause_16 : decode cX12_readClause 16 = .ok (.aload_n 0, 1) := by decide +kernel
theorem dX12_readClause_17 : decode cX12_readClause 17 = .ok (.iconst 0, 1) := by decide +kernel
theorem dX12_readClause_18 : decode cX12_readClause 18 = .ok (.invokevirtual 186, 3) := by decide +kernel
theorem dX12_readClause_21 : decode cX12_readClause 21 = .ok (.goto 8, 3) := by decide +kernel
theorem dX12_readClause_24 : decode cX12_readClause 24 = .ok (.aload_n 0, 1) := by decide +kernel
theorem dX12_readClause_25 : decode cX12_readClause 25 = .ok (.iconst 3, 1) := by decide +kernel
theorem dX12_readClause_26 : decode cX12_readClause 26 = .ok (.invokevirtual 189, 3) := by decide +kernel
theorem dX12_readClause_29 : decode cX12_readClause 29 = .ok (.aload_n 0, 1) := by decide +kernel
theorem dX12_readClause_30 : decode cX12_readClause 30 = .ok (.iconst 4, 1) := by decide +kernel
theorem dX12_readClause_31 : decode cX12_readClause 31 = .ok (.invokevirtual 177, 3) := by decide +kernel
theorem dX12_readClause_34 : decode cX12_readClause 34 = .ok (.ifCond .eq 8, 3) := by decide +kernel
theorem dX12_readClause_37 : decode cX12_readClause 37 = .ok (.aload_n 0, 1) := by decide +kernel
theorem dX12_readClause_38 : decode cX12_readClause 38 = .ok (.iconst 0, 1) := by decide +kernel
theorem dX12_readClause_39 : decode cX12_readClause 39 = .ok (.invokevirtual 192, 3) := by decide +kernel
theorem dX12_readClause_42 : decode cX12_readClause 42 = .ok (.return_, 1) := by decide +kernel
theorem dX12_readOrder_0 : decode cX12_readOrder 0 = .ok (.aload_n 0, 1) := by decide +kernel
theorem dX12_readOrder_1 : decode cX12_readOrder 1 = .ok (.bipush 21, 2) := by decide +kernel
theorem dX12_readOrder_3 : decode cX12_readOrder 3 = .ok (.invokevirtual 177, 3) := by decide +kernel
theorem dX12_readOrder_6 : decode cX12_readOrder 6 = .ok (.ifCond .eq 28, 3) := by decide +kernel
theorem dX12_readOrder_9 : decode cX12_readOrder 9 = .ok (.aload_n 0, 1) := by decide +kernel
theorem dX12_readOrder_10 : decode cX12_readOrder 10 = .ok (.iconst 0, 1) := by decide +kernel
theorem dX12_readOrder_11 : decode cX12_readOrder 11 = .ok (.invokevirtual 186, 3) := by decide +kernel
theorem dX12_readOrder_14 : decode cX12_readOrder 14 = .ok (.aload_n 0, 1) := by decide +kernel
theorem dX12_readOrder_15 : decode cX12_readOrder 15 = .ok (.bipush 22, 2) := by decide +kernel
theorem dX12_readOrder_17 : decode cX12_readOrder 17 = .ok (.invokevirtual 189, 3) := by decide +kernel
theorem dX12_readOrder_20 : decode cX12_readOrder 20 = .ok (.aload_n 0, 1) := by decide +kernel
theorem dX12_readOrder_21 : decode cX12_readOrder 21 = .ok (.iconst 0, 1) := by decide +kernel
theorem dX12_readOrder_22 : decode cX12_readOrder 22 = .ok (.invokevirtual 186, 3) := by decide +kernel
theorem dX12_readOrder_25 : decode cX12_readOrder 25 = .ok (.aload_n 0, 1) := by decide +kernel
theorem dX12_readOrder_26 : decode cX12_readOrder 26 = .ok (.bipush 23, 2) := by decide +kernel
theorem dX12_readOrder_28 : decode cX12_readOrder 28 = .ok (.invokevirtual 189, 3) := by decide +kernel
theorem dX12_readOrder_31 : decode cX12_readOrder 31 = .ok (.goto 32, 3) := by decide +kernel
theorem dX12_readOrder_34 : decode cX12_readOrder 34 = .ok (.aload_n 0, 1) := by decide +kernel
theorem dX12_readOrder_35 : decode cX12_readOrder 35 = .ok (.bipush 24, 2) := by decide +kernel
theorem dX12_readOrder_37 : decode cX12_readOrder 37 = .ok (.invokevirtual 177, 3) := by decide +kernel
theorem dX12_readOrder_40 : decode cX12_readOrder 40 = .ok (.ifCond .eq 17, 3) := by decide +kernel
theorem dX12_readOrder_43 : decode cX12_readOrder 43 = .ok (.aload_n 0, 1) := by decide +kernel
theorem dX12_readOrder_44 : decode cX12_readOrder 44 = .ok (.iconst 0, 1) := by decide +kernel
theorem dX12_readOrder_45 : decode cX12_readOrder 45 = .ok (.invokevirtual 186, 3) := by decide +kernel
theorem dX12_readOrder_48 : decode cX12_readOrder 48 = .ok (.aload_n 0, 1) := by decide +kernel
theorem dX12_readOrder_49 : decode cX12_readOrder 49 = .ok (.bipush 23, 2) := by decide +kernel
theorem dX12_readOrder_51 : decode cX12_readOrder 51 = .ok (.invokevirtual 189, 3) := by decide +kernel
theorem dX12_readOrder_54 : decode cX12_readOrder 54 = .ok (.goto 9, 3) := by decide +kernel
theorem dX12_readOrder_57 : decode cX12_readOrder 57 = .ok (.aload_n 0, 1) := by decide +kernel
theorem dX12_readOrder_58 : decode cX12_readOrder 58 = .ok (.bipush 20, 2) := by decide +kernel
theorem dX12_readOrder_60 : decode cX12_readOrder 60 = .ok (.invokevirtual 189, 3) := by decide +kernel
theorem dX12_readOrder_63 : decode cX12_readOrder 63 = .ok (.aload_n 0, 1) := by decide +kernel
theorem dX12_readOrder_64 : decode cX12_readOrder 64 = .ok (.iconst 0, 1) := by decide +kernel
theorem dX12_readOrder_65 : decode cX12_readOrder 65 = .ok (.invokevirtual 186, 3) := by decide +kernel
theorem dX12_readOrder_68 : decode cX12_readOrder 68 = .ok (.aload_n 0, 1) := by decide +kernel
theorem dX12_readOrder_69 : decode cX12_readOrder 69 = .ok (.bipush 25, 2) := by decide +kernel
theorem dX12_readOrder_71 : decode cX12_readOrder 71 = .ok (.invokevirtual 177, 3) := by decide +kernel
theorem dX12_readOrder_74 : decode cX12_readOrder 74 = .ok (.ifCond .eq 10, 3) := by decide +kernel
theorem dX12_readOrder_77 : decode cX12_readOrder 77 = .ok (.aload_n 0, 1) := by decide +kernel
theorem dX12_readOrder_78 : decode cX12_readOrder 78 = .ok (.iconst 1, 1) := by decide +kernel
theorem dX12_readOrder_79 : decode cX12_readOrder 79 = .ok (.bipush 20, 2) := by decide +kernel
theorem dX12_readOrder_81 : decode cX12_readOrder 81 = .ok (.invokevirtual 195, 3) := by decide +kernel
theorem dX12_readOrder_84 : decode cX12_readOrder 84 = .ok (.aload_n 0, 1) := by decide +kernel
theorem dX12_readOrder_85 : decode cX12_readOrder 85 = .ok (.iconst 4, 1) := by decide +kernel
theorem dX12_readOrder_86 : decode cX12_readOrder 86 = .ok (.invokevirtual 177, 3) := by decide +kernel
theorem dX12_readOrder_89 : decode cX12_readOrder 89 = .ok (.ifCond .eq 8, 3) := by decide +kernel
theorem dX12_readOrder_92 : decode cX12_readOrder 92 = .ok (.aload_n 0, 1) := by decide +kernel
theorem dX12_readOrder_93 : decode cX12_readOrder 93 = .ok (.iconst 0, 1) := by decide +kernel
theorem dX12_readOrder_94 : decode cX12_readOrder 94 = .ok (.invokevirtual 192, 3) := by decide +kernel
theorem dX12_readOrder_97 : decode cX12_readOrder 97 = .ok (.return_, 1) := by decide +kernel
theorem dX12_readOne_0 : decode cX12_readOne 0 = .ok (.aload_n 0, 1) := by decide +kernel
theorem dX12_readOne_1 : decode cX12_readOne 1 = .ok (.getfield 199, 3) := by decide +kernel
theorem dX12_readOne_4 : decode cX12_readOne 4 = .ok (.ifCond .eq 10, 3) := by decide +kernel
theorem dX12_readOne_7 : decode cX12_readOne 7 = .ok (.aload_n 0, 1) := by decide +kernel
theorem dX12_readOne_8 : decode cX12_readOne 8 = .ok (.invokevirtual 203, 3) := by decide +kernel
theorem dX12_readOne_11 : decode cX12_readOne 11 = .ok (.goto 7, 3) := by decide +kernel
theorem dX12_readOne_14 : decode cX12_readOne 14 = .ok (.aload_n 0, 1) := by decide +kernel
theorem dX12_readOne_15 : decode cX12_readOne 15 = .ok (.invokevirtual 206, 3) := by decide +kernel
theorem dX12_readOne_18 : decode cX12_readOne 18 = .ok (.return_, 1) := by decide +kernel
theorem dX12_readTest_0 : decode cX12_readTest 0 = .ok (.aload_n 0, 1) := by decide +kernel
theorem dX12_readTest_1 : decode cX12_readTest 1 = .ok (.iload_n 1, 1) := by decide +kernel
theorem dX12_readTest_2 : decode cX12_readTest 2 = .ok (.invokevirtual 209, 3) := by decide +kernel
theorem dX12_readTest_5 : decode cX12_readTest 5 = .ok (.aload_n 0, 1) := by decide +kernel
theorem dX12_readTest_6 : decode cX12_readTest 6 = .ok (.iconst 5, 1) := by decide +kernel
theorem dX12_readTest_7 : decode cX12_readTest 7 = .ok (.invokevirtual 177, 3) := by decide +kernel
theorem dX12_readTest_10 : decode cX12_readTest 10 = .ok (.ifCond .eq 11, 3) := by decide +kernel
theorem dX12_readTest_13 : decode cX12_readTest 13 = .ok (.aload_n 0, 1) := by decide +kernel
theorem dX12_readTest_14 : decode cX12_readTest 14 = .ok (.iload_n 1, 1) := by decide +kernel
theorem dX12_readTest_15 : decode cX12_readTest 15 = .ok (.invokevirtual 209, 3) := by decide +kernel
theorem dX12_readTest_18 : decode cX12_readTest 18 = .ok (.goto (-13), 3) := by decide +kernel
theorem dX12_readTest_21 : decode cX12_readTest 21 = .ok (.return_, 1) := by decide +kernel
theorem dX12_readBoth_0 : decode cX12_readBoth 0 = .ok (.aload_n 0, 1) := by decide +kernel
theorem dX12_readBoth_1 : decode cX12_readBoth 1 = .ok (.iload_n 1, 1) := by decide +kernel
theorem dX12_readBoth_2 : decode cX12_readBoth 2 = .ok (.invokevirtual 212, 3) := by decide +kernel
theorem dX12_readBoth_5 : decode cX12_readBoth 5 = .ok (.aload_n 0, 1) := by decide +kernel
theorem dX12_readBoth_6 : decode cX12_readBoth 6 = .ok (.bipush 6, 2) := by decide +kernel
theorem dX12_readBoth_8 : decode cX12_readBoth 8 = .ok (.invokevirtual 177, 3) := by decide +kernel
theorem dX12_readBoth_11 : decode cX12_readBoth 11 = .ok (.ifCond .eq 11, 3) := by decide +kernel
theorem dX12_readBoth_14 : decode cX12_readBoth 14 = .ok (.aload_n 0, 1) := by decide +kernel
theorem dX12_readBoth_15 : decode cX12_readBoth 15 = .ok (.iload_n 1, 1) := by decide +kernel
theorem dX12_readBoth_16 : decode cX12_readBoth 16 = .ok (.invokevirtual 212, 3) := by decide +kernel
theorem dX12_readBoth_19 : decode cX12_readBoth 19 = .ok (.goto (-14), 3) := by decide +kernel
theorem dX12_readBoth_22 : decode cX12_readBoth 22 = .ok (.return_, 1) := by decide +kernel
theorem dX12_readPlain_0 : decode cX12_readPlain 0 = .ok (.iconst 1, 1) := by decide +kernel
theorem dX12_readPlain_1 : decode cX12_readPlain 1 = .ok (.istore_n 2, 1) := by decide +kernel
theorem dX12_readPlain_2 : decode cX12_readPlain 2 = .ok (.iload_n 2, 1) := by decide +kernel
theorem dX12_readPlain_3 : decode cX12_readPlain 3 = .ok (.ifCond .eq 13, 3) := by decide +kernel
theorem dX12_readPlain_6 : decode cX12_readPlain 6 = .ok (.aload_n 0, 1) := by decide +kernel
theorem dX12_readPlain_7 : decode cX12_readPlain 7 = .ok (.bipush 7, 2) := by decide +kernel
theorem dX12_readPlain_9 : decode cX12_readPlain 9 = .ok (.invokevirtual 177, 3) := by decide +kernel
theorem dX12_readPlain_12 : decode cX12_readPlain 12 = .ok (.istore_n 2, 1) := by decide +kernel
theorem dX12_readPlain_13 : decode cX12_readPlain 13 = .ok (.goto (-11), 3) := by decide +kernel
theorem dX12_readPlain_16 : decode cX12_readPlain 16 = .ok (.aload_n 0, 1) := by decide +kernel
theorem dX12_readPlain_17 : decode cX12_readPlain 17 = .ok (.invokevirtual 171, 3) := by decide +kernel
theorem dX12_readPlain_20 : decode cX12_readPlain 20 = .ok (.ifCond .ne 4, 3) := by decide +kernel
theorem dX12_readPlain_23 : decode cX12_readPlain 23 = .ok (.return_, 1) := by decide +kernel
theorem dX12_readPlain_24 : decode cX12_readPlain 24 = .ok (.aload_n 0, 1) := by decide +kernel
theorem dX12_readPlain_25 : decode cX12_readPlain 25 = .ok (.getfield 50, 3) := by decide +kernel
theorem dX12_readPlain_28 : decode cX12_readPlain 28 = .ok (.aload_n 0, 1) := by decide +kernel
theorem dX12_readPlain_29 : decode cX12_readPlain 29 = .ok (.getfield 174, 3) := by decide +kernel
theorem dX12_readPlain_32 : decode cX12_readPlain 32 = .ok (.iaload, 1) := by decide +kernel
theorem dX12_readPlain_33 : decode cX12_readPlain 33 = .ok (.istore_n 3, 1) := by decide +kernel
theorem dX12_readPlain_34 : decode cX12_readPlain 34 = .ok (.iload_n 3, 1) := by decide +kernel
theorem dX12_readPlain_35 : decode cX12_readPlain 35 = .ok (.bipush 40, 2) := by decide +kernel
theorem dX12_readPlain_37 : decode cX12_readPlain 37 = .ok (.invokestatic 215, 3) := by decide +kernel
theorem dX12_readPlain_40 : decode cX12_readPlain 40 = .ok (.if_icmp .ne 50, 3) := by decide +kernel
theorem dX12_readPlain_43 : decode cX12_readPlain 43 = .ok (.iload_n 1, 1) := by decide +kernel
theorem dX12_readPlain_44 : decode cX12_readPlain 44 = .ok (.bipush 8, 2) := by decide +kernel
theorem dX12_readPlain_46 : decode cX12_readPlain 46 = .ok (.if_icmp .ne 7, 3) := by decide +kernel
theorem dX12_readPlain_49 : decode cX12_readPlain 49 = .ok (.aload_n 0, 1) := by decide +kernel
theorem dX12_readPlain_50 : decode cX12_readPlain 50 = .ok (.invokevirtual 180, 3) := by decide +kernel
theorem dX12_readPlain_53 : decode cX12_readPlain 53 = .ok (.aload_n 0, 1) := by decide +kernel
theorem dX12_readPlain_54 : decode cX12_readPlain 54 = .ok (.invokevirtual 171, 3) := by decide +kernel
theorem dX12_readPlain_57 : decode cX12_readPlain 57 = .ok (.ifCond .ne 4, 3) := by decide +kernel
theorem dX12_readPlain_60 : decode cX12_readPlain 60 = .ok (.return_, 1) := by decide +kernel
theorem dX12_readPlain_61 : decode cX12_readPlain 61 = .ok (.aload_n 0, 1) := by decide +kernel
theorem dX12_readPlain_62 : decode cX12_readPlain 62 = .ok (.dup, 1) := by decide +kernel
theorem dX12_readPlain_63 : decode cX12_readPlain 63 = .ok (.getfield 174, 3) := by decide +kernel
theorem dX12_readPlain_66 : decode cX12_readPlain 66 = .ok (.iconst 1, 1) := by decide +kernel
theorem dX12_readPlain_67 : decode cX12_readPlain 67 = .ok (.iadd, 1) := by decide +kernel
theorem dX12_readPlain_68 : decode cX12_readPlain 68 = .ok (.putfield 174, 3) := by decide +kernel
theorem dX12_readPlain_71 : decode cX12_readPlain 71 = .ok (.aload_n 0, 1) := by decide +kernel
theorem dX12_readPlain_72 : decode cX12_readPlain 72 = .ok (.iload_n 1, 1) := by decide +kernel
theorem dX12_readPlain_73 : decode cX12_readPlain 73 = .ok (.iconst 1, 1) := by decide +kernel
theorem dX12_readPlain_74 : decode cX12_readPlain 74 = .ok (.iadd, 1) := by decide +kernel
theorem dX12_readPlain_75 : decode cX12_readPlain 75 = .ok (.invokevirtual 192, 3) := by decide +kernel
theorem dX12_readPlain_78 : decode cX12_readPlain 78 = .ok (.aload_n 0, 1) := by decide +kernel
theorem dX12_readPlain_79 : decode cX12_readPlain 79 = .ok (.bipush 41, 2) := by decide +kernel
theorem dX12_readPlain_81 : decode cX12_readPlain 81 = .ok (.invokestatic 215, 3) := by decide +kernel
theorem dX12_readPlain_84 : decode cX12_readPlain 84 = .ok (.invokevirtual 189, 3) := by decide +kernel
theorem dX12_readPlain_87 : decode cX12_readPlain 87 = .ok (.goto 46, 3) := by decide +kernel
theorem dX12_readPlain_90 : decode cX12_readPlain 90 = .ok (.aload_n 0, 1) := by decide +kernel
theorem dX12_readPlain_91 : decode cX12_readPlain 91 = .ok (.iload_n 1, 1) := by decide +kernel
theorem dX12_readPlain_92 : decode cX12_readPlain 92 = .ok (.invokevirtual 186, 3) := by decide +kernel
theorem dX12_readPlain_95 : decode cX12_readPlain 95 = .ok (.aload_n 0, 1) := by decide +kernel
theorem dX12_readPlain_96 : decode cX12_readPlain 96 = .ok (.bipush 60, 2) := by decide +kernel
theorem dX12_readPlain_98 : decode cX12_readPlain 98 = .ok (.invokestatic 215, 3) := by decide +kernel
theorem dX12_readPlain_101 : decode cX12_readPlain 101 = .ok (.invokevirtual 177, 3) := by decide +kernel
theorem dX12_readPlain_104 : decode cX12_readPlain 104 = .ok (.ifCond .ne 24, 3) := by decide +kernel
theorem dX12_readPlain_107 : decode cX12_readPlain 107 = .ok (.aload_n 0, 1) := by decide +kernel
theorem dX12_readPlain_108 : decode cX12_readPlain 108 = .ok (.bipush 62, 2) := by decide +kernel
theorem dX12_readPlain_110 : decode cX12_readPlain 110 = .ok (.invokestatic 215, 3) := by decide +kernel
theorem dX12_readPlain_113 : decode cX12_readPlain 113 = .ok (.invokevirtual 177, 3) := by decide +kernel
theorem dX12_readPlain_116 : decode cX12_readPlain 116 = .ok (.ifCond .ne 12, 3) := by decide +kernel
theorem dX12_readPlain_119 : decode cX12_readPlain 119 = .ok (.aload_n 0, 1) := by decide +kernel
theorem dX12_readPlain_120 : decode cX12_readPlain 120 = .ok (.bipush 61, 2) := by decide +kernel
theorem dX12_readPlain_122 : decode cX12_readPlain 122 = .ok (.invokestatic 215, 3) := by decide +kernel
theorem dX12_readPlain_125 : decode cX12_readPlain 125 = .ok (.invokevirtual 189, 3) := by decide +kernel
theorem dX12_readPlain_128 : decode cX12_readPlain 128 = .ok (.aload_n 0, 1) := by decide +kernel
theorem dX12_readPlain_129 : decode cX12_readPlain 129 = .ok (.iload_n 1, 1) := by decide +kernel
theorem dX12_readPlain_130 : decode cX12_readPlain 130 = .ok (.invokevirtual 186, 3) := by decide +kernel
theorem dX12_readPlain_133 : decode cX12_readPlain 133 = .ok (.return_, 1) := by decide +kernel
theorem dX12_readSum_0 : decode cX12_readSum 0 = .ok (.aload_n 0, 1) := by decide +kernel
theorem dX12_readSum_1 : decode cX12_readSum 1 = .ok (.iload_n 1, 1) := by decide +kernel
theorem dX12_readSum_2 : decode cX12_readSum 2 = .ok (.invokevirtual 219, 3) := by decide +kernel
theorem dX12_readSum_5 : decode cX12_readSum 5 = .ok (.aload_n 0, 1) := by decide +kernel
theorem dX12_readSum_6 : decode cX12_readSum 6 = .ok (.bipush 43, 2) := by decide +kernel
theorem dX12_readSum_8 : decode cX12_readSum 8 = .ok (.invokestatic 215, 3) := by decide +kernel
theorem dX12_readSum_11 : decode cX12_readSum 11 = .ok (.invokevirtual 177, 3) := by decide +kernel
theorem dX12_readSum_14 : decode cX12_readSum 14 = .ok (.ifCond .ne 15, 3) := by decide +kernel
theorem dX12_readSum_17 : decode cX12_readSum 17 = .ok (.aload_n 0, 1) := by decide +kernel
theorem dX12_readSum_18 : decode cX12_readSum 18 = .ok (.bipush 45, 2) := by decide +kernel
theorem dX12_readSum_20 : decode cX12_readSum 20 = .ok (.invokestatic 215, 3) := by decide +kernel
theorem dX12_readSum_23 : decode cX12_readSum 23 = .ok (.invokevirtual 177, 3) := by decide +kernel
theorem dX12_readSum_26 : decode cX12_readSum 26 = .ok (.ifCond .eq 11, 3) := by decide +kernel
theorem dX12_readSum_29 : decode cX12_readSum 29 = .ok (.aload_n 0, 1) := by decide +kernel
theorem dX12_readSum_30 : decode cX12_readSum 30 = .ok (.iload_n 1, 1) := by decide +kernel
theorem dX12_readSum_31 : decode cX12_readSum 31 = .ok (.invokevirtual 219, 3) := by decide +kernel
theorem dX12_readSum_34 : decode cX12_readSum 34 = .ok (.goto (-29), 3) := by decide +kernel
theorem dX12_readSum_37 : decode cX12_readSum 37 = .ok (.return_, 1) := by decide +kernel
theorem dX12_readTerm_0 : decode cX12_readTerm 0 = .ok (.aload_n 0, 1) := by decide +kernel
theorem dX12_readTerm_1 : decode cX12_readTerm 1 = .ok (.iload_n 1, 1) := by decide +kernel
theorem dX12_readTerm_2 : decode cX12_readTerm 2 = .ok (.invokevirtual 222, 3) := by decide +kernel
theorem dX12_readTerm_5 : decode cX12_readTerm 5 = .ok (.aload_n 0, 1) := by decide +kernel
theorem dX12_readTerm_6 : decode cX12_readTerm 6 = .ok (.bipush 42, 2) := by decide +kernel
theorem dX12_readTerm_8 : decode cX12_readTerm 8 = .ok (.invokestatic 215, 3) := by decide +kernel
theorem dX12_readTerm_11 : decode cX12_readTerm 11 = .ok (.invokevirtual 177, 3) := by decide +kernel
theorem dX12_readTerm_14 : decode cX12_readTerm 14 = .ok (.ifCond .ne 27, 3) := by decide +kernel
theorem dX12_readTerm_17 : decode cX12_readTerm 17 = .ok (.aload_n 0, 1) := by decide +kernel
theorem dX12_readTerm_18 : decode cX12_readTerm 18 = .ok (.bipush 47, 2) := by decide +kernel
theorem dX12_readTerm_20 : decode cX12_readTerm 20 = .ok (.invokestatic 215, 3) := by decide +kernel
theorem dX12_readTerm_23 : decode cX12_readTerm 23 = .ok (.invokevirtual 177, 3) := by decide +kernel
theorem dX12_readTerm_26 : decode cX12_readTerm 26 = .ok (.ifCond .ne 15, 3) := by decide +kernel
theorem dX12_readTerm_29 : decode cX12_readTerm 29 = .ok (.aload_n 0, 1) := by decide +kernel
theorem dX12_readTerm_30 : decode cX12_readTerm 30 = .ok (.bipush 37, 2) := by decide +kernel
theorem dX12_readTerm_32 : decode cX12_readTerm 32 = .ok (.invokestatic 215, 3) := by decide +kernel
theorem dX12_readTerm_35 : decode cX12_readTerm 35 = .ok (.invokevirtual 177, 3) := by decide +kernel
theorem dX12_readTerm_38 : decode cX12_readTerm 38 = .ok (.ifCond .eq 11, 3) := by decide +kernel
theorem dX12_readTerm_41 : decode cX12_readTerm 41 = .ok (.aload_n 0, 1) := by decide +kernel
theorem dX12_readTerm_42 : decode cX12_readTerm 42 = .ok (.iload_n 1, 1) := by decide +kernel
theorem dX12_readTerm_43 : decode cX12_readTerm 43 = .ok (.invokevirtual 222, 3) := by decide +kernel
theorem dX12_readTerm_46 : decode cX12_readTerm 46 = .ok (.goto (-41), 3) := by decide +kernel
theorem dX12_readTerm_49 : decode cX12_readTerm 49 = .ok (.return_, 1) := by decide +kernel
theorem dX12_readPart_0 : decode cX12_readPart 0 = .ok (.aload_n 0, 1) := by decide +kernel
theorem dX12_readPart_1 : decode cX12_readPart 1 = .ok (.invokevirtual 171, 3) := by decide +kernel
theorem dX12_readPart_4 : decode cX12_readPart 4 = .ok (.ifCond .ne 4, 3) := by decide +kernel
theorem dX12_readPart_7 : decode cX12_readPart 7 = .ok (.return_, 1) := by decide +kernel
theorem dX12_readPart_8 : decode cX12_readPart 8 = .ok (.aload_n 0, 1) := by decide +kernel
theorem dX12_readPart_9 : decode cX12_readPart 9 = .ok (.getfield 50, 3) := by decide +kernel
theorem dX12_readPart_12 : decode cX12_readPart 12 = .ok (.aload_n 0, 1) := by decide +kernel
theorem dX12_readPart_13 : decode cX12_readPart 13 = .ok (.getfield 174, 3) := by decide +kernel
theorem dX12_readPart_16 : decode cX12_readPart 16 = .ok (.iaload, 1) := by decide +kernel
theorem dX12_readPart_17 : decode cX12_readPart 17 = .ok (.istore_n 2, 1) := by decide +kernel
theorem dX12_readPart_18 : decode cX12_readPart 18 = .ok (.iload_n 2, 1) := by decide +kernel
theorem dX12_readPart_19 : decode cX12_readPart 19 = .ok (.bipush 91, 2) := by decide +kernel
theorem dX12_readPart_21 : decode cX12_readPart 21 = .ok (.invokestatic 215, 3) := by decide +kernel
theorem dX12_readPart_24 : decode cX12_readPart 24 = .ok (.if_icmp .ne 50, 3) := by decide +kernel
theorem dX12_readPart_27 : decode cX12_readPart 27 = .ok (.iload_n 1, 1) := by decide +kernel
theorem dX12_readPart_28 : decode cX12_readPart 28 = .ok (.bipush 8, 2) := by decide +kernel
theorem dX12_readPart_30 : decode cX12_readPart 30 = .ok (.if_icmp .ne 7, 3) := by decide +kernel
theorem dX12_readPart_33 : decode cX12_readPart 33 = .ok (.aload_n 0, 1) := by decide +kernel
theorem dX12_readPart_34 : decode cX12_readPart 34 = .ok (.invokevirtual 180, 3) := by decide +kernel
theorem dX12_readPart_37 : decode cX12_readPart 37 = .ok (.aload_n 0, 1) := by decide +kernel
theorem dX12_readPart_38 : decode cX12_readPart 38 = .ok (.invokevirtual 171, 3) := by decide +kernel
theorem dX12_readPart_41 : decode cX12_readPart 41 = .ok (.ifCond .ne 4, 3) := by decide +kernel
theorem dX12_readPart_44 : decode cX12_readPart 44 = .ok (.return_, 1) := by decide +kernel
theorem dX12_readPart_45 : decode cX12_readPart 45 = .ok (.aload_n 0, 1) := by decide +kernel
theorem dX12_readPart_46 : decode cX12_readPart 46 = .ok (.dup, 1) := by decide +kernel
theorem dX12_readPart_47 : decode cX12_readPart 47 = .ok (.getfield 174, 3) := by decide +kernel
theorem dX12_readPart_50 : decode cX12_readPart 50 = .ok (.iconst 1, 1) := by decide +kernel
theorem dX12_readPart_51 : decode cX12_readPart 51 = .ok (.iadd, 1) := by decide +kernel
theorem dX12_readPart_52 : decode cX12_readPart 52 = .ok (.putfield 174, 3) := by decide +kernel
theorem dX12_readPart_55 : decode cX12_readPart 55 = .ok (.aload_n 0, 1) := by decide +kernel
theorem dX12_readPart_56 : decode cX12_readPart 56 = .ok (.iload_n 1, 1) := by decide +kernel
theorem dX12_readPart_57 : decode cX12_readPart 57 = .ok (.iconst 1, 1) := by decide +kernel
theorem dX12_readPart_58 : decode cX12_readPart 58 = .ok (.iadd, 1) := by decide +kernel
theorem dX12_readPart_59 : decode cX12_readPart 59 = .ok (.invokevirtual 186, 3) := by decide +kernel
theorem dX12_readPart_62 : decode cX12_readPart 62 = .ok (.aload_n 0, 1) := by decide +kernel
theorem dX12_readPart_63 : decode cX12_readPart 63 = .ok (.bipush 93, 2) := by decide +kernel
theorem dX12_readPart_65 : decode cX12_readPart 65 = .ok (.invokestatic 215, 3) := by decide +kernel
theorem dX12_readPart_68 : decode cX12_readPart 68 = .ok (.invokevirtual 189, 3) := by decide +kernel
theorem dX12_readPart_71 : decode cX12_readPart 71 = .ok (.goto 71, 3) := by decide +kernel
theorem dX12_readPart_74 : decode cX12_readPart 74 = .ok (.iload_n 2, 1) := by decide +kernel
theorem dX12_readPart_75 : decode cX12_readPart 75 = .ok (.bipush 50, 2) := by decide +kernel
theorem dX12_readPart_77 : decode cX12_readPart 77 = .ok (.if_icmp .ne 18, 3) := by decide +kernel
theorem dX12_readPart_80 : decode cX12_readPart 80 = .ok (.aload_n 0, 1) := by decide +kernel
theorem dX12_readPart_81 : decode cX12_readPart 81 = .ok (.getfield 53, 3) := by decide +kernel
theorem dX12_readPart_84 : decode cX12_readPart 84 = .ok (.aload_n 0, 1) := by decide +kernel
theorem dX12_readPart_85 : decode cX12_readPart 85 = .ok (.getfield 174, 3) := by decide +kernel
theorem dX12_readPart_88 : decode cX12_readPart 88 = .ok (.iaload, 1) := by decide +kernel
theorem dX12_readPart_89 : decode cX12_readPart 89 = .ok (.sipush 1000, 3) := by decide +kernel
theorem dX12_readPart_92 : decode cX12_readPart 92 = .ok (.if_icmp .le 19, 3) := by decide +kernel
theorem dX12_readPart_95 : decode cX12_readPart 95 = .ok (.iload_n 2, 1) := by decide +kernel
theorem dX12_readPart_96 : decode cX12_readPart 96 = .ok (.aload_n 0, 1) := by decide +kernel
theorem dX12_readPart_97 : decode cX12_readPart 97 = .ok (.getfield 225, 3) := by decide +kernel
theorem dX12_readPart_100 : decode cX12_readPart 100 = .ok (.if_icmp .lt 38, 3) := by decide +kernel
theorem dX12_readPart_103 : decode cX12_readPart 103 = .ok (.iload_n 2, 1) := by decide +kernel
theorem dX12_readPart_104 : decode cX12_readPart 104 = .ok (.aload_n 0, 1) := by decide +kernel
theorem dX12_readPart_105 : decode cX12_readPart 105 = .ok (.getfield 228, 3) := by decide +kernel
theorem dX12_readPart_108 : decode cX12_readPart 108 = .ok (.if_icmp .gt 30, 3) := by decide +kernel
theorem dX12_readPart_111 : decode cX12_readPart 111 = .ok (.aload_n 0, 1) := by decide +kernel
theorem dX12_readPart_112 : decode cX12_readPart 112 = .ok (.invokevirtual 231, 3) := by decide +kernel
theorem dX12_readPart_115 : decode cX12_readPart 115 = .ok (.aload_n 0, 1) := by decide +kernel
theorem dX12_readPart_116 : decode cX12_readPart 116 = .ok (.getfield 199, 3) := by decide +kernel
theorem dX12_readPart_119 : decode cX12_readPart 119 = .ok (.ifCond .eq 23, 3) := by decide +kernel
theorem dX12_readPart_122 : decode cX12_readPart 122 = .ok (.iload_n 2, 1) := by decide +kernel
theorem dX12_readPart_123 : decode cX12_readPart 123 = .ok (.invokestatic 234, 3) := by decide +kernel
theorem dX12_readPart_126 : decode cX12_readPart 126 = .ok (.ifCond .eq 16, 3) := by decide +kernel
theorem dX12_readPart_129 : decode cX12_readPart 129 = .ok (.aload_n 0, 1) := by decide +kernel
theorem dX12_readPart_130 : decode cX12_readPart 130 = .ok (.iconst 0, 1) := by decide +kernel
theorem dX12_readPart_131 : decode cX12_readPart 131 = .ok (.iconst 5, 1) := by decide +kernel
theorem dX12_readPart_132 : decode cX12_readPart 132 = .ok (.invokevirtual 195, 3) := by decide +kernel
theorem dX12_readPart_135 : decode cX12_readPart 135 = .ok (.goto 7, 3) := by decide +kernel
theorem dX12_readPart_138 : decode cX12_readPart 138 = .ok (.aload_n 0, 1) := by decide +kernel
theorem dX12_readPart_139 : decode cX12_readPart 139 = .ok (.invokevirtual 180, 3) := by decide +kernel
theorem dX12_readPart_142 : decode cX12_readPart 142 = .ok (.return_, 1) := by decide +kernel
theorem dX12_reads_0 : decode cX12_reads 0 = .ok (.aload_n 0, 1) := by decide +kernel
theorem dX12_reads_1 : decode cX12_reads 1 = .ok (.aload_n 0, 1) := by decide +kernel
theorem dX12_reads_2 : decode cX12_reads 2 = .ok (.getfield 115, 3) := by decide +kernel
theorem dX12_reads_5 : decode cX12_reads 5 = .ok (.invokevirtual 237, 3) := by decide +kernel
theorem dX12_reads_8 : decode cX12_reads 8 = .ok (.aload_n 0, 1) := by decide +kernel
theorem dX12_reads_9 : decode cX12_reads 9 = .ok (.iconst 0, 1) := by decide +kernel
theorem dX12_reads_10 : decode cX12_reads 10 = .ok (.putfield 115, 3) := by decide +kernel
theorem dX12_reads_13 : decode cX12_reads 13 = .ok (.aload_n 0, 1) := by decide +kernel
theorem dX12_reads_14 : decode cX12_reads 14 = .ok (.iconst 0, 1) := by decide +kernel
theorem dX12_reads_15 : decode cX12_reads 15 = .ok (.putfield 174, 3) := by decide +kernel
theorem dX12_reads_18 : decode cX12_reads 18 = .ok (.aload_n 0, 1) := by decide +kernel
theorem dX12_reads_19 : decode cX12_reads 19 = .ok (.iconst 0, 1) := by decide +kernel
theorem dX12_reads_20 : decode cX12_reads 20 = .ok (.putfield 183, 3) := by decide +kernel
theorem dX12_reads_23 : decode cX12_reads 23 = .ok (.aload_n 0, 1) := by decide +kernel
theorem dX12_reads_24 : decode cX12_reads 24 = .ok (.iconst (-1), 1) := by decide +kernel
theorem dX12_reads_25 : decode cX12_reads 25 = .ok (.putfield 168, 3) := by decide +kernel
theorem dX12_reads_28 : decode cX12_reads 28 = .ok (.aload_n 0, 1) := by decide +kernel
theorem dX12_reads_29 : decode cX12_reads 29 = .ok (.invokevirtual 240, 3) := by decide +kernel
theorem dX12_reads_32 : decode cX12_reads 32 = .ok (.iconst 1, 1) := by decide +kernel
theorem dX12_reads_33 : decode cX12_reads 33 = .ok (.istore_n 1, 1) := by decide +kernel
theorem dX12_reads_34 : decode cX12_reads 34 = .ok (.aload_n 0, 1) := by decide +kernel
theorem dX12_reads_35 : decode cX12_reads 35 = .ok (.bipush 59, 2) := by decide +kernel
theorem dX12_reads_37 : decode cX12_reads 37 = .ok (.invokestatic 215, 3) := by decide +kernel
theorem dX12_reads_40 : decode cX12_reads 40 = .ok (.invokevirtual 177, 3) := by decide +kernel
theorem dX12_reads_43 : decode cX12_reads 43 = .ok (.ifCond .eq 30, 3) := by decide +kernel
theorem dX12_reads_46 : decode cX12_reads 46 = .ok (.iload_n 1, 1) := by decide +kernel
theorem dX12_reads_47 : decode cX12_reads 47 = .ok (.bipush 12, 2) := by decide +kernel
theorem dX12_reads_49 : decode cX12_reads 49 = .ok (.if_icmp .ne 7, 3) := by decide +kernel
theorem dX12_reads_52 : decode cX12_reads 52 = .ok (.aload_n 0, 1) := by decide +kernel
theorem dX12_reads_53 : decode cX12_reads 53 = .ok (.invokevirtual 180, 3) := by decide +kernel
theorem dX12_reads_56 : decode cX12_reads 56 = .ok (.aload_n 0, 1) := by decide +kernel
theorem dX12_reads_57 : decode cX12_reads 57 = .ok (.invokevirtual 171, 3) := by decide +kernel
theorem dX12_reads_60 : decode cX12_reads 60 = .ok (.ifCond .eq 7, 3) := by decide +kernel
theorem dX12_reads_63 : decode cX12_reads 63 = .ok (.aload_n 0, 1) := by decide +kernel
theorem dX12_reads_64 : decode cX12_reads 64 = .ok (.invokevirtual 240, 3) := by decide +kernel
theorem dX12_reads_67 : decode cX12_reads 67 = .ok (.iinc 1 1, 3) := by decide +kernel
theorem dX12_reads_70 : decode cX12_reads 70 = .ok (.goto (-36), 3) := by decide +kernel
theorem dX12_reads_73 : decode cX12_reads 73 = .ok (.aload_n 0, 1) := by decide +kernel
theorem dX12_reads_74 : decode cX12_reads 74 = .ok (.invokevirtual 171, 3) := by decide +kernel
theorem dX12_reads_77 : decode cX12_reads 77 = .ok (.ifCond .eq 18, 3) := by decide +kernel
theorem dX12_reads_80 : decode cX12_reads 80 = .ok (.aload_n 0, 1) := by decide +kernel
theorem dX12_reads_81 : decode cX12_reads 81 = .ok (.getfield 174, 3) := by decide +kernel
theorem dX12_reads_84 : decode cX12_reads 84 = .ok (.aload_n 0, 1) := by decide +kernel
theorem dX12_reads_85 : decode cX12_reads 85 = .ok (.getfield 154, 3) := by decide +kernel
theorem dX12_reads_88 : decode cX12_reads 88 = .ok (.if_icmp .ge 7, 3) := by decide +kernel
theorem dX12_reads_91 : decode cX12_reads 91 = .ok (.aload_n 0, 1) := by decide +kernel
theorem dX12_reads_92 : decode cX12_reads 92 = .ok (.invokevirtual 180, 3) := by decide +kernel
theorem dX12_reads_95 : decode cX12_reads 95 = .ok (.aload_n 0, 1) := by decide +kernel
theorem dX12_reads_96 : decode cX12_reads 96 = .ok (.aload_n 0, 1) := by decide +kernel
theorem dX12_reads_97 : decode cX12_reads 97 = .ok (.getfield 168, 3) := by decide +kernel
theorem dX12_reads_100 : decode cX12_reads 100 = .ok (.putfield 47, 3) := by decide +kernel
theorem dX12_reads_103 : decode cX12_reads 103 = .ok (.aload_n 0, 1) := by decide +kernel
theorem dX12_reads_104 : decode cX12_reads 104 = .ok (.invokevirtual 171, 3) := by decide +kernel
theorem dX12_reads_107 : decode cX12_reads 107 = .ok (.ireturn, 1) := by decide +kernel
theorem dX12_readsAs_0 : decode cX12_readsAs 0 = .ok (.aload_n 0, 1) := by decide +kernel
theorem dX12_readsAs_1 : decode cX12_readsAs 1 = .ok (.iload_n 1, 1) := by decide +kernel
theorem dX12_readsAs_2 : decode cX12_readsAs 2 = .ok (.putfield 199, 3) := by decide +kernel
theorem dX12_readsAs_5 : decode cX12_readsAs 5 = .ok (.aload_n 0, 1) := by decide +kernel
theorem dX12_readsAs_6 : decode cX12_readsAs 6 = .ok (.iload_n 1, 1) := by decide +kernel
theorem dX12_readsAs_7 : decode cX12_readsAs 7 = .ok (.ifCond .eq 8, 3) := by decide +kernel
theorem dX12_readsAs_10 : decode cX12_readsAs 10 = .ok (.bipush 14, 2) := by decide +kernel
theorem dX12_readsAs_12 : decode cX12_readsAs 12 = .ok (.goto 5, 3) := by decide +kernel
theorem dX12_readsAs_15 : decode cX12_readsAs 15 = .ok (.bipush 8, 2) := by decide +kernel
theorem dX12_readsAs_17 : decode cX12_readsAs 17 = .ok (.putfield 225, 3) := by decide +kernel
theorem dX12_readsAs_20 : decode cX12_readsAs 20 = .ok (.aload_n 0, 1) := by decide +kernel
theorem dX12_readsAs_21 : decode cX12_readsAs 21 = .ok (.iload_n 1, 1) := by decide +kernel
theorem dX12_readsAs_22 : decode cX12_readsAs 22 = .ok (.ifCond .eq 8, 3) := by decide +kernel
theorem dX12_readsAs_25 : decode cX12_readsAs 25 = .ok (.bipush 19, 2) := by decide +kernel
theorem dX12_readsAs_27 : decode cX12_readsAs 27 = .ok (.goto 5, 3) := by decide +kernel
theorem dX12_readsAs_30 : decode cX12_readsAs 30 = .ok (.bipush 15, 2) := by decide +kernel
theorem dX12_readsAs_32 : decode cX12_readsAs 32 = .ok (.putfield 228, 3) := by decide +kernel
theorem dX12_readsAs_35 : decode cX12_readsAs 35 = .ok (.aload_n 0, 1) := by decide +kernel
theorem dX12_readsAs_36 : decode cX12_readsAs 36 = .ok (.invokevirtual 243, 3) := by decide +kernel
theorem dX12_readsAs_39 : decode cX12_readsAs 39 = .ok (.ireturn, 1) := by decide +kernel
theorem dX12_lays_0 : decode cX12_lays 0 = .ok (.aload_n 0, 1) := by decide +kernel
theorem dX12_lays_1 : decode cX12_lays 1 = .ok (.getfield 24, 3) := by decide +kernel
theorem dX12_lays_4 : decode cX12_lays 4 = .ok (.bipush 118, 2) := by decide +kernel
theorem dX12_lays_6 : decode cX12_lays 6 = .ok (.iload_n 1, 1) := by decide +kernel
theorem dX12_lays_7 : decode cX12_lays 7 = .ok (.iadd, 1) := by decide +kernel
theorem dX12_lays_8 : decode cX12_lays 8 = .ok (.aload_n 0, 1) := by decide +kernel
theorem dX12_lays_9 : decode cX12_lays 9 = .ok (.getfield 154, 3) := by decide +kernel
theorem dX12_lays_12 : decode cX12_lays 12 = .ok (.iastore, 1) := by decide +kernel
theorem dX12_lays_13 : decode cX12_lays 13 = .ok (.iconst 0, 1) := by decide +kernel
theorem dX12_lays_14 : decode cX12_lays 14 = .ok (.istore_n 2, 1) := by decide +kernel
theorem dX12_lays_15 : decode cX12_lays 15 = .ok (.iload_n 2, 1) := by decide +kernel
theorem dX12_lays_16 : decode cX12_lays 16 = .ok (.aload_n 0, 1) := by decide +kernel
theorem dX12_lays_17 : decode cX12_lays 17 = .ok (.getfield 154, 3) := by decide +kernel
theorem dX12_lays_20 : decode cX12_lays 20 = .ok (.if_icmp .ge 52, 3) := by decide +kernel
theorem dX12_lays_23 : decode cX12_lays 23 = .ok (.aload_n 0, 1) := by decide +kernel
theorem dX12_lays_24 : decode cX12_lays 24 = .ok (.getfield 24, 3) := by decide +kernel
theorem dX12_lays_27 : decode cX12_lays 27 = .ok (.bipush 125, 2) := by decide +kernel
theorem dX12_lays_29 : decode cX12_lays 29 = .ok (.sipush 400, 3) := by decide +kernel
theorem dX12_lays_32 : decode cX12_lays 32 = .ok (.iload_n 1, 1) := by decide +kernel
theorem dX12_lays_33 : decode cX12_lays 33 = .ok (.imul, 1) := by decide +kernel
theorem dX12_lays_34 : decode cX12_lays 34 = .ok (.iadd, 1) := by decide +kernel
theorem dX12_lays_35 : decode cX12_lays 35 = .ok (.iload_n 2, 1) := by decide +kernel
theorem dX12_lays_36 : decode cX12_lays 36 = .ok (.iadd, 1) := by decide +kernel
theorem dX12_lays_37 : decode cX12_lays 37 = .ok (.aload_n 0, 1) := by decide +kernel
theorem dX12_lays_38 : decode cX12_lays 38 = .ok (.getfield 50, 3) := by decide +kernel
theorem dX12_lays_41 : decode cX12_lays 41 = .ok (.iload_n 2, 1) := by decide +kernel
theorem dX12_lays_42 : decode cX12_lays 42 = .ok (.iaload, 1) := by decide +kernel
theorem dX12_lays_43 : decode cX12_lays 43 = .ok (.iastore, 1) := by decide +kernel
theorem dX12_lays_44 : decode cX12_lays 44 = .ok (.aload_n 0, 1) := by decide +kernel
theorem dX12_lays_45 : decode cX12_lays 45 = .ok (.getfield 24, 3) := by decide +kernel
theorem dX12_lays_48 : decode cX12_lays 48 = .ok (.sipush 2925, 3) := by decide +kernel
theorem dX12_lays_51 : decode cX12_lays 51 = .ok (.sipush 400, 3) := by decide +kernel
theorem dX12_lays_54 : decode cX12_lays 54 = .ok (.iload_n 1, 1) := by decide +kernel
theorem dX12_lays_55 : decode cX12_lays 55 = .ok (.imul, 1) := by decide +kernel
theorem dX12_lays_56 : decode cX12_lays 56 = .ok (.iadd, 1) := by decide +kernel
theorem dX12_lays_57 : decode cX12_lays 57 = .ok (.iload_n 2, 1) := by decide +kernel
theorem dX12_lays_58 : decode cX12_lays 58 = .ok (.iadd, 1) := by decide +kernel
theorem dX12_lays_59 : decode cX12_lays 59 = .ok (.aload_n 0, 1) := by decide +kernel
theorem dX12_lays_60 : decode cX12_lays 60 = .ok (.getfield 53, 3) := by decide +kernel
theorem dX12_lays_63 : decode cX12_lays 63 = .ok (.iload_n 2, 1) := by decide +kernel
theorem dX12_lays_64 : decode cX12_lays 64 = .ok (.iaload, 1) := by decide +kernel
theorem dX12_lays_65 : decode cX12_lays 65 = .ok (.iastore, 1) := by decide +kernel
theorem dX12_lays_66 : decode cX12_lays 66 = .ok (.iinc 2 1, 3) := by decide +kernel
theorem dX12_lays_69 : decode cX12_lays 69 = .ok (.goto (-54), 3) := by decide +kernel
theorem dX12_lays_72 : decode cX12_lays 72 = .ok (.return_, 1) := by decide +kernel
theorem dX12_law_0 : decode cX12_law 0 = .ok (.aload_n 0, 1) := by decide +kernel
theorem dX12_law_1 : decode cX12_law 1 = .ok (.getfield 24, 3) := by decide +kernel
theorem dX12_law_4 : decode cX12_law 4 = .ok (.bipush 116, 2) := by decide +kernel
theorem dX12_law_6 : decode cX12_law 6 = .ok (.iaload, 1) := by decide +kernel
theorem dX12_law_7 : decode cX12_law 7 = .ok (.bipush 6, 2) := by decide +kernel
theorem dX12_law_9 : decode cX12_law 9 = .ok (.if_icmp .ne 15, 3) := by decide +kernel
theorem dX12_law_12 : decode cX12_law 12 = .ok (.aload_n 0, 1) := by decide +kernel
theorem dX12_law_13 : decode cX12_law 13 = .ok (.iconst 0, 1) := by decide +kernel
theorem dX12_law_14 : decode cX12_law 14 = .ok (.putfield 115, 3) := by decide +kernel
theorem dX12_law_17 : decode cX12_law 17 = .ok (.aload_n 0, 1) := by decide +kernel
theorem dX12_law_18 : decode cX12_law 18 = .ok (.bipush (-5), 2) := by decide +kernel
theorem dX12_law_20 : decode cX12_law 20 = .ok (.invokevirtual 106, 3) := by decide +kernel
theorem dX12_law_23 : decode cX12_law 23 = .ok (.ireturn, 1) := by decide +kernel
theorem dX12_law_24 : decode cX12_law 24 = .ok (.aload_n 0, 1) := by decide +kernel
theorem dX12_law_25 : decode cX12_law 25 = .ok (.iconst 0, 1) := by decide +kernel
theorem dX12_law_26 : decode cX12_law 26 = .ok (.invokevirtual 246, 3) := by decide +kernel
theorem dX12_law_29 : decode cX12_law 29 = .ok (.ifCond .ne 10, 3) := by decide +kernel
theorem dX12_law_32 : decode cX12_law 32 = .ok (.aload_n 0, 1) := by decide +kernel
theorem dX12_law_33 : decode cX12_law 33 = .ok (.bipush (-6), 2) := by decide +kernel
theorem dX12_law_35 : decode cX12_law 35 = .ok (.invokevirtual 106, 3) := by decide +kernel
theorem dX12_law_38 : decode cX12_law 38 = .ok (.ireturn, 1) := by decide +kernel
theorem dX12_law_39 : decode cX12_law 39 = .ok (.aload_n 0, 1) := by decide +kernel
theorem dX12_law_40 : decode cX12_law 40 = .ok (.aload_n 0, 1) := by decide +kernel
theorem dX12_law_41 : decode cX12_law 41 = .ok (.getfield 24, 3) := by decide +kernel
theorem dX12_law_44 : decode cX12_law 44 = .ok (.bipush 116, 2) := by decide +kernel
theorem dX12_law_46 : decode cX12_law 46 = .ok (.iaload, 1) := by decide +kernel
theorem dX12_law_47 : decode cX12_law 47 = .ok (.invokevirtual 250, 3) := by decide +kernel
theorem dX12_law_50 : decode cX12_law 50 = .ok (.aload_n 0, 1) := by decide +kernel
theorem dX12_law_51 : decode cX12_law 51 = .ok (.getfield 24, 3) := by decide +kernel
theorem dX12_law_54 : decode cX12_law 54 = .ok (.bipush 116, 2) := by decide +kernel
theorem dX12_law_56 : decode cX12_law 56 = .ok (.dup2, 1) := by decide +kernel
theorem dX12_law_57 : decode cX12_law 57 = .ok (.iaload, 1) := by decide +kernel
theorem dX12_law_58 : decode cX12_law 58 = .ok (.iconst 1, 1) := by decide +kernel
theorem dX12_law_59 : decode cX12_law 59 = .ok (.iadd, 1) := by decide +kernel
theorem dX12_law_60 : decode cX12_law 60 = .ok (.iastore, 1) := by decide +kernel
theorem dX12_law_61 : decode cX12_law 61 = .ok (.aload_n 0, 1) := by decide +kernel
theorem dX12_law_62 : decode cX12_law 62 = .ok (.aload_n 0, 1) := by decide +kernel
theorem dX12_law_63 : decode cX12_law 63 = .ok (.getfield 24, 3) := by decide +kernel
theorem dX12_law_66 : decode cX12_law 66 = .ok (.bipush 116, 2) := by decide +kernel
theorem dX12_law_68 : decode cX12_law 68 = .ok (.iaload, 1) := by decide +kernel
theorem dX12_law_69 : decode cX12_law 69 = .ok (.iconst 1, 1) := by decide +kernel
theorem dX12_law_70 : decode cX12_law 70 = .ok (.isub, 1) := by decide +kernel
theorem dX12_law_71 : decode cX12_law 71 = .ok (.invokevirtual 14, 3) := by decide +kernel
theorem dX12_law_74 : decode cX12_law 74 = .ok (.ireturn, 1) := by decide +kernel
theorem dX12_fault_0 : decode cX12_fault 0 = .ok (.aload_n 0, 1) := by decide +kernel
theorem dX12_fault_1 : decode cX12_fault 1 = .ok (.getfield 47, 3) := by decide +kernel
theorem dX12_fault_4 : decode cX12_fault 4 = .ok (.ireturn, 1) := by decide +kernel
theorem dX12_force_0 : decode cX12_force 0 = .ok (.iload_n 1, 1) := by decide +kernel
theorem dX12_force_1 : decode cX12_force 1 = .ok (.iconst (-1), 1) := by decide +kernel
theorem dX12_force_2 : decode cX12_force 2 = .ok (.aload_n 0, 1) := by decide +kernel
theorem dX12_force_3 : decode cX12_force 3 = .ok (.getfield 24, 3) := by decide +kernel
theorem dX12_force_6 : decode cX12_force 6 = .ok (.bipush 116, 2) := by decide +kernel
theorem dX12_force_8 : decode cX12_force 8 = .ok (.iaload, 1) := by decide +kernel
theorem dX12_force_9 : decode cX12_force 9 = .ok (.iconst 1, 1) := by decide +kernel
theorem dX12_force_10 : decode cX12_force 10 = .ok (.isub, 1) := by decide +kernel
theorem dX12_force_11 : decode cX12_force 11 = .ok (.invokestatic 102, 3) := by decide +kernel
theorem dX12_force_14 : decode cX12_force 14 = .ok (.ifCond .ne 10, 3) := by decide +kernel
theorem dX12_force_17 : decode cX12_force 17 = .ok (.aload_n 0, 1) := by decide +kernel
theorem dX12_force_18 : decode cX12_force 18 = .ok (.bipush (-2), 2) := by decide +kernel
theorem dX12_force_20 : decode cX12_force 20 = .ok (.invokevirtual 106, 3) := by decide +kernel
theorem dX12_force_23 : decode cX12_force 23 = .ok (.ireturn, 1) := by decide +kernel
theorem dX12_force_24 : decode cX12_force 24 = .ok (.aload_n 0, 1) := by decide +kernel
theorem dX12_force_25 : decode cX12_force 25 = .ok (.getfield 24, 3) := by decide +kernel
theorem dX12_force_28 : decode cX12_force 28 = .ok (.bipush 117, 2) := by decide +kernel
theorem dX12_force_30 : decode cX12_force 30 = .ok (.iaload, 1) := by decide +kernel
theorem dX12_force_31 : decode cX12_force 31 = .ok (.istore_n 2, 1) := by decide +kernel
theorem dX12_force_32 : decode cX12_force 32 = .ok (.aload_n 0, 1) := by decide +kernel
theorem dX12_force_33 : decode cX12_force 33 = .ok (.getfield 24, 3) := by decide +kernel
theorem dX12_force_36 : decode cX12_force 36 = .ok (.bipush 117, 2) := by decide +kernel
theorem dX12_force_38 : decode cX12_force 38 = .ok (.iload_n 1, 1) := by decide +kernel
theorem dX12_force_39 : decode cX12_force 39 = .ok (.iastore, 1) := by decide +kernel
theorem dX12_force_40 : decode cX12_force 40 = .ok (.aload_n 0, 1) := by decide +kernel
theorem dX12_force_41 : decode cX12_force 41 = .ok (.iload_n 2, 1) := by decide +kernel
theorem dX12_force_42 : decode cX12_force 42 = .ok (.invokevirtual 14, 3) := by decide +kernel
theorem dX12_force_45 : decode cX12_force 45 = .ok (.ireturn, 1) := by decide +kernel
theorem dX12_codeAt_0 : decode cX12_codeAt 0 = .ok (.iload_n 1, 1) := by decide +kernel
theorem dX12_codeAt_1 : decode cX12_codeAt 1 = .ok (.aload_n 0, 1) := by decide +kernel
theorem dX12_codeAt_2 : decode cX12_codeAt 2 = .ok (.getfield 253, 3) := by decide +kernel
theorem dX12_codeAt_5 : decode cX12_codeAt 5 = .ok (.if_icmp .ge 15, 3) := by decide +kernel
theorem dX12_codeAt_8 : decode cX12_codeAt 8 = .ok (.aload_n 0, 1) := by decide +kernel
theorem dX12_codeAt_9 : decode cX12_codeAt 9 = .ok (.getfield 24, 3) := by decide +kernel
theorem dX12_codeAt_12 : decode cX12_codeAt 12 = .ok (.bipush 125, 2) := by decide +kernel
theorem dX12_codeAt_14 : decode cX12_codeAt 14 = .ok (.iload_n 1, 1) := by decide +kernel
theorem dX12_codeAt_15 : decode cX12_codeAt 15 = .ok (.iadd, 1) := by decide +kernel
theorem dX12_codeAt_16 : decode cX12_codeAt 16 = .ok (.iaload, 1) := by decide +kernel
theorem dX12_codeAt_17 : decode cX12_codeAt 17 = .ok (.goto 4, 3) := by decide +kernel
theorem dX12_codeAt_20 : decode cX12_codeAt 20 = .ok (.iconst 0, 1) := by decide +kernel
theorem dX12_codeAt_21 : decode cX12_codeAt 21 = .ok (.ireturn, 1) := by decide +kernel
theorem dX12_passes0_0 : decode cX12_passes0 0 = .ok (.aload_n 0, 1) := by decide +kernel
theorem dX12_passes0_1 : decode cX12_passes0 1 = .ok (.aload_n 0, 1) := by decide +kernel
theorem dX12_passes0_2 : decode cX12_passes0 2 = .ok (.getfield 256, 3) := by decide +kernel
theorem dX12_passes0_5 : decode cX12_passes0 5 = .ok (.invokevirtual 259, 3) := by decide +kernel
theorem dX12_passes0_8 : decode cX12_passes0 8 = .ok (.iload_n 1, 1) := by decide +kernel
theorem dX12_passes0_9 : decode cX12_passes0 9 = .ok (.if_icmp .ne 7, 3) := by decide +kernel
theorem dX12_passes0_12 : decode cX12_passes0 12 = .ok (.iconst 1, 1) := by decide +kernel
theorem dX12_passes0_13 : decode cX12_passes0 13 = .ok (.goto 4, 3) := by decide +kernel
theorem dX12_passes0_16 : decode cX12_passes0 16 = .ok (.iconst 0, 1) := by decide +kernel
theorem dX12_passes0_17 : decode cX12_passes0 17 = .ok (.istore_n 2, 1) := by decide +kernel
theorem dX12_passes0_18 : decode cX12_passes0 18 = .ok (.iload_n 2, 1) := by decide +kernel
theorem dX12_passes0_19 : decode cX12_passes0 19 = .ok (.ifCond .eq 13, 3) := by decide +kernel
theorem dX12_passes0_22 : decode cX12_passes0 22 = .ok (.aload_n 0, 1) := by decide +kernel
theorem dX12_passes0_23 : decode cX12_passes0 23 = .ok (.dup, 1) := by decide +kernel
theorem dX12_passes0_24 : decode cX12_passes0 24 = .ok (.getfield 256, 3) := by decide +kernel
theorem dX12_passes0_27 : decode cX12_passes0 27 = .ok (.iconst 1, 1) := by decide +kernel
theorem dX12_passes0_28 : decode cX12_passes0 28 = .ok (.iadd, 1) := by decide +kernel
theorem dX12_passes0_29 : decode cX12_passes0 29 = .ok (.putfield 256, 3) := by decide +kernel
theorem dX12_passes0_32 : decode cX12_passes0 32 = .ok (.iload_n 2, 1) := by decide +kernel
theorem dX12_passes0_33 : decode cX12_passes0 33 = .ok (.ireturn, 1) := by decide +kernel
theorem dX12_bounded_0 : decode cX12_bounded 0 = .ok (.iload_n 3, 1) := by decide +kernel
theorem dX12_bounded_1 : decode cX12_bounded 1 = .ok (.ifCond .eq 24, 3) := by decide +kernel
theorem dX12_bounded_4 : decode cX12_bounded 4 = .ok (.lload_n 1, 1) := by decide +kernel
theorem dX12_bounded_5 : decode cX12_bounded 5 = .ok (.ldc2_w 262, 3) := by decide +kernel
theorem dX12_bounded_8 : decode cX12_bounded 8 = .ok (.lcmp, 1) := by decide +kernel
theorem dX12_bounded_9 : decode cX12_bounded 9 = .ok (.ifCond .gt 11, 3) := by decide +kernel
theorem dX12_bounded_12 : decode cX12_bounded 12 = .ok (.lload_n 1, 1) := by decide +kernel
theorem dX12_bounded_13 : decode cX12_bounded 13 = .ok (.ldc2_w 264, 3) := by decide +kernel
theorem dX12_bounded_16 : decode cX12_bounded 16 = .ok (.lcmp, 1) := by decide +kernel
theorem dX12_bounded_17 : decode cX12_bounded 17 = .ok (.ifCond .ge 8, 3) := by decide +kernel
theorem dX12_bounded_20 : decode cX12_bounded 20 = .ok (.aload_n 0, 1) := by decide +kernel
theorem dX12_bounded_21 : decode cX12_bounded 21 = .ok (.iconst 1, 1) := by decide +kernel
theorem dX12_bounded_22 : decode cX12_bounded 22 = .ok (.putfield 266, 3) := by decide +kernel
theorem dX12_bounded_25 : decode cX12_bounded 25 = .ok (.aload_n 0, 1) := by decide +kernel
theorem dX12_bounded_26 : decode cX12_bounded 26 = .ok (.getfield 266, 3) := by decide +kernel
theorem dX12_bounded_29 : decode cX12_bounded 29 = .ok (.ifCond .eq 7, 3) := by decide +kernel
theorem dX12_bounded_32 : decode cX12_bounded 32 = .ok (.lconst 0, 1) := by decide +kernel
theorem dX12_bounded_33 : decode cX12_bounded 33 = .ok (.goto 4, 3) := by decide +kernel
theorem dX12_bounded_36 : decode cX12_bounded 36 = .ok (.lload_n 1, 1) := by decide +kernel
theorem dX12_bounded_37 : decode cX12_bounded 37 = .ok (.lreturn, 1) := by decide +kernel
theorem dX12_sumOf_0 : decode cX12_sumOf 0 = .ok (.aload_n 0, 1) := by decide +kernel
theorem dX12_sumOf_1 : decode cX12_sumOf 1 = .ok (.iload_n 1, 1) := by decide +kernel
theorem dX12_sumOf_2 : decode cX12_sumOf 2 = .ok (.invokevirtual 269, 3) := by decide +kernel
theorem dX12_sumOf_5 : decode cX12_sumOf 5 = .ok (.lstore_n 2, 1) := by decide +kernel
theorem dX12_sumOf_6 : decode cX12_sumOf 6 = .ok (.aload_n 0, 1) := by decide +kernel
theorem dX12_sumOf_7 : decode cX12_sumOf 7 = .ok (.aload_n 0, 1) := by decide +kernel
theorem dX12_sumOf_8 : decode cX12_sumOf 8 = .ok (.getfield 256, 3) := by decide +kernel
theorem dX12_sumOf_11 : decode cX12_sumOf 11 = .ok (.invokevirtual 259, 3) := by decide +kernel
theorem dX12_sumOf_14 : decode cX12_sumOf 14 = .ok (.bipush 43, 2) := by decide +kernel
theorem dX12_sumOf_16 : decode cX12_sumOf 16 = .ok (.invokestatic 215, 3) := by decide +kernel
theorem dX12_sumOf_19 : decode cX12_sumOf 19 = .ok (.if_icmp .eq 19, 3) := by decide +kernel
theorem dX12_sumOf_22 : decode cX12_sumOf 22 = .ok (.aload_n 0, 1) := by decide +kernel
theorem dX12_sumOf_23 : decode cX12_sumOf 23 = .ok (.aload_n 0, 1) := by decide +kernel
theorem dX12_sumOf_24 : decode cX12_sumOf 24 = .ok (.getfield 256, 3) := by decide +kernel
theorem dX12_sumOf_27 : decode cX12_sumOf 27 = .ok (.invokevirtual 259, 3) := by decide +kernel
theorem dX12_sumOf_30 : decode cX12_sumOf 30 = .ok (.bipush 45, 2) := by decide +kernel
theorem dX12_sumOf_32 : decode cX12_sumOf 32 = .ok (.invokestatic 215, 3) := by decide +kernel
theorem dX12_sumOf_35 : decode cX12_sumOf 35 = .ok (.if_icmp .ne 68, 3) := by decide +kernel
theorem dX12_sumOf_38 : decode cX12_sumOf 38 = .ok (.aload_n 0, 1) := by decide +kernel
theorem dX12_sumOf_39 : decode cX12_sumOf 39 = .ok (.aload_n 0, 1) := by decide +kernel
theorem dX12_sumOf_40 : decode cX12_sumOf 40 = .ok (.getfield 256, 3) := by decide +kernel
theorem dX12_sumOf_43 : decode cX12_sumOf 43 = .ok (.invokevirtual 259, 3) := by decide +kernel
theorem dX12_sumOf_46 : decode cX12_sumOf 46 = .ok (.bipush 43, 2) := by decide +kernel
theorem dX12_sumOf_48 : decode cX12_sumOf 48 = .ok (.invokestatic 215, 3) := by decide +kernel
theorem dX12_sumOf_51 : decode cX12_sumOf 51 = .ok (.if_icmp .ne 7, 3) := by decide +kernel
theorem dX12_sumOf_54 : decode cX12_sumOf 54 = .ok (.iconst 1, 1) := by decide +kernel
theorem dX12_sumOf_55 : decode cX12_sumOf 55 = .ok (.goto 4, 3) := by decide +kernel
theorem dX12_sumOf_58 : decode cX12_sumOf 58 = .ok (.iconst 0, 1) := by decide +kernel
theorem dX12_sumOf_59 : decode cX12_sumOf 59 = .ok (.istore 4, 2) := by decide +kernel
theorem dX12_sumOf_61 : decode cX12_sumOf 61 = .ok (.aload_n 0, 1) := by decide +kernel
theorem dX12_sumOf_62 : decode cX12_sumOf 62 = .ok (.dup, 1) := by decide +kernel
theorem dX12_sumOf_63 : decode cX12_sumOf 63 = .ok (.getfield 256, 3) := by decide +kernel
theorem dX12_sumOf_66 : decode cX12_sumOf 66 = .ok (.iconst 1, 1) := by decide +kernel
theorem dX12_sumOf_67 : decode cX12_sumOf 67 = .ok (.iadd, 1) := by decide +kernel
theorem dX12_sumOf_68 : decode cX12_sumOf 68 = .ok (.putfield 256, 3) := by decide +kernel
theorem dX12_sumOf_71 : decode cX12_sumOf 71 = .ok (.aload_n 0, 1) := by decide +kernel
theorem dX12_sumOf_72 : decode cX12_sumOf 72 = .ok (.iload_n 1, 1) := by decide +kernel
theorem dX12_sumOf_73 : decode cX12_sumOf 73 = .ok (.invokevirtual 269, 3) := by decide +kernel
theorem dX12_sumOf_76 : decode cX12_sumOf 76 = .ok (.lstore 5, 2) := by decide +kernel
theorem dX12_sumOf_78 : decode cX12_sumOf 78 = .ok (.aload_n 0, 1) := by decide +kernel
theorem dX12_sumOf_79 : decode cX12_sumOf 79 = .ok (.iload 4, 2) := by decide +kernel
theorem dX12_sumOf_81 : decode cX12_sumOf 81 = .ok (.ifCond .eq 10, 3) := by decide +kernel
theorem dX12_sumOf_84 : decode cX12_sumOf 84 = .ok (.lload_n 2, 1) := by decide +kernel
theorem dX12_sumOf_85 : decode cX12_sumOf 85 = .ok (.lload 5, 2) := by decide +kernel
theorem dX12_sumOf_87 : decode cX12_sumOf 87 = .ok (.ladd, 1) := by decide +kernel
theorem dX12_sumOf_88 : decode cX12_sumOf 88 = .ok (.goto 7, 3) := by decide +kernel
theorem dX12_sumOf_91 : decode cX12_sumOf 91 = .ok (.lload_n 2, 1) := by decide +kernel
theorem dX12_sumOf_92 : decode cX12_sumOf 92 = .ok (.lload 5, 2) := by decide +kernel
theorem dX12_sumOf_94 : decode cX12_sumOf 94 = .ok (.lsub, 1) := by decide +kernel
theorem dX12_sumOf_95 : decode cX12_sumOf 95 = .ok (.iload_n 1, 1) := by decide +kernel
theorem dX12_sumOf_96 : decode cX12_sumOf 96 = .ok (.invokevirtual 273, 3) := by decide +kernel
theorem dX12_sumOf_99 : decode cX12_sumOf 99 = .ok (.lstore_n 2, 1) := by decide +kernel
theorem dX12_sumOf_100 : decode cX12_sumOf 100 = .ok (.goto (-94), 3) := by decide +kernel
theorem dX12_sumOf_103 : decode cX12_sumOf 103 = .ok (.lload_n 2, 1) := by decide +kernel
theorem dX12_sumOf_104 : decode cX12_sumOf 104 = .ok (.lreturn, 1) := by decide +kernel
theorem dX12_termOf_0 : decode cX12_termOf 0 = .ok (.aload_n 0, 1) := by decide +kernel
theorem dX12_termOf_1 : decode cX12_termOf 1 = .ok (.iload_n 1, 1) := by decide +kernel
theorem dX12_termOf_2 : decode cX12_termOf 2 = .ok (.invokevirtual 277, 3) := by decide +kernel
theorem dX12_termOf_5 : decode cX12_termOf 5 = .ok (.lstore_n 2, 1) := by decide +kernel
theorem dX12_termOf_6 : decode cX12_termOf 6 = .ok (.aload_n 0, 1) := by decide +kernel
theorem dX12_termOf_7 : decode cX12_termOf 7 = .ok (.aload_n 0, 1) := by decide +kernel
theorem dX12_termOf_8 : decode cX12_termOf 8 = .ok (.getfield 256, 3) := by decide +kernel
theorem dX12_termOf_11 : decode cX12_termOf 11 = .ok (.invokevirtual 259, 3) := by decide +kernel
theorem dX12_termOf_14 : decode cX12_termOf 14 = .ok (.bipush 42, 2) := by decide +kernel
theorem dX12_termOf_16 : decode cX12_termOf 16 = .ok (.invokestatic 215, 3) := by decide +kernel
theorem dX12_termOf_19 : decode cX12_termOf 19 = .ok (.if_icmp .eq 35, 3) := by decide +kernel
theorem dX12_termOf_22 : decode cX12_termOf 22 = .ok (.aload_n 0, 1) := by decide +kernel
theorem dX12_termOf_23 : decode cX12_termOf 23 = .ok (.aload_n 0, 1) := by decide +kernel
theorem dX12_termOf_24 : decode cX12_termOf 24 = .ok (.getfield 256, 3) := by decide +kernel
theorem dX12_termOf_27 : decode cX12_termOf 27 = .ok (.invokevirtual 259, 3) := by decide +kernel
theorem dX12_termOf_30 : decode cX12_termOf 30 = .ok (.bipush 47, 2) := by decide +kernel
theorem dX12_termOf_32 : decode cX12_termOf 32 = .ok (.invokestatic 215, 3) := by decide +kernel
theorem dX12_termOf_35 : decode cX12_termOf 35 = .ok (.if_icmp .eq 19, 3) := by decide +kernel
theorem dX12_termOf_38 : decode cX12_termOf 38 = .ok (.aload_n 0, 1) := by decide +kernel
theorem dX12_termOf_39 : decode cX12_termOf 39 = .ok (.aload_n 0, 1) := by decide +kernel
theorem dX12_termOf_40 : decode cX12_termOf 40 = .ok (.getfield 256, 3) := by decide +kernel
theorem dX12_termOf_43 : decode cX12_termOf 43 = .ok (.invokevirtual 259, 3) := by decide +kernel
theorem dX12_termOf_46 : decode cX12_termOf 46 = .ok (.bipush 37, 2) := by decide +kernel
theorem dX12_termOf_48 : decode cX12_termOf 48 = .ok (.invokestatic 215, 3) := by decide +kernel
theorem dX12_termOf_51 : decode cX12_termOf 51 = .ok (.if_icmp .ne 117, 3) := by decide +kernel
theorem dX12_termOf_54 : decode cX12_termOf 54 = .ok (.aload_n 0, 1) := by decide +kernel
theorem dX12_termOf_55 : decode cX12_termOf 55 = .ok (.aload_n 0, 1) := by decide +kernel
theorem dX12_termOf_56 : decode cX12_termOf 56 = .ok (.getfield 256, 3) := by decide +kernel
theorem dX12_termOf_59 : decode cX12_termOf 59 = .ok (.invokevirtual 259, 3) := by decide +kernel
theorem dX12_termOf_62 : decode cX12_termOf 62 = .ok (.istore 4, 2) := by decide +kernel
theorem dX12_termOf_64 : decode cX12_termOf 64 = .ok (.aload_n 0, 1) := by decide +kernel
theorem dX12_termOf_65 : decode cX12_termOf 65 = .ok (.dup, 1) := by decide +kernel
theorem dX12_termOf_66 : decode cX12_termOf 66 = .ok (.getfield 256, 3) := by decide +kernel
theorem dX12_termOf_69 : decode cX12_termOf 69 = .ok (.iconst 1, 1) := by decide +kernel
theorem dX12_termOf_70 : decode cX12_termOf 70 = .ok (.iadd, 1) := by decide +kernel
theorem dX12_termOf_71 : decode cX12_termOf 71 = .ok (.putfield 256, 3) := by decide +kernel
theorem dX12_termOf_74 : decode cX12_termOf 74 = .ok (.aload_n 0, 1) := by decide +kernel
theorem dX12_termOf_75 : decode cX12_termOf 75 = .ok (.iload_n 1, 1) := by decide +kernel
theorem dX12_termOf_76 : decode cX12_termOf 76 = .ok (.invokevirtual 277, 3) := by decide +kernel
theorem dX12_termOf_79 : decode cX12_termOf 79 = .ok (.lstore 5, 2) := by decide +kernel
theorem dX12_termOf_81 : decode cX12_termOf 81 = .ok (.iload 4, 2) := by decide +kernel
theorem dX12_termOf_83 : decode cX12_termOf 83 = .ok (.bipush 42, 2) := by decide +kernel
theorem dX12_termOf_85 : decode cX12_termOf 85 = .ok (.invokestatic 215, 3) := by decide +kernel
theorem dX12_termOf_88 : decode cX12_termOf 88 = .ok (.if_icmp .eq 33, 3) := by decide +kernel
theorem dX12_termOf_91 : decode cX12_termOf 91 = .ok (.lload 5, 2) := by decide +kernel
theorem dX12_termOf_93 : decode cX12_termOf 93 = .ok (.lconst 0, 1) := by decide +kernel
theorem dX12_termOf_94 : decode cX12_termOf 94 = .ok (.lcmp, 1) := by decide +kernel
theorem dX12_termOf_95 : decode cX12_termOf 95 = .ok (.ifCond .ne 26, 3) := by decide +kernel
theorem dX12_termOf_98 : decode cX12_termOf 98 = .ok (.aload_n 0, 1) := by decide +kernel
theorem dX12_termOf_99 : decode cX12_termOf 99 = .ok (.aload_n 0, 1) := by decide +kernel
theorem dX12_termOf_100 : decode cX12_termOf 100 = .ok (.getfield 266, 3) := by decide +kernel
theorem dX12_termOf_103 : decode cX12_termOf 103 = .ok (.ifCond .ne 7, 3) := by decide +kernel
theorem dX12_termOf_106 : decode cX12_termOf 106 = .ok (.iload_n 1, 1) := by decide +kernel
theorem dX12_termOf_107 : decode cX12_termOf 107 = .ok (.ifCond .eq 7, 3) := by decide +kernel
theorem dX12_termOf_110 : decode cX12_termOf 110 = .ok (.iconst 1, 1) := by decide +kernel
theorem dX12_termOf_111 : decode cX12_termOf 111 = .ok (.goto 4, 3) := by decide +kernel
theorem dX12_termOf_114 : decode cX12_termOf 114 = .ok (.iconst 0, 1) := by decide +kernel
theorem dX12_termOf_115 : decode cX12_termOf 115 = .ok (.putfield 266, 3) := by decide +kernel
theorem dX12_termOf_118 : decode cX12_termOf 118 = .ok (.lconst 1, 1) := by decide +kernel
theorem dX12_termOf_119 : decode cX12_termOf 119 = .ok (.lstore 5, 2) := by decide +kernel
theorem dX12_termOf_121 : decode cX12_termOf 121 = .ok (.aload_n 0, 1) := by decide +kernel
theorem dX12_termOf_122 : decode cX12_termOf 122 = .ok (.iload 4, 2) := by decide +kernel
theorem dX12_termOf_124 : decode cX12_termOf 124 = .ok (.bipush 42, 2) := by decide +kernel
theorem dX12_termOf_126 : decode cX12_termOf 126 = .ok (.invokestatic 215, 3) := by decide +kernel
theorem dX12_termOf_129 : decode cX12_termOf 129 = .ok (.if_icmp .ne 10, 3) := by decide +kernel
theorem dX12_termOf_132 : decode cX12_termOf 132 = .ok (.lload_n 2, 1) := by decide +kernel
theorem dX12_termOf_133 : decode cX12_termOf 133 = .ok (.lload 5, 2) := by decide +kernel
theorem dX12_termOf_135 : decode cX12_termOf 135 = .ok (.lmul, 1) := by decide +kernel
theorem dX12_termOf_136 : decode cX12_termOf 136 = .ok (.goto 24, 3) := by decide +kernel
theorem dX12_termOf_139 : decode cX12_termOf 139 = .ok (.iload 4, 2) := by decide +kernel
theorem dX12_termOf_141 : decode cX12_termOf 141 = .ok (.bipush 47, 2) := by decide +kernel
theorem dX12_termOf_143 : decode cX12_termOf 143 = .ok (.invokestatic 215, 3) := by decide +kernel
theorem dX12_termOf_146 : decode cX12_termOf 146 = .ok (.if_icmp .ne 10, 3) := by decide +kernel
theorem dX12_termOf_149 : decode cX12_termOf 149 = .ok (.lload_n 2, 1) := by decide +kernel
theorem dX12_termOf_150 : decode cX12_termOf 150 = .ok (.lload 5, 2) := by decide +kernel
theorem dX12_termOf_152 : decode cX12_termOf 152 = .ok (.ldiv, 1) := by decide +kernel
theorem dX12_termOf_153 : decode cX12_termOf 153 = .ok (.goto 7, 3) := by decide +kernel
theorem dX12_termOf_156 : decode cX12_termOf 156 = .ok (.lload_n 2, 1) := by decide +kernel
theorem dX12_termOf_157 : decode cX12_termOf 157 = .ok (.lload 5, 2) := by decide +kernel
theorem dX12_termOf_159 : decode cX12_termOf 159 = .ok (.lrem, 1) := by decide +kernel
theorem dX12_termOf_160 : decode cX12_termOf 160 = .ok (.iload_n 1, 1) := by decide +kernel
theorem dX12_termOf_161 : decode cX12_termOf 161 = .ok (.invokevirtual 273, 3) := by decide +kernel
theorem dX12_termOf_164 : decode cX12_termOf 164 = .ok (.lstore_n 2, 1) := by decide +kernel
theorem dX12_termOf_165 : decode cX12_termOf 165 = .ok (.goto (-159), 3) := by decide +kernel
theorem dX12_termOf_168 : decode cX12_termOf 168 = .ok (.lload_n 2, 1) := by decide +kernel
theorem dX12_termOf_169 : decode cX12_termOf 169 = .ok (.lreturn, 1) := by decide +kernel
theorem dX12_isOfHeap_0 : decode cX12_isOfHeap 0 = .ok (.iload_n 0, 1) := by decide +kernel
theorem dX12_isOfHeap_1 : decode cX12_isOfHeap 1 = .ok (.bipush 14, 2) := by decide +kernel
theorem dX12_isOfHeap_3 : decode cX12_isOfHeap 3 = .ok (.if_icmp .eq 15, 3) := by decide +kernel
theorem dX12_isOfHeap_6 : decode cX12_isOfHeap 6 = .ok (.iload_n 0, 1) := by decide +kernel
theorem dX12_isOfHeap_7 : decode cX12_isOfHeap 7 = .ok (.bipush 15, 2) := by decide +kernel
theorem dX12_isOfHeap_9 : decode cX12_isOfHeap 9 = .ok (.if_icmp .eq 9, 3) := by decide +kernel
theorem dX12_isOfHeap_12 : decode cX12_isOfHeap 12 = .ok (.iload_n 0, 1) := by decide +kernel
theorem dX12_isOfHeap_13 : decode cX12_isOfHeap 13 = .ok (.bipush 19, 2) := by decide +kernel
theorem dX12_isOfHeap_15 : decode cX12_isOfHeap 15 = .ok (.if_icmp .ne 7, 3) := by decide +kernel
theorem dX12_isOfHeap_18 : decode cX12_isOfHeap 18 = .ok (.iconst 1, 1) := by decide +kernel
theorem dX12_isOfHeap_19 : decode cX12_isOfHeap 19 = .ok (.goto 4, 3) := by decide +kernel
theorem dX12_isOfHeap_22 : decode cX12_isOfHeap 22 = .ok (.iconst 0, 1) := by decide +kernel
theorem dX12_isOfHeap_23 : decode cX12_isOfHeap 23 = .ok (.ireturn, 1) := by decide +kernel
theorem dX12_heapValue_0 : decode cX12_heapValue 0 = .ok (.aload_n 0, 1) := by decide +kernel
theorem dX12_heapValue_1 : decode cX12_heapValue 1 = .ok (.iload_n 2, 1) := by decide +kernel
theorem dX12_heapValue_2 : decode cX12_heapValue 2 = .ok (.invokevirtual 122, 3) := by decide +kernel
theorem dX12_heapValue_5 : decode cX12_heapValue 5 = .ok (.ifCond .ne 5, 3) := by decide +kernel
theorem dX12_heapValue_8 : decode cX12_heapValue 8 = .ok (.iconst (-1), 1) := by decide +kernel
theorem dX12_heapValue_9 : decode cX12_heapValue 9 = .ok (.ireturn, 1) := by decide +kernel
theorem dX12_heapValue_10 : decode cX12_heapValue 10 = .ok (.iload_n 1, 1) := by decide +kernel
theorem dX12_heapValue_11 : decode cX12_heapValue 11 = .ok (.bipush 14, 2) := by decide +kernel
theorem dX12_heapValue_13 : decode cX12_heapValue 13 = .ok (.if_icmp .ne 12, 3) := by decide +kernel
theorem dX12_heapValue_16 : decode cX12_heapValue 16 = .ok (.aload_n 0, 1) := by decide +kernel
theorem dX12_heapValue_17 : decode cX12_heapValue 17 = .ok (.iload_n 2, 1) := by decide +kernel
theorem dX12_heapValue_18 : decode cX12_heapValue 18 = .ok (.iconst 0, 1) := by decide +kernel
theorem dX12_heapValue_19 : decode cX12_heapValue 19 = .ok (.invokevirtual 280, 3) := by decide +kernel
theorem dX12_heapValue_22 : decode cX12_heapValue 22 = .ok (.goto 24, 3) := by decide +kernel
theorem dX12_heapValue_25 : decode cX12_heapValue 25 = .ok (.aload_n 0, 1) := by decide +kernel
theorem dX12_heapValue_26 : decode cX12_heapValue 26 = .ok (.getfield 24, 3) := by decide +kernel
theorem dX12_heapValue_29 : decode cX12_heapValue 29 = .ok (.iload_n 2, 1) := by decide +kernel
theorem dX12_heapValue_30 : decode cX12_heapValue 30 = .ok (.invokestatic 112, 3) := by decide +kernel
theorem dX12_heapValue_33 : decode cX12_heapValue 33 = .ok (.iload_n 1, 1) := by decide +kernel
theorem dX12_heapValue_34 : decode cX12_heapValue 34 = .ok (.bipush 15, 2) := by decide +kernel
theorem dX12_heapValue_36 : decode cX12_heapValue 36 = .ok (.if_icmp .ne 7, 3) := by decide +kernel
theorem dX12_heapValue_39 : decode cX12_heapValue 39 = .ok (.iconst 0, 1) := by decide +kernel
theorem dX12_heapValue_40 : decode cX12_heapValue 40 = .ok (.goto 4, 3) := by decide +kernel
theorem dX12_heapValue_43 : decode cX12_heapValue 43 = .ok (.iconst 1, 1) := by decide +kernel
theorem dX12_heapValue_44 : decode cX12_heapValue 44 = .ok (.iadd, 1) := by decide +kernel
theorem dX12_heapValue_45 : decode cX12_heapValue 45 = .ok (.iaload, 1) := by decide +kernel
theorem dX12_heapValue_46 : decode cX12_heapValue 46 = .ok (.ireturn, 1) := by decide +kernel
theorem dX12_partOf_0 : decode cX12_partOf 0 = .ok (.aload_n 0, 1) := by decide +kernel
theorem dX12_partOf_1 : decode cX12_partOf 1 = .ok (.bipush 91, 2) := by decide +kernel
theorem dX12_partOf_3 : decode cX12_partOf 3 = .ok (.invokestatic 215, 3) := by decide +kernel
theorem dX12_partOf_6 : decode cX12_partOf 6 = .ok (.invokevirtual 283, 3) := by decide +kernel
theorem dX12_partOf_9 : decode cX12_partOf 9 = .ok (.ifCond .eq 21, 3) := by decide +kernel
theorem dX12_partOf_12 : decode cX12_partOf 12 = .ok (.aload_n 0, 1) := by decide +kernel
theorem dX12_partOf_13 : decode cX12_partOf 13 = .ok (.iload_n 1, 1) := by decide +kernel
theorem dX12_partOf_14 : decode cX12_partOf 14 = .ok (.invokevirtual 286, 3) := by decide +kernel
theorem dX12_partOf_17 : decode cX12_partOf 17 = .ok (.lstore_n 2, 1) := by decide +kernel
theorem dX12_partOf_18 : decode cX12_partOf 18 = .ok (.aload_n 0, 1) := by decide +kernel
theorem dX12_partOf_19 : decode cX12_partOf 19 = .ok (.dup, 1) := by decide +kernel
theorem dX12_partOf_20 : decode cX12_partOf 20 = .ok (.getfield 256, 3) := by decide +kernel
theorem dX12_partOf_23 : decode cX12_partOf 23 = .ok (.iconst 1, 1) := by decide +kernel
theorem dX12_partOf_24 : decode cX12_partOf 24 = .ok (.iadd, 1) := by decide +kernel
theorem dX12_partOf_25 : decode cX12_partOf 25 = .ok (.putfield 256, 3) := by decide +kernel
theorem dX12_partOf_28 : decode cX12_partOf 28 = .ok (.lload_n 2, 1) := by decide +kernel
theorem dX12_partOf_29 : decode cX12_partOf 29 = .ok (.lreturn, 1) := by decide +kernel
theorem dX12_partOf_30 : decode cX12_partOf 30 = .ok (.aload_n 0, 1) := by decide +kernel
theorem dX12_partOf_31 : decode cX12_partOf 31 = .ok (.aload_n 0, 1) := by decide +kernel
theorem dX12_partOf_32 : decode cX12_partOf 32 = .ok (.getfield 256, 3) := by decide +kernel
theorem dX12_partOf_35 : decode cX12_partOf 35 = .ok (.invokevirtual 259, 3) := by decide +kernel
theorem dX12_partOf_38 : decode cX12_partOf 38 = .ok (.istore_n 2, 1) := by decide +kernel
theorem dX12_partOf_39 : decode cX12_partOf 39 = .ok (.iconst 0, 1) := by decide +kernel
theorem dX12_partOf_40 : decode cX12_partOf 40 = .ok (.istore_n 3, 1) := by decide +kernel
theorem dX12_partOf_41 : decode cX12_partOf 41 = .ok (.aload_n 0, 1) := by decide +kernel
theorem dX12_partOf_42 : decode cX12_partOf 42 = .ok (.dup, 1) := by decide +kernel
theorem dX12_partOf_43 : decode cX12_partOf 43 = .ok (.getfield 256, 3) := by decide +kernel
theorem dX12_partOf_46 : decode cX12_partOf 46 = .ok (.iconst 1, 1) := by decide +kernel
theorem dX12_partOf_47 : decode cX12_partOf 47 = .ok (.iadd, 1) := by decide +kernel
theorem dX12_partOf_48 : decode cX12_partOf 48 = .ok (.putfield 256, 3) := by decide +kernel
theorem dX12_partOf_51 : decode cX12_partOf 51 = .ok (.aload_n 0, 1) := by decide +kernel
theorem dX12_partOf_52 : decode cX12_partOf 52 = .ok (.getfield 289, 3) := by decide +kernel
theorem dX12_partOf_55 : decode cX12_partOf 55 = .ok (.ifCond .eq 34, 3) := by decide +kernel
theorem dX12_partOf_58 : decode cX12_partOf 58 = .ok (.iload_n 2, 1) := by decide +kernel
theorem dX12_partOf_59 : decode cX12_partOf 59 = .ok (.invokestatic 234, 3) := by decide +kernel
theorem dX12_partOf_62 : decode cX12_partOf 62 = .ok (.ifCond .eq 27, 3) := by decide +kernel
theorem dX12_partOf_65 : decode cX12_partOf 65 = .ok (.aload_n 0, 1) := by decide +kernel
theorem dX12_partOf_66 : decode cX12_partOf 66 = .ok (.getfield 24, 3) := by decide +kernel
theorem dX12_partOf_69 : decode cX12_partOf 69 = .ok (.sipush 2925, 3) := by decide +kernel
theorem dX12_partOf_72 : decode cX12_partOf 72 = .ok (.aload_n 0, 1) := by decide +kernel
theorem dX12_partOf_73 : decode cX12_partOf 73 = .ok (.getfield 256, 3) := by decide +kernel
theorem dX12_partOf_76 : decode cX12_partOf 76 = .ok (.iadd, 1) := by decide +kernel
theorem dX12_partOf_77 : decode cX12_partOf 77 = .ok (.iaload, 1) := by decide +kernel
theorem dX12_partOf_78 : decode cX12_partOf 78 = .ok (.istore_n 3, 1) := by decide +kernel
theorem dX12_partOf_79 : decode cX12_partOf 79 = .ok (.aload_n 0, 1) := by decide +kernel
theorem dX12_partOf_80 : decode cX12_partOf 80 = .ok (.dup, 1) := by decide +kernel
theorem dX12_partOf_81 : decode cX12_partOf 81 = .ok (.getfield 256, 3) := by decide +kernel
theorem dX12_partOf_84 : decode cX12_partOf 84 = .ok (.iconst 1, 1) := by decide +kernel
theorem dX12_partOf_85 : decode cX12_partOf 85 = .ok (.iadd, 1) := by decide +kernel
theorem dX12_partOf_86 : decode cX12_partOf 86 = .ok (.putfield 256, 3) := by decide +kernel
theorem dX12_partOf_89 : decode cX12_partOf 89 = .ok (.iload_n 1, 1) := by decide +kernel
theorem dX12_partOf_90 : decode cX12_partOf 90 = .ok (.ifCond .eq 10, 3) := by decide +kernel
theorem dX12_partOf_93 : decode cX12_partOf 93 = .ok (.aload_n 0, 1) := by decide +kernel
theorem dX12_partOf_94 : decode cX12_partOf 94 = .ok (.getfield 266, 3) := by decide +kernel
theorem dX12_partOf_97 : decode cX12_partOf 97 = .ok (.ifCond .eq 5, 3) := by decide +kernel
theorem dX12_partOf_100 : decode cX12_partOf 100 = .ok (.lconst 0, 1) := by decide +kernel
theorem dX12_partOf_101 : decode cX12_partOf 101 = .ok (.lreturn, 1) := by decide +kernel
theorem dX12_partOf_102 : decode cX12_partOf 102 = .ok (.iload_n 2, 1) := by decide +kernel
theorem dX12_partOf_103 : decode cX12_partOf 103 = .ok (.bipush 50, 2) := by decide +kernel
theorem dX12_partOf_105 : decode cX12_partOf 105 = .ok (.if_icmp .ne 20, 3) := by decide +kernel
theorem dX12_partOf_108 : decode cX12_partOf 108 = .ok (.aload_n 0, 1) := by decide +kernel
theorem dX12_partOf_109 : decode cX12_partOf 109 = .ok (.getfield 24, 3) := by decide +kernel
theorem dX12_partOf_112 : decode cX12_partOf 112 = .ok (.sipush 2925, 3) := by decide +kernel
theorem dX12_partOf_115 : decode cX12_partOf 115 = .ok (.aload_n 0, 1) := by decide +kernel
theorem dX12_partOf_116 : decode cX12_partOf 116 = .ok (.getfield 256, 3) := by decide +kernel
theorem dX12_partOf_119 : decode cX12_partOf 119 = .ok (.iadd, 1) := by decide +kernel
theorem dX12_partOf_120 : decode cX12_partOf 120 = .ok (.iconst 1, 1) := by decide +kernel
theorem dX12_partOf_121 : decode cX12_partOf 121 = .ok (.isub, 1) := by decide +kernel
theorem dX12_partOf_122 : decode cX12_partOf 122 = .ok (.iaload, 1) := by decide +kernel
theorem dX12_partOf_123 : decode cX12_partOf 123 = .ok (.i2l, 1) := by decide +kernel
theorem dX12_partOf_124 : decode cX12_partOf 124 = .ok (.lreturn, 1) := by decide +kernel
theorem dX12_partOf_125 : decode cX12_partOf 125 = .ok (.aload_n 0, 1) := by decide +kernel
theorem dX12_partOf_126 : decode cX12_partOf 126 = .ok (.getfield 289, 3) := by decide +kernel
theorem dX12_partOf_129 : decode cX12_partOf 129 = .ok (.ifCond .ne 14, 3) := by decide +kernel
theorem dX12_partOf_132 : decode cX12_partOf 132 = .ok (.aload_n 0, 1) := by decide +kernel
theorem dX12_partOf_133 : decode cX12_partOf 133 = .ok (.getfield 59, 3) := by decide +kernel
theorem dX12_partOf_136 : decode cX12_partOf 136 = .ok (.iload_n 2, 1) := by decide +kernel
theorem dX12_partOf_137 : decode cX12_partOf 137 = .ok (.bipush 8, 2) := by decide +kernel
theorem dX12_partOf_139 : decode cX12_partOf 139 = .ok (.isub, 1) := by decide +kernel
theorem dX12_partOf_140 : decode cX12_partOf 140 = .ok (.iaload, 1) := by decide +kernel
theorem dX12_partOf_141 : decode cX12_partOf 141 = .ok (.i2l, 1) := by decide +kernel
theorem dX12_partOf_142 : decode cX12_partOf 142 = .ok (.lreturn, 1) := by decide +kernel
theorem dX12_partOf_143 : decode cX12_partOf 143 = .ok (.iload_n 2, 1) := by decide +kernel
theorem dX12_partOf_144 : decode cX12_partOf 144 = .ok (.invokestatic 234, 3) := by decide +kernel
theorem dX12_partOf_147 : decode cX12_partOf 147 = .ok (.ifCond .eq 13, 3) := by decide +kernel
theorem dX12_partOf_150 : decode cX12_partOf 150 = .ok (.aload_n 0, 1) := by decide +kernel
theorem dX12_partOf_151 : decode cX12_partOf 151 = .ok (.iload_n 2, 1) := by decide +kernel
theorem dX12_partOf_152 : decode cX12_partOf 152 = .ok (.iload_n 3, 1) := by decide +kernel
theorem dX12_partOf_153 : decode cX12_partOf 153 = .ok (.invokevirtual 292, 3) := by decide +kernel
theorem dX12_partOf_156 : decode cX12_partOf 156 = .ok (.i2l, 1) := by decide +kernel
theorem dX12_partOf_157 : decode cX12_partOf 157 = .ok (.goto 13, 3) := by decide +kernel
theorem dX12_partOf_160 : decode cX12_partOf 160 = .ok (.aload_n 0, 1) := by decide +kernel
theorem dX12_partOf_161 : decode cX12_partOf 161 = .ok (.getfield 62, 3) := by decide +kernel
theorem dX12_partOf_164 : decode cX12_partOf 164 = .ok (.iload_n 2, 1) := by decide +kernel
theorem dX12_partOf_165 : decode cX12_partOf 165 = .ok (.bipush 16, 2) := by decide +kernel
theorem dX12_partOf_167 : decode cX12_partOf 167 = .ok (.isub, 1) := by decide +kernel
theorem dX12_partOf_168 : decode cX12_partOf 168 = .ok (.iaload, 1) := by decide +kernel
theorem dX12_partOf_169 : decode cX12_partOf 169 = .ok (.i2l, 1) := by decide +kernel
theorem dX12_partOf_170 : decode cX12_partOf 170 = .ok (.lreturn, 1) := by decide +kernel
theorem dX12_testOf_0 : decode cX12_testOf 0 = .ok (.aload_n 0, 1) := by decide +kernel
theorem dX12_testOf_1 : decode cX12_testOf 1 = .ok (.iload_n 1, 1) := by decide +kernel
theorem dX12_testOf_2 : decode cX12_testOf 2 = .ok (.invokevirtual 295, 3) := by decide +kernel
theorem dX12_testOf_5 : decode cX12_testOf 5 = .ok (.istore_n 2, 1) := by decide +kernel
theorem dX12_testOf_6 : decode cX12_testOf 6 = .ok (.aload_n 0, 1) := by decide +kernel
theorem dX12_testOf_7 : decode cX12_testOf 7 = .ok (.iconst 5, 1) := by decide +kernel
theorem dX12_testOf_8 : decode cX12_testOf 8 = .ok (.invokevirtual 283, 3) := by decide +kernel
theorem dX12_testOf_11 : decode cX12_testOf 11 = .ok (.ifCond .eq 38, 3) := by decide +kernel
theorem dX12_testOf_14 : decode cX12_testOf 14 = .ok (.aload_n 0, 1) := by decide +kernel
theorem dX12_testOf_15 : decode cX12_testOf 15 = .ok (.iload_n 1, 1) := by decide +kernel
theorem dX12_testOf_16 : decode cX12_testOf 16 = .ok (.ifCond .eq 11, 3) := by decide +kernel
theorem dX12_testOf_19 : decode cX12_testOf 19 = .ok (.iload_n 2, 1) := by decide +kernel
theorem dX12_testOf_20 : decode cX12_testOf 20 = .ok (.ifCond .ne 7, 3) := by decide +kernel
theorem dX12_testOf_23 : decode cX12_testOf 23 = .ok (.iconst 1, 1) := by decide +kernel
theorem dX12_testOf_24 : decode cX12_testOf 24 = .ok (.goto 4, 3) := by decide +kernel
theorem dX12_testOf_27 : decode cX12_testOf 27 = .ok (.iconst 0, 1) := by decide +kernel
theorem dX12_testOf_28 : decode cX12_testOf 28 = .ok (.invokevirtual 295, 3) := by decide +kernel
theorem dX12_testOf_31 : decode cX12_testOf 31 = .ok (.istore_n 3, 1) := by decide +kernel
theorem dX12_testOf_32 : decode cX12_testOf 32 = .ok (.iload_n 2, 1) := by decide +kernel
theorem dX12_testOf_33 : decode cX12_testOf 33 = .ok (.ifCond .ne 7, 3) := by decide +kernel
theorem dX12_testOf_36 : decode cX12_testOf 36 = .ok (.iload_n 3, 1) := by decide +kernel
theorem dX12_testOf_37 : decode cX12_testOf 37 = .ok (.ifCond .eq 7, 3) := by decide +kernel
theorem dX12_testOf_40 : decode cX12_testOf 40 = .ok (.iconst 1, 1) := by decide +kernel
theorem dX12_testOf_41 : decode cX12_testOf 41 = .ok (.goto 4, 3) := by decide +kernel
theorem dX12_testOf_44 : decode cX12_testOf 44 = .ok (.iconst 0, 1) := by decide +kernel
theorem dX12_testOf_45 : decode cX12_testOf 45 = .ok (.istore_n 2, 1) := by decide +kernel
theorem dX12_testOf_46 : decode cX12_testOf 46 = .ok (.goto (-40), 3) := by decide +kernel
theorem dX12_testOf_49 : decode cX12_testOf 49 = .ok (.iload_n 2, 1) := by decide +kernel
theorem dX12_testOf_50 : decode cX12_testOf 50 = .ok (.ireturn, 1) := by decide +kernel
theorem dX12_bothOf_0 : decode cX12_bothOf 0 = .ok (.aload_n 0, 1) := by decide +kernel
theorem dX12_bothOf_1 : decode cX12_bothOf 1 = .ok (.iload_n 1, 1) := by decide +kernel
theorem dX12_bothOf_2 : decode cX12_bothOf 2 = .ok (.invokevirtual 298, 3) := by decide +kernel
theorem dX12_bothOf_5 : decode cX12_bothOf 5 = .ok (.istore_n 2, 1) := by decide +kernel
theorem dX12_bothOf_6 : decode cX12_bothOf 6 = .ok (.aload_n 0, 1) := by decide +kernel
theorem dX12_bothOf_7 : decode cX12_bothOf 7 = .ok (.bipush 6, 2) := by decide +kernel
theorem dX12_bothOf_9 : decode cX12_bothOf 9 = .ok (.invokevirtual 283, 3) := by decide +kernel
theorem dX12_bothOf_12 : decode cX12_bothOf 12 = .ok (.ifCond .eq 38, 3) := by decide +kernel
theorem dX12_bothOf_15 : decode cX12_bothOf 15 = .ok (.aload_n 0, 1) := by decide +kernel
theorem dX12_bothOf_16 : decode cX12_bothOf 16 = .ok (.iload_n 1, 1) := by decide +kernel
theorem dX12_bothOf_17 : decode cX12_bothOf 17 = .ok (.ifCond .eq 11, 3) := by decide +kernel
theorem dX12_bothOf_20 : decode cX12_bothOf 20 = .ok (.iload_n 2, 1) := by decide +kernel
theorem dX12_bothOf_21 : decode cX12_bothOf 21 = .ok (.ifCond .eq 7, 3) := by decide +kernel
theorem dX12_bothOf_24 : decode cX12_bothOf 24 = .ok (.iconst 1, 1) := by decide +kernel
theorem dX12_bothOf_25 : decode cX12_bothOf 25 = .ok (.goto 4, 3) := by decide +kernel
theorem dX12_bothOf_28 : decode cX12_bothOf 28 = .ok (.iconst 0, 1) := by decide +kernel
theorem dX12_bothOf_29 : decode cX12_bothOf 29 = .ok (.invokevirtual 298, 3) := by decide +kernel
theorem dX12_bothOf_32 : decode cX12_bothOf 32 = .ok (.istore_n 3, 1) := by decide +kernel
theorem dX12_bothOf_33 : decode cX12_bothOf 33 = .ok (.iload_n 2, 1) := by decide +kernel
theorem dX12_bothOf_34 : decode cX12_bothOf 34 = .ok (.ifCond .eq 11, 3) := by decide +kernel
theorem dX12_bothOf_37 : decode cX12_bothOf 37 = .ok (.iload_n 3, 1) := by decide +kernel
theorem dX12_bothOf_38 : decode cX12_bothOf 38 = .ok (.ifCond .eq 7, 3) := by decide +kernel
theorem dX12_bothOf_41 : decode cX12_bothOf 41 = .ok (.iconst 1, 1) := by decide +kernel
theorem dX12_bothOf_42 : decode cX12_bothOf 42 = .ok (.goto 4, 3) := by decide +kernel
theorem dX12_bothOf_45 : decode cX12_bothOf 45 = .ok (.iconst 0, 1) := by decide +kernel
theorem dX12_bothOf_46 : decode cX12_bothOf 46 = .ok (.istore_n 2, 1) := by decide +kernel
theorem dX12_bothOf_47 : decode cX12_bothOf 47 = .ok (.goto (-41), 3) := by decide +kernel
theorem dX12_bothOf_50 : decode cX12_bothOf 50 = .ok (.iload_n 2, 1) := by decide +kernel
theorem dX12_bothOf_51 : decode cX12_bothOf 51 = .ok (.ireturn, 1) := by decide +kernel
theorem dX12_plainOf_0 : decode cX12_plainOf 0 = .ok (.iconst 0, 1) := by decide +kernel
theorem dX12_plainOf_1 : decode cX12_plainOf 1 = .ok (.istore_n 2, 1) := by decide +kernel
theorem dX12_plainOf_2 : decode cX12_plainOf 2 = .ok (.aload_n 0, 1) := by decide +kernel
theorem dX12_plainOf_3 : decode cX12_plainOf 3 = .ok (.bipush 7, 2) := by decide +kernel
theorem dX12_plainOf_5 : decode cX12_plainOf 5 = .ok (.invokevirtual 283, 3) := by decide +kernel
theorem dX12_plainOf_8 : decode cX12_plainOf 8 = .ok (.ifCond .eq 16, 3) := by decide +kernel
theorem dX12_plainOf_11 : decode cX12_plainOf 11 = .ok (.iload_n 2, 1) := by decide +kernel
theorem dX12_plainOf_12 : decode cX12_plainOf 12 = .ok (.ifCond .ne 7, 3) := by decide +kernel
theorem dX12_plainOf_15 : decode cX12_plainOf 15 = .ok (.iconst 1, 1) := by decide +kernel
theorem dX12_plainOf_16 : decode cX12_plainOf 16 = .ok (.goto 4, 3) := by decide +kernel
theorem dX12_plainOf_19 : decode cX12_plainOf 19 = .ok (.iconst 0, 1) := by decide +kernel
theorem dX12_plainOf_20 : decode cX12_plainOf 20 = .ok (.istore_n 2, 1) := by decide +kernel
theorem dX12_plainOf_21 : decode cX12_plainOf 21 = .ok (.goto (-19), 3) := by decide +kernel
theorem dX12_plainOf_24 : decode cX12_plainOf 24 = .ok (.aload_n 0, 1) := by decide +kernel
theorem dX12_plainOf_25 : decode cX12_plainOf 25 = .ok (.iload_n 1, 1) := by decide +kernel
theorem dX12_plainOf_26 : decode cX12_plainOf 26 = .ok (.invokevirtual 301, 3) := by decide +kernel
theorem dX12_plainOf_29 : decode cX12_plainOf 29 = .ok (.iload_n 2, 1) := by decide +kernel
theorem dX12_plainOf_30 : decode cX12_plainOf 30 = .ok (.if_icmp .eq 7, 3) := by decide +kernel
theorem dX12_plainOf_33 : decode cX12_plainOf 33 = .ok (.iconst 1, 1) := by decide +kernel
theorem dX12_plainOf_34 : decode cX12_plainOf 34 = .ok (.goto 4, 3) := by decide +kernel
theorem dX12_plainOf_37 : decode cX12_plainOf 37 = .ok (.iconst 0, 1) := by decide +kernel
theorem dX12_plainOf_38 : decode cX12_plainOf 38 = .ok (.ireturn, 1) := by decide +kernel
theorem dX12_positiveOf_0 : decode cX12_positiveOf 0 = .ok (.aload_n 0, 1) := by decide +kernel
theorem dX12_positiveOf_1 : decode cX12_positiveOf 1 = .ok (.bipush 40, 2) := by decide +kernel
theorem dX12_positiveOf_3 : decode cX12_positiveOf 3 = .ok (.invokestatic 215, 3) := by decide +kernel
theorem dX12_positiveOf_6 : decode cX12_positiveOf 6 = .ok (.invokevirtual 283, 3) := by decide +kernel
theorem dX12_positiveOf_9 : decode cX12_positiveOf 9 = .ok (.ifCond .eq 21, 3) := by decide +kernel
theorem dX12_positiveOf_12 : decode cX12_positiveOf 12 = .ok (.aload_n 0, 1) := by decide +kernel
theorem dX12_positiveOf_13 : decode cX12_positiveOf 13 = .ok (.iload_n 1, 1) := by decide +kernel
theorem dX12_positiveOf_14 : decode cX12_positiveOf 14 = .ok (.invokevirtual 304, 3) := by decide +kernel
theorem dX12_positiveOf_17 : decode cX12_positiveOf 17 = .ok (.istore_n 2, 1) := by decide +kernel
theorem dX12_positiveOf_18 : decode cX12_positiveOf 18 = .ok (.aload_n 0, 1) := by decide +kernel
theorem dX12_positiveOf_19 : decode cX12_positiveOf 19 = .ok (.dup, 1) := by decide +kernel
theorem dX12_positiveOf_20 : decode cX12_positiveOf 20 = .ok (.getfield 256, 3) := by decide +kernel
theorem dX12_positiveOf_23 : decode cX12_positiveOf 23 = .ok (.iconst 1, 1) := by decide +kernel
theorem dX12_positiveOf_24 : decode cX12_positiveOf 24 = .ok (.iadd, 1) := by decide +kernel
theorem dX12_positiveOf_25 : decode cX12_positiveOf 25 = .ok (.putfield 256, 3) := by decide +kernel
theorem dX12_positiveOf_28 : decode cX12_positiveOf 28 = .ok (.iload_n 2, 1) := by decide +kernel
theorem dX12_positiveOf_29 : decode cX12_positiveOf 29 = .ok (.ireturn, 1) := by decide +kernel
theorem dX12_positiveOf_30 : decode cX12_positiveOf 30 = .ok (.aload_n 0, 1) := by decide +kernel
theorem dX12_positiveOf_31 : decode cX12_positiveOf 31 = .ok (.iload_n 1, 1) := by decide +kernel
theorem dX12_positiveOf_32 : decode cX12_positiveOf 32 = .ok (.invokevirtual 286, 3) := by decide +kernel
theorem dX12_positiveOf_35 : decode cX12_positiveOf 35 = .ok (.lstore_n 2, 1) := by decide +kernel
theorem dX12_positiveOf_36 : decode cX12_positiveOf 36 = .ok (.aload_n 0, 1) := by decide +kernel
theorem dX12_positiveOf_37 : decode cX12_positiveOf 37 = .ok (.aload_n 0, 1) := by decide +kernel
theorem dX12_positiveOf_38 : decode cX12_positiveOf 38 = .ok (.getfield 256, 3) := by decide +kernel
theorem dX12_positiveOf_41 : decode cX12_positiveOf 41 = .ok (.invokevirtual 259, 3) := by decide +kernel
theorem dX12_positiveOf_44 : decode cX12_positiveOf 44 = .ok (.istore 4, 2) := by decide +kernel
theorem dX12_positiveOf_46 : decode cX12_positiveOf 46 = .ok (.aload_n 0, 1) := by decide +kernel
theorem dX12_positiveOf_47 : decode cX12_positiveOf 47 = .ok (.dup, 1) := by decide +kernel
theorem dX12_positiveOf_48 : decode cX12_positiveOf 48 = .ok (.getfield 256, 3) := by decide +kernel
theorem dX12_positiveOf_51 : decode cX12_positiveOf 51 = .ok (.iconst 1, 1) := by decide +kernel
theorem dX12_positiveOf_52 : decode cX12_positiveOf 52 = .ok (.iadd, 1) := by decide +kernel
theorem dX12_positiveOf_53 : decode cX12_positiveOf 53 = .ok (.putfield 256, 3) := by decide +kernel
theorem dX12_positiveOf_56 : decode cX12_positiveOf 56 = .ok (.aload_n 0, 1) := by decide +kernel
theorem dX12_positiveOf_57 : decode cX12_positiveOf 57 = .ok (.iload_n 1, 1) := by decide +kernel
theorem dX12_positiveOf_58 : decode cX12_positiveOf 58 = .ok (.invokevirtual 286, 3) := by decide +kernel
theorem dX12_positiveOf_61 : decode cX12_positiveOf 61 = .ok (.lstore 5, 2) := by decide +kernel
theorem dX12_positiveOf_63 : decode cX12_positiveOf 63 = .ok (.iload_n 1, 1) := by decide +kernel
theorem dX12_positiveOf_64 : decode cX12_positiveOf 64 = .ok (.ifCond .eq 61, 3) := by decide +kernel
theorem dX12_positiveOf_67 : decode cX12_positiveOf 67 = .ok (.aload_n 0, 1) := by decide +kernel
theorem dX12_positiveOf_68 : decode cX12_positiveOf 68 = .ok (.getfield 266, 3) := by decide +kernel
theorem dX12_positiveOf_71 : decode cX12_positiveOf 71 = .ok (.ifCond .ne 54, 3) := by decide +kernel
theorem dX12_positiveOf_74 : decode cX12_positiveOf 74 = .ok (.iload 4, 2) := by decide +kernel
theorem dX12_positiveOf_76 : decode cX12_positiveOf 76 = .ok (.bipush 60, 2) := by decide +kernel
theorem dX12_positiveOf_78 : decode cX12_positiveOf 78 = .ok (.invokestatic 215, 3) := by decide +kernel
theorem dX12_positiveOf_81 : decode cX12_positiveOf 81 = .ok (.if_icmp .ne 13, 3) := by decide +kernel
theorem dX12_positiveOf_84 : decode cX12_positiveOf 84 = .ok (.lload_n 2, 1) := by decide +kernel
theorem dX12_positiveOf_85 : decode cX12_positiveOf 85 = .ok (.lload 5, 2) := by decide +kernel
theorem dX12_positiveOf_87 : decode cX12_positiveOf 87 = .ok (.lcmp, 1) := by decide +kernel
theorem dX12_positiveOf_88 : decode cX12_positiveOf 88 = .ok (.ifCond .ge 37, 3) := by decide +kernel
theorem dX12_positiveOf_91 : decode cX12_positiveOf 91 = .ok (.goto 30, 3) := by decide +kernel
theorem dX12_positiveOf_94 : decode cX12_positiveOf 94 = .ok (.iload 4, 2) := by decide +kernel
theorem dX12_positiveOf_96 : decode cX12_positiveOf 96 = .ok (.bipush 62, 2) := by decide +kernel
theorem dX12_positiveOf_98 : decode cX12_positiveOf 98 = .ok (.invokestatic 215, 3) := by decide +kernel
theorem dX12_positiveOf_101 : decode cX12_positiveOf 101 = .ok (.if_icmp .ne 13, 3) := by decide +kernel
theorem dX12_positiveOf_104 : decode cX12_positiveOf 104 = .ok (.lload_n 2, 1) := by decide +kernel
theorem dX12_positiveOf_105 : decode cX12_positiveOf 105 = .ok (.lload 5, 2) := by decide +kernel
theorem dX12_positiveOf_107 : decode cX12_positiveOf 107 = .ok (.lcmp, 1) := by decide +kernel
theorem dX12_positiveOf_108 : decode cX12_positiveOf 108 = .ok (.ifCond .le 17, 3) := by decide +kernel
theorem dX12_positiveOf_111 : decode cX12_positiveOf 111 = .ok (.goto 10, 3) := by decide +kernel
theorem dX12_positiveOf_114 : decode cX12_positiveOf 114 = .ok (.lload_n 2, 1) := by decide +kernel
theorem dX12_positiveOf_115 : decode cX12_positiveOf 115 = .ok (.lload 5, 2) := by decide +kernel
theorem dX12_positiveOf_117 : decode cX12_positiveOf 117 = .ok (.lcmp, 1) := by decide +kernel
theorem dX12_positiveOf_118 : decode cX12_positiveOf 118 = .ok (.ifCond .ne 7, 3) := by decide +kernel
theorem dX12_positiveOf_121 : decode cX12_positiveOf 121 = .ok (.iconst 1, 1) := by decide +kernel
theorem dX12_positiveOf_122 : decode cX12_positiveOf 122 = .ok (.goto 4, 3) := by decide +kernel
theorem dX12_positiveOf_125 : decode cX12_positiveOf 125 = .ok (.iconst 0, 1) := by decide +kernel
theorem dX12_positiveOf_126 : decode cX12_positiveOf 126 = .ok (.ireturn, 1) := by decide +kernel
theorem dX12_tells_0 : decode cX12_tells 0 = .ok (.aload_n 0, 1) := by decide +kernel
theorem dX12_tells_1 : decode cX12_tells 1 = .ok (.iconst 0, 1) := by decide +kernel
theorem dX12_tells_2 : decode cX12_tells 2 = .ok (.putfield 307, 3) := by decide +kernel
theorem dX12_tells_5 : decode cX12_tells 5 = .ok (.aload_n 0, 1) := by decide +kernel
theorem dX12_tells_6 : decode cX12_tells 6 = .ok (.iconst 0, 1) := by decide +kernel
theorem dX12_tells_7 : decode cX12_tells 7 = .ok (.putfield 310, 3) := by decide +kernel
theorem dX12_tells_10 : decode cX12_tells 10 = .ok (.aload_n 0, 1) := by decide +kernel
theorem dX12_tells_11 : decode cX12_tells 11 = .ok (.getfield 24, 3) := by decide +kernel
theorem dX12_tells_14 : decode cX12_tells 14 = .ok (.bipush 117, 2) := by decide +kernel
theorem dX12_tells_16 : decode cX12_tells 16 = .ok (.iaload, 1) := by decide +kernel
theorem dX12_tells_17 : decode cX12_tells 17 = .ok (.iconst (-1), 1) := by decide +kernel
theorem dX12_tells_18 : decode cX12_tells 18 = .ok (.if_icmp .ne 5, 3) := by decide +kernel
theorem dX12_tells_21 : decode cX12_tells 21 = .ok (.lload_n 2, 1) := by decide +kernel
theorem dX12_tells_22 : decode cX12_tells 22 = .ok (.lreturn, 1) := by decide +kernel
theorem dX12_tells_23 : decode cX12_tells 23 = .ok (.aload_n 0, 1) := by decide +kernel
theorem dX12_tells_24 : decode cX12_tells 24 = .ok (.getfield 59, 3) := by decide +kernel
theorem dX12_tells_27 : decode cX12_tells 27 = .ok (.iconst 0, 1) := by decide +kernel
theorem dX12_tells_28 : decode cX12_tells 28 = .ok (.aload_n 0, 1) := by decide +kernel
theorem dX12_tells_29 : decode cX12_tells 29 = .ok (.getfield 130, 3) := by decide +kernel
theorem dX12_tells_32 : decode cX12_tells 32 = .ok (.iconst 1, 1) := by decide +kernel
theorem dX12_tells_33 : decode cX12_tells 33 = .ok (.if_icmp .le 12, 3) := by decide +kernel
theorem dX12_tells_36 : decode cX12_tells 36 = .ok (.aload_n 0, 1) := by decide +kernel
theorem dX12_tells_37 : decode cX12_tells 37 = .ok (.getfield 65, 3) := by decide +kernel
theorem dX12_tells_40 : decode cX12_tells 40 = .ok (.iconst 1, 1) := by decide +kernel
theorem dX12_tells_41 : decode cX12_tells 41 = .ok (.iaload, 1) := by decide +kernel
theorem dX12_tells_42 : decode cX12_tells 42 = .ok (.goto 4, 3) := by decide +kernel
theorem dX12_tells_45 : decode cX12_tells 45 = .ok (.iconst (-1), 1) := by decide +kernel
theorem dX12_tells_46 : decode cX12_tells 46 = .ok (.iastore, 1) := by decide +kernel
theorem dX12_tells_47 : decode cX12_tells 47 = .ok (.aload_n 0, 1) := by decide +kernel
theorem dX12_tells_48 : decode cX12_tells 48 = .ok (.getfield 59, 3) := by decide +kernel
theorem dX12_tells_51 : decode cX12_tells 51 = .ok (.iconst 1, 1) := by decide +kernel
theorem dX12_tells_52 : decode cX12_tells 52 = .ok (.aload_n 0, 1) := by decide +kernel
theorem dX12_tells_53 : decode cX12_tells 53 = .ok (.getfield 130, 3) := by decide +kernel
theorem dX12_tells_56 : decode cX12_tells 56 = .ok (.iconst 2, 1) := by decide +kernel
theorem dX12_tells_57 : decode cX12_tells 57 = .ok (.if_icmp .le 12, 3) := by decide +kernel
theorem dX12_tells_60 : decode cX12_tells 60 = .ok (.aload_n 0, 1) := by decide +kernel
theorem dX12_tells_61 : decode cX12_tells 61 = .ok (.getfield 65, 3) := by decide +kernel
theorem dX12_tells_64 : decode cX12_tells 64 = .ok (.iconst 2, 1) := by decide +kernel
theorem dX12_tells_65 : decode cX12_tells 65 = .ok (.iaload, 1) := by decide +kernel
theorem dX12_tells_66 : decode cX12_tells 66 = .ok (.goto 4, 3) := by decide +kernel
theorem dX12_tells_69 : decode cX12_tells 69 = .ok (.iconst (-1), 1) := by decide +kernel
theorem dX12_tells_70 : decode cX12_tells 70 = .ok (.iastore, 1) := by decide +kernel
theorem dX12_tells_71 : decode cX12_tells 71 = .ok (.aload_n 0, 1) := by decide +kernel
theorem dX12_tells_72 : decode cX12_tells 72 = .ok (.getfield 59, 3) := by decide +kernel
theorem dX12_tells_75 : decode cX12_tells 75 = .ok (.iconst 2, 1) := by decide +kernel
theorem dX12_tells_76 : decode cX12_tells 76 = .ok (.aload_n 0, 1) := by decide +kernel
theorem dX12_tells_77 : decode cX12_tells 77 = .ok (.getfield 65, 3) := by decide +kernel
theorem dX12_tells_80 : decode cX12_tells 80 = .ok (.aload_n 0, 1) := by decide +kernel
theorem dX12_tells_81 : decode cX12_tells 81 = .ok (.getfield 130, 3) := by decide +kernel
theorem dX12_tells_84 : decode cX12_tells 84 = .ok (.iconst 1, 1) := by decide +kernel
theorem dX12_tells_85 : decode cX12_tells 85 = .ok (.isub, 1) := by decide +kernel
theorem dX12_tells_86 : decode cX12_tells 86 = .ok (.iaload, 1) := by decide +kernel
theorem dX12_tells_87 : decode cX12_tells 87 = .ok (.iastore, 1) := by decide +kernel
theorem dX12_tells_88 : decode cX12_tells 88 = .ok (.aload_n 0, 1) := by decide +kernel
theorem dX12_tells_89 : decode cX12_tells 89 = .ok (.getfield 59, 3) := by decide +kernel
theorem dX12_tells_92 : decode cX12_tells 92 = .ok (.iconst 3, 1) := by decide +kernel
theorem dX12_tells_93 : decode cX12_tells 93 = .ok (.aload_n 0, 1) := by decide +kernel
theorem dX12_tells_94 : decode cX12_tells 94 = .ok (.getfield 133, 3) := by decide +kernel
theorem dX12_tells_97 : decode cX12_tells 97 = .ok (.iastore, 1) := by decide +kernel
theorem dX12_tells_98 : decode cX12_tells 98 = .ok (.aload_n 0, 1) := by decide +kernel
theorem dX12_tells_99 : decode cX12_tells 99 = .ok (.getfield 59, 3) := by decide +kernel
theorem dX12_tells_102 : decode cX12_tells 102 = .ok (.iconst 4, 1) := by decide +kernel
theorem dX12_tells_103 : decode cX12_tells 103 = .ok (.aload_n 0, 1) := by decide +kernel
theorem dX12_tells_104 : decode cX12_tells 104 = .ok (.getfield 313, 3) := by decide +kernel
theorem dX12_tells_107 : decode cX12_tells 107 = .ok (.iastore, 1) := by decide +kernel
theorem dX12_tells_108 : decode cX12_tells 108 = .ok (.aload_n 0, 1) := by decide +kernel
theorem dX12_tells_109 : decode cX12_tells 109 = .ok (.getfield 59, 3) := by decide +kernel
theorem dX12_tells_112 : decode cX12_tells 112 = .ok (.iconst 5, 1) := by decide +kernel
theorem dX12_tells_113 : decode cX12_tells 113 = .ok (.aload_n 0, 1) := by decide +kernel
theorem dX12_tells_114 : decode cX12_tells 114 = .ok (.getfield 24, 3) := by decide +kernel
theorem dX12_tells_117 : decode cX12_tells 117 = .ok (.bipush 113, 2) := by decide +kernel
theorem dX12_tells_119 : decode cX12_tells 119 = .ok (.iaload, 1) := by decide +kernel
theorem dX12_tells_120 : decode cX12_tells 120 = .ok (.iastore, 1) := by decide +kernel
theorem dX12_tells_121 : decode cX12_tells 121 = .ok (.aload_n 0, 1) := by decide +kernel
theorem dX12_tells_122 : decode cX12_tells 122 = .ok (.getfield 59, 3) := by decide +kernel
theorem dX12_tells_125 : decode cX12_tells 125 = .ok (.bipush 6, 2) := by decide +kernel
theorem dX12_tells_127 : decode cX12_tells 127 = .ok (.aload_n 0, 1) := by decide +kernel
theorem dX12_tells_128 : decode cX12_tells 128 = .ok (.getfield 65, 3) := by decide +kernel
theorem dX12_tells_131 : decode cX12_tells 131 = .ok (.iconst 0, 1) := by decide +kernel
theorem dX12_tells_132 : decode cX12_tells 132 = .ok (.iaload, 1) := by decide +kernel
theorem dX12_tells_133 : decode cX12_tells 133 = .ok (.iastore, 1) := by decide +kernel
theorem dX12_tells_134 : decode cX12_tells 134 = .ok (.aload_n 0, 1) := by decide +kernel
theorem dX12_tells_135 : decode cX12_tells 135 = .ok (.getfield 59, 3) := by decide +kernel
theorem dX12_tells_138 : decode cX12_tells 138 = .ok (.bipush 7, 2) := by decide +kernel
theorem dX12_tells_140 : decode cX12_tells 140 = .ok (.aload_n 0, 1) := by decide +kernel
theorem dX12_tells_141 : decode cX12_tells 141 = .ok (.getfield 130, 3) := by decide +kernel
theorem dX12_tells_144 : decode cX12_tells 144 = .ok (.iastore, 1) := by decide +kernel
theorem dX12_tells_145 : decode cX12_tells 145 = .ok (.aload_n 0, 1) := by decide +kernel
theorem dX12_tells_146 : decode cX12_tells 146 = .ok (.iconst 0, 1) := by decide +kernel
theorem dX12_tells_147 : decode cX12_tells 147 = .ok (.putfield 289, 3) := by decide +kernel
theorem dX12_tells_150 : decode cX12_tells 150 = .ok (.lload_n 2, 1) := by decide +kernel
theorem dX12_tells_151 : decode cX12_tells 151 = .ok (.lstore 4, 2) := by decide +kernel
theorem dX12_tells_153 : decode cX12_tells 153 = .ok (.aload_n 0, 1) := by decide +kernel
theorem dX12_tells_154 : decode cX12_tells 154 = .ok (.sipush 400, 3) := by decide +kernel
theorem dX12_tells_157 : decode cX12_tells 157 = .ok (.aload_n 0, 1) := by decide +kernel
theorem dX12_tells_158 : decode cX12_tells 158 = .ok (.getfield 24, 3) := by decide +kernel
theorem dX12_tells_161 : decode cX12_tells 161 = .ok (.bipush 117, 2) := by decide +kernel
theorem dX12_tells_163 : decode cX12_tells 163 = .ok (.iaload, 1) := by decide +kernel
theorem dX12_tells_164 : decode cX12_tells 164 = .ok (.imul, 1) := by decide +kernel
theorem dX12_tells_165 : decode cX12_tells 165 = .ok (.putfield 256, 3) := by decide +kernel
theorem dX12_tells_168 : decode cX12_tells 168 = .ok (.aload_n 0, 1) := by decide +kernel
theorem dX12_tells_169 : decode cX12_tells 169 = .ok (.aload_n 0, 1) := by decide +kernel
theorem dX12_tells_170 : decode cX12_tells 170 = .ok (.getfield 256, 3) := by decide +kernel
theorem dX12_tells_173 : decode cX12_tells 173 = .ok (.aload_n 0, 1) := by decide +kernel
theorem dX12_tells_174 : decode cX12_tells 174 = .ok (.getfield 24, 3) := by decide +kernel
theorem dX12_tells_177 : decode cX12_tells 177 = .ok (.bipush 118, 2) := by decide +kernel
theorem dX12_tells_179 : decode cX12_tells 179 = .ok (.aload_n 0, 1) := by decide +kernel
theorem dX12_tells_180 : decode cX12_tells 180 = .ok (.getfield 24, 3) := by decide +kernel
theorem dX12_tells_183 : decode cX12_tells 183 = .ok (.bipush 117, 2) := by decide +kernel
theorem dX12_tells_185 : decode cX12_tells 185 = .ok (.iaload, 1) := by decide +kernel
theorem dX12_tells_186 : decode cX12_tells 186 = .ok (.iadd, 1) := by decide +kernel
theorem dX12_tells_187 : decode cX12_tells 187 = .ok (.iaload, 1) := by decide +kernel
theorem dX12_tells_188 : decode cX12_tells 188 = .ok (.iadd, 1) := by decide +kernel
theorem dX12_tells_189 : decode cX12_tells 189 = .ok (.putfield 253, 3) := by decide +kernel
theorem dX12_tells_192 : decode cX12_tells 192 = .ok (.aload_n 0, 1) := by decide +kernel
theorem dX12_tells_193 : decode cX12_tells 193 = .ok (.getfield 256, 3) := by decide +kernel
theorem dX12_tells_196 : decode cX12_tells 196 = .ok (.aload_n 0, 1) := by decide +kernel
theorem dX12_tells_197 : decode cX12_tells 197 = .ok (.getfield 253, 3) := by decide +kernel
theorem dX12_tells_200 : decode cX12_tells 200 = .ok (.if_icmp .ge 158, 3) := by decide +kernel
theorem dX12_tells_203 : decode cX12_tells 203 = .ok (.aload_n 0, 1) := by decide +kernel
theorem dX12_tells_204 : decode cX12_tells 204 = .ok (.aload_n 0, 1) := by decide +kernel
theorem dX12_tells_205 : decode cX12_tells 205 = .ok (.getfield 256, 3) := by decide +kernel
theorem dX12_tells_208 : decode cX12_tells 208 = .ok (.invokevirtual 259, 3) := by decide +kernel
theorem dX12_tells_211 : decode cX12_tells 211 = .ok (.istore 6, 2) := by decide +kernel
theorem dX12_tells_213 : decode cX12_tells 213 = .ok (.aload_n 0, 1) := by decide +kernel
theorem dX12_tells_214 : decode cX12_tells 214 = .ok (.iconst 0, 1) := by decide +kernel
theorem dX12_tells_215 : decode cX12_tells 215 = .ok (.putfield 266, 3) := by decide +kernel
theorem dX12_tells_218 : decode cX12_tells 218 = .ok (.aload_n 0, 1) := by decide +kernel
theorem dX12_tells_219 : decode cX12_tells 219 = .ok (.dup, 1) := by decide +kernel
theorem dX12_tells_220 : decode cX12_tells 220 = .ok (.getfield 256, 3) := by decide +kernel
theorem dX12_tells_223 : decode cX12_tells 223 = .ok (.iconst 1, 1) := by decide +kernel
theorem dX12_tells_224 : decode cX12_tells 224 = .ok (.iadd, 1) := by decide +kernel
theorem dX12_tells_225 : decode cX12_tells 225 = .ok (.putfield 256, 3) := by decide +kernel
theorem dX12_tells_228 : decode cX12_tells 228 = .ok (.iload 6, 2) := by decide +kernel
theorem dX12_tells_230 : decode cX12_tells 230 = .ok (.iconst 3, 1) := by decide +kernel
theorem dX12_tells_231 : decode cX12_tells 231 = .ok (.if_icmp .ne 7, 3) := by decide +kernel
theorem dX12_tells_234 : decode cX12_tells 234 = .ok (.lconst 1, 1) := by decide +kernel
theorem dX12_tells_235 : decode cX12_tells 235 = .ok (.goto 8, 3) := by decide +kernel
theorem dX12_tells_238 : decode cX12_tells 238 = .ok (.aload_n 0, 1) := by decide +kernel
theorem dX12_tells_239 : decode cX12_tells 239 = .ok (.iconst 1, 1) := by decide +kernel
theorem dX12_tells_240 : decode cX12_tells 240 = .ok (.invokevirtual 286, 3) := by decide +kernel
theorem dX12_tells_243 : decode cX12_tells 243 = .ok (.lstore 7, 2) := by decide +kernel
theorem dX12_tells_245 : decode cX12_tells 245 = .ok (.aload_n 0, 1) := by decide +kernel
theorem dX12_tells_246 : decode cX12_tells 246 = .ok (.getfield 266, 3) := by decide +kernel
theorem dX12_tells_249 : decode cX12_tells 249 = .ok (.istore 9, 2) := by decide +kernel
theorem dX12_tells_251 : decode cX12_tells 251 = .ok (.aload_n 0, 1) := by decide +kernel
theorem dX12_tells_252 : decode cX12_tells 252 = .ok (.iconst 0, 1) := by decide +kernel
theorem dX12_tells_253 : decode cX12_tells 253 = .ok (.putfield 266, 3) := by decide +kernel
theorem dX12_tells_256 : decode cX12_tells 256 = .ok (.aload_n 0, 1) := by decide +kernel
theorem dX12_tells_257 : decode cX12_tells 257 = .ok (.iconst 4, 1) := by decide +kernel
theorem dX12_tells_258 : decode cX12_tells 258 = .ok (.invokevirtual 283, 3) := by decide +kernel
theorem dX12_tells_261 : decode cX12_tells 261 = .ok (.ifCond .eq 11, 3) := by decide +kernel
theorem dX12_tells_264 : decode cX12_tells 264 = .ok (.aload_n 0, 1) := by decide +kernel
theorem dX12_tells_265 : decode cX12_tells 265 = .ok (.iconst 1, 1) := by decide +kernel
theorem dX12_tells_266 : decode cX12_tells 266 = .ok (.invokevirtual 304, 3) := by decide +kernel
theorem dX12_tells_269 : decode cX12_tells 269 = .ok (.ifCond .eq 7, 3) := by decide +kernel
theorem dX12_tells_272 : decode cX12_tells 272 = .ok (.iconst 1, 1) := by decide +kernel
theorem dX12_tells_273 : decode cX12_tells 273 = .ok (.goto 4, 3) := by decide +kernel
theorem dX12_tells_276 : decode cX12_tells 276 = .ok (.iconst 0, 1) := by decide +kernel
theorem dX12_tells_277 : decode cX12_tells 277 = .ok (.istore 10, 2) := by decide +kernel
theorem dX12_tells_279 : decode cX12_tells 279 = .ok (.iload 10, 2) := by decide +kernel
theorem dX12_tells_281 : decode cX12_tells 281 = .ok (.ifCond .eq 19, 3) := by decide +kernel
theorem dX12_tells_284 : decode cX12_tells 284 = .ok (.aload_n 0, 1) := by decide +kernel
theorem dX12_tells_285 : decode cX12_tells 285 = .ok (.getfield 266, 3) := by decide +kernel
theorem dX12_tells_288 : decode cX12_tells 288 = .ok (.ifCond .ne 12, 3) := by decide +kernel
theorem dX12_tells_291 : decode cX12_tells 291 = .ok (.iload 9, 2) := by decide +kernel
theorem dX12_tells_293 : decode cX12_tells 293 = .ok (.ifCond .ne 7, 3) := by decide +kernel
theorem dX12_tells_296 : decode cX12_tells 296 = .ok (.iconst 1, 1) := by decide +kernel
theorem dX12_tells_297 : decode cX12_tells 297 = .ok (.goto 4, 3) := by decide +kernel
theorem dX12_tells_300 : decode cX12_tells 300 = .ok (.iconst 0, 1) := by decide +kernel
theorem dX12_tells_301 : decode cX12_tells 301 = .ok (.istore 10, 2) := by decide +kernel
theorem dX12_tells_303 : decode cX12_tells 303 = .ok (.aload_n 0, 1) := by decide +kernel
theorem dX12_tells_304 : decode cX12_tells 304 = .ok (.aload_n 0, 1) := by decide +kernel
theorem dX12_tells_305 : decode cX12_tells 305 = .ok (.getfield 307, 3) := by decide +kernel
theorem dX12_tells_308 : decode cX12_tells 308 = .ok (.ifCond .ne 9, 3) := by decide +kernel
theorem dX12_tells_311 : decode cX12_tells 311 = .ok (.iload 6, 2) := by decide +kernel
theorem dX12_tells_313 : decode cX12_tells 313 = .ok (.iload_n 1, 1) := by decide +kernel
theorem dX12_tells_314 : decode cX12_tells 314 = .ok (.if_icmp .ne 7, 3) := by decide +kernel
theorem dX12_tells_317 : decode cX12_tells 317 = .ok (.iconst 1, 1) := by decide +kernel
theorem dX12_tells_318 : decode cX12_tells 318 = .ok (.goto 4, 3) := by decide +kernel
theorem dX12_tells_321 : decode cX12_tells 321 = .ok (.iconst 0, 1) := by decide +kernel
theorem dX12_tells_322 : decode cX12_tells 322 = .ok (.putfield 307, 3) := by decide +kernel
theorem dX12_tells_325 : decode cX12_tells 325 = .ok (.iload 6, 2) := by decide +kernel
theorem dX12_tells_327 : decode cX12_tells 327 = .ok (.iload_n 1, 1) := by decide +kernel
theorem dX12_tells_328 : decode cX12_tells 328 = .ok (.if_icmp .ne 17, 3) := by decide +kernel
theorem dX12_tells_331 : decode cX12_tells 331 = .ok (.iload 10, 2) := by decide +kernel
theorem dX12_tells_333 : decode cX12_tells 333 = .ok (.ifCond .eq 12, 3) := by decide +kernel
theorem dX12_tells_336 : decode cX12_tells 336 = .ok (.lload 7, 2) := by decide +kernel
theorem dX12_tells_338 : decode cX12_tells 338 = .ok (.lstore 4, 2) := by decide +kernel
theorem dX12_tells_340 : decode cX12_tells 340 = .ok (.aload_n 0, 1) := by decide +kernel
theorem dX12_tells_341 : decode cX12_tells 341 = .ok (.iconst 1, 1) := by decide +kernel
theorem dX12_tells_342 : decode cX12_tells 342 = .ok (.putfield 310, 3) := by decide +kernel
theorem dX12_tells_345 : decode cX12_tells 345 = .ok (.aload_n 0, 1) := by decide +kernel
theorem dX12_tells_346 : decode cX12_tells 346 = .ok (.dup, 1) := by decide +kernel
theorem dX12_tells_347 : decode cX12_tells 347 = .ok (.getfield 256, 3) := by decide +kernel
theorem dX12_tells_350 : decode cX12_tells 350 = .ok (.iconst 1, 1) := by decide +kernel
theorem dX12_tells_351 : decode cX12_tells 351 = .ok (.iadd, 1) := by decide +kernel
theorem dX12_tells_352 : decode cX12_tells 352 = .ok (.putfield 256, 3) := by decide +kernel
theorem dX12_tells_355 : decode cX12_tells 355 = .ok (.goto (-163), 3) := by decide +kernel
theorem dX12_tells_358 : decode cX12_tells 358 = .ok (.lload 4, 2) := by decide +kernel
theorem dX12_tells_360 : decode cX12_tells 360 = .ok (.lreturn, 1) := by decide +kernel
theorem dX12_takes_0 : decode cX12_takes 0 = .ok (.aload_n 0, 1) := by decide +kernel
theorem dX12_takes_1 : decode cX12_takes 1 = .ok (.aload_n 0, 1) := by decide +kernel
theorem dX12_takes_2 : decode cX12_takes 2 = .ok (.iload_n 1, 1) := by decide +kernel
theorem dX12_takes_3 : decode cX12_takes 3 = .ok (.invokevirtual 316, 3) := by decide +kernel
theorem dX12_takes_6 : decode cX12_takes 6 = .ok (.putfield 130, 3) := by decide +kernel
theorem dX12_takes_9 : decode cX12_takes 9 = .ok (.aload_n 0, 1) := by decide +kernel
theorem dX12_takes_10 : decode cX12_takes 10 = .ok (.aload_n 0, 1) := by decide +kernel
theorem dX12_takes_11 : decode cX12_takes 11 = .ok (.getfield 24, 3) := by decide +kernel
theorem dX12_takes_14 : decode cX12_takes 14 = .ok (.iload_n 1, 1) := by decide +kernel
theorem dX12_takes_15 : decode cX12_takes 15 = .ok (.invokestatic 112, 3) := by decide +kernel
theorem dX12_takes_18 : decode cX12_takes 18 = .ok (.iconst 2, 1) := by decide +kernel
theorem dX12_takes_19 : decode cX12_takes 19 = .ok (.iadd, 1) := by decide +kernel
theorem dX12_takes_20 : decode cX12_takes 20 = .ok (.iaload, 1) := by decide +kernel
theorem dX12_takes_21 : decode cX12_takes 21 = .ok (.putfield 133, 3) := by decide +kernel
theorem dX12_takes_24 : decode cX12_takes 24 = .ok (.aload_n 0, 1) := by decide +kernel
theorem dX12_takes_25 : decode cX12_takes 25 = .ok (.iload_n 1, 1) := by decide +kernel
theorem dX12_takes_26 : decode cX12_takes 26 = .ok (.putfield 313, 3) := by decide +kernel
theorem dX12_takes_29 : decode cX12_takes 29 = .ok (.iconst 0, 1) := by decide +kernel
theorem dX12_takes_30 : decode cX12_takes 30 = .ok (.istore_n 2, 1) := by decide +kernel
theorem dX12_takes_31 : decode cX12_takes 31 = .ok (.iload_n 2, 1) := by decide +kernel
theorem dX12_takes_32 : decode cX12_takes 32 = .ok (.bipush 13, 2) := by decide +kernel
theorem dX12_takes_34 : decode cX12_takes 34 = .ok (.if_icmp .ge 21, 3) := by decide +kernel
theorem dX12_takes_37 : decode cX12_takes 37 = .ok (.aload_n 0, 1) := by decide +kernel
theorem dX12_takes_38 : decode cX12_takes 38 = .ok (.getfield 65, 3) := by decide +kernel
theorem dX12_takes_41 : decode cX12_takes 41 = .ok (.iload_n 2, 1) := by decide +kernel
theorem dX12_takes_42 : decode cX12_takes 42 = .ok (.aload_n 0, 1) := by decide +kernel
theorem dX12_takes_43 : decode cX12_takes 43 = .ok (.iload_n 1, 1) := by decide +kernel
theorem dX12_takes_44 : decode cX12_takes 44 = .ok (.iload_n 2, 1) := by decide +kernel
theorem dX12_takes_45 : decode cX12_takes 45 = .ok (.invokevirtual 280, 3) := by decide +kernel
theorem dX12_takes_48 : decode cX12_takes 48 = .ok (.iastore, 1) := by decide +kernel
theorem dX12_takes_49 : decode cX12_takes 49 = .ok (.iinc 2 1, 3) := by decide +kernel
theorem dX12_takes_52 : decode cX12_takes 52 = .ok (.goto (-21), 3) := by decide +kernel
theorem dX12_takes_55 : decode cX12_takes 55 = .ok (.return_, 1) := by decide +kernel
theorem dX12_hasEnded_0 : decode cX12_hasEnded 0 = .ok (.aload_n 0, 1) := by decide +kernel
theorem dX12_hasEnded_1 : decode cX12_hasEnded 1 = .ok (.iconst 3, 1) := by decide +kernel
theorem dX12_hasEnded_2 : decode cX12_hasEnded 2 = .ok (.lconst 0, 1) := by decide +kernel
theorem dX12_hasEnded_3 : decode cX12_hasEnded 3 = .ok (.invokevirtual 319, 3) := by decide +kernel
theorem dX12_hasEnded_6 : decode cX12_hasEnded 6 = .ok (.pop2, 1) := by decide +kernel
theorem dX12_hasEnded_7 : decode cX12_hasEnded 7 = .ok (.aload_n 0, 1) := by decide +kernel
theorem dX12_hasEnded_8 : decode cX12_hasEnded 8 = .ok (.getfield 307, 3) := by decide +kernel
theorem dX12_hasEnded_11 : decode cX12_hasEnded 11 = .ok (.ifCond .eq 10, 3) := by decide +kernel
theorem dX12_hasEnded_14 : decode cX12_hasEnded 14 = .ok (.aload_n 0, 1) := by decide +kernel
theorem dX12_hasEnded_15 : decode cX12_hasEnded 15 = .ok (.getfield 310, 3) := by decide +kernel
theorem dX12_hasEnded_18 : decode cX12_hasEnded 18 = .ok (.goto 18, 3) := by decide +kernel
theorem dX12_hasEnded_21 : decode cX12_hasEnded 21 = .ok (.aload_n 0, 1) := by decide +kernel
theorem dX12_hasEnded_22 : decode cX12_hasEnded 22 = .ok (.getfield 65, 3) := by decide +kernel
theorem dX12_hasEnded_25 : decode cX12_hasEnded 25 = .ok (.iconst 0, 1) := by decide +kernel
theorem dX12_hasEnded_26 : decode cX12_hasEnded 26 = .ok (.iaload, 1) := by decide +kernel
theorem dX12_hasEnded_27 : decode cX12_hasEnded 27 = .ok (.iconst 1, 1) := by decide +kernel
theorem dX12_hasEnded_28 : decode cX12_hasEnded 28 = .ok (.if_icmp .ne 7, 3) := by decide +kernel
theorem dX12_hasEnded_31 : decode cX12_hasEnded 31 = .ok (.iconst 1, 1) := by decide +kernel
theorem dX12_hasEnded_32 : decode cX12_hasEnded 32 = .ok (.goto 4, 3) := by decide +kernel
theorem dX12_hasEnded_35 : decode cX12_hasEnded 35 = .ok (.iconst 0, 1) := by decide +kernel
theorem dX12_hasEnded_36 : decode cX12_hasEnded 36 = .ok (.ireturn, 1) := by decide +kernel
theorem dX12_turnsBy_0 : decode cX12_turnsBy 0 = .ok (.aload_n 0, 1) := by decide +kernel
theorem dX12_turnsBy_1 : decode cX12_turnsBy 1 = .ok (.iconst 1, 1) := by decide +kernel
theorem dX12_turnsBy_2 : decode cX12_turnsBy 2 = .ok (.aload_n 0, 1) := by decide +kernel
theorem dX12_turnsBy_3 : decode cX12_turnsBy 3 = .ok (.getfield 65, 3) := by decide +kernel
theorem dX12_turnsBy_6 : decode cX12_turnsBy 6 = .ok (.iconst 0, 1) := by decide +kernel
theorem dX12_turnsBy_7 : decode cX12_turnsBy 7 = .ok (.iaload, 1) := by decide +kernel
theorem dX12_turnsBy_8 : decode cX12_turnsBy 8 = .ok (.ifCond .ne 11, 3) := by decide +kernel
theorem dX12_turnsBy_11 : decode cX12_turnsBy 11 = .ok (.aload_n 0, 1) := by decide +kernel
theorem dX12_turnsBy_12 : decode cX12_turnsBy 12 = .ok (.getfield 133, 3) := by decide +kernel
theorem dX12_turnsBy_15 : decode cX12_turnsBy 15 = .ok (.i2l, 1) := by decide +kernel
theorem dX12_turnsBy_16 : decode cX12_turnsBy 16 = .ok (.goto 10, 3) := by decide +kernel
theorem dX12_turnsBy_19 : decode cX12_turnsBy 19 = .ok (.aload_n 0, 1) := by decide +kernel
theorem dX12_turnsBy_20 : decode cX12_turnsBy 20 = .ok (.getfield 65, 3) := by decide +kernel
theorem dX12_turnsBy_23 : decode cX12_turnsBy 23 = .ok (.iconst 0, 1) := by decide +kernel
theorem dX12_turnsBy_24 : decode cX12_turnsBy 24 = .ok (.iaload, 1) := by decide +kernel
theorem dX12_turnsBy_25 : decode cX12_turnsBy 25 = .ok (.i2l, 1) := by decide +kernel
theorem dX12_turnsBy_26 : decode cX12_turnsBy 26 = .ok (.invokevirtual 319, 3) := by decide +kernel
theorem dX12_turnsBy_29 : decode cX12_turnsBy 29 = .ok (.lreturn, 1) := by decide +kernel
theorem dX12_sinksBy_0 : decode cX12_sinksBy 0 = .ok (.aload_n 0, 1) := by decide +kernel
theorem dX12_sinksBy_1 : decode cX12_sinksBy 1 = .ok (.iconst 2, 1) := by decide +kernel
theorem dX12_sinksBy_2 : decode cX12_sinksBy 2 = .ok (.lconst 0, 1) := by decide +kernel
theorem dX12_sinksBy_3 : decode cX12_sinksBy 3 = .ok (.invokevirtual 319, 3) := by decide +kernel
theorem dX12_sinksBy_6 : decode cX12_sinksBy 6 = .ok (.lreturn, 1) := by decide +kernel
theorem dX12_cannot_0 : decode cX12_cannot 0 = .ok (.lload_n 1, 1) := by decide +kernel
theorem dX12_cannot_1 : decode cX12_cannot 1 = .ok (.lconst 0, 1) := by decide +kernel
theorem dX12_cannot_2 : decode cX12_cannot 2 = .ok (.lcmp, 1) := by decide +kernel
theorem dX12_cannot_3 : decode cX12_cannot 3 = .ok (.ifCond .lt 13, 3) := by decide +kernel
theorem dX12_cannot_6 : decode cX12_cannot 6 = .ok (.lload_n 1, 1) := by decide +kernel
theorem dX12_cannot_7 : decode cX12_cannot 7 = .ok (.aload_n 0, 1) := by decide +kernel
theorem dX12_cannot_8 : decode cX12_cannot 8 = .ok (.getfield 130, 3) := by decide +kernel
theorem dX12_cannot_11 : decode cX12_cannot 11 = .ok (.i2l, 1) := by decide +kernel
theorem dX12_cannot_12 : decode cX12_cannot 12 = .ok (.lcmp, 1) := by decide +kernel
theorem dX12_cannot_13 : decode cX12_cannot 13 = .ok (.ifCond .le 7, 3) := by decide +kernel
theorem dX12_cannot_16 : decode cX12_cannot 16 = .ok (.iconst 1, 1) := by decide +kernel
theorem dX12_cannot_17 : decode cX12_cannot 17 = .ok (.goto 4, 3) := by decide +kernel
theorem dX12_cannot_20 : decode cX12_cannot 20 = .ok (.iconst 0, 1) := by decide +kernel
theorem dX12_cannot_21 : decode cX12_cannot 21 = .ok (.ireturn, 1) := by decide +kernel
theorem dX12_isStuck_0 : decode cX12_isStuck 0 = .ok (.aload_n 0, 1) := by decide +kernel
theorem dX12_isStuck_1 : decode cX12_isStuck 1 = .ok (.invokevirtual 136, 3) := by decide +kernel
theorem dX12_isStuck_4 : decode cX12_isStuck 4 = .ok (.ifCond .ne 29, 3) := by decide +kernel
theorem dX12_isStuck_7 : decode cX12_isStuck 7 = .ok (.aload_n 0, 1) := by decide +kernel
theorem dX12_isStuck_8 : decode cX12_isStuck 8 = .ok (.aload_n 0, 1) := by decide +kernel
theorem dX12_isStuck_9 : decode cX12_isStuck 9 = .ok (.invokevirtual 143, 3) := by decide +kernel
theorem dX12_isStuck_12 : decode cX12_isStuck 12 = .ok (.invokevirtual 323, 3) := by decide +kernel
theorem dX12_isStuck_15 : decode cX12_isStuck 15 = .ok (.ifCond .ne 14, 3) := by decide +kernel
theorem dX12_isStuck_18 : decode cX12_isStuck 18 = .ok (.aload_n 0, 1) := by decide +kernel
theorem dX12_isStuck_19 : decode cX12_isStuck 19 = .ok (.aload_n 0, 1) := by decide +kernel
theorem dX12_isStuck_20 : decode cX12_isStuck 20 = .ok (.invokevirtual 151, 3) := by decide +kernel
theorem dX12_isStuck_23 : decode cX12_isStuck 23 = .ok (.invokevirtual 323, 3) := by decide +kernel
theorem dX12_isStuck_26 : decode cX12_isStuck 26 = .ok (.ifCond .eq 7, 3) := by decide +kernel
theorem dX12_isStuck_29 : decode cX12_isStuck 29 = .ok (.iconst 1, 1) := by decide +kernel
theorem dX12_isStuck_30 : decode cX12_isStuck 30 = .ok (.goto 4, 3) := by decide +kernel
theorem dX12_isStuck_33 : decode cX12_isStuck 33 = .ok (.iconst 0, 1) := by decide +kernel
theorem dX12_isStuck_34 : decode cX12_isStuck 34 = .ok (.ireturn, 1) := by decide +kernel
theorem dX12_sinks_0 : decode cX12_sinks 0 = .ok (.iconst 0, 1) := by decide +kernel
theorem dX12_sinks_1 : decode cX12_sinks 1 = .ok (.istore_n 2, 1) := by decide +kernel
theorem dX12_sinks_2 : decode cX12_sinks 2 = .ok (.iload_n 2, 1) := by decide +kernel
theorem dX12_sinks_3 : decode cX12_sinks 3 = .ok (.aload_n 0, 1) := by decide +kernel
theorem dX12_sinks_4 : decode cX12_sinks 4 = .ok (.getfield 130, 3) := by decide +kernel
theorem dX12_sinks_7 : decode cX12_sinks 7 = .ok (.if_icmp .ge 28, 3) := by decide +kernel
theorem dX12_sinks_10 : decode cX12_sinks 10 = .ok (.aload_n 0, 1) := by decide +kernel
theorem dX12_sinks_11 : decode cX12_sinks 11 = .ok (.getfield 68, 3) := by decide +kernel
theorem dX12_sinks_14 : decode cX12_sinks 14 = .ok (.iload_n 2, 1) := by decide +kernel
theorem dX12_sinks_15 : decode cX12_sinks 15 = .ok (.aload_n 0, 1) := by decide +kernel
theorem dX12_sinks_16 : decode cX12_sinks 16 = .ok (.getfield 65, 3) := by decide +kernel
theorem dX12_sinks_19 : decode cX12_sinks 19 = .ok (.iload_n 2, 1) := by decide +kernel
theorem dX12_sinks_20 : decode cX12_sinks 20 = .ok (.iload_n 1, 1) := by decide +kernel
theorem dX12_sinks_21 : decode cX12_sinks 21 = .ok (.iadd, 1) := by decide +kernel
theorem dX12_sinks_22 : decode cX12_sinks 22 = .ok (.aload_n 0, 1) := by decide +kernel
theorem dX12_sinks_23 : decode cX12_sinks 23 = .ok (.getfield 130, 3) := by decide +kernel
theorem dX12_sinks_26 : decode cX12_sinks 26 = .ok (.irem, 1) := by decide +kernel
theorem dX12_sinks_27 : decode cX12_sinks 27 = .ok (.iaload, 1) := by decide +kernel
theorem dX12_sinks_28 : decode cX12_sinks 28 = .ok (.iastore, 1) := by decide +kernel
theorem dX12_sinks_29 : decode cX12_sinks 29 = .ok (.iinc 2 1, 3) := by decide +kernel
theorem dX12_sinks_32 : decode cX12_sinks 32 = .ok (.goto (-30), 3) := by decide +kernel
theorem dX12_sinks_35 : decode cX12_sinks 35 = .ok (.iconst 0, 1) := by decide +kernel
theorem dX12_sinks_36 : decode cX12_sinks 36 = .ok (.istore_n 2, 1) := by decide +kernel
theorem dX12_sinks_37 : decode cX12_sinks 37 = .ok (.iload_n 2, 1) := by decide +kernel
theorem dX12_sinks_38 : decode cX12_sinks 38 = .ok (.aload_n 0, 1) := by decide +kernel
theorem dX12_sinks_39 : decode cX12_sinks 39 = .ok (.getfield 130, 3) := by decide +kernel
theorem dX12_sinks_42 : decode cX12_sinks 42 = .ok (.if_icmp .ge 21, 3) := by decide +kernel
theorem dX12_sinks_45 : decode cX12_sinks 45 = .ok (.aload_n 0, 1) := by decide +kernel
theorem dX12_sinks_46 : decode cX12_sinks 46 = .ok (.getfield 65, 3) := by decide +kernel
theorem dX12_sinks_49 : decode cX12_sinks 49 = .ok (.iload_n 2, 1) := by decide +kernel
theorem dX12_sinks_50 : decode cX12_sinks 50 = .ok (.aload_n 0, 1) := by decide +kernel
theorem dX12_sinks_51 : decode cX12_sinks 51 = .ok (.getfield 68, 3) := by decide +kernel
theorem dX12_sinks_54 : decode cX12_sinks 54 = .ok (.iload_n 2, 1) := by decide +kernel
theorem dX12_sinks_55 : decode cX12_sinks 55 = .ok (.iaload, 1) := by decide +kernel
theorem dX12_sinks_56 : decode cX12_sinks 56 = .ok (.iastore, 1) := by decide +kernel
theorem dX12_sinks_57 : decode cX12_sinks 57 = .ok (.iinc 2 1, 3) := by decide +kernel
theorem dX12_sinks_60 : decode cX12_sinks 60 = .ok (.goto (-23), 3) := by decide +kernel
theorem dX12_sinks_63 : decode cX12_sinks 63 = .ok (.return_, 1) := by decide +kernel
theorem dX12_turns_0 : decode cX12_turns 0 = .ok (.iconst 0, 1) := by decide +kernel
theorem dX12_turns_1 : decode cX12_turns 1 = .ok (.istore_n 2, 1) := by decide +kernel
theorem dX12_turns_2 : decode cX12_turns 2 = .ok (.iconst 2, 1) := by decide +kernel
theorem dX12_turns_3 : decode cX12_turns 3 = .ok (.iload_n 2, 1) := by decide +kernel
theorem dX12_turns_4 : decode cX12_turns 4 = .ok (.imul, 1) := by decide +kernel
theorem dX12_turns_5 : decode cX12_turns 5 = .ok (.iconst 1, 1) := by decide +kernel
theorem dX12_turns_6 : decode cX12_turns 6 = .ok (.iadd, 1) := by decide +kernel
theorem dX12_turns_7 : decode cX12_turns 7 = .ok (.iload_n 1, 1) := by decide +kernel
theorem dX12_turns_8 : decode cX12_turns 8 = .ok (.if_icmp .ge 43, 3) := by decide +kernel
theorem dX12_turns_11 : decode cX12_turns 11 = .ok (.aload_n 0, 1) := by decide +kernel
theorem dX12_turns_12 : decode cX12_turns 12 = .ok (.getfield 65, 3) := by decide +kernel
theorem dX12_turns_15 : decode cX12_turns 15 = .ok (.iload_n 2, 1) := by decide +kernel
theorem dX12_turns_16 : decode cX12_turns 16 = .ok (.iaload, 1) := by decide +kernel
theorem dX12_turns_17 : decode cX12_turns 17 = .ok (.istore_n 3, 1) := by decide +kernel
theorem dX12_turns_18 : decode cX12_turns 18 = .ok (.aload_n 0, 1) := by decide +kernel
theorem dX12_turns_19 : decode cX12_turns 19 = .ok (.getfield 65, 3) := by decide +kernel
theorem dX12_turns_22 : decode cX12_turns 22 = .ok (.iload_n 2, 1) := by decide +kernel
theorem dX12_turns_23 : decode cX12_turns 23 = .ok (.aload_n 0, 1) := by decide +kernel
theorem dX12_turns_24 : decode cX12_turns 24 = .ok (.getfield 65, 3) := by decide +kernel
theorem dX12_turns_27 : decode cX12_turns 27 = .ok (.iload_n 1, 1) := by decide +kernel
theorem dX12_turns_28 : decode cX12_turns 28 = .ok (.iconst 1, 1) := by decide +kernel
theorem dX12_turns_29 : decode cX12_turns 29 = .ok (.isub, 1) := by decide +kernel
theorem dX12_turns_30 : decode cX12_turns 30 = .ok (.iload_n 2, 1) := by decide +kernel
theorem dX12_turns_31 : decode cX12_turns 31 = .ok (.isub, 1) := by decide +kernel
theorem dX12_turns_32 : decode cX12_turns 32 = .ok (.iaload, 1) := by decide +kernel
theorem dX12_turns_33 : decode cX12_turns 33 = .ok (.iastore, 1) := by decide +kernel
theorem dX12_turns_34 : decode cX12_turns 34 = .ok (.aload_n 0, 1) := by decide +kernel
theorem dX12_turns_35 : decode cX12_turns 35 = .ok (.getfield 65, 3) := by decide +kernel
theorem dX12_turns_38 : decode cX12_turns 38 = .ok (.iload_n 1, 1) := by decide +kernel
theorem dX12_turns_39 : decode cX12_turns 39 = .ok (.iconst 1, 1) := by decide +kernel
theorem dX12_turns_40 : decode cX12_turns 40 = .ok (.isub, 1) := by decide +kernel
theorem dX12_turns_41 : decode cX12_turns 41 = .ok (.iload_n 2, 1) := by decide +kernel
theorem dX12_turns_42 : decode cX12_turns 42 = .ok (.isub, 1) := by decide +kernel
theorem dX12_turns_43 : decode cX12_turns 43 = .ok (.iload_n 3, 1) := by decide +kernel
theorem dX12_turns_44 : decode cX12_turns 44 = .ok (.iastore, 1) := by decide +kernel
theorem dX12_turns_45 : decode cX12_turns 45 = .ok (.iinc 2 1, 3) := by decide +kernel
theorem dX12_turns_48 : decode cX12_turns 48 = .ok (.goto (-46), 3) := by decide +kernel
theorem dX12_turns_51 : decode cX12_turns 51 = .ok (.return_, 1) := by decide +kernel
theorem dX12_steps_0 : decode cX12_steps 0 = .ok (.aload_n 0, 1) := by decide +kernel
theorem dX12_steps_1 : decode cX12_steps 1 = .ok (.invokevirtual 143, 3) := by decide +kernel
theorem dX12_steps_4 : decode cX12_steps 4 = .ok (.l2i, 1) := by decide +kernel
theorem dX12_steps_5 : decode cX12_steps 5 = .ok (.istore_n 1, 1) := by decide +kernel
theorem dX12_steps_6 : decode cX12_steps 6 = .ok (.aload_n 0, 1) := by decide +kernel
theorem dX12_steps_7 : decode cX12_steps 7 = .ok (.invokevirtual 151, 3) := by decide +kernel
theorem dX12_steps_10 : decode cX12_steps 10 = .ok (.l2i, 1) := by decide +kernel
theorem dX12_steps_11 : decode cX12_steps 11 = .ok (.istore_n 2, 1) := by decide +kernel
theorem dX12_steps_12 : decode cX12_steps 12 = .ok (.aload_n 0, 1) := by decide +kernel
theorem dX12_steps_13 : decode cX12_steps 13 = .ok (.iload_n 1, 1) := by decide +kernel
theorem dX12_steps_14 : decode cX12_steps 14 = .ok (.invokevirtual 327, 3) := by decide +kernel
theorem dX12_steps_17 : decode cX12_steps 17 = .ok (.aload_n 0, 1) := by decide +kernel
theorem dX12_steps_18 : decode cX12_steps 18 = .ok (.iload_n 2, 1) := by decide +kernel
theorem dX12_steps_19 : decode cX12_steps 19 = .ok (.invokevirtual 330, 3) := by decide +kernel
theorem dX12_steps_22 : decode cX12_steps 22 = .ok (.aload_n 0, 1) := by decide +kernel
theorem dX12_steps_23 : decode cX12_steps 23 = .ok (.iload_n 1, 1) := by decide +kernel
theorem dX12_steps_24 : decode cX12_steps 24 = .ok (.putfield 133, 3) := by decide +kernel
theorem dX12_steps_27 : decode cX12_steps 27 = .ok (.return_, 1) := by decide +kernel
theorem dX12_canStep_0 : decode cX12_canStep 0 = .ok (.aload_n 0, 1) := by decide +kernel
theorem dX12_canStep_1 : decode cX12_canStep 1 = .ok (.invokevirtual 136, 3) := by decide +kernel
theorem dX12_canStep_4 : decode cX12_canStep 4 = .ok (.ifCond .ne 14, 3) := by decide +kernel
theorem dX12_canStep_7 : decode cX12_canStep 7 = .ok (.aload_n 0, 1) := by decide +kernel
theorem dX12_canStep_8 : decode cX12_canStep 8 = .ok (.invokevirtual 140, 3) := by decide +kernel
theorem dX12_canStep_11 : decode cX12_canStep 11 = .ok (.ifCond .ne 7, 3) := by decide +kernel
theorem dX12_canStep_14 : decode cX12_canStep 14 = .ok (.iconst 1, 1) := by decide +kernel
theorem dX12_canStep_15 : decode cX12_canStep 15 = .ok (.goto 4, 3) := by decide +kernel
theorem dX12_canStep_18 : decode cX12_canStep 18 = .ok (.iconst 0, 1) := by decide +kernel
theorem dX12_canStep_19 : decode cX12_canStep 19 = .ok (.ireturn, 1) := by decide +kernel
theorem dX12_wasSo_0 : decode cX12_wasSo 0 = .ok (.aload_n 0, 1) := by decide +kernel
theorem dX12_wasSo_1 : decode cX12_wasSo 1 = .ok (.getfield 71, 3) := by decide +kernel
theorem dX12_wasSo_4 : decode cX12_wasSo 4 = .ok (.bipush 14, 2) := by decide +kernel
theorem dX12_wasSo_6 : decode cX12_wasSo 6 = .ok (.iload_n 1, 1) := by decide +kernel
theorem dX12_wasSo_7 : decode cX12_wasSo 7 = .ok (.imul, 1) := by decide +kernel
theorem dX12_wasSo_8 : decode cX12_wasSo 8 = .ok (.bipush 13, 2) := by decide +kernel
theorem dX12_wasSo_10 : decode cX12_wasSo 10 = .ok (.iadd, 1) := by decide +kernel
theorem dX12_wasSo_11 : decode cX12_wasSo 11 = .ok (.iaload, 1) := by decide +kernel
theorem dX12_wasSo_12 : decode cX12_wasSo 12 = .ok (.aload_n 0, 1) := by decide +kernel
theorem dX12_wasSo_13 : decode cX12_wasSo 13 = .ok (.getfield 71, 3) := by decide +kernel
theorem dX12_wasSo_16 : decode cX12_wasSo 16 = .ok (.bipush 14, 2) := by decide +kernel
theorem dX12_wasSo_18 : decode cX12_wasSo 18 = .ok (.iload_n 2, 1) := by decide +kernel
theorem dX12_wasSo_19 : decode cX12_wasSo 19 = .ok (.imul, 1) := by decide +kernel
theorem dX12_wasSo_20 : decode cX12_wasSo 20 = .ok (.bipush 13, 2) := by decide +kernel
theorem dX12_wasSo_22 : decode cX12_wasSo 22 = .ok (.iadd, 1) := by decide +kernel
theorem dX12_wasSo_23 : decode cX12_wasSo 23 = .ok (.iaload, 1) := by decide +kernel
theorem dX12_wasSo_24 : decode cX12_wasSo 24 = .ok (.if_icmp .ne 7, 3) := by decide +kernel
theorem dX12_wasSo_27 : decode cX12_wasSo 27 = .ok (.iconst 1, 1) := by decide +kernel
theorem dX12_wasSo_28 : decode cX12_wasSo 28 = .ok (.goto 4, 3) := by decide +kernel
theorem dX12_wasSo_31 : decode cX12_wasSo 31 = .ok (.iconst 0, 1) := by decide +kernel
theorem dX12_wasSo_32 : decode cX12_wasSo 32 = .ok (.istore_n 3, 1) := by decide +kernel
theorem dX12_wasSo_33 : decode cX12_wasSo 33 = .ok (.iconst 0, 1) := by decide +kernel
theorem dX12_wasSo_34 : decode cX12_wasSo 34 = .ok (.istore 4, 2) := by decide +kernel
theorem dX12_wasSo_36 : decode cX12_wasSo 36 = .ok (.iload 4, 2) := by decide +kernel
theorem dX12_wasSo_38 : decode cX12_wasSo 38 = .ok (.aload_n 0, 1) := by decide +kernel
theorem dX12_wasSo_39 : decode cX12_wasSo 39 = .ok (.getfield 130, 3) := by decide +kernel
theorem dX12_wasSo_42 : decode cX12_wasSo 42 = .ok (.if_icmp .ge 46, 3) := by decide +kernel
theorem dX12_wasSo_45 : decode cX12_wasSo 45 = .ok (.iload_n 3, 1) := by decide +kernel
theorem dX12_wasSo_46 : decode cX12_wasSo 46 = .ok (.ifCond .eq 42, 3) := by decide +kernel
theorem dX12_wasSo_49 : decode cX12_wasSo 49 = .ok (.aload_n 0, 1) := by decide +kernel
theorem dX12_wasSo_50 : decode cX12_wasSo 50 = .ok (.getfield 71, 3) := by decide +kernel
theorem dX12_wasSo_53 : decode cX12_wasSo 53 = .ok (.bipush 14, 2) := by decide +kernel
theorem dX12_wasSo_55 : decode cX12_wasSo 55 = .ok (.iload_n 1, 1) := by decide +kernel
theorem dX12_wasSo_56 : decode cX12_wasSo 56 = .ok (.imul, 1) := by decide +kernel
theorem dX12_wasSo_57 : decode cX12_wasSo 57 = .ok (.iload 4, 2) := by decide +kernel
theorem dX12_wasSo_59 : decode cX12_wasSo 59 = .ok (.iadd, 1) := by decide +kernel
theorem dX12_wasSo_60 : decode cX12_wasSo 60 = .ok (.iaload, 1) := by decide +kernel
theorem dX12_wasSo_61 : decode cX12_wasSo 61 = .ok (.aload_n 0, 1) := by decide +kernel
theorem dX12_wasSo_62 : decode cX12_wasSo 62 = .ok (.getfield 71, 3) := by decide +kernel
theorem dX12_wasSo_65 : decode cX12_wasSo 65 = .ok (.bipush 14, 2) := by decide +kernel
theorem dX12_wasSo_67 : decode cX12_wasSo 67 = .ok (.iload_n 2, 1) := by decide +kernel
theorem dX12_wasSo_68 : decode cX12_wasSo 68 = .ok (.imul, 1) := by decide +kernel
theorem dX12_wasSo_69 : decode cX12_wasSo 69 = .ok (.iload 4, 2) := by decide +kernel
theorem dX12_wasSo_71 : decode cX12_wasSo 71 = .ok (.iadd, 1) := by decide +kernel
theorem dX12_wasSo_72 : decode cX12_wasSo 72 = .ok (.iaload, 1) := by decide +kernel
theorem dX12_wasSo_73 : decode cX12_wasSo 73 = .ok (.if_icmp .ne 7, 3) := by decide +kernel
theorem dX12_wasSo_76 : decode cX12_wasSo 76 = .ok (.iconst 1, 1) := by decide +kernel
theorem dX12_wasSo_77 : decode cX12_wasSo 77 = .ok (.goto 4, 3) := by decide +kernel
theorem dX12_wasSo_80 : decode cX12_wasSo 80 = .ok (.iconst 0, 1) := by decide +kernel
theorem dX12_wasSo_81 : decode cX12_wasSo 81 = .ok (.istore_n 3, 1) := by decide +kernel
theorem dX12_wasSo_82 : decode cX12_wasSo 82 = .ok (.iinc 4 1, 3) := by decide +kernel
theorem dX12_wasSo_85 : decode cX12_wasSo 85 = .ok (.goto (-49), 3) := by decide +kernel
theorem dX12_wasSo_88 : decode cX12_wasSo 88 = .ok (.iload_n 3, 1) := by decide +kernel
theorem dX12_wasSo_89 : decode cX12_wasSo 89 = .ok (.ireturn, 1) := by decide +kernel
theorem dX12_goesOn_0 : decode cX12_goesOn 0 = .ok (.aload_n 0, 1) := by decide +kernel
theorem dX12_goesOn_1 : decode cX12_goesOn 1 = .ok (.iconst (-1), 1) := by decide +kernel
theorem dX12_goesOn_2 : decode cX12_goesOn 2 = .ok (.putfield 333, 3) := by decide +kernel
theorem dX12_goesOn_5 : decode cX12_goesOn 5 = .ok (.iconst 0, 1) := by decide +kernel
theorem dX12_goesOn_6 : decode cX12_goesOn 6 = .ok (.istore_n 1, 1) := by decide +kernel
theorem dX12_goesOn_7 : decode cX12_goesOn 7 = .ok (.aload_n 0, 1) := by decide +kernel
theorem dX12_goesOn_8 : decode cX12_goesOn 8 = .ok (.iload_n 1, 1) := by decide +kernel
theorem dX12_goesOn_9 : decode cX12_goesOn 9 = .ok (.putfield 336, 3) := by decide +kernel
theorem dX12_goesOn_12 : decode cX12_goesOn 12 = .ok (.aload_n 0, 1) := by decide +kernel
theorem dX12_goesOn_13 : decode cX12_goesOn 13 = .ok (.invokevirtual 136, 3) := by decide +kernel
theorem dX12_goesOn_16 : decode cX12_goesOn 16 = .ok (.ifCond .eq 5, 3) := by decide +kernel
theorem dX12_goesOn_19 : decode cX12_goesOn 19 = .ok (.iconst 0, 1) := by decide +kernel
theorem dX12_goesOn_20 : decode cX12_goesOn 20 = .ok (.ireturn, 1) := by decide +kernel
theorem dX12_goesOn_21 : decode cX12_goesOn 21 = .ok (.aload_n 0, 1) := by decide +kernel
theorem dX12_goesOn_22 : decode cX12_goesOn 22 = .ok (.invokevirtual 140, 3) := by decide +kernel
theorem dX12_goesOn_25 : decode cX12_goesOn 25 = .ok (.ifCond .eq 5, 3) := by decide +kernel
theorem dX12_goesOn_28 : decode cX12_goesOn 28 = .ok (.iconst 1, 1) := by decide +kernel
theorem dX12_goesOn_29 : decode cX12_goesOn 29 = .ok (.ireturn, 1) := by decide +kernel
theorem dX12_goesOn_30 : decode cX12_goesOn 30 = .ok (.iconst 0, 1) := by decide +kernel
theorem dX12_goesOn_31 : decode cX12_goesOn 31 = .ok (.istore_n 2, 1) := by decide +kernel
theorem dX12_goesOn_32 : decode cX12_goesOn 32 = .ok (.iload_n 2, 1) := by decide +kernel
theorem dX12_goesOn_33 : decode cX12_goesOn 33 = .ok (.aload_n 0, 1) := by decide +kernel
theorem dX12_goesOn_34 : decode cX12_goesOn 34 = .ok (.getfield 130, 3) := by decide +kernel
theorem dX12_goesOn_37 : decode cX12_goesOn 37 = .ok (.if_icmp .ge 26, 3) := by decide +kernel
theorem dX12_goesOn_40 : decode cX12_goesOn 40 = .ok (.aload_n 0, 1) := by decide +kernel
theorem dX12_goesOn_41 : decode cX12_goesOn 41 = .ok (.getfield 71, 3) := by decide +kernel
theorem dX12_goesOn_44 : decode cX12_goesOn 44 = .ok (.bipush 14, 2) := by decide +kernel
theorem dX12_goesOn_46 : decode cX12_goesOn 46 = .ok (.iload_n 1, 1) := by decide +kernel
theorem dX12_goesOn_47 : decode cX12_goesOn 47 = .ok (.imul, 1) := by decide +kernel
theorem dX12_goesOn_48 : decode cX12_goesOn 48 = .ok (.iload_n 2, 1) := by decide +kernel
theorem dX12_goesOn_49 : decode cX12_goesOn 49 = .ok (.iadd, 1) := by decide +kernel
theorem dX12_goesOn_50 : decode cX12_goesOn 50 = .ok (.aload_n 0, 1) := by decide +kernel
theorem dX12_goesOn_51 : decode cX12_goesOn 51 = .ok (.getfield 65, 3) := by decide +kernel
theorem dX12_goesOn_54 : decode cX12_goesOn 54 = .ok (.iload_n 2, 1) := by decide +kernel
theorem dX12_goesOn_55 : decode cX12_goesOn 55 = .ok (.iaload, 1) := by decide +kernel
theorem dX12_goesOn_56 : decode cX12_goesOn 56 = .ok (.iastore, 1) := by decide +kernel
theorem dX12_goesOn_57 : decode cX12_goesOn 57 = .ok (.iinc 2 1, 3) := by decide +kernel
theorem dX12_goesOn_60 : decode cX12_goesOn 60 = .ok (.goto (-28), 3) := by decide +kernel
theorem dX12_goesOn_63 : decode cX12_goesOn 63 = .ok (.aload_n 0, 1) := by decide +kernel
theorem dX12_goesOn_64 : decode cX12_goesOn 64 = .ok (.getfield 71, 3) := by decide +kernel
theorem dX12_goesOn_67 : decode cX12_goesOn 67 = .ok (.bipush 14, 2) := by decide +kernel
theorem dX12_goesOn_69 : decode cX12_goesOn 69 = .ok (.iload_n 1, 1) := by decide +kernel
theorem dX12_goesOn_70 : decode cX12_goesOn 70 = .ok (.imul, 1) := by decide +kernel
theorem dX12_goesOn_71 : decode cX12_goesOn 71 = .ok (.bipush 13, 2) := by decide +kernel
theorem dX12_goesOn_73 : decode cX12_goesOn 73 = .ok (.iadd, 1) := by decide +kernel
theorem dX12_goesOn_74 : decode cX12_goesOn 74 = .ok (.aload_n 0, 1) := by decide +kernel
theorem dX12_goesOn_75 : decode cX12_goesOn 75 = .ok (.getfield 133, 3) := by decide +kernel
theorem dX12_goesOn_78 : decode cX12_goesOn 78 = .ok (.iastore, 1) := by decide +kernel
theorem dX12_goesOn_79 : decode cX12_goesOn 79 = .ok (.iconst 0, 1) := by decide +kernel
theorem dX12_goesOn_80 : decode cX12_goesOn 80 = .ok (.istore_n 2, 1) := by decide +kernel
theorem dX12_goesOn_81 : decode cX12_goesOn 81 = .ok (.iload_n 2, 1) := by decide +kernel
theorem dX12_goesOn_82 : decode cX12_goesOn 82 = .ok (.iload_n 1, 1) := by decide +kernel
theorem dX12_goesOn_83 : decode cX12_goesOn 83 = .ok (.if_icmp .ge 28, 3) := by decide +kernel
theorem dX12_goesOn_86 : decode cX12_goesOn 86 = .ok (.aload_n 0, 1) := by decide +kernel
theorem dX12_goesOn_87 : decode cX12_goesOn 87 = .ok (.iload_n 1, 1) := by decide +kernel
theorem dX12_goesOn_88 : decode cX12_goesOn 88 = .ok (.iload_n 2, 1) := by decide +kernel
theorem dX12_goesOn_89 : decode cX12_goesOn 89 = .ok (.invokevirtual 339, 3) := by decide +kernel
theorem dX12_goesOn_92 : decode cX12_goesOn 92 = .ok (.ifCond .ne 6, 3) := by decide +kernel
theorem dX12_goesOn_95 : decode cX12_goesOn 95 = .ok (.goto 10, 3) := by decide +kernel
theorem dX12_goesOn_98 : decode cX12_goesOn 98 = .ok (.aload_n 0, 1) := by decide +kernel
theorem dX12_goesOn_99 : decode cX12_goesOn 99 = .ok (.iload_n 2, 1) := by decide +kernel
theorem dX12_goesOn_100 : decode cX12_goesOn 100 = .ok (.putfield 333, 3) := by decide +kernel
theorem dX12_goesOn_103 : decode cX12_goesOn 103 = .ok (.iconst 2, 1) := by decide +kernel
theorem dX12_goesOn_104 : decode cX12_goesOn 104 = .ok (.ireturn, 1) := by decide +kernel
theorem dX12_goesOn_105 : decode cX12_goesOn 105 = .ok (.iinc 2 1, 3) := by decide +kernel
theorem dX12_goesOn_108 : decode cX12_goesOn 108 = .ok (.goto (-27), 3) := by decide +kernel
theorem dX12_goesOn_111 : decode cX12_goesOn 111 = .ok (.iload_n 1, 1) := by decide +kernel
theorem dX12_goesOn_112 : decode cX12_goesOn 112 = .ok (.aload_n 0, 1) := by decide +kernel
theorem dX12_goesOn_113 : decode cX12_goesOn 113 = .ok (.getfield 24, 3) := by decide +kernel
theorem dX12_goesOn_116 : decode cX12_goesOn 116 = .ok (.bipush 114, 2) := by decide +kernel
theorem dX12_goesOn_118 : decode cX12_goesOn 118 = .ok (.iaload, 1) := by decide +kernel
theorem dX12_goesOn_119 : decode cX12_goesOn 119 = .ok (.if_icmp .ne 5, 3) := by decide +kernel
theorem dX12_goesOn_122 : decode cX12_goesOn 122 = .ok (.iconst 3, 1) := by decide +kernel
theorem dX12_goesOn_123 : decode cX12_goesOn 123 = .ok (.ireturn, 1) := by decide +kernel
theorem dX12_goesOn_124 : decode cX12_goesOn 124 = .ok (.aload_n 0, 1) := by decide +kernel
theorem dX12_goesOn_125 : decode cX12_goesOn 125 = .ok (.invokevirtual 343, 3) := by decide +kernel
theorem dX12_goesOn_128 : decode cX12_goesOn 128 = .ok (.iinc 1 1, 3) := by decide +kernel
theorem dX12_goesOn_131 : decode cX12_goesOn 131 = .ok (.goto (-124), 3) := by decide +kernel
theorem dX12_endsBehind_0 : decode cX12_endsBehind 0 = .ok (.iconst 0, 1) := by decide +kernel
theorem dX12_endsBehind_1 : decode cX12_endsBehind 1 = .ok (.istore_n 1, 1) := by decide +kernel
theorem dX12_endsBehind_2 : decode cX12_endsBehind 2 = .ok (.iload_n 1, 1) := by decide +kernel
theorem dX12_endsBehind_3 : decode cX12_endsBehind 3 = .ok (.aload_n 0, 1) := by decide +kernel
theorem dX12_endsBehind_4 : decode cX12_endsBehind 4 = .ok (.getfield 24, 3) := by decide +kernel
theorem dX12_endsBehind_7 : decode cX12_endsBehind 7 = .ok (.bipush 114, 2) := by decide +kernel
theorem dX12_endsBehind_9 : decode cX12_endsBehind 9 = .ok (.iaload, 1) := by decide +kernel
theorem dX12_endsBehind_10 : decode cX12_endsBehind 10 = .ok (.if_icmp .gt 42, 3) := by decide +kernel
theorem dX12_endsBehind_13 : decode cX12_endsBehind 13 = .ok (.aload_n 0, 1) := by decide +kernel
theorem dX12_endsBehind_14 : decode cX12_endsBehind 14 = .ok (.invokevirtual 136, 3) := by decide +kernel
theorem dX12_endsBehind_17 : decode cX12_endsBehind 17 = .ok (.ifCond .eq 5, 3) := by decide +kernel
theorem dX12_endsBehind_20 : decode cX12_endsBehind 20 = .ok (.iload_n 1, 1) := by decide +kernel
theorem dX12_endsBehind_21 : decode cX12_endsBehind 21 = .ok (.ireturn, 1) := by decide +kernel
theorem dX12_endsBehind_22 : decode cX12_endsBehind 22 = .ok (.aload_n 0, 1) := by decide +kernel
theorem dX12_endsBehind_23 : decode cX12_endsBehind 23 = .ok (.invokevirtual 140, 3) := by decide +kernel
theorem dX12_endsBehind_26 : decode cX12_endsBehind 26 = .ok (.ifCond .ne 14, 3) := by decide +kernel
theorem dX12_endsBehind_29 : decode cX12_endsBehind 29 = .ok (.iload_n 1, 1) := by decide +kernel
theorem dX12_endsBehind_30 : decode cX12_endsBehind 30 = .ok (.aload_n 0, 1) := by decide +kernel
theorem dX12_endsBehind_31 : decode cX12_endsBehind 31 = .ok (.getfield 24, 3) := by decide +kernel
theorem dX12_endsBehind_34 : decode cX12_endsBehind 34 = .ok (.bipush 114, 2) := by decide +kernel
theorem dX12_endsBehind_36 : decode cX12_endsBehind 36 = .ok (.iaload, 1) := by decide +kernel
theorem dX12_endsBehind_37 : decode cX12_endsBehind 37 = .ok (.if_icmp .ne 5, 3) := by decide +kernel
theorem dX12_endsBehind_40 : decode cX12_endsBehind 40 = .ok (.iconst (-1), 1) := by decide +kernel
theorem dX12_endsBehind_41 : decode cX12_endsBehind 41 = .ok (.ireturn, 1) := by decide +kernel
theorem dX12_endsBehind_42 : decode cX12_endsBehind 42 = .ok (.aload_n 0, 1) := by decide +kernel
theorem dX12_endsBehind_43 : decode cX12_endsBehind 43 = .ok (.invokevirtual 343, 3) := by decide +kernel
theorem dX12_endsBehind_46 : decode cX12_endsBehind 46 = .ok (.iinc 1 1, 3) := by decide +kernel
theorem dX12_endsBehind_49 : decode cX12_endsBehind 49 = .ok (.goto (-47), 3) := by decide +kernel
theorem dX12_endsBehind_52 : decode cX12_endsBehind 52 = .ok (.iconst (-1), 1) := by decide +kernel
theorem dX12_endsBehind_53 : decode cX12_endsBehind 53 = .ok (.ireturn, 1) := by decide +kernel
theorem dX12_goes_0 : decode cX12_goes 0 = .ok (.aload_n 0, 1) := by decide +kernel
theorem dX12_goes_1 : decode cX12_goes 1 = .ok (.iload_n 1, 1) := by decide +kernel
theorem dX12_goes_2 : decode cX12_goes 2 = .ok (.invokevirtual 122, 3) := by decide +kernel
theorem dX12_goes_5 : decode cX12_goes 5 = .ok (.ifCond .eq 12, 3) := by decide +kernel
theorem dX12_goes_8 : decode cX12_goes 8 = .ok (.iload_n 2, 1) := by decide +kernel
theorem dX12_goes_9 : decode cX12_goes 9 = .ok (.iconst 0, 1) := by decide +kernel
theorem dX12_goes_10 : decode cX12_goes 10 = .ok (.iconst 2, 1) := by decide +kernel
theorem dX12_goes_11 : decode cX12_goes 11 = .ok (.invokestatic 102, 3) := by decide +kernel
theorem dX12_goes_14 : decode cX12_goes 14 = .ok (.ifCond .ne 5, 3) := by decide +kernel
theorem dX12_goes_17 : decode cX12_goes 17 = .ok (.iconst (-1), 1) := by decide +kernel
theorem dX12_goes_18 : decode cX12_goes 18 = .ok (.ireturn, 1) := by decide +kernel
theorem dX12_goes_19 : decode cX12_goes 19 = .ok (.aload_n 0, 1) := by decide +kernel
theorem dX12_goes_20 : decode cX12_goes 20 = .ok (.iload_n 1, 1) := by decide +kernel
theorem dX12_goes_21 : decode cX12_goes 21 = .ok (.invokevirtual 126, 3) := by decide +kernel
theorem dX12_goes_24 : decode cX12_goes 24 = .ok (.aload_n 0, 1) := by decide +kernel
theorem dX12_goes_25 : decode cX12_goes 25 = .ok (.invokevirtual 346, 3) := by decide +kernel
theorem dX12_goes_28 : decode cX12_goes 28 = .ok (.istore_n 3, 1) := by decide +kernel
theorem dX12_goes_29 : decode cX12_goes 29 = .ok (.iload_n 2, 1) := by decide +kernel
theorem dX12_goes_30 : decode cX12_goes 30 = .ok (.ifCond .ne 7, 3) := by decide +kernel
theorem dX12_goes_33 : decode cX12_goes 33 = .ok (.iload_n 3, 1) := by decide +kernel
theorem dX12_goes_34 : decode cX12_goes 34 = .ok (.goto 19, 3) := by decide +kernel
theorem dX12_goes_37 : decode cX12_goes 37 = .ok (.iload_n 2, 1) := by decide +kernel
theorem dX12_goes_38 : decode cX12_goes 38 = .ok (.iconst 1, 1) := by decide +kernel
theorem dX12_goes_39 : decode cX12_goes 39 = .ok (.if_icmp .ne 10, 3) := by decide +kernel
theorem dX12_goes_42 : decode cX12_goes 42 = .ok (.aload_n 0, 1) := by decide +kernel
theorem dX12_goes_43 : decode cX12_goes 43 = .ok (.getfield 336, 3) := by decide +kernel
theorem dX12_goes_46 : decode cX12_goes 46 = .ok (.goto 7, 3) := by decide +kernel
theorem dX12_goes_49 : decode cX12_goes 49 = .ok (.aload_n 0, 1) := by decide +kernel
theorem dX12_goes_50 : decode cX12_goes 50 = .ok (.getfield 333, 3) := by decide +kernel
theorem dX12_goes_53 : decode cX12_goes 53 = .ok (.ireturn, 1) := by decide +kernel
theorem dX12_after_0 : decode cX12_after 0 = .ok (.aload_n 0, 1) := by decide +kernel
theorem dX12_after_1 : decode cX12_after 1 = .ok (.iload_n 1, 1) := by decide +kernel
theorem dX12_after_2 : decode cX12_after 2 = .ok (.invokevirtual 122, 3) := by decide +kernel
theorem dX12_after_5 : decode cX12_after 5 = .ok (.ifCond .eq 29, 3) := by decide +kernel
theorem dX12_after_8 : decode cX12_after 8 = .ok (.iload_n 2, 1) := by decide +kernel
theorem dX12_after_9 : decode cX12_after 9 = .ok (.iconst 0, 1) := by decide +kernel
theorem dX12_after_10 : decode cX12_after 10 = .ok (.sipush 300, 3) := by decide +kernel
theorem dX12_after_13 : decode cX12_after 13 = .ok (.invokestatic 102, 3) := by decide +kernel
theorem dX12_after_16 : decode cX12_after 16 = .ok (.ifCond .eq 18, 3) := by decide +kernel
theorem dX12_after_19 : decode cX12_after 19 = .ok (.iload_n 3, 1) := by decide +kernel
theorem dX12_after_20 : decode cX12_after 20 = .ok (.iconst 0, 1) := by decide +kernel
theorem dX12_after_21 : decode cX12_after 21 = .ok (.aload_n 0, 1) := by decide +kernel
theorem dX12_after_22 : decode cX12_after 22 = .ok (.iload_n 1, 1) := by decide +kernel
theorem dX12_after_23 : decode cX12_after 23 = .ok (.invokevirtual 316, 3) := by decide +kernel
theorem dX12_after_26 : decode cX12_after 26 = .ok (.iconst 1, 1) := by decide +kernel
theorem dX12_after_27 : decode cX12_after 27 = .ok (.isub, 1) := by decide +kernel
theorem dX12_after_28 : decode cX12_after 28 = .ok (.invokestatic 102, 3) := by decide +kernel
theorem dX12_after_31 : decode cX12_after 31 = .ok (.ifCond .ne 5, 3) := by decide +kernel
theorem dX12_after_34 : decode cX12_after 34 = .ok (.iconst (-1), 1) := by decide +kernel
theorem dX12_after_35 : decode cX12_after 35 = .ok (.ireturn, 1) := by decide +kernel
theorem dX12_after_36 : decode cX12_after 36 = .ok (.aload_n 0, 1) := by decide +kernel
theorem dX12_after_37 : decode cX12_after 37 = .ok (.iload_n 1, 1) := by decide +kernel
theorem dX12_after_38 : decode cX12_after 38 = .ok (.invokevirtual 126, 3) := by decide +kernel
theorem dX12_after_41 : decode cX12_after 41 = .ok (.iconst 0, 1) := by decide +kernel
theorem dX12_after_42 : decode cX12_after 42 = .ok (.istore 4, 2) := by decide +kernel
theorem dX12_after_44 : decode cX12_after 44 = .ok (.iload 4, 2) := by decide +kernel
theorem dX12_after_46 : decode cX12_after 46 = .ok (.iload_n 2, 1) := by decide +kernel
theorem dX12_after_47 : decode cX12_after 47 = .ok (.if_icmp .ge 20, 3) := by decide +kernel
theorem dX12_after_50 : decode cX12_after 50 = .ok (.aload_n 0, 1) := by decide +kernel
theorem dX12_after_51 : decode cX12_after 51 = .ok (.invokevirtual 350, 3) := by decide +kernel
theorem dX12_after_54 : decode cX12_after 54 = .ok (.ifCond .eq 13, 3) := by decide +kernel
theorem dX12_after_57 : decode cX12_after 57 = .ok (.aload_n 0, 1) := by decide +kernel
theorem dX12_after_58 : decode cX12_after 58 = .ok (.invokevirtual 343, 3) := by decide +kernel
theorem dX12_after_61 : decode cX12_after 61 = .ok (.iinc 4 1, 3) := by decide +kernel
theorem dX12_after_64 : decode cX12_after 64 = .ok (.goto (-20), 3) := by decide +kernel
theorem dX12_after_67 : decode cX12_after 67 = .ok (.aload_n 0, 1) := by decide +kernel
theorem dX12_after_68 : decode cX12_after 68 = .ok (.getfield 65, 3) := by decide +kernel
theorem dX12_after_71 : decode cX12_after 71 = .ok (.iload_n 3, 1) := by decide +kernel
theorem dX12_after_72 : decode cX12_after 72 = .ok (.iaload, 1) := by decide +kernel
theorem dX12_after_73 : decode cX12_after 73 = .ok (.ireturn, 1) := by decide +kernel
theorem dX12_race_0 : decode cX12_race 0 = .ok (.aload_n 0, 1) := by decide +kernel
theorem dX12_race_1 : decode cX12_race 1 = .ok (.iload_n 1, 1) := by decide +kernel
theorem dX12_race_2 : decode cX12_race 2 = .ok (.invokevirtual 122, 3) := by decide +kernel
theorem dX12_race_5 : decode cX12_race 5 = .ok (.ifCond .eq 11, 3) := by decide +kernel
theorem dX12_race_8 : decode cX12_race 8 = .ok (.aload_n 0, 1) := by decide +kernel
theorem dX12_race_9 : decode cX12_race 9 = .ok (.iload_n 2, 1) := by decide +kernel
theorem dX12_race_10 : decode cX12_race 10 = .ok (.invokevirtual 122, 3) := by decide +kernel
theorem dX12_race_13 : decode cX12_race 13 = .ok (.ifCond .ne 5, 3) := by decide +kernel
theorem dX12_race_16 : decode cX12_race 16 = .ok (.iconst (-1), 1) := by decide +kernel
theorem dX12_race_17 : decode cX12_race 17 = .ok (.ireturn, 1) := by decide +kernel
theorem dX12_race_18 : decode cX12_race 18 = .ok (.aload_n 0, 1) := by decide +kernel
theorem dX12_race_19 : decode cX12_race 19 = .ok (.iload_n 1, 1) := by decide +kernel
theorem dX12_race_20 : decode cX12_race 20 = .ok (.invokevirtual 126, 3) := by decide +kernel
theorem dX12_race_23 : decode cX12_race 23 = .ok (.aload_n 0, 1) := by decide +kernel
theorem dX12_race_24 : decode cX12_race 24 = .ok (.invokevirtual 353, 3) := by decide +kernel
theorem dX12_race_27 : decode cX12_race 27 = .ok (.istore_n 3, 1) := by decide +kernel
theorem dX12_race_28 : decode cX12_race 28 = .ok (.aload_n 0, 1) := by decide +kernel
theorem dX12_race_29 : decode cX12_race 29 = .ok (.iload_n 2, 1) := by decide +kernel
theorem dX12_race_30 : decode cX12_race 30 = .ok (.invokevirtual 126, 3) := by decide +kernel
theorem dX12_race_33 : decode cX12_race 33 = .ok (.aload_n 0, 1) := by decide +kernel
theorem dX12_race_34 : decode cX12_race 34 = .ok (.invokevirtual 353, 3) := by decide +kernel
theorem dX12_race_37 : decode cX12_race 37 = .ok (.istore 4, 2) := by decide +kernel
theorem dX12_race_39 : decode cX12_race 39 = .ok (.iload_n 3, 1) := by decide +kernel
theorem dX12_race_40 : decode cX12_race 40 = .ok (.iload 4, 2) := by decide +kernel
theorem dX12_race_42 : decode cX12_race 42 = .ok (.if_icmp .ne 14, 3) := by decide +kernel
theorem dX12_race_45 : decode cX12_race 45 = .ok (.iload_n 3, 1) := by decide +kernel
theorem dX12_race_46 : decode cX12_race 46 = .ok (.iconst (-1), 1) := by decide +kernel
theorem dX12_race_47 : decode cX12_race 47 = .ok (.if_icmp .ne 7, 3) := by decide +kernel
theorem dX12_race_50 : decode cX12_race 50 = .ok (.iconst (-1), 1) := by decide +kernel
theorem dX12_race_51 : decode cX12_race 51 = .ok (.goto 4, 3) := by decide +kernel
theorem dX12_race_54 : decode cX12_race 54 = .ok (.iconst 2, 1) := by decide +kernel
theorem dX12_race_55 : decode cX12_race 55 = .ok (.ireturn, 1) := by decide +kernel
theorem dX12_race_56 : decode cX12_race 56 = .ok (.iload_n 3, 1) := by decide +kernel
theorem dX12_race_57 : decode cX12_race 57 = .ok (.iconst (-1), 1) := by decide +kernel
theorem dX12_race_58 : decode cX12_race 58 = .ok (.if_icmp .ne 5, 3) := by decide +kernel
theorem dX12_race_61 : decode cX12_race 61 = .ok (.iconst 1, 1) := by decide +kernel
theorem dX12_race_62 : decode cX12_race 62 = .ok (.ireturn, 1) := by decide +kernel
theorem dX12_race_63 : decode cX12_race 63 = .ok (.iload 4, 2) := by decide +kernel
theorem dX12_race_65 : decode cX12_race 65 = .ok (.iconst (-1), 1) := by decide +kernel
theorem dX12_race_66 : decode cX12_race 66 = .ok (.if_icmp .ne 5, 3) := by decide +kernel
theorem dX12_race_69 : decode cX12_race 69 = .ok (.iconst 0, 1) := by decide +kernel
theorem dX12_race_70 : decode cX12_race 70 = .ok (.ireturn, 1) := by decide +kernel
theorem dX12_race_71 : decode cX12_race 71 = .ok (.iload_n 3, 1) := by decide +kernel
theorem dX12_race_72 : decode cX12_race 72 = .ok (.iload 4, 2) := by decide +kernel
theorem dX12_race_74 : decode cX12_race 74 = .ok (.if_icmp .ge 7, 3) := by decide +kernel
theorem dX12_race_77 : decode cX12_race 77 = .ok (.iconst 0, 1) := by decide +kernel
theorem dX12_race_78 : decode cX12_race 78 = .ok (.goto 4, 3) := by decide +kernel
theorem dX12_race_81 : decode cX12_race 81 = .ok (.iconst 1, 1) := by decide +kernel
theorem dX12_race_82 : decode cX12_race 82 = .ok (.ireturn, 1) := by decide +kernel
theorem dX12_keeps_0 : decode cX12_keeps 0 = .ok (.bipush 98, 2) := by decide +kernel
theorem dX12_keeps_2 : decode cX12_keeps 2 = .ok (.istore_n 2, 1) := by decide +kernel
theorem dX12_keeps_3 : decode cX12_keeps 3 = .ok (.aload_n 0, 1) := by decide +kernel
theorem dX12_keeps_4 : decode cX12_keeps 4 = .ok (.getfield 11, 3) := by decide +kernel
theorem dX12_keeps_7 : decode cX12_keeps 7 = .ok (.bipush 16, 2) := by decide +kernel
theorem dX12_keeps_9 : decode cX12_keeps 9 = .ok (.if_icmp .ne 43, 3) := by decide +kernel
theorem dX12_keeps_12 : decode cX12_keeps 12 = .ok (.iconst 0, 1) := by decide +kernel
theorem dX12_keeps_13 : decode cX12_keeps 13 = .ok (.istore_n 3, 1) := by decide +kernel
theorem dX12_keeps_14 : decode cX12_keeps 14 = .ok (.iload_n 3, 1) := by decide +kernel
theorem dX12_keeps_15 : decode cX12_keeps 15 = .ok (.bipush 15, 2) := by decide +kernel
theorem dX12_keeps_17 : decode cX12_keeps 17 = .ok (.iload_n 2, 1) := by decide +kernel
theorem dX12_keeps_18 : decode cX12_keeps 18 = .ok (.imul, 1) := by decide +kernel
theorem dX12_keeps_19 : decode cX12_keeps 19 = .ok (.if_icmp .ge 23, 3) := by decide +kernel
theorem dX12_keeps_22 : decode cX12_keeps 22 = .ok (.aload_n 0, 1) := by decide +kernel
theorem dX12_keeps_23 : decode cX12_keeps 23 = .ok (.getfield 74, 3) := by decide +kernel
theorem dX12_keeps_26 : decode cX12_keeps 26 = .ok (.iload_n 3, 1) := by decide +kernel
theorem dX12_keeps_27 : decode cX12_keeps 27 = .ok (.aload_n 0, 1) := by decide +kernel
theorem dX12_keeps_28 : decode cX12_keeps 28 = .ok (.getfield 74, 3) := by decide +kernel
theorem dX12_keeps_31 : decode cX12_keeps 31 = .ok (.iload_n 3, 1) := by decide +kernel
theorem dX12_keeps_32 : decode cX12_keeps 32 = .ok (.iload_n 2, 1) := by decide +kernel
theorem dX12_keeps_33 : decode cX12_keeps 33 = .ok (.iadd, 1) := by decide +kernel
theorem dX12_keeps_34 : decode cX12_keeps 34 = .ok (.iaload, 1) := by decide +kernel
theorem dX12_keeps_35 : decode cX12_keeps 35 = .ok (.iastore, 1) := by decide +kernel
theorem dX12_keeps_36 : decode cX12_keeps 36 = .ok (.iinc 3 1, 3) := by decide +kernel
theorem dX12_keeps_39 : decode cX12_keeps 39 = .ok (.goto (-25), 3) := by decide +kernel
theorem dX12_keeps_42 : decode cX12_keeps 42 = .ok (.aload_n 0, 1) := by decide +kernel
theorem dX12_keeps_43 : decode cX12_keeps 43 = .ok (.dup, 1) := by decide +kernel
theorem dX12_keeps_44 : decode cX12_keeps 44 = .ok (.getfield 11, 3) := by decide +kernel
theorem dX12_keeps_47 : decode cX12_keeps 47 = .ok (.iconst 1, 1) := by decide +kernel
theorem dX12_keeps_48 : decode cX12_keeps 48 = .ok (.isub, 1) := by decide +kernel
theorem dX12_keeps_49 : decode cX12_keeps 49 = .ok (.putfield 11, 3) := by decide +kernel
theorem dX12_keeps_52 : decode cX12_keeps 52 = .ok (.iconst 0, 1) := by decide +kernel
theorem dX12_keeps_53 : decode cX12_keeps 53 = .ok (.istore_n 3, 1) := by decide +kernel
theorem dX12_keeps_54 : decode cX12_keeps 54 = .ok (.iload_n 3, 1) := by decide +kernel
theorem dX12_keeps_55 : decode cX12_keeps 55 = .ok (.bipush 97, 2) := by decide +kernel
theorem dX12_keeps_57 : decode cX12_keeps 57 = .ok (.if_icmp .ge 28, 3) := by decide +kernel
theorem dX12_keeps_60 : decode cX12_keeps 60 = .ok (.aload_n 0, 1) := by decide +kernel
theorem dX12_keeps_61 : decode cX12_keeps 61 = .ok (.getfield 74, 3) := by decide +kernel
theorem dX12_keeps_64 : decode cX12_keeps 64 = .ok (.iload_n 2, 1) := by decide +kernel
theorem dX12_keeps_65 : decode cX12_keeps 65 = .ok (.aload_n 0, 1) := by decide +kernel
theorem dX12_keeps_66 : decode cX12_keeps 66 = .ok (.getfield 11, 3) := by decide +kernel
theorem dX12_keeps_69 : decode cX12_keeps 69 = .ok (.imul, 1) := by decide +kernel
theorem dX12_keeps_70 : decode cX12_keeps 70 = .ok (.iload_n 3, 1) := by decide +kernel
theorem dX12_keeps_71 : decode cX12_keeps 71 = .ok (.iadd, 1) := by decide +kernel
theorem dX12_keeps_72 : decode cX12_keeps 72 = .ok (.aload_n 0, 1) := by decide +kernel
theorem dX12_keeps_73 : decode cX12_keeps 73 = .ok (.getfield 24, 3) := by decide +kernel
theorem dX12_keeps_76 : decode cX12_keeps 76 = .ok (.iload_n 3, 1) := by decide +kernel
theorem dX12_keeps_77 : decode cX12_keeps 77 = .ok (.iaload, 1) := by decide +kernel
theorem dX12_keeps_78 : decode cX12_keeps 78 = .ok (.iastore, 1) := by decide +kernel
theorem dX12_keeps_79 : decode cX12_keeps 79 = .ok (.iinc 3 1, 3) := by decide +kernel
theorem dX12_keeps_82 : decode cX12_keeps 82 = .ok (.goto (-28), 3) := by decide +kernel
theorem dX12_keeps_85 : decode cX12_keeps 85 = .ok (.aload_n 0, 1) := by decide +kernel
theorem dX12_keeps_86 : decode cX12_keeps 86 = .ok (.getfield 74, 3) := by decide +kernel
theorem dX12_keeps_89 : decode cX12_keeps 89 = .ok (.iload_n 2, 1) := by decide +kernel
theorem dX12_keeps_90 : decode cX12_keeps 90 = .ok (.aload_n 0, 1) := by decide +kernel
theorem dX12_keeps_91 : decode cX12_keeps 91 = .ok (.getfield 11, 3) := by decide +kernel
theorem dX12_keeps_94 : decode cX12_keeps 94 = .ok (.imul, 1) := by decide +kernel
theorem dX12_keeps_95 : decode cX12_keeps 95 = .ok (.bipush 97, 2) := by decide +kernel
theorem dX12_keeps_97 : decode cX12_keeps 97 = .ok (.iadd, 1) := by decide +kernel
theorem dX12_keeps_98 : decode cX12_keeps 98 = .ok (.iload_n 1, 1) := by decide +kernel
theorem dX12_keeps_99 : decode cX12_keeps 99 = .ok (.iastore, 1) := by decide +kernel
theorem dX12_keeps_100 : decode cX12_keeps 100 = .ok (.aload_n 0, 1) := by decide +kernel
theorem dX12_keeps_101 : decode cX12_keeps 101 = .ok (.dup, 1) := by decide +kernel
theorem dX12_keeps_102 : decode cX12_keeps 102 = .ok (.getfield 11, 3) := by decide +kernel
theorem dX12_keeps_105 : decode cX12_keeps 105 = .ok (.iconst 1, 1) := by decide +kernel
theorem dX12_keeps_106 : decode cX12_keeps 106 = .ok (.iadd, 1) := by decide +kernel
theorem dX12_keeps_107 : decode cX12_keeps 107 = .ok (.putfield 11, 3) := by decide +kernel
theorem dX12_keeps_110 : decode cX12_keeps 110 = .ok (.return_, 1) := by decide +kernel
theorem dX12_undo_0 : decode cX12_undo 0 = .ok (.aload_n 0, 1) := by decide +kernel
theorem dX12_undo_1 : decode cX12_undo 1 = .ok (.getfield 11, 3) := by decide +kernel
theorem dX12_undo_4 : decode cX12_undo 4 = .ok (.ifCond .ne 10, 3) := by decide +kernel
theorem dX12_undo_7 : decode cX12_undo 7 = .ok (.aload_n 0, 1) := by decide +kernel
theorem dX12_undo_8 : decode cX12_undo 8 = .ok (.bipush (-3), 2) := by decide +kernel
theorem dX12_undo_10 : decode cX12_undo 10 = .ok (.invokevirtual 106, 3) := by decide +kernel
theorem dX12_undo_13 : decode cX12_undo 13 = .ok (.ireturn, 1) := by decide +kernel
theorem dX12_undo_14 : decode cX12_undo 14 = .ok (.aload_n 0, 1) := by decide +kernel
theorem dX12_undo_15 : decode cX12_undo 15 = .ok (.dup, 1) := by decide +kernel
theorem dX12_undo_16 : decode cX12_undo 16 = .ok (.getfield 11, 3) := by decide +kernel
theorem dX12_undo_19 : decode cX12_undo 19 = .ok (.iconst 1, 1) := by decide +kernel
theorem dX12_undo_20 : decode cX12_undo 20 = .ok (.isub, 1) := by decide +kernel
theorem dX12_undo_21 : decode cX12_undo 21 = .ok (.putfield 11, 3) := by decide +kernel
theorem dX12_undo_24 : decode cX12_undo 24 = .ok (.bipush 98, 2) := by decide +kernel
theorem dX12_undo_26 : decode cX12_undo 26 = .ok (.aload_n 0, 1) := by decide +kernel
theorem dX12_undo_27 : decode cX12_undo 27 = .ok (.getfield 11, 3) := by decide +kernel
theorem dX12_undo_30 : decode cX12_undo 30 = .ok (.imul, 1) := by decide +kernel
theorem dX12_undo_31 : decode cX12_undo 31 = .ok (.istore_n 1, 1) := by decide +kernel
theorem dX12_undo_32 : decode cX12_undo 32 = .ok (.iconst 0, 1) := by decide +kernel
theorem dX12_undo_33 : decode cX12_undo 33 = .ok (.istore_n 2, 1) := by decide +kernel
theorem dX12_undo_34 : decode cX12_undo 34 = .ok (.iload_n 2, 1) := by decide +kernel
theorem dX12_undo_35 : decode cX12_undo 35 = .ok (.bipush 97, 2) := by decide +kernel
theorem dX12_undo_37 : decode cX12_undo 37 = .ok (.if_icmp .ge 23, 3) := by decide +kernel
theorem dX12_undo_40 : decode cX12_undo 40 = .ok (.aload_n 0, 1) := by decide +kernel
theorem dX12_undo_41 : decode cX12_undo 41 = .ok (.getfield 24, 3) := by decide +kernel
theorem dX12_undo_44 : decode cX12_undo 44 = .ok (.iload_n 2, 1) := by decide +kernel
theorem dX12_undo_45 : decode cX12_undo 45 = .ok (.aload_n 0, 1) := by decide +kernel
theorem dX12_undo_46 : decode cX12_undo 46 = .ok (.getfield 74, 3) := by decide +kernel
theorem dX12_undo_49 : decode cX12_undo 49 = .ok (.iload_n 1, 1) := by decide +kernel
theorem dX12_undo_50 : decode cX12_undo 50 = .ok (.iload_n 2, 1) := by decide +kernel
theorem dX12_undo_51 : decode cX12_undo 51 = .ok (.iadd, 1) := by decide +kernel
theorem dX12_undo_52 : decode cX12_undo 52 = .ok (.iaload, 1) := by decide +kernel
theorem dX12_undo_53 : decode cX12_undo 53 = .ok (.iastore, 1) := by decide +kernel
theorem dX12_undo_54 : decode cX12_undo 54 = .ok (.iinc 2 1, 3) := by decide +kernel
theorem dX12_undo_57 : decode cX12_undo 57 = .ok (.goto (-23), 3) := by decide +kernel
theorem dX12_undo_60 : decode cX12_undo 60 = .ok (.aload_n 0, 1) := by decide +kernel
theorem dX12_undo_61 : decode cX12_undo 61 = .ok (.aload_n 0, 1) := by decide +kernel
theorem dX12_undo_62 : decode cX12_undo 62 = .ok (.getfield 74, 3) := by decide +kernel
theorem dX12_undo_65 : decode cX12_undo 65 = .ok (.iload_n 1, 1) := by decide +kernel
theorem dX12_undo_66 : decode cX12_undo 66 = .ok (.bipush 97, 2) := by decide +kernel
theorem dX12_undo_68 : decode cX12_undo 68 = .ok (.iadd, 1) := by decide +kernel
theorem dX12_undo_69 : decode cX12_undo 69 = .ok (.iaload, 1) := by decide +kernel
theorem dX12_undo_70 : decode cX12_undo 70 = .ok (.invokevirtual 14, 3) := by decide +kernel
theorem dX12_undo_73 : decode cX12_undo 73 = .ok (.ireturn, 1) := by decide +kernel
theorem dX12_goodOr_0 : decode cX12_goodOr 0 = .ok (.iload_n 1, 1) := by decide +kernel
theorem dX12_goodOr_1 : decode cX12_goodOr 1 = .ok (.ifCond .ge 11, 3) := by decide +kernel
theorem dX12_goodOr_4 : decode cX12_goodOr 4 = .ok (.aload_n 0, 1) := by decide +kernel
theorem dX12_goodOr_5 : decode cX12_goodOr 5 = .ok (.iload_n 1, 1) := by decide +kernel
theorem dX12_goodOr_6 : decode cX12_goodOr 6 = .ok (.invokevirtual 106, 3) := by decide +kernel
theorem dX12_goodOr_9 : decode cX12_goodOr 9 = .ok (.goto 8, 3) := by decide +kernel
theorem dX12_goodOr_12 : decode cX12_goodOr 12 = .ok (.aload_n 0, 1) := by decide +kernel
theorem dX12_goodOr_13 : decode cX12_goodOr 13 = .ok (.iload_n 1, 1) := by decide +kernel
theorem dX12_goodOr_14 : decode cX12_goodOr 14 = .ok (.invokevirtual 14, 3) := by decide +kernel
theorem dX12_goodOr_17 : decode cX12_goodOr 17 = .ok (.ireturn, 1) := by decide +kernel
theorem dX12_puts_0 : decode cX12_puts 0 = .ok (.iconst 0, 1) := by decide +kernel
theorem dX12_puts_1 : decode cX12_puts 1 = .ok (.istore_n 2, 1) := by decide +kernel
theorem dX12_puts_2 : decode cX12_puts 2 = .ok (.iload_n 2, 1) := by decide +kernel
theorem dX12_puts_3 : decode cX12_puts 3 = .ok (.bipush 13, 2) := by decide +kernel
theorem dX12_puts_5 : decode cX12_puts 5 = .ok (.if_icmp .ge 28, 3) := by decide +kernel
theorem dX12_puts_8 : decode cX12_puts 8 = .ok (.aload_n 0, 1) := by decide +kernel
theorem dX12_puts_9 : decode cX12_puts 9 = .ok (.getfield 24, 3) := by decide +kernel
theorem dX12_puts_12 : decode cX12_puts 12 = .ok (.iload_n 1, 1) := by decide +kernel
theorem dX12_puts_13 : decode cX12_puts 13 = .ok (.invokestatic 112, 3) := by decide +kernel
theorem dX12_puts_16 : decode cX12_puts 16 = .ok (.iconst 3, 1) := by decide +kernel
theorem dX12_puts_17 : decode cX12_puts 17 = .ok (.iadd, 1) := by decide +kernel
theorem dX12_puts_18 : decode cX12_puts 18 = .ok (.iload_n 2, 1) := by decide +kernel
theorem dX12_puts_19 : decode cX12_puts 19 = .ok (.iadd, 1) := by decide +kernel
theorem dX12_puts_20 : decode cX12_puts 20 = .ok (.aload_n 0, 1) := by decide +kernel
theorem dX12_puts_21 : decode cX12_puts 21 = .ok (.getfield 65, 3) := by decide +kernel
theorem dX12_puts_24 : decode cX12_puts 24 = .ok (.iload_n 2, 1) := by decide +kernel
theorem dX12_puts_25 : decode cX12_puts 25 = .ok (.iaload, 1) := by decide +kernel
theorem dX12_puts_26 : decode cX12_puts 26 = .ok (.iastore, 1) := by decide +kernel
theorem dX12_puts_27 : decode cX12_puts 27 = .ok (.iinc 2 1, 3) := by decide +kernel
theorem dX12_puts_30 : decode cX12_puts 30 = .ok (.goto (-28), 3) := by decide +kernel
theorem dX12_puts_33 : decode cX12_puts 33 = .ok (.aload_n 0, 1) := by decide +kernel
theorem dX12_puts_34 : decode cX12_puts 34 = .ok (.getfield 24, 3) := by decide +kernel
theorem dX12_puts_37 : decode cX12_puts 37 = .ok (.iload_n 1, 1) := by decide +kernel
theorem dX12_puts_38 : decode cX12_puts 38 = .ok (.invokestatic 112, 3) := by decide +kernel
theorem dX12_puts_41 : decode cX12_puts 41 = .ok (.iconst 2, 1) := by decide +kernel
theorem dX12_puts_42 : decode cX12_puts 42 = .ok (.iadd, 1) := by decide +kernel
theorem dX12_puts_43 : decode cX12_puts 43 = .ok (.aload_n 0, 1) := by decide +kernel
theorem dX12_puts_44 : decode cX12_puts 44 = .ok (.getfield 133, 3) := by decide +kernel
theorem dX12_puts_47 : decode cX12_puts 47 = .ok (.iastore, 1) := by decide +kernel
theorem dX12_puts_48 : decode cX12_puts 48 = .ok (.return_, 1) := by decide +kernel
theorem dX12_stepsKept_0 : decode cX12_stepsKept 0 = .ok (.aload_n 0, 1) := by decide +kernel
theorem dX12_stepsKept_1 : decode cX12_stepsKept 1 = .ok (.iload_n 1, 1) := by decide +kernel
theorem dX12_stepsKept_2 : decode cX12_stepsKept 2 = .ok (.invokevirtual 122, 3) := by decide +kernel
theorem dX12_stepsKept_5 : decode cX12_stepsKept 5 = .ok (.ifCond .ne 6, 3) := by decide +kernel
theorem dX12_stepsKept_8 : decode cX12_stepsKept 8 = .ok (.bipush (-2), 2) := by decide +kernel
theorem dX12_stepsKept_10 : decode cX12_stepsKept 10 = .ok (.ireturn, 1) := by decide +kernel
theorem dX12_stepsKept_11 : decode cX12_stepsKept 11 = .ok (.aload_n 0, 1) := by decide +kernel
theorem dX12_stepsKept_12 : decode cX12_stepsKept 12 = .ok (.iload_n 1, 1) := by decide +kernel
theorem dX12_stepsKept_13 : decode cX12_stepsKept 13 = .ok (.invokevirtual 126, 3) := by decide +kernel
theorem dX12_stepsKept_16 : decode cX12_stepsKept 16 = .ok (.aload_n 0, 1) := by decide +kernel
theorem dX12_stepsKept_17 : decode cX12_stepsKept 17 = .ok (.invokevirtual 350, 3) := by decide +kernel
theorem dX12_stepsKept_20 : decode cX12_stepsKept 20 = .ok (.ifCond .ne 6, 3) := by decide +kernel
theorem dX12_stepsKept_23 : decode cX12_stepsKept 23 = .ok (.bipush (-3), 2) := by decide +kernel
theorem dX12_stepsKept_25 : decode cX12_stepsKept 25 = .ok (.ireturn, 1) := by decide +kernel
theorem dX12_stepsKept_26 : decode cX12_stepsKept 26 = .ok (.aload_n 0, 1) := by decide +kernel
theorem dX12_stepsKept_27 : decode cX12_stepsKept 27 = .ok (.iconst 0, 1) := by decide +kernel
theorem dX12_stepsKept_28 : decode cX12_stepsKept 28 = .ok (.invokevirtual 356, 3) := by decide +kernel
theorem dX12_stepsKept_31 : decode cX12_stepsKept 31 = .ok (.aload_n 0, 1) := by decide +kernel
theorem dX12_stepsKept_32 : decode cX12_stepsKept 32 = .ok (.invokevirtual 343, 3) := by decide +kernel
theorem dX12_stepsKept_35 : decode cX12_stepsKept 35 = .ok (.aload_n 0, 1) := by decide +kernel
theorem dX12_stepsKept_36 : decode cX12_stepsKept 36 = .ok (.iload_n 1, 1) := by decide +kernel
theorem dX12_stepsKept_37 : decode cX12_stepsKept 37 = .ok (.invokevirtual 359, 3) := by decide +kernel
theorem dX12_stepsKept_40 : decode cX12_stepsKept 40 = .ok (.iload_n 1, 1) := by decide +kernel
theorem dX12_stepsKept_41 : decode cX12_stepsKept 41 = .ok (.invokestatic 112, 3) := by decide +kernel
theorem dX12_stepsKept_44 : decode cX12_stepsKept 44 = .ok (.iconst 1, 1) := by decide +kernel
theorem dX12_stepsKept_45 : decode cX12_stepsKept 45 = .ok (.iadd, 1) := by decide +kernel
theorem dX12_stepsKept_46 : decode cX12_stepsKept 46 = .ok (.istore_n 2, 1) := by decide +kernel
theorem dX12_stepsKept_47 : decode cX12_stepsKept 47 = .ok (.aload_n 0, 1) := by decide +kernel
theorem dX12_stepsKept_48 : decode cX12_stepsKept 48 = .ok (.getfield 24, 3) := by decide +kernel
theorem dX12_stepsKept_51 : decode cX12_stepsKept 51 = .ok (.iload_n 2, 1) := by decide +kernel
theorem dX12_stepsKept_52 : decode cX12_stepsKept 52 = .ok (.sipush 9999, 3) := by decide +kernel
theorem dX12_stepsKept_55 : decode cX12_stepsKept 55 = .ok (.aload_n 0, 1) := by decide +kernel
theorem dX12_stepsKept_56 : decode cX12_stepsKept 56 = .ok (.getfield 24, 3) := by decide +kernel
theorem dX12_stepsKept_59 : decode cX12_stepsKept 59 = .ok (.iload_n 2, 1) := by decide +kernel
theorem dX12_stepsKept_60 : decode cX12_stepsKept 60 = .ok (.iaload, 1) := by decide +kernel
theorem dX12_stepsKept_61 : decode cX12_stepsKept 61 = .ok (.iconst 1, 1) := by decide +kernel
theorem dX12_stepsKept_62 : decode cX12_stepsKept 62 = .ok (.iadd, 1) := by decide +kernel
theorem dX12_stepsKept_63 : decode cX12_stepsKept 63 = .ok (.invokestatic 362, 3) := by decide +kernel
theorem dX12_stepsKept_66 : decode cX12_stepsKept 66 = .ok (.iastore, 1) := by decide +kernel
theorem dX12_stepsKept_67 : decode cX12_stepsKept 67 = .ok (.aload_n 0, 1) := by decide +kernel
theorem dX12_stepsKept_68 : decode cX12_stepsKept 68 = .ok (.getfield 24, 3) := by decide +kernel
theorem dX12_stepsKept_71 : decode cX12_stepsKept 71 = .ok (.iload_n 2, 1) := by decide +kernel
theorem dX12_stepsKept_72 : decode cX12_stepsKept 72 = .ok (.iaload, 1) := by decide +kernel
theorem dX12_stepsKept_73 : decode cX12_stepsKept 73 = .ok (.ireturn, 1) := by decide +kernel
theorem dX12_swapsKept_0 : decode cX12_swapsKept 0 = .ok (.aload_n 0, 1) := by decide +kernel
theorem dX12_swapsKept_1 : decode cX12_swapsKept 1 = .ok (.iload_n 1, 1) := by decide +kernel
theorem dX12_swapsKept_2 : decode cX12_swapsKept 2 = .ok (.invokevirtual 122, 3) := by decide +kernel
theorem dX12_swapsKept_5 : decode cX12_swapsKept 5 = .ok (.ifCond .ne 6, 3) := by decide +kernel
theorem dX12_swapsKept_8 : decode cX12_swapsKept 8 = .ok (.bipush (-2), 2) := by decide +kernel
theorem dX12_swapsKept_10 : decode cX12_swapsKept 10 = .ok (.ireturn, 1) := by decide +kernel
theorem dX12_swapsKept_11 : decode cX12_swapsKept 11 = .ok (.iload_n 2, 1) := by decide +kernel
theorem dX12_swapsKept_12 : decode cX12_swapsKept 12 = .ok (.iconst 0, 1) := by decide +kernel
theorem dX12_swapsKept_13 : decode cX12_swapsKept 13 = .ok (.aload_n 0, 1) := by decide +kernel
theorem dX12_swapsKept_14 : decode cX12_swapsKept 14 = .ok (.iload_n 1, 1) := by decide +kernel
theorem dX12_swapsKept_15 : decode cX12_swapsKept 15 = .ok (.invokevirtual 316, 3) := by decide +kernel
theorem dX12_swapsKept_18 : decode cX12_swapsKept 18 = .ok (.iconst 1, 1) := by decide +kernel
theorem dX12_swapsKept_19 : decode cX12_swapsKept 19 = .ok (.isub, 1) := by decide +kernel
theorem dX12_swapsKept_20 : decode cX12_swapsKept 20 = .ok (.invokestatic 102, 3) := by decide +kernel
theorem dX12_swapsKept_23 : decode cX12_swapsKept 23 = .ok (.ifCond .eq 23, 3) := by decide +kernel
theorem dX12_swapsKept_26 : decode cX12_swapsKept 26 = .ok (.iload_n 3, 1) := by decide +kernel
theorem dX12_swapsKept_27 : decode cX12_swapsKept 27 = .ok (.iconst 0, 1) := by decide +kernel
theorem dX12_swapsKept_28 : decode cX12_swapsKept 28 = .ok (.aload_n 0, 1) := by decide +kernel
theorem dX12_swapsKept_29 : decode cX12_swapsKept 29 = .ok (.iload_n 1, 1) := by decide +kernel
theorem dX12_swapsKept_30 : decode cX12_swapsKept 30 = .ok (.invokevirtual 316, 3) := by decide +kernel
theorem dX12_swapsKept_33 : decode cX12_swapsKept 33 = .ok (.iconst 1, 1) := by decide +kernel
theorem dX12_swapsKept_34 : decode cX12_swapsKept 34 = .ok (.isub, 1) := by decide +kernel
theorem dX12_swapsKept_35 : decode cX12_swapsKept 35 = .ok (.invokestatic 102, 3) := by decide +kernel
theorem dX12_swapsKept_38 : decode cX12_swapsKept 38 = .ok (.ifCond .eq 8, 3) := by decide +kernel
theorem dX12_swapsKept_41 : decode cX12_swapsKept 41 = .ok (.iload_n 2, 1) := by decide +kernel
theorem dX12_swapsKept_42 : decode cX12_swapsKept 42 = .ok (.iload_n 3, 1) := by decide +kernel
theorem dX12_swapsKept_43 : decode cX12_swapsKept 43 = .ok (.if_icmp .ne 5, 3) := by decide +kernel
theorem dX12_swapsKept_46 : decode cX12_swapsKept 46 = .ok (.iconst (-1), 1) := by decide +kernel
theorem dX12_swapsKept_47 : decode cX12_swapsKept 47 = .ok (.ireturn, 1) := by decide +kernel
theorem dX12_swapsKept_48 : decode cX12_swapsKept 48 = .ok (.aload_n 0, 1) := by decide +kernel
theorem dX12_swapsKept_49 : decode cX12_swapsKept 49 = .ok (.iconst 1, 1) := by decide +kernel
theorem dX12_swapsKept_50 : decode cX12_swapsKept 50 = .ok (.invokevirtual 356, 3) := by decide +kernel
theorem dX12_swapsKept_53 : decode cX12_swapsKept 53 = .ok (.iload_n 1, 1) := by decide +kernel
theorem dX12_swapsKept_54 : decode cX12_swapsKept 54 = .ok (.invokestatic 112, 3) := by decide +kernel
theorem dX12_swapsKept_57 : decode cX12_swapsKept 57 = .ok (.iconst 3, 1) := by decide +kernel
theorem dX12_swapsKept_58 : decode cX12_swapsKept 58 = .ok (.iadd, 1) := by decide +kernel
theorem dX12_swapsKept_59 : decode cX12_swapsKept 59 = .ok (.istore 4, 2) := by decide +kernel
theorem dX12_swapsKept_61 : decode cX12_swapsKept 61 = .ok (.aload_n 0, 1) := by decide +kernel
theorem dX12_swapsKept_62 : decode cX12_swapsKept 62 = .ok (.getfield 24, 3) := by decide +kernel
theorem dX12_swapsKept_65 : decode cX12_swapsKept 65 = .ok (.iload 4, 2) := by decide +kernel
theorem dX12_swapsKept_67 : decode cX12_swapsKept 67 = .ok (.iload_n 2, 1) := by decide +kernel
theorem dX12_swapsKept_68 : decode cX12_swapsKept 68 = .ok (.iadd, 1) := by decide +kernel
theorem dX12_swapsKept_69 : decode cX12_swapsKept 69 = .ok (.iaload, 1) := by decide +kernel
theorem dX12_swapsKept_70 : decode cX12_swapsKept 70 = .ok (.istore 5, 2) := by decide +kernel
theorem dX12_swapsKept_72 : decode cX12_swapsKept 72 = .ok (.aload_n 0, 1) := by decide +kernel
theorem dX12_swapsKept_73 : decode cX12_swapsKept 73 = .ok (.getfield 24, 3) := by decide +kernel
theorem dX12_swapsKept_76 : decode cX12_swapsKept 76 = .ok (.iload 4, 2) := by decide +kernel
theorem dX12_swapsKept_78 : decode cX12_swapsKept 78 = .ok (.iload_n 2, 1) := by decide +kernel
theorem dX12_swapsKept_79 : decode cX12_swapsKept 79 = .ok (.iadd, 1) := by decide +kernel
theorem dX12_swapsKept_80 : decode cX12_swapsKept 80 = .ok (.aload_n 0, 1) := by decide +kernel
theorem dX12_swapsKept_81 : decode cX12_swapsKept 81 = .ok (.getfield 24, 3) := by decide +kernel
theorem dX12_swapsKept_84 : decode cX12_swapsKept 84 = .ok (.iload 4, 2) := by decide +kernel
theorem dX12_swapsKept_86 : decode cX12_swapsKept 86 = .ok (.iload_n 3, 1) := by decide +kernel
theorem dX12_swapsKept_87 : decode cX12_swapsKept 87 = .ok (.iadd, 1) := by decide +kernel
theorem dX12_swapsKept_88 : decode cX12_swapsKept 88 = .ok (.iaload, 1) := by decide +kernel
theorem dX12_swapsKept_89 : decode cX12_swapsKept 89 = .ok (.iastore, 1) := by decide +kernel
theorem dX12_swapsKept_90 : decode cX12_swapsKept 90 = .ok (.aload_n 0, 1) := by decide +kernel
theorem dX12_swapsKept_91 : decode cX12_swapsKept 91 = .ok (.getfield 24, 3) := by decide +kernel
theorem dX12_swapsKept_94 : decode cX12_swapsKept 94 = .ok (.iload 4, 2) := by decide +kernel
theorem dX12_swapsKept_96 : decode cX12_swapsKept 96 = .ok (.iload_n 3, 1) := by decide +kernel
theorem dX12_swapsKept_97 : decode cX12_swapsKept 97 = .ok (.iadd, 1) := by decide +kernel
theorem dX12_swapsKept_98 : decode cX12_swapsKept 98 = .ok (.iload 5, 2) := by decide +kernel
theorem dX12_swapsKept_100 : decode cX12_swapsKept 100 = .ok (.iastore, 1) := by decide +kernel
theorem dX12_swapsKept_101 : decode cX12_swapsKept 101 = .ok (.aload_n 0, 1) := by decide +kernel
theorem dX12_swapsKept_102 : decode cX12_swapsKept 102 = .ok (.getfield 24, 3) := by decide +kernel
theorem dX12_swapsKept_105 : decode cX12_swapsKept 105 = .ok (.iload 4, 2) := by decide +kernel
theorem dX12_swapsKept_107 : decode cX12_swapsKept 107 = .ok (.iaload, 1) := by decide +kernel
theorem dX12_swapsKept_108 : decode cX12_swapsKept 108 = .ok (.ireturn, 1) := by decide +kernel
theorem dX12_cutsKept_0 : decode cX12_cutsKept 0 = .ok (.aload_n 0, 1) := by decide +kernel
theorem dX12_cutsKept_1 : decode cX12_cutsKept 1 = .ok (.iload_n 1, 1) := by decide +kernel
theorem dX12_cutsKept_2 : decode cX12_cutsKept 2 = .ok (.invokevirtual 122, 3) := by decide +kernel
theorem dX12_cutsKept_5 : decode cX12_cutsKept 5 = .ok (.ifCond .ne 6, 3) := by decide +kernel
theorem dX12_cutsKept_8 : decode cX12_cutsKept 8 = .ok (.bipush (-2), 2) := by decide +kernel
theorem dX12_cutsKept_10 : decode cX12_cutsKept 10 = .ok (.ireturn, 1) := by decide +kernel
theorem dX12_cutsKept_11 : decode cX12_cutsKept 11 = .ok (.iload_n 2, 1) := by decide +kernel
theorem dX12_cutsKept_12 : decode cX12_cutsKept 12 = .ok (.iconst 1, 1) := by decide +kernel
theorem dX12_cutsKept_13 : decode cX12_cutsKept 13 = .ok (.aload_n 0, 1) := by decide +kernel
theorem dX12_cutsKept_14 : decode cX12_cutsKept 14 = .ok (.iload_n 1, 1) := by decide +kernel
theorem dX12_cutsKept_15 : decode cX12_cutsKept 15 = .ok (.invokevirtual 316, 3) := by decide +kernel
theorem dX12_cutsKept_18 : decode cX12_cutsKept 18 = .ok (.invokestatic 102, 3) := by decide +kernel
theorem dX12_cutsKept_21 : decode cX12_cutsKept 21 = .ok (.ifCond .ne 5, 3) := by decide +kernel
theorem dX12_cutsKept_24 : decode cX12_cutsKept 24 = .ok (.iconst (-1), 1) := by decide +kernel
theorem dX12_cutsKept_25 : decode cX12_cutsKept 25 = .ok (.ireturn, 1) := by decide +kernel
theorem dX12_cutsKept_26 : decode cX12_cutsKept 26 = .ok (.aload_n 0, 1) := by decide +kernel
theorem dX12_cutsKept_27 : decode cX12_cutsKept 27 = .ok (.iconst 2, 1) := by decide +kernel
theorem dX12_cutsKept_28 : decode cX12_cutsKept 28 = .ok (.invokevirtual 356, 3) := by decide +kernel
theorem dX12_cutsKept_31 : decode cX12_cutsKept 31 = .ok (.aload_n 0, 1) := by decide +kernel
theorem dX12_cutsKept_32 : decode cX12_cutsKept 32 = .ok (.iload_n 1, 1) := by decide +kernel
theorem dX12_cutsKept_33 : decode cX12_cutsKept 33 = .ok (.invokevirtual 126, 3) := by decide +kernel
theorem dX12_cutsKept_36 : decode cX12_cutsKept 36 = .ok (.aload_n 0, 1) := by decide +kernel
theorem dX12_cutsKept_37 : decode cX12_cutsKept 37 = .ok (.iload_n 2, 1) := by decide +kernel
theorem dX12_cutsKept_38 : decode cX12_cutsKept 38 = .ok (.invokevirtual 330, 3) := by decide +kernel
theorem dX12_cutsKept_41 : decode cX12_cutsKept 41 = .ok (.aload_n 0, 1) := by decide +kernel
theorem dX12_cutsKept_42 : decode cX12_cutsKept 42 = .ok (.iload_n 1, 1) := by decide +kernel
theorem dX12_cutsKept_43 : decode cX12_cutsKept 43 = .ok (.invokevirtual 359, 3) := by decide +kernel
theorem dX12_cutsKept_46 : decode cX12_cutsKept 46 = .ok (.aload_n 0, 1) := by decide +kernel
theorem dX12_cutsKept_47 : decode cX12_cutsKept 47 = .ok (.getfield 65, 3) := by decide +kernel
theorem dX12_cutsKept_50 : decode cX12_cutsKept 50 = .ok (.iconst 0, 1) := by decide +kernel
theorem dX12_cutsKept_51 : decode cX12_cutsKept 51 = .ok (.iaload, 1) := by decide +kernel
theorem dX12_cutsKept_52 : decode cX12_cutsKept 52 = .ok (.ireturn, 1) := by decide +kernel
theorem dX12_step_0 : decode cX12_step 0 = .ok (.aload_n 0, 1) := by decide +kernel
theorem dX12_step_1 : decode cX12_step 1 = .ok (.aload_n 0, 1) := by decide +kernel
theorem dX12_step_2 : decode cX12_step 2 = .ok (.iload_n 1, 1) := by decide +kernel
theorem dX12_step_3 : decode cX12_step 3 = .ok (.invokevirtual 365, 3) := by decide +kernel
theorem dX12_step_6 : decode cX12_step 6 = .ok (.invokevirtual 368, 3) := by decide +kernel
theorem dX12_step_9 : decode cX12_step 9 = .ok (.ireturn, 1) := by decide +kernel
theorem dX12_swap_0 : decode cX12_swap 0 = .ok (.aload_n 0, 1) := by decide +kernel
theorem dX12_swap_1 : decode cX12_swap 1 = .ok (.aload_n 0, 1) := by decide +kernel
theorem dX12_swap_2 : decode cX12_swap 2 = .ok (.iload_n 1, 1) := by decide +kernel
theorem dX12_swap_3 : decode cX12_swap 3 = .ok (.iload_n 2, 1) := by decide +kernel
theorem dX12_swap_4 : decode cX12_swap 4 = .ok (.iload_n 3, 1) := by decide +kernel
theorem dX12_swap_5 : decode cX12_swap 5 = .ok (.invokevirtual 371, 3) := by decide +kernel
theorem dX12_swap_8 : decode cX12_swap 8 = .ok (.invokevirtual 368, 3) := by decide +kernel
theorem dX12_swap_11 : decode cX12_swap 11 = .ok (.ireturn, 1) := by decide +kernel
theorem dX12_cut_0 : decode cX12_cut 0 = .ok (.aload_n 0, 1) := by decide +kernel
theorem dX12_cut_1 : decode cX12_cut 1 = .ok (.aload_n 0, 1) := by decide +kernel
theorem dX12_cut_2 : decode cX12_cut 2 = .ok (.iload_n 1, 1) := by decide +kernel
theorem dX12_cut_3 : decode cX12_cut 3 = .ok (.iload_n 2, 1) := by decide +kernel
theorem dX12_cut_4 : decode cX12_cut 4 = .ok (.invokevirtual 375, 3) := by decide +kernel
theorem dX12_cut_7 : decode cX12_cut 7 = .ok (.invokevirtual 368, 3) := by decide +kernel
theorem dX12_cut_10 : decode cX12_cut 10 = .ok (.ireturn, 1) := by decide +kernel
theorem dX12_nextRow_0 : decode cX12_nextRow 0 = .ok (.aload_n 0, 1) := by decide +kernel
theorem dX12_nextRow_1 : decode cX12_nextRow 1 = .ok (.getfield 378, 3) := by decide +kernel
theorem dX12_nextRow_4 : decode cX12_nextRow 4 = .ok (.iconst 2, 1) := by decide +kernel
theorem dX12_nextRow_5 : decode cX12_nextRow 5 = .ok (.isub, 1) := by decide +kernel
theorem dX12_nextRow_6 : decode cX12_nextRow 6 = .ok (.istore_n 1, 1) := by decide +kernel
theorem dX12_nextRow_7 : decode cX12_nextRow 7 = .ok (.iload_n 1, 1) := by decide +kernel
theorem dX12_nextRow_8 : decode cX12_nextRow 8 = .ok (.ifCond .lt 26, 3) := by decide +kernel
theorem dX12_nextRow_11 : decode cX12_nextRow 11 = .ok (.aload_n 0, 1) := by decide +kernel
theorem dX12_nextRow_12 : decode cX12_nextRow 12 = .ok (.getfield 80, 3) := by decide +kernel
theorem dX12_nextRow_15 : decode cX12_nextRow 15 = .ok (.iload_n 1, 1) := by decide +kernel
theorem dX12_nextRow_16 : decode cX12_nextRow 16 = .ok (.iaload, 1) := by decide +kernel
theorem dX12_nextRow_17 : decode cX12_nextRow 17 = .ok (.aload_n 0, 1) := by decide +kernel
theorem dX12_nextRow_18 : decode cX12_nextRow 18 = .ok (.getfield 80, 3) := by decide +kernel
theorem dX12_nextRow_21 : decode cX12_nextRow 21 = .ok (.iload_n 1, 1) := by decide +kernel
theorem dX12_nextRow_22 : decode cX12_nextRow 22 = .ok (.iconst 1, 1) := by decide +kernel
theorem dX12_nextRow_23 : decode cX12_nextRow 23 = .ok (.iadd, 1) := by decide +kernel
theorem dX12_nextRow_24 : decode cX12_nextRow 24 = .ok (.iaload, 1) := by decide +kernel
theorem dX12_nextRow_25 : decode cX12_nextRow 25 = .ok (.if_icmp .lt 9, 3) := by decide +kernel
theorem dX12_nextRow_28 : decode cX12_nextRow 28 = .ok (.iinc 1 (-1), 3) := by decide +kernel
theorem dX12_nextRow_31 : decode cX12_nextRow 31 = .ok (.goto (-24), 3) := by decide +kernel
theorem dX12_nextRow_34 : decode cX12_nextRow 34 = .ok (.iload_n 1, 1) := by decide +kernel
theorem dX12_nextRow_35 : decode cX12_nextRow 35 = .ok (.ifCond .ge 5, 3) := by decide +kernel
theorem dX12_nextRow_38 : decode cX12_nextRow 38 = .ok (.iconst 0, 1) := by decide +kernel
theorem dX12_nextRow_39 : decode cX12_nextRow 39 = .ok (.ireturn, 1) := by decide +kernel
theorem dX12_nextRow_40 : decode cX12_nextRow 40 = .ok (.aload_n 0, 1) := by decide +kernel
theorem dX12_nextRow_41 : decode cX12_nextRow 41 = .ok (.getfield 378, 3) := by decide +kernel
theorem dX12_nextRow_44 : decode cX12_nextRow 44 = .ok (.iconst 1, 1) := by decide +kernel
theorem dX12_nextRow_45 : decode cX12_nextRow 45 = .ok (.isub, 1) := by decide +kernel
theorem dX12_nextRow_46 : decode cX12_nextRow 46 = .ok (.istore_n 2, 1) := by decide +kernel
theorem dX12_nextRow_47 : decode cX12_nextRow 47 = .ok (.aload_n 0, 1) := by decide +kernel
theorem dX12_nextRow_48 : decode cX12_nextRow 48 = .ok (.getfield 80, 3) := by decide +kernel
theorem dX12_nextRow_51 : decode cX12_nextRow 51 = .ok (.iload_n 2, 1) := by decide +kernel
theorem dX12_nextRow_52 : decode cX12_nextRow 52 = .ok (.iaload, 1) := by decide +kernel
theorem dX12_nextRow_53 : decode cX12_nextRow 53 = .ok (.aload_n 0, 1) := by decide +kernel
theorem dX12_nextRow_54 : decode cX12_nextRow 54 = .ok (.getfield 80, 3) := by decide +kernel
theorem dX12_nextRow_57 : decode cX12_nextRow 57 = .ok (.iload_n 1, 1) := by decide +kernel
theorem dX12_nextRow_58 : decode cX12_nextRow 58 = .ok (.iaload, 1) := by decide +kernel
theorem dX12_nextRow_59 : decode cX12_nextRow 59 = .ok (.if_icmp .gt 9, 3) := by decide +kernel
theorem dX12_nextRow_62 : decode cX12_nextRow 62 = .ok (.iinc 2 (-1), 3) := by decide +kernel
theorem dX12_nextRow_65 : decode cX12_nextRow 65 = .ok (.goto (-18), 3) := by decide +kernel
theorem dX12_nextRow_68 : decode cX12_nextRow 68 = .ok (.aload_n 0, 1) := by decide +kernel
theorem dX12_nextRow_69 : decode cX12_nextRow 69 = .ok (.getfield 80, 3) := by decide +kernel
theorem dX12_nextRow_72 : decode cX12_nextRow 72 = .ok (.iload_n 1, 1) := by decide +kernel
theorem dX12_nextRow_73 : decode cX12_nextRow 73 = .ok (.iaload, 1) := by decide +kernel
theorem dX12_nextRow_74 : decode cX12_nextRow 74 = .ok (.istore_n 3, 1) := by decide +kernel
theorem dX12_nextRow_75 : decode cX12_nextRow 75 = .ok (.aload_n 0, 1) := by decide +kernel
theorem dX12_nextRow_76 : decode cX12_nextRow 76 = .ok (.getfield 80, 3) := by decide +kernel
theorem dX12_nextRow_79 : decode cX12_nextRow 79 = .ok (.iload_n 1, 1) := by decide +kernel
theorem dX12_nextRow_80 : decode cX12_nextRow 80 = .ok (.aload_n 0, 1) := by decide +kernel
theorem dX12_nextRow_81 : decode cX12_nextRow 81 = .ok (.getfield 80, 3) := by decide +kernel
theorem dX12_nextRow_84 : decode cX12_nextRow 84 = .ok (.iload_n 2, 1) := by decide +kernel
theorem dX12_nextRow_85 : decode cX12_nextRow 85 = .ok (.iaload, 1) := by decide +kernel
theorem dX12_nextRow_86 : decode cX12_nextRow 86 = .ok (.iastore, 1) := by decide +kernel
theorem dX12_nextRow_87 : decode cX12_nextRow 87 = .ok (.aload_n 0, 1) := by decide +kernel
theorem dX12_nextRow_88 : decode cX12_nextRow 88 = .ok (.getfield 80, 3) := by decide +kernel
theorem dX12_nextRow_91 : decode cX12_nextRow 91 = .ok (.iload_n 2, 1) := by decide +kernel
theorem dX12_nextRow_92 : decode cX12_nextRow 92 = .ok (.iload_n 3, 1) := by decide +kernel
theorem dX12_nextRow_93 : decode cX12_nextRow 93 = .ok (.iastore, 1) := by decide +kernel
theorem dX12_nextRow_94 : decode cX12_nextRow 94 = .ok (.iload_n 1, 1) := by decide +kernel
theorem dX12_nextRow_95 : decode cX12_nextRow 95 = .ok (.iconst 1, 1) := by decide +kernel
theorem dX12_nextRow_96 : decode cX12_nextRow 96 = .ok (.iadd, 1) := by decide +kernel
theorem dX12_nextRow_97 : decode cX12_nextRow 97 = .ok (.istore 4, 2) := by decide +kernel
theorem dX12_nextRow_99 : decode cX12_nextRow 99 = .ok (.aload_n 0, 1) := by decide +kernel
theorem dX12_nextRow_100 : decode cX12_nextRow 100 = .ok (.getfield 378, 3) := by decide +kernel
theorem dX12_nextRow_103 : decode cX12_nextRow 103 = .ok (.iconst 1, 1) := by decide +kernel
theorem dX12_nextRow_104 : decode cX12_nextRow 104 = .ok (.isub, 1) := by decide +kernel
theorem dX12_nextRow_105 : decode cX12_nextRow 105 = .ok (.istore 5, 2) := by decide +kernel
theorem dX12_nextRow_107 : decode cX12_nextRow 107 = .ok (.iload 4, 2) := by decide +kernel
theorem dX12_nextRow_109 : decode cX12_nextRow 109 = .ok (.iload 5, 2) := by decide +kernel
theorem dX12_nextRow_111 : decode cX12_nextRow 111 = .ok (.if_icmp .ge 42, 3) := by decide +kernel
theorem dX12_nextRow_114 : decode cX12_nextRow 114 = .ok (.aload_n 0, 1) := by decide +kernel
theorem dX12_nextRow_115 : decode cX12_nextRow 115 = .ok (.getfield 80, 3) := by decide +kernel
theorem dX12_nextRow_118 : decode cX12_nextRow 118 = .ok (.iload 4, 2) := by decide +kernel
theorem dX12_nextRow_120 : decode cX12_nextRow 120 = .ok (.iaload, 1) := by decide +kernel
theorem dX12_nextRow_121 : decode cX12_nextRow 121 = .ok (.istore_n 3, 1) := by decide +kernel
theorem dX12_nextRow_122 : decode cX12_nextRow 122 = .ok (.aload_n 0, 1) := by decide +kernel
theorem dX12_nextRow_123 : decode cX12_nextRow 123 = .ok (.getfield 80, 3) := by decide +kernel
theorem dX12_nextRow_126 : decode cX12_nextRow 126 = .ok (.iload 4, 2) := by decide +kernel
theorem dX12_nextRow_128 : decode cX12_nextRow 128 = .ok (.aload_n 0, 1) := by decide +kernel
theorem dX12_nextRow_129 : decode cX12_nextRow 129 = .ok (.getfield 80, 3) := by decide +kernel
theorem dX12_nextRow_132 : decode cX12_nextRow 132 = .ok (.iload 5, 2) := by decide +kernel
theorem dX12_nextRow_134 : decode cX12_nextRow 134 = .ok (.iaload, 1) := by decide +kernel
theorem dX12_nextRow_135 : decode cX12_nextRow 135 = .ok (.iastore, 1) := by decide +kernel
theorem dX12_nextRow_136 : decode cX12_nextRow 136 = .ok (.aload_n 0, 1) := by decide +kernel
theorem dX12_nextRow_137 : decode cX12_nextRow 137 = .ok (.getfield 80, 3) := by decide +kernel
theorem dX12_nextRow_140 : decode cX12_nextRow 140 = .ok (.iload 5, 2) := by decide +kernel
theorem dX12_nextRow_142 : decode cX12_nextRow 142 = .ok (.iload_n 3, 1) := by decide +kernel
theorem dX12_nextRow_143 : decode cX12_nextRow 143 = .ok (.iastore, 1) := by decide +kernel
theorem dX12_nextRow_144 : decode cX12_nextRow 144 = .ok (.iinc 4 1, 3) := by decide +kernel
theorem dX12_nextRow_147 : decode cX12_nextRow 147 = .ok (.iinc 5 (-1), 3) := by decide +kernel
theorem dX12_nextRow_150 : decode cX12_nextRow 150 = .ok (.goto (-43), 3) := by decide +kernel
theorem dX12_nextRow_153 : decode cX12_nextRow 153 = .ok (.iconst 1, 1) := by decide +kernel
theorem dX12_nextRow_154 : decode cX12_nextRow 154 = .ok (.ireturn, 1) := by decide +kernel
theorem dX12_firstOrder_0 : decode cX12_firstOrder 0 = .ok (.aload_n 0, 1) := by decide +kernel
theorem dX12_firstOrder_1 : decode cX12_firstOrder 1 = .ok (.iload_n 1, 1) := by decide +kernel
theorem dX12_firstOrder_2 : decode cX12_firstOrder 2 = .ok (.putfield 378, 3) := by decide +kernel
theorem dX12_firstOrder_5 : decode cX12_firstOrder 5 = .ok (.iconst 0, 1) := by decide +kernel
theorem dX12_firstOrder_6 : decode cX12_firstOrder 6 = .ok (.istore_n 2, 1) := by decide +kernel
theorem dX12_firstOrder_7 : decode cX12_firstOrder 7 = .ok (.iload_n 2, 1) := by decide +kernel
theorem dX12_firstOrder_8 : decode cX12_firstOrder 8 = .ok (.iload_n 1, 1) := by decide +kernel
theorem dX12_firstOrder_9 : decode cX12_firstOrder 9 = .ok (.if_icmp .ge 18, 3) := by decide +kernel
theorem dX12_firstOrder_12 : decode cX12_firstOrder 12 = .ok (.aload_n 0, 1) := by decide +kernel
theorem dX12_firstOrder_13 : decode cX12_firstOrder 13 = .ok (.getfield 80, 3) := by decide +kernel
theorem dX12_firstOrder_16 : decode cX12_firstOrder 16 = .ok (.iload_n 2, 1) := by decide +kernel
theorem dX12_firstOrder_17 : decode cX12_firstOrder 17 = .ok (.iload_n 2, 1) := by decide +kernel
theorem dX12_firstOrder_18 : decode cX12_firstOrder 18 = .ok (.iconst 1, 1) := by decide +kernel
theorem dX12_firstOrder_19 : decode cX12_firstOrder 19 = .ok (.iadd, 1) := by decide +kernel
theorem dX12_firstOrder_20 : decode cX12_firstOrder 20 = .ok (.iastore, 1) := by decide +kernel
theorem dX12_firstOrder_21 : decode cX12_firstOrder 21 = .ok (.iinc 2 1, 3) := by decide +kernel
theorem dX12_firstOrder_24 : decode cX12_firstOrder 24 = .ok (.goto (-17), 3) := by decide +kernel
theorem dX12_firstOrder_27 : decode cX12_firstOrder 27 = .ok (.return_, 1) := by decide +kernel
theorem dX12_firstRow_0 : decode cX12_firstRow 0 = .ok (.aload_n 0, 1) := by decide +kernel
theorem dX12_firstRow_1 : decode cX12_firstRow 1 = .ok (.aload_n 0, 1) := by decide +kernel
theorem dX12_firstRow_2 : decode cX12_firstRow 2 = .ok (.iload_n 1, 1) := by decide +kernel
theorem dX12_firstRow_3 : decode cX12_firstRow 3 = .ok (.invokevirtual 316, 3) := by decide +kernel
theorem dX12_firstRow_6 : decode cX12_firstRow 6 = .ok (.putfield 378, 3) := by decide +kernel
theorem dX12_firstRow_9 : decode cX12_firstRow 9 = .ok (.iconst 0, 1) := by decide +kernel
theorem dX12_firstRow_10 : decode cX12_firstRow 10 = .ok (.istore_n 2, 1) := by decide +kernel
theorem dX12_firstRow_11 : decode cX12_firstRow 11 = .ok (.iload_n 2, 1) := by decide +kernel
theorem dX12_firstRow_12 : decode cX12_firstRow 12 = .ok (.aload_n 0, 1) := by decide +kernel
theorem dX12_firstRow_13 : decode cX12_firstRow 13 = .ok (.getfield 378, 3) := by decide +kernel
theorem dX12_firstRow_16 : decode cX12_firstRow 16 = .ok (.if_icmp .ge 67, 3) := by decide +kernel
theorem dX12_firstRow_19 : decode cX12_firstRow 19 = .ok (.aload_n 0, 1) := by decide +kernel
theorem dX12_firstRow_20 : decode cX12_firstRow 20 = .ok (.iload_n 1, 1) := by decide +kernel
theorem dX12_firstRow_21 : decode cX12_firstRow 21 = .ok (.iload_n 2, 1) := by decide +kernel
theorem dX12_firstRow_22 : decode cX12_firstRow 22 = .ok (.invokevirtual 280, 3) := by decide +kernel
theorem dX12_firstRow_25 : decode cX12_firstRow 25 = .ok (.istore_n 3, 1) := by decide +kernel
theorem dX12_firstRow_26 : decode cX12_firstRow 26 = .ok (.iload_n 2, 1) := by decide +kernel
theorem dX12_firstRow_27 : decode cX12_firstRow 27 = .ok (.istore 4, 2) := by decide +kernel
theorem dX12_firstRow_29 : decode cX12_firstRow 29 = .ok (.iload 4, 2) := by decide +kernel
theorem dX12_firstRow_31 : decode cX12_firstRow 31 = .ok (.ifCond .le 38, 3) := by decide +kernel
theorem dX12_firstRow_34 : decode cX12_firstRow 34 = .ok (.aload_n 0, 1) := by decide +kernel
theorem dX12_firstRow_35 : decode cX12_firstRow 35 = .ok (.getfield 80, 3) := by decide +kernel
theorem dX12_firstRow_38 : decode cX12_firstRow 38 = .ok (.iload 4, 2) := by decide +kernel
theorem dX12_firstRow_40 : decode cX12_firstRow 40 = .ok (.iconst 1, 1) := by decide +kernel
theorem dX12_firstRow_41 : decode cX12_firstRow 41 = .ok (.isub, 1) := by decide +kernel
theorem dX12_firstRow_42 : decode cX12_firstRow 42 = .ok (.iaload, 1) := by decide +kernel
theorem dX12_firstRow_43 : decode cX12_firstRow 43 = .ok (.iload_n 3, 1) := by decide +kernel
theorem dX12_firstRow_44 : decode cX12_firstRow 44 = .ok (.if_icmp .le 25, 3) := by decide +kernel
theorem dX12_firstRow_47 : decode cX12_firstRow 47 = .ok (.aload_n 0, 1) := by decide +kernel
theorem dX12_firstRow_48 : decode cX12_firstRow 48 = .ok (.getfield 80, 3) := by decide +kernel
theorem dX12_firstRow_51 : decode cX12_firstRow 51 = .ok (.iload 4, 2) := by decide +kernel
theorem dX12_firstRow_53 : decode cX12_firstRow 53 = .ok (.aload_n 0, 1) := by decide +kernel
theorem dX12_firstRow_54 : decode cX12_firstRow 54 = .ok (.getfield 80, 3) := by decide +kernel
theorem dX12_firstRow_57 : decode cX12_firstRow 57 = .ok (.iload 4, 2) := by decide +kernel
theorem dX12_firstRow_59 : decode cX12_firstRow 59 = .ok (.iconst 1, 1) := by decide +kernel
theorem dX12_firstRow_60 : decode cX12_firstRow 60 = .ok (.isub, 1) := by decide +kernel
theorem dX12_firstRow_61 : decode cX12_firstRow 61 = .ok (.iaload, 1) := by decide +kernel
theorem dX12_firstRow_62 : decode cX12_firstRow 62 = .ok (.iastore, 1) := by decide +kernel
theorem dX12_firstRow_63 : decode cX12_firstRow 63 = .ok (.iinc 4 (-1), 3) := by decide +kernel
theorem dX12_firstRow_66 : decode cX12_firstRow 66 = .ok (.goto (-37), 3) := by decide +kernel
theorem dX12_firstRow_69 : decode cX12_firstRow 69 = .ok (.aload_n 0, 1) := by decide +kernel
theorem dX12_firstRow_70 : decode cX12_firstRow 70 = .ok (.getfield 80, 3) := by decide +kernel
theorem dX12_firstRow_73 : decode cX12_firstRow 73 = .ok (.iload 4, 2) := by decide +kernel
theorem dX12_firstRow_75 : decode cX12_firstRow 75 = .ok (.iload_n 3, 1) := by decide +kernel
theorem dX12_firstRow_76 : decode cX12_firstRow 76 = .ok (.iastore, 1) := by decide +kernel
theorem dX12_firstRow_77 : decode cX12_firstRow 77 = .ok (.iinc 2 1, 3) := by decide +kernel
theorem dX12_firstRow_80 : decode cX12_firstRow 80 = .ok (.goto (-69), 3) := by decide +kernel
theorem dX12_firstRow_83 : decode cX12_firstRow 83 = .ok (.return_, 1) := by decide +kernel
theorem dX12_takesRow_0 : decode cX12_takesRow 0 = .ok (.aload_n 0, 1) := by decide +kernel
theorem dX12_takesRow_1 : decode cX12_takesRow 1 = .ok (.aload_n 0, 1) := by decide +kernel
theorem dX12_takesRow_2 : decode cX12_takesRow 2 = .ok (.getfield 378, 3) := by decide +kernel
theorem dX12_takesRow_5 : decode cX12_takesRow 5 = .ok (.putfield 130, 3) := by decide +kernel
theorem dX12_takesRow_8 : decode cX12_takesRow 8 = .ok (.aload_n 0, 1) := by decide +kernel
theorem dX12_takesRow_9 : decode cX12_takesRow 9 = .ok (.iconst 0, 1) := by decide +kernel
theorem dX12_takesRow_10 : decode cX12_takesRow 10 = .ok (.putfield 133, 3) := by decide +kernel
theorem dX12_takesRow_13 : decode cX12_takesRow 13 = .ok (.aload_n 0, 1) := by decide +kernel
theorem dX12_takesRow_14 : decode cX12_takesRow 14 = .ok (.iload_n 1, 1) := by decide +kernel
theorem dX12_takesRow_15 : decode cX12_takesRow 15 = .ok (.putfield 313, 3) := by decide +kernel
theorem dX12_takesRow_18 : decode cX12_takesRow 18 = .ok (.iconst 0, 1) := by decide +kernel
theorem dX12_takesRow_19 : decode cX12_takesRow 19 = .ok (.istore_n 2, 1) := by decide +kernel
theorem dX12_takesRow_20 : decode cX12_takesRow 20 = .ok (.iload_n 2, 1) := by decide +kernel
theorem dX12_takesRow_21 : decode cX12_takesRow 21 = .ok (.aload_n 0, 1) := by decide +kernel
theorem dX12_takesRow_22 : decode cX12_takesRow 22 = .ok (.getfield 378, 3) := by decide +kernel
theorem dX12_takesRow_25 : decode cX12_takesRow 25 = .ok (.if_icmp .ge 21, 3) := by decide +kernel
theorem dX12_takesRow_28 : decode cX12_takesRow 28 = .ok (.aload_n 0, 1) := by decide +kernel
theorem dX12_takesRow_29 : decode cX12_takesRow 29 = .ok (.getfield 65, 3) := by decide +kernel
theorem dX12_takesRow_32 : decode cX12_takesRow 32 = .ok (.iload_n 2, 1) := by decide +kernel
theorem dX12_takesRow_33 : decode cX12_takesRow 33 = .ok (.aload_n 0, 1) := by decide +kernel
theorem dX12_takesRow_34 : decode cX12_takesRow 34 = .ok (.getfield 80, 3) := by decide +kernel
theorem dX12_takesRow_37 : decode cX12_takesRow 37 = .ok (.iload_n 2, 1) := by decide +kernel
theorem dX12_takesRow_38 : decode cX12_takesRow 38 = .ok (.iaload, 1) := by decide +kernel
theorem dX12_takesRow_39 : decode cX12_takesRow 39 = .ok (.iastore, 1) := by decide +kernel
theorem dX12_takesRow_40 : decode cX12_takesRow 40 = .ok (.iinc 2 1, 3) := by decide +kernel
theorem dX12_takesRow_43 : decode cX12_takesRow 43 = .ok (.goto (-23), 3) := by decide +kernel
theorem dX12_takesRow_46 : decode cX12_takesRow 46 = .ok (.return_, 1) := by decide +kernel
theorem dX12_finds_0 : decode cX12_finds 0 = .ok (.iconst 0, 1) := by decide +kernel
theorem dX12_finds_1 : decode cX12_finds 1 = .ok (.istore_n 1, 1) := by decide +kernel
theorem dX12_finds_2 : decode cX12_finds 2 = .ok (.iload_n 1, 1) := by decide +kernel
theorem dX12_finds_3 : decode cX12_finds 3 = .ok (.aload_n 0, 1) := by decide +kernel
theorem dX12_finds_4 : decode cX12_finds 4 = .ok (.getfield 378, 3) := by decide +kernel
theorem dX12_finds_7 : decode cX12_finds 7 = .ok (.if_icmp .ge 21, 3) := by decide +kernel
theorem dX12_finds_10 : decode cX12_finds 10 = .ok (.aload_n 0, 1) := by decide +kernel
theorem dX12_finds_11 : decode cX12_finds 11 = .ok (.getfield 83, 3) := by decide +kernel
theorem dX12_finds_14 : decode cX12_finds 14 = .ok (.iload_n 1, 1) := by decide +kernel
theorem dX12_finds_15 : decode cX12_finds 15 = .ok (.aload_n 0, 1) := by decide +kernel
theorem dX12_finds_16 : decode cX12_finds 16 = .ok (.getfield 80, 3) := by decide +kernel
theorem dX12_finds_19 : decode cX12_finds 19 = .ok (.iload_n 1, 1) := by decide +kernel
theorem dX12_finds_20 : decode cX12_finds 20 = .ok (.iaload, 1) := by decide +kernel
theorem dX12_finds_21 : decode cX12_finds 21 = .ok (.iastore, 1) := by decide +kernel
theorem dX12_finds_22 : decode cX12_finds 22 = .ok (.iinc 1 1, 3) := by decide +kernel
theorem dX12_finds_25 : decode cX12_finds 25 = .ok (.goto (-23), 3) := by decide +kernel
theorem dX12_finds_28 : decode cX12_finds 28 = .ok (.return_, 1) := by decide +kernel
theorem dX12_longest_0 : decode cX12_longest 0 = .ok (.iload_n 1, 1) := by decide +kernel
theorem dX12_longest_1 : decode cX12_longest 1 = .ok (.iconst 1, 1) := by decide +kernel
theorem dX12_longest_2 : decode cX12_longest 2 = .ok (.bipush 7, 2) := by decide +kernel
theorem dX12_longest_4 : decode cX12_longest 4 = .ok (.invokestatic 102, 3) := by decide +kernel
theorem dX12_longest_7 : decode cX12_longest 7 = .ok (.ifCond .eq 14, 3) := by decide +kernel
theorem dX12_longest_10 : decode cX12_longest 10 = .ok (.iload_n 2, 1) := by decide +kernel
theorem dX12_longest_11 : decode cX12_longest 11 = .ok (.iconst 0, 1) := by decide +kernel
theorem dX12_longest_12 : decode cX12_longest 12 = .ok (.iconst 1, 1) := by decide +kernel
theorem dX12_longest_13 : decode cX12_longest 13 = .ok (.iload_n 1, 1) := by decide +kernel
theorem dX12_longest_14 : decode cX12_longest 14 = .ok (.iadd, 1) := by decide +kernel
theorem dX12_longest_15 : decode cX12_longest 15 = .ok (.invokestatic 102, 3) := by decide +kernel
theorem dX12_longest_18 : decode cX12_longest 18 = .ok (.ifCond .ne 5, 3) := by decide +kernel
theorem dX12_longest_21 : decode cX12_longest 21 = .ok (.iconst (-1), 1) := by decide +kernel
theorem dX12_longest_22 : decode cX12_longest 22 = .ok (.ireturn, 1) := by decide +kernel
theorem dX12_longest_23 : decode cX12_longest 23 = .ok (.iconst (-1), 1) := by decide +kernel
theorem dX12_longest_24 : decode cX12_longest 24 = .ok (.istore_n 3, 1) := by decide +kernel
theorem dX12_longest_25 : decode cX12_longest 25 = .ok (.iconst 0, 1) := by decide +kernel
theorem dX12_longest_26 : decode cX12_longest 26 = .ok (.istore 4, 2) := by decide +kernel
theorem dX12_longest_28 : decode cX12_longest 28 = .ok (.aload_n 0, 1) := by decide +kernel
theorem dX12_longest_29 : decode cX12_longest 29 = .ok (.iload_n 1, 1) := by decide +kernel
theorem dX12_longest_30 : decode cX12_longest 30 = .ok (.invokevirtual 381, 3) := by decide +kernel
theorem dX12_longest_33 : decode cX12_longest 33 = .ok (.iconst 1, 1) := by decide +kernel
theorem dX12_longest_34 : decode cX12_longest 34 = .ok (.istore 5, 2) := by decide +kernel
theorem dX12_longest_36 : decode cX12_longest 36 = .ok (.iload 5, 2) := by decide +kernel
theorem dX12_longest_38 : decode cX12_longest 38 = .ok (.ifCond .eq 61, 3) := by decide +kernel
theorem dX12_longest_41 : decode cX12_longest 41 = .ok (.aload_n 0, 1) := by decide +kernel
theorem dX12_longest_42 : decode cX12_longest 42 = .ok (.iconst (-1), 1) := by decide +kernel
theorem dX12_longest_43 : decode cX12_longest 43 = .ok (.invokevirtual 384, 3) := by decide +kernel
theorem dX12_longest_46 : decode cX12_longest 46 = .ok (.aload_n 0, 1) := by decide +kernel
theorem dX12_longest_47 : decode cX12_longest 47 = .ok (.invokevirtual 353, 3) := by decide +kernel
theorem dX12_longest_50 : decode cX12_longest 50 = .ok (.istore 6, 2) := by decide +kernel
theorem dX12_longest_52 : decode cX12_longest 52 = .ok (.iload 6, 2) := by decide +kernel
theorem dX12_longest_54 : decode cX12_longest 54 = .ok (.iload_n 3, 1) := by decide +kernel
theorem dX12_longest_55 : decode cX12_longest 55 = .ok (.if_icmp .le 13, 3) := by decide +kernel
theorem dX12_longest_58 : decode cX12_longest 58 = .ok (.iload 6, 2) := by decide +kernel
theorem dX12_longest_60 : decode cX12_longest 60 = .ok (.istore_n 3, 1) := by decide +kernel
theorem dX12_longest_61 : decode cX12_longest 61 = .ok (.iconst 0, 1) := by decide +kernel
theorem dX12_longest_62 : decode cX12_longest 62 = .ok (.istore 4, 2) := by decide +kernel
theorem dX12_longest_64 : decode cX12_longest 64 = .ok (.aload_n 0, 1) := by decide +kernel
theorem dX12_longest_65 : decode cX12_longest 65 = .ok (.invokevirtual 387, 3) := by decide +kernel
theorem dX12_longest_68 : decode cX12_longest 68 = .ok (.iload 4, 2) := by decide +kernel
theorem dX12_longest_70 : decode cX12_longest 70 = .ok (.iload 6, 2) := by decide +kernel
theorem dX12_longest_72 : decode cX12_longest 72 = .ok (.iload_n 3, 1) := by decide +kernel
theorem dX12_longest_73 : decode cX12_longest 73 = .ok (.if_icmp .ne 13, 3) := by decide +kernel
theorem dX12_longest_76 : decode cX12_longest 76 = .ok (.iload 6, 2) := by decide +kernel
theorem dX12_longest_78 : decode cX12_longest 78 = .ok (.iconst (-1), 1) := by decide +kernel
theorem dX12_longest_79 : decode cX12_longest 79 = .ok (.if_icmp .eq 7, 3) := by decide +kernel
theorem dX12_longest_82 : decode cX12_longest 82 = .ok (.iconst 1, 1) := by decide +kernel
theorem dX12_longest_83 : decode cX12_longest 83 = .ok (.goto 4, 3) := by decide +kernel
theorem dX12_longest_86 : decode cX12_longest 86 = .ok (.iconst 0, 1) := by decide +kernel
theorem dX12_longest_87 : decode cX12_longest 87 = .ok (.iadd, 1) := by decide +kernel
theorem dX12_longest_88 : decode cX12_longest 88 = .ok (.istore 4, 2) := by decide +kernel
theorem dX12_longest_90 : decode cX12_longest 90 = .ok (.aload_n 0, 1) := by decide +kernel
theorem dX12_longest_91 : decode cX12_longest 91 = .ok (.invokevirtual 390, 3) := by decide +kernel
theorem dX12_longest_94 : decode cX12_longest 94 = .ok (.istore 5, 2) := by decide +kernel
theorem dX12_longest_96 : decode cX12_longest 96 = .ok (.goto (-60), 3) := by decide +kernel
theorem dX12_longest_99 : decode cX12_longest 99 = .ok (.iload_n 3, 1) := by decide +kernel
theorem dX12_longest_100 : decode cX12_longest 100 = .ok (.iconst (-1), 1) := by decide +kernel
theorem dX12_longest_101 : decode cX12_longest 101 = .ok (.if_icmp .eq 7, 3) := by decide +kernel
theorem dX12_longest_104 : decode cX12_longest 104 = .ok (.iload_n 2, 1) := by decide +kernel
theorem dX12_longest_105 : decode cX12_longest 105 = .ok (.ifCond .ne 7, 3) := by decide +kernel
theorem dX12_longest_108 : decode cX12_longest 108 = .ok (.iload_n 3, 1) := by decide +kernel
theorem dX12_longest_109 : decode cX12_longest 109 = .ok (.goto 21, 3) := by decide +kernel
theorem dX12_longest_112 : decode cX12_longest 112 = .ok (.iload_n 2, 1) := by decide +kernel
theorem dX12_longest_113 : decode cX12_longest 113 = .ok (.iconst 1, 1) := by decide +kernel
theorem dX12_longest_114 : decode cX12_longest 114 = .ok (.if_icmp .ne 8, 3) := by decide +kernel
theorem dX12_longest_117 : decode cX12_longest 117 = .ok (.iload 4, 2) := by decide +kernel
theorem dX12_longest_119 : decode cX12_longest 119 = .ok (.goto 11, 3) := by decide +kernel
theorem dX12_longest_122 : decode cX12_longest 122 = .ok (.aload_n 0, 1) := by decide +kernel
theorem dX12_longest_123 : decode cX12_longest 123 = .ok (.getfield 83, 3) := by decide +kernel
theorem dX12_longest_126 : decode cX12_longest 126 = .ok (.iload_n 2, 1) := by decide +kernel
theorem dX12_longest_127 : decode cX12_longest 127 = .ok (.iconst 2, 1) := by decide +kernel
theorem dX12_longest_128 : decode cX12_longest 128 = .ok (.isub, 1) := by decide +kernel
theorem dX12_longest_129 : decode cX12_longest 129 = .ok (.iaload, 1) := by decide +kernel
theorem dX12_longest_130 : decode cX12_longest 130 = .ok (.ireturn, 1) := by decide +kernel
theorem dX12_rises_0 : decode cX12_rises 0 = .ok (.iconst 1, 1) := by decide +kernel
theorem dX12_rises_1 : decode cX12_rises 1 = .ok (.istore_n 1, 1) := by decide +kernel
theorem dX12_rises_2 : decode cX12_rises 2 = .ok (.iconst 1, 1) := by decide +kernel
theorem dX12_rises_3 : decode cX12_rises 3 = .ok (.istore_n 2, 1) := by decide +kernel
theorem dX12_rises_4 : decode cX12_rises 4 = .ok (.iload_n 2, 1) := by decide +kernel
theorem dX12_rises_5 : decode cX12_rises 5 = .ok (.aload_n 0, 1) := by decide +kernel
theorem dX12_rises_6 : decode cX12_rises 6 = .ok (.getfield 130, 3) := by decide +kernel
theorem dX12_rises_9 : decode cX12_rises 9 = .ok (.if_icmp .ge 36, 3) := by decide +kernel
theorem dX12_rises_12 : decode cX12_rises 12 = .ok (.iload_n 1, 1) := by decide +kernel
theorem dX12_rises_13 : decode cX12_rises 13 = .ok (.ifCond .eq 24, 3) := by decide +kernel
theorem dX12_rises_16 : decode cX12_rises 16 = .ok (.aload_n 0, 1) := by decide +kernel
theorem dX12_rises_17 : decode cX12_rises 17 = .ok (.getfield 65, 3) := by decide +kernel
theorem dX12_rises_20 : decode cX12_rises 20 = .ok (.iload_n 2, 1) := by decide +kernel
theorem dX12_rises_21 : decode cX12_rises 21 = .ok (.iconst 1, 1) := by decide +kernel
theorem dX12_rises_22 : decode cX12_rises 22 = .ok (.isub, 1) := by decide +kernel
theorem dX12_rises_23 : decode cX12_rises 23 = .ok (.iaload, 1) := by decide +kernel
theorem dX12_rises_24 : decode cX12_rises 24 = .ok (.aload_n 0, 1) := by decide +kernel
theorem dX12_rises_25 : decode cX12_rises 25 = .ok (.getfield 65, 3) := by decide +kernel
theorem dX12_rises_28 : decode cX12_rises 28 = .ok (.iload_n 2, 1) := by decide +kernel
theorem dX12_rises_29 : decode cX12_rises 29 = .ok (.iaload, 1) := by decide +kernel
theorem dX12_rises_30 : decode cX12_rises 30 = .ok (.if_icmp .gt 7, 3) := by decide +kernel
theorem dX12_rises_33 : decode cX12_rises 33 = .ok (.iconst 1, 1) := by decide +kernel
theorem dX12_rises_34 : decode cX12_rises 34 = .ok (.goto 4, 3) := by decide +kernel
theorem dX12_rises_37 : decode cX12_rises 37 = .ok (.iconst 0, 1) := by decide +kernel
theorem dX12_rises_38 : decode cX12_rises 38 = .ok (.istore_n 1, 1) := by decide +kernel
theorem dX12_rises_39 : decode cX12_rises 39 = .ok (.iinc 2 1, 3) := by decide +kernel
theorem dX12_rises_42 : decode cX12_rises 42 = .ok (.goto (-38), 3) := by decide +kernel
theorem dX12_rises_45 : decode cX12_rises 45 = .ok (.iload_n 1, 1) := by decide +kernel
theorem dX12_rises_46 : decode cX12_rises 46 = .ok (.ireturn, 1) := by decide +kernel
theorem dX12_orderly_0 : decode cX12_orderly 0 = .ok (.iload_n 1, 1) := by decide +kernel
theorem dX12_orderly_1 : decode cX12_orderly 1 = .ok (.iconst 1, 1) := by decide +kernel
theorem dX12_orderly_2 : decode cX12_orderly 2 = .ok (.bipush 7, 2) := by decide +kernel
theorem dX12_orderly_4 : decode cX12_orderly 4 = .ok (.invokestatic 102, 3) := by decide +kernel
theorem dX12_orderly_7 : decode cX12_orderly 7 = .ok (.ifCond .eq 12, 3) := by decide +kernel
theorem dX12_orderly_10 : decode cX12_orderly 10 = .ok (.iload_n 2, 1) := by decide +kernel
theorem dX12_orderly_11 : decode cX12_orderly 11 = .ok (.iconst 0, 1) := by decide +kernel
theorem dX12_orderly_12 : decode cX12_orderly 12 = .ok (.iconst 3, 1) := by decide +kernel
theorem dX12_orderly_13 : decode cX12_orderly 13 = .ok (.invokestatic 102, 3) := by decide +kernel
theorem dX12_orderly_16 : decode cX12_orderly 16 = .ok (.ifCond .ne 5, 3) := by decide +kernel
theorem dX12_orderly_19 : decode cX12_orderly 19 = .ok (.iconst (-1), 1) := by decide +kernel
theorem dX12_orderly_20 : decode cX12_orderly 20 = .ok (.ireturn, 1) := by decide +kernel
theorem dX12_orderly_21 : decode cX12_orderly 21 = .ok (.iconst 0, 1) := by decide +kernel
theorem dX12_orderly_22 : decode cX12_orderly 22 = .ok (.istore_n 3, 1) := by decide +kernel
theorem dX12_orderly_23 : decode cX12_orderly 23 = .ok (.iconst 0, 1) := by decide +kernel
theorem dX12_orderly_24 : decode cX12_orderly 24 = .ok (.istore 4, 2) := by decide +kernel
theorem dX12_orderly_26 : decode cX12_orderly 26 = .ok (.iconst 0, 1) := by decide +kernel
theorem dX12_orderly_27 : decode cX12_orderly 27 = .ok (.istore 5, 2) := by decide +kernel
theorem dX12_orderly_29 : decode cX12_orderly 29 = .ok (.iconst 0, 1) := by decide +kernel
theorem dX12_orderly_30 : decode cX12_orderly 30 = .ok (.istore 6, 2) := by decide +kernel
theorem dX12_orderly_32 : decode cX12_orderly 32 = .ok (.aload_n 0, 1) := by decide +kernel
theorem dX12_orderly_33 : decode cX12_orderly 33 = .ok (.iload_n 1, 1) := by decide +kernel
theorem dX12_orderly_34 : decode cX12_orderly 34 = .ok (.invokevirtual 381, 3) := by decide +kernel
theorem dX12_orderly_37 : decode cX12_orderly 37 = .ok (.iconst 1, 1) := by decide +kernel
theorem dX12_orderly_38 : decode cX12_orderly 38 = .ok (.istore 7, 2) := by decide +kernel
theorem dX12_orderly_40 : decode cX12_orderly 40 = .ok (.iload 7, 2) := by decide +kernel
theorem dX12_orderly_42 : decode cX12_orderly 42 = .ok (.ifCond .eq 121, 3) := by decide +kernel
theorem dX12_orderly_45 : decode cX12_orderly 45 = .ok (.aload_n 0, 1) := by decide +kernel
theorem dX12_orderly_46 : decode cX12_orderly 46 = .ok (.iconst (-1), 1) := by decide +kernel
theorem dX12_orderly_47 : decode cX12_orderly 47 = .ok (.invokevirtual 384, 3) := by decide +kernel
theorem dX12_orderly_50 : decode cX12_orderly 50 = .ok (.aload_n 0, 1) := by decide +kernel
theorem dX12_orderly_51 : decode cX12_orderly 51 = .ok (.invokevirtual 353, 3) := by decide +kernel
theorem dX12_orderly_54 : decode cX12_orderly 54 = .ok (.iconst (-1), 1) := by decide +kernel
theorem dX12_orderly_55 : decode cX12_orderly 55 = .ok (.if_icmp .eq 7, 3) := by decide +kernel
theorem dX12_orderly_58 : decode cX12_orderly 58 = .ok (.iconst 1, 1) := by decide +kernel
theorem dX12_orderly_59 : decode cX12_orderly 59 = .ok (.goto 4, 3) := by decide +kernel
theorem dX12_orderly_62 : decode cX12_orderly 62 = .ok (.iconst 0, 1) := by decide +kernel
theorem dX12_orderly_63 : decode cX12_orderly 63 = .ok (.istore 8, 2) := by decide +kernel
theorem dX12_orderly_65 : decode cX12_orderly 65 = .ok (.iload 8, 2) := by decide +kernel
theorem dX12_orderly_67 : decode cX12_orderly 67 = .ok (.ifCond .ne 14, 3) := by decide +kernel
theorem dX12_orderly_70 : decode cX12_orderly 70 = .ok (.aload_n 0, 1) := by decide +kernel
theorem dX12_orderly_71 : decode cX12_orderly 71 = .ok (.invokevirtual 140, 3) := by decide +kernel
theorem dX12_orderly_74 : decode cX12_orderly 74 = .ok (.ifCond .eq 7, 3) := by decide +kernel
theorem dX12_orderly_77 : decode cX12_orderly 77 = .ok (.iconst 1, 1) := by decide +kernel
theorem dX12_orderly_78 : decode cX12_orderly 78 = .ok (.goto 4, 3) := by decide +kernel
theorem dX12_orderly_81 : decode cX12_orderly 81 = .ok (.iconst 0, 1) := by decide +kernel
theorem dX12_orderly_82 : decode cX12_orderly 82 = .ok (.istore 9, 2) := by decide +kernel
theorem dX12_orderly_84 : decode cX12_orderly 84 = .ok (.iload_n 3, 1) := by decide +kernel
theorem dX12_orderly_85 : decode cX12_orderly 85 = .ok (.iload 8, 2) := by decide +kernel
theorem dX12_orderly_87 : decode cX12_orderly 87 = .ok (.ifCond .eq 7, 3) := by decide +kernel
theorem dX12_orderly_90 : decode cX12_orderly 90 = .ok (.iconst 1, 1) := by decide +kernel
theorem dX12_orderly_91 : decode cX12_orderly 91 = .ok (.goto 4, 3) := by decide +kernel
theorem dX12_orderly_94 : decode cX12_orderly 94 = .ok (.iconst 0, 1) := by decide +kernel
theorem dX12_orderly_95 : decode cX12_orderly 95 = .ok (.iadd, 1) := by decide +kernel
theorem dX12_orderly_96 : decode cX12_orderly 96 = .ok (.istore_n 3, 1) := by decide +kernel
theorem dX12_orderly_97 : decode cX12_orderly 97 = .ok (.iload 4, 2) := by decide +kernel
theorem dX12_orderly_99 : decode cX12_orderly 99 = .ok (.iload 9, 2) := by decide +kernel
theorem dX12_orderly_101 : decode cX12_orderly 101 = .ok (.ifCond .eq 7, 3) := by decide +kernel
theorem dX12_orderly_104 : decode cX12_orderly 104 = .ok (.iconst 1, 1) := by decide +kernel
theorem dX12_orderly_105 : decode cX12_orderly 105 = .ok (.goto 4, 3) := by decide +kernel
theorem dX12_orderly_108 : decode cX12_orderly 108 = .ok (.iconst 0, 1) := by decide +kernel
theorem dX12_orderly_109 : decode cX12_orderly 109 = .ok (.iadd, 1) := by decide +kernel
theorem dX12_orderly_110 : decode cX12_orderly 110 = .ok (.istore 4, 2) := by decide +kernel
theorem dX12_orderly_112 : decode cX12_orderly 112 = .ok (.iload 5, 2) := by decide +kernel
theorem dX12_orderly_114 : decode cX12_orderly 114 = .ok (.iload 8, 2) := by decide +kernel
theorem dX12_orderly_116 : decode cX12_orderly 116 = .ok (.ifCond .ne 8, 3) := by decide +kernel
theorem dX12_orderly_119 : decode cX12_orderly 119 = .ok (.iload 9, 2) := by decide +kernel
theorem dX12_orderly_121 : decode cX12_orderly 121 = .ok (.ifCond .eq 7, 3) := by decide +kernel
theorem dX12_orderly_124 : decode cX12_orderly 124 = .ok (.iconst 0, 1) := by decide +kernel
theorem dX12_orderly_125 : decode cX12_orderly 125 = .ok (.goto 4, 3) := by decide +kernel
theorem dX12_orderly_128 : decode cX12_orderly 128 = .ok (.iconst 1, 1) := by decide +kernel
theorem dX12_orderly_129 : decode cX12_orderly 129 = .ok (.iadd, 1) := by decide +kernel
theorem dX12_orderly_130 : decode cX12_orderly 130 = .ok (.istore 5, 2) := by decide +kernel
theorem dX12_orderly_132 : decode cX12_orderly 132 = .ok (.iload 6, 2) := by decide +kernel
theorem dX12_orderly_134 : decode cX12_orderly 134 = .ok (.iload 8, 2) := by decide +kernel
theorem dX12_orderly_136 : decode cX12_orderly 136 = .ok (.ifCond .eq 14, 3) := by decide +kernel
theorem dX12_orderly_139 : decode cX12_orderly 139 = .ok (.aload_n 0, 1) := by decide +kernel
theorem dX12_orderly_140 : decode cX12_orderly 140 = .ok (.invokevirtual 393, 3) := by decide +kernel
theorem dX12_orderly_143 : decode cX12_orderly 143 = .ok (.ifCond .eq 7, 3) := by decide +kernel
theorem dX12_orderly_146 : decode cX12_orderly 146 = .ok (.iconst 1, 1) := by decide +kernel
theorem dX12_orderly_147 : decode cX12_orderly 147 = .ok (.goto 4, 3) := by decide +kernel
theorem dX12_orderly_150 : decode cX12_orderly 150 = .ok (.iconst 0, 1) := by decide +kernel
theorem dX12_orderly_151 : decode cX12_orderly 151 = .ok (.iadd, 1) := by decide +kernel
theorem dX12_orderly_152 : decode cX12_orderly 152 = .ok (.istore 6, 2) := by decide +kernel
theorem dX12_orderly_154 : decode cX12_orderly 154 = .ok (.aload_n 0, 1) := by decide +kernel
theorem dX12_orderly_155 : decode cX12_orderly 155 = .ok (.invokevirtual 390, 3) := by decide +kernel
theorem dX12_orderly_158 : decode cX12_orderly 158 = .ok (.istore 7, 2) := by decide +kernel
theorem dX12_orderly_160 : decode cX12_orderly 160 = .ok (.goto (-120), 3) := by decide +kernel
theorem dX12_orderly_163 : decode cX12_orderly 163 = .ok (.iload_n 2, 1) := by decide +kernel
theorem dX12_orderly_164 : decode cX12_orderly 164 = .ok (.ifCond .ne 7, 3) := by decide +kernel
theorem dX12_orderly_167 : decode cX12_orderly 167 = .ok (.iload_n 3, 1) := by decide +kernel
theorem dX12_orderly_168 : decode cX12_orderly 168 = .ok (.goto 25, 3) := by decide +kernel
theorem dX12_orderly_171 : decode cX12_orderly 171 = .ok (.iload_n 2, 1) := by decide +kernel
theorem dX12_orderly_172 : decode cX12_orderly 172 = .ok (.iconst 1, 1) := by decide +kernel
theorem dX12_orderly_173 : decode cX12_orderly 173 = .ok (.if_icmp .ne 8, 3) := by decide +kernel
theorem dX12_orderly_176 : decode cX12_orderly 176 = .ok (.iload 4, 2) := by decide +kernel
theorem dX12_orderly_178 : decode cX12_orderly 178 = .ok (.goto 15, 3) := by decide +kernel
theorem dX12_orderly_181 : decode cX12_orderly 181 = .ok (.iload_n 2, 1) := by decide +kernel
theorem dX12_orderly_182 : decode cX12_orderly 182 = .ok (.iconst 2, 1) := by decide +kernel
theorem dX12_orderly_183 : decode cX12_orderly 183 = .ok (.if_icmp .ne 8, 3) := by decide +kernel
theorem dX12_orderly_186 : decode cX12_orderly 186 = .ok (.iload 5, 2) := by decide +kernel
theorem dX12_orderly_188 : decode cX12_orderly 188 = .ok (.goto 5, 3) := by decide +kernel
theorem dX12_orderly_191 : decode cX12_orderly 191 = .ok (.iload 6, 2) := by decide +kernel
theorem dX12_orderly_193 : decode cX12_orderly 193 = .ok (.ireturn, 1) := by decide +kernel
theorem dX12_leadsTo_0 : decode cX12_leadsTo 0 = .ok (.aload_n 0, 1) := by decide +kernel
theorem dX12_leadsTo_1 : decode cX12_leadsTo 1 = .ok (.iload_n 1, 1) := by decide +kernel
theorem dX12_leadsTo_2 : decode cX12_leadsTo 2 = .ok (.invokevirtual 384, 3) := by decide +kernel
theorem dX12_leadsTo_5 : decode cX12_leadsTo 5 = .ok (.aload_n 0, 1) := by decide +kernel
theorem dX12_leadsTo_6 : decode cX12_leadsTo 6 = .ok (.invokevirtual 350, 3) := by decide +kernel
theorem dX12_leadsTo_9 : decode cX12_leadsTo 9 = .ok (.ifCond .ne 5, 3) := by decide +kernel
theorem dX12_leadsTo_12 : decode cX12_leadsTo 12 = .ok (.iconst 0, 1) := by decide +kernel
theorem dX12_leadsTo_13 : decode cX12_leadsTo 13 = .ok (.ireturn, 1) := by decide +kernel
theorem dX12_leadsTo_14 : decode cX12_leadsTo 14 = .ok (.aload_n 0, 1) := by decide +kernel
theorem dX12_leadsTo_15 : decode cX12_leadsTo 15 = .ok (.invokevirtual 343, 3) := by decide +kernel
theorem dX12_leadsTo_18 : decode cX12_leadsTo 18 = .ok (.iconst 1, 1) := by decide +kernel
theorem dX12_leadsTo_19 : decode cX12_leadsTo 19 = .ok (.istore_n 2, 1) := by decide +kernel
theorem dX12_leadsTo_20 : decode cX12_leadsTo 20 = .ok (.iconst 0, 1) := by decide +kernel
theorem dX12_leadsTo_21 : decode cX12_leadsTo 21 = .ok (.istore_n 3, 1) := by decide +kernel
theorem dX12_leadsTo_22 : decode cX12_leadsTo 22 = .ok (.iload_n 3, 1) := by decide +kernel
theorem dX12_leadsTo_23 : decode cX12_leadsTo 23 = .ok (.aload_n 0, 1) := by decide +kernel
theorem dX12_leadsTo_24 : decode cX12_leadsTo 24 = .ok (.getfield 130, 3) := by decide +kernel
theorem dX12_leadsTo_27 : decode cX12_leadsTo 27 = .ok (.if_icmp .ge 34, 3) := by decide +kernel
theorem dX12_leadsTo_30 : decode cX12_leadsTo 30 = .ok (.iload_n 2, 1) := by decide +kernel
theorem dX12_leadsTo_31 : decode cX12_leadsTo 31 = .ok (.ifCond .eq 22, 3) := by decide +kernel
theorem dX12_leadsTo_34 : decode cX12_leadsTo 34 = .ok (.aload_n 0, 1) := by decide +kernel
theorem dX12_leadsTo_35 : decode cX12_leadsTo 35 = .ok (.getfield 65, 3) := by decide +kernel
theorem dX12_leadsTo_38 : decode cX12_leadsTo 38 = .ok (.iload_n 3, 1) := by decide +kernel
theorem dX12_leadsTo_39 : decode cX12_leadsTo 39 = .ok (.iaload, 1) := by decide +kernel
theorem dX12_leadsTo_40 : decode cX12_leadsTo 40 = .ok (.aload_n 0, 1) := by decide +kernel
theorem dX12_leadsTo_41 : decode cX12_leadsTo 41 = .ok (.iload_n 1, 1) := by decide +kernel
theorem dX12_leadsTo_42 : decode cX12_leadsTo 42 = .ok (.iload_n 3, 1) := by decide +kernel
theorem dX12_leadsTo_43 : decode cX12_leadsTo 43 = .ok (.invokevirtual 280, 3) := by decide +kernel
theorem dX12_leadsTo_46 : decode cX12_leadsTo 46 = .ok (.if_icmp .ne 7, 3) := by decide +kernel
theorem dX12_leadsTo_49 : decode cX12_leadsTo 49 = .ok (.iconst 1, 1) := by decide +kernel
theorem dX12_leadsTo_50 : decode cX12_leadsTo 50 = .ok (.goto 4, 3) := by decide +kernel
theorem dX12_leadsTo_53 : decode cX12_leadsTo 53 = .ok (.iconst 0, 1) := by decide +kernel
theorem dX12_leadsTo_54 : decode cX12_leadsTo 54 = .ok (.istore_n 2, 1) := by decide +kernel
theorem dX12_leadsTo_55 : decode cX12_leadsTo 55 = .ok (.iinc 3 1, 3) := by decide +kernel
theorem dX12_leadsTo_58 : decode cX12_leadsTo 58 = .ok (.goto (-36), 3) := by decide +kernel
theorem dX12_leadsTo_61 : decode cX12_leadsTo 61 = .ok (.iload_n 2, 1) := by decide +kernel
theorem dX12_leadsTo_62 : decode cX12_leadsTo 62 = .ok (.ireturn, 1) := by decide +kernel
theorem dX12_fitsAll_0 : decode cX12_fitsAll 0 = .ok (.iconst 1, 1) := by decide +kernel
theorem dX12_fitsAll_1 : decode cX12_fitsAll 1 = .ok (.istore_n 2, 1) := by decide +kernel
theorem dX12_fitsAll_2 : decode cX12_fitsAll 2 = .ok (.aload_n 0, 1) := by decide +kernel
theorem dX12_fitsAll_3 : decode cX12_fitsAll 3 = .ok (.iload_n 1, 1) := by decide +kernel
theorem dX12_fitsAll_4 : decode cX12_fitsAll 4 = .ok (.invokevirtual 384, 3) := by decide +kernel
theorem dX12_fitsAll_7 : decode cX12_fitsAll 7 = .ok (.iconst 0, 1) := by decide +kernel
theorem dX12_fitsAll_8 : decode cX12_fitsAll 8 = .ok (.istore_n 3, 1) := by decide +kernel
theorem dX12_fitsAll_9 : decode cX12_fitsAll 9 = .ok (.iconst 0, 1) := by decide +kernel
theorem dX12_fitsAll_10 : decode cX12_fitsAll 10 = .ok (.istore 4, 2) := by decide +kernel
theorem dX12_fitsAll_12 : decode cX12_fitsAll 12 = .ok (.iload 4, 2) := by decide +kernel
theorem dX12_fitsAll_14 : decode cX12_fitsAll 14 = .ok (.aload_n 0, 1) := by decide +kernel
theorem dX12_fitsAll_15 : decode cX12_fitsAll 15 = .ok (.getfield 24, 3) := by decide +kernel
theorem dX12_fitsAll_18 : decode cX12_fitsAll 18 = .ok (.bipush 115, 2) := by decide +kernel
theorem dX12_fitsAll_20 : decode cX12_fitsAll 20 = .ok (.iaload, 1) := by decide +kernel
theorem dX12_fitsAll_21 : decode cX12_fitsAll 21 = .ok (.if_icmp .ge 42, 3) := by decide +kernel
theorem dX12_fitsAll_24 : decode cX12_fitsAll 24 = .ok (.iload_n 3, 1) := by decide +kernel
theorem dX12_fitsAll_25 : decode cX12_fitsAll 25 = .ok (.aload_n 0, 1) := by decide +kernel
theorem dX12_fitsAll_26 : decode cX12_fitsAll 26 = .ok (.getfield 24, 3) := by decide +kernel
theorem dX12_fitsAll_29 : decode cX12_fitsAll 29 = .ok (.bipush 97, 2) := by decide +kernel
theorem dX12_fitsAll_31 : decode cX12_fitsAll 31 = .ok (.iconst 2, 1) := by decide +kernel
theorem dX12_fitsAll_32 : decode cX12_fitsAll 32 = .ok (.iload 4, 2) := by decide +kernel
theorem dX12_fitsAll_34 : decode cX12_fitsAll 34 = .ok (.imul, 1) := by decide +kernel
theorem dX12_fitsAll_35 : decode cX12_fitsAll 35 = .ok (.iadd, 1) := by decide +kernel
theorem dX12_fitsAll_36 : decode cX12_fitsAll 36 = .ok (.iaload, 1) := by decide +kernel
theorem dX12_fitsAll_37 : decode cX12_fitsAll 37 = .ok (.if_icmp .ge 18, 3) := by decide +kernel
theorem dX12_fitsAll_40 : decode cX12_fitsAll 40 = .ok (.aload_n 0, 1) := by decide +kernel
theorem dX12_fitsAll_41 : decode cX12_fitsAll 41 = .ok (.getfield 24, 3) := by decide +kernel
theorem dX12_fitsAll_44 : decode cX12_fitsAll 44 = .ok (.bipush 97, 2) := by decide +kernel
theorem dX12_fitsAll_46 : decode cX12_fitsAll 46 = .ok (.iconst 2, 1) := by decide +kernel
theorem dX12_fitsAll_47 : decode cX12_fitsAll 47 = .ok (.iload 4, 2) := by decide +kernel
theorem dX12_fitsAll_49 : decode cX12_fitsAll 49 = .ok (.imul, 1) := by decide +kernel
theorem dX12_fitsAll_50 : decode cX12_fitsAll 50 = .ok (.iadd, 1) := by decide +kernel
theorem dX12_fitsAll_51 : decode cX12_fitsAll 51 = .ok (.iaload, 1) := by decide +kernel
theorem dX12_fitsAll_52 : decode cX12_fitsAll 52 = .ok (.goto 4, 3) := by decide +kernel
theorem dX12_fitsAll_55 : decode cX12_fitsAll 55 = .ok (.iload_n 3, 1) := by decide +kernel
theorem dX12_fitsAll_56 : decode cX12_fitsAll 56 = .ok (.istore_n 3, 1) := by decide +kernel
theorem dX12_fitsAll_57 : decode cX12_fitsAll 57 = .ok (.iinc 4 1, 3) := by decide +kernel
theorem dX12_fitsAll_60 : decode cX12_fitsAll 60 = .ok (.goto (-48), 3) := by decide +kernel
theorem dX12_fitsAll_63 : decode cX12_fitsAll 63 = .ok (.iconst 0, 1) := by decide +kernel
theorem dX12_fitsAll_64 : decode cX12_fitsAll 64 = .ok (.istore 4, 2) := by decide +kernel
theorem dX12_fitsAll_66 : decode cX12_fitsAll 66 = .ok (.iload 4, 2) := by decide +kernel
theorem dX12_fitsAll_68 : decode cX12_fitsAll 68 = .ok (.iload_n 3, 1) := by decide +kernel
theorem dX12_fitsAll_69 : decode cX12_fitsAll 69 = .ok (.if_icmp .gt 121, 3) := by decide +kernel
theorem dX12_fitsAll_72 : decode cX12_fitsAll 72 = .ok (.iload_n 2, 1) := by decide +kernel
theorem dX12_fitsAll_73 : decode cX12_fitsAll 73 = .ok (.ifCond .eq 117, 3) := by decide +kernel
theorem dX12_fitsAll_76 : decode cX12_fitsAll 76 = .ok (.iconst 0, 1) := by decide +kernel
theorem dX12_fitsAll_77 : decode cX12_fitsAll 77 = .ok (.istore 5, 2) := by decide +kernel
theorem dX12_fitsAll_79 : decode cX12_fitsAll 79 = .ok (.iload 5, 2) := by decide +kernel
theorem dX12_fitsAll_81 : decode cX12_fitsAll 81 = .ok (.aload_n 0, 1) := by decide +kernel
theorem dX12_fitsAll_82 : decode cX12_fitsAll 82 = .ok (.getfield 24, 3) := by decide +kernel
theorem dX12_fitsAll_85 : decode cX12_fitsAll 85 = .ok (.bipush 115, 2) := by decide +kernel
theorem dX12_fitsAll_87 : decode cX12_fitsAll 87 = .ok (.iaload, 1) := by decide +kernel
theorem dX12_fitsAll_88 : decode cX12_fitsAll 88 = .ok (.if_icmp .ge 59, 3) := by decide +kernel
theorem dX12_fitsAll_91 : decode cX12_fitsAll 91 = .ok (.iload_n 2, 1) := by decide +kernel
theorem dX12_fitsAll_92 : decode cX12_fitsAll 92 = .ok (.ifCond .eq 47, 3) := by decide +kernel
theorem dX12_fitsAll_95 : decode cX12_fitsAll 95 = .ok (.aload_n 0, 1) := by decide +kernel
theorem dX12_fitsAll_96 : decode cX12_fitsAll 96 = .ok (.getfield 24, 3) := by decide +kernel
theorem dX12_fitsAll_99 : decode cX12_fitsAll 99 = .ok (.bipush 97, 2) := by decide +kernel
theorem dX12_fitsAll_101 : decode cX12_fitsAll 101 = .ok (.iconst 2, 1) := by decide +kernel
theorem dX12_fitsAll_102 : decode cX12_fitsAll 102 = .ok (.iload 5, 2) := by decide +kernel
theorem dX12_fitsAll_104 : decode cX12_fitsAll 104 = .ok (.imul, 1) := by decide +kernel
theorem dX12_fitsAll_105 : decode cX12_fitsAll 105 = .ok (.iadd, 1) := by decide +kernel
theorem dX12_fitsAll_106 : decode cX12_fitsAll 106 = .ok (.iaload, 1) := by decide +kernel
theorem dX12_fitsAll_107 : decode cX12_fitsAll 107 = .ok (.iload 4, 2) := by decide +kernel
theorem dX12_fitsAll_109 : decode cX12_fitsAll 109 = .ok (.if_icmp .ne 26, 3) := by decide +kernel
theorem dX12_fitsAll_112 : decode cX12_fitsAll 112 = .ok (.aload_n 0, 1) := by decide +kernel
theorem dX12_fitsAll_113 : decode cX12_fitsAll 113 = .ok (.getfield 24, 3) := by decide +kernel
theorem dX12_fitsAll_116 : decode cX12_fitsAll 116 = .ok (.bipush 97, 2) := by decide +kernel
theorem dX12_fitsAll_118 : decode cX12_fitsAll 118 = .ok (.iconst 2, 1) := by decide +kernel
theorem dX12_fitsAll_119 : decode cX12_fitsAll 119 = .ok (.iload 5, 2) := by decide +kernel
theorem dX12_fitsAll_121 : decode cX12_fitsAll 121 = .ok (.imul, 1) := by decide +kernel
theorem dX12_fitsAll_122 : decode cX12_fitsAll 122 = .ok (.iadd, 1) := by decide +kernel
theorem dX12_fitsAll_123 : decode cX12_fitsAll 123 = .ok (.iconst 1, 1) := by decide +kernel
theorem dX12_fitsAll_124 : decode cX12_fitsAll 124 = .ok (.iadd, 1) := by decide +kernel
theorem dX12_fitsAll_125 : decode cX12_fitsAll 125 = .ok (.iaload, 1) := by decide +kernel
theorem dX12_fitsAll_126 : decode cX12_fitsAll 126 = .ok (.aload_n 0, 1) := by decide +kernel
theorem dX12_fitsAll_127 : decode cX12_fitsAll 127 = .ok (.getfield 65, 3) := by decide +kernel
theorem dX12_fitsAll_130 : decode cX12_fitsAll 130 = .ok (.iconst 0, 1) := by decide +kernel
theorem dX12_fitsAll_131 : decode cX12_fitsAll 131 = .ok (.iaload, 1) := by decide +kernel
theorem dX12_fitsAll_132 : decode cX12_fitsAll 132 = .ok (.if_icmp .ne 7, 3) := by decide +kernel
theorem dX12_fitsAll_135 : decode cX12_fitsAll 135 = .ok (.iconst 1, 1) := by decide +kernel
theorem dX12_fitsAll_136 : decode cX12_fitsAll 136 = .ok (.goto 4, 3) := by decide +kernel
theorem dX12_fitsAll_139 : decode cX12_fitsAll 139 = .ok (.iconst 0, 1) := by decide +kernel
theorem dX12_fitsAll_140 : decode cX12_fitsAll 140 = .ok (.istore_n 2, 1) := by decide +kernel
theorem dX12_fitsAll_141 : decode cX12_fitsAll 141 = .ok (.iinc 5 1, 3) := by decide +kernel
theorem dX12_fitsAll_144 : decode cX12_fitsAll 144 = .ok (.goto (-65), 3) := by decide +kernel
theorem dX12_fitsAll_147 : decode cX12_fitsAll 147 = .ok (.iload_n 2, 1) := by decide +kernel
theorem dX12_fitsAll_148 : decode cX12_fitsAll 148 = .ok (.ifCond .eq 20, 3) := by decide +kernel
theorem dX12_fitsAll_151 : decode cX12_fitsAll 151 = .ok (.iload 4, 2) := by decide +kernel
theorem dX12_fitsAll_153 : decode cX12_fitsAll 153 = .ok (.iload_n 3, 1) := by decide +kernel
theorem dX12_fitsAll_154 : decode cX12_fitsAll 154 = .ok (.if_icmp .eq 10, 3) := by decide +kernel
theorem dX12_fitsAll_157 : decode cX12_fitsAll 157 = .ok (.aload_n 0, 1) := by decide +kernel
theorem dX12_fitsAll_158 : decode cX12_fitsAll 158 = .ok (.invokevirtual 350, 3) := by decide +kernel
theorem dX12_fitsAll_161 : decode cX12_fitsAll 161 = .ok (.ifCond .eq 7, 3) := by decide +kernel
theorem dX12_fitsAll_164 : decode cX12_fitsAll 164 = .ok (.iconst 1, 1) := by decide +kernel
theorem dX12_fitsAll_165 : decode cX12_fitsAll 165 = .ok (.goto 4, 3) := by decide +kernel
theorem dX12_fitsAll_168 : decode cX12_fitsAll 168 = .ok (.iconst 0, 1) := by decide +kernel
theorem dX12_fitsAll_169 : decode cX12_fitsAll 169 = .ok (.istore_n 2, 1) := by decide +kernel
theorem dX12_fitsAll_170 : decode cX12_fitsAll 170 = .ok (.iload_n 2, 1) := by decide +kernel
theorem dX12_fitsAll_171 : decode cX12_fitsAll 171 = .ok (.ifCond .eq 13, 3) := by decide +kernel
theorem dX12_fitsAll_174 : decode cX12_fitsAll 174 = .ok (.iload 4, 2) := by decide +kernel
theorem dX12_fitsAll_176 : decode cX12_fitsAll 176 = .ok (.iload_n 3, 1) := by decide +kernel
theorem dX12_fitsAll_177 : decode cX12_fitsAll 177 = .ok (.if_icmp .ge 7, 3) := by decide +kernel
theorem dX12_fitsAll_180 : decode cX12_fitsAll 180 = .ok (.aload_n 0, 1) := by decide +kernel
theorem dX12_fitsAll_181 : decode cX12_fitsAll 181 = .ok (.invokevirtual 343, 3) := by decide +kernel
theorem dX12_fitsAll_184 : decode cX12_fitsAll 184 = .ok (.iinc 4 1, 3) := by decide +kernel
theorem dX12_fitsAll_187 : decode cX12_fitsAll 187 = .ok (.goto (-121), 3) := by decide +kernel
theorem dX12_fitsAll_190 : decode cX12_fitsAll 190 = .ok (.iload_n 2, 1) := by decide +kernel
theorem dX12_fitsAll_191 : decode cX12_fitsAll 191 = .ok (.ireturn, 1) := by decide +kernel
theorem dX12_rowsBy_0 : decode cX12_rowsBy 0 = .ok (.iconst 0, 1) := by decide +kernel
theorem dX12_rowsBy_1 : decode cX12_rowsBy 1 = .ok (.istore 5, 2) := by decide +kernel
theorem dX12_rowsBy_3 : decode cX12_rowsBy 3 = .ok (.aload_n 0, 1) := by decide +kernel
theorem dX12_rowsBy_4 : decode cX12_rowsBy 4 = .ok (.iload_n 2, 1) := by decide +kernel
theorem dX12_rowsBy_5 : decode cX12_rowsBy 5 = .ok (.invokevirtual 396, 3) := by decide +kernel
theorem dX12_rowsBy_8 : decode cX12_rowsBy 8 = .ok (.iconst 1, 1) := by decide +kernel
theorem dX12_rowsBy_9 : decode cX12_rowsBy 9 = .ok (.istore 6, 2) := by decide +kernel
theorem dX12_rowsBy_11 : decode cX12_rowsBy 11 = .ok (.iload 6, 2) := by decide +kernel
theorem dX12_rowsBy_13 : decode cX12_rowsBy 13 = .ok (.ifCond .eq 65, 3) := by decide +kernel
theorem dX12_rowsBy_16 : decode cX12_rowsBy 16 = .ok (.iload_n 1, 1) := by decide +kernel
theorem dX12_rowsBy_17 : decode cX12_rowsBy 17 = .ok (.ifCond .eq 11, 3) := by decide +kernel
theorem dX12_rowsBy_20 : decode cX12_rowsBy 20 = .ok (.aload_n 0, 1) := by decide +kernel
theorem dX12_rowsBy_21 : decode cX12_rowsBy 21 = .ok (.iload_n 2, 1) := by decide +kernel
theorem dX12_rowsBy_22 : decode cX12_rowsBy 22 = .ok (.invokevirtual 399, 3) := by decide +kernel
theorem dX12_rowsBy_25 : decode cX12_rowsBy 25 = .ok (.goto 8, 3) := by decide +kernel
theorem dX12_rowsBy_28 : decode cX12_rowsBy 28 = .ok (.aload_n 0, 1) := by decide +kernel
theorem dX12_rowsBy_29 : decode cX12_rowsBy 29 = .ok (.iload_n 2, 1) := by decide +kernel
theorem dX12_rowsBy_30 : decode cX12_rowsBy 30 = .ok (.invokevirtual 402, 3) := by decide +kernel
theorem dX12_rowsBy_33 : decode cX12_rowsBy 33 = .ok (.istore 7, 2) := by decide +kernel
theorem dX12_rowsBy_35 : decode cX12_rowsBy 35 = .ok (.iload 7, 2) := by decide +kernel
theorem dX12_rowsBy_37 : decode cX12_rowsBy 37 = .ok (.ifCond .eq 17, 3) := by decide +kernel
theorem dX12_rowsBy_40 : decode cX12_rowsBy 40 = .ok (.iload 5, 2) := by decide +kernel
theorem dX12_rowsBy_42 : decode cX12_rowsBy 42 = .ok (.iload_n 3, 1) := by decide +kernel
theorem dX12_rowsBy_43 : decode cX12_rowsBy 43 = .ok (.if_icmp .ne 11, 3) := by decide +kernel
theorem dX12_rowsBy_46 : decode cX12_rowsBy 46 = .ok (.aload_n 0, 1) := by decide +kernel
theorem dX12_rowsBy_47 : decode cX12_rowsBy 47 = .ok (.getfield 80, 3) := by decide +kernel
theorem dX12_rowsBy_50 : decode cX12_rowsBy 50 = .ok (.iload 4, 2) := by decide +kernel
theorem dX12_rowsBy_52 : decode cX12_rowsBy 52 = .ok (.iaload, 1) := by decide +kernel
theorem dX12_rowsBy_53 : decode cX12_rowsBy 53 = .ok (.ireturn, 1) := by decide +kernel
theorem dX12_rowsBy_54 : decode cX12_rowsBy 54 = .ok (.iload 5, 2) := by decide +kernel
theorem dX12_rowsBy_56 : decode cX12_rowsBy 56 = .ok (.iload 7, 2) := by decide +kernel
theorem dX12_rowsBy_58 : decode cX12_rowsBy 58 = .ok (.ifCond .eq 7, 3) := by decide +kernel
theorem dX12_rowsBy_61 : decode cX12_rowsBy 61 = .ok (.iconst 1, 1) := by decide +kernel
theorem dX12_rowsBy_62 : decode cX12_rowsBy 62 = .ok (.goto 4, 3) := by decide +kernel
theorem dX12_rowsBy_65 : decode cX12_rowsBy 65 = .ok (.iconst 0, 1) := by decide +kernel
theorem dX12_rowsBy_66 : decode cX12_rowsBy 66 = .ok (.iadd, 1) := by decide +kernel
theorem dX12_rowsBy_67 : decode cX12_rowsBy 67 = .ok (.istore 5, 2) := by decide +kernel
theorem dX12_rowsBy_69 : decode cX12_rowsBy 69 = .ok (.aload_n 0, 1) := by decide +kernel
theorem dX12_rowsBy_70 : decode cX12_rowsBy 70 = .ok (.invokevirtual 390, 3) := by decide +kernel
theorem dX12_rowsBy_73 : decode cX12_rowsBy 73 = .ok (.istore 6, 2) := by decide +kernel
theorem dX12_rowsBy_75 : decode cX12_rowsBy 75 = .ok (.goto (-64), 3) := by decide +kernel
theorem dX12_rowsBy_78 : decode cX12_rowsBy 78 = .ok (.iload_n 3, 1) := by decide +kernel
theorem dX12_rowsBy_79 : decode cX12_rowsBy 79 = .ok (.iconst (-1), 1) := by decide +kernel
theorem dX12_rowsBy_80 : decode cX12_rowsBy 80 = .ok (.if_icmp .ne 8, 3) := by decide +kernel
theorem dX12_rowsBy_83 : decode cX12_rowsBy 83 = .ok (.iload 5, 2) := by decide +kernel
theorem dX12_rowsBy_85 : decode cX12_rowsBy 85 = .ok (.goto 4, 3) := by decide +kernel
theorem dX12_rowsBy_88 : decode cX12_rowsBy 88 = .ok (.iconst (-1), 1) := by decide +kernel
theorem dX12_rowsBy_89 : decode cX12_rowsBy 89 = .ok (.ireturn, 1) := by decide +kernel
theorem dX12_canAsk_0 : decode cX12_canAsk 0 = .ok (.aload_n 0, 1) := by decide +kernel
theorem dX12_canAsk_1 : decode cX12_canAsk 1 = .ok (.iload_n 1, 1) := by decide +kernel
theorem dX12_canAsk_2 : decode cX12_canAsk 2 = .ok (.invokevirtual 122, 3) := by decide +kernel
theorem dX12_canAsk_5 : decode cX12_canAsk 5 = .ok (.ifCond .eq 42, 3) := by decide +kernel
theorem dX12_canAsk_8 : decode cX12_canAsk 8 = .ok (.aload_n 0, 1) := by decide +kernel
theorem dX12_canAsk_9 : decode cX12_canAsk 9 = .ok (.iload_n 1, 1) := by decide +kernel
theorem dX12_canAsk_10 : decode cX12_canAsk 10 = .ok (.invokevirtual 316, 3) := by decide +kernel
theorem dX12_canAsk_13 : decode cX12_canAsk 13 = .ok (.bipush 7, 2) := by decide +kernel
theorem dX12_canAsk_15 : decode cX12_canAsk 15 = .ok (.if_icmp .gt 32, 3) := by decide +kernel
theorem dX12_canAsk_18 : decode cX12_canAsk 18 = .ok (.iload_n 2, 1) := by decide +kernel
theorem dX12_canAsk_19 : decode cX12_canAsk 19 = .ok (.iconst (-1), 1) := by decide +kernel
theorem dX12_canAsk_20 : decode cX12_canAsk 20 = .ok (.if_icmp .lt 27, 3) := by decide +kernel
theorem dX12_canAsk_23 : decode cX12_canAsk 23 = .ok (.iload_n 2, 1) := by decide +kernel
theorem dX12_canAsk_24 : decode cX12_canAsk 24 = .ok (.iconst (-1), 1) := by decide +kernel
theorem dX12_canAsk_25 : decode cX12_canAsk 25 = .ok (.if_icmp .eq 18, 3) := by decide +kernel
theorem dX12_canAsk_28 : decode cX12_canAsk 28 = .ok (.iload_n 3, 1) := by decide +kernel
theorem dX12_canAsk_29 : decode cX12_canAsk 29 = .ok (.iconst 0, 1) := by decide +kernel
theorem dX12_canAsk_30 : decode cX12_canAsk 30 = .ok (.aload_n 0, 1) := by decide +kernel
theorem dX12_canAsk_31 : decode cX12_canAsk 31 = .ok (.iload_n 1, 1) := by decide +kernel
theorem dX12_canAsk_32 : decode cX12_canAsk 32 = .ok (.invokevirtual 316, 3) := by decide +kernel
theorem dX12_canAsk_35 : decode cX12_canAsk 35 = .ok (.iconst 1, 1) := by decide +kernel
theorem dX12_canAsk_36 : decode cX12_canAsk 36 = .ok (.isub, 1) := by decide +kernel
theorem dX12_canAsk_37 : decode cX12_canAsk 37 = .ok (.invokestatic 102, 3) := by decide +kernel
theorem dX12_canAsk_40 : decode cX12_canAsk 40 = .ok (.ifCond .eq 7, 3) := by decide +kernel
theorem dX12_canAsk_43 : decode cX12_canAsk 43 = .ok (.iconst 1, 1) := by decide +kernel
theorem dX12_canAsk_44 : decode cX12_canAsk 44 = .ok (.goto 4, 3) := by decide +kernel
theorem dX12_canAsk_47 : decode cX12_canAsk 47 = .ok (.iconst 0, 1) := by decide +kernel
theorem dX12_canAsk_48 : decode cX12_canAsk 48 = .ok (.ireturn, 1) := by decide +kernel
theorem dX12_to_0 : decode cX12_to 0 = .ok (.aload_n 0, 1) := by decide +kernel
theorem dX12_to_1 : decode cX12_to 1 = .ok (.iload_n 1, 1) := by decide +kernel
theorem dX12_to_2 : decode cX12_to 2 = .ok (.iload_n 2, 1) := by decide +kernel
theorem dX12_to_3 : decode cX12_to 3 = .ok (.iload_n 3, 1) := by decide +kernel
theorem dX12_to_4 : decode cX12_to 4 = .ok (.invokevirtual 405, 3) := by decide +kernel
theorem dX12_to_7 : decode cX12_to 7 = .ok (.ifCond .eq 14, 3) := by decide +kernel
theorem dX12_to_10 : decode cX12_to 10 = .ok (.aload_n 0, 1) := by decide +kernel
theorem dX12_to_11 : decode cX12_to 11 = .ok (.iconst 0, 1) := by decide +kernel
theorem dX12_to_12 : decode cX12_to 12 = .ok (.iload_n 1, 1) := by decide +kernel
theorem dX12_to_13 : decode cX12_to 13 = .ok (.iload_n 2, 1) := by decide +kernel
theorem dX12_to_14 : decode cX12_to 14 = .ok (.iload_n 3, 1) := by decide +kernel
theorem dX12_to_15 : decode cX12_to 15 = .ok (.invokevirtual 408, 3) := by decide +kernel
theorem dX12_to_18 : decode cX12_to 18 = .ok (.goto 4, 3) := by decide +kernel
theorem dX12_to_21 : decode cX12_to 21 = .ok (.iconst (-1), 1) := by decide +kernel
theorem dX12_to_22 : decode cX12_to 22 = .ok (.ireturn, 1) := by decide +kernel
theorem dX12_fits_0 : decode cX12_fits 0 = .ok (.aload_n 0, 1) := by decide +kernel
theorem dX12_fits_1 : decode cX12_fits 1 = .ok (.iload_n 1, 1) := by decide +kernel
theorem dX12_fits_2 : decode cX12_fits 2 = .ok (.iload_n 2, 1) := by decide +kernel
theorem dX12_fits_3 : decode cX12_fits 3 = .ok (.iload_n 3, 1) := by decide +kernel
theorem dX12_fits_4 : decode cX12_fits 4 = .ok (.invokevirtual 405, 3) := by decide +kernel
theorem dX12_fits_7 : decode cX12_fits 7 = .ok (.ifCond .eq 14, 3) := by decide +kernel
theorem dX12_fits_10 : decode cX12_fits 10 = .ok (.aload_n 0, 1) := by decide +kernel
theorem dX12_fits_11 : decode cX12_fits 11 = .ok (.iconst 1, 1) := by decide +kernel
theorem dX12_fits_12 : decode cX12_fits 12 = .ok (.iload_n 1, 1) := by decide +kernel
theorem dX12_fits_13 : decode cX12_fits 13 = .ok (.iload_n 2, 1) := by decide +kernel
theorem dX12_fits_14 : decode cX12_fits 14 = .ok (.iload_n 3, 1) := by decide +kernel
theorem dX12_fits_15 : decode cX12_fits 15 = .ok (.invokevirtual 408, 3) := by decide +kernel
theorem dX12_fits_18 : decode cX12_fits 18 = .ok (.goto 4, 3) := by decide +kernel
theorem dX12_fits_21 : decode cX12_fits 21 = .ok (.iconst (-1), 1) := by decide +kernel
theorem dX12_fits_22 : decode cX12_fits 22 = .ok (.ireturn, 1) := by decide +kernel
theorem dX12_sight_0 : decode cX12_sight 0 = .ok (.iload_n 1, 1) := by decide +kernel
theorem dX12_sight_1 : decode cX12_sight 1 = .ok (.iconst 0, 1) := by decide +kernel
theorem dX12_sight_2 : decode cX12_sight 2 = .ok (.bipush 99, 2) := by decide +kernel
theorem dX12_sight_4 : decode cX12_sight 4 = .ok (.invokestatic 102, 3) := by decide +kernel
theorem dX12_sight_7 : decode cX12_sight 7 = .ok (.ifCond .eq 13, 3) := by decide +kernel
theorem dX12_sight_10 : decode cX12_sight 10 = .ok (.iload_n 2, 1) := by decide +kernel
theorem dX12_sight_11 : decode cX12_sight 11 = .ok (.iconst 0, 1) := by decide +kernel
theorem dX12_sight_12 : decode cX12_sight 12 = .ok (.bipush 13, 2) := by decide +kernel
theorem dX12_sight_14 : decode cX12_sight 14 = .ok (.invokestatic 102, 3) := by decide +kernel
theorem dX12_sight_17 : decode cX12_sight 17 = .ok (.ifCond .ne 9, 3) := by decide +kernel
theorem dX12_sight_20 : decode cX12_sight 20 = .ok (.aload_n 0, 1) := by decide +kernel
theorem dX12_sight_21 : decode cX12_sight 21 = .ok (.iconst (-1), 1) := by decide +kernel
theorem dX12_sight_22 : decode cX12_sight 22 = .ok (.invokevirtual 106, 3) := by decide +kernel
theorem dX12_sight_25 : decode cX12_sight 25 = .ok (.ireturn, 1) := by decide +kernel
theorem dX12_sight_26 : decode cX12_sight 26 = .ok (.aload_n 0, 1) := by decide +kernel
theorem dX12_sight_27 : decode cX12_sight 27 = .ok (.getfield 24, 3) := by decide +kernel
theorem dX12_sight_30 : decode cX12_sight 30 = .ok (.bipush 115, 2) := by decide +kernel
theorem dX12_sight_32 : decode cX12_sight 32 = .ok (.iaload, 1) := by decide +kernel
theorem dX12_sight_33 : decode cX12_sight 33 = .ok (.istore_n 3, 1) := by decide +kernel
theorem dX12_sight_34 : decode cX12_sight 34 = .ok (.iload_n 3, 1) := by decide +kernel
theorem dX12_sight_35 : decode cX12_sight 35 = .ok (.bipush 8, 2) := by decide +kernel
theorem dX12_sight_37 : decode cX12_sight 37 = .ok (.if_icmp .ne 10, 3) := by decide +kernel
theorem dX12_sight_40 : decode cX12_sight 40 = .ok (.aload_n 0, 1) := by decide +kernel
theorem dX12_sight_41 : decode cX12_sight 41 = .ok (.bipush (-5), 2) := by decide +kernel
theorem dX12_sight_43 : decode cX12_sight 43 = .ok (.invokevirtual 106, 3) := by decide +kernel
theorem dX12_sight_46 : decode cX12_sight 46 = .ok (.ireturn, 1) := by decide +kernel
theorem dX12_sight_47 : decode cX12_sight 47 = .ok (.aload_n 0, 1) := by decide +kernel
theorem dX12_sight_48 : decode cX12_sight 48 = .ok (.getfield 24, 3) := by decide +kernel
theorem dX12_sight_51 : decode cX12_sight 51 = .ok (.bipush 97, 2) := by decide +kernel
theorem dX12_sight_53 : decode cX12_sight 53 = .ok (.iconst 2, 1) := by decide +kernel
theorem dX12_sight_54 : decode cX12_sight 54 = .ok (.iload_n 3, 1) := by decide +kernel
theorem dX12_sight_55 : decode cX12_sight 55 = .ok (.imul, 1) := by decide +kernel
theorem dX12_sight_56 : decode cX12_sight 56 = .ok (.iadd, 1) := by decide +kernel
theorem dX12_sight_57 : decode cX12_sight 57 = .ok (.iload_n 1, 1) := by decide +kernel
theorem dX12_sight_58 : decode cX12_sight 58 = .ok (.iastore, 1) := by decide +kernel
theorem dX12_sight_59 : decode cX12_sight 59 = .ok (.aload_n 0, 1) := by decide +kernel
theorem dX12_sight_60 : decode cX12_sight 60 = .ok (.getfield 24, 3) := by decide +kernel
theorem dX12_sight_63 : decode cX12_sight 63 = .ok (.bipush 97, 2) := by decide +kernel
theorem dX12_sight_65 : decode cX12_sight 65 = .ok (.iconst 2, 1) := by decide +kernel
theorem dX12_sight_66 : decode cX12_sight 66 = .ok (.iload_n 3, 1) := by decide +kernel
theorem dX12_sight_67 : decode cX12_sight 67 = .ok (.imul, 1) := by decide +kernel
theorem dX12_sight_68 : decode cX12_sight 68 = .ok (.iadd, 1) := by decide +kernel
theorem dX12_sight_69 : decode cX12_sight 69 = .ok (.iconst 1, 1) := by decide +kernel
theorem dX12_sight_70 : decode cX12_sight 70 = .ok (.iadd, 1) := by decide +kernel
theorem dX12_sight_71 : decode cX12_sight 71 = .ok (.iload_n 2, 1) := by decide +kernel
theorem dX12_sight_72 : decode cX12_sight 72 = .ok (.iastore, 1) := by decide +kernel
theorem dX12_sight_73 : decode cX12_sight 73 = .ok (.aload_n 0, 1) := by decide +kernel
theorem dX12_sight_74 : decode cX12_sight 74 = .ok (.getfield 24, 3) := by decide +kernel
theorem dX12_sight_77 : decode cX12_sight 77 = .ok (.bipush 115, 2) := by decide +kernel
theorem dX12_sight_79 : decode cX12_sight 79 = .ok (.dup2, 1) := by decide +kernel
theorem dX12_sight_80 : decode cX12_sight 80 = .ok (.iaload, 1) := by decide +kernel
theorem dX12_sight_81 : decode cX12_sight 81 = .ok (.iconst 1, 1) := by decide +kernel
theorem dX12_sight_82 : decode cX12_sight 82 = .ok (.iadd, 1) := by decide +kernel
theorem dX12_sight_83 : decode cX12_sight 83 = .ok (.iastore, 1) := by decide +kernel
theorem dX12_sight_84 : decode cX12_sight 84 = .ok (.aload_n 0, 1) := by decide +kernel
theorem dX12_sight_85 : decode cX12_sight 85 = .ok (.iload_n 3, 1) := by decide +kernel
theorem dX12_sight_86 : decode cX12_sight 86 = .ok (.iconst 1, 1) := by decide +kernel
theorem dX12_sight_87 : decode cX12_sight 87 = .ok (.iadd, 1) := by decide +kernel
theorem dX12_sight_88 : decode cX12_sight 88 = .ok (.invokevirtual 14, 3) := by decide +kernel
theorem dX12_sight_91 : decode cX12_sight 91 = .ok (.ireturn, 1) := by decide +kernel
theorem dX12_forget_0 : decode cX12_forget 0 = .ok (.aload_n 0, 1) := by decide +kernel
theorem dX12_forget_1 : decode cX12_forget 1 = .ok (.getfield 24, 3) := by decide +kernel
theorem dX12_forget_4 : decode cX12_forget 4 = .ok (.bipush 115, 2) := by decide +kernel
theorem dX12_forget_6 : decode cX12_forget 6 = .ok (.iaload, 1) := by decide +kernel
theorem dX12_forget_7 : decode cX12_forget 7 = .ok (.istore_n 1, 1) := by decide +kernel
theorem dX12_forget_8 : decode cX12_forget 8 = .ok (.aload_n 0, 1) := by decide +kernel
theorem dX12_forget_9 : decode cX12_forget 9 = .ok (.getfield 24, 3) := by decide +kernel
theorem dX12_forget_12 : decode cX12_forget 12 = .ok (.bipush 115, 2) := by decide +kernel
theorem dX12_forget_14 : decode cX12_forget 14 = .ok (.iconst 0, 1) := by decide +kernel
theorem dX12_forget_15 : decode cX12_forget 15 = .ok (.iastore, 1) := by decide +kernel
theorem dX12_forget_16 : decode cX12_forget 16 = .ok (.iload_n 1, 1) := by decide +kernel
theorem dX12_forget_17 : decode cX12_forget 17 = .ok (.ireturn, 1) := by decide +kernel
theorem dX12_endsSwapped_0 : decode cX12_endsSwapped 0 = .ok (.aload_n 0, 1) := by decide +kernel
theorem dX12_endsSwapped_1 : decode cX12_endsSwapped 1 = .ok (.iload_n 1, 1) := by decide +kernel
theorem dX12_endsSwapped_2 : decode cX12_endsSwapped 2 = .ok (.iload_n 2, 1) := by decide +kernel
theorem dX12_endsSwapped_3 : decode cX12_endsSwapped 3 = .ok (.invokevirtual 280, 3) := by decide +kernel
theorem dX12_endsSwapped_6 : decode cX12_endsSwapped 6 = .ok (.aload_n 0, 1) := by decide +kernel
theorem dX12_endsSwapped_7 : decode cX12_endsSwapped 7 = .ok (.iload_n 1, 1) := by decide +kernel
theorem dX12_endsSwapped_8 : decode cX12_endsSwapped 8 = .ok (.iload_n 3, 1) := by decide +kernel
theorem dX12_endsSwapped_9 : decode cX12_endsSwapped 9 = .ok (.invokevirtual 280, 3) := by decide +kernel
theorem dX12_endsSwapped_12 : decode cX12_endsSwapped 12 = .ok (.if_icmp .ne 5, 3) := by decide +kernel
theorem dX12_endsSwapped_15 : decode cX12_endsSwapped 15 = .ok (.iconst (-1), 1) := by decide +kernel
theorem dX12_endsSwapped_16 : decode cX12_endsSwapped 16 = .ok (.ireturn, 1) := by decide +kernel
theorem dX12_endsSwapped_17 : decode cX12_endsSwapped 17 = .ok (.aload_n 0, 1) := by decide +kernel
theorem dX12_endsSwapped_18 : decode cX12_endsSwapped 18 = .ok (.iload_n 1, 1) := by decide +kernel
theorem dX12_endsSwapped_19 : decode cX12_endsSwapped 19 = .ok (.invokevirtual 126, 3) := by decide +kernel
theorem dX12_endsSwapped_22 : decode cX12_endsSwapped 22 = .ok (.aload_n 0, 1) := by decide +kernel
theorem dX12_endsSwapped_23 : decode cX12_endsSwapped 23 = .ok (.getfield 65, 3) := by decide +kernel
theorem dX12_endsSwapped_26 : decode cX12_endsSwapped 26 = .ok (.iload_n 2, 1) := by decide +kernel
theorem dX12_endsSwapped_27 : decode cX12_endsSwapped 27 = .ok (.aload_n 0, 1) := by decide +kernel
theorem dX12_endsSwapped_28 : decode cX12_endsSwapped 28 = .ok (.iload_n 1, 1) := by decide +kernel
theorem dX12_endsSwapped_29 : decode cX12_endsSwapped 29 = .ok (.iload_n 3, 1) := by decide +kernel
theorem dX12_endsSwapped_30 : decode cX12_endsSwapped 30 = .ok (.invokevirtual 280, 3) := by decide +kernel
theorem dX12_endsSwapped_33 : decode cX12_endsSwapped 33 = .ok (.iastore, 1) := by decide +kernel
theorem dX12_endsSwapped_34 : decode cX12_endsSwapped 34 = .ok (.aload_n 0, 1) := by decide +kernel
theorem dX12_endsSwapped_35 : decode cX12_endsSwapped 35 = .ok (.getfield 65, 3) := by decide +kernel
theorem dX12_endsSwapped_38 : decode cX12_endsSwapped 38 = .ok (.iload_n 3, 1) := by decide +kernel
theorem dX12_endsSwapped_39 : decode cX12_endsSwapped 39 = .ok (.aload_n 0, 1) := by decide +kernel
theorem dX12_endsSwapped_40 : decode cX12_endsSwapped 40 = .ok (.iload_n 1, 1) := by decide +kernel
theorem dX12_endsSwapped_41 : decode cX12_endsSwapped 41 = .ok (.iload_n 2, 1) := by decide +kernel
theorem dX12_endsSwapped_42 : decode cX12_endsSwapped 42 = .ok (.invokevirtual 280, 3) := by decide +kernel
theorem dX12_endsSwapped_45 : decode cX12_endsSwapped 45 = .ok (.iastore, 1) := by decide +kernel
theorem dX12_endsSwapped_46 : decode cX12_endsSwapped 46 = .ok (.aload_n 0, 1) := by decide +kernel
theorem dX12_endsSwapped_47 : decode cX12_endsSwapped 47 = .ok (.invokevirtual 353, 3) := by decide +kernel
theorem dX12_endsSwapped_50 : decode cX12_endsSwapped 50 = .ok (.ireturn, 1) := by decide +kernel
theorem dX12_cheat_0 : decode cX12_cheat 0 = .ok (.aload_n 0, 1) := by decide +kernel
theorem dX12_cheat_1 : decode cX12_cheat 1 = .ok (.iload_n 1, 1) := by decide +kernel
theorem dX12_cheat_2 : decode cX12_cheat 2 = .ok (.invokevirtual 122, 3) := by decide +kernel
theorem dX12_cheat_5 : decode cX12_cheat 5 = .ok (.ifCond .eq 12, 3) := by decide +kernel
theorem dX12_cheat_8 : decode cX12_cheat 8 = .ok (.iload_n 2, 1) := by decide +kernel
theorem dX12_cheat_9 : decode cX12_cheat 9 = .ok (.iconst 0, 1) := by decide +kernel
theorem dX12_cheat_10 : decode cX12_cheat 10 = .ok (.iconst 2, 1) := by decide +kernel
theorem dX12_cheat_11 : decode cX12_cheat 11 = .ok (.invokestatic 102, 3) := by decide +kernel
theorem dX12_cheat_14 : decode cX12_cheat 14 = .ok (.ifCond .ne 5, 3) := by decide +kernel
theorem dX12_cheat_17 : decode cX12_cheat 17 = .ok (.iconst (-1), 1) := by decide +kernel
theorem dX12_cheat_18 : decode cX12_cheat 18 = .ok (.ireturn, 1) := by decide +kernel
theorem dX12_cheat_19 : decode cX12_cheat 19 = .ok (.iconst (-1), 1) := by decide +kernel
theorem dX12_cheat_20 : decode cX12_cheat 20 = .ok (.istore_n 3, 1) := by decide +kernel
theorem dX12_cheat_21 : decode cX12_cheat 21 = .ok (.iconst 0, 1) := by decide +kernel
theorem dX12_cheat_22 : decode cX12_cheat 22 = .ok (.istore 4, 2) := by decide +kernel
theorem dX12_cheat_24 : decode cX12_cheat 24 = .ok (.iconst 0, 1) := by decide +kernel
theorem dX12_cheat_25 : decode cX12_cheat 25 = .ok (.istore 5, 2) := by decide +kernel
theorem dX12_cheat_27 : decode cX12_cheat 27 = .ok (.iconst 0, 1) := by decide +kernel
theorem dX12_cheat_28 : decode cX12_cheat 28 = .ok (.istore 6, 2) := by decide +kernel
theorem dX12_cheat_30 : decode cX12_cheat 30 = .ok (.iload 6, 2) := by decide +kernel
theorem dX12_cheat_32 : decode cX12_cheat 32 = .ok (.aload_n 0, 1) := by decide +kernel
theorem dX12_cheat_33 : decode cX12_cheat 33 = .ok (.iload_n 1, 1) := by decide +kernel
theorem dX12_cheat_34 : decode cX12_cheat 34 = .ok (.invokevirtual 316, 3) := by decide +kernel
theorem dX12_cheat_37 : decode cX12_cheat 37 = .ok (.if_icmp .ge 62, 3) := by decide +kernel
theorem dX12_cheat_40 : decode cX12_cheat 40 = .ok (.iload 6, 2) := by decide +kernel
theorem dX12_cheat_42 : decode cX12_cheat 42 = .ok (.iconst 1, 1) := by decide +kernel
theorem dX12_cheat_43 : decode cX12_cheat 43 = .ok (.iadd, 1) := by decide +kernel
theorem dX12_cheat_44 : decode cX12_cheat 44 = .ok (.istore 7, 2) := by decide +kernel
theorem dX12_cheat_46 : decode cX12_cheat 46 = .ok (.iload 7, 2) := by decide +kernel
theorem dX12_cheat_48 : decode cX12_cheat 48 = .ok (.aload_n 0, 1) := by decide +kernel
theorem dX12_cheat_49 : decode cX12_cheat 49 = .ok (.iload_n 1, 1) := by decide +kernel
theorem dX12_cheat_50 : decode cX12_cheat 50 = .ok (.invokevirtual 316, 3) := by decide +kernel
theorem dX12_cheat_53 : decode cX12_cheat 53 = .ok (.if_icmp .ge 40, 3) := by decide +kernel
theorem dX12_cheat_56 : decode cX12_cheat 56 = .ok (.aload_n 0, 1) := by decide +kernel
theorem dX12_cheat_57 : decode cX12_cheat 57 = .ok (.iload_n 1, 1) := by decide +kernel
theorem dX12_cheat_58 : decode cX12_cheat 58 = .ok (.iload 6, 2) := by decide +kernel
theorem dX12_cheat_60 : decode cX12_cheat 60 = .ok (.iload 7, 2) := by decide +kernel
theorem dX12_cheat_62 : decode cX12_cheat 62 = .ok (.invokevirtual 412, 3) := by decide +kernel
theorem dX12_cheat_65 : decode cX12_cheat 65 = .ok (.istore 8, 2) := by decide +kernel
theorem dX12_cheat_67 : decode cX12_cheat 67 = .ok (.iload 8, 2) := by decide +kernel
theorem dX12_cheat_69 : decode cX12_cheat 69 = .ok (.iload_n 3, 1) := by decide +kernel
theorem dX12_cheat_70 : decode cX12_cheat 70 = .ok (.if_icmp .gt 6, 3) := by decide +kernel
theorem dX12_cheat_73 : decode cX12_cheat 73 = .ok (.goto 14, 3) := by decide +kernel
theorem dX12_cheat_76 : decode cX12_cheat 76 = .ok (.iload 8, 2) := by decide +kernel
theorem dX12_cheat_78 : decode cX12_cheat 78 = .ok (.istore_n 3, 1) := by decide +kernel
theorem dX12_cheat_79 : decode cX12_cheat 79 = .ok (.iload 6, 2) := by decide +kernel
theorem dX12_cheat_81 : decode cX12_cheat 81 = .ok (.istore 4, 2) := by decide +kernel
theorem dX12_cheat_83 : decode cX12_cheat 83 = .ok (.iload 7, 2) := by decide +kernel
theorem dX12_cheat_85 : decode cX12_cheat 85 = .ok (.istore 5, 2) := by decide +kernel
theorem dX12_cheat_87 : decode cX12_cheat 87 = .ok (.iinc 7 1, 3) := by decide +kernel
theorem dX12_cheat_90 : decode cX12_cheat 90 = .ok (.goto (-44), 3) := by decide +kernel
theorem dX12_cheat_93 : decode cX12_cheat 93 = .ok (.iinc 6 1, 3) := by decide +kernel
theorem dX12_cheat_96 : decode cX12_cheat 96 = .ok (.goto (-66), 3) := by decide +kernel
theorem dX12_cheat_99 : decode cX12_cheat 99 = .ok (.iload_n 3, 1) := by decide +kernel
theorem dX12_cheat_100 : decode cX12_cheat 100 = .ok (.iconst (-1), 1) := by decide +kernel
theorem dX12_cheat_101 : decode cX12_cheat 101 = .ok (.if_icmp .eq 7, 3) := by decide +kernel
theorem dX12_cheat_104 : decode cX12_cheat 104 = .ok (.iload_n 2, 1) := by decide +kernel
theorem dX12_cheat_105 : decode cX12_cheat 105 = .ok (.ifCond .ne 7, 3) := by decide +kernel
theorem dX12_cheat_108 : decode cX12_cheat 108 = .ok (.iload_n 3, 1) := by decide +kernel
theorem dX12_cheat_109 : decode cX12_cheat 109 = .ok (.goto 15, 3) := by decide +kernel
theorem dX12_cheat_112 : decode cX12_cheat 112 = .ok (.iload_n 2, 1) := by decide +kernel
theorem dX12_cheat_113 : decode cX12_cheat 113 = .ok (.iconst 1, 1) := by decide +kernel
theorem dX12_cheat_114 : decode cX12_cheat 114 = .ok (.if_icmp .ne 8, 3) := by decide +kernel
theorem dX12_cheat_117 : decode cX12_cheat 117 = .ok (.iload 4, 2) := by decide +kernel
theorem dX12_cheat_119 : decode cX12_cheat 119 = .ok (.goto 5, 3) := by decide +kernel
theorem dX12_cheat_122 : decode cX12_cheat 122 = .ok (.iload 5, 2) := by decide +kernel
theorem dX12_cheat_124 : decode cX12_cheat 124 = .ok (.ireturn, 1) := by decide +kernel
theorem dX12_countsOrders_0 : decode cX12_countsOrders 0 = .ok (.aload_n 0, 1) := by decide +kernel
theorem dX12_countsOrders_1 : decode cX12_countsOrders 1 = .ok (.iconst 0, 1) := by decide +kernel
theorem dX12_countsOrders_2 : decode cX12_countsOrders 2 = .ok (.putfield 415, 3) := by decide +kernel
theorem dX12_countsOrders_5 : decode cX12_countsOrders 5 = .ok (.aload_n 0, 1) := by decide +kernel
theorem dX12_countsOrders_6 : decode cX12_countsOrders 6 = .ok (.iconst 0, 1) := by decide +kernel
theorem dX12_countsOrders_7 : decode cX12_countsOrders 7 = .ok (.putfield 418, 3) := by decide +kernel
theorem dX12_countsOrders_10 : decode cX12_countsOrders 10 = .ok (.aload_n 0, 1) := by decide +kernel
theorem dX12_countsOrders_11 : decode cX12_countsOrders 11 = .ok (.aload_n 0, 1) := by decide +kernel
theorem dX12_countsOrders_12 : decode cX12_countsOrders 12 = .ok (.iload_n 1, 1) := by decide +kernel
theorem dX12_countsOrders_13 : decode cX12_countsOrders 13 = .ok (.invokevirtual 316, 3) := by decide +kernel
theorem dX12_countsOrders_16 : decode cX12_countsOrders 16 = .ok (.iload_n 2, 1) := by decide +kernel
theorem dX12_countsOrders_17 : decode cX12_countsOrders 17 = .ok (.isub, 1) := by decide +kernel
theorem dX12_countsOrders_18 : decode cX12_countsOrders 18 = .ok (.invokevirtual 381, 3) := by decide +kernel
theorem dX12_countsOrders_21 : decode cX12_countsOrders 21 = .ok (.iconst 1, 1) := by decide +kernel
theorem dX12_countsOrders_22 : decode cX12_countsOrders 22 = .ok (.istore 4, 2) := by decide +kernel
theorem dX12_countsOrders_24 : decode cX12_countsOrders 24 = .ok (.iload 4, 2) := by decide +kernel
theorem dX12_countsOrders_26 : decode cX12_countsOrders 26 = .ok (.ifCond .eq 97, 3) := by decide +kernel
theorem dX12_countsOrders_29 : decode cX12_countsOrders 29 = .ok (.aload_n 0, 1) := by decide +kernel
theorem dX12_countsOrders_30 : decode cX12_countsOrders 30 = .ok (.iload_n 1, 1) := by decide +kernel
theorem dX12_countsOrders_31 : decode cX12_countsOrders 31 = .ok (.invokevirtual 126, 3) := by decide +kernel
theorem dX12_countsOrders_34 : decode cX12_countsOrders 34 = .ok (.aload_n 0, 1) := by decide +kernel
theorem dX12_countsOrders_35 : decode cX12_countsOrders 35 = .ok (.iconst 0, 1) := by decide +kernel
theorem dX12_countsOrders_36 : decode cX12_countsOrders 36 = .ok (.putfield 133, 3) := by decide +kernel
theorem dX12_countsOrders_39 : decode cX12_countsOrders 39 = .ok (.iconst 0, 1) := by decide +kernel
theorem dX12_countsOrders_40 : decode cX12_countsOrders 40 = .ok (.istore 5, 2) := by decide +kernel
theorem dX12_countsOrders_42 : decode cX12_countsOrders 42 = .ok (.iload 5, 2) := by decide +kernel
theorem dX12_countsOrders_44 : decode cX12_countsOrders 44 = .ok (.aload_n 0, 1) := by decide +kernel
theorem dX12_countsOrders_45 : decode cX12_countsOrders 45 = .ok (.getfield 378, 3) := by decide +kernel
theorem dX12_countsOrders_48 : decode cX12_countsOrders 48 = .ok (.if_icmp .ge 34, 3) := by decide +kernel
theorem dX12_countsOrders_51 : decode cX12_countsOrders 51 = .ok (.aload_n 0, 1) := by decide +kernel
theorem dX12_countsOrders_52 : decode cX12_countsOrders 52 = .ok (.getfield 65, 3) := by decide +kernel
theorem dX12_countsOrders_55 : decode cX12_countsOrders 55 = .ok (.iload_n 2, 1) := by decide +kernel
theorem dX12_countsOrders_56 : decode cX12_countsOrders 56 = .ok (.iload 5, 2) := by decide +kernel
theorem dX12_countsOrders_58 : decode cX12_countsOrders 58 = .ok (.iadd, 1) := by decide +kernel
theorem dX12_countsOrders_59 : decode cX12_countsOrders 59 = .ok (.aload_n 0, 1) := by decide +kernel
theorem dX12_countsOrders_60 : decode cX12_countsOrders 60 = .ok (.iload_n 1, 1) := by decide +kernel
theorem dX12_countsOrders_61 : decode cX12_countsOrders 61 = .ok (.iload_n 2, 1) := by decide +kernel
theorem dX12_countsOrders_62 : decode cX12_countsOrders 62 = .ok (.aload_n 0, 1) := by decide +kernel
theorem dX12_countsOrders_63 : decode cX12_countsOrders 63 = .ok (.getfield 80, 3) := by decide +kernel
theorem dX12_countsOrders_66 : decode cX12_countsOrders 66 = .ok (.iload 5, 2) := by decide +kernel
theorem dX12_countsOrders_68 : decode cX12_countsOrders 68 = .ok (.iaload, 1) := by decide +kernel
theorem dX12_countsOrders_69 : decode cX12_countsOrders 69 = .ok (.iadd, 1) := by decide +kernel
theorem dX12_countsOrders_70 : decode cX12_countsOrders 70 = .ok (.iconst 1, 1) := by decide +kernel
theorem dX12_countsOrders_71 : decode cX12_countsOrders 71 = .ok (.isub, 1) := by decide +kernel
theorem dX12_countsOrders_72 : decode cX12_countsOrders 72 = .ok (.invokevirtual 280, 3) := by decide +kernel
theorem dX12_countsOrders_75 : decode cX12_countsOrders 75 = .ok (.iastore, 1) := by decide +kernel
theorem dX12_countsOrders_76 : decode cX12_countsOrders 76 = .ok (.iinc 5 1, 3) := by decide +kernel
theorem dX12_countsOrders_79 : decode cX12_countsOrders 79 = .ok (.goto (-37), 3) := by decide +kernel
theorem dX12_countsOrders_82 : decode cX12_countsOrders 82 = .ok (.aload_n 0, 1) := by decide +kernel
theorem dX12_countsOrders_83 : decode cX12_countsOrders 83 = .ok (.dup, 1) := by decide +kernel
theorem dX12_countsOrders_84 : decode cX12_countsOrders 84 = .ok (.getfield 418, 3) := by decide +kernel
theorem dX12_countsOrders_87 : decode cX12_countsOrders 87 = .ok (.aload_n 0, 1) := by decide +kernel
theorem dX12_countsOrders_88 : decode cX12_countsOrders 88 = .ok (.invokevirtual 353, 3) := by decide +kernel
theorem dX12_countsOrders_91 : decode cX12_countsOrders 91 = .ok (.iload_n 3, 1) := by decide +kernel
theorem dX12_countsOrders_92 : decode cX12_countsOrders 92 = .ok (.if_icmp .ne 7, 3) := by decide +kernel
theorem dX12_countsOrders_95 : decode cX12_countsOrders 95 = .ok (.iconst 1, 1) := by decide +kernel
theorem dX12_countsOrders_96 : decode cX12_countsOrders 96 = .ok (.goto 4, 3) := by decide +kernel
theorem dX12_countsOrders_99 : decode cX12_countsOrders 99 = .ok (.iconst 0, 1) := by decide +kernel
theorem dX12_countsOrders_100 : decode cX12_countsOrders 100 = .ok (.iadd, 1) := by decide +kernel
theorem dX12_countsOrders_101 : decode cX12_countsOrders 101 = .ok (.putfield 418, 3) := by decide +kernel
theorem dX12_countsOrders_104 : decode cX12_countsOrders 104 = .ok (.aload_n 0, 1) := by decide +kernel
theorem dX12_countsOrders_105 : decode cX12_countsOrders 105 = .ok (.dup, 1) := by decide +kernel
theorem dX12_countsOrders_106 : decode cX12_countsOrders 106 = .ok (.getfield 415, 3) := by decide +kernel
theorem dX12_countsOrders_109 : decode cX12_countsOrders 109 = .ok (.iconst 1, 1) := by decide +kernel
theorem dX12_countsOrders_110 : decode cX12_countsOrders 110 = .ok (.iadd, 1) := by decide +kernel
theorem dX12_countsOrders_111 : decode cX12_countsOrders 111 = .ok (.putfield 415, 3) := by decide +kernel
theorem dX12_countsOrders_114 : decode cX12_countsOrders 114 = .ok (.aload_n 0, 1) := by decide +kernel
theorem dX12_countsOrders_115 : decode cX12_countsOrders 115 = .ok (.invokevirtual 390, 3) := by decide +kernel
theorem dX12_countsOrders_118 : decode cX12_countsOrders 118 = .ok (.istore 4, 2) := by decide +kernel
theorem dX12_countsOrders_120 : decode cX12_countsOrders 120 = .ok (.goto (-96), 3) := by decide +kernel
theorem dX12_countsOrders_123 : decode cX12_countsOrders 123 = .ok (.return_, 1) := by decide +kernel
theorem dX12_odds_0 : decode cX12_odds 0 = .ok (.aload_n 0, 1) := by decide +kernel
theorem dX12_odds_1 : decode cX12_odds 1 = .ok (.iload_n 1, 1) := by decide +kernel
theorem dX12_odds_2 : decode cX12_odds 2 = .ok (.invokevirtual 122, 3) := by decide +kernel
theorem dX12_odds_5 : decode cX12_odds 5 = .ok (.ifCond .eq 47, 3) := by decide +kernel
theorem dX12_odds_8 : decode cX12_odds 8 = .ok (.aload_n 0, 1) := by decide +kernel
theorem dX12_odds_9 : decode cX12_odds 9 = .ok (.iload_n 1, 1) := by decide +kernel
theorem dX12_odds_10 : decode cX12_odds 10 = .ok (.invokevirtual 316, 3) := by decide +kernel
theorem dX12_odds_13 : decode cX12_odds 13 = .ok (.bipush 7, 2) := by decide +kernel
theorem dX12_odds_15 : decode cX12_odds 15 = .ok (.if_icmp .gt 37, 3) := by decide +kernel
theorem dX12_odds_18 : decode cX12_odds 18 = .ok (.iload_n 2, 1) := by decide +kernel
theorem dX12_odds_19 : decode cX12_odds 19 = .ok (.iconst 0, 1) := by decide +kernel
theorem dX12_odds_20 : decode cX12_odds 20 = .ok (.aload_n 0, 1) := by decide +kernel
theorem dX12_odds_21 : decode cX12_odds 21 = .ok (.iload_n 1, 1) := by decide +kernel
theorem dX12_odds_22 : decode cX12_odds 22 = .ok (.invokevirtual 316, 3) := by decide +kernel
theorem dX12_odds_25 : decode cX12_odds 25 = .ok (.invokestatic 102, 3) := by decide +kernel
theorem dX12_odds_28 : decode cX12_odds 28 = .ok (.ifCond .eq 24, 3) := by decide +kernel
theorem dX12_odds_31 : decode cX12_odds 31 = .ok (.iload_n 3, 1) := by decide +kernel
theorem dX12_odds_32 : decode cX12_odds 32 = .ok (.iconst 0, 1) := by decide +kernel
theorem dX12_odds_33 : decode cX12_odds 33 = .ok (.sipush 300, 3) := by decide +kernel
theorem dX12_odds_36 : decode cX12_odds 36 = .ok (.invokestatic 102, 3) := by decide +kernel
theorem dX12_odds_39 : decode cX12_odds 39 = .ok (.ifCond .eq 13, 3) := by decide +kernel
theorem dX12_odds_42 : decode cX12_odds 42 = .ok (.iload 4, 2) := by decide +kernel
theorem dX12_odds_44 : decode cX12_odds 44 = .ok (.iconst 0, 1) := by decide +kernel
theorem dX12_odds_45 : decode cX12_odds 45 = .ok (.iconst 1, 1) := by decide +kernel
theorem dX12_odds_46 : decode cX12_odds 46 = .ok (.invokestatic 102, 3) := by decide +kernel
theorem dX12_odds_49 : decode cX12_odds 49 = .ok (.ifCond .ne 5, 3) := by decide +kernel
theorem dX12_odds_52 : decode cX12_odds 52 = .ok (.iconst (-1), 1) := by decide +kernel
theorem dX12_odds_53 : decode cX12_odds 53 = .ok (.ireturn, 1) := by decide +kernel
theorem dX12_odds_54 : decode cX12_odds 54 = .ok (.aload_n 0, 1) := by decide +kernel
theorem dX12_odds_55 : decode cX12_odds 55 = .ok (.iload_n 1, 1) := by decide +kernel
theorem dX12_odds_56 : decode cX12_odds 56 = .ok (.iload_n 2, 1) := by decide +kernel
theorem dX12_odds_57 : decode cX12_odds 57 = .ok (.iload_n 3, 1) := by decide +kernel
theorem dX12_odds_58 : decode cX12_odds 58 = .ok (.invokevirtual 421, 3) := by decide +kernel
theorem dX12_odds_61 : decode cX12_odds 61 = .ok (.aload_n 0, 1) := by decide +kernel
theorem dX12_odds_62 : decode cX12_odds 62 = .ok (.getfield 418, 3) := by decide +kernel
theorem dX12_odds_65 : decode cX12_odds 65 = .ok (.aload_n 0, 1) := by decide +kernel
theorem dX12_odds_66 : decode cX12_odds 66 = .ok (.getfield 415, 3) := by decide +kernel
theorem dX12_odds_69 : decode cX12_odds 69 = .ok (.invokestatic 425, 3) := by decide +kernel
theorem dX12_odds_72 : decode cX12_odds 72 = .ok (.istore 5, 2) := by decide +kernel
theorem dX12_odds_74 : decode cX12_odds 74 = .ok (.iload 4, 2) := by decide +kernel
theorem dX12_odds_76 : decode cX12_odds 76 = .ok (.ifCond .ne 10, 3) := by decide +kernel
theorem dX12_odds_79 : decode cX12_odds 79 = .ok (.aload_n 0, 1) := by decide +kernel
theorem dX12_odds_80 : decode cX12_odds 80 = .ok (.getfield 418, 3) := by decide +kernel
theorem dX12_odds_83 : decode cX12_odds 83 = .ok (.goto 7, 3) := by decide +kernel
theorem dX12_odds_86 : decode cX12_odds 86 = .ok (.aload_n 0, 1) := by decide +kernel
theorem dX12_odds_87 : decode cX12_odds 87 = .ok (.getfield 415, 3) := by decide +kernel
theorem dX12_odds_90 : decode cX12_odds 90 = .ok (.iload 5, 2) := by decide +kernel
theorem dX12_odds_92 : decode cX12_odds 92 = .ok (.idiv, 1) := by decide +kernel
theorem dX12_odds_93 : decode cX12_odds 93 = .ok (.ireturn, 1) := by decide +kernel
theorem dX12_canOrder_0 : decode cX12_canOrder 0 = .ok (.iload_n 1, 1) := by decide +kernel
theorem dX12_canOrder_1 : decode cX12_canOrder 1 = .ok (.iload_n 2, 1) := by decide +kernel
theorem dX12_canOrder_2 : decode cX12_canOrder 2 = .ok (.if_icmp .ne 8, 3) := by decide +kernel
theorem dX12_canOrder_5 : decode cX12_canOrder 5 = .ok (.aload_n 0, 1) := by decide +kernel
theorem dX12_canOrder_6 : decode cX12_canOrder 6 = .ok (.invokevirtual 393, 3) := by decide +kernel
theorem dX12_canOrder_9 : decode cX12_canOrder 9 = .ok (.ireturn, 1) := by decide +kernel
theorem dX12_canOrder_10 : decode cX12_canOrder 10 = .ok (.iconst 2, 1) := by decide +kernel
theorem dX12_canOrder_11 : decode cX12_canOrder 11 = .ok (.istore_n 3, 1) := by decide +kernel
theorem dX12_canOrder_12 : decode cX12_canOrder 12 = .ok (.iload_n 3, 1) := by decide +kernel
theorem dX12_canOrder_13 : decode cX12_canOrder 13 = .ok (.aload_n 0, 1) := by decide +kernel
theorem dX12_canOrder_14 : decode cX12_canOrder 14 = .ok (.getfield 130, 3) := by decide +kernel
theorem dX12_canOrder_17 : decode cX12_canOrder 17 = .ok (.if_icmp .gt 50, 3) := by decide +kernel
theorem dX12_canOrder_20 : decode cX12_canOrder 20 = .ok (.aload_n 0, 1) := by decide +kernel
theorem dX12_canOrder_21 : decode cX12_canOrder 21 = .ok (.iload_n 3, 1) := by decide +kernel
theorem dX12_canOrder_22 : decode cX12_canOrder 22 = .ok (.invokevirtual 327, 3) := by decide +kernel
theorem dX12_canOrder_25 : decode cX12_canOrder 25 = .ok (.aload_n 0, 1) := by decide +kernel
theorem dX12_canOrder_26 : decode cX12_canOrder 26 = .ok (.getfield 86, 3) := by decide +kernel
theorem dX12_canOrder_29 : decode cX12_canOrder 29 = .ok (.iload_n 1, 1) := by decide +kernel
theorem dX12_canOrder_30 : decode cX12_canOrder 30 = .ok (.iload_n 3, 1) := by decide +kernel
theorem dX12_canOrder_31 : decode cX12_canOrder 31 = .ok (.iastore, 1) := by decide +kernel
theorem dX12_canOrder_32 : decode cX12_canOrder 32 = .ok (.aload_n 0, 1) := by decide +kernel
theorem dX12_canOrder_33 : decode cX12_canOrder 33 = .ok (.iload_n 1, 1) := by decide +kernel
theorem dX12_canOrder_34 : decode cX12_canOrder 34 = .ok (.iconst 1, 1) := by decide +kernel
theorem dX12_canOrder_35 : decode cX12_canOrder 35 = .ok (.iadd, 1) := by decide +kernel
theorem dX12_canOrder_36 : decode cX12_canOrder 36 = .ok (.iload_n 2, 1) := by decide +kernel
theorem dX12_canOrder_37 : decode cX12_canOrder 37 = .ok (.invokevirtual 428, 3) := by decide +kernel
theorem dX12_canOrder_40 : decode cX12_canOrder 40 = .ok (.istore 4, 2) := by decide +kernel
theorem dX12_canOrder_42 : decode cX12_canOrder 42 = .ok (.aload_n 0, 1) := by decide +kernel
theorem dX12_canOrder_43 : decode cX12_canOrder 43 = .ok (.iload_n 3, 1) := by decide +kernel
theorem dX12_canOrder_44 : decode cX12_canOrder 44 = .ok (.invokevirtual 327, 3) := by decide +kernel
theorem dX12_canOrder_47 : decode cX12_canOrder 47 = .ok (.iload 4, 2) := by decide +kernel
theorem dX12_canOrder_49 : decode cX12_canOrder 49 = .ok (.ifCond .eq 12, 3) := by decide +kernel
theorem dX12_canOrder_52 : decode cX12_canOrder 52 = .ok (.aload_n 0, 1) := by decide +kernel
theorem dX12_canOrder_53 : decode cX12_canOrder 53 = .ok (.getfield 86, 3) := by decide +kernel
theorem dX12_canOrder_56 : decode cX12_canOrder 56 = .ok (.iload_n 1, 1) := by decide +kernel
theorem dX12_canOrder_57 : decode cX12_canOrder 57 = .ok (.iload_n 3, 1) := by decide +kernel
theorem dX12_canOrder_58 : decode cX12_canOrder 58 = .ok (.iastore, 1) := by decide +kernel
theorem dX12_canOrder_59 : decode cX12_canOrder 59 = .ok (.iconst 1, 1) := by decide +kernel
theorem dX12_canOrder_60 : decode cX12_canOrder 60 = .ok (.ireturn, 1) := by decide +kernel
theorem dX12_canOrder_61 : decode cX12_canOrder 61 = .ok (.iinc 3 1, 3) := by decide +kernel
theorem dX12_canOrder_64 : decode cX12_canOrder 64 = .ok (.goto (-52), 3) := by decide +kernel
theorem dX12_canOrder_67 : decode cX12_canOrder 67 = .ok (.iconst 0, 1) := by decide +kernel
theorem dX12_canOrder_68 : decode cX12_canOrder 68 = .ok (.ireturn, 1) := by decide +kernel
theorem dX12_sorted_0 : decode cX12_sorted 0 = .ok (.aload_n 0, 1) := by decide +kernel
theorem dX12_sorted_1 : decode cX12_sorted 1 = .ok (.iload_n 1, 1) := by decide +kernel
theorem dX12_sorted_2 : decode cX12_sorted 2 = .ok (.invokevirtual 122, 3) := by decide +kernel
theorem dX12_sorted_5 : decode cX12_sorted 5 = .ok (.ifCond .eq 17, 3) := by decide +kernel
theorem dX12_sorted_8 : decode cX12_sorted 8 = .ok (.aload_n 0, 1) := by decide +kernel
theorem dX12_sorted_9 : decode cX12_sorted 9 = .ok (.iload_n 1, 1) := by decide +kernel
theorem dX12_sorted_10 : decode cX12_sorted 10 = .ok (.invokevirtual 316, 3) := by decide +kernel
theorem dX12_sorted_13 : decode cX12_sorted 13 = .ok (.bipush 7, 2) := by decide +kernel
theorem dX12_sorted_15 : decode cX12_sorted 15 = .ok (.if_icmp .gt 7, 3) := by decide +kernel
theorem dX12_sorted_18 : decode cX12_sorted 18 = .ok (.iload_n 2, 1) := by decide +kernel
theorem dX12_sorted_19 : decode cX12_sorted 19 = .ok (.ifCond .ge 5, 3) := by decide +kernel
theorem dX12_sorted_22 : decode cX12_sorted 22 = .ok (.iconst (-1), 1) := by decide +kernel
theorem dX12_sorted_23 : decode cX12_sorted 23 = .ok (.ireturn, 1) := by decide +kernel
theorem dX12_sorted_24 : decode cX12_sorted 24 = .ok (.iconst 0, 1) := by decide +kernel
theorem dX12_sorted_25 : decode cX12_sorted 25 = .ok (.istore_n 3, 1) := by decide +kernel
theorem dX12_sorted_26 : decode cX12_sorted 26 = .ok (.aload_n 0, 1) := by decide +kernel
theorem dX12_sorted_27 : decode cX12_sorted 27 = .ok (.iload_n 1, 1) := by decide +kernel
theorem dX12_sorted_28 : decode cX12_sorted 28 = .ok (.invokevirtual 126, 3) := by decide +kernel
theorem dX12_sorted_31 : decode cX12_sorted 31 = .ok (.aload_n 0, 1) := by decide +kernel
theorem dX12_sorted_32 : decode cX12_sorted 32 = .ok (.iconst 0, 1) := by decide +kernel
theorem dX12_sorted_33 : decode cX12_sorted 33 = .ok (.iload_n 3, 1) := by decide +kernel
theorem dX12_sorted_34 : decode cX12_sorted 34 = .ok (.invokevirtual 428, 3) := by decide +kernel
theorem dX12_sorted_37 : decode cX12_sorted 37 = .ok (.ifCond .ne 9, 3) := by decide +kernel
theorem dX12_sorted_40 : decode cX12_sorted 40 = .ok (.iinc 3 1, 3) := by decide +kernel
theorem dX12_sorted_43 : decode cX12_sorted 43 = .ok (.goto (-12), 3) := by decide +kernel
theorem dX12_sorted_46 : decode cX12_sorted 46 = .ok (.iload_n 2, 1) := by decide +kernel
theorem dX12_sorted_47 : decode cX12_sorted 47 = .ok (.ifCond .ne 7, 3) := by decide +kernel
theorem dX12_sorted_50 : decode cX12_sorted 50 = .ok (.iload_n 3, 1) := by decide +kernel
theorem dX12_sorted_51 : decode cX12_sorted 51 = .ok (.goto 20, 3) := by decide +kernel
theorem dX12_sorted_54 : decode cX12_sorted 54 = .ok (.iload_n 2, 1) := by decide +kernel
theorem dX12_sorted_55 : decode cX12_sorted 55 = .ok (.iload_n 3, 1) := by decide +kernel
theorem dX12_sorted_56 : decode cX12_sorted 56 = .ok (.if_icmp .gt 14, 3) := by decide +kernel
theorem dX12_sorted_59 : decode cX12_sorted 59 = .ok (.aload_n 0, 1) := by decide +kernel
theorem dX12_sorted_60 : decode cX12_sorted 60 = .ok (.getfield 86, 3) := by decide +kernel
theorem dX12_sorted_63 : decode cX12_sorted 63 = .ok (.iload_n 2, 1) := by decide +kernel
theorem dX12_sorted_64 : decode cX12_sorted 64 = .ok (.iconst 1, 1) := by decide +kernel
theorem dX12_sorted_65 : decode cX12_sorted 65 = .ok (.isub, 1) := by decide +kernel
theorem dX12_sorted_66 : decode cX12_sorted 66 = .ok (.iaload, 1) := by decide +kernel
theorem dX12_sorted_67 : decode cX12_sorted 67 = .ok (.goto 4, 3) := by decide +kernel
theorem dX12_sorted_70 : decode cX12_sorted 70 = .ok (.iconst (-1), 1) := by decide +kernel
theorem dX12_sorted_71 : decode cX12_sorted 71 = .ok (.ireturn, 1) := by decide +kernel
theorem dX12_stopped_0 : decode cX12_stopped 0 = .ok (.aload_n 0, 1) := by decide +kernel
theorem dX12_stopped_1 : decode cX12_stopped 1 = .ok (.getfield 89, 3) := by decide +kernel
theorem dX12_stopped_4 : decode cX12_stopped 4 = .ok (.ireturn, 1) := by decide +kernel
theorem dX12_orders_0 : decode cX12_orders 0 = .ok (.aload_n 0, 1) := by decide +kernel
theorem dX12_orders_1 : decode cX12_orders 1 = .ok (.iconst (-1), 1) := by decide +kernel
theorem dX12_orders_2 : decode cX12_orders 2 = .ok (.putfield 89, 3) := by decide +kernel
theorem dX12_orders_5 : decode cX12_orders 5 = .ok (.aload_n 0, 1) := by decide +kernel
theorem dX12_orders_6 : decode cX12_orders 6 = .ok (.iconst 1, 1) := by decide +kernel
theorem dX12_orders_7 : decode cX12_orders 7 = .ok (.invokevirtual 246, 3) := by decide +kernel
theorem dX12_orders_10 : decode cX12_orders 10 = .ok (.ifCond .ne 10, 3) := by decide +kernel
theorem dX12_orders_13 : decode cX12_orders 13 = .ok (.aload_n 0, 1) := by decide +kernel
theorem dX12_orders_14 : decode cX12_orders 14 = .ok (.bipush (-6), 2) := by decide +kernel
theorem dX12_orders_16 : decode cX12_orders 16 = .ok (.invokevirtual 106, 3) := by decide +kernel
theorem dX12_orders_19 : decode cX12_orders 19 = .ok (.ireturn, 1) := by decide +kernel
theorem dX12_orders_20 : decode cX12_orders 20 = .ok (.iconst 0, 1) := by decide +kernel
theorem dX12_orders_21 : decode cX12_orders 21 = .ok (.istore_n 1, 1) := by decide +kernel
theorem dX12_orders_22 : decode cX12_orders 22 = .ok (.iload_n 1, 1) := by decide +kernel
theorem dX12_orders_23 : decode cX12_orders 23 = .ok (.bipush 97, 2) := by decide +kernel
theorem dX12_orders_25 : decode cX12_orders 25 = .ok (.if_icmp .ge 21, 3) := by decide +kernel
theorem dX12_orders_28 : decode cX12_orders 28 = .ok (.aload_n 0, 1) := by decide +kernel
theorem dX12_orders_29 : decode cX12_orders 29 = .ok (.getfield 34, 3) := by decide +kernel
theorem dX12_orders_32 : decode cX12_orders 32 = .ok (.iload_n 1, 1) := by decide +kernel
theorem dX12_orders_33 : decode cX12_orders 33 = .ok (.aload_n 0, 1) := by decide +kernel
theorem dX12_orders_34 : decode cX12_orders 34 = .ok (.getfield 24, 3) := by decide +kernel
theorem dX12_orders_37 : decode cX12_orders 37 = .ok (.iload_n 1, 1) := by decide +kernel
theorem dX12_orders_38 : decode cX12_orders 38 = .ok (.iaload, 1) := by decide +kernel
theorem dX12_orders_39 : decode cX12_orders 39 = .ok (.iastore, 1) := by decide +kernel
theorem dX12_orders_40 : decode cX12_orders 40 = .ok (.iinc 1 1, 3) := by decide +kernel
theorem dX12_orders_43 : decode cX12_orders 43 = .ok (.goto (-21), 3) := by decide +kernel
theorem dX12_orders_46 : decode cX12_orders 46 = .ok (.iconst 0, 1) := by decide +kernel
theorem dX12_orders_47 : decode cX12_orders 47 = .ok (.istore_n 1, 1) := by decide +kernel
theorem dX12_orders_48 : decode cX12_orders 48 = .ok (.iload_n 1, 1) := by decide +kernel
theorem dX12_orders_49 : decode cX12_orders 49 = .ok (.sipush 1568, 3) := by decide +kernel
theorem dX12_orders_52 : decode cX12_orders 52 = .ok (.if_icmp .ge 21, 3) := by decide +kernel
theorem dX12_orders_55 : decode cX12_orders 55 = .ok (.aload_n 0, 1) := by decide +kernel
theorem dX12_orders_56 : decode cX12_orders 56 = .ok (.getfield 77, 3) := by decide +kernel
theorem dX12_orders_59 : decode cX12_orders 59 = .ok (.iload_n 1, 1) := by decide +kernel
theorem dX12_orders_60 : decode cX12_orders 60 = .ok (.aload_n 0, 1) := by decide +kernel
theorem dX12_orders_61 : decode cX12_orders 61 = .ok (.getfield 74, 3) := by decide +kernel
theorem dX12_orders_64 : decode cX12_orders 64 = .ok (.iload_n 1, 1) := by decide +kernel
theorem dX12_orders_65 : decode cX12_orders 65 = .ok (.iaload, 1) := by decide +kernel
theorem dX12_orders_66 : decode cX12_orders 66 = .ok (.iastore, 1) := by decide +kernel
theorem dX12_orders_67 : decode cX12_orders 67 = .ok (.iinc 1 1, 3) := by decide +kernel
theorem dX12_orders_70 : decode cX12_orders 70 = .ok (.goto (-22), 3) := by decide +kernel
theorem dX12_orders_73 : decode cX12_orders 73 = .ok (.aload_n 0, 1) := by decide +kernel
theorem dX12_orders_74 : decode cX12_orders 74 = .ok (.getfield 11, 3) := by decide +kernel
theorem dX12_orders_77 : decode cX12_orders 77 = .ok (.istore_n 1, 1) := by decide +kernel
theorem dX12_orders_78 : decode cX12_orders 78 = .ok (.aload_n 0, 1) := by decide +kernel
theorem dX12_orders_79 : decode cX12_orders 79 = .ok (.bipush 6, 2) := by decide +kernel
theorem dX12_orders_81 : decode cX12_orders 81 = .ok (.invokevirtual 250, 3) := by decide +kernel
theorem dX12_orders_84 : decode cX12_orders 84 = .ok (.aload_n 0, 1) := by decide +kernel
theorem dX12_orders_85 : decode cX12_orders 85 = .ok (.getfield 62, 3) := by decide +kernel
theorem dX12_orders_88 : decode cX12_orders 88 = .ok (.iconst 0, 1) := by decide +kernel
theorem dX12_orders_89 : decode cX12_orders 89 = .ok (.aload_n 0, 1) := by decide +kernel
theorem dX12_orders_90 : decode cX12_orders 90 = .ok (.getfield 24, 3) := by decide +kernel
theorem dX12_orders_93 : decode cX12_orders 93 = .ok (.bipush 96, 2) := by decide +kernel
theorem dX12_orders_95 : decode cX12_orders 95 = .ok (.iaload, 1) := by decide +kernel
theorem dX12_orders_96 : decode cX12_orders 96 = .ok (.iastore, 1) := by decide +kernel
theorem dX12_orders_97 : decode cX12_orders 97 = .ok (.aload_n 0, 1) := by decide +kernel
theorem dX12_orders_98 : decode cX12_orders 98 = .ok (.getfield 62, 3) := by decide +kernel
theorem dX12_orders_101 : decode cX12_orders 101 = .ok (.iconst 1, 1) := by decide +kernel
theorem dX12_orders_102 : decode cX12_orders 102 = .ok (.iconst 0, 1) := by decide +kernel
theorem dX12_orders_103 : decode cX12_orders 103 = .ok (.iastore, 1) := by decide +kernel
theorem dX12_orders_104 : decode cX12_orders 104 = .ok (.aload_n 0, 1) := by decide +kernel
theorem dX12_orders_105 : decode cX12_orders 105 = .ok (.getfield 62, 3) := by decide +kernel
theorem dX12_orders_108 : decode cX12_orders 108 = .ok (.iconst 2, 1) := by decide +kernel
theorem dX12_orders_109 : decode cX12_orders 109 = .ok (.iconst (-1), 1) := by decide +kernel
theorem dX12_orders_110 : decode cX12_orders 110 = .ok (.iastore, 1) := by decide +kernel
theorem dX12_orders_111 : decode cX12_orders 111 = .ok (.aload_n 0, 1) := by decide +kernel
theorem dX12_orders_112 : decode cX12_orders 112 = .ok (.sipush 2400, 3) := by decide +kernel
theorem dX12_orders_115 : decode cX12_orders 115 = .ok (.putfield 431, 3) := by decide +kernel
theorem dX12_orders_118 : decode cX12_orders 118 = .ok (.aload_n 0, 1) := by decide +kernel
theorem dX12_orders_119 : decode cX12_orders 119 = .ok (.getfield 431, 3) := by decide +kernel
theorem dX12_orders_122 : decode cX12_orders 122 = .ok (.aload_n 0, 1) := by decide +kernel
theorem dX12_orders_123 : decode cX12_orders 123 = .ok (.getfield 24, 3) := by decide +kernel
theorem dX12_orders_126 : decode cX12_orders 126 = .ok (.bipush 124, 2) := by decide +kernel
theorem dX12_orders_128 : decode cX12_orders 128 = .ok (.iaload, 1) := by decide +kernel
theorem dX12_orders_129 : decode cX12_orders 129 = .ok (.iadd, 1) := by decide +kernel
theorem dX12_orders_130 : decode cX12_orders 130 = .ok (.istore_n 2, 1) := by decide +kernel
theorem dX12_orders_131 : decode cX12_orders 131 = .ok (.iconst 0, 1) := by decide +kernel
theorem dX12_orders_132 : decode cX12_orders 132 = .ok (.istore_n 3, 1) := by decide +kernel
theorem dX12_orders_133 : decode cX12_orders 133 = .ok (.aload_n 0, 1) := by decide +kernel
theorem dX12_orders_134 : decode cX12_orders 134 = .ok (.getfield 431, 3) := by decide +kernel
theorem dX12_orders_137 : decode cX12_orders 137 = .ok (.iload_n 2, 1) := by decide +kernel
theorem dX12_orders_138 : decode cX12_orders 138 = .ok (.if_icmp .ge 98, 3) := by decide +kernel
theorem dX12_orders_141 : decode cX12_orders 141 = .ok (.aload_n 0, 1) := by decide +kernel
theorem dX12_orders_142 : decode cX12_orders 142 = .ok (.iload_n 2, 1) := by decide +kernel
theorem dX12_orders_143 : decode cX12_orders 143 = .ok (.invokevirtual 434, 3) := by decide +kernel
theorem dX12_orders_146 : decode cX12_orders 146 = .ok (.ifCond .eq 6, 3) := by decide +kernel
theorem dX12_orders_149 : decode cX12_orders 149 = .ok (.goto 81, 3) := by decide +kernel
theorem dX12_orders_152 : decode cX12_orders 152 = .ok (.iconst 0, 1) := by decide +kernel
theorem dX12_orders_153 : decode cX12_orders 153 = .ok (.istore 4, 2) := by decide +kernel
theorem dX12_orders_155 : decode cX12_orders 155 = .ok (.iload 4, 2) := by decide +kernel
theorem dX12_orders_157 : decode cX12_orders 157 = .ok (.bipush 97, 2) := by decide +kernel
theorem dX12_orders_159 : decode cX12_orders 159 = .ok (.if_icmp .ge 23, 3) := by decide +kernel
theorem dX12_orders_162 : decode cX12_orders 162 = .ok (.aload_n 0, 1) := by decide +kernel
theorem dX12_orders_163 : decode cX12_orders 163 = .ok (.getfield 24, 3) := by decide +kernel
theorem dX12_orders_166 : decode cX12_orders 166 = .ok (.iload 4, 2) := by decide +kernel
theorem dX12_orders_168 : decode cX12_orders 168 = .ok (.aload_n 0, 1) := by decide +kernel
theorem dX12_orders_169 : decode cX12_orders 169 = .ok (.getfield 34, 3) := by decide +kernel
theorem dX12_orders_172 : decode cX12_orders 172 = .ok (.iload 4, 2) := by decide +kernel
theorem dX12_orders_174 : decode cX12_orders 174 = .ok (.iaload, 1) := by decide +kernel
theorem dX12_orders_175 : decode cX12_orders 175 = .ok (.iastore, 1) := by decide +kernel
theorem dX12_orders_176 : decode cX12_orders 176 = .ok (.iinc 4 1, 3) := by decide +kernel
theorem dX12_orders_179 : decode cX12_orders 179 = .ok (.goto (-24), 3) := by decide +kernel
theorem dX12_orders_182 : decode cX12_orders 182 = .ok (.iconst 0, 1) := by decide +kernel
theorem dX12_orders_183 : decode cX12_orders 183 = .ok (.istore 4, 2) := by decide +kernel
theorem dX12_orders_185 : decode cX12_orders 185 = .ok (.iload 4, 2) := by decide +kernel
theorem dX12_orders_187 : decode cX12_orders 187 = .ok (.sipush 1568, 3) := by decide +kernel
theorem dX12_orders_190 : decode cX12_orders 190 = .ok (.if_icmp .ge 23, 3) := by decide +kernel
theorem dX12_orders_193 : decode cX12_orders 193 = .ok (.aload_n 0, 1) := by decide +kernel
theorem dX12_orders_194 : decode cX12_orders 194 = .ok (.getfield 74, 3) := by decide +kernel
theorem dX12_orders_197 : decode cX12_orders 197 = .ok (.iload 4, 2) := by decide +kernel
theorem dX12_orders_199 : decode cX12_orders 199 = .ok (.aload_n 0, 1) := by decide +kernel
theorem dX12_orders_200 : decode cX12_orders 200 = .ok (.getfield 77, 3) := by decide +kernel
theorem dX12_orders_203 : decode cX12_orders 203 = .ok (.iload 4, 2) := by decide +kernel
theorem dX12_orders_205 : decode cX12_orders 205 = .ok (.iaload, 1) := by decide +kernel
theorem dX12_orders_206 : decode cX12_orders 206 = .ok (.iastore, 1) := by decide +kernel
theorem dX12_orders_207 : decode cX12_orders 207 = .ok (.iinc 4 1, 3) := by decide +kernel
theorem dX12_orders_210 : decode cX12_orders 210 = .ok (.goto (-25), 3) := by decide +kernel
theorem dX12_orders_213 : decode cX12_orders 213 = .ok (.aload_n 0, 1) := by decide +kernel
theorem dX12_orders_214 : decode cX12_orders 214 = .ok (.iload_n 1, 1) := by decide +kernel
theorem dX12_orders_215 : decode cX12_orders 215 = .ok (.putfield 11, 3) := by decide +kernel
theorem dX12_orders_218 : decode cX12_orders 218 = .ok (.aload_n 0, 1) := by decide +kernel
theorem dX12_orders_219 : decode cX12_orders 219 = .ok (.iload_n 3, 1) := by decide +kernel
theorem dX12_orders_220 : decode cX12_orders 220 = .ok (.putfield 89, 3) := by decide +kernel
theorem dX12_orders_223 : decode cX12_orders 223 = .ok (.aload_n 0, 1) := by decide +kernel
theorem dX12_orders_224 : decode cX12_orders 224 = .ok (.bipush (-3), 2) := by decide +kernel
theorem dX12_orders_226 : decode cX12_orders 226 = .ok (.invokevirtual 106, 3) := by decide +kernel
theorem dX12_orders_229 : decode cX12_orders 229 = .ok (.ireturn, 1) := by decide +kernel
theorem dX12_orders_230 : decode cX12_orders 230 = .ok (.iinc 3 1, 3) := by decide +kernel
theorem dX12_orders_233 : decode cX12_orders 233 = .ok (.goto (-100), 3) := by decide +kernel
theorem dX12_orders_236 : decode cX12_orders 236 = .ok (.aload_n 0, 1) := by decide +kernel
theorem dX12_orders_237 : decode cX12_orders 237 = .ok (.aload_n 0, 1) := by decide +kernel
theorem dX12_orders_238 : decode cX12_orders 238 = .ok (.getfield 62, 3) := by decide +kernel
theorem dX12_orders_241 : decode cX12_orders 241 = .ok (.iconst 1, 1) := by decide +kernel
theorem dX12_orders_242 : decode cX12_orders 242 = .ok (.iaload, 1) := by decide +kernel
theorem dX12_orders_243 : decode cX12_orders 243 = .ok (.invokevirtual 14, 3) := by decide +kernel
theorem dX12_orders_246 : decode cX12_orders 246 = .ok (.ireturn, 1) := by decide +kernel
theorem dX12_goesAlong_0 : decode cX12_goesAlong 0 = .ok (.aload_n 0, 1) := by decide +kernel
theorem dX12_goesAlong_1 : decode cX12_goesAlong 1 = .ok (.iconst 1, 1) := by decide +kernel
theorem dX12_goesAlong_2 : decode cX12_goesAlong 2 = .ok (.putfield 289, 3) := by decide +kernel
theorem dX12_goesAlong_5 : decode cX12_goesAlong 5 = .ok (.aload_n 0, 1) := by decide +kernel
theorem dX12_goesAlong_6 : decode cX12_goesAlong 6 = .ok (.iload_n 1, 1) := by decide +kernel
theorem dX12_goesAlong_7 : decode cX12_goesAlong 7 = .ok (.putfield 253, 3) := by decide +kernel
theorem dX12_goesAlong_10 : decode cX12_goesAlong 10 = .ok (.aload_n 0, 1) := by decide +kernel
theorem dX12_goesAlong_11 : decode cX12_goesAlong 11 = .ok (.aload_n 0, 1) := by decide +kernel
theorem dX12_goesAlong_12 : decode cX12_goesAlong 12 = .ok (.getfield 431, 3) := by decide +kernel
theorem dX12_goesAlong_15 : decode cX12_goesAlong 15 = .ok (.putfield 256, 3) := by decide +kernel
theorem dX12_goesAlong_18 : decode cX12_goesAlong 18 = .ok (.aload_n 0, 1) := by decide +kernel
theorem dX12_goesAlong_19 : decode cX12_goesAlong 19 = .ok (.aload_n 0, 1) := by decide +kernel
theorem dX12_goesAlong_20 : decode cX12_goesAlong 20 = .ok (.aload_n 0, 1) := by decide +kernel
theorem dX12_goesAlong_21 : decode cX12_goesAlong 21 = .ok (.getfield 256, 3) := by decide +kernel
theorem dX12_goesAlong_24 : decode cX12_goesAlong 24 = .ok (.invokevirtual 259, 3) := by decide +kernel
theorem dX12_goesAlong_27 : decode cX12_goesAlong 27 = .ok (.putfield 437, 3) := by decide +kernel
theorem dX12_goesAlong_30 : decode cX12_goesAlong 30 = .ok (.aload_n 0, 1) := by decide +kernel
theorem dX12_goesAlong_31 : decode cX12_goesAlong 31 = .ok (.dup, 1) := by decide +kernel
theorem dX12_goesAlong_32 : decode cX12_goesAlong 32 = .ok (.getfield 256, 3) := by decide +kernel
theorem dX12_goesAlong_35 : decode cX12_goesAlong 35 = .ok (.iconst 1, 1) := by decide +kernel
theorem dX12_goesAlong_36 : decode cX12_goesAlong 36 = .ok (.iadd, 1) := by decide +kernel
theorem dX12_goesAlong_37 : decode cX12_goesAlong 37 = .ok (.putfield 256, 3) := by decide +kernel
theorem dX12_goesAlong_40 : decode cX12_goesAlong 40 = .ok (.aload_n 0, 1) := by decide +kernel
theorem dX12_goesAlong_41 : decode cX12_goesAlong 41 = .ok (.iconst 1, 1) := by decide +kernel
theorem dX12_goesAlong_42 : decode cX12_goesAlong 42 = .ok (.putfield 440, 3) := by decide +kernel
theorem dX12_goesAlong_45 : decode cX12_goesAlong 45 = .ok (.aload_n 0, 1) := by decide +kernel
theorem dX12_goesAlong_46 : decode cX12_goesAlong 46 = .ok (.getfield 437, 3) := by decide +kernel
theorem dX12_goesAlong_49 : decode cX12_goesAlong 49 = .ok (.bipush 20, 2) := by decide +kernel
theorem dX12_goesAlong_51 : decode cX12_goesAlong 51 = .ok (.if_icmp .ne 7, 3) := by decide +kernel
theorem dX12_goesAlong_54 : decode cX12_goesAlong 54 = .ok (.iconst 1, 1) := by decide +kernel
theorem dX12_goesAlong_55 : decode cX12_goesAlong 55 = .ok (.goto 17, 3) := by decide +kernel
theorem dX12_goesAlong_58 : decode cX12_goesAlong 58 = .ok (.aload_n 0, 1) := by decide +kernel
theorem dX12_goesAlong_59 : decode cX12_goesAlong 59 = .ok (.getfield 437, 3) := by decide +kernel
theorem dX12_goesAlong_62 : decode cX12_goesAlong 62 = .ok (.bipush 24, 2) := by decide +kernel
theorem dX12_goesAlong_64 : decode cX12_goesAlong 64 = .ok (.if_icmp .ne 7, 3) := by decide +kernel
theorem dX12_goesAlong_67 : decode cX12_goesAlong 67 = .ok (.iconst 2, 1) := by decide +kernel
theorem dX12_goesAlong_68 : decode cX12_goesAlong 68 = .ok (.goto 4, 3) := by decide +kernel
theorem dX12_goesAlong_71 : decode cX12_goesAlong 71 = .ok (.iconst 3, 1) := by decide +kernel
theorem dX12_goesAlong_72 : decode cX12_goesAlong 72 = .ok (.istore_n 3, 1) := by decide +kernel
theorem dX12_goesAlong_73 : decode cX12_goesAlong 73 = .ok (.iconst 0, 1) := by decide +kernel
theorem dX12_goesAlong_74 : decode cX12_goesAlong 74 = .ok (.istore 4, 2) := by decide +kernel
theorem dX12_goesAlong_76 : decode cX12_goesAlong 76 = .ok (.iload 4, 2) := by decide +kernel
theorem dX12_goesAlong_78 : decode cX12_goesAlong 78 = .ok (.iload_n 3, 1) := by decide +kernel
theorem dX12_goesAlong_79 : decode cX12_goesAlong 79 = .ok (.if_icmp .ge 64, 3) := by decide +kernel
theorem dX12_goesAlong_82 : decode cX12_goesAlong 82 = .ok (.iload 4, 2) := by decide +kernel
theorem dX12_goesAlong_84 : decode cX12_goesAlong 84 = .ok (.ifCond .le 13, 3) := by decide +kernel
theorem dX12_goesAlong_87 : decode cX12_goesAlong 87 = .ok (.aload_n 0, 1) := by decide +kernel
theorem dX12_goesAlong_88 : decode cX12_goesAlong 88 = .ok (.dup, 1) := by decide +kernel
theorem dX12_goesAlong_89 : decode cX12_goesAlong 89 = .ok (.getfield 256, 3) := by decide +kernel
theorem dX12_goesAlong_92 : decode cX12_goesAlong 92 = .ok (.iconst 1, 1) := by decide +kernel
theorem dX12_goesAlong_93 : decode cX12_goesAlong 93 = .ok (.iadd, 1) := by decide +kernel
theorem dX12_goesAlong_94 : decode cX12_goesAlong 94 = .ok (.putfield 256, 3) := by decide +kernel
theorem dX12_goesAlong_97 : decode cX12_goesAlong 97 = .ok (.aload_n 0, 1) := by decide +kernel
theorem dX12_goesAlong_98 : decode cX12_goesAlong 98 = .ok (.iconst 0, 1) := by decide +kernel
theorem dX12_goesAlong_99 : decode cX12_goesAlong 99 = .ok (.putfield 266, 3) := by decide +kernel
theorem dX12_goesAlong_102 : decode cX12_goesAlong 102 = .ok (.aload_n 0, 1) := by decide +kernel
theorem dX12_goesAlong_103 : decode cX12_goesAlong 103 = .ok (.getfield 92, 3) := by decide +kernel
theorem dX12_goesAlong_106 : decode cX12_goesAlong 106 = .ok (.iload 4, 2) := by decide +kernel
theorem dX12_goesAlong_108 : decode cX12_goesAlong 108 = .ok (.aload_n 0, 1) := by decide +kernel
theorem dX12_goesAlong_109 : decode cX12_goesAlong 109 = .ok (.iload_n 2, 1) := by decide +kernel
theorem dX12_goesAlong_110 : decode cX12_goesAlong 110 = .ok (.invokevirtual 286, 3) := by decide +kernel
theorem dX12_goesAlong_113 : decode cX12_goesAlong 113 = .ok (.lastore, 1) := by decide +kernel
theorem dX12_goesAlong_114 : decode cX12_goesAlong 114 = .ok (.aload_n 0, 1) := by decide +kernel
theorem dX12_goesAlong_115 : decode cX12_goesAlong 115 = .ok (.aload_n 0, 1) := by decide +kernel
theorem dX12_goesAlong_116 : decode cX12_goesAlong 116 = .ok (.getfield 440, 3) := by decide +kernel
theorem dX12_goesAlong_119 : decode cX12_goesAlong 119 = .ok (.ifCond .eq 14, 3) := by decide +kernel
theorem dX12_goesAlong_122 : decode cX12_goesAlong 122 = .ok (.aload_n 0, 1) := by decide +kernel
theorem dX12_goesAlong_123 : decode cX12_goesAlong 123 = .ok (.getfield 266, 3) := by decide +kernel
theorem dX12_goesAlong_126 : decode cX12_goesAlong 126 = .ok (.ifCond .ne 7, 3) := by decide +kernel
theorem dX12_goesAlong_129 : decode cX12_goesAlong 129 = .ok (.iconst 1, 1) := by decide +kernel
theorem dX12_goesAlong_130 : decode cX12_goesAlong 130 = .ok (.goto 4, 3) := by decide +kernel
theorem dX12_goesAlong_133 : decode cX12_goesAlong 133 = .ok (.iconst 0, 1) := by decide +kernel
theorem dX12_goesAlong_134 : decode cX12_goesAlong 134 = .ok (.putfield 440, 3) := by decide +kernel
theorem dX12_goesAlong_137 : decode cX12_goesAlong 137 = .ok (.iinc 4 1, 3) := by decide +kernel
theorem dX12_goesAlong_140 : decode cX12_goesAlong 140 = .ok (.goto (-64), 3) := by decide +kernel
theorem dX12_goesAlong_143 : decode cX12_goesAlong 143 = .ok (.aload_n 0, 1) := by decide +kernel
theorem dX12_goesAlong_144 : decode cX12_goesAlong 144 = .ok (.iconst 1, 1) := by decide +kernel
theorem dX12_goesAlong_145 : decode cX12_goesAlong 145 = .ok (.putfield 443, 3) := by decide +kernel
theorem dX12_goesAlong_148 : decode cX12_goesAlong 148 = .ok (.aload_n 0, 1) := by decide +kernel
theorem dX12_goesAlong_149 : decode cX12_goesAlong 149 = .ok (.bipush 25, 2) := by decide +kernel
theorem dX12_goesAlong_151 : decode cX12_goesAlong 151 = .ok (.invokevirtual 283, 3) := by decide +kernel
theorem dX12_goesAlong_154 : decode cX12_goesAlong 154 = .ok (.ifCond .eq 30, 3) := by decide +kernel
theorem dX12_goesAlong_157 : decode cX12_goesAlong 157 = .ok (.aload_n 0, 1) := by decide +kernel
theorem dX12_goesAlong_158 : decode cX12_goesAlong 158 = .ok (.aload_n 0, 1) := by decide +kernel
theorem dX12_goesAlong_159 : decode cX12_goesAlong 159 = .ok (.getfield 24, 3) := by decide +kernel
theorem dX12_goesAlong_162 : decode cX12_goesAlong 162 = .ok (.sipush 2925, 3) := by decide +kernel
theorem dX12_goesAlong_165 : decode cX12_goesAlong 165 = .ok (.aload_n 0, 1) := by decide +kernel
theorem dX12_goesAlong_166 : decode cX12_goesAlong 166 = .ok (.getfield 256, 3) := by decide +kernel
theorem dX12_goesAlong_169 : decode cX12_goesAlong 169 = .ok (.iadd, 1) := by decide +kernel
theorem dX12_goesAlong_170 : decode cX12_goesAlong 170 = .ok (.iaload, 1) := by decide +kernel
theorem dX12_goesAlong_171 : decode cX12_goesAlong 171 = .ok (.putfield 443, 3) := by decide +kernel
theorem dX12_goesAlong_174 : decode cX12_goesAlong 174 = .ok (.aload_n 0, 1) := by decide +kernel
theorem dX12_goesAlong_175 : decode cX12_goesAlong 175 = .ok (.dup, 1) := by decide +kernel
theorem dX12_goesAlong_176 : decode cX12_goesAlong 176 = .ok (.getfield 256, 3) := by decide +kernel
theorem dX12_goesAlong_179 : decode cX12_goesAlong 179 = .ok (.iconst 1, 1) := by decide +kernel
theorem dX12_goesAlong_180 : decode cX12_goesAlong 180 = .ok (.iadd, 1) := by decide +kernel
theorem dX12_goesAlong_181 : decode cX12_goesAlong 181 = .ok (.putfield 256, 3) := by decide +kernel
theorem dX12_goesAlong_184 : decode cX12_goesAlong 184 = .ok (.aload_n 0, 1) := by decide +kernel
theorem dX12_goesAlong_185 : decode cX12_goesAlong 185 = .ok (.iconst 0, 1) := by decide +kernel
theorem dX12_goesAlong_186 : decode cX12_goesAlong 186 = .ok (.putfield 266, 3) := by decide +kernel
theorem dX12_goesAlong_189 : decode cX12_goesAlong 189 = .ok (.aload_n 0, 1) := by decide +kernel
theorem dX12_goesAlong_190 : decode cX12_goesAlong 190 = .ok (.aload_n 0, 1) := by decide +kernel
theorem dX12_goesAlong_191 : decode cX12_goesAlong 191 = .ok (.iconst 4, 1) := by decide +kernel
theorem dX12_goesAlong_192 : decode cX12_goesAlong 192 = .ok (.invokevirtual 283, 3) := by decide +kernel
theorem dX12_goesAlong_195 : decode cX12_goesAlong 195 = .ok (.ifCond .eq 11, 3) := by decide +kernel
theorem dX12_goesAlong_198 : decode cX12_goesAlong 198 = .ok (.aload_n 0, 1) := by decide +kernel
theorem dX12_goesAlong_199 : decode cX12_goesAlong 199 = .ok (.iload_n 2, 1) := by decide +kernel
theorem dX12_goesAlong_200 : decode cX12_goesAlong 200 = .ok (.invokevirtual 304, 3) := by decide +kernel
theorem dX12_goesAlong_203 : decode cX12_goesAlong 203 = .ok (.ifCond .eq 7, 3) := by decide +kernel
theorem dX12_goesAlong_206 : decode cX12_goesAlong 206 = .ok (.iconst 1, 1) := by decide +kernel
theorem dX12_goesAlong_207 : decode cX12_goesAlong 207 = .ok (.goto 4, 3) := by decide +kernel
theorem dX12_goesAlong_210 : decode cX12_goesAlong 210 = .ok (.iconst 0, 1) := by decide +kernel
theorem dX12_goesAlong_211 : decode cX12_goesAlong 211 = .ok (.putfield 446, 3) := by decide +kernel
theorem dX12_goesAlong_214 : decode cX12_goesAlong 214 = .ok (.aload_n 0, 1) := by decide +kernel
theorem dX12_goesAlong_215 : decode cX12_goesAlong 215 = .ok (.aload_n 0, 1) := by decide +kernel
theorem dX12_goesAlong_216 : decode cX12_goesAlong 216 = .ok (.getfield 446, 3) := by decide +kernel
theorem dX12_goesAlong_219 : decode cX12_goesAlong 219 = .ok (.ifCond .eq 14, 3) := by decide +kernel
theorem dX12_goesAlong_222 : decode cX12_goesAlong 222 = .ok (.aload_n 0, 1) := by decide +kernel
theorem dX12_goesAlong_223 : decode cX12_goesAlong 223 = .ok (.getfield 266, 3) := by decide +kernel
theorem dX12_goesAlong_226 : decode cX12_goesAlong 226 = .ok (.ifCond .ne 7, 3) := by decide +kernel
theorem dX12_goesAlong_229 : decode cX12_goesAlong 229 = .ok (.iconst 1, 1) := by decide +kernel
theorem dX12_goesAlong_230 : decode cX12_goesAlong 230 = .ok (.goto 4, 3) := by decide +kernel
theorem dX12_goesAlong_233 : decode cX12_goesAlong 233 = .ok (.iconst 0, 1) := by decide +kernel
theorem dX12_goesAlong_234 : decode cX12_goesAlong 234 = .ok (.putfield 446, 3) := by decide +kernel
theorem dX12_goesAlong_237 : decode cX12_goesAlong 237 = .ok (.aload_n 0, 1) := by decide +kernel
theorem dX12_goesAlong_238 : decode cX12_goesAlong 238 = .ok (.dup, 1) := by decide +kernel
theorem dX12_goesAlong_239 : decode cX12_goesAlong 239 = .ok (.getfield 256, 3) := by decide +kernel
theorem dX12_goesAlong_242 : decode cX12_goesAlong 242 = .ok (.iconst 1, 1) := by decide +kernel
theorem dX12_goesAlong_243 : decode cX12_goesAlong 243 = .ok (.iadd, 1) := by decide +kernel
theorem dX12_goesAlong_244 : decode cX12_goesAlong 244 = .ok (.putfield 256, 3) := by decide +kernel
theorem dX12_goesAlong_247 : decode cX12_goesAlong 247 = .ok (.return_, 1) := by decide +kernel
theorem dX12_small_0 : decode cX12_small 0 = .ok (.lload_n 0, 1) := by decide +kernel
theorem dX12_small_1 : decode cX12_small 1 = .ok (.lconst 0, 1) := by decide +kernel
theorem dX12_small_2 : decode cX12_small 2 = .ok (.lcmp, 1) := by decide +kernel
theorem dX12_small_3 : decode cX12_small 3 = .ok (.ifCond .lt 11, 3) := by decide +kernel
theorem dX12_small_6 : decode cX12_small 6 = .ok (.lload_n 0, 1) := by decide +kernel
theorem dX12_small_7 : decode cX12_small 7 = .ok (.ldc2_w 449, 3) := by decide +kernel
theorem dX12_small_10 : decode cX12_small 10 = .ok (.lcmp, 1) := by decide +kernel
theorem dX12_small_11 : decode cX12_small 11 = .ok (.ifCond .le 7, 3) := by decide +kernel
theorem dX12_small_14 : decode cX12_small 14 = .ok (.iconst (-1), 1) := by decide +kernel
theorem dX12_small_15 : decode cX12_small 15 = .ok (.goto 5, 3) := by decide +kernel
theorem dX12_small_18 : decode cX12_small 18 = .ok (.lload_n 0, 1) := by decide +kernel
theorem dX12_small_19 : decode cX12_small 19 = .ok (.l2i, 1) := by decide +kernel
theorem dX12_small_20 : decode cX12_small 20 = .ok (.ireturn, 1) := by decide +kernel
theorem dX12_obeys_0 : decode cX12_obeys 0 = .ok (.aload_n 0, 1) := by decide +kernel
theorem dX12_obeys_1 : decode cX12_obeys 1 = .ok (.getfield 92, 3) := by decide +kernel
theorem dX12_obeys_4 : decode cX12_obeys 4 = .ok (.iconst 0, 1) := by decide +kernel
theorem dX12_obeys_5 : decode cX12_obeys 5 = .ok (.laload, 1) := by decide +kernel
theorem dX12_obeys_6 : decode cX12_obeys 6 = .ok (.invokestatic 451, 3) := by decide +kernel
theorem dX12_obeys_9 : decode cX12_obeys 9 = .ok (.istore_n 1, 1) := by decide +kernel
theorem dX12_obeys_10 : decode cX12_obeys 10 = .ok (.aload_n 0, 1) := by decide +kernel
theorem dX12_obeys_11 : decode cX12_obeys 11 = .ok (.getfield 92, 3) := by decide +kernel
theorem dX12_obeys_14 : decode cX12_obeys 14 = .ok (.iconst 1, 1) := by decide +kernel
theorem dX12_obeys_15 : decode cX12_obeys 15 = .ok (.laload, 1) := by decide +kernel
theorem dX12_obeys_16 : decode cX12_obeys 16 = .ok (.invokestatic 451, 3) := by decide +kernel
theorem dX12_obeys_19 : decode cX12_obeys 19 = .ok (.istore_n 2, 1) := by decide +kernel
theorem dX12_obeys_20 : decode cX12_obeys 20 = .ok (.aload_n 0, 1) := by decide +kernel
theorem dX12_obeys_21 : decode cX12_obeys 21 = .ok (.getfield 437, 3) := by decide +kernel
theorem dX12_obeys_24 : decode cX12_obeys 24 = .ok (.bipush 21, 2) := by decide +kernel
theorem dX12_obeys_26 : decode cX12_obeys 26 = .ok (.if_icmp .ne 19, 3) := by decide +kernel
theorem dX12_obeys_29 : decode cX12_obeys 29 = .ok (.aload_n 0, 1) := by decide +kernel
theorem dX12_obeys_30 : decode cX12_obeys 30 = .ok (.aload_n 0, 1) := by decide +kernel
theorem dX12_obeys_31 : decode cX12_obeys 31 = .ok (.getfield 92, 3) := by decide +kernel
theorem dX12_obeys_34 : decode cX12_obeys 34 = .ok (.iconst 2, 1) := by decide +kernel
theorem dX12_obeys_35 : decode cX12_obeys 35 = .ok (.laload, 1) := by decide +kernel
theorem dX12_obeys_36 : decode cX12_obeys 36 = .ok (.invokestatic 451, 3) := by decide +kernel
theorem dX12_obeys_39 : decode cX12_obeys 39 = .ok (.iload_n 1, 1) := by decide +kernel
theorem dX12_obeys_40 : decode cX12_obeys 40 = .ok (.iload_n 2, 1) := by decide +kernel
theorem dX12_obeys_41 : decode cX12_obeys 41 = .ok (.invokevirtual 371, 3) := by decide +kernel
theorem dX12_obeys_44 : decode cX12_obeys 44 = .ok (.ireturn, 1) := by decide +kernel
theorem dX12_obeys_45 : decode cX12_obeys 45 = .ok (.aload_n 0, 1) := by decide +kernel
theorem dX12_obeys_46 : decode cX12_obeys 46 = .ok (.getfield 437, 3) := by decide +kernel
theorem dX12_obeys_49 : decode cX12_obeys 49 = .ok (.bipush 24, 2) := by decide +kernel
theorem dX12_obeys_51 : decode cX12_obeys 51 = .ok (.if_icmp .ne 10, 3) := by decide +kernel
theorem dX12_obeys_54 : decode cX12_obeys 54 = .ok (.aload_n 0, 1) := by decide +kernel
theorem dX12_obeys_55 : decode cX12_obeys 55 = .ok (.iload_n 2, 1) := by decide +kernel
theorem dX12_obeys_56 : decode cX12_obeys 56 = .ok (.iload_n 1, 1) := by decide +kernel
theorem dX12_obeys_57 : decode cX12_obeys 57 = .ok (.invokevirtual 375, 3) := by decide +kernel
theorem dX12_obeys_60 : decode cX12_obeys 60 = .ok (.ireturn, 1) := by decide +kernel
theorem dX12_obeys_61 : decode cX12_obeys 61 = .ok (.aload_n 0, 1) := by decide +kernel
theorem dX12_obeys_62 : decode cX12_obeys 62 = .ok (.iload_n 1, 1) := by decide +kernel
theorem dX12_obeys_63 : decode cX12_obeys 63 = .ok (.invokevirtual 365, 3) := by decide +kernel
theorem dX12_obeys_66 : decode cX12_obeys 66 = .ok (.istore_n 3, 1) := by decide +kernel
theorem dX12_obeys_67 : decode cX12_obeys 67 = .ok (.aload_n 0, 1) := by decide +kernel
theorem dX12_obeys_68 : decode cX12_obeys 68 = .ok (.getfield 62, 3) := by decide +kernel
theorem dX12_obeys_71 : decode cX12_obeys 71 = .ok (.iconst 2, 1) := by decide +kernel
theorem dX12_obeys_72 : decode cX12_obeys 72 = .ok (.iload_n 3, 1) := by decide +kernel
theorem dX12_obeys_73 : decode cX12_obeys 73 = .ok (.ifCond .ge 12, 3) := by decide +kernel
theorem dX12_obeys_76 : decode cX12_obeys 76 = .ok (.aload_n 0, 1) := by decide +kernel
theorem dX12_obeys_77 : decode cX12_obeys 77 = .ok (.getfield 62, 3) := by decide +kernel
theorem dX12_obeys_80 : decode cX12_obeys 80 = .ok (.iconst 2, 1) := by decide +kernel
theorem dX12_obeys_81 : decode cX12_obeys 81 = .ok (.iaload, 1) := by decide +kernel
theorem dX12_obeys_82 : decode cX12_obeys 82 = .ok (.goto 4, 3) := by decide +kernel
theorem dX12_obeys_85 : decode cX12_obeys 85 = .ok (.iload_n 3, 1) := by decide +kernel
theorem dX12_obeys_86 : decode cX12_obeys 86 = .ok (.iastore, 1) := by decide +kernel
theorem dX12_obeys_87 : decode cX12_obeys 87 = .ok (.iload_n 3, 1) := by decide +kernel
theorem dX12_obeys_88 : decode cX12_obeys 88 = .ok (.ireturn, 1) := by decide +kernel
theorem dX12_runs_0 : decode cX12_runs 0 = .ok (.aload_n 0, 1) := by decide +kernel
theorem dX12_runs_1 : decode cX12_runs 1 = .ok (.iload_n 1, 1) := by decide +kernel
theorem dX12_runs_2 : decode cX12_runs 2 = .ok (.iconst 0, 1) := by decide +kernel
theorem dX12_runs_3 : decode cX12_runs 3 = .ok (.invokevirtual 454, 3) := by decide +kernel
theorem dX12_runs_6 : decode cX12_runs 6 = .ok (.aload_n 0, 1) := by decide +kernel
theorem dX12_runs_7 : decode cX12_runs 7 = .ok (.getfield 443, 3) := by decide +kernel
theorem dX12_runs_10 : decode cX12_runs 10 = .ok (.istore_n 2, 1) := by decide +kernel
theorem dX12_runs_11 : decode cX12_runs 11 = .ok (.aload_n 0, 1) := by decide +kernel
theorem dX12_runs_12 : decode cX12_runs 12 = .ok (.getfield 256, 3) := by decide +kernel
theorem dX12_runs_15 : decode cX12_runs 15 = .ok (.istore_n 3, 1) := by decide +kernel
theorem dX12_runs_16 : decode cX12_runs 16 = .ok (.iconst 0, 1) := by decide +kernel
theorem dX12_runs_17 : decode cX12_runs 17 = .ok (.istore 4, 2) := by decide +kernel
theorem dX12_runs_19 : decode cX12_runs 19 = .ok (.iload 4, 2) := by decide +kernel
theorem dX12_runs_21 : decode cX12_runs 21 = .ok (.iload_n 2, 1) := by decide +kernel
theorem dX12_runs_22 : decode cX12_runs 22 = .ok (.if_icmp .ge 51, 3) := by decide +kernel
theorem dX12_runs_25 : decode cX12_runs 25 = .ok (.aload_n 0, 1) := by decide +kernel
theorem dX12_runs_26 : decode cX12_runs 26 = .ok (.iload_n 1, 1) := by decide +kernel
theorem dX12_runs_27 : decode cX12_runs 27 = .ok (.iconst 1, 1) := by decide +kernel
theorem dX12_runs_28 : decode cX12_runs 28 = .ok (.invokevirtual 454, 3) := by decide +kernel
theorem dX12_runs_31 : decode cX12_runs 31 = .ok (.aload_n 0, 1) := by decide +kernel
theorem dX12_runs_32 : decode cX12_runs 32 = .ok (.getfield 446, 3) := by decide +kernel
theorem dX12_runs_35 : decode cX12_runs 35 = .ok (.ifCond .ne 6, 3) := by decide +kernel
theorem dX12_runs_38 : decode cX12_runs 38 = .ok (.goto 29, 3) := by decide +kernel
theorem dX12_runs_41 : decode cX12_runs 41 = .ok (.aload_n 0, 1) := by decide +kernel
theorem dX12_runs_42 : decode cX12_runs 42 = .ok (.getfield 440, 3) := by decide +kernel
theorem dX12_runs_45 : decode cX12_runs 45 = .ok (.ifCond .eq 10, 3) := by decide +kernel
theorem dX12_runs_48 : decode cX12_runs 48 = .ok (.aload_n 0, 1) := by decide +kernel
theorem dX12_runs_49 : decode cX12_runs 49 = .ok (.invokevirtual 458, 3) := by decide +kernel
theorem dX12_runs_52 : decode cX12_runs 52 = .ok (.ifCond .ge 5, 3) := by decide +kernel
theorem dX12_runs_55 : decode cX12_runs 55 = .ok (.iconst 0, 1) := by decide +kernel
theorem dX12_runs_56 : decode cX12_runs 56 = .ok (.ireturn, 1) := by decide +kernel
theorem dX12_runs_57 : decode cX12_runs 57 = .ok (.aload_n 0, 1) := by decide +kernel
theorem dX12_runs_58 : decode cX12_runs 58 = .ok (.getfield 62, 3) := by decide +kernel
theorem dX12_runs_61 : decode cX12_runs 61 = .ok (.iconst 1, 1) := by decide +kernel
theorem dX12_runs_62 : decode cX12_runs 62 = .ok (.dup2, 1) := by decide +kernel
theorem dX12_runs_63 : decode cX12_runs 63 = .ok (.iaload, 1) := by decide +kernel
theorem dX12_runs_64 : decode cX12_runs 64 = .ok (.iconst 1, 1) := by decide +kernel
theorem dX12_runs_65 : decode cX12_runs 65 = .ok (.iadd, 1) := by decide +kernel
theorem dX12_runs_66 : decode cX12_runs 66 = .ok (.iastore, 1) := by decide +kernel
theorem dX12_runs_67 : decode cX12_runs 67 = .ok (.iinc 4 1, 3) := by decide +kernel
theorem dX12_runs_70 : decode cX12_runs 70 = .ok (.goto (-51), 3) := by decide +kernel
theorem dX12_runs_73 : decode cX12_runs 73 = .ok (.aload_n 0, 1) := by decide +kernel
theorem dX12_runs_74 : decode cX12_runs 74 = .ok (.iload_n 3, 1) := by decide +kernel
theorem dX12_runs_75 : decode cX12_runs 75 = .ok (.putfield 431, 3) := by decide +kernel
theorem dX12_runs_78 : decode cX12_runs 78 = .ok (.iconst 1, 1) := by decide +kernel
theorem dX12_runs_79 : decode cX12_runs 79 = .ok (.ireturn, 1) := by decide +kernel
theorem dX12_draws_0 : decode cX12_draws 0 = .ok (.aload_n 0, 1) := by decide +kernel
theorem dX12_draws_1 : decode cX12_draws 1 = .ok (.ldc2_w 461, 3) := by decide +kernel
theorem dX12_draws_4 : decode cX12_draws 4 = .ok (.aload_n 0, 1) := by decide +kernel
theorem dX12_draws_5 : decode cX12_draws 5 = .ok (.getfield 463, 3) := by decide +kernel
theorem dX12_draws_8 : decode cX12_draws 8 = .ok (.i2l, 1) := by decide +kernel
theorem dX12_draws_9 : decode cX12_draws 9 = .ok (.lmul, 1) := by decide +kernel
theorem dX12_draws_10 : decode cX12_draws 10 = .ok (.ldc2_w 466, 3) := by decide +kernel
theorem dX12_draws_13 : decode cX12_draws 13 = .ok (.ladd, 1) := by decide +kernel
theorem dX12_draws_14 : decode cX12_draws 14 = .ok (.ldc2_w 468, 3) := by decide +kernel
theorem dX12_draws_17 : decode cX12_draws 17 = .ok (.lrem, 1) := by decide +kernel
theorem dX12_draws_18 : decode cX12_draws 18 = .ok (.l2i, 1) := by decide +kernel
theorem dX12_draws_19 : decode cX12_draws 19 = .ok (.putfield 463, 3) := by decide +kernel
theorem dX12_draws_22 : decode cX12_draws 22 = .ok (.aload_n 0, 1) := by decide +kernel
theorem dX12_draws_23 : decode cX12_draws 23 = .ok (.getfield 463, 3) := by decide +kernel
theorem dX12_draws_26 : decode cX12_draws 26 = .ok (.iload_n 1, 1) := by decide +kernel
theorem dX12_draws_27 : decode cX12_draws 27 = .ok (.irem, 1) := by decide +kernel
theorem dX12_draws_28 : decode cX12_draws 28 = .ok (.ireturn, 1) := by decide +kernel
theorem dX12_shuffles_0 : decode cX12_shuffles 0 = .ok (.aload_n 0, 1) := by decide +kernel
theorem dX12_shuffles_1 : decode cX12_shuffles 1 = .ok (.getfield 130, 3) := by decide +kernel
theorem dX12_shuffles_4 : decode cX12_shuffles 4 = .ok (.iconst 1, 1) := by decide +kernel
theorem dX12_shuffles_5 : decode cX12_shuffles 5 = .ok (.isub, 1) := by decide +kernel
theorem dX12_shuffles_6 : decode cX12_shuffles 6 = .ok (.istore_n 1, 1) := by decide +kernel
theorem dX12_shuffles_7 : decode cX12_shuffles 7 = .ok (.iload_n 1, 1) := by decide +kernel
theorem dX12_shuffles_8 : decode cX12_shuffles 8 = .ok (.ifCond .le 43, 3) := by decide +kernel
theorem dX12_shuffles_11 : decode cX12_shuffles 11 = .ok (.aload_n 0, 1) := by decide +kernel
theorem dX12_shuffles_12 : decode cX12_shuffles 12 = .ok (.iload_n 1, 1) := by decide +kernel
theorem dX12_shuffles_13 : decode cX12_shuffles 13 = .ok (.iconst 1, 1) := by decide +kernel
theorem dX12_shuffles_14 : decode cX12_shuffles 14 = .ok (.iadd, 1) := by decide +kernel
theorem dX12_shuffles_15 : decode cX12_shuffles 15 = .ok (.invokevirtual 470, 3) := by decide +kernel
theorem dX12_shuffles_18 : decode cX12_shuffles 18 = .ok (.istore_n 2, 1) := by decide +kernel
theorem dX12_shuffles_19 : decode cX12_shuffles 19 = .ok (.aload_n 0, 1) := by decide +kernel
theorem dX12_shuffles_20 : decode cX12_shuffles 20 = .ok (.getfield 65, 3) := by decide +kernel
theorem dX12_shuffles_23 : decode cX12_shuffles 23 = .ok (.iload_n 1, 1) := by decide +kernel
theorem dX12_shuffles_24 : decode cX12_shuffles 24 = .ok (.iaload, 1) := by decide +kernel
theorem dX12_shuffles_25 : decode cX12_shuffles 25 = .ok (.istore_n 3, 1) := by decide +kernel
theorem dX12_shuffles_26 : decode cX12_shuffles 26 = .ok (.aload_n 0, 1) := by decide +kernel
theorem dX12_shuffles_27 : decode cX12_shuffles 27 = .ok (.getfield 65, 3) := by decide +kernel
theorem dX12_shuffles_30 : decode cX12_shuffles 30 = .ok (.iload_n 1, 1) := by decide +kernel
theorem dX12_shuffles_31 : decode cX12_shuffles 31 = .ok (.aload_n 0, 1) := by decide +kernel
theorem dX12_shuffles_32 : decode cX12_shuffles 32 = .ok (.getfield 65, 3) := by decide +kernel
theorem dX12_shuffles_35 : decode cX12_shuffles 35 = .ok (.iload_n 2, 1) := by decide +kernel
theorem dX12_shuffles_36 : decode cX12_shuffles 36 = .ok (.iaload, 1) := by decide +kernel
theorem dX12_shuffles_37 : decode cX12_shuffles 37 = .ok (.iastore, 1) := by decide +kernel
theorem dX12_shuffles_38 : decode cX12_shuffles 38 = .ok (.aload_n 0, 1) := by decide +kernel
theorem dX12_shuffles_39 : decode cX12_shuffles 39 = .ok (.getfield 65, 3) := by decide +kernel
theorem dX12_shuffles_42 : decode cX12_shuffles 42 = .ok (.iload_n 2, 1) := by decide +kernel
theorem dX12_shuffles_43 : decode cX12_shuffles 43 = .ok (.iload_n 3, 1) := by decide +kernel
theorem dX12_shuffles_44 : decode cX12_shuffles 44 = .ok (.iastore, 1) := by decide +kernel
theorem dX12_shuffles_45 : decode cX12_shuffles 45 = .ok (.iinc 1 (-1), 3) := by decide +kernel
theorem dX12_shuffles_48 : decode cX12_shuffles 48 = .ok (.goto (-41), 3) := by decide +kernel
theorem dX12_shuffles_51 : decode cX12_shuffles 51 = .ok (.return_, 1) := by decide +kernel
theorem dX12_evenings_0 : decode cX12_evenings 0 = .ok (.aload_n 0, 1) := by decide +kernel
theorem dX12_evenings_1 : decode cX12_evenings 1 = .ok (.iload_n 1, 1) := by decide +kernel
theorem dX12_evenings_2 : decode cX12_evenings 2 = .ok (.invokevirtual 122, 3) := by decide +kernel
theorem dX12_evenings_5 : decode cX12_evenings 5 = .ok (.ifCond .ne 10, 3) := by decide +kernel
theorem dX12_evenings_8 : decode cX12_evenings 8 = .ok (.aload_n 0, 1) := by decide +kernel
theorem dX12_evenings_9 : decode cX12_evenings 9 = .ok (.bipush (-2), 2) := by decide +kernel
theorem dX12_evenings_11 : decode cX12_evenings 11 = .ok (.invokevirtual 106, 3) := by decide +kernel
theorem dX12_evenings_14 : decode cX12_evenings 14 = .ok (.ireturn, 1) := by decide +kernel
theorem dX12_evenings_15 : decode cX12_evenings 15 = .ok (.iload_n 2, 1) := by decide +kernel
theorem dX12_evenings_16 : decode cX12_evenings 16 = .ok (.iconst 0, 1) := by decide +kernel
theorem dX12_evenings_17 : decode cX12_evenings 17 = .ok (.ldc 167, 2) := by decide +kernel
theorem dX12_evenings_19 : decode cX12_evenings 19 = .ok (.invokestatic 102, 3) := by decide +kernel
theorem dX12_evenings_22 : decode cX12_evenings 22 = .ok (.ifCond .eq 13, 3) := by decide +kernel
theorem dX12_evenings_25 : decode cX12_evenings 25 = .ok (.iload_n 3, 1) := by decide +kernel
theorem dX12_evenings_26 : decode cX12_evenings 26 = .ok (.iconst 1, 1) := by decide +kernel
theorem dX12_evenings_27 : decode cX12_evenings 27 = .ok (.bipush 60, 2) := by decide +kernel
theorem dX12_evenings_29 : decode cX12_evenings 29 = .ok (.invokestatic 102, 3) := by decide +kernel
theorem dX12_evenings_32 : decode cX12_evenings 32 = .ok (.ifCond .ne 9, 3) := by decide +kernel
theorem dX12_evenings_35 : decode cX12_evenings 35 = .ok (.aload_n 0, 1) := by decide +kernel
theorem dX12_evenings_36 : decode cX12_evenings 36 = .ok (.iconst (-1), 1) := by decide +kernel
theorem dX12_evenings_37 : decode cX12_evenings 37 = .ok (.invokevirtual 106, 3) := by decide +kernel
theorem dX12_evenings_40 : decode cX12_evenings 40 = .ok (.ireturn, 1) := by decide +kernel
theorem dX12_evenings_41 : decode cX12_evenings 41 = .ok (.aload_n 0, 1) := by decide +kernel
theorem dX12_evenings_42 : decode cX12_evenings 42 = .ok (.iload_n 2, 1) := by decide +kernel
theorem dX12_evenings_43 : decode cX12_evenings 43 = .ok (.putfield 463, 3) := by decide +kernel
theorem dX12_evenings_46 : decode cX12_evenings 46 = .ok (.aload_n 0, 1) := by decide +kernel
theorem dX12_evenings_47 : decode cX12_evenings 47 = .ok (.iload_n 1, 1) := by decide +kernel
theorem dX12_evenings_48 : decode cX12_evenings 48 = .ok (.invokevirtual 126, 3) := by decide +kernel
theorem dX12_evenings_51 : decode cX12_evenings 51 = .ok (.aload_n 0, 1) := by decide +kernel
theorem dX12_evenings_52 : decode cX12_evenings 52 = .ok (.aload_n 0, 1) := by decide +kernel
theorem dX12_evenings_53 : decode cX12_evenings 53 = .ok (.getfield 130, 3) := by decide +kernel
theorem dX12_evenings_56 : decode cX12_evenings 56 = .ok (.putfield 99, 3) := by decide +kernel
theorem dX12_evenings_59 : decode cX12_evenings 59 = .ok (.aload_n 0, 1) := by decide +kernel
theorem dX12_evenings_60 : decode cX12_evenings 60 = .ok (.iconst 0, 1) := by decide +kernel
theorem dX12_evenings_61 : decode cX12_evenings 61 = .ok (.putfield 473, 3) := by decide +kernel
theorem dX12_evenings_64 : decode cX12_evenings 64 = .ok (.aload_n 0, 1) := by decide +kernel
theorem dX12_evenings_65 : decode cX12_evenings 65 = .ok (.iconst (-1), 1) := by decide +kernel
theorem dX12_evenings_66 : decode cX12_evenings 66 = .ok (.putfield 476, 3) := by decide +kernel
theorem dX12_evenings_69 : decode cX12_evenings 69 = .ok (.iconst 0, 1) := by decide +kernel
theorem dX12_evenings_70 : decode cX12_evenings 70 = .ok (.istore 4, 2) := by decide +kernel
theorem dX12_evenings_72 : decode cX12_evenings 72 = .ok (.iconst 0, 1) := by decide +kernel
theorem dX12_evenings_73 : decode cX12_evenings 73 = .ok (.istore 5, 2) := by decide +kernel
theorem dX12_evenings_75 : decode cX12_evenings 75 = .ok (.iload 5, 2) := by decide +kernel
theorem dX12_evenings_77 : decode cX12_evenings 77 = .ok (.iload_n 3, 1) := by decide +kernel
theorem dX12_evenings_78 : decode cX12_evenings 78 = .ok (.if_icmp .ge 102, 3) := by decide +kernel
theorem dX12_evenings_81 : decode cX12_evenings 81 = .ok (.aload_n 0, 1) := by decide +kernel
theorem dX12_evenings_82 : decode cX12_evenings 82 = .ok (.invokevirtual 479, 3) := by decide +kernel
theorem dX12_evenings_85 : decode cX12_evenings 85 = .ok (.aload_n 0, 1) := by decide +kernel
theorem dX12_evenings_86 : decode cX12_evenings 86 = .ok (.iconst 0, 1) := by decide +kernel
theorem dX12_evenings_87 : decode cX12_evenings 87 = .ok (.putfield 133, 3) := by decide +kernel
theorem dX12_evenings_90 : decode cX12_evenings 90 = .ok (.iconst 0, 1) := by decide +kernel
theorem dX12_evenings_91 : decode cX12_evenings 91 = .ok (.istore 6, 2) := by decide +kernel
theorem dX12_evenings_93 : decode cX12_evenings 93 = .ok (.iload 6, 2) := by decide +kernel
theorem dX12_evenings_95 : decode cX12_evenings 95 = .ok (.aload_n 0, 1) := by decide +kernel
theorem dX12_evenings_96 : decode cX12_evenings 96 = .ok (.getfield 130, 3) := by decide +kernel
theorem dX12_evenings_99 : decode cX12_evenings 99 = .ok (.if_icmp .ge 23, 3) := by decide +kernel
theorem dX12_evenings_102 : decode cX12_evenings 102 = .ok (.aload_n 0, 1) := by decide +kernel
theorem dX12_evenings_103 : decode cX12_evenings 103 = .ok (.getfield 96, 3) := by decide +kernel
theorem dX12_evenings_106 : decode cX12_evenings 106 = .ok (.iload 6, 2) := by decide +kernel
theorem dX12_evenings_108 : decode cX12_evenings 108 = .ok (.aload_n 0, 1) := by decide +kernel
theorem dX12_evenings_109 : decode cX12_evenings 109 = .ok (.getfield 65, 3) := by decide +kernel
theorem dX12_evenings_112 : decode cX12_evenings 112 = .ok (.iload 6, 2) := by decide +kernel
theorem dX12_evenings_114 : decode cX12_evenings 114 = .ok (.iaload, 1) := by decide +kernel
theorem dX12_evenings_115 : decode cX12_evenings 115 = .ok (.iastore, 1) := by decide +kernel
theorem dX12_evenings_116 : decode cX12_evenings 116 = .ok (.iinc 6 1, 3) := by decide +kernel
theorem dX12_evenings_119 : decode cX12_evenings 119 = .ok (.goto (-26), 3) := by decide +kernel
theorem dX12_evenings_122 : decode cX12_evenings 122 = .ok (.aload_n 0, 1) := by decide +kernel
theorem dX12_evenings_123 : decode cX12_evenings 123 = .ok (.invokevirtual 346, 3) := by decide +kernel
theorem dX12_evenings_126 : decode cX12_evenings 126 = .ok (.ifCond .eq 6, 3) := by decide +kernel
theorem dX12_evenings_129 : decode cX12_evenings 129 = .ok (.goto 45, 3) := by decide +kernel
theorem dX12_evenings_132 : decode cX12_evenings 132 = .ok (.iinc 4 1, 3) := by decide +kernel
theorem dX12_evenings_135 : decode cX12_evenings 135 = .ok (.aload_n 0, 1) := by decide +kernel
theorem dX12_evenings_136 : decode cX12_evenings 136 = .ok (.dup, 1) := by decide +kernel
theorem dX12_evenings_137 : decode cX12_evenings 137 = .ok (.getfield 473, 3) := by decide +kernel
theorem dX12_evenings_140 : decode cX12_evenings 140 = .ok (.aload_n 0, 1) := by decide +kernel
theorem dX12_evenings_141 : decode cX12_evenings 141 = .ok (.getfield 336, 3) := by decide +kernel
theorem dX12_evenings_144 : decode cX12_evenings 144 = .ok (.iadd, 1) := by decide +kernel
theorem dX12_evenings_145 : decode cX12_evenings 145 = .ok (.putfield 473, 3) := by decide +kernel
theorem dX12_evenings_148 : decode cX12_evenings 148 = .ok (.aload_n 0, 1) := by decide +kernel
theorem dX12_evenings_149 : decode cX12_evenings 149 = .ok (.aload_n 0, 1) := by decide +kernel
theorem dX12_evenings_150 : decode cX12_evenings 150 = .ok (.getfield 476, 3) := by decide +kernel
theorem dX12_evenings_153 : decode cX12_evenings 153 = .ok (.aload_n 0, 1) := by decide +kernel
theorem dX12_evenings_154 : decode cX12_evenings 154 = .ok (.getfield 336, 3) := by decide +kernel
theorem dX12_evenings_157 : decode cX12_evenings 157 = .ok (.if_icmp .ge 10, 3) := by decide +kernel
theorem dX12_evenings_160 : decode cX12_evenings 160 = .ok (.aload_n 0, 1) := by decide +kernel
theorem dX12_evenings_161 : decode cX12_evenings 161 = .ok (.getfield 336, 3) := by decide +kernel
theorem dX12_evenings_164 : decode cX12_evenings 164 = .ok (.goto 7, 3) := by decide +kernel
theorem dX12_evenings_167 : decode cX12_evenings 167 = .ok (.aload_n 0, 1) := by decide +kernel
theorem dX12_evenings_168 : decode cX12_evenings 168 = .ok (.getfield 476, 3) := by decide +kernel
theorem dX12_evenings_171 : decode cX12_evenings 171 = .ok (.putfield 476, 3) := by decide +kernel
theorem dX12_evenings_174 : decode cX12_evenings 174 = .ok (.iinc 5 1, 3) := by decide +kernel
theorem dX12_evenings_177 : decode cX12_evenings 177 = .ok (.goto (-102), 3) := by decide +kernel
theorem dX12_evenings_180 : decode cX12_evenings 180 = .ok (.aload_n 0, 1) := by decide +kernel
theorem dX12_evenings_181 : decode cX12_evenings 181 = .ok (.iload 4, 2) := by decide +kernel
theorem dX12_evenings_183 : decode cX12_evenings 183 = .ok (.invokevirtual 14, 3) := by decide +kernel
theorem dX12_evenings_186 : decode cX12_evenings 186 = .ok (.ireturn, 1) := by decide +kernel
theorem dX12_drawn_0 : decode cX12_drawn 0 = .ok (.aload_n 0, 1) := by decide +kernel
theorem dX12_drawn_1 : decode cX12_drawn 1 = .ok (.getfield 99, 3) := by decide +kernel
theorem dX12_drawn_4 : decode cX12_drawn 4 = .ok (.iconst (-1), 1) := by decide +kernel
theorem dX12_drawn_5 : decode cX12_drawn 5 = .ok (.if_icmp .eq 17, 3) := by decide +kernel
theorem dX12_drawn_8 : decode cX12_drawn 8 = .ok (.iload_n 1, 1) := by decide +kernel
theorem dX12_drawn_9 : decode cX12_drawn 9 = .ok (.iconst 0, 1) := by decide +kernel
theorem dX12_drawn_10 : decode cX12_drawn 10 = .ok (.iconst 1, 1) := by decide +kernel
theorem dX12_drawn_11 : decode cX12_drawn 11 = .ok (.aload_n 0, 1) := by decide +kernel
theorem dX12_drawn_12 : decode cX12_drawn 12 = .ok (.getfield 99, 3) := by decide +kernel
theorem dX12_drawn_15 : decode cX12_drawn 15 = .ok (.iadd, 1) := by decide +kernel
theorem dX12_drawn_16 : decode cX12_drawn 16 = .ok (.invokestatic 102, 3) := by decide +kernel
theorem dX12_drawn_19 : decode cX12_drawn 19 = .ok (.ifCond .ne 7, 3) := by decide +kernel
theorem dX12_drawn_22 : decode cX12_drawn 22 = .ok (.iconst (-1), 1) := by decide +kernel
theorem dX12_drawn_23 : decode cX12_drawn 23 = .ok (.goto 34, 3) := by decide +kernel
theorem dX12_drawn_26 : decode cX12_drawn 26 = .ok (.iload_n 1, 1) := by decide +kernel
theorem dX12_drawn_27 : decode cX12_drawn 27 = .ok (.ifCond .ne 10, 3) := by decide +kernel
theorem dX12_drawn_30 : decode cX12_drawn 30 = .ok (.aload_n 0, 1) := by decide +kernel
theorem dX12_drawn_31 : decode cX12_drawn 31 = .ok (.getfield 473, 3) := by decide +kernel
theorem dX12_drawn_34 : decode cX12_drawn 34 = .ok (.goto 23, 3) := by decide +kernel
theorem dX12_drawn_37 : decode cX12_drawn 37 = .ok (.iload_n 1, 1) := by decide +kernel
theorem dX12_drawn_38 : decode cX12_drawn 38 = .ok (.iconst 1, 1) := by decide +kernel
theorem dX12_drawn_39 : decode cX12_drawn 39 = .ok (.if_icmp .ne 10, 3) := by decide +kernel
theorem dX12_drawn_42 : decode cX12_drawn 42 = .ok (.aload_n 0, 1) := by decide +kernel
theorem dX12_drawn_43 : decode cX12_drawn 43 = .ok (.getfield 476, 3) := by decide +kernel
theorem dX12_drawn_46 : decode cX12_drawn 46 = .ok (.goto 11, 3) := by decide +kernel
theorem dX12_drawn_49 : decode cX12_drawn 49 = .ok (.aload_n 0, 1) := by decide +kernel
theorem dX12_drawn_50 : decode cX12_drawn 50 = .ok (.getfield 96, 3) := by decide +kernel
theorem dX12_drawn_53 : decode cX12_drawn 53 = .ok (.iload_n 1, 1) := by decide +kernel
theorem dX12_drawn_54 : decode cX12_drawn 54 = .ok (.iconst 2, 1) := by decide +kernel
theorem dX12_drawn_55 : decode cX12_drawn 55 = .ok (.isub, 1) := by decide +kernel
theorem dX12_drawn_56 : decode cX12_drawn 56 = .ok (.iaload, 1) := by decide +kernel
theorem dX12_drawn_57 : decode cX12_drawn 57 = .ok (.ireturn, 1) := by decide +kernel
theorem dX12_count_0 : decode cX12_count 0 = .ok (.iload_n 1, 1) := by decide +kernel
theorem dX12_count_1 : decode cX12_count 1 = .ok (.tableswitch 146 0 12 #[67, 75, 83, 91, 96, 101, 101, 101, 110, 117, 125, 133, 133], 67) := by decide +kernel
theorem dX12_count_68 : decode cX12_count 68 = .ok (.aload_n 0, 1) := by decide +kernel
theorem dX12_count_69 : decode cX12_count 69 = .ok (.getfield 24, 3) := by decide +kernel
theorem dX12_count_72 : decode cX12_count 72 = .ok (.bipush 96, 2) := by decide +kernel
theorem dX12_count_74 : decode cX12_count 74 = .ok (.iaload, 1) := by decide +kernel
theorem dX12_count_75 : decode cX12_count 75 = .ok (.ireturn, 1) := by decide +kernel
theorem dX12_count_76 : decode cX12_count 76 = .ok (.aload_n 0, 1) := by decide +kernel
theorem dX12_count_77 : decode cX12_count 77 = .ok (.getfield 24, 3) := by decide +kernel
theorem dX12_count_80 : decode cX12_count 80 = .ok (.bipush 115, 2) := by decide +kernel
theorem dX12_count_82 : decode cX12_count 82 = .ok (.iaload, 1) := by decide +kernel
theorem dX12_count_83 : decode cX12_count 83 = .ok (.ireturn, 1) := by decide +kernel
theorem dX12_count_84 : decode cX12_count 84 = .ok (.aload_n 0, 1) := by decide +kernel
theorem dX12_count_85 : decode cX12_count 85 = .ok (.getfield 24, 3) := by decide +kernel
theorem dX12_count_88 : decode cX12_count 88 = .ok (.bipush 116, 2) := by decide +kernel
theorem dX12_count_90 : decode cX12_count 90 = .ok (.iaload, 1) := by decide +kernel
theorem dX12_count_91 : decode cX12_count 91 = .ok (.ireturn, 1) := by decide +kernel
theorem dX12_count_92 : decode cX12_count 92 = .ok (.aload_n 0, 1) := by decide +kernel
theorem dX12_count_93 : decode cX12_count 93 = .ok (.getfield 11, 3) := by decide +kernel
theorem dX12_count_96 : decode cX12_count 96 = .ok (.ireturn, 1) := by decide +kernel
theorem dX12_count_97 : decode cX12_count 97 = .ok (.aload_n 0, 1) := by decide +kernel
theorem dX12_count_98 : decode cX12_count 98 = .ok (.getfield 115, 3) := by decide +kernel
theorem dX12_count_101 : decode cX12_count 101 = .ok (.ireturn, 1) := by decide +kernel
theorem dX12_count_102 : decode cX12_count 102 = .ok (.aload_n 0, 1) := by decide +kernel
theorem dX12_count_103 : decode cX12_count 103 = .ok (.getfield 7, 3) := by decide +kernel
theorem dX12_count_106 : decode cX12_count 106 = .ok (.iload_n 1, 1) := by decide +kernel
theorem dX12_count_107 : decode cX12_count 107 = .ok (.iconst 4, 1) := by decide +kernel
theorem dX12_count_108 : decode cX12_count 108 = .ok (.isub, 1) := by decide +kernel
theorem dX12_count_109 : decode cX12_count 109 = .ok (.iaload, 1) := by decide +kernel
theorem dX12_count_110 : decode cX12_count 110 = .ok (.ireturn, 1) := by decide +kernel
theorem dX12_count_111 : decode cX12_count 111 = .ok (.aload_n 0, 1) := by decide +kernel
theorem dX12_count_112 : decode cX12_count 112 = .ok (.getfield 7, 3) := by decide +kernel
theorem dX12_count_115 : decode cX12_count 115 = .ok (.iconst 5, 1) := by decide +kernel
theorem dX12_count_116 : decode cX12_count 116 = .ok (.iaload, 1) := by decide +kernel
theorem dX12_count_117 : decode cX12_count 117 = .ok (.ireturn, 1) := by decide +kernel
theorem dX12_count_118 : decode cX12_count 118 = .ok (.aload_n 0, 1) := by decide +kernel
theorem dX12_count_119 : decode cX12_count 119 = .ok (.getfield 7, 3) := by decide +kernel
theorem dX12_count_122 : decode cX12_count 122 = .ok (.bipush 6, 2) := by decide +kernel
theorem dX12_count_124 : decode cX12_count 124 = .ok (.iaload, 1) := by decide +kernel
theorem dX12_count_125 : decode cX12_count 125 = .ok (.ireturn, 1) := by decide +kernel
theorem dX12_count_126 : decode cX12_count 126 = .ok (.aload_n 0, 1) := by decide +kernel
theorem dX12_count_127 : decode cX12_count 127 = .ok (.getfield 24, 3) := by decide +kernel
theorem dX12_count_130 : decode cX12_count 130 = .ok (.bipush 117, 2) := by decide +kernel
theorem dX12_count_132 : decode cX12_count 132 = .ok (.iaload, 1) := by decide +kernel
theorem dX12_count_133 : decode cX12_count 133 = .ok (.ireturn, 1) := by decide +kernel
theorem dX12_count_134 : decode cX12_count 134 = .ok (.aload_n 0, 1) := by decide +kernel
theorem dX12_count_135 : decode cX12_count 135 = .ok (.getfield 24, 3) := by decide +kernel
theorem dX12_count_138 : decode cX12_count 138 = .ok (.bipush 113, 2) := by decide +kernel
theorem dX12_count_140 : decode cX12_count 140 = .ok (.iload_n 1, 1) := by decide +kernel
theorem dX12_count_141 : decode cX12_count 141 = .ok (.iadd, 1) := by decide +kernel
theorem dX12_count_142 : decode cX12_count 142 = .ok (.bipush 11, 2) := by decide +kernel
theorem dX12_count_144 : decode cX12_count 144 = .ok (.isub, 1) := by decide +kernel
theorem dX12_count_145 : decode cX12_count 145 = .ok (.iaload, 1) := by decide +kernel
theorem dX12_count_146 : decode cX12_count 146 = .ok (.ireturn, 1) := by decide +kernel
theorem dX12_count_147 : decode cX12_count 147 = .ok (.iconst (-1), 1) := by decide +kernel
theorem dX12_count_148 : decode cX12_count 148 = .ok (.ireturn, 1) := by decide +kernel
theorem dX12_status_0 : decode cX12_status 0 = .ok (.aload_n 0, 1) := by decide +kernel
theorem dX12_status_1 : decode cX12_status 1 = .ok (.getfield 3, 3) := by decide +kernel
theorem dX12_status_4 : decode cX12_status 4 = .ok (.ireturn, 1) := by decide +kernel
