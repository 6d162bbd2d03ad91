theorem dX12_isOrder_15 : decode cX12_isOrder 15 = .ok (.isub, 1) := by decide +kernel
theorem dX12_isOrder_16 : decode cX12_isOrder 16 = .ok (.iload 4, 2) := by decide +kernel
theorem dX12_isOrder_18 : decode cX12_isOrder 18 = .ok (.isub, 1) := by decide +kernel
theorem dX12_isOrder_19 : decode cX12_isOrder 19 = .ok (.imul, 1) := by decide +kernel
theorem dX12_isOrder_20 : decode cX12_isOrder 20 = .ok (.ishr, 1) := by decide +kernel
theorem dX12_isOrder_21 : decode cX12_isOrder 21 = .ok (.iconst 3, 1) := by decide +kernel
theorem dX12_isOrder_22 : decode cX12_isOrder 22 = .ok (.iand, 1) := by decide +kernel
theorem dX12_isOrder_23 : decode cX12_isOrder 23 = .ok (.istore 5, 2) := by decide +kernel
theorem dX12_isOrder_25 : decode cX12_isOrder 25 = .ok (.aload_n 0, 1) := by decide +kernel
theorem dX12_isOrder_26 : decode cX12_isOrder 26 = .ok (.iload 5, 2) := by decide +kernel
theorem dX12_isOrder_28 : decode cX12_isOrder 28 = .ok (.invokevirtual 477, 3) := by decide +kernel
theorem dX12_isOrder_31 : decode cX12_isOrder 31 = .ok (.ifCond .eq 13, 3) := by decide +kernel
theorem dX12_isOrder_34 : decode cX12_isOrder 34 = .ok (.iload_n 3, 1) := by decide +kernel
theorem dX12_isOrder_35 : decode cX12_isOrder 35 = .ok (.iload 5, 2) := by decide +kernel
theorem dX12_isOrder_37 : decode cX12_isOrder 37 = .ok (.ishr, 1) := by decide +kernel
theorem dX12_isOrder_38 : decode cX12_isOrder 38 = .ok (.iconst 1, 1) := by decide +kernel
theorem dX12_isOrder_39 : decode cX12_isOrder 39 = .ok (.iand, 1) := by decide +kernel
theorem dX12_isOrder_40 : decode cX12_isOrder 40 = .ok (.iconst 1, 1) := by decide +kernel
theorem dX12_isOrder_41 : decode cX12_isOrder 41 = .ok (.if_icmp .ne 5, 3) := by decide +kernel
theorem dX12_isOrder_44 : decode cX12_isOrder 44 = .ok (.iconst 0, 1) := by decide +kernel
theorem dX12_isOrder_45 : decode cX12_isOrder 45 = .ok (.ireturn, 1) := by decide +kernel
theorem dX12_isOrder_46 : decode cX12_isOrder 46 = .ok (.iload_n 3, 1) := by decide +kernel
theorem dX12_isOrder_47 : decode cX12_isOrder 47 = .ok (.iconst 1, 1) := by decide +kernel
theorem dX12_isOrder_48 : decode cX12_isOrder 48 = .ok (.iload 5, 2) := by decide +kernel
theorem dX12_isOrder_50 : decode cX12_isOrder 50 = .ok (.ishl, 1) := by decide +kernel
theorem dX12_isOrder_51 : decode cX12_isOrder 51 = .ok (.ior, 1) := by decide +kernel
theorem dX12_isOrder_52 : decode cX12_isOrder 52 = .ok (.istore_n 3, 1) := by decide +kernel
theorem dX12_isOrder_53 : decode cX12_isOrder 53 = .ok (.iinc 4 1, 3) := by decide +kernel
theorem dX12_isOrder_56 : decode cX12_isOrder 56 = .ok (.goto (-51), 3) := by decide +kernel
theorem dX12_isOrder_59 : decode cX12_isOrder 59 = .ok (.iconst 1, 1) := by decide +kernel
theorem dX12_isOrder_60 : decode cX12_isOrder 60 = .ok (.ireturn, 1) := by decide +kernel
theorem dX12_senders_0 : decode cX12_senders 0 = .ok (.iconst 0, 1) := by decide +kernel
theorem dX12_senders_1 : decode cX12_senders 1 = .ok (.istore_n 1, 1) := by decide +kernel
theorem dX12_senders_2 : decode cX12_senders 2 = .ok (.iconst 0, 1) := by decide +kernel
theorem dX12_senders_3 : decode cX12_senders 3 = .ok (.istore_n 2, 1) := by decide +kernel
theorem dX12_senders_4 : decode cX12_senders 4 = .ok (.iload_n 2, 1) := by decide +kernel
theorem dX12_senders_5 : decode cX12_senders 5 = .ok (.aload_n 0, 1) := by decide +kernel
theorem dX12_senders_6 : decode cX12_senders 6 = .ok (.getfield 215, 3) := by decide +kernel
theorem dX12_senders_9 : decode cX12_senders 9 = .ok (.if_icmp .ge 20, 3) := by decide +kernel
theorem dX12_senders_12 : decode cX12_senders 12 = .ok (.aload_n 0, 1) := by decide +kernel
theorem dX12_senders_13 : decode cX12_senders 13 = .ok (.iload_n 2, 1) := by decide +kernel
theorem dX12_senders_14 : decode cX12_senders 14 = .ok (.invokevirtual 477, 3) := by decide +kernel
theorem dX12_senders_17 : decode cX12_senders 17 = .ok (.ifCond .eq 6, 3) := by decide +kernel
theorem dX12_senders_20 : decode cX12_senders 20 = .ok (.iinc 1 1, 3) := by decide +kernel
theorem dX12_senders_23 : decode cX12_senders 23 = .ok (.iinc 2 1, 3) := by decide +kernel
theorem dX12_senders_26 : decode cX12_senders 26 = .ok (.goto (-22), 3) := by decide +kernel
theorem dX12_senders_29 : decode cX12_senders 29 = .ok (.iload_n 1, 1) := by decide +kernel
theorem dX12_senders_30 : decode cX12_senders 30 = .ok (.ireturn, 1) := by decide +kernel
theorem dX12_laysOrders_0 : decode cX12_laysOrders 0 = .ok (.aload_n 0, 1) := by decide +kernel
theorem dX12_laysOrders_1 : decode cX12_laysOrders 1 = .ok (.invokevirtual 480, 3) := by decide +kernel
theorem dX12_laysOrders_4 : decode cX12_laysOrders 4 = .ok (.istore_n 1, 1) := by decide +kernel
theorem dX12_laysOrders_5 : decode cX12_laysOrders 5 = .ok (.aload_n 0, 1) := by decide +kernel
theorem dX12_laysOrders_6 : decode cX12_laysOrders 6 = .ok (.iconst 0, 1) := by decide +kernel
theorem dX12_laysOrders_7 : decode cX12_laysOrders 7 = .ok (.putfield 483, 3) := by decide +kernel
theorem dX12_laysOrders_10 : decode cX12_laysOrders 10 = .ok (.aload_n 0, 1) := by decide +kernel
theorem dX12_laysOrders_11 : decode cX12_laysOrders 11 = .ok (.invokevirtual 469, 3) := by decide +kernel
theorem dX12_laysOrders_14 : decode cX12_laysOrders 14 = .ok (.iconst 0, 1) := by decide +kernel
theorem dX12_laysOrders_15 : decode cX12_laysOrders 15 = .ok (.istore_n 2, 1) := by decide +kernel
theorem dX12_laysOrders_16 : decode cX12_laysOrders 16 = .ok (.iload_n 2, 1) := by decide +kernel
theorem dX12_laysOrders_17 : decode cX12_laysOrders 17 = .ok (.iconst 1, 1) := by decide +kernel
theorem dX12_laysOrders_18 : decode cX12_laysOrders 18 = .ok (.iconst 2, 1) := by decide +kernel
theorem dX12_laysOrders_19 : decode cX12_laysOrders 19 = .ok (.iload_n 1, 1) := by decide +kernel
theorem dX12_laysOrders_20 : decode cX12_laysOrders 20 = .ok (.imul, 1) := by decide +kernel
theorem dX12_laysOrders_21 : decode cX12_laysOrders 21 = .ok (.ishl, 1) := by decide +kernel
theorem dX12_laysOrders_22 : decode cX12_laysOrders 22 = .ok (.if_icmp .ge 119, 3) := by decide +kernel
theorem dX12_laysOrders_25 : decode cX12_laysOrders 25 = .ok (.aload_n 0, 1) := by decide +kernel
theorem dX12_laysOrders_26 : decode cX12_laysOrders 26 = .ok (.iload_n 2, 1) := by decide +kernel
theorem dX12_laysOrders_27 : decode cX12_laysOrders 27 = .ok (.iload_n 1, 1) := by decide +kernel
theorem dX12_laysOrders_28 : decode cX12_laysOrders 28 = .ok (.invokevirtual 486, 3) := by decide +kernel
theorem dX12_laysOrders_31 : decode cX12_laysOrders 31 = .ok (.ifCond .ne 6, 3) := by decide +kernel
theorem dX12_laysOrders_34 : decode cX12_laysOrders 34 = .ok (.goto 101, 3) := by decide +kernel
theorem dX12_laysOrders_37 : decode cX12_laysOrders 37 = .ok (.iconst 0, 1) := by decide +kernel
theorem dX12_laysOrders_38 : decode cX12_laysOrders 38 = .ok (.istore_n 3, 1) := by decide +kernel
theorem dX12_laysOrders_39 : decode cX12_laysOrders 39 = .ok (.iload_n 3, 1) := by decide +kernel
theorem dX12_laysOrders_40 : decode cX12_laysOrders 40 = .ok (.iload_n 1, 1) := by decide +kernel
theorem dX12_laysOrders_41 : decode cX12_laysOrders 41 = .ok (.if_icmp .ge 24, 3) := by decide +kernel
theorem dX12_laysOrders_44 : decode cX12_laysOrders 44 = .ok (.aload_n 0, 1) := by decide +kernel
theorem dX12_laysOrders_45 : decode cX12_laysOrders 45 = .ok (.iload_n 2, 1) := by decide +kernel
theorem dX12_laysOrders_46 : decode cX12_laysOrders 46 = .ok (.iconst 2, 1) := by decide +kernel
theorem dX12_laysOrders_47 : decode cX12_laysOrders 47 = .ok (.iload_n 1, 1) := by decide +kernel
theorem dX12_laysOrders_48 : decode cX12_laysOrders 48 = .ok (.iconst 1, 1) := by decide +kernel
theorem dX12_laysOrders_49 : decode cX12_laysOrders 49 = .ok (.isub, 1) := by decide +kernel
theorem dX12_laysOrders_50 : decode cX12_laysOrders 50 = .ok (.iload_n 3, 1) := by decide +kernel
theorem dX12_laysOrders_51 : decode cX12_laysOrders 51 = .ok (.isub, 1) := by decide +kernel
theorem dX12_laysOrders_52 : decode cX12_laysOrders 52 = .ok (.imul, 1) := by decide +kernel
theorem dX12_laysOrders_53 : decode cX12_laysOrders 53 = .ok (.ishr, 1) := by decide +kernel
theorem dX12_laysOrders_54 : decode cX12_laysOrders 54 = .ok (.iconst 3, 1) := by decide +kernel
theorem dX12_laysOrders_55 : decode cX12_laysOrders 55 = .ok (.iand, 1) := by decide +kernel
theorem dX12_laysOrders_56 : decode cX12_laysOrders 56 = .ok (.invokevirtual 323, 3) := by decide +kernel
theorem dX12_laysOrders_59 : decode cX12_laysOrders 59 = .ok (.iinc 3 1, 3) := by decide +kernel
theorem dX12_laysOrders_62 : decode cX12_laysOrders 62 = .ok (.goto (-23), 3) := by decide +kernel
theorem dX12_laysOrders_65 : decode cX12_laysOrders 65 = .ok (.aload_n 0, 1) := by decide +kernel
theorem dX12_laysOrders_66 : decode cX12_laysOrders 66 = .ok (.getfield 105, 3) := by decide +kernel
theorem dX12_laysOrders_69 : decode cX12_laysOrders 69 = .ok (.aload_n 0, 1) := by decide +kernel
theorem dX12_laysOrders_70 : decode cX12_laysOrders 70 = .ok (.getfield 483, 3) := by decide +kernel
theorem dX12_laysOrders_73 : decode cX12_laysOrders 73 = .ok (.aload_n 0, 1) := by decide +kernel
theorem dX12_laysOrders_74 : decode cX12_laysOrders 74 = .ok (.aload_n 0, 1) := by decide +kernel
theorem dX12_laysOrders_75 : decode cX12_laysOrders 75 = .ok (.getfield 69, 3) := by decide +kernel
theorem dX12_laysOrders_78 : decode cX12_laysOrders 78 = .ok (.iconst 1, 1) := by decide +kernel
theorem dX12_laysOrders_79 : decode cX12_laysOrders 79 = .ok (.iaload, 1) := by decide +kernel
theorem dX12_laysOrders_80 : decode cX12_laysOrders 80 = .ok (.invokevirtual 425, 3) := by decide +kernel
theorem dX12_laysOrders_83 : decode cX12_laysOrders 83 = .ok (.iastore, 1) := by decide +kernel
theorem dX12_laysOrders_84 : decode cX12_laysOrders 84 = .ok (.iconst 0, 1) := by decide +kernel
theorem dX12_laysOrders_85 : decode cX12_laysOrders 85 = .ok (.istore_n 3, 1) := by decide +kernel
theorem dX12_laysOrders_86 : decode cX12_laysOrders 86 = .ok (.iload_n 3, 1) := by decide +kernel
theorem dX12_laysOrders_87 : decode cX12_laysOrders 87 = .ok (.aload_n 0, 1) := by decide +kernel
theorem dX12_laysOrders_88 : decode cX12_laysOrders 88 = .ok (.getfield 434, 3) := by decide +kernel
theorem dX12_laysOrders_91 : decode cX12_laysOrders 91 = .ok (.if_icmp .ge 30, 3) := by decide +kernel
theorem dX12_laysOrders_94 : decode cX12_laysOrders 94 = .ok (.aload_n 0, 1) := by decide +kernel
theorem dX12_laysOrders_95 : decode cX12_laysOrders 95 = .ok (.getfield 108, 3) := by decide +kernel
theorem dX12_laysOrders_98 : decode cX12_laysOrders 98 = .ok (.sipush 250, 3) := by decide +kernel
theorem dX12_laysOrders_101 : decode cX12_laysOrders 101 = .ok (.aload_n 0, 1) := by decide +kernel
theorem dX12_laysOrders_102 : decode cX12_laysOrders 102 = .ok (.getfield 483, 3) := by decide +kernel
theorem dX12_laysOrders_105 : decode cX12_laysOrders 105 = .ok (.imul, 1) := by decide +kernel
theorem dX12_laysOrders_106 : decode cX12_laysOrders 106 = .ok (.iload_n 3, 1) := by decide +kernel
theorem dX12_laysOrders_107 : decode cX12_laysOrders 107 = .ok (.iadd, 1) := by decide +kernel
theorem dX12_laysOrders_108 : decode cX12_laysOrders 108 = .ok (.aload_n 0, 1) := by decide +kernel
theorem dX12_laysOrders_109 : decode cX12_laysOrders 109 = .ok (.getfield 93, 3) := by decide +kernel
theorem dX12_laysOrders_112 : decode cX12_laysOrders 112 = .ok (.iload_n 3, 1) := by decide +kernel
theorem dX12_laysOrders_113 : decode cX12_laysOrders 113 = .ok (.iaload, 1) := by decide +kernel
theorem dX12_laysOrders_114 : decode cX12_laysOrders 114 = .ok (.iastore, 1) := by decide +kernel
theorem dX12_laysOrders_115 : decode cX12_laysOrders 115 = .ok (.iinc 3 1, 3) := by decide +kernel
theorem dX12_laysOrders_118 : decode cX12_laysOrders 118 = .ok (.goto (-32), 3) := by decide +kernel
theorem dX12_laysOrders_121 : decode cX12_laysOrders 121 = .ok (.aload_n 0, 1) := by decide +kernel
theorem dX12_laysOrders_122 : decode cX12_laysOrders 122 = .ok (.dup, 1) := by decide +kernel
theorem dX12_laysOrders_123 : decode cX12_laysOrders 123 = .ok (.getfield 483, 3) := by decide +kernel
theorem dX12_laysOrders_126 : decode cX12_laysOrders 126 = .ok (.iconst 1, 1) := by decide +kernel
theorem dX12_laysOrders_127 : decode cX12_laysOrders 127 = .ok (.iadd, 1) := by decide +kernel
theorem dX12_laysOrders_128 : decode cX12_laysOrders 128 = .ok (.putfield 483, 3) := by decide +kernel
theorem dX12_laysOrders_131 : decode cX12_laysOrders 131 = .ok (.aload_n 0, 1) := by decide +kernel
theorem dX12_laysOrders_132 : decode cX12_laysOrders 132 = .ok (.invokevirtual 472, 3) := by decide +kernel
theorem dX12_laysOrders_135 : decode cX12_laysOrders 135 = .ok (.iinc 2 1, 3) := by decide +kernel
theorem dX12_laysOrders_138 : decode cX12_laysOrders 138 = .ok (.goto (-122), 3) := by decide +kernel
theorem dX12_laysOrders_141 : decode cX12_laysOrders 141 = .ok (.return_, 1) := by decide +kernel
theorem dX12_endAt_0 : decode cX12_endAt 0 = .ok (.iload_n 2, 1) := by decide +kernel
theorem dX12_endAt_1 : decode cX12_endAt 1 = .ok (.aload_n 0, 1) := by decide +kernel
theorem dX12_endAt_2 : decode cX12_endAt 2 = .ok (.getfield 105, 3) := by decide +kernel
theorem dX12_endAt_5 : decode cX12_endAt 5 = .ok (.iload_n 1, 1) := by decide +kernel
theorem dX12_endAt_6 : decode cX12_endAt 6 = .ok (.iaload, 1) := by decide +kernel
theorem dX12_endAt_7 : decode cX12_endAt 7 = .ok (.if_icmp .ge 18, 3) := by decide +kernel
theorem dX12_endAt_10 : decode cX12_endAt 10 = .ok (.aload_n 0, 1) := by decide +kernel
theorem dX12_endAt_11 : decode cX12_endAt 11 = .ok (.getfield 108, 3) := by decide +kernel
theorem dX12_endAt_14 : decode cX12_endAt 14 = .ok (.sipush 250, 3) := by decide +kernel
theorem dX12_endAt_17 : decode cX12_endAt 17 = .ok (.iload_n 1, 1) := by decide +kernel
theorem dX12_endAt_18 : decode cX12_endAt 18 = .ok (.imul, 1) := by decide +kernel
theorem dX12_endAt_19 : decode cX12_endAt 19 = .ok (.iload_n 2, 1) := by decide +kernel
theorem dX12_endAt_20 : decode cX12_endAt 20 = .ok (.iadd, 1) := by decide +kernel
theorem dX12_endAt_21 : decode cX12_endAt 21 = .ok (.iaload, 1) := by decide +kernel
theorem dX12_endAt_22 : decode cX12_endAt 22 = .ok (.goto 4, 3) := by decide +kernel
theorem dX12_endAt_25 : decode cX12_endAt 25 = .ok (.iconst 0, 1) := by decide +kernel
theorem dX12_endAt_26 : decode cX12_endAt 26 = .ok (.ireturn, 1) := by decide +kernel
theorem dX12_areAlike_0 : decode cX12_areAlike 0 = .ok (.iconst 0, 1) := by decide +kernel
theorem dX12_areAlike_1 : decode cX12_areAlike 1 = .ok (.istore_n 3, 1) := by decide +kernel
theorem dX12_areAlike_2 : decode cX12_areAlike 2 = .ok (.iload_n 3, 1) := by decide +kernel
theorem dX12_areAlike_3 : decode cX12_areAlike 3 = .ok (.sipush 240, 3) := by decide +kernel
theorem dX12_areAlike_6 : decode cX12_areAlike 6 = .ok (.if_icmp .ge 26, 3) := by decide +kernel
theorem dX12_areAlike_9 : decode cX12_areAlike 9 = .ok (.aload_n 0, 1) := by decide +kernel
theorem dX12_areAlike_10 : decode cX12_areAlike 10 = .ok (.iload_n 1, 1) := by decide +kernel
theorem dX12_areAlike_11 : decode cX12_areAlike 11 = .ok (.iload_n 3, 1) := by decide +kernel
theorem dX12_areAlike_12 : decode cX12_areAlike 12 = .ok (.invokevirtual 489, 3) := by decide +kernel
theorem dX12_areAlike_15 : decode cX12_areAlike 15 = .ok (.aload_n 0, 1) := by decide +kernel
theorem dX12_areAlike_16 : decode cX12_areAlike 16 = .ok (.iload_n 2, 1) := by decide +kernel
theorem dX12_areAlike_17 : decode cX12_areAlike 17 = .ok (.iload_n 3, 1) := by decide +kernel
theorem dX12_areAlike_18 : decode cX12_areAlike 18 = .ok (.invokevirtual 489, 3) := by decide +kernel
theorem dX12_areAlike_21 : decode cX12_areAlike 21 = .ok (.if_icmp .eq 5, 3) := by decide +kernel
theorem dX12_areAlike_24 : decode cX12_areAlike 24 = .ok (.iconst 0, 1) := by decide +kernel
theorem dX12_areAlike_25 : decode cX12_areAlike 25 = .ok (.ireturn, 1) := by decide +kernel
theorem dX12_areAlike_26 : decode cX12_areAlike 26 = .ok (.iinc 3 1, 3) := by decide +kernel
theorem dX12_areAlike_29 : decode cX12_areAlike 29 = .ok (.goto (-27), 3) := by decide +kernel
theorem dX12_areAlike_32 : decode cX12_areAlike 32 = .ok (.iconst 1, 1) := by decide +kernel
theorem dX12_areAlike_33 : decode cX12_areAlike 33 = .ok (.ireturn, 1) := by decide +kernel
theorem dX12_isFirstOfLike_0 : decode cX12_isFirstOfLike 0 = .ok (.iconst 0, 1) := by decide +kernel
theorem dX12_isFirstOfLike_1 : decode cX12_isFirstOfLike 1 = .ok (.istore_n 2, 1) := by decide +kernel
theorem dX12_isFirstOfLike_2 : decode cX12_isFirstOfLike 2 = .ok (.iload_n 2, 1) := by decide +kernel
theorem dX12_isFirstOfLike_3 : decode cX12_isFirstOfLike 3 = .ok (.iload_n 1, 1) := by decide +kernel
theorem dX12_isFirstOfLike_4 : decode cX12_isFirstOfLike 4 = .ok (.if_icmp .ge 20, 3) := by decide +kernel
theorem dX12_isFirstOfLike_7 : decode cX12_isFirstOfLike 7 = .ok (.aload_n 0, 1) := by decide +kernel
theorem dX12_isFirstOfLike_8 : decode cX12_isFirstOfLike 8 = .ok (.iload_n 2, 1) := by decide +kernel
theorem dX12_isFirstOfLike_9 : decode cX12_isFirstOfLike 9 = .ok (.iload_n 1, 1) := by decide +kernel
theorem dX12_isFirstOfLike_10 : decode cX12_isFirstOfLike 10 = .ok (.invokevirtual 492, 3) := by decide +kernel
theorem dX12_isFirstOfLike_13 : decode cX12_isFirstOfLike 13 = .ok (.ifCond .eq 5, 3) := by decide +kernel
theorem dX12_isFirstOfLike_16 : decode cX12_isFirstOfLike 16 = .ok (.iconst 0, 1) := by decide +kernel
theorem dX12_isFirstOfLike_17 : decode cX12_isFirstOfLike 17 = .ok (.ireturn, 1) := by decide +kernel
theorem dX12_isFirstOfLike_18 : decode cX12_isFirstOfLike 18 = .ok (.iinc 2 1, 3) := by decide +kernel
theorem dX12_isFirstOfLike_21 : decode cX12_isFirstOfLike 21 = .ok (.goto (-19), 3) := by decide +kernel
theorem dX12_isFirstOfLike_24 : decode cX12_isFirstOfLike 24 = .ok (.iconst 1, 1) := by decide +kernel
theorem dX12_isFirstOfLike_25 : decode cX12_isFirstOfLike 25 = .ok (.ireturn, 1) := by decide +kernel
theorem dX12_orders_0 : decode cX12_orders 0 = .ok (.aload_n 0, 1) := by decide +kernel
theorem dX12_orders_1 : decode cX12_orders 1 = .ok (.getfield 211, 3) := by decide +kernel
theorem dX12_orders_4 : decode cX12_orders 4 = .ok (.ifCond .eq 13, 3) := by decide +kernel
theorem dX12_orders_7 : decode cX12_orders 7 = .ok (.iload_n 1, 1) := by decide +kernel
theorem dX12_orders_8 : decode cX12_orders 8 = .ok (.i2l, 1) := by decide +kernel
theorem dX12_orders_9 : decode cX12_orders 9 = .ok (.lconst 0, 1) := by decide +kernel
theorem dX12_orders_10 : decode cX12_orders 10 = .ok (.lconst 1, 1) := by decide +kernel
theorem dX12_orders_11 : decode cX12_orders 11 = .ok (.invokestatic 139, 3) := by decide +kernel
theorem dX12_orders_14 : decode cX12_orders 14 = .ok (.ifCond .ne 5, 3) := by decide +kernel
theorem dX12_orders_17 : decode cX12_orders 17 = .ok (.iconst (-1), 1) := by decide +kernel
theorem dX12_orders_18 : decode cX12_orders 18 = .ok (.ireturn, 1) := by decide +kernel
theorem dX12_orders_19 : decode cX12_orders 19 = .ok (.aload_n 0, 1) := by decide +kernel
theorem dX12_orders_20 : decode cX12_orders 20 = .ok (.invokevirtual 495, 3) := by decide +kernel
theorem dX12_orders_23 : decode cX12_orders 23 = .ok (.iload_n 1, 1) := by decide +kernel
theorem dX12_orders_24 : decode cX12_orders 24 = .ok (.ifCond .ne 8, 3) := by decide +kernel
theorem dX12_orders_27 : decode cX12_orders 27 = .ok (.aload_n 0, 1) := by decide +kernel
theorem dX12_orders_28 : decode cX12_orders 28 = .ok (.getfield 483, 3) := by decide +kernel
theorem dX12_orders_31 : decode cX12_orders 31 = .ok (.ireturn, 1) := by decide +kernel
theorem dX12_orders_32 : decode cX12_orders 32 = .ok (.iconst 0, 1) := by decide +kernel
theorem dX12_orders_33 : decode cX12_orders 33 = .ok (.istore_n 2, 1) := by decide +kernel
theorem dX12_orders_34 : decode cX12_orders 34 = .ok (.iconst 0, 1) := by decide +kernel
theorem dX12_orders_35 : decode cX12_orders 35 = .ok (.istore_n 3, 1) := by decide +kernel
theorem dX12_orders_36 : decode cX12_orders 36 = .ok (.iload_n 3, 1) := by decide +kernel
theorem dX12_orders_37 : decode cX12_orders 37 = .ok (.aload_n 0, 1) := by decide +kernel
theorem dX12_orders_38 : decode cX12_orders 38 = .ok (.getfield 483, 3) := by decide +kernel
theorem dX12_orders_41 : decode cX12_orders 41 = .ok (.if_icmp .ge 20, 3) := by decide +kernel
theorem dX12_orders_44 : decode cX12_orders 44 = .ok (.aload_n 0, 1) := by decide +kernel
theorem dX12_orders_45 : decode cX12_orders 45 = .ok (.iload_n 3, 1) := by decide +kernel
theorem dX12_orders_46 : decode cX12_orders 46 = .ok (.invokevirtual 498, 3) := by decide +kernel
theorem dX12_orders_49 : decode cX12_orders 49 = .ok (.ifCond .eq 6, 3) := by decide +kernel
theorem dX12_orders_52 : decode cX12_orders 52 = .ok (.iinc 2 1, 3) := by decide +kernel
theorem dX12_orders_55 : decode cX12_orders 55 = .ok (.iinc 3 1, 3) := by decide +kernel
theorem dX12_orders_58 : decode cX12_orders 58 = .ok (.goto (-22), 3) := by decide +kernel
theorem dX12_orders_61 : decode cX12_orders 61 = .ok (.iload_n 2, 1) := by decide +kernel
theorem dX12_orders_62 : decode cX12_orders 62 = .ok (.ireturn, 1) := by decide +kernel
theorem dX12_ends_0 : decode cX12_ends 0 = .ok (.aload_n 0, 1) := by decide +kernel
theorem dX12_ends_1 : decode cX12_ends 1 = .ok (.getfield 211, 3) := by decide +kernel
theorem dX12_ends_4 : decode cX12_ends 4 = .ok (.ifCond .eq 8, 3) := by decide +kernel
theorem dX12_ends_7 : decode cX12_ends 7 = .ok (.iload_n 2, 1) := by decide +kernel
theorem dX12_ends_8 : decode cX12_ends 8 = .ok (.iconst (-1), 1) := by decide +kernel
theorem dX12_ends_9 : decode cX12_ends 9 = .ok (.if_icmp .ge 5, 3) := by decide +kernel
theorem dX12_ends_12 : decode cX12_ends 12 = .ok (.iconst (-1), 1) := by decide +kernel
theorem dX12_ends_13 : decode cX12_ends 13 = .ok (.ireturn, 1) := by decide +kernel
theorem dX12_ends_14 : decode cX12_ends 14 = .ok (.aload_n 0, 1) := by decide +kernel
theorem dX12_ends_15 : decode cX12_ends 15 = .ok (.invokevirtual 495, 3) := by decide +kernel
theorem dX12_ends_18 : decode cX12_ends 18 = .ok (.iload_n 1, 1) := by decide +kernel
theorem dX12_ends_19 : decode cX12_ends 19 = .ok (.i2l, 1) := by decide +kernel
theorem dX12_ends_20 : decode cX12_ends 20 = .ok (.lconst 0, 1) := by decide +kernel
theorem dX12_ends_21 : decode cX12_ends 21 = .ok (.aload_n 0, 1) := by decide +kernel
theorem dX12_ends_22 : decode cX12_ends 22 = .ok (.getfield 483, 3) := by decide +kernel
theorem dX12_ends_25 : decode cX12_ends 25 = .ok (.iconst 1, 1) := by decide +kernel
theorem dX12_ends_26 : decode cX12_ends 26 = .ok (.isub, 1) := by decide +kernel
theorem dX12_ends_27 : decode cX12_ends 27 = .ok (.i2l, 1) := by decide +kernel
theorem dX12_ends_28 : decode cX12_ends 28 = .ok (.invokestatic 139, 3) := by decide +kernel
theorem dX12_ends_31 : decode cX12_ends 31 = .ok (.ifCond .ne 5, 3) := by decide +kernel
theorem dX12_ends_34 : decode cX12_ends 34 = .ok (.iconst (-1), 1) := by decide +kernel
theorem dX12_ends_35 : decode cX12_ends 35 = .ok (.ireturn, 1) := by decide +kernel
theorem dX12_ends_36 : decode cX12_ends 36 = .ok (.iload_n 2, 1) := by decide +kernel
theorem dX12_ends_37 : decode cX12_ends 37 = .ok (.iconst (-1), 1) := by decide +kernel
theorem dX12_ends_38 : decode cX12_ends 38 = .ok (.if_icmp .ne 12, 3) := by decide +kernel
theorem dX12_ends_41 : decode cX12_ends 41 = .ok (.aload_n 0, 1) := by decide +kernel
theorem dX12_ends_42 : decode cX12_ends 42 = .ok (.getfield 105, 3) := by decide +kernel
theorem dX12_ends_45 : decode cX12_ends 45 = .ok (.iload_n 1, 1) := by decide +kernel
theorem dX12_ends_46 : decode cX12_ends 46 = .ok (.iaload, 1) := by decide +kernel
theorem dX12_ends_47 : decode cX12_ends 47 = .ok (.goto 29, 3) := by decide +kernel
theorem dX12_ends_50 : decode cX12_ends 50 = .ok (.iload_n 2, 1) := by decide +kernel
theorem dX12_ends_51 : decode cX12_ends 51 = .ok (.aload_n 0, 1) := by decide +kernel
theorem dX12_ends_52 : decode cX12_ends 52 = .ok (.getfield 105, 3) := by decide +kernel
theorem dX12_ends_55 : decode cX12_ends 55 = .ok (.iload_n 1, 1) := by decide +kernel
theorem dX12_ends_56 : decode cX12_ends 56 = .ok (.iaload, 1) := by decide +kernel
theorem dX12_ends_57 : decode cX12_ends 57 = .ok (.if_icmp .ge 18, 3) := by decide +kernel
theorem dX12_ends_60 : decode cX12_ends 60 = .ok (.aload_n 0, 1) := by decide +kernel
theorem dX12_ends_61 : decode cX12_ends 61 = .ok (.getfield 108, 3) := by decide +kernel
theorem dX12_ends_64 : decode cX12_ends 64 = .ok (.sipush 250, 3) := by decide +kernel
theorem dX12_ends_67 : decode cX12_ends 67 = .ok (.iload_n 1, 1) := by decide +kernel
theorem dX12_ends_68 : decode cX12_ends 68 = .ok (.imul, 1) := by decide +kernel
theorem dX12_ends_69 : decode cX12_ends 69 = .ok (.iload_n 2, 1) := by decide +kernel
theorem dX12_ends_70 : decode cX12_ends 70 = .ok (.iadd, 1) := by decide +kernel
theorem dX12_ends_71 : decode cX12_ends 71 = .ok (.iaload, 1) := by decide +kernel
theorem dX12_ends_72 : decode cX12_ends 72 = .ok (.goto 4, 3) := by decide +kernel
theorem dX12_ends_75 : decode cX12_ends 75 = .ok (.iconst (-1), 1) := by decide +kernel
theorem dX12_ends_76 : decode cX12_ends 76 = .ok (.ireturn, 1) := by decide +kernel
theorem dX12_see_0 : decode cX12_see 0 = .ok (.aload_n 0, 1) := by decide +kernel
theorem dX12_see_1 : decode cX12_see 1 = .ok (.getfield 126, 3) := by decide +kernel
theorem dX12_see_4 : decode cX12_see 4 = .ok (.istore_n 1, 1) := by decide +kernel
theorem dX12_see_5 : decode cX12_see 5 = .ok (.aload_n 0, 1) := by decide +kernel
theorem dX12_see_6 : decode cX12_see 6 = .ok (.iconst 0, 1) := by decide +kernel
theorem dX12_see_7 : decode cX12_see 7 = .ok (.putfield 126, 3) := by decide +kernel
theorem dX12_see_10 : decode cX12_see 10 = .ok (.aload_n 0, 1) := by decide +kernel
theorem dX12_see_11 : decode cX12_see 11 = .ok (.getfield 211, 3) := by decide +kernel
theorem dX12_see_14 : decode cX12_see 14 = .ok (.ifCond .eq 25, 3) := by decide +kernel
theorem dX12_see_17 : decode cX12_see 17 = .ok (.iload_n 1, 1) := by decide +kernel
theorem dX12_see_18 : decode cX12_see 18 = .ok (.ifCond .le 21, 3) := by decide +kernel
theorem dX12_see_21 : decode cX12_see 21 = .ok (.iload_n 1, 1) := by decide +kernel
theorem dX12_see_22 : decode cX12_see 22 = .ok (.iconst 2, 1) := by decide +kernel
theorem dX12_see_23 : decode cX12_see 23 = .ok (.irem, 1) := by decide +kernel
theorem dX12_see_24 : decode cX12_see 24 = .ok (.ifCond .ne 15, 3) := by decide +kernel
theorem dX12_see_27 : decode cX12_see 27 = .ok (.iload_n 1, 1) := by decide +kernel
theorem dX12_see_28 : decode cX12_see 28 = .ok (.iconst 2, 1) := by decide +kernel
theorem dX12_see_29 : decode cX12_see 29 = .ok (.idiv, 1) := by decide +kernel
theorem dX12_see_30 : decode cX12_see 30 = .ok (.bipush 16, 2) := by decide +kernel
theorem dX12_see_32 : decode cX12_see 32 = .ok (.if_icmp .gt 7, 3) := by decide +kernel
theorem dX12_see_35 : decode cX12_see 35 = .ok (.iconst 1, 1) := by decide +kernel
theorem dX12_see_36 : decode cX12_see 36 = .ok (.goto 4, 3) := by decide +kernel
theorem dX12_see_39 : decode cX12_see 39 = .ok (.iconst 0, 1) := by decide +kernel
theorem dX12_see_40 : decode cX12_see 40 = .ok (.istore_n 2, 1) := by decide +kernel
theorem dX12_see_41 : decode cX12_see 41 = .ok (.iconst 0, 1) := by decide +kernel
theorem dX12_see_42 : decode cX12_see 42 = .ok (.istore_n 3, 1) := by decide +kernel
theorem dX12_see_43 : decode cX12_see 43 = .ok (.iload_n 3, 1) := by decide +kernel
theorem dX12_see_44 : decode cX12_see 44 = .ok (.iload_n 1, 1) := by decide +kernel
theorem dX12_see_45 : decode cX12_see 45 = .ok (.if_icmp .ge 44, 3) := by decide +kernel
theorem dX12_see_48 : decode cX12_see 48 = .ok (.iload_n 2, 1) := by decide +kernel
theorem dX12_see_49 : decode cX12_see 49 = .ok (.ifCond .eq 40, 3) := by decide +kernel
theorem dX12_see_52 : decode cX12_see 52 = .ok (.aload_n 0, 1) := by decide +kernel
theorem dX12_see_53 : decode cX12_see 53 = .ok (.getfield 7, 3) := by decide +kernel
theorem dX12_see_56 : decode cX12_see 56 = .ok (.iload_n 3, 1) := by decide +kernel
theorem dX12_see_57 : decode cX12_see 57 = .ok (.iaload, 1) := by decide +kernel
theorem dX12_see_58 : decode cX12_see 58 = .ok (.sipush 240, 3) := by decide +kernel
theorem dX12_see_61 : decode cX12_see 61 = .ok (.if_icmp .ge 20, 3) := by decide +kernel
theorem dX12_see_64 : decode cX12_see 64 = .ok (.aload_n 0, 1) := by decide +kernel
theorem dX12_see_65 : decode cX12_see 65 = .ok (.getfield 7, 3) := by decide +kernel
theorem dX12_see_68 : decode cX12_see 68 = .ok (.iload_n 3, 1) := by decide +kernel
theorem dX12_see_69 : decode cX12_see 69 = .ok (.iconst 1, 1) := by decide +kernel
theorem dX12_see_70 : decode cX12_see 70 = .ok (.iadd, 1) := by decide +kernel
theorem dX12_see_71 : decode cX12_see 71 = .ok (.iaload, 1) := by decide +kernel
theorem dX12_see_72 : decode cX12_see 72 = .ok (.bipush 26, 2) := by decide +kernel
theorem dX12_see_74 : decode cX12_see 74 = .ok (.if_icmp .gt 7, 3) := by decide +kernel
theorem dX12_see_77 : decode cX12_see 77 = .ok (.iconst 1, 1) := by decide +kernel
theorem dX12_see_78 : decode cX12_see 78 = .ok (.goto 4, 3) := by decide +kernel
theorem dX12_see_81 : decode cX12_see 81 = .ok (.iconst 0, 1) := by decide +kernel
theorem dX12_see_82 : decode cX12_see 82 = .ok (.istore_n 2, 1) := by decide +kernel
theorem dX12_see_83 : decode cX12_see 83 = .ok (.iinc 3 2, 3) := by decide +kernel
theorem dX12_see_86 : decode cX12_see 86 = .ok (.goto (-43), 3) := by decide +kernel
theorem dX12_see_89 : decode cX12_see 89 = .ok (.iload_n 2, 1) := by decide +kernel
theorem dX12_see_90 : decode cX12_see 90 = .ok (.ifCond .ne 9, 3) := by decide +kernel
theorem dX12_see_93 : decode cX12_see 93 = .ok (.aload_n 0, 1) := by decide +kernel
theorem dX12_see_94 : decode cX12_see 94 = .ok (.iconst 1, 1) := by decide +kernel
theorem dX12_see_95 : decode cX12_see 95 = .ok (.invokevirtual 129, 3) := by decide +kernel
theorem dX12_see_98 : decode cX12_see 98 = .ok (.ireturn, 1) := by decide +kernel
theorem dX12_see_99 : decode cX12_see 99 = .ok (.iconst 0, 1) := by decide +kernel
theorem dX12_see_100 : decode cX12_see 100 = .ok (.istore_n 3, 1) := by decide +kernel
theorem dX12_see_101 : decode cX12_see 101 = .ok (.iload_n 3, 1) := by decide +kernel
theorem dX12_see_102 : decode cX12_see 102 = .ok (.iload_n 1, 1) := by decide +kernel
theorem dX12_see_103 : decode cX12_see 103 = .ok (.if_icmp .ge 21, 3) := by decide +kernel
theorem dX12_see_106 : decode cX12_see 106 = .ok (.aload_n 0, 1) := by decide +kernel
theorem dX12_see_107 : decode cX12_see 107 = .ok (.getfield 111, 3) := by decide +kernel
theorem dX12_see_110 : decode cX12_see 110 = .ok (.iload_n 3, 1) := by decide +kernel
theorem dX12_see_111 : decode cX12_see 111 = .ok (.aload_n 0, 1) := by decide +kernel
theorem dX12_see_112 : decode cX12_see 112 = .ok (.getfield 7, 3) := by decide +kernel
theorem dX12_see_115 : decode cX12_see 115 = .ok (.iload_n 3, 1) := by decide +kernel
theorem dX12_see_116 : decode cX12_see 116 = .ok (.iaload, 1) := by decide +kernel
theorem dX12_see_117 : decode cX12_see 117 = .ok (.iastore, 1) := by decide +kernel
theorem dX12_see_118 : decode cX12_see 118 = .ok (.iinc 3 1, 3) := by decide +kernel
theorem dX12_see_121 : decode cX12_see 121 = .ok (.goto (-20), 3) := by decide +kernel
theorem dX12_see_124 : decode cX12_see 124 = .ok (.aload_n 0, 1) := by decide +kernel
theorem dX12_see_125 : decode cX12_see 125 = .ok (.iload_n 1, 1) := by decide +kernel
theorem dX12_see_126 : decode cX12_see 126 = .ok (.iconst 2, 1) := by decide +kernel
theorem dX12_see_127 : decode cX12_see 127 = .ok (.idiv, 1) := by decide +kernel
theorem dX12_see_128 : decode cX12_see 128 = .ok (.putfield 393, 3) := by decide +kernel
theorem dX12_see_131 : decode cX12_see 131 = .ok (.aload_n 0, 1) := by decide +kernel
theorem dX12_see_132 : decode cX12_see 132 = .ok (.getfield 393, 3) := by decide +kernel
theorem dX12_see_135 : decode cX12_see 135 = .ok (.ireturn, 1) := by decide +kernel
theorem dX12_laysFits_0 : decode cX12_laysFits 0 = .ok (.aload_n 0, 1) := by decide +kernel
theorem dX12_laysFits_1 : decode cX12_laysFits 1 = .ok (.invokevirtual 495, 3) := by decide +kernel
theorem dX12_laysFits_4 : decode cX12_laysFits 4 = .ok (.aload_n 0, 1) := by decide +kernel
theorem dX12_laysFits_5 : decode cX12_laysFits 5 = .ok (.iconst 0, 1) := by decide +kernel
theorem dX12_laysFits_6 : decode cX12_laysFits 6 = .ok (.putfield 501, 3) := by decide +kernel
theorem dX12_laysFits_9 : decode cX12_laysFits 9 = .ok (.iconst 0, 1) := by decide +kernel
theorem dX12_laysFits_10 : decode cX12_laysFits 10 = .ok (.istore_n 1, 1) := by decide +kernel
theorem dX12_laysFits_11 : decode cX12_laysFits 11 = .ok (.iload_n 1, 1) := by decide +kernel
theorem dX12_laysFits_12 : decode cX12_laysFits 12 = .ok (.aload_n 0, 1) := by decide +kernel
theorem dX12_laysFits_13 : decode cX12_laysFits 13 = .ok (.getfield 483, 3) := by decide +kernel
theorem dX12_laysFits_16 : decode cX12_laysFits 16 = .ok (.if_icmp .ge 84, 3) := by decide +kernel
theorem dX12_laysFits_19 : decode cX12_laysFits 19 = .ok (.aload_n 0, 1) := by decide +kernel
theorem dX12_laysFits_20 : decode cX12_laysFits 20 = .ok (.getfield 114, 3) := by decide +kernel
theorem dX12_laysFits_23 : decode cX12_laysFits 23 = .ok (.iload_n 1, 1) := by decide +kernel
theorem dX12_laysFits_24 : decode cX12_laysFits 24 = .ok (.iconst 1, 1) := by decide +kernel
theorem dX12_laysFits_25 : decode cX12_laysFits 25 = .ok (.bastore, 1) := by decide +kernel
theorem dX12_laysFits_26 : decode cX12_laysFits 26 = .ok (.iconst 0, 1) := by decide +kernel
theorem dX12_laysFits_27 : decode cX12_laysFits 27 = .ok (.istore_n 2, 1) := by decide +kernel
theorem dX12_laysFits_28 : decode cX12_laysFits 28 = .ok (.iload_n 2, 1) := by decide +kernel
theorem dX12_laysFits_29 : decode cX12_laysFits 29 = .ok (.aload_n 0, 1) := by decide +kernel
theorem dX12_laysFits_30 : decode cX12_laysFits 30 = .ok (.getfield 393, 3) := by decide +kernel
theorem dX12_laysFits_33 : decode cX12_laysFits 33 = .ok (.if_icmp .ge 42, 3) := by decide +kernel
theorem dX12_laysFits_36 : decode cX12_laysFits 36 = .ok (.aload_n 0, 1) := by decide +kernel
theorem dX12_laysFits_37 : decode cX12_laysFits 37 = .ok (.iload_n 1, 1) := by decide +kernel
theorem dX12_laysFits_38 : decode cX12_laysFits 38 = .ok (.aload_n 0, 1) := by decide +kernel
theorem dX12_laysFits_39 : decode cX12_laysFits 39 = .ok (.getfield 111, 3) := by decide +kernel
theorem dX12_laysFits_42 : decode cX12_laysFits 42 = .ok (.iconst 2, 1) := by decide +kernel
theorem dX12_laysFits_43 : decode cX12_laysFits 43 = .ok (.iload_n 2, 1) := by decide +kernel
theorem dX12_laysFits_44 : decode cX12_laysFits 44 = .ok (.imul, 1) := by decide +kernel
theorem dX12_laysFits_45 : decode cX12_laysFits 45 = .ok (.iaload, 1) := by decide +kernel
theorem dX12_laysFits_46 : decode cX12_laysFits 46 = .ok (.invokevirtual 489, 3) := by decide +kernel
theorem dX12_laysFits_49 : decode cX12_laysFits 49 = .ok (.aload_n 0, 1) := by decide +kernel
theorem dX12_laysFits_50 : decode cX12_laysFits 50 = .ok (.getfield 111, 3) := by decide +kernel
theorem dX12_laysFits_53 : decode cX12_laysFits 53 = .ok (.iconst 2, 1) := by decide +kernel
theorem dX12_laysFits_54 : decode cX12_laysFits 54 = .ok (.iload_n 2, 1) := by decide +kernel
theorem dX12_laysFits_55 : decode cX12_laysFits 55 = .ok (.imul, 1) := by decide +kernel
theorem dX12_laysFits_56 : decode cX12_laysFits 56 = .ok (.iconst 1, 1) := by decide +kernel
theorem dX12_laysFits_57 : decode cX12_laysFits 57 = .ok (.iadd, 1) := by decide +kernel
theorem dX12_laysFits_58 : decode cX12_laysFits 58 = .ok (.iaload, 1) := by decide +kernel
theorem dX12_laysFits_59 : decode cX12_laysFits 59 = .ok (.if_icmp .eq 10, 3) := by decide +kernel
theorem dX12_laysFits_62 : decode cX12_laysFits 62 = .ok (.aload_n 0, 1) := by decide +kernel
theorem dX12_laysFits_63 : decode cX12_laysFits 63 = .ok (.getfield 114, 3) := by decide +kernel
theorem dX12_laysFits_66 : decode cX12_laysFits 66 = .ok (.iload_n 1, 1) := by decide +kernel
theorem dX12_laysFits_67 : decode cX12_laysFits 67 = .ok (.iconst 0, 1) := by decide +kernel
theorem dX12_laysFits_68 : decode cX12_laysFits 68 = .ok (.bastore, 1) := by decide +kernel
theorem dX12_laysFits_69 : decode cX12_laysFits 69 = .ok (.iinc 2 1, 3) := by decide +kernel
theorem dX12_laysFits_72 : decode cX12_laysFits 72 = .ok (.goto (-44), 3) := by decide +kernel
theorem dX12_laysFits_75 : decode cX12_laysFits 75 = .ok (.aload_n 0, 1) := by decide +kernel
theorem dX12_laysFits_76 : decode cX12_laysFits 76 = .ok (.getfield 114, 3) := by decide +kernel
theorem dX12_laysFits_79 : decode cX12_laysFits 79 = .ok (.iload_n 1, 1) := by decide +kernel
theorem dX12_laysFits_80 : decode cX12_laysFits 80 = .ok (.baload, 1) := by decide +kernel
theorem dX12_laysFits_81 : decode cX12_laysFits 81 = .ok (.ifCond .eq 13, 3) := by decide +kernel
theorem dX12_laysFits_84 : decode cX12_laysFits 84 = .ok (.aload_n 0, 1) := by decide +kernel
theorem dX12_laysFits_85 : decode cX12_laysFits 85 = .ok (.dup, 1) := by decide +kernel
theorem dX12_laysFits_86 : decode cX12_laysFits 86 = .ok (.getfield 501, 3) := by decide +kernel
theorem dX12_laysFits_89 : decode cX12_laysFits 89 = .ok (.iconst 1, 1) := by decide +kernel
theorem dX12_laysFits_90 : decode cX12_laysFits 90 = .ok (.iadd, 1) := by decide +kernel
theorem dX12_laysFits_91 : decode cX12_laysFits 91 = .ok (.putfield 501, 3) := by decide +kernel
theorem dX12_laysFits_94 : decode cX12_laysFits 94 = .ok (.iinc 1 1, 3) := by decide +kernel
theorem dX12_laysFits_97 : decode cX12_laysFits 97 = .ok (.goto (-86), 3) := by decide +kernel
theorem dX12_laysFits_100 : decode cX12_laysFits 100 = .ok (.return_, 1) := by decide +kernel
theorem dX12_fits_0 : decode cX12_fits 0 = .ok (.aload_n 0, 1) := by decide +kernel
theorem dX12_fits_1 : decode cX12_fits 1 = .ok (.getfield 211, 3) := by decide +kernel
theorem dX12_fits_4 : decode cX12_fits 4 = .ok (.ifCond .eq 8, 3) := by decide +kernel
theorem dX12_fits_7 : decode cX12_fits 7 = .ok (.iload_n 1, 1) := by decide +kernel
theorem dX12_fits_8 : decode cX12_fits 8 = .ok (.iconst (-1), 1) := by decide +kernel
theorem dX12_fits_9 : decode cX12_fits 9 = .ok (.if_icmp .ge 5, 3) := by decide +kernel
theorem dX12_fits_12 : decode cX12_fits 12 = .ok (.iconst (-1), 1) := by decide +kernel
theorem dX12_fits_13 : decode cX12_fits 13 = .ok (.ireturn, 1) := by decide +kernel
theorem dX12_fits_14 : decode cX12_fits 14 = .ok (.aload_n 0, 1) := by decide +kernel
theorem dX12_fits_15 : decode cX12_fits 15 = .ok (.invokevirtual 504, 3) := by decide +kernel
theorem dX12_fits_18 : decode cX12_fits 18 = .ok (.iload_n 1, 1) := by decide +kernel
theorem dX12_fits_19 : decode cX12_fits 19 = .ok (.iconst (-1), 1) := by decide +kernel
theorem dX12_fits_20 : decode cX12_fits 20 = .ok (.if_icmp .ne 8, 3) := by decide +kernel
theorem dX12_fits_23 : decode cX12_fits 23 = .ok (.aload_n 0, 1) := by decide +kernel
theorem dX12_fits_24 : decode cX12_fits 24 = .ok (.getfield 501, 3) := by decide +kernel
theorem dX12_fits_27 : decode cX12_fits 27 = .ok (.ireturn, 1) := by decide +kernel
theorem dX12_fits_28 : decode cX12_fits 28 = .ok (.iconst 0, 1) := by decide +kernel
theorem dX12_fits_29 : decode cX12_fits 29 = .ok (.istore_n 2, 1) := by decide +kernel
theorem dX12_fits_30 : decode cX12_fits 30 = .ok (.iconst 0, 1) := by decide +kernel
theorem dX12_fits_31 : decode cX12_fits 31 = .ok (.istore_n 3, 1) := by decide +kernel
theorem dX12_fits_32 : decode cX12_fits 32 = .ok (.iload_n 3, 1) := by decide +kernel
theorem dX12_fits_33 : decode cX12_fits 33 = .ok (.aload_n 0, 1) := by decide +kernel
theorem dX12_fits_34 : decode cX12_fits 34 = .ok (.getfield 483, 3) := by decide +kernel
theorem dX12_fits_37 : decode cX12_fits 37 = .ok (.if_icmp .ge 31, 3) := by decide +kernel
theorem dX12_fits_40 : decode cX12_fits 40 = .ok (.aload_n 0, 1) := by decide +kernel
theorem dX12_fits_41 : decode cX12_fits 41 = .ok (.getfield 114, 3) := by decide +kernel
theorem dX12_fits_44 : decode cX12_fits 44 = .ok (.iload_n 3, 1) := by decide +kernel
theorem dX12_fits_45 : decode cX12_fits 45 = .ok (.baload, 1) := by decide +kernel
theorem dX12_fits_46 : decode cX12_fits 46 = .ok (.ifCond .ne 6, 3) := by decide +kernel
theorem dX12_fits_49 : decode cX12_fits 49 = .ok (.goto 13, 3) := by decide +kernel
theorem dX12_fits_52 : decode cX12_fits 52 = .ok (.iload_n 2, 1) := by decide +kernel
theorem dX12_fits_53 : decode cX12_fits 53 = .ok (.iload_n 1, 1) := by decide +kernel
theorem dX12_fits_54 : decode cX12_fits 54 = .ok (.if_icmp .ne 5, 3) := by decide +kernel
theorem dX12_fits_57 : decode cX12_fits 57 = .ok (.iload_n 3, 1) := by decide +kernel
theorem dX12_fits_58 : decode cX12_fits 58 = .ok (.ireturn, 1) := by decide +kernel
theorem dX12_fits_59 : decode cX12_fits 59 = .ok (.iinc 2 1, 3) := by decide +kernel
theorem dX12_fits_62 : decode cX12_fits 62 = .ok (.iinc 3 1, 3) := by decide +kernel
theorem dX12_fits_65 : decode cX12_fits 65 = .ok (.goto (-33), 3) := by decide +kernel
theorem dX12_fits_68 : decode cX12_fits 68 = .ok (.iconst (-1), 1) := by decide +kernel
theorem dX12_fits_69 : decode cX12_fits 69 = .ok (.ireturn, 1) := by decide +kernel
theorem dX12_mostAt_0 : decode cX12_mostAt 0 = .ok (.iconst 0, 1) := by decide +kernel
theorem dX12_mostAt_1 : decode cX12_mostAt 1 = .ok (.istore_n 2, 1) := by decide +kernel
theorem dX12_mostAt_2 : decode cX12_mostAt 2 = .ok (.iconst 0, 1) := by decide +kernel
theorem dX12_mostAt_3 : decode cX12_mostAt 3 = .ok (.istore_n 3, 1) := by decide +kernel
theorem dX12_mostAt_4 : decode cX12_mostAt 4 = .ok (.iload_n 3, 1) := by decide +kernel
theorem dX12_mostAt_5 : decode cX12_mostAt 5 = .ok (.bipush 26, 2) := by decide +kernel
theorem dX12_mostAt_7 : decode cX12_mostAt 7 = .ok (.if_icmp .gt 63, 3) := by decide +kernel
theorem dX12_mostAt_10 : decode cX12_mostAt 10 = .ok (.iconst 0, 1) := by decide +kernel
theorem dX12_mostAt_11 : decode cX12_mostAt 11 = .ok (.istore 4, 2) := by decide +kernel
theorem dX12_mostAt_13 : decode cX12_mostAt 13 = .ok (.iconst 0, 1) := by decide +kernel
theorem dX12_mostAt_14 : decode cX12_mostAt 14 = .ok (.istore 5, 2) := by decide +kernel
theorem dX12_mostAt_16 : decode cX12_mostAt 16 = .ok (.iload 5, 2) := by decide +kernel
theorem dX12_mostAt_18 : decode cX12_mostAt 18 = .ok (.aload_n 0, 1) := by decide +kernel
theorem dX12_mostAt_19 : decode cX12_mostAt 19 = .ok (.getfield 483, 3) := by decide +kernel
theorem dX12_mostAt_22 : decode cX12_mostAt 22 = .ok (.if_icmp .ge 33, 3) := by decide +kernel
theorem dX12_mostAt_25 : decode cX12_mostAt 25 = .ok (.aload_n 0, 1) := by decide +kernel
theorem dX12_mostAt_26 : decode cX12_mostAt 26 = .ok (.getfield 114, 3) := by decide +kernel
theorem dX12_mostAt_29 : decode cX12_mostAt 29 = .ok (.iload 5, 2) := by decide +kernel
theorem dX12_mostAt_31 : decode cX12_mostAt 31 = .ok (.baload, 1) := by decide +kernel
theorem dX12_mostAt_32 : decode cX12_mostAt 32 = .ok (.ifCond .eq 17, 3) := by decide +kernel
theorem dX12_mostAt_35 : decode cX12_mostAt 35 = .ok (.aload_n 0, 1) := by decide +kernel
theorem dX12_mostAt_36 : decode cX12_mostAt 36 = .ok (.iload 5, 2) := by decide +kernel
theorem dX12_mostAt_38 : decode cX12_mostAt 38 = .ok (.iload_n 1, 1) := by decide +kernel
theorem dX12_mostAt_39 : decode cX12_mostAt 39 = .ok (.invokevirtual 489, 3) := by decide +kernel
theorem dX12_mostAt_42 : decode cX12_mostAt 42 = .ok (.iload_n 3, 1) := by decide +kernel
theorem dX12_mostAt_43 : decode cX12_mostAt 43 = .ok (.if_icmp .ne 6, 3) := by decide +kernel
theorem dX12_mostAt_46 : decode cX12_mostAt 46 = .ok (.iinc 4 1, 3) := by decide +kernel
theorem dX12_mostAt_49 : decode cX12_mostAt 49 = .ok (.iinc 5 1, 3) := by decide +kernel
theorem dX12_mostAt_52 : decode cX12_mostAt 52 = .ok (.goto (-36), 3) := by decide +kernel
theorem dX12_mostAt_55 : decode cX12_mostAt 55 = .ok (.iload 4, 2) := by decide +kernel
theorem dX12_mostAt_57 : decode cX12_mostAt 57 = .ok (.iload_n 2, 1) := by decide +kernel
theorem dX12_mostAt_58 : decode cX12_mostAt 58 = .ok (.if_icmp .le 6, 3) := by decide +kernel
theorem dX12_mostAt_61 : decode cX12_mostAt 61 = .ok (.iload 4, 2) := by decide +kernel
theorem dX12_mostAt_63 : decode cX12_mostAt 63 = .ok (.istore_n 2, 1) := by decide +kernel
theorem dX12_mostAt_64 : decode cX12_mostAt 64 = .ok (.iinc 3 1, 3) := by decide +kernel
theorem dX12_mostAt_67 : decode cX12_mostAt 67 = .ok (.goto (-63), 3) := by decide +kernel
theorem dX12_mostAt_70 : decode cX12_mostAt 70 = .ok (.iload_n 2, 1) := by decide +kernel
theorem dX12_mostAt_71 : decode cX12_mostAt 71 = .ok (.ireturn, 1) := by decide +kernel
theorem dX12_tells_0 : decode cX12_tells 0 = .ok (.aload_n 0, 1) := by decide +kernel
theorem dX12_tells_1 : decode cX12_tells 1 = .ok (.getfield 211, 3) := by decide +kernel
theorem dX12_tells_4 : decode cX12_tells 4 = .ok (.ifCond .eq 13, 3) := by decide +kernel
theorem dX12_tells_7 : decode cX12_tells 7 = .ok (.iload_n 1, 1) := by decide +kernel
theorem dX12_tells_8 : decode cX12_tells 8 = .ok (.i2l, 1) := by decide +kernel
theorem dX12_tells_9 : decode cX12_tells 9 = .ok (.lconst 0, 1) := by decide +kernel
theorem dX12_tells_10 : decode cX12_tells 10 = .ok (.lconst 1, 1) := by decide +kernel
theorem dX12_tells_11 : decode cX12_tells 11 = .ok (.invokestatic 139, 3) := by decide +kernel
theorem dX12_tells_14 : decode cX12_tells 14 = .ok (.ifCond .ne 5, 3) := by decide +kernel
theorem dX12_tells_17 : decode cX12_tells 17 = .ok (.iconst (-1), 1) := by decide +kernel
theorem dX12_tells_18 : decode cX12_tells 18 = .ok (.ireturn, 1) := by decide +kernel
theorem dX12_tells_19 : decode cX12_tells 19 = .ok (.aload_n 0, 1) := by decide +kernel
theorem dX12_tells_20 : decode cX12_tells 20 = .ok (.invokevirtual 504, 3) := by decide +kernel
theorem dX12_tells_23 : decode cX12_tells 23 = .ok (.aload_n 0, 1) := by decide +kernel
theorem dX12_tells_24 : decode cX12_tells 24 = .ok (.getfield 501, 3) := by decide +kernel
theorem dX12_tells_27 : decode cX12_tells 27 = .ok (.ifCond .ne 5, 3) := by decide +kernel
theorem dX12_tells_30 : decode cX12_tells 30 = .ok (.iconst (-1), 1) := by decide +kernel
theorem dX12_tells_31 : decode cX12_tells 31 = .ok (.ireturn, 1) := by decide +kernel
theorem dX12_tells_32 : decode cX12_tells 32 = .ok (.iconst 0, 1) := by decide +kernel
theorem dX12_tells_33 : decode cX12_tells 33 = .ok (.istore_n 2, 1) := by decide +kernel
theorem dX12_tells_34 : decode cX12_tells 34 = .ok (.iconst 1, 1) := by decide +kernel
theorem dX12_tells_35 : decode cX12_tells 35 = .ok (.istore_n 3, 1) := by decide +kernel
theorem dX12_tells_36 : decode cX12_tells 36 = .ok (.iload_n 3, 1) := by decide +kernel
theorem dX12_tells_37 : decode cX12_tells 37 = .ok (.sipush 240, 3) := by decide +kernel
theorem dX12_tells_40 : decode cX12_tells 40 = .ok (.if_icmp .ge 24, 3) := by decide +kernel
theorem dX12_tells_43 : decode cX12_tells 43 = .ok (.aload_n 0, 1) := by decide +kernel
theorem dX12_tells_44 : decode cX12_tells 44 = .ok (.iload_n 3, 1) := by decide +kernel
theorem dX12_tells_45 : decode cX12_tells 45 = .ok (.invokevirtual 507, 3) := by decide +kernel
theorem dX12_tells_48 : decode cX12_tells 48 = .ok (.aload_n 0, 1) := by decide +kernel
theorem dX12_tells_49 : decode cX12_tells 49 = .ok (.iload_n 2, 1) := by decide +kernel
theorem dX12_tells_50 : decode cX12_tells 50 = .ok (.invokevirtual 507, 3) := by decide +kernel
theorem dX12_tells_53 : decode cX12_tells 53 = .ok (.if_icmp .ge 5, 3) := by decide +kernel
theorem dX12_tells_56 : decode cX12_tells 56 = .ok (.iload_n 3, 1) := by decide +kernel
theorem dX12_tells_57 : decode cX12_tells 57 = .ok (.istore_n 2, 1) := by decide +kernel
theorem dX12_tells_58 : decode cX12_tells 58 = .ok (.iinc 3 1, 3) := by decide +kernel
theorem dX12_tells_61 : decode cX12_tells 61 = .ok (.goto (-25), 3) := by decide +kernel
theorem dX12_tells_64 : decode cX12_tells 64 = .ok (.iload_n 1, 1) := by decide +kernel
theorem dX12_tells_65 : decode cX12_tells 65 = .ok (.ifCond .ne 7, 3) := by decide +kernel
theorem dX12_tells_68 : decode cX12_tells 68 = .ok (.iload_n 2, 1) := by decide +kernel
theorem dX12_tells_69 : decode cX12_tells 69 = .ok (.goto 8, 3) := by decide +kernel
theorem dX12_tells_72 : decode cX12_tells 72 = .ok (.aload_n 0, 1) := by decide +kernel
theorem dX12_tells_73 : decode cX12_tells 73 = .ok (.iload_n 2, 1) := by decide +kernel
theorem dX12_tells_74 : decode cX12_tells 74 = .ok (.invokevirtual 507, 3) := by decide +kernel
theorem dX12_tells_77 : decode cX12_tells 77 = .ok (.ireturn, 1) := by decide +kernel
theorem dX12_keeps_0 : decode cX12_keeps 0 = .ok (.aload_n 0, 1) := by decide +kernel
theorem dX12_keeps_1 : decode cX12_keeps 1 = .ok (.aload_n 0, 1) := by decide +kernel
theorem dX12_keeps_2 : decode cX12_keeps 2 = .ok (.getfield 510, 3) := by decide +kernel
theorem dX12_keeps_5 : decode cX12_keeps 5 = .ok (.iconst 1, 1) := by decide +kernel
theorem dX12_keeps_6 : decode cX12_keeps 6 = .ok (.iadd, 1) := by decide +kernel
theorem dX12_keeps_7 : decode cX12_keeps 7 = .ok (.bipush 20, 2) := by decide +kernel
theorem dX12_keeps_9 : decode cX12_keeps 9 = .ok (.irem, 1) := by decide +kernel
theorem dX12_keeps_10 : decode cX12_keeps 10 = .ok (.putfield 510, 3) := by decide +kernel
theorem dX12_keeps_13 : decode cX12_keeps 13 = .ok (.iconst 0, 1) := by decide +kernel
theorem dX12_keeps_14 : decode cX12_keeps 14 = .ok (.istore_n 1, 1) := by decide +kernel
theorem dX12_keeps_15 : decode cX12_keeps 15 = .ok (.iload_n 1, 1) := by decide +kernel
theorem dX12_keeps_16 : decode cX12_keeps 16 = .ok (.sipush 10476, 3) := by decide +kernel
theorem dX12_keeps_19 : decode cX12_keeps 19 = .ok (.if_icmp .ge 30, 3) := by decide +kernel
theorem dX12_keeps_22 : decode cX12_keeps 22 = .ok (.aload_n 0, 1) := by decide +kernel
theorem dX12_keeps_23 : decode cX12_keeps 23 = .ok (.getfield 119, 3) := by decide +kernel
theorem dX12_keeps_26 : decode cX12_keeps 26 = .ok (.sipush 10476, 3) := by decide +kernel
theorem dX12_keeps_29 : decode cX12_keeps 29 = .ok (.aload_n 0, 1) := by decide +kernel
theorem dX12_keeps_30 : decode cX12_keeps 30 = .ok (.getfield 510, 3) := by decide +kernel
theorem dX12_keeps_33 : decode cX12_keeps 33 = .ok (.imul, 1) := by decide +kernel
theorem dX12_keeps_34 : decode cX12_keeps 34 = .ok (.iload_n 1, 1) := by decide +kernel
theorem dX12_keeps_35 : decode cX12_keeps 35 = .ok (.iadd, 1) := by decide +kernel
theorem dX12_keeps_36 : decode cX12_keeps 36 = .ok (.aload_n 0, 1) := by decide +kernel
theorem dX12_keeps_37 : decode cX12_keeps 37 = .ok (.getfield 69, 3) := by decide +kernel
theorem dX12_keeps_40 : decode cX12_keeps 40 = .ok (.iload_n 1, 1) := by decide +kernel
theorem dX12_keeps_41 : decode cX12_keeps 41 = .ok (.iaload, 1) := by decide +kernel
theorem dX12_keeps_42 : decode cX12_keeps 42 = .ok (.iastore, 1) := by decide +kernel
theorem dX12_keeps_43 : decode cX12_keeps 43 = .ok (.iinc 1 1, 3) := by decide +kernel
theorem dX12_keeps_46 : decode cX12_keeps 46 = .ok (.goto (-31), 3) := by decide +kernel
theorem dX12_keeps_49 : decode cX12_keeps 49 = .ok (.aload_n 0, 1) := by decide +kernel
theorem dX12_keeps_50 : decode cX12_keeps 50 = .ok (.getfield 390, 3) := by decide +kernel
theorem dX12_keeps_53 : decode cX12_keeps 53 = .ok (.bipush 20, 2) := by decide +kernel
theorem dX12_keeps_55 : decode cX12_keeps 55 = .ok (.if_icmp .ge 13, 3) := by decide +kernel
theorem dX12_keeps_58 : decode cX12_keeps 58 = .ok (.aload_n 0, 1) := by decide +kernel
theorem dX12_keeps_59 : decode cX12_keeps 59 = .ok (.dup, 1) := by decide +kernel
theorem dX12_keeps_60 : decode cX12_keeps 60 = .ok (.getfield 390, 3) := by decide +kernel
theorem dX12_keeps_63 : decode cX12_keeps 63 = .ok (.iconst 1, 1) := by decide +kernel
theorem dX12_keeps_64 : decode cX12_keeps 64 = .ok (.iadd, 1) := by decide +kernel
theorem dX12_keeps_65 : decode cX12_keeps 65 = .ok (.putfield 390, 3) := by decide +kernel
theorem dX12_keeps_68 : decode cX12_keeps 68 = .ok (.return_, 1) := by decide +kernel
theorem dX12_back_0 : decode cX12_back 0 = .ok (.aload_n 0, 1) := by decide +kernel
theorem dX12_back_1 : decode cX12_back 1 = .ok (.getfield 390, 3) := by decide +kernel
theorem dX12_back_4 : decode cX12_back 4 = .ok (.ifCond .ne 9, 3) := by decide +kernel
theorem dX12_back_7 : decode cX12_back 7 = .ok (.aload_n 0, 1) := by decide +kernel
theorem dX12_back_8 : decode cX12_back 8 = .ok (.iconst 5, 1) := by decide +kernel
theorem dX12_back_9 : decode cX12_back 9 = .ok (.invokevirtual 133, 3) := by decide +kernel
theorem dX12_back_12 : decode cX12_back 12 = .ok (.ireturn, 1) := by decide +kernel
theorem dX12_back_13 : decode cX12_back 13 = .ok (.iconst 0, 1) := by decide +kernel
theorem dX12_back_14 : decode cX12_back 14 = .ok (.istore_n 1, 1) := by decide +kernel
theorem dX12_back_15 : decode cX12_back 15 = .ok (.iload_n 1, 1) := by decide +kernel
theorem dX12_back_16 : decode cX12_back 16 = .ok (.sipush 10476, 3) := by decide +kernel
theorem dX12_back_19 : decode cX12_back 19 = .ok (.if_icmp .ge 30, 3) := by decide +kernel
theorem dX12_back_22 : decode cX12_back 22 = .ok (.aload_n 0, 1) := by decide +kernel
theorem dX12_back_23 : decode cX12_back 23 = .ok (.getfield 69, 3) := by decide +kernel
theorem dX12_back_26 : decode cX12_back 26 = .ok (.iload_n 1, 1) := by decide +kernel
theorem dX12_back_27 : decode cX12_back 27 = .ok (.aload_n 0, 1) := by decide +kernel
theorem dX12_back_28 : decode cX12_back 28 = .ok (.getfield 119, 3) := by decide +kernel
theorem dX12_back_31 : decode cX12_back 31 = .ok (.sipush 10476, 3) := by decide +kernel
theorem dX12_back_34 : decode cX12_back 34 = .ok (.aload_n 0, 1) := by decide +kernel
theorem dX12_back_35 : decode cX12_back 35 = .ok (.getfield 510, 3) := by decide +kernel
theorem dX12_back_38 : decode cX12_back 38 = .ok (.imul, 1) := by decide +kernel
theorem dX12_back_39 : decode cX12_back 39 = .ok (.iload_n 1, 1) := by decide +kernel
theorem dX12_back_40 : decode cX12_back 40 = .ok (.iadd, 1) := by decide +kernel
theorem dX12_back_41 : decode cX12_back 41 = .ok (.iaload, 1) := by decide +kernel
theorem dX12_back_42 : decode cX12_back 42 = .ok (.iastore, 1) := by decide +kernel
theorem dX12_back_43 : decode cX12_back 43 = .ok (.iinc 1 1, 3) := by decide +kernel
theorem dX12_back_46 : decode cX12_back 46 = .ok (.goto (-31), 3) := by decide +kernel
theorem dX12_back_49 : decode cX12_back 49 = .ok (.aload_n 0, 1) := by decide +kernel
theorem dX12_back_50 : decode cX12_back 50 = .ok (.aload_n 0, 1) := by decide +kernel
theorem dX12_back_51 : decode cX12_back 51 = .ok (.getfield 510, 3) := by decide +kernel
theorem dX12_back_54 : decode cX12_back 54 = .ok (.bipush 20, 2) := by decide +kernel
theorem dX12_back_56 : decode cX12_back 56 = .ok (.iadd, 1) := by decide +kernel
theorem dX12_back_57 : decode cX12_back 57 = .ok (.iconst 1, 1) := by decide +kernel
theorem dX12_back_58 : decode cX12_back 58 = .ok (.isub, 1) := by decide +kernel
theorem dX12_back_59 : decode cX12_back 59 = .ok (.bipush 20, 2) := by decide +kernel
theorem dX12_back_61 : decode cX12_back 61 = .ok (.irem, 1) := by decide +kernel
theorem dX12_back_62 : decode cX12_back 62 = .ok (.putfield 510, 3) := by decide +kernel
theorem dX12_back_65 : decode cX12_back 65 = .ok (.aload_n 0, 1) := by decide +kernel
theorem dX12_back_66 : decode cX12_back 66 = .ok (.dup, 1) := by decide +kernel
theorem dX12_back_67 : decode cX12_back 67 = .ok (.getfield 390, 3) := by decide +kernel
theorem dX12_back_70 : decode cX12_back 70 = .ok (.iconst 1, 1) := by decide +kernel
theorem dX12_back_71 : decode cX12_back 71 = .ok (.isub, 1) := by decide +kernel
theorem dX12_back_72 : decode cX12_back 72 = .ok (.putfield 390, 3) := by decide +kernel
theorem dX12_back_75 : decode cX12_back 75 = .ok (.iconst 1, 1) := by decide +kernel
theorem dX12_back_76 : decode cX12_back 76 = .ok (.ireturn, 1) := by decide +kernel
theorem dX12_editDone_0 : decode cX12_editDone 0 = .ok (.aload_n 0, 1) := by decide +kernel
theorem dX12_editDone_1 : decode cX12_editDone 1 = .ok (.invokevirtual 405, 3) := by decide +kernel
theorem dX12_editDone_4 : decode cX12_editDone 4 = .ok (.ifCond .ne 9, 3) := by decide +kernel
theorem dX12_editDone_7 : decode cX12_editDone 7 = .ok (.aload_n 0, 1) := by decide +kernel
theorem dX12_editDone_8 : decode cX12_editDone 8 = .ok (.iconst 2, 1) := by decide +kernel
theorem dX12_editDone_9 : decode cX12_editDone 9 = .ok (.invokevirtual 129, 3) := by decide +kernel
theorem dX12_editDone_12 : decode cX12_editDone 12 = .ok (.ireturn, 1) := by decide +kernel
theorem dX12_editDone_13 : decode cX12_editDone 13 = .ok (.aload_n 0, 1) := by decide +kernel
theorem dX12_editDone_14 : decode cX12_editDone 14 = .ok (.invokevirtual 513, 3) := by decide +kernel
theorem dX12_editDone_17 : decode cX12_editDone 17 = .ok (.aload_n 0, 1) := by decide +kernel
theorem dX12_editDone_18 : decode cX12_editDone 18 = .ok (.iload_n 1, 1) := by decide +kernel
theorem dX12_editDone_19 : decode cX12_editDone 19 = .ok (.iload_n 2, 1) := by decide +kernel
theorem dX12_editDone_20 : decode cX12_editDone 20 = .ok (.invokevirtual 409, 3) := by decide +kernel
theorem dX12_editDone_23 : decode cX12_editDone 23 = .ok (.aload_n 0, 1) := by decide +kernel
theorem dX12_editDone_24 : decode cX12_editDone 24 = .ok (.iload_n 1, 1) := by decide +kernel
theorem dX12_editDone_25 : decode cX12_editDone 25 = .ok (.bipush 21, 2) := by decide +kernel
theorem dX12_editDone_27 : decode cX12_editDone 27 = .ok (.invokevirtual 246, 3) := by decide +kernel
theorem dX12_editDone_30 : decode cX12_editDone 30 = .ok (.ireturn, 1) := by decide +kernel
theorem dX12_edit_0 : decode cX12_edit 0 = .ok (.aload_n 0, 1) := by decide +kernel
theorem dX12_edit_1 : decode cX12_edit 1 = .ok (.iload_n 1, 1) := by decide +kernel
theorem dX12_edit_2 : decode cX12_edit 2 = .ok (.invokevirtual 431, 3) := by decide +kernel
theorem dX12_edit_5 : decode cX12_edit 5 = .ok (.ifCond .ne 14, 3) := by decide +kernel
theorem dX12_edit_8 : decode cX12_edit 8 = .ok (.aload_n 0, 1) := by decide +kernel
theorem dX12_edit_9 : decode cX12_edit 9 = .ok (.iconst 0, 1) := by decide +kernel
theorem dX12_edit_10 : decode cX12_edit 10 = .ok (.putfield 126, 3) := by decide +kernel
theorem dX12_edit_13 : decode cX12_edit 13 = .ok (.aload_n 0, 1) := by decide +kernel
theorem dX12_edit_14 : decode cX12_edit 14 = .ok (.iconst 2, 1) := by decide +kernel
theorem dX12_edit_15 : decode cX12_edit 15 = .ok (.invokevirtual 129, 3) := by decide +kernel
theorem dX12_edit_18 : decode cX12_edit 18 = .ok (.ireturn, 1) := by decide +kernel
theorem dX12_edit_19 : decode cX12_edit 19 = .ok (.aload_n 0, 1) := by decide +kernel
theorem dX12_edit_20 : decode cX12_edit 20 = .ok (.invokevirtual 372, 3) := by decide +kernel
theorem dX12_edit_23 : decode cX12_edit 23 = .ok (.aload_n 0, 1) := by decide +kernel
theorem dX12_edit_24 : decode cX12_edit 24 = .ok (.iconst 1, 1) := by decide +kernel
theorem dX12_edit_25 : decode cX12_edit 25 = .ok (.invokevirtual 363, 3) := by decide +kernel
theorem dX12_edit_28 : decode cX12_edit 28 = .ok (.aload_n 0, 1) := by decide +kernel
theorem dX12_edit_29 : decode cX12_edit 29 = .ok (.aload_n 0, 1) := by decide +kernel
theorem dX12_edit_30 : decode cX12_edit 30 = .ok (.getfield 149, 3) := by decide +kernel
theorem dX12_edit_33 : decode cX12_edit 33 = .ok (.putfield 143, 3) := by decide +kernel
theorem dX12_edit_36 : decode cX12_edit 36 = .ok (.aload_n 0, 1) := by decide +kernel
theorem dX12_edit_37 : decode cX12_edit 37 = .ok (.aload_n 0, 1) := by decide +kernel
theorem dX12_edit_38 : decode cX12_edit 38 = .ok (.getfield 152, 3) := by decide +kernel
theorem dX12_edit_41 : decode cX12_edit 41 = .ok (.putfield 13, 3) := by decide +kernel
theorem dX12_edit_44 : decode cX12_edit 44 = .ok (.aload_n 0, 1) := by decide +kernel
theorem dX12_edit_45 : decode cX12_edit 45 = .ok (.getfield 149, 3) := by decide +kernel
theorem dX12_edit_48 : decode cX12_edit 48 = .ok (.ifCond .eq 9, 3) := by decide +kernel
theorem dX12_edit_51 : decode cX12_edit 51 = .ok (.aload_n 0, 1) := by decide +kernel
theorem dX12_edit_52 : decode cX12_edit 52 = .ok (.iconst 2, 1) := by decide +kernel
theorem dX12_edit_53 : decode cX12_edit 53 = .ok (.invokevirtual 129, 3) := by decide +kernel
theorem dX12_edit_56 : decode cX12_edit 56 = .ok (.ireturn, 1) := by decide +kernel
theorem dX12_edit_57 : decode cX12_edit 57 = .ok (.aload_n 0, 1) := by decide +kernel
theorem dX12_edit_58 : decode cX12_edit 58 = .ok (.iconst 0, 1) := by decide +kernel
theorem dX12_edit_59 : decode cX12_edit 59 = .ok (.invokevirtual 155, 3) := by decide +kernel
theorem dX12_edit_62 : decode cX12_edit 62 = .ok (.aload_n 0, 1) := by decide +kernel
theorem dX12_edit_63 : decode cX12_edit 63 = .ok (.iload_n 1, 1) := by decide +kernel
theorem dX12_edit_64 : decode cX12_edit 64 = .ok (.invokevirtual 402, 3) := by decide +kernel
theorem dX12_edit_67 : decode cX12_edit 67 = .ok (.ifCond .eq 12, 3) := by decide +kernel
theorem dX12_edit_70 : decode cX12_edit 70 = .ok (.aload_n 0, 1) := by decide +kernel
theorem dX12_edit_71 : decode cX12_edit 71 = .ok (.iload_n 1, 1) := by decide +kernel
theorem dX12_edit_72 : decode cX12_edit 72 = .ok (.iconst 0, 1) := by decide +kernel
theorem dX12_edit_73 : decode cX12_edit 73 = .ok (.invokevirtual 516, 3) := by decide +kernel
theorem dX12_edit_76 : decode cX12_edit 76 = .ok (.goto 8, 3) := by decide +kernel
theorem dX12_edit_79 : decode cX12_edit 79 = .ok (.aload_n 0, 1) := by decide +kernel
theorem dX12_edit_80 : decode cX12_edit 80 = .ok (.iconst 2, 1) := by decide +kernel
theorem dX12_edit_81 : decode cX12_edit 81 = .ok (.invokevirtual 129, 3) := by decide +kernel
theorem dX12_edit_84 : decode cX12_edit 84 = .ok (.ireturn, 1) := by decide +kernel
theorem dX12_laysA_0 : decode cX12_laysA 0 = .ok (.aload_n 0, 1) := by decide +kernel
theorem dX12_laysA_1 : decode cX12_laysA 1 = .ok (.iconst 0, 1) := by decide +kernel
theorem dX12_laysA_2 : decode cX12_laysA 2 = .ok (.putfield 195, 3) := by decide +kernel
theorem dX12_laysA_5 : decode cX12_laysA 5 = .ok (.iconst 0, 1) := by decide +kernel
theorem dX12_laysA_6 : decode cX12_laysA 6 = .ok (.istore 5, 2) := by decide +kernel
theorem dX12_laysA_8 : decode cX12_laysA 8 = .ok (.iload 5, 2) := by decide +kernel
theorem dX12_laysA_10 : decode cX12_laysA 10 = .ok (.iload_n 2, 1) := by decide +kernel
theorem dX12_laysA_11 : decode cX12_laysA 11 = .ok (.if_icmp .ge 14, 3) := by decide +kernel
theorem dX12_laysA_14 : decode cX12_laysA 14 = .ok (.aload_n 0, 1) := by decide +kernel
theorem dX12_laysA_15 : decode cX12_laysA 15 = .ok (.iconst 0, 1) := by decide +kernel
theorem dX12_laysA_16 : decode cX12_laysA 16 = .ok (.invokevirtual 422, 3) := by decide +kernel
theorem dX12_laysA_19 : decode cX12_laysA 19 = .ok (.iinc 5 1, 3) := by decide +kernel
theorem dX12_laysA_22 : decode cX12_laysA 22 = .ok (.goto (-14), 3) := by decide +kernel
theorem dX12_laysA_25 : decode cX12_laysA 25 = .ok (.iload_n 3, 1) := by decide +kernel
theorem dX12_laysA_26 : decode cX12_laysA 26 = .ok (.ifCond .le 8, 3) := by decide +kernel
theorem dX12_laysA_29 : decode cX12_laysA 29 = .ok (.aload_n 0, 1) := by decide +kernel
theorem dX12_laysA_30 : decode cX12_laysA 30 = .ok (.iload_n 3, 1) := by decide +kernel
theorem dX12_laysA_31 : decode cX12_laysA 31 = .ok (.invokevirtual 422, 3) := by decide +kernel
theorem dX12_laysA_34 : decode cX12_laysA 34 = .ok (.iconst 0, 1) := by decide +kernel
theorem dX12_laysA_35 : decode cX12_laysA 35 = .ok (.istore 5, 2) := by decide +kernel
theorem dX12_laysA_37 : decode cX12_laysA 37 = .ok (.iload 5, 2) := by decide +kernel
theorem dX12_laysA_39 : decode cX12_laysA 39 = .ok (.iload 4, 2) := by decide +kernel
theorem dX12_laysA_41 : decode cX12_laysA 41 = .ok (.if_icmp .ge 14, 3) := by decide +kernel
theorem dX12_laysA_44 : decode cX12_laysA 44 = .ok (.aload_n 0, 1) := by decide +kernel
theorem dX12_laysA_45 : decode cX12_laysA 45 = .ok (.iconst (-1), 1) := by decide +kernel
theorem dX12_laysA_46 : decode cX12_laysA 46 = .ok (.invokevirtual 422, 3) := by decide +kernel
theorem dX12_laysA_49 : decode cX12_laysA 49 = .ok (.iinc 5 1, 3) := by decide +kernel
theorem dX12_laysA_52 : decode cX12_laysA 52 = .ok (.goto (-15), 3) := by decide +kernel
theorem dX12_laysA_55 : decode cX12_laysA 55 = .ok (.iload_n 2, 1) := by decide +kernel
theorem dX12_laysA_56 : decode cX12_laysA 56 = .ok (.iload 4, 2) := by decide +kernel
theorem dX12_laysA_58 : decode cX12_laysA 58 = .ok (.iadd, 1) := by decide +kernel
theorem dX12_laysA_59 : decode cX12_laysA 59 = .ok (.istore 5, 2) := by decide +kernel
theorem dX12_laysA_61 : decode cX12_laysA 61 = .ok (.iload 5, 2) := by decide +kernel
theorem dX12_laysA_63 : decode cX12_laysA 63 = .ok (.aload_n 0, 1) := by decide +kernel
theorem dX12_laysA_64 : decode cX12_laysA 64 = .ok (.iload_n 1, 1) := by decide +kernel
theorem dX12_laysA_65 : decode cX12_laysA 65 = .ok (.bipush 21, 2) := by decide +kernel
theorem dX12_laysA_67 : decode cX12_laysA 67 = .ok (.invokevirtual 246, 3) := by decide +kernel
theorem dX12_laysA_70 : decode cX12_laysA 70 = .ok (.if_icmp .ge 14, 3) := by decide +kernel
theorem dX12_laysA_73 : decode cX12_laysA 73 = .ok (.aload_n 0, 1) := by decide +kernel
theorem dX12_laysA_74 : decode cX12_laysA 74 = .ok (.iconst 0, 1) := by decide +kernel
theorem dX12_laysA_75 : decode cX12_laysA 75 = .ok (.invokevirtual 422, 3) := by decide +kernel
theorem dX12_laysA_78 : decode cX12_laysA 78 = .ok (.iinc 5 1, 3) := by decide +kernel
theorem dX12_laysA_81 : decode cX12_laysA 81 = .ok (.goto (-20), 3) := by decide +kernel
theorem dX12_laysA_84 : decode cX12_laysA 84 = .ok (.return_, 1) := by decide +kernel
theorem dX12_put_0 : decode cX12_put 0 = .ok (.aload_n 0, 1) := by decide +kernel
theorem dX12_put_1 : decode cX12_put 1 = .ok (.iload_n 1, 1) := by decide +kernel
theorem dX12_put_2 : decode cX12_put 2 = .ok (.invokevirtual 431, 3) := by decide +kernel
theorem dX12_put_5 : decode cX12_put 5 = .ok (.ifCond .eq 32, 3) := by decide +kernel
theorem dX12_put_8 : decode cX12_put 8 = .ok (.iload_n 3, 1) := by decide +kernel
theorem dX12_put_9 : decode cX12_put 9 = .ok (.i2l, 1) := by decide +kernel
theorem dX12_put_10 : decode cX12_put 10 = .ok (.lconst 1, 1) := by decide +kernel
theorem dX12_put_11 : decode cX12_put 11 = .ok (.ldc2_w 519, 3) := by decide +kernel
theorem dX12_put_14 : decode cX12_put 14 = .ok (.invokestatic 139, 3) := by decide +kernel
theorem dX12_put_17 : decode cX12_put 17 = .ok (.ifCond .eq 20, 3) := by decide +kernel
theorem dX12_put_20 : decode cX12_put 20 = .ok (.iload_n 2, 1) := by decide +kernel
theorem dX12_put_21 : decode cX12_put 21 = .ok (.i2l, 1) := by decide +kernel
theorem dX12_put_22 : decode cX12_put 22 = .ok (.lconst 0, 1) := by decide +kernel
theorem dX12_put_23 : decode cX12_put 23 = .ok (.aload_n 0, 1) := by decide +kernel
theorem dX12_put_24 : decode cX12_put 24 = .ok (.iload_n 1, 1) := by decide +kernel
theorem dX12_put_25 : decode cX12_put 25 = .ok (.bipush 21, 2) := by decide +kernel
theorem dX12_put_27 : decode cX12_put 27 = .ok (.invokevirtual 246, 3) := by decide +kernel
theorem dX12_put_30 : decode cX12_put 30 = .ok (.i2l, 1) := by decide +kernel
theorem dX12_put_31 : decode cX12_put 31 = .ok (.invokestatic 139, 3) := by decide +kernel
theorem dX12_put_34 : decode cX12_put 34 = .ok (.ifCond .ne 9, 3) := by decide +kernel
theorem dX12_put_37 : decode cX12_put 37 = .ok (.aload_n 0, 1) := by decide +kernel
theorem dX12_put_38 : decode cX12_put 38 = .ok (.iconst 2, 1) := by decide +kernel
theorem dX12_put_39 : decode cX12_put 39 = .ok (.invokevirtual 129, 3) := by decide +kernel
theorem dX12_put_42 : decode cX12_put 42 = .ok (.ireturn, 1) := by decide +kernel
theorem dX12_put_43 : decode cX12_put 43 = .ok (.aload_n 0, 1) := by decide +kernel
theorem dX12_put_44 : decode cX12_put 44 = .ok (.iload_n 1, 1) := by decide +kernel
theorem dX12_put_45 : decode cX12_put 45 = .ok (.iload_n 2, 1) := by decide +kernel
theorem dX12_put_46 : decode cX12_put 46 = .ok (.iload_n 3, 1) := by decide +kernel
theorem dX12_put_47 : decode cX12_put 47 = .ok (.iconst 0, 1) := by decide +kernel
theorem dX12_put_48 : decode cX12_put 48 = .ok (.invokevirtual 521, 3) := by decide +kernel
theorem dX12_put_51 : decode cX12_put 51 = .ok (.aload_n 0, 1) := by decide +kernel
theorem dX12_put_52 : decode cX12_put 52 = .ok (.iload_n 1, 1) := by decide +kernel
theorem dX12_put_53 : decode cX12_put 53 = .ok (.iconst 0, 1) := by decide +kernel
theorem dX12_put_54 : decode cX12_put 54 = .ok (.invokevirtual 516, 3) := by decide +kernel
theorem dX12_put_57 : decode cX12_put 57 = .ok (.ireturn, 1) := by decide +kernel
theorem dX12_cut_0 : decode cX12_cut 0 = .ok (.aload_n 0, 1) := by decide +kernel
theorem dX12_cut_1 : decode cX12_cut 1 = .ok (.iload_n 1, 1) := by decide +kernel
theorem dX12_cut_2 : decode cX12_cut 2 = .ok (.invokevirtual 431, 3) := by decide +kernel
theorem dX12_cut_5 : decode cX12_cut 5 = .ok (.ifCond .eq 39, 3) := by decide +kernel
theorem dX12_cut_8 : decode cX12_cut 8 = .ok (.iload_n 2, 1) := by decide +kernel
theorem dX12_cut_9 : decode cX12_cut 9 = .ok (.i2l, 1) := by decide +kernel
theorem dX12_cut_10 : decode cX12_cut 10 = .ok (.lconst 0, 1) := by decide +kernel
theorem dX12_cut_11 : decode cX12_cut 11 = .ok (.aload_n 0, 1) := by decide +kernel
theorem dX12_cut_12 : decode cX12_cut 12 = .ok (.iload_n 1, 1) := by decide +kernel
theorem dX12_cut_13 : decode cX12_cut 13 = .ok (.bipush 21, 2) := by decide +kernel
theorem dX12_cut_15 : decode cX12_cut 15 = .ok (.invokevirtual 246, 3) := by decide +kernel
theorem dX12_cut_18 : decode cX12_cut 18 = .ok (.i2l, 1) := by decide +kernel
theorem dX12_cut_19 : decode cX12_cut 19 = .ok (.invokestatic 139, 3) := by decide +kernel
theorem dX12_cut_22 : decode cX12_cut 22 = .ok (.ifCond .eq 22, 3) := by decide +kernel
theorem dX12_cut_25 : decode cX12_cut 25 = .ok (.iload_n 3, 1) := by decide +kernel
theorem dX12_cut_26 : decode cX12_cut 26 = .ok (.i2l, 1) := by decide +kernel
theorem dX12_cut_27 : decode cX12_cut 27 = .ok (.lconst 1, 1) := by decide +kernel
theorem dX12_cut_28 : decode cX12_cut 28 = .ok (.aload_n 0, 1) := by decide +kernel
theorem dX12_cut_29 : decode cX12_cut 29 = .ok (.iload_n 1, 1) := by decide +kernel
theorem dX12_cut_30 : decode cX12_cut 30 = .ok (.bipush 21, 2) := by decide +kernel
theorem dX12_cut_32 : decode cX12_cut 32 = .ok (.invokevirtual 246, 3) := by decide +kernel
theorem dX12_cut_35 : decode cX12_cut 35 = .ok (.iload_n 2, 1) := by decide +kernel
theorem dX12_cut_36 : decode cX12_cut 36 = .ok (.isub, 1) := by decide +kernel
theorem dX12_cut_37 : decode cX12_cut 37 = .ok (.i2l, 1) := by decide +kernel
theorem dX12_cut_38 : decode cX12_cut 38 = .ok (.invokestatic 139, 3) := by decide +kernel
theorem dX12_cut_41 : decode cX12_cut 41 = .ok (.ifCond .ne 9, 3) := by decide +kernel
theorem dX12_cut_44 : decode cX12_cut 44 = .ok (.aload_n 0, 1) := by decide +kernel
theorem dX12_cut_45 : decode cX12_cut 45 = .ok (.iconst 2, 1) := by decide +kernel
theorem dX12_cut_46 : decode cX12_cut 46 = .ok (.invokevirtual 129, 3) := by decide +kernel
theorem dX12_cut_49 : decode cX12_cut 49 = .ok (.ireturn, 1) := by decide +kernel
theorem dX12_cut_50 : decode cX12_cut 50 = .ok (.aload_n 0, 1) := by decide +kernel
theorem dX12_cut_51 : decode cX12_cut 51 = .ok (.iload_n 1, 1) := by decide +kernel
theorem dX12_cut_52 : decode cX12_cut 52 = .ok (.iload_n 2, 1) := by decide +kernel
theorem dX12_cut_53 : decode cX12_cut 53 = .ok (.iconst 0, 1) := by decide +kernel
theorem dX12_cut_54 : decode cX12_cut 54 = .ok (.iload_n 3, 1) := by decide +kernel
theorem dX12_cut_55 : decode cX12_cut 55 = .ok (.invokevirtual 521, 3) := by decide +kernel
theorem dX12_cut_58 : decode cX12_cut 58 = .ok (.aload_n 0, 1) := by decide +kernel
theorem dX12_cut_59 : decode cX12_cut 59 = .ok (.iload_n 1, 1) := by decide +kernel
theorem dX12_cut_60 : decode cX12_cut 60 = .ok (.iconst 0, 1) := by decide +kernel
theorem dX12_cut_61 : decode cX12_cut 61 = .ok (.invokevirtual 516, 3) := by decide +kernel
theorem dX12_cut_64 : decode cX12_cut 64 = .ok (.ireturn, 1) := by decide +kernel
theorem dX12_type_0 : decode cX12_type 0 = .ok (.aload_n 0, 1) := by decide +kernel
theorem dX12_type_1 : decode cX12_type 1 = .ok (.iload_n 1, 1) := by decide +kernel
theorem dX12_type_2 : decode cX12_type 2 = .ok (.invokevirtual 431, 3) := by decide +kernel
theorem dX12_type_5 : decode cX12_type 5 = .ok (.ifCond .eq 28, 3) := by decide +kernel
theorem dX12_type_8 : decode cX12_type 8 = .ok (.iload_n 2, 1) := by decide +kernel
theorem dX12_type_9 : decode cX12_type 9 = .ok (.i2l, 1) := by decide +kernel
theorem dX12_type_10 : decode cX12_type 10 = .ok (.lconst 0, 1) := by decide +kernel
theorem dX12_type_11 : decode cX12_type 11 = .ok (.ldc2_w 519, 3) := by decide +kernel
theorem dX12_type_14 : decode cX12_type 14 = .ok (.invokestatic 139, 3) := by decide +kernel
theorem dX12_type_17 : decode cX12_type 17 = .ok (.ifCond .eq 16, 3) := by decide +kernel
theorem dX12_type_20 : decode cX12_type 20 = .ok (.iload_n 2, 1) := by decide +kernel
theorem dX12_type_21 : decode cX12_type 21 = .ok (.ifCond .ne 18, 3) := by decide +kernel
theorem dX12_type_24 : decode cX12_type 24 = .ok (.aload_n 0, 1) := by decide +kernel
theorem dX12_type_25 : decode cX12_type 25 = .ok (.iload_n 1, 1) := by decide +kernel
theorem dX12_type_26 : decode cX12_type 26 = .ok (.iconst 1, 1) := by decide +kernel
theorem dX12_type_27 : decode cX12_type 27 = .ok (.invokevirtual 246, 3) := by decide +kernel
theorem dX12_type_30 : decode cX12_type 30 = .ok (.ifCond .ne 9, 3) := by decide +kernel
theorem dX12_type_33 : decode cX12_type 33 = .ok (.aload_n 0, 1) := by decide +kernel
theorem dX12_type_34 : decode cX12_type 34 = .ok (.iconst 2, 1) := by decide +kernel
theorem dX12_type_35 : decode cX12_type 35 = .ok (.invokevirtual 129, 3) := by decide +kernel
theorem dX12_type_38 : decode cX12_type 38 = .ok (.ireturn, 1) := by decide +kernel
theorem dX12_type_39 : decode cX12_type 39 = .ok (.iload_n 2, 1) := by decide +kernel
theorem dX12_type_40 : decode cX12_type 40 = .ok (.ifCond .le 19, 3) := by decide +kernel
theorem dX12_type_43 : decode cX12_type 43 = .ok (.aload_n 0, 1) := by decide +kernel
theorem dX12_type_44 : decode cX12_type 44 = .ok (.iload_n 1, 1) := by decide +kernel
theorem dX12_type_45 : decode cX12_type 45 = .ok (.aload_n 0, 1) := by decide +kernel
theorem dX12_type_46 : decode cX12_type 46 = .ok (.iload_n 1, 1) := by decide +kernel
theorem dX12_type_47 : decode cX12_type 47 = .ok (.iconst 1, 1) := by decide +kernel
theorem dX12_type_48 : decode cX12_type 48 = .ok (.invokevirtual 246, 3) := by decide +kernel
theorem dX12_type_51 : decode cX12_type 51 = .ok (.iload_n 2, 1) := by decide +kernel
theorem dX12_type_52 : decode cX12_type 52 = .ok (.iconst 0, 1) := by decide +kernel
theorem dX12_type_53 : decode cX12_type 53 = .ok (.invokevirtual 521, 3) := by decide +kernel
theorem dX12_type_56 : decode cX12_type 56 = .ok (.goto 18, 3) := by decide +kernel
theorem dX12_type_59 : decode cX12_type 59 = .ok (.aload_n 0, 1) := by decide +kernel
theorem dX12_type_60 : decode cX12_type 60 = .ok (.iload_n 1, 1) := by decide +kernel
theorem dX12_type_61 : decode cX12_type 61 = .ok (.aload_n 0, 1) := by decide +kernel
theorem dX12_type_62 : decode cX12_type 62 = .ok (.iload_n 1, 1) := by decide +kernel
theorem dX12_type_63 : decode cX12_type 63 = .ok (.iconst 1, 1) := by decide +kernel
theorem dX12_type_64 : decode cX12_type 64 = .ok (.invokevirtual 246, 3) := by decide +kernel
theorem dX12_type_67 : decode cX12_type 67 = .ok (.iconst 1, 1) := by decide +kernel
theorem dX12_type_68 : decode cX12_type 68 = .ok (.isub, 1) := by decide +kernel
theorem dX12_type_69 : decode cX12_type 69 = .ok (.iconst 0, 1) := by decide +kernel
theorem dX12_type_70 : decode cX12_type 70 = .ok (.iconst 1, 1) := by decide +kernel
theorem dX12_type_71 : decode cX12_type 71 = .ok (.invokevirtual 521, 3) := by decide +kernel
theorem dX12_type_74 : decode cX12_type 74 = .ok (.aload_n 0, 1) := by decide +kernel
theorem dX12_type_75 : decode cX12_type 75 = .ok (.iload_n 1, 1) := by decide +kernel
theorem dX12_type_76 : decode cX12_type 76 = .ok (.iconst 0, 1) := by decide +kernel
theorem dX12_type_77 : decode cX12_type 77 = .ok (.invokevirtual 516, 3) := by decide +kernel
theorem dX12_type_80 : decode cX12_type 80 = .ok (.iconst (-1), 1) := by decide +kernel
theorem dX12_type_81 : decode cX12_type 81 = .ok (.if_icmp .ne 7, 3) := by decide +kernel
theorem dX12_type_84 : decode cX12_type 84 = .ok (.iconst (-1), 1) := by decide +kernel
theorem dX12_type_85 : decode cX12_type 85 = .ok (.goto 9, 3) := by decide +kernel
theorem dX12_type_88 : decode cX12_type 88 = .ok (.aload_n 0, 1) := by decide +kernel
theorem dX12_type_89 : decode cX12_type 89 = .ok (.iload_n 1, 1) := by decide +kernel
theorem dX12_type_90 : decode cX12_type 90 = .ok (.iconst 1, 1) := by decide +kernel
theorem dX12_type_91 : decode cX12_type 91 = .ok (.invokevirtual 246, 3) := by decide +kernel
theorem dX12_type_94 : decode cX12_type 94 = .ok (.ireturn, 1) := by decide +kernel
theorem dX12_cursor_0 : decode cX12_cursor 0 = .ok (.aload_n 0, 1) := by decide +kernel
theorem dX12_cursor_1 : decode cX12_cursor 1 = .ok (.iload_n 1, 1) := by decide +kernel
theorem dX12_cursor_2 : decode cX12_cursor 2 = .ok (.invokevirtual 431, 3) := by decide +kernel
theorem dX12_cursor_5 : decode cX12_cursor 5 = .ok (.ifCond .eq 30, 3) := by decide +kernel
theorem dX12_cursor_8 : decode cX12_cursor 8 = .ok (.iload_n 2, 1) := by decide +kernel
theorem dX12_cursor_9 : decode cX12_cursor 9 = .ok (.i2l, 1) := by decide +kernel
theorem dX12_cursor_10 : decode cX12_cursor 10 = .ok (.lconst 0, 1) := by decide +kernel
theorem dX12_cursor_11 : decode cX12_cursor 11 = .ok (.aload_n 0, 1) := by decide +kernel
theorem dX12_cursor_12 : decode cX12_cursor 12 = .ok (.iload_n 1, 1) := by decide +kernel
theorem dX12_cursor_13 : decode cX12_cursor 13 = .ok (.bipush 21, 2) := by decide +kernel
theorem dX12_cursor_15 : decode cX12_cursor 15 = .ok (.invokevirtual 246, 3) := by decide +kernel
theorem dX12_cursor_18 : decode cX12_cursor 18 = .ok (.i2l, 1) := by decide +kernel
theorem dX12_cursor_19 : decode cX12_cursor 19 = .ok (.invokestatic 139, 3) := by decide +kernel
theorem dX12_cursor_22 : decode cX12_cursor 22 = .ok (.ifCond .eq 13, 3) := by decide +kernel
theorem dX12_cursor_25 : decode cX12_cursor 25 = .ok (.iload_n 2, 1) := by decide +kernel
theorem dX12_cursor_26 : decode cX12_cursor 26 = .ok (.aload_n 0, 1) := by decide +kernel
theorem dX12_cursor_27 : decode cX12_cursor 27 = .ok (.iload_n 1, 1) := by decide +kernel
theorem dX12_cursor_28 : decode cX12_cursor 28 = .ok (.iconst 1, 1) := by decide +kernel
theorem dX12_cursor_29 : decode cX12_cursor 29 = .ok (.invokevirtual 246, 3) := by decide +kernel
theorem dX12_cursor_32 : decode cX12_cursor 32 = .ok (.if_icmp .ne 9, 3) := by decide +kernel
theorem dX12_cursor_35 : decode cX12_cursor 35 = .ok (.aload_n 0, 1) := by decide +kernel
theorem dX12_cursor_36 : decode cX12_cursor 36 = .ok (.iconst 3, 1) := by decide +kernel
theorem dX12_cursor_37 : decode cX12_cursor 37 = .ok (.invokevirtual 133, 3) := by decide +kernel
theorem dX12_cursor_40 : decode cX12_cursor 40 = .ok (.ireturn, 1) := by decide +kernel
theorem dX12_cursor_41 : decode cX12_cursor 41 = .ok (.aload_n 0, 1) := by decide +kernel
theorem dX12_cursor_42 : decode cX12_cursor 42 = .ok (.invokevirtual 513, 3) := by decide +kernel
theorem dX12_cursor_45 : decode cX12_cursor 45 = .ok (.aload_n 0, 1) := by decide +kernel
theorem dX12_cursor_46 : decode cX12_cursor 46 = .ok (.getfield 69, 3) := by decide +kernel
theorem dX12_cursor_49 : decode cX12_cursor 49 = .ok (.iload_n 1, 1) := by decide +kernel
theorem dX12_cursor_50 : decode cX12_cursor 50 = .ok (.iconst 1, 1) := by decide +kernel
theorem dX12_cursor_51 : decode cX12_cursor 51 = .ok (.invokestatic 237, 3) := by decide +kernel
theorem dX12_cursor_54 : decode cX12_cursor 54 = .ok (.iload_n 2, 1) := by decide +kernel
theorem dX12_cursor_55 : decode cX12_cursor 55 = .ok (.iastore, 1) := by decide +kernel
theorem dX12_cursor_56 : decode cX12_cursor 56 = .ok (.iconst 1, 1) := by decide +kernel
theorem dX12_cursor_57 : decode cX12_cursor 57 = .ok (.ireturn, 1) := by decide +kernel
theorem dX12_marks_0 : decode cX12_marks 0 = .ok (.aload_n 0, 1) := by decide +kernel
theorem dX12_marks_1 : decode cX12_marks 1 = .ok (.iload_n 1, 1) := by decide +kernel
theorem dX12_marks_2 : decode cX12_marks 2 = .ok (.invokevirtual 431, 3) := by decide +kernel
theorem dX12_marks_5 : decode cX12_marks 5 = .ok (.ifCond .eq 26, 3) := by decide +kernel
theorem dX12_marks_8 : decode cX12_marks 8 = .ok (.iload 4, 2) := by decide +kernel
theorem dX12_marks_10 : decode cX12_marks 10 = .ok (.i2l, 1) := by decide +kernel
theorem dX12_marks_11 : decode cX12_marks 11 = .ok (.lconst 0, 1) := by decide +kernel
theorem dX12_marks_12 : decode cX12_marks 12 = .ok (.ldc2_w 524, 3) := by decide +kernel
theorem dX12_marks_15 : decode cX12_marks 15 = .ok (.invokestatic 139, 3) := by decide +kernel
theorem dX12_marks_18 : decode cX12_marks 18 = .ok (.ifCond .eq 13, 3) := by decide +kernel
theorem dX12_marks_21 : decode cX12_marks 21 = .ok (.aload_n 0, 1) := by decide +kernel
theorem dX12_marks_22 : decode cX12_marks 22 = .ok (.iload_n 1, 1) := by decide +kernel
theorem dX12_marks_23 : decode cX12_marks 23 = .ok (.iload_n 2, 1) := by decide +kernel
theorem dX12_marks_24 : decode cX12_marks 24 = .ok (.iload_n 3, 1) := by decide +kernel
theorem dX12_marks_25 : decode cX12_marks 25 = .ok (.invokevirtual 412, 3) := by decide +kernel
theorem dX12_marks_28 : decode cX12_marks 28 = .ok (.ifCond .ne 9, 3) := by decide +kernel
theorem dX12_marks_31 : decode cX12_marks 31 = .ok (.aload_n 0, 1) := by decide +kernel
theorem dX12_marks_32 : decode cX12_marks 32 = .ok (.iconst 3, 1) := by decide +kernel
theorem dX12_marks_33 : decode cX12_marks 33 = .ok (.invokevirtual 129, 3) := by decide +kernel
theorem dX12_marks_36 : decode cX12_marks 36 = .ok (.ireturn, 1) := by decide +kernel
theorem dX12_marks_37 : decode cX12_marks 37 = .ok (.aload_n 0, 1) := by decide +kernel
theorem dX12_marks_38 : decode cX12_marks 38 = .ok (.invokevirtual 513, 3) := by decide +kernel
theorem dX12_marks_41 : decode cX12_marks 41 = .ok (.aload_n 0, 1) := by decide +kernel
theorem dX12_marks_42 : decode cX12_marks 42 = .ok (.iload_n 1, 1) := by decide +kernel
theorem dX12_marks_43 : decode cX12_marks 43 = .ok (.iload_n 2, 1) := by decide +kernel
theorem dX12_marks_44 : decode cX12_marks 44 = .ok (.iload_n 3, 1) := by decide +kernel
theorem dX12_marks_45 : decode cX12_marks 45 = .ok (.iload 4, 2) := by decide +kernel
theorem dX12_marks_47 : decode cX12_marks 47 = .ok (.invokevirtual 416, 3) := by decide +kernel
theorem dX12_marks_50 : decode cX12_marks 50 = .ok (.aload_n 0, 1) := by decide +kernel
theorem dX12_marks_51 : decode cX12_marks 51 = .ok (.iload_n 1, 1) := by decide +kernel
theorem dX12_marks_52 : decode cX12_marks 52 = .ok (.iconst 2, 1) := by decide +kernel
theorem dX12_marks_53 : decode cX12_marks 53 = .ok (.invokevirtual 246, 3) := by decide +kernel
theorem dX12_marks_56 : decode cX12_marks 56 = .ok (.iconst 1, 1) := by decide +kernel
theorem dX12_marks_57 : decode cX12_marks 57 = .ok (.isub, 1) := by decide +kernel
theorem dX12_marks_58 : decode cX12_marks 58 = .ok (.ireturn, 1) := by decide +kernel
theorem dX12_clears_0 : decode cX12_clears 0 = .ok (.aload_n 0, 1) := by decide +kernel
theorem dX12_clears_1 : decode cX12_clears 1 = .ok (.iload_n 1, 1) := by decide +kernel
theorem dX12_clears_2 : decode cX12_clears 2 = .ok (.invokevirtual 431, 3) := by decide +kernel
theorem dX12_clears_5 : decode cX12_clears 5 = .ok (.ifCond .eq 21, 3) := by decide +kernel
theorem dX12_clears_8 : decode cX12_clears 8 = .ok (.iload_n 2, 1) := by decide +kernel
theorem dX12_clears_9 : decode cX12_clears 9 = .ok (.i2l, 1) := by decide +kernel
theorem dX12_clears_10 : decode cX12_clears 10 = .ok (.lconst 0, 1) := by decide +kernel
theorem dX12_clears_11 : decode cX12_clears 11 = .ok (.aload_n 0, 1) := by decide +kernel
theorem dX12_clears_12 : decode cX12_clears 12 = .ok (.iload_n 1, 1) := by decide +kernel
theorem dX12_clears_13 : decode cX12_clears 13 = .ok (.iconst 2, 1) := by decide +kernel
theorem dX12_clears_14 : decode cX12_clears 14 = .ok (.invokevirtual 246, 3) := by decide +kernel
theorem dX12_clears_17 : decode cX12_clears 17 = .ok (.iconst 1, 1) := by decide +kernel
theorem dX12_clears_18 : decode cX12_clears 18 = .ok (.isub, 1) := by decide +kernel
theorem dX12_clears_19 : decode cX12_clears 19 = .ok (.i2l, 1) := by decide +kernel
theorem dX12_clears_20 : decode cX12_clears 20 = .ok (.invokestatic 139, 3) := by decide +kernel
theorem dX12_clears_23 : decode cX12_clears 23 = .ok (.ifCond .ne 9, 3) := by decide +kernel
theorem dX12_clears_26 : decode cX12_clears 26 = .ok (.aload_n 0, 1) := by decide +kernel
theorem dX12_clears_27 : decode cX12_clears 27 = .ok (.iconst 3, 1) := by decide +kernel
theorem dX12_clears_28 : decode cX12_clears 28 = .ok (.invokevirtual 133, 3) := by decide +kernel
theorem dX12_clears_31 : decode cX12_clears 31 = .ok (.ireturn, 1) := by decide +kernel
theorem dX12_clears_32 : decode cX12_clears 32 = .ok (.aload_n 0, 1) := by decide +kernel
theorem dX12_clears_33 : decode cX12_clears 33 = .ok (.invokevirtual 513, 3) := by decide +kernel
theorem dX12_clears_36 : decode cX12_clears 36 = .ok (.iload_n 1, 1) := by decide +kernel
theorem dX12_clears_37 : decode cX12_clears 37 = .ok (.iconst 3, 1) := by decide +kernel
theorem dX12_clears_38 : decode cX12_clears 38 = .ok (.iconst 3, 1) := by decide +kernel
theorem dX12_clears_39 : decode cX12_clears 39 = .ok (.iload_n 2, 1) := by decide +kernel
theorem dX12_clears_40 : decode cX12_clears 40 = .ok (.imul, 1) := by decide +kernel
theorem dX12_clears_41 : decode cX12_clears 41 = .ok (.iadd, 1) := by decide +kernel
theorem dX12_clears_42 : decode cX12_clears 42 = .ok (.invokestatic 237, 3) := by decide +kernel
theorem dX12_clears_45 : decode cX12_clears 45 = .ok (.istore_n 3, 1) := by decide +kernel
theorem dX12_clears_46 : decode cX12_clears 46 = .ok (.iload_n 3, 1) := by decide +kernel
theorem dX12_clears_47 : decode cX12_clears 47 = .ok (.iload_n 1, 1) := by decide +kernel
theorem dX12_clears_48 : decode cX12_clears 48 = .ok (.bipush 12, 2) := by decide +kernel
theorem dX12_clears_50 : decode cX12_clears 50 = .ok (.invokestatic 237, 3) := by decide +kernel
theorem dX12_clears_53 : decode cX12_clears 53 = .ok (.if_icmp .ge 23, 3) := by decide +kernel
theorem dX12_clears_56 : decode cX12_clears 56 = .ok (.aload_n 0, 1) := by decide +kernel
theorem dX12_clears_57 : decode cX12_clears 57 = .ok (.getfield 69, 3) := by decide +kernel
theorem dX12_clears_60 : decode cX12_clears 60 = .ok (.iload_n 3, 1) := by decide +kernel
theorem dX12_clears_61 : decode cX12_clears 61 = .ok (.aload_n 0, 1) := by decide +kernel
theorem dX12_clears_62 : decode cX12_clears 62 = .ok (.getfield 69, 3) := by decide +kernel
theorem dX12_clears_65 : decode cX12_clears 65 = .ok (.iload_n 3, 1) := by decide +kernel
theorem dX12_clears_66 : decode cX12_clears 66 = .ok (.iconst 3, 1) := by decide +kernel
theorem dX12_clears_67 : decode cX12_clears 67 = .ok (.iadd, 1) := by decide +kernel
theorem dX12_clears_68 : decode cX12_clears 68 = .ok (.iaload, 1) := by decide +kernel
theorem dX12_clears_69 : decode cX12_clears 69 = .ok (.iastore, 1) := by decide +kernel
theorem dX12_clears_70 : decode cX12_clears 70 = .ok (.iinc 3 1, 3) := by decide +kernel
theorem dX12_clears_73 : decode cX12_clears 73 = .ok (.goto (-27), 3) := by decide +kernel
theorem dX12_clears_76 : decode cX12_clears 76 = .ok (.aload_n 0, 1) := by decide +kernel
theorem dX12_clears_77 : decode cX12_clears 77 = .ok (.getfield 69, 3) := by decide +kernel
theorem dX12_clears_80 : decode cX12_clears 80 = .ok (.iload_n 1, 1) := by decide +kernel
theorem dX12_clears_81 : decode cX12_clears 81 = .ok (.iconst 2, 1) := by decide +kernel
theorem dX12_clears_82 : decode cX12_clears 82 = .ok (.invokestatic 237, 3) := by decide +kernel
theorem dX12_clears_85 : decode cX12_clears 85 = .ok (.dup2, 1) := by decide +kernel
theorem dX12_clears_86 : decode cX12_clears 86 = .ok (.iaload, 1) := by decide +kernel
theorem dX12_clears_87 : decode cX12_clears 87 = .ok (.iconst 1, 1) := by decide +kernel
theorem dX12_clears_88 : decode cX12_clears 88 = .ok (.isub, 1) := by decide +kernel
theorem dX12_clears_89 : decode cX12_clears 89 = .ok (.iastore, 1) := by decide +kernel
theorem dX12_clears_90 : decode cX12_clears 90 = .ok (.iconst 1, 1) := by decide +kernel
theorem dX12_clears_91 : decode cX12_clears 91 = .ok (.ireturn, 1) := by decide +kernel
theorem dX12_latestOf_0 : decode cX12_latestOf 0 = .ok (.aload_n 0, 1) := by decide +kernel
theorem dX12_latestOf_1 : decode cX12_latestOf 1 = .ok (.iload_n 1, 1) := by decide +kernel
theorem dX12_latestOf_2 : decode cX12_latestOf 2 = .ok (.iload_n 3, 1) := by decide +kernel
theorem dX12_latestOf_3 : decode cX12_latestOf 3 = .ok (.invokevirtual 246, 3) := by decide +kernel
theorem dX12_latestOf_6 : decode cX12_latestOf 6 = .ok (.iconst 1, 1) := by decide +kernel
theorem dX12_latestOf_7 : decode cX12_latestOf 7 = .ok (.isub, 1) := by decide +kernel
theorem dX12_latestOf_8 : decode cX12_latestOf 8 = .ok (.istore 4, 2) := by decide +kernel
theorem dX12_latestOf_10 : decode cX12_latestOf 10 = .ok (.iload 4, 2) := by decide +kernel
theorem dX12_latestOf_12 : decode cX12_latestOf 12 = .ok (.ifCond .lt 43, 3) := by decide +kernel
theorem dX12_latestOf_15 : decode cX12_latestOf 15 = .ok (.aload_n 0, 1) := by decide +kernel
theorem dX12_latestOf_16 : decode cX12_latestOf 16 = .ok (.aload_n 0, 1) := by decide +kernel
theorem dX12_latestOf_17 : decode cX12_latestOf 17 = .ok (.iload_n 1, 1) := by decide +kernel
theorem dX12_latestOf_18 : decode cX12_latestOf 18 = .ok (.iload_n 2, 1) := by decide +kernel
theorem dX12_latestOf_19 : decode cX12_latestOf 19 = .ok (.invokestatic 237, 3) := by decide +kernel
theorem dX12_latestOf_22 : decode cX12_latestOf 22 = .ok (.iload 4, 2) := by decide +kernel
theorem dX12_latestOf_24 : decode cX12_latestOf 24 = .ok (.invokevirtual 233, 3) := by decide +kernel
theorem dX12_latestOf_27 : decode cX12_latestOf 27 = .ok (.iconst 1, 1) := by decide +kernel
theorem dX12_latestOf_28 : decode cX12_latestOf 28 = .ok (.iadd, 1) := by decide +kernel
theorem dX12_latestOf_29 : decode cX12_latestOf 29 = .ok (.invokevirtual 249, 3) := by decide +kernel
theorem dX12_latestOf_32 : decode cX12_latestOf 32 = .ok (.aload_n 0, 1) := by decide +kernel
theorem dX12_latestOf_33 : decode cX12_latestOf 33 = .ok (.getfield 51, 3) := by decide +kernel
theorem dX12_latestOf_36 : decode cX12_latestOf 36 = .ok (.aload_n 0, 1) := by decide +kernel
theorem dX12_latestOf_37 : decode cX12_latestOf 37 = .ok (.getfield 195, 3) := by decide +kernel
theorem dX12_latestOf_40 : decode cX12_latestOf 40 = .ok (.invokestatic 277, 3) := by decide +kernel
theorem dX12_latestOf_43 : decode cX12_latestOf 43 = .ok (.ifCond .ne 6, 3) := by decide +kernel
theorem dX12_latestOf_46 : decode cX12_latestOf 46 = .ok (.iload 4, 2) := by decide +kernel
theorem dX12_latestOf_48 : decode cX12_latestOf 48 = .ok (.ireturn, 1) := by decide +kernel
theorem dX12_latestOf_49 : decode cX12_latestOf 49 = .ok (.iinc 4 (-1), 3) := by decide +kernel
theorem dX12_latestOf_52 : decode cX12_latestOf 52 = .ok (.goto (-42), 3) := by decide +kernel
theorem dX12_latestOf_55 : decode cX12_latestOf 55 = .ok (.iconst (-1), 1) := by decide +kernel
theorem dX12_latestOf_56 : decode cX12_latestOf 56 = .ok (.ireturn, 1) := by decide +kernel
theorem dX12_goesBack_0 : decode cX12_goesBack 0 = .ok (.aload_n 0, 1) := by decide +kernel
theorem dX12_goesBack_1 : decode cX12_goesBack 1 = .ok (.iload_n 1, 1) := by decide +kernel
theorem dX12_goesBack_2 : decode cX12_goesBack 2 = .ok (.invokevirtual 431, 3) := by decide +kernel
theorem dX12_goesBack_5 : decode cX12_goesBack 5 = .ok (.ifCond .eq 13, 3) := by decide +kernel
theorem dX12_goesBack_8 : decode cX12_goesBack 8 = .ok (.aload_n 0, 1) := by decide +kernel
theorem dX12_goesBack_9 : decode cX12_goesBack 9 = .ok (.iload_n 1, 1) := by decide +kernel
theorem dX12_goesBack_10 : decode cX12_goesBack 10 = .ok (.iload_n 2, 1) := by decide +kernel
theorem dX12_goesBack_11 : decode cX12_goesBack 11 = .ok (.iload_n 3, 1) := by decide +kernel
theorem dX12_goesBack_12 : decode cX12_goesBack 12 = .ok (.invokevirtual 526, 3) := by decide +kernel
theorem dX12_goesBack_15 : decode cX12_goesBack 15 = .ok (.goto 4, 3) := by decide +kernel
theorem dX12_goesBack_18 : decode cX12_goesBack 18 = .ok (.iconst (-1), 1) := by decide +kernel
theorem dX12_goesBack_19 : decode cX12_goesBack 19 = .ok (.istore 5, 2) := by decide +kernel
theorem dX12_goesBack_21 : decode cX12_goesBack 21 = .ok (.iload 5, 2) := by decide +kernel
theorem dX12_goesBack_23 : decode cX12_goesBack 23 = .ok (.iconst (-1), 1) := by decide +kernel
theorem dX12_goesBack_24 : decode cX12_goesBack 24 = .ok (.if_icmp .eq 10, 3) := by decide +kernel
theorem dX12_goesBack_27 : decode cX12_goesBack 27 = .ok (.aload_n 0, 1) := by decide +kernel
theorem dX12_goesBack_28 : decode cX12_goesBack 28 = .ok (.invokevirtual 405, 3) := by decide +kernel
theorem dX12_goesBack_31 : decode cX12_goesBack 31 = .ok (.ifCond .ne 9, 3) := by decide +kernel
theorem dX12_goesBack_34 : decode cX12_goesBack 34 = .ok (.aload_n 0, 1) := by decide +kernel
theorem dX12_goesBack_35 : decode cX12_goesBack 35 = .ok (.iconst 2, 1) := by decide +kernel
theorem dX12_goesBack_36 : decode cX12_goesBack 36 = .ok (.invokevirtual 129, 3) := by decide +kernel
theorem dX12_goesBack_39 : decode cX12_goesBack 39 = .ok (.ireturn, 1) := by decide +kernel
theorem dX12_goesBack_40 : decode cX12_goesBack 40 = .ok (.aload_n 0, 1) := by decide +kernel
theorem dX12_goesBack_41 : decode cX12_goesBack 41 = .ok (.invokevirtual 513, 3) := by decide +kernel
theorem dX12_goesBack_44 : decode cX12_goesBack 44 = .ok (.aload_n 0, 1) := by decide +kernel
theorem dX12_goesBack_45 : decode cX12_goesBack 45 = .ok (.getfield 69, 3) := by decide +kernel
theorem dX12_goesBack_48 : decode cX12_goesBack 48 = .ok (.iload_n 1, 1) := by decide +kernel
theorem dX12_goesBack_49 : decode cX12_goesBack 49 = .ok (.iload_n 3, 1) := by decide +kernel
theorem dX12_goesBack_50 : decode cX12_goesBack 50 = .ok (.invokestatic 237, 3) := by decide +kernel
theorem dX12_goesBack_53 : decode cX12_goesBack 53 = .ok (.iload 5, 2) := by decide +kernel
theorem dX12_goesBack_55 : decode cX12_goesBack 55 = .ok (.iastore, 1) := by decide +kernel
theorem dX12_goesBack_56 : decode cX12_goesBack 56 = .ok (.aload_n 0, 1) := by decide +kernel
theorem dX12_goesBack_57 : decode cX12_goesBack 57 = .ok (.iload_n 1, 1) := by decide +kernel
theorem dX12_goesBack_58 : decode cX12_goesBack 58 = .ok (.iload 4, 2) := by decide +kernel
theorem dX12_goesBack_60 : decode cX12_goesBack 60 = .ok (.invokevirtual 409, 3) := by decide +kernel
theorem dX12_goesBack_63 : decode cX12_goesBack 63 = .ok (.aload_n 0, 1) := by decide +kernel
theorem dX12_goesBack_64 : decode cX12_goesBack 64 = .ok (.iload_n 1, 1) := by decide +kernel
theorem dX12_goesBack_65 : decode cX12_goesBack 65 = .ok (.bipush 21, 2) := by decide +kernel
theorem dX12_goesBack_67 : decode cX12_goesBack 67 = .ok (.invokevirtual 246, 3) := by decide +kernel
theorem dX12_goesBack_70 : decode cX12_goesBack 70 = .ok (.ireturn, 1) := by decide +kernel
theorem dX12_undo_0 : decode cX12_undo 0 = .ok (.aload_n 0, 1) := by decide +kernel
theorem dX12_undo_1 : decode cX12_undo 1 = .ok (.iload_n 1, 1) := by decide +kernel
theorem dX12_undo_2 : decode cX12_undo 2 = .ok (.sipush 1590, 3) := by decide +kernel
theorem dX12_undo_5 : decode cX12_undo 5 = .ok (.bipush 22, 2) := by decide +kernel
theorem dX12_undo_7 : decode cX12_undo 7 = .ok (.iconst 1, 1) := by decide +kernel
theorem dX12_undo_8 : decode cX12_undo 8 = .ok (.invokevirtual 530, 3) := by decide +kernel
theorem dX12_undo_11 : decode cX12_undo 11 = .ok (.ireturn, 1) := by decide +kernel
theorem dX12_redo_0 : decode cX12_redo 0 = .ok (.aload_n 0, 1) := by decide +kernel
theorem dX12_redo_1 : decode cX12_redo 1 = .ok (.iload_n 1, 1) := by decide +kernel
theorem dX12_redo_2 : decode cX12_redo 2 = .ok (.sipush 2054, 3) := by decide +kernel
theorem dX12_redo_5 : decode cX12_redo 5 = .ok (.bipush 23, 2) := by decide +kernel
theorem dX12_redo_7 : decode cX12_redo 7 = .ok (.iconst 2, 1) := by decide +kernel
theorem dX12_redo_8 : decode cX12_redo 8 = .ok (.invokevirtual 530, 3) := by decide +kernel
theorem dX12_redo_11 : decode cX12_redo 11 = .ok (.ireturn, 1) := by decide +kernel
theorem dX12_line_0 : decode cX12_line 0 = .ok (.iload_n 2, 1) := by decide +kernel
theorem dX12_line_1 : decode cX12_line 1 = .ok (.ifCond .eq 7, 3) := by decide +kernel
theorem dX12_line_4 : decode cX12_line 4 = .ok (.iconst 1, 1) := by decide +kernel
theorem dX12_line_5 : decode cX12_line 5 = .ok (.goto 4, 3) := by decide +kernel
theorem dX12_line_8 : decode cX12_line 8 = .ok (.iconst 0, 1) := by decide +kernel
theorem dX12_line_9 : decode cX12_line 9 = .ok (.istore_n 3, 1) := by decide +kernel
theorem dX12_line_10 : decode cX12_line 10 = .ok (.aload_n 0, 1) := by decide +kernel
theorem dX12_line_11 : decode cX12_line 11 = .ok (.iload_n 1, 1) := by decide +kernel
theorem dX12_line_12 : decode cX12_line 12 = .ok (.invokevirtual 431, 3) := by decide +kernel
theorem dX12_line_15 : decode cX12_line 15 = .ok (.ifCond .eq 14, 3) := by decide +kernel
theorem dX12_line_18 : decode cX12_line 18 = .ok (.aload_n 0, 1) := by decide +kernel
theorem dX12_line_19 : decode cX12_line 19 = .ok (.iload_n 1, 1) := by decide +kernel
theorem dX12_line_20 : decode cX12_line 20 = .ok (.bipush 15, 2) := by decide +kernel
theorem dX12_line_22 : decode cX12_line 22 = .ok (.invokevirtual 246, 3) := by decide +kernel
theorem dX12_line_25 : decode cX12_line 25 = .ok (.iload_n 3, 1) := by decide +kernel
theorem dX12_line_26 : decode cX12_line 26 = .ok (.if_icmp .ne 9, 3) := by decide +kernel
theorem dX12_line_29 : decode cX12_line 29 = .ok (.aload_n 0, 1) := by decide +kernel
theorem dX12_line_30 : decode cX12_line 30 = .ok (.iconst 3, 1) := by decide +kernel
theorem dX12_line_31 : decode cX12_line 31 = .ok (.invokevirtual 133, 3) := by decide +kernel
theorem dX12_line_34 : decode cX12_line 34 = .ok (.ireturn, 1) := by decide +kernel
theorem dX12_line_35 : decode cX12_line 35 = .ok (.aload_n 0, 1) := by decide +kernel
theorem dX12_line_36 : decode cX12_line 36 = .ok (.invokevirtual 513, 3) := by decide +kernel
theorem dX12_line_39 : decode cX12_line 39 = .ok (.aload_n 0, 1) := by decide +kernel
theorem dX12_line_40 : decode cX12_line 40 = .ok (.getfield 69, 3) := by decide +kernel
theorem dX12_line_43 : decode cX12_line 43 = .ok (.iload_n 1, 1) := by decide +kernel
theorem dX12_line_44 : decode cX12_line 44 = .ok (.bipush 15, 2) := by decide +kernel
theorem dX12_line_46 : decode cX12_line 46 = .ok (.invokestatic 237, 3) := by decide +kernel
theorem dX12_line_49 : decode cX12_line 49 = .ok (.iload_n 3, 1) := by decide +kernel
theorem dX12_line_50 : decode cX12_line 50 = .ok (.iastore, 1) := by decide +kernel
theorem dX12_line_51 : decode cX12_line 51 = .ok (.iconst 1, 1) := by decide +kernel
theorem dX12_line_52 : decode cX12_line 52 = .ok (.ireturn, 1) := by decide +kernel
theorem dX12_delay_0 : decode cX12_delay 0 = .ok (.aload_n 0, 1) := by decide +kernel
theorem dX12_delay_1 : decode cX12_delay 1 = .ok (.iload_n 1, 1) := by decide +kernel
theorem dX12_delay_2 : decode cX12_delay 2 = .ok (.invokevirtual 431, 3) := by decide +kernel
theorem dX12_delay_5 : decode cX12_delay 5 = .ok (.ifCond .eq 26, 3) := by decide +kernel
theorem dX12_delay_8 : decode cX12_delay 8 = .ok (.iload_n 2, 1) := by decide +kernel
theorem dX12_delay_9 : decode cX12_delay 9 = .ok (.i2l, 1) := by decide +kernel
theorem dX12_delay_10 : decode cX12_delay 10 = .ok (.lconst 0, 1) := by decide +kernel
theorem dX12_delay_11 : decode cX12_delay 11 = .ok (.ldc2_w 534, 3) := by decide +kernel
theorem dX12_delay_14 : decode cX12_delay 14 = .ok (.invokestatic 139, 3) := by decide +kernel
theorem dX12_delay_17 : decode cX12_delay 17 = .ok (.ifCond .eq 14, 3) := by decide +kernel
theorem dX12_delay_20 : decode cX12_delay 20 = .ok (.aload_n 0, 1) := by decide +kernel
theorem dX12_delay_21 : decode cX12_delay 21 = .ok (.iload_n 1, 1) := by decide +kernel
theorem dX12_delay_22 : decode cX12_delay 22 = .ok (.bipush 16, 2) := by decide +kernel
theorem dX12_delay_24 : decode cX12_delay 24 = .ok (.invokevirtual 246, 3) := by decide +kernel
theorem dX12_delay_27 : decode cX12_delay 27 = .ok (.iload_n 2, 1) := by decide +kernel
theorem dX12_delay_28 : decode cX12_delay 28 = .ok (.if_icmp .ne 9, 3) := by decide +kernel
theorem dX12_delay_31 : decode cX12_delay 31 = .ok (.aload_n 0, 1) := by decide +kernel
theorem dX12_delay_32 : decode cX12_delay 32 = .ok (.iconst 3, 1) := by decide +kernel
theorem dX12_delay_33 : decode cX12_delay 33 = .ok (.invokevirtual 133, 3) := by decide +kernel
theorem dX12_delay_36 : decode cX12_delay 36 = .ok (.ireturn, 1) := by decide +kernel
theorem dX12_delay_37 : decode cX12_delay 37 = .ok (.aload_n 0, 1) := by decide +kernel
theorem dX12_delay_38 : decode cX12_delay 38 = .ok (.invokevirtual 513, 3) := by decide +kernel
theorem dX12_delay_41 : decode cX12_delay 41 = .ok (.aload_n 0, 1) := by decide +kernel
theorem dX12_delay_42 : decode cX12_delay 42 = .ok (.getfield 69, 3) := by decide +kernel
theorem dX12_delay_45 : decode cX12_delay 45 = .ok (.iload_n 1, 1) := by decide +kernel
theorem dX12_delay_46 : decode cX12_delay 46 = .ok (.bipush 16, 2) := by decide +kernel
theorem dX12_delay_48 : decode cX12_delay 48 = .ok (.invokestatic 237, 3) := by decide +kernel
theorem dX12_delay_51 : decode cX12_delay 51 = .ok (.iload_n 2, 1) := by decide +kernel
theorem dX12_delay_52 : decode cX12_delay 52 = .ok (.iastore, 1) := by decide +kernel
theorem dX12_delay_53 : decode cX12_delay 53 = .ok (.iconst 1, 1) := by decide +kernel
theorem dX12_delay_54 : decode cX12_delay 54 = .ok (.ireturn, 1) := by decide +kernel
theorem dX12_ticks_0 : decode cX12_ticks 0 = .ok (.aload_n 0, 1) := by decide +kernel
theorem dX12_ticks_1 : decode cX12_ticks 1 = .ok (.getfield 211, 3) := by decide +kernel
theorem dX12_ticks_4 : decode cX12_ticks 4 = .ok (.ifCond .eq 29, 3) := by decide +kernel
theorem dX12_ticks_7 : decode cX12_ticks 7 = .ok (.iload_n 1, 1) := by decide +kernel
theorem dX12_ticks_8 : decode cX12_ticks 8 = .ok (.i2l, 1) := by decide +kernel
theorem dX12_ticks_9 : decode cX12_ticks 9 = .ok (.lconst 1, 1) := by decide +kernel
theorem dX12_ticks_10 : decode cX12_ticks 10 = .ok (.ldc2_w 475, 3) := by decide +kernel
theorem dX12_ticks_13 : decode cX12_ticks 13 = .ok (.invokestatic 139, 3) := by decide +kernel
theorem dX12_ticks_16 : decode cX12_ticks 16 = .ok (.ifCond .eq 17, 3) := by decide +kernel
theorem dX12_ticks_19 : decode cX12_ticks 19 = .ok (.aload_n 0, 1) := by decide +kernel
theorem dX12_ticks_20 : decode cX12_ticks 20 = .ok (.getfield 69, 3) := by decide +kernel
theorem dX12_ticks_23 : decode cX12_ticks 23 = .ok (.iconst 0, 1) := by decide +kernel
theorem dX12_ticks_24 : decode cX12_ticks 24 = .ok (.iaload, 1) := by decide +kernel
theorem dX12_ticks_25 : decode cX12_ticks 25 = .ok (.iload_n 1, 1) := by decide +kernel
theorem dX12_ticks_26 : decode cX12_ticks 26 = .ok (.iadd, 1) := by decide +kernel
theorem dX12_ticks_27 : decode cX12_ticks 27 = .ok (.sipush 999, 3) := by decide +kernel
theorem dX12_ticks_30 : decode cX12_ticks 30 = .ok (.if_icmp .le 9, 3) := by decide +kernel
theorem dX12_ticks_33 : decode cX12_ticks 33 = .ok (.aload_n 0, 1) := by decide +kernel
theorem dX12_ticks_34 : decode cX12_ticks 34 = .ok (.iconst 4, 1) := by decide +kernel
theorem dX12_ticks_35 : decode cX12_ticks 35 = .ok (.invokevirtual 129, 3) := by decide +kernel
theorem dX12_ticks_38 : decode cX12_ticks 38 = .ok (.ireturn, 1) := by decide +kernel
theorem dX12_ticks_39 : decode cX12_ticks 39 = .ok (.aload_n 0, 1) := by decide +kernel
theorem dX12_ticks_40 : decode cX12_ticks 40 = .ok (.invokevirtual 513, 3) := by decide +kernel
theorem dX12_ticks_43 : decode cX12_ticks 43 = .ok (.aload_n 0, 1) := by decide +kernel
theorem dX12_ticks_44 : decode cX12_ticks 44 = .ok (.iload_n 1, 1) := by decide +kernel
theorem dX12_ticks_45 : decode cX12_ticks 45 = .ok (.invokevirtual 419, 3) := by decide +kernel
theorem dX12_ticks_48 : decode cX12_ticks 48 = .ok (.aload_n 0, 1) := by decide +kernel
theorem dX12_ticks_49 : decode cX12_ticks 49 = .ok (.getfield 326, 3) := by decide +kernel
theorem dX12_ticks_52 : decode cX12_ticks 52 = .ok (.ireturn, 1) := by decide +kernel
theorem dX12_seed_0 : decode cX12_seed 0 = .ok (.iload_n 1, 1) := by decide +kernel
theorem dX12_seed_1 : decode cX12_seed 1 = .ok (.ifCond .ge 10, 3) := by decide +kernel
theorem dX12_seed_4 : decode cX12_seed 4 = .ok (.aload_n 0, 1) := by decide +kernel
theorem dX12_seed_5 : decode cX12_seed 5 = .ok (.bipush 6, 2) := by decide +kernel
theorem dX12_seed_7 : decode cX12_seed 7 = .ok (.invokevirtual 133, 3) := by decide +kernel
theorem dX12_seed_10 : decode cX12_seed 10 = .ok (.ireturn, 1) := by decide +kernel
theorem dX12_seed_11 : decode cX12_seed 11 = .ok (.aload_n 0, 1) := by decide +kernel
theorem dX12_seed_12 : decode cX12_seed 12 = .ok (.iload_n 1, 1) := by decide +kernel
theorem dX12_seed_13 : decode cX12_seed 13 = .ok (.i2l, 1) := by decide +kernel
theorem dX12_seed_14 : decode cX12_seed 14 = .ok (.putfield 122, 3) := by decide +kernel
theorem dX12_seed_17 : decode cX12_seed 17 = .ok (.iconst 1, 1) := by decide +kernel
theorem dX12_seed_18 : decode cX12_seed 18 = .ok (.ireturn, 1) := by decide +kernel
theorem dX12_drawOf_0 : decode cX12_drawOf 0 = .ok (.aload_n 0, 1) := by decide +kernel
theorem dX12_drawOf_1 : decode cX12_drawOf 1 = .ok (.ldc2_w 536, 3) := by decide +kernel
theorem dX12_drawOf_4 : decode cX12_drawOf 4 = .ok (.aload_n 0, 1) := by decide +kernel
theorem dX12_drawOf_5 : decode cX12_drawOf 5 = .ok (.getfield 122, 3) := by decide +kernel
theorem dX12_drawOf_8 : decode cX12_drawOf 8 = .ok (.lmul, 1) := by decide +kernel
theorem dX12_drawOf_9 : decode cX12_drawOf 9 = .ok (.ldc2_w 538, 3) := by decide +kernel
theorem dX12_drawOf_12 : decode cX12_drawOf 12 = .ok (.ladd, 1) := by decide +kernel
theorem dX12_drawOf_13 : decode cX12_drawOf 13 = .ok (.ldc2_w 540, 3) := by decide +kernel
theorem dX12_drawOf_16 : decode cX12_drawOf 16 = .ok (.lrem, 1) := by decide +kernel
theorem dX12_drawOf_17 : decode cX12_drawOf 17 = .ok (.putfield 122, 3) := by decide +kernel
theorem dX12_drawOf_20 : decode cX12_drawOf 20 = .ok (.aload_n 0, 1) := by decide +kernel
theorem dX12_drawOf_21 : decode cX12_drawOf 21 = .ok (.getfield 122, 3) := by decide +kernel
theorem dX12_drawOf_24 : decode cX12_drawOf 24 = .ok (.ldc2_w 542, 3) := by decide +kernel
theorem dX12_drawOf_27 : decode cX12_drawOf 27 = .ok (.ldiv, 1) := by decide +kernel
theorem dX12_drawOf_28 : decode cX12_drawOf 28 = .ok (.iload_n 1, 1) := by decide +kernel
theorem dX12_drawOf_29 : decode cX12_drawOf 29 = .ok (.i2l, 1) := by decide +kernel
theorem dX12_drawOf_30 : decode cX12_drawOf 30 = .ok (.lrem, 1) := by decide +kernel
theorem dX12_drawOf_31 : decode cX12_drawOf 31 = .ok (.l2i, 1) := by decide +kernel
theorem dX12_drawOf_32 : decode cX12_drawOf 32 = .ok (.ireturn, 1) := by decide +kernel
theorem dX12_isDrawn_0 : decode cX12_isDrawn 0 = .ok (.aload_n 0, 1) := by decide +kernel
theorem dX12_isDrawn_1 : decode cX12_isDrawn 1 = .ok (.iconst 4, 1) := by decide +kernel
theorem dX12_isDrawn_2 : decode cX12_isDrawn 2 = .ok (.invokevirtual 544, 3) := by decide +kernel
theorem dX12_isDrawn_5 : decode cX12_isDrawn 5 = .ok (.istore_n 1, 1) := by decide +kernel
theorem dX12_isDrawn_6 : decode cX12_isDrawn 6 = .ok (.iload_n 1, 1) := by decide +kernel
theorem dX12_isDrawn_7 : decode cX12_isDrawn 7 = .ok (.iconst 3, 1) := by decide +kernel
theorem dX12_isDrawn_8 : decode cX12_isDrawn 8 = .ok (.if_icmp .ne 21, 3) := by decide +kernel
theorem dX12_isDrawn_11 : decode cX12_isDrawn 11 = .ok (.aload_n 0, 1) := by decide +kernel
theorem dX12_isDrawn_12 : decode cX12_isDrawn 12 = .ok (.getfield 69, 3) := by decide +kernel
theorem dX12_isDrawn_15 : decode cX12_isDrawn 15 = .ok (.iconst 0, 1) := by decide +kernel
theorem dX12_isDrawn_16 : decode cX12_isDrawn 16 = .ok (.iaload, 1) := by decide +kernel
theorem dX12_isDrawn_17 : decode cX12_isDrawn 17 = .ok (.sipush 999, 3) := by decide +kernel
theorem dX12_isDrawn_20 : decode cX12_isDrawn 20 = .ok (.if_icmp .ge 7, 3) := by decide +kernel
theorem dX12_isDrawn_23 : decode cX12_isDrawn 23 = .ok (.aload_n 0, 1) := by decide +kernel
theorem dX12_isDrawn_24 : decode cX12_isDrawn 24 = .ok (.invokevirtual 332, 3) := by decide +kernel
theorem dX12_isDrawn_27 : decode cX12_isDrawn 27 = .ok (.iconst 0, 1) := by decide +kernel
theorem dX12_isDrawn_28 : decode cX12_isDrawn 28 = .ok (.ireturn, 1) := by decide +kernel
theorem dX12_isDrawn_29 : decode cX12_isDrawn 29 = .ok (.aload_n 0, 1) := by decide +kernel
theorem dX12_isDrawn_30 : decode cX12_isDrawn 30 = .ok (.aload_n 0, 1) := by decide +kernel
theorem dX12_isDrawn_31 : decode cX12_isDrawn 31 = .ok (.getfield 215, 3) := by decide +kernel
theorem dX12_isDrawn_34 : decode cX12_isDrawn 34 = .ok (.invokevirtual 544, 3) := by decide +kernel
theorem dX12_isDrawn_37 : decode cX12_isDrawn 37 = .ok (.istore_n 2, 1) := by decide +kernel
theorem dX12_isDrawn_38 : decode cX12_isDrawn 38 = .ok (.iload_n 1, 1) := by decide +kernel
theorem dX12_isDrawn_39 : decode cX12_isDrawn 39 = .ok (.iconst 2, 1) := by decide +kernel
theorem dX12_isDrawn_40 : decode cX12_isDrawn 40 = .ok (.if_icmp .ne 15, 3) := by decide +kernel
theorem dX12_isDrawn_43 : decode cX12_isDrawn 43 = .ok (.aload_n 0, 1) := by decide +kernel
theorem dX12_isDrawn_44 : decode cX12_isDrawn 44 = .ok (.iload_n 2, 1) := by decide +kernel
theorem dX12_isDrawn_45 : decode cX12_isDrawn 45 = .ok (.bipush 21, 2) := by decide +kernel
theorem dX12_isDrawn_47 : decode cX12_isDrawn 47 = .ok (.invokevirtual 246, 3) := by decide +kernel
theorem dX12_isDrawn_50 : decode cX12_isDrawn 50 = .ok (.ifCond .ne 5, 3) := by decide +kernel
theorem dX12_isDrawn_53 : decode cX12_isDrawn 53 = .ok (.iconst 0, 1) := by decide +kernel
theorem dX12_isDrawn_54 : decode cX12_isDrawn 54 = .ok (.ireturn, 1) := by decide +kernel
theorem dX12_isDrawn_55 : decode cX12_isDrawn 55 = .ok (.aload_n 0, 1) := by decide +kernel
theorem dX12_isDrawn_56 : decode cX12_isDrawn 56 = .ok (.aload_n 0, 1) := by decide +kernel
theorem dX12_isDrawn_57 : decode cX12_isDrawn 57 = .ok (.iload_n 2, 1) := by decide +kernel
theorem dX12_isDrawn_58 : decode cX12_isDrawn 58 = .ok (.bipush 21, 2) := by decide +kernel
theorem dX12_isDrawn_60 : decode cX12_isDrawn 60 = .ok (.invokevirtual 246, 3) := by decide +kernel
theorem dX12_isDrawn_63 : decode cX12_isDrawn 63 = .ok (.iload_n 1, 1) := by decide +kernel
theorem dX12_isDrawn_64 : decode cX12_isDrawn 64 = .ok (.iconst 2, 1) := by decide +kernel
theorem dX12_isDrawn_65 : decode cX12_isDrawn 65 = .ok (.if_icmp .ne 7, 3) := by decide +kernel
theorem dX12_isDrawn_68 : decode cX12_isDrawn 68 = .ok (.iconst 0, 1) := by decide +kernel
theorem dX12_isDrawn_69 : decode cX12_isDrawn 69 = .ok (.goto 4, 3) := by decide +kernel
theorem dX12_isDrawn_72 : decode cX12_isDrawn 72 = .ok (.iconst 1, 1) := by decide +kernel
theorem dX12_isDrawn_73 : decode cX12_isDrawn 73 = .ok (.iadd, 1) := by decide +kernel
theorem dX12_isDrawn_74 : decode cX12_isDrawn 74 = .ok (.invokevirtual 544, 3) := by decide +kernel
theorem dX12_isDrawn_77 : decode cX12_isDrawn 77 = .ok (.istore_n 3, 1) := by decide +kernel
theorem dX12_isDrawn_78 : decode cX12_isDrawn 78 = .ok (.iload_n 1, 1) := by decide +kernel
theorem dX12_isDrawn_79 : decode cX12_isDrawn 79 = .ok (.iconst 2, 1) := by decide +kernel
theorem dX12_isDrawn_80 : decode cX12_isDrawn 80 = .ok (.if_icmp .ne 14, 3) := by decide +kernel
theorem dX12_isDrawn_83 : decode cX12_isDrawn 83 = .ok (.aload_n 0, 1) := by decide +kernel
theorem dX12_isDrawn_84 : decode cX12_isDrawn 84 = .ok (.iload_n 2, 1) := by decide +kernel
theorem dX12_isDrawn_85 : decode cX12_isDrawn 85 = .ok (.iload_n 3, 1) := by decide +kernel
theorem dX12_isDrawn_86 : decode cX12_isDrawn 86 = .ok (.iconst 0, 1) := by decide +kernel
theorem dX12_isDrawn_87 : decode cX12_isDrawn 87 = .ok (.iconst 1, 1) := by decide +kernel
theorem dX12_isDrawn_88 : decode cX12_isDrawn 88 = .ok (.invokevirtual 521, 3) := by decide +kernel
theorem dX12_isDrawn_91 : decode cX12_isDrawn 91 = .ok (.goto 18, 3) := by decide +kernel
theorem dX12_isDrawn_94 : decode cX12_isDrawn 94 = .ok (.aload_n 0, 1) := by decide +kernel
theorem dX12_isDrawn_95 : decode cX12_isDrawn 95 = .ok (.iload_n 2, 1) := by decide +kernel
theorem dX12_isDrawn_96 : decode cX12_isDrawn 96 = .ok (.iload_n 3, 1) := by decide +kernel
theorem dX12_isDrawn_97 : decode cX12_isDrawn 97 = .ok (.aload_n 0, 1) := by decide +kernel
theorem dX12_isDrawn_98 : decode cX12_isDrawn 98 = .ok (.bipush 26, 2) := by decide +kernel
theorem dX12_isDrawn_100 : decode cX12_isDrawn 100 = .ok (.invokevirtual 544, 3) := by decide +kernel
theorem dX12_isDrawn_103 : decode cX12_isDrawn 103 = .ok (.iconst 1, 1) := by decide +kernel
theorem dX12_isDrawn_104 : decode cX12_isDrawn 104 = .ok (.iadd, 1) := by decide +kernel
theorem dX12_isDrawn_105 : decode cX12_isDrawn 105 = .ok (.iconst 0, 1) := by decide +kernel
theorem dX12_isDrawn_106 : decode cX12_isDrawn 106 = .ok (.invokevirtual 521, 3) := by decide +kernel
theorem dX12_isDrawn_109 : decode cX12_isDrawn 109 = .ok (.aload_n 0, 1) := by decide +kernel
theorem dX12_isDrawn_110 : decode cX12_isDrawn 110 = .ok (.invokevirtual 405, 3) := by decide +kernel
theorem dX12_isDrawn_113 : decode cX12_isDrawn 113 = .ok (.ifCond .ne 5, 3) := by decide +kernel
theorem dX12_isDrawn_116 : decode cX12_isDrawn 116 = .ok (.iconst 0, 1) := by decide +kernel
theorem dX12_isDrawn_117 : decode cX12_isDrawn 117 = .ok (.ireturn, 1) := by decide +kernel
theorem dX12_isDrawn_118 : decode cX12_isDrawn 118 = .ok (.aload_n 0, 1) := by decide +kernel
theorem dX12_isDrawn_119 : decode cX12_isDrawn 119 = .ok (.iload_n 2, 1) := by decide +kernel
theorem dX12_isDrawn_120 : decode cX12_isDrawn 120 = .ok (.iconst 0, 1) := by decide +kernel
theorem dX12_isDrawn_121 : decode cX12_isDrawn 121 = .ok (.invokevirtual 409, 3) := by decide +kernel
theorem dX12_isDrawn_124 : decode cX12_isDrawn 124 = .ok (.iconst 1, 1) := by decide +kernel
theorem dX12_isDrawn_125 : decode cX12_isDrawn 125 = .ok (.ireturn, 1) := by decide +kernel
theorem dX12_chance_0 : decode cX12_chance 0 = .ok (.aload_n 0, 1) := by decide +kernel
theorem dX12_chance_1 : decode cX12_chance 1 = .ok (.getfield 211, 3) := by decide +kernel
theorem dX12_chance_4 : decode cX12_chance 4 = .ok (.ifCond .eq 15, 3) := by decide +kernel
theorem dX12_chance_7 : decode cX12_chance 7 = .ok (.iload_n 1, 1) := by decide +kernel
theorem dX12_chance_8 : decode cX12_chance 8 = .ok (.i2l, 1) := by decide +kernel
theorem dX12_chance_9 : decode cX12_chance 9 = .ok (.lconst 1, 1) := by decide +kernel
theorem dX12_chance_10 : decode cX12_chance 10 = .ok (.ldc2_w 547, 3) := by decide +kernel
theorem dX12_chance_13 : decode cX12_chance 13 = .ok (.invokestatic 139, 3) := by decide +kernel
theorem dX12_chance_16 : decode cX12_chance 16 = .ok (.ifCond .ne 9, 3) := by decide +kernel
theorem dX12_chance_19 : decode cX12_chance 19 = .ok (.aload_n 0, 1) := by decide +kernel
theorem dX12_chance_20 : decode cX12_chance 20 = .ok (.iconst 4, 1) := by decide +kernel
theorem dX12_chance_21 : decode cX12_chance 21 = .ok (.invokevirtual 129, 3) := by decide +kernel
theorem dX12_chance_24 : decode cX12_chance 24 = .ok (.ireturn, 1) := by decide +kernel
theorem dX12_chance_25 : decode cX12_chance 25 = .ok (.aload_n 0, 1) := by decide +kernel
theorem dX12_chance_26 : decode cX12_chance 26 = .ok (.invokevirtual 513, 3) := by decide +kernel
theorem dX12_chance_29 : decode cX12_chance 29 = .ok (.iconst 0, 1) := by decide +kernel
theorem dX12_chance_30 : decode cX12_chance 30 = .ok (.istore_n 2, 1) := by decide +kernel
theorem dX12_chance_31 : decode cX12_chance 31 = .ok (.iconst 0, 1) := by decide +kernel
theorem dX12_chance_32 : decode cX12_chance 32 = .ok (.istore_n 3, 1) := by decide +kernel
theorem dX12_chance_33 : decode cX12_chance 33 = .ok (.iload_n 3, 1) := by decide +kernel
theorem dX12_chance_34 : decode cX12_chance 34 = .ok (.iload_n 1, 1) := by decide +kernel
theorem dX12_chance_35 : decode cX12_chance 35 = .ok (.if_icmp .ge 19, 3) := by decide +kernel
theorem dX12_chance_38 : decode cX12_chance 38 = .ok (.aload_n 0, 1) := by decide +kernel
theorem dX12_chance_39 : decode cX12_chance 39 = .ok (.invokevirtual 549, 3) := by decide +kernel
theorem dX12_chance_42 : decode cX12_chance 42 = .ok (.ifCond .eq 6, 3) := by decide +kernel
theorem dX12_chance_45 : decode cX12_chance 45 = .ok (.iinc 2 1, 3) := by decide +kernel
theorem dX12_chance_48 : decode cX12_chance 48 = .ok (.iinc 3 1, 3) := by decide +kernel
theorem dX12_chance_51 : decode cX12_chance 51 = .ok (.goto (-18), 3) := by decide +kernel
theorem dX12_chance_54 : decode cX12_chance 54 = .ok (.iload_n 2, 1) := by decide +kernel
theorem dX12_chance_55 : decode cX12_chance 55 = .ok (.ireturn, 1) := by decide +kernel
theorem dJ9_max_7cf53_0 : decode cJ9_max_7cf53 0 = .ok (.iload_n 0, 1) := by decide +kernel
theorem dJ9_max_7cf53_1 : decode cJ9_max_7cf53 1 = .ok (.iload_n 1, 1) := by decide +kernel
theorem dJ9_max_7cf53_2 : decode cJ9_max_7cf53 2 = .ok (.if_icmp .lt 7, 3) := by decide +kernel
theorem dJ9_max_7cf53_5 : decode cJ9_max_7cf53 5 = .ok (.iload_n 0, 1) := by decide +kernel
theorem dJ9_max_7cf53_6 : decode cJ9_max_7cf53 6 = .ok (.goto 4, 3) := by decide +kernel
theorem dJ9_max_7cf53_9 : decode cJ9_max_7cf53 9 = .ok (.iload_n 1, 1) := by decide +kernel
theorem dJ9_max_7cf53_10 : decode cJ9_max_7cf53 10 = .ok (.ireturn, 1) := by decide +kernel
theorem dJ9_min_7cf53_0 : decode cJ9_min_7cf53 0 = .ok (.iload_n 0, 1) := by decide +kernel
theorem dJ9_min_7cf53_1 : decode cJ9_min_7cf53 1 = .ok (.iload_n 1, 1) := by decide +kernel
theorem dJ9_min_7cf53_2 : decode cJ9_min_7cf53 2 = .ok (.if_icmp .gt 7, 3) := by decide +kernel
theorem dJ9_min_7cf53_5 : decode cJ9_min_7cf53 5 = .ok (.iload_n 0, 1) := by decide +kernel
theorem dJ9_min_7cf53_6 : decode cJ9_min_7cf53 6 = .ok (.goto 4, 3) := by decide +kernel
theorem dJ9_min_7cf53_9 : decode cJ9_min_7cf53 9 = .ok (.iload_n 1, 1) := by decide +kernel
theorem dJ9_min_7cf53_10 : decode cJ9_min_7cf53 10 = .ok (.ireturn, 1) := by decide +kernel
theorem dJ0_length_8abf5_0 : decode cJ0_length_8abf5 0 = .ok (.aload_n 0, 1) := by decide +kernel
theorem dJ0_length_8abf5_1 : decode cJ0_length_8abf5 1 = .ok (.getfield 9, 3) := by decide +kernel
theorem dJ0_length_8abf5_4 : decode cJ0_length_8abf5 4 = .ok (.arraylength, 1) := by decide +kernel
theorem dJ0_length_8abf5_5 : decode cJ0_length_8abf5 5 = .ok (.aload_n 0, 1) := by decide +kernel
theorem dJ0_length_8abf5_6 : decode cJ0_length_8abf5 6 = .ok (.invokevirtual 335, 3) := by decide +kernel
theorem dJ0_length_8abf5_9 : decode cJ0_length_8abf5 9 = .ok (.ishr, 1) := by decide +kernel
theorem dJ0_length_8abf5_10 : decode cJ0_length_8abf5 10 = .ok (.ireturn, 1) := by decide +kernel
theorem dJ0_charAt_5068e_0 : decode cJ0_charAt_5068e 0 = .ok (.aload_n 0, 1) := by decide +kernel
theorem dJ0_charAt_5068e_1 : decode cJ0_charAt_5068e 1 = .ok (.invokevirtual 492, 3) := by decide +kernel
theorem dJ0_charAt_5068e_4 : decode cJ0_charAt_5068e 4 = .ok (.ifCond .eq 12, 3) := by decide +kernel
theorem dJ0_charAt_5068e_7 : decode cJ0_charAt_5068e 7 = .ok (.aload_n 0, 1) := by decide +kernel
theorem dJ0_charAt_5068e_8 : decode cJ0_charAt_5068e 8 = .ok (.getfield 9, 3) := by decide +kernel
theorem dJ0_charAt_5068e_11 : decode cJ0_charAt_5068e 11 = .ok (.iload_n 1, 1) := by decide +kernel
theorem dJ0_charAt_5068e_12 : decode cJ0_charAt_5068e 12 = .ok (.invokestatic 495, 3) := by decide +kernel
theorem dJ0_charAt_5068e_15 : decode cJ0_charAt_5068e 15 = .ok (.ireturn, 1) := by decide +kernel
theorem dJ0_charAt_5068e_16 : decode cJ0_charAt_5068e 16 = .ok (.aload_n 0, 1) := by decide +kernel
theorem dJ0_charAt_5068e_17 : decode cJ0_charAt_5068e 17 = .ok (.getfield 9, 3) := by decide +kernel
theorem dJ0_charAt_5068e_20 : decode cJ0_charAt_5068e 20 = .ok (.iload_n 1, 1) := by decide +kernel
theorem dJ0_charAt_5068e_21 : decode cJ0_charAt_5068e 21 = .ok (.invokestatic 498, 3) := by decide +kernel
theorem dJ0_charAt_5068e_24 : decode cJ0_charAt_5068e 24 = .ok (.ireturn, 1) := by decide +kernel
theorem dJ0_coder_7d493_0 : decode cJ0_coder_7d493 0 = .ok (.getstatic 38, 3) := by decide +kernel
theorem dJ0_coder_7d493_3 : decode cJ0_coder_7d493 3 = .ok (.ifCond .eq 10, 3) := by decide +kernel
theorem dJ0_coder_7d493_6 : decode cJ0_coder_7d493 6 = .ok (.aload_n 0, 1) := by decide +kernel
theorem dJ0_coder_7d493_7 : decode cJ0_coder_7d493 7 = .ok (.getfield 15, 3) := by decide +kernel
theorem dJ0_coder_7d493_10 : decode cJ0_coder_7d493 10 = .ok (.goto 4, 3) := by decide +kernel
theorem dJ0_coder_7d493_13 : decode cJ0_coder_7d493 13 = .ok (.iconst 1, 1) := by decide +kernel
theorem dJ0_coder_7d493_14 : decode cJ0_coder_7d493 14 = .ok (.ireturn, 1) := by decide +kernel
theorem dJ0_isLatin1_aae02_0 : decode cJ0_isLatin1_aae02 0 = .ok (.getstatic 38, 3) := by decide +kernel
theorem dJ0_isLatin1_aae02_3 : decode cJ0_isLatin1_aae02 3 = .ok (.ifCond .eq 14, 3) := by decide +kernel
theorem dJ0_isLatin1_aae02_6 : decode cJ0_isLatin1_aae02 6 = .ok (.aload_n 0, 1) := by decide +kernel
theorem dJ0_isLatin1_aae02_7 : decode cJ0_isLatin1_aae02 7 = .ok (.getfield 15, 3) := by decide +kernel
theorem dJ0_isLatin1_aae02_10 : decode cJ0_isLatin1_aae02 10 = .ok (.ifCond .ne 7, 3) := by decide +kernel
theorem dJ0_isLatin1_aae02_13 : decode cJ0_isLatin1_aae02 13 = .ok (.iconst 1, 1) := by decide +kernel
theorem dJ0_isLatin1_aae02_14 : decode cJ0_isLatin1_aae02 14 = .ok (.goto 4, 3) := by decide +kernel
theorem dJ0_isLatin1_aae02_17 : decode cJ0_isLatin1_aae02 17 = .ok (.iconst 0, 1) := by decide +kernel
theorem dJ0_isLatin1_aae02_18 : decode cJ0_isLatin1_aae02 18 = .ok (.ireturn, 1) := by decide +kernel
theorem dJ0_checkIndex_df160_0 : decode cJ0_checkIndex_df160 0 = .ok (.iload_n 0, 1) := by decide +kernel
theorem dJ0_checkIndex_df160_1 : decode cJ0_checkIndex_df160 1 = .ok (.iload_n 1, 1) := by decide +kernel
theorem dJ0_checkIndex_df160_2 : decode cJ0_checkIndex_df160 2 = .ok (.getstatic 1053, 3) := by decide +kernel
theorem dJ0_checkIndex_df160_5 : decode cJ0_checkIndex_df160 5 = .ok (.invokestatic 1059, 3) := by decide +kernel
theorem dJ0_checkIndex_df160_8 : decode cJ0_checkIndex_df160 8 = .ok (.pop, 1) := by decide +kernel
theorem dJ0_checkIndex_df160_9 : decode cJ0_checkIndex_df160 9 = .ok (.return_, 1) := by decide +kernel
theorem dJ1_charAt_3b067_0 : decode cJ1_charAt_3b067 0 = .ok (.iload_n 1, 1) := by decide +kernel
theorem dJ1_charAt_3b067_1 : decode cJ1_charAt_3b067 1 = .ok (.aload_n 0, 1) := by decide +kernel
theorem dJ1_charAt_3b067_2 : decode cJ1_charAt_3b067 2 = .ok (.arraylength, 1) := by decide +kernel
theorem dJ1_charAt_3b067_3 : decode cJ1_charAt_3b067 3 = .ok (.invokestatic 9, 3) := by decide +kernel
theorem dJ1_charAt_3b067_6 : decode cJ1_charAt_3b067 6 = .ok (.aload_n 0, 1) := by decide +kernel
theorem dJ1_charAt_3b067_7 : decode cJ1_charAt_3b067 7 = .ok (.iload_n 1, 1) := by decide +kernel
theorem dJ1_charAt_3b067_8 : decode cJ1_charAt_3b067 8 = .ok (.baload, 1) := by decide +kernel
theorem dJ1_charAt_3b067_9 : decode cJ1_charAt_3b067 9 = .ok (.sipush 255, 3) := by decide +kernel
theorem dJ1_charAt_3b067_12 : decode cJ1_charAt_3b067 12 = .ok (.iand, 1) := by decide +kernel
theorem dJ1_charAt_3b067_13 : decode cJ1_charAt_3b067 13 = .ok (.i2c, 1) := by decide +kernel
theorem dJ1_charAt_3b067_14 : decode cJ1_charAt_3b067 14 = .ok (.ireturn, 1) := by decide +kernel
theorem dJ2_getChar_3b067_0 : decode cJ2_getChar_3b067 0 = .ok (.getstatic 44, 3) := by decide +kernel
theorem dJ2_getChar_3b067_3 : decode cJ2_getChar_3b067 3 = .ok (.ifCond .ne 25, 3) := by decide +kernel
theorem dJ2_getChar_3b067_6 : decode cJ2_getChar_3b067 6 = .ok (.iload_n 1, 1) := by decide +kernel
theorem dJ2_getChar_3b067_7 : decode cJ2_getChar_3b067 7 = .ok (.ifCond .lt 11, 3) := by decide +kernel
theorem dJ2_getChar_3b067_10 : decode cJ2_getChar_3b067 10 = .ok (.iload_n 1, 1) := by decide +kernel
theorem dJ2_getChar_3b067_11 : decode cJ2_getChar_3b067 11 = .ok (.aload_n 0, 1) := by decide +kernel
theorem dJ2_getChar_3b067_12 : decode cJ2_getChar_3b067 12 = .ok (.invokestatic 48, 3) := by decide +kernel
theorem dJ2_getChar_3b067_15 : decode cJ2_getChar_3b067 15 = .ok (.if_icmp .lt 13, 3) := by decide +kernel
theorem dJ2_getChar_3b067_18 : decode cJ2_getChar_3b067 18 = .ok (.new 52, 3) := by decide +kernel
theorem dJ2_getChar_3b067_21 : decode cJ2_getChar_3b067 21 = .ok (.dup, 1) := by decide +kernel
theorem dJ2_getChar_3b067_22 : decode cJ2_getChar_3b067 22 = .ok (.ldc 54, 2) := by decide +kernel
theorem dJ2_getChar_3b067_24 : decode cJ2_getChar_3b067 24 = .ok (.invokespecial 56, 3) := by decide +kernel
theorem dJ2_getChar_3b067_27 : decode cJ2_getChar_3b067 27 = .ok (.athrow, 1) := by decide +kernel
theorem dJ2_getChar_3b067_28 : decode cJ2_getChar_3b067 28 = .ok (.iload_n 1, 1) := by decide +kernel
theorem dJ2_getChar_3b067_29 : decode cJ2_getChar_3b067 29 = .ok (.iconst 1, 1) := by decide +kernel
theorem dJ2_getChar_3b067_30 : decode cJ2_getChar_3b067 30 = .ok (.ishl, 1) := by decide +kernel
theorem dJ2_getChar_3b067_31 : decode cJ2_getChar_3b067 31 = .ok (.istore_n 1, 1) := by decide +kernel
theorem dJ2_getChar_3b067_32 : decode cJ2_getChar_3b067 32 = .ok (.aload_n 0, 1) := by decide +kernel
theorem dJ2_getChar_3b067_33 : decode cJ2_getChar_3b067 33 = .ok (.iload_n 1, 1) := by decide +kernel
theorem dJ2_getChar_3b067_34 : decode cJ2_getChar_3b067 34 = .ok (.iinc 1 1, 3) := by decide +kernel
theorem dJ2_getChar_3b067_37 : decode cJ2_getChar_3b067 37 = .ok (.baload, 1) := by decide +kernel
theorem dJ2_getChar_3b067_38 : decode cJ2_getChar_3b067 38 = .ok (.sipush 255, 3) := by decide +kernel
theorem dJ2_getChar_3b067_41 : decode cJ2_getChar_3b067 41 = .ok (.iand, 1) := by decide +kernel
theorem dJ2_getChar_3b067_42 : decode cJ2_getChar_3b067 42 = .ok (.getstatic 59, 3) := by decide +kernel
theorem dJ2_getChar_3b067_45 : decode cJ2_getChar_3b067 45 = .ok (.ishl, 1) := by decide +kernel
theorem dJ2_getChar_3b067_46 : decode cJ2_getChar_3b067 46 = .ok (.aload_n 0, 1) := by decide +kernel
theorem dJ2_getChar_3b067_47 : decode cJ2_getChar_3b067 47 = .ok (.iload_n 1, 1) := by decide +kernel
theorem dJ2_getChar_3b067_48 : decode cJ2_getChar_3b067 48 = .ok (.baload, 1) := by decide +kernel
theorem dJ2_getChar_3b067_49 : decode cJ2_getChar_3b067 49 = .ok (.sipush 255, 3) := by decide +kernel
theorem dJ2_getChar_3b067_52 : decode cJ2_getChar_3b067 52 = .ok (.iand, 1) := by decide +kernel
theorem dJ2_getChar_3b067_53 : decode cJ2_getChar_3b067 53 = .ok (.getstatic 63, 3) := by decide +kernel
theorem dJ2_getChar_3b067_56 : decode cJ2_getChar_3b067 56 = .ok (.ishl, 1) := by decide +kernel
theorem dJ2_getChar_3b067_57 : decode cJ2_getChar_3b067 57 = .ok (.ior, 1) := by decide +kernel
theorem dJ2_getChar_3b067_58 : decode cJ2_getChar_3b067 58 = .ok (.i2c, 1) := by decide +kernel
theorem dJ2_getChar_3b067_59 : decode cJ2_getChar_3b067 59 = .ok (.ireturn, 1) := by decide +kernel
theorem dJ2_length_9d52b_0 : decode cJ2_length_9d52b 0 = .ok (.aload_n 0, 1) := by decide +kernel
theorem dJ2_length_9d52b_1 : decode cJ2_length_9d52b 1 = .ok (.arraylength, 1) := by decide +kernel
theorem dJ2_length_9d52b_2 : decode cJ2_length_9d52b 2 = .ok (.iconst 1, 1) := by decide +kernel
theorem dJ2_length_9d52b_3 : decode cJ2_length_9d52b 3 = .ok (.ishr, 1) := by decide +kernel
theorem dJ2_length_9d52b_4 : decode cJ2_length_9d52b 4 = .ok (.ireturn, 1) := by decide +kernel
theorem dJ2_charAt_3b067_0 : decode cJ2_charAt_3b067 0 = .ok (.iload_n 1, 1) := by decide +kernel
theorem dJ2_charAt_3b067_1 : decode cJ2_charAt_3b067 1 = .ok (.aload_n 0, 1) := by decide +kernel
theorem dJ2_charAt_3b067_2 : decode cJ2_charAt_3b067 2 = .ok (.invokestatic 67, 3) := by decide +kernel
theorem dJ2_charAt_3b067_5 : decode cJ2_charAt_3b067 5 = .ok (.aload_n 0, 1) := by decide +kernel
theorem dJ2_charAt_3b067_6 : decode cJ2_charAt_3b067 6 = .ok (.iload_n 1, 1) := by decide +kernel
theorem dJ2_charAt_3b067_7 : decode cJ2_charAt_3b067 7 = .ok (.invokestatic 71, 3) := by decide +kernel
theorem dJ2_charAt_3b067_10 : decode cJ2_charAt_3b067 10 = .ok (.ireturn, 1) := by decide +kernel
theorem dJ2_checkIndex_2214a_0 : decode cJ2_checkIndex_2214a 0 = .ok (.iload_n 0, 1) := by decide +kernel
theorem dJ2_checkIndex_2214a_1 : decode cJ2_checkIndex_2214a 1 = .ok (.aload_n 1, 1) := by decide +kernel
theorem dJ2_checkIndex_2214a_2 : decode cJ2_checkIndex_2214a 2 = .ok (.invokestatic 48, 3) := by decide +kernel
theorem dJ2_checkIndex_2214a_5 : decode cJ2_checkIndex_2214a 5 = .ok (.invokestatic 414, 3) := by decide +kernel
theorem dJ2_checkIndex_2214a_8 : decode cJ2_checkIndex_2214a 8 = .ok (.return_, 1) := by decide +kernel
theorem dJ7_fill_53178_0 : decode cJ7_fill_53178 0 = .ok (.iconst 0, 1) := by decide +kernel
theorem dJ7_fill_53178_1 : decode cJ7_fill_53178 1 = .ok (.istore_n 2, 1) := by decide +kernel
theorem dJ7_fill_53178_2 : decode cJ7_fill_53178 2 = .ok (.aload_n 0, 1) := by decide +kernel
theorem dJ7_fill_53178_3 : decode cJ7_fill_53178 3 = .ok (.arraylength, 1) := by decide +kernel
theorem dJ7_fill_53178_4 : decode cJ7_fill_53178 4 = .ok (.istore_n 3, 1) := by decide +kernel
theorem dJ7_fill_53178_5 : decode cJ7_fill_53178 5 = .ok (.iload_n 2, 1) := by decide +kernel
theorem dJ7_fill_53178_6 : decode cJ7_fill_53178 6 = .ok (.iload_n 3, 1) := by decide +kernel
theorem dJ7_fill_53178_7 : decode cJ7_fill_53178 7 = .ok (.if_icmp .ge 13, 3) := by decide +kernel
theorem dJ7_fill_53178_10 : decode cJ7_fill_53178 10 = .ok (.aload_n 0, 1) := by decide +kernel
theorem dJ7_fill_53178_11 : decode cJ7_fill_53178 11 = .ok (.iload_n 2, 1) := by decide +kernel
theorem dJ7_fill_53178_12 : decode cJ7_fill_53178 12 = .ok (.iload_n 1, 1) := by decide +kernel
theorem dJ7_fill_53178_13 : decode cJ7_fill_53178 13 = .ok (.iastore, 1) := by decide +kernel
theorem dJ7_fill_53178_14 : decode cJ7_fill_53178 14 = .ok (.iinc 2 1, 3) := by decide +kernel
theorem dJ7_fill_53178_17 : decode cJ7_fill_53178 17 = .ok (.goto (-12), 3) := by decide +kernel
theorem dJ7_fill_53178_20 : decode cJ7_fill_53178 20 = .ok (.return_, 1) := by decide +kernel
theorem dJ3_checkIndex_8e157_0 : decode cJ3_checkIndex_8e157 0 = .ok (.iload_n 0, 1) := by decide +kernel
theorem dJ3_checkIndex_8e157_1 : decode cJ3_checkIndex_8e157 1 = .ok (.ifCond .lt 8, 3) := by decide +kernel
theorem dJ3_checkIndex_8e157_4 : decode cJ3_checkIndex_8e157 4 = .ok (.iload_n 0, 1) := by decide +kernel
theorem dJ3_checkIndex_8e157_5 : decode cJ3_checkIndex_8e157 5 = .ok (.iload_n 1, 1) := by decide +kernel
theorem dJ3_checkIndex_8e157_6 : decode cJ3_checkIndex_8e157 6 = .ok (.if_icmp .lt 10, 3) := by decide +kernel
theorem dJ3_checkIndex_8e157_9 : decode cJ3_checkIndex_8e157 9 = .ok (.aload_n 2, 1) := by decide +kernel
theorem dJ3_checkIndex_8e157_10 : decode cJ3_checkIndex_8e157 10 = .ok (.iload_n 0, 1) := by decide +kernel
theorem dJ3_checkIndex_8e157_11 : decode cJ3_checkIndex_8e157 11 = .ok (.iload_n 1, 1) := by decide +kernel
theorem dJ3_checkIndex_8e157_12 : decode cJ3_checkIndex_8e157 12 = .ok (.invokestatic 95, 3) := by decide +kernel
theorem dJ3_checkIndex_8e157_15 : decode cJ3_checkIndex_8e157 15 = .ok (.athrow, 1) := by decide +kernel
theorem dJ3_checkIndex_8e157_16 : decode cJ3_checkIndex_8e157 16 = .ok (.iload_n 0, 1) := by decide +kernel
theorem dJ3_checkIndex_8e157_17 : decode cJ3_checkIndex_8e157 17 = .ok (.ireturn, 1) := by decide +kernel
theorem dL_law_0 : decode cL_law 0 = .ok (.new 7, 3) := by decide +kernel
theorem dL_law_3 : decode cL_law 3 = .ok (.dup, 1) := by decide +kernel
theorem dL_law_4 : decode cL_law 4 = .ok (.invokespecial 9, 3) := by decide +kernel
theorem dL_law_7 : decode cL_law 7 = .ok (.astore_n 1, 1) := by decide +kernel
theorem dL_law_8 : decode cL_law 8 = .ok (.new 10, 3) := by decide +kernel
theorem dL_law_11 : decode cL_law 11 = .ok (.dup, 1) := by decide +kernel
theorem dL_law_12 : decode cL_law 12 = .ok (.invokespecial 12, 3) := by decide +kernel
theorem dL_law_15 : decode cL_law 15 = .ok (.astore_n 2, 1) := by decide +kernel
theorem dL_law_16 : decode cL_law 16 = .ok (.iconst 0, 1) := by decide +kernel
theorem dL_law_17 : decode cL_law 17 = .ok (.istore_n 3, 1) := by decide +kernel
theorem dL_law_18 : decode cL_law 18 = .ok (.iload_n 3, 1) := by decide +kernel
theorem dL_law_19 : decode cL_law 19 = .ok (.aload_n 0, 1) := by decide +kernel
theorem dL_law_20 : decode cL_law 20 = .ok (.arraylength, 1) := by decide +kernel
theorem dL_law_21 : decode cL_law 21 = .ok (.bipush 6, 2) := by decide +kernel
theorem dL_law_23 : decode cL_law 23 = .ok (.isub, 1) := by decide +kernel
theorem dL_law_24 : decode cL_law 24 = .ok (.if_icmp .gt 1372, 3) := by decide +kernel
theorem dL_law_27 : decode cL_law 27 = .ok (.aload_n 0, 1) := by decide +kernel
theorem dL_law_28 : decode cL_law 28 = .ok (.iload_n 3, 1) := by decide +kernel
theorem dL_law_29 : decode cL_law 29 = .ok (.iaload, 1) := by decide +kernel
theorem dL_law_30 : decode cL_law 30 = .ok (.bipush 63, 2) := by decide +kernel
theorem dL_law_32 : decode cL_law 32 = .ok (.iand, 1) := by decide +kernel
theorem dL_law_33 : decode cL_law 33 = .ok (.tableswitch 1357 0 37 #[167, 230, 253, 266, 289, 312, 345, 378, 431, 474, 517, 550, 583, 616, 669, 702, 715, 748, 771, 804, 817, 840, 863, 886, 929, 972, 1005, 1038, 1091, 1124, 1147, 1170, 1219, 1252, 1275, 1298, 1311, 1334], 167) := by decide +kernel
theorem dL_law_200 : decode cL_law 200 = .ok (.aload_n 1, 1) := by decide +kernel
theorem dL_law_201 : decode cL_law 201 = .ok (.aload_n 0, 1) := by decide +kernel
theorem dL_law_202 : decode cL_law 202 = .ok (.iload_n 3, 1) := by decide +kernel
theorem dL_law_203 : decode cL_law 203 = .ok (.iconst 1, 1) := by decide +kernel
theorem dL_law_204 : decode cL_law 204 = .ok (.iadd, 1) := by decide +kernel
theorem dL_law_205 : decode cL_law 205 = .ok (.iaload, 1) := by decide +kernel
theorem dL_law_206 : decode cL_law 206 = .ok (.aload_n 0, 1) := by decide +kernel
theorem dL_law_207 : decode cL_law 207 = .ok (.iload_n 3, 1) := by decide +kernel
theorem dL_law_208 : decode cL_law 208 = .ok (.iconst 2, 1) := by decide +kernel
theorem dL_law_209 : decode cL_law 209 = .ok (.iadd, 1) := by decide +kernel
theorem dL_law_210 : decode cL_law 210 = .ok (.iaload, 1) := by decide +kernel
theorem dL_law_211 : decode cL_law 211 = .ok (.aload_n 0, 1) := by decide +kernel
theorem dL_law_212 : decode cL_law 212 = .ok (.iload_n 3, 1) := by decide +kernel
theorem dL_law_213 : decode cL_law 213 = .ok (.iconst 3, 1) := by decide +kernel
theorem dL_law_214 : decode cL_law 214 = .ok (.iadd, 1) := by decide +kernel
theorem dL_law_215 : decode cL_law 215 = .ok (.iaload, 1) := by decide +kernel
theorem dL_law_216 : decode cL_law 216 = .ok (.aload_n 0, 1) := by decide +kernel
theorem dL_law_217 : decode cL_law 217 = .ok (.iload_n 3, 1) := by decide +kernel
theorem dL_law_218 : decode cL_law 218 = .ok (.iconst 4, 1) := by decide +kernel
theorem dL_law_219 : decode cL_law 219 = .ok (.iadd, 1) := by decide +kernel
theorem dL_law_220 : decode cL_law 220 = .ok (.iaload, 1) := by decide +kernel
theorem dL_law_221 : decode cL_law 221 = .ok (.aload_n 0, 1) := by decide +kernel
theorem dL_law_222 : decode cL_law 222 = .ok (.iload_n 3, 1) := by decide +kernel
theorem dL_law_223 : decode cL_law 223 = .ok (.iconst 5, 1) := by decide +kernel
theorem dL_law_224 : decode cL_law 224 = .ok (.iadd, 1) := by decide +kernel
theorem dL_law_225 : decode cL_law 225 = .ok (.iaload, 1) := by decide +kernel
theorem dL_law_226 : decode cL_law 226 = .ok (.invokevirtual 13, 3) := by decide +kernel
theorem dL_law_229 : decode cL_law 229 = .ok (.aload_n 2, 1) := by decide +kernel
theorem dL_law_230 : decode cL_law 230 = .ok (.aload_n 0, 1) := by decide +kernel
theorem dL_law_231 : decode cL_law 231 = .ok (.iload_n 3, 1) := by decide +kernel
theorem dL_law_232 : decode cL_law 232 = .ok (.iconst 1, 1) := by decide +kernel
