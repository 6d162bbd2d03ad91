theorem dX0_init_0 : decode cX0_init 0 = .ok (.aload_n 0, 1) := by decide +kernel
theorem dX0_init_1 : decode cX0_init 1 = .ok (.invokespecial 3, 3) := by decide +kernel
theorem dX0_init_4 : decode cX0_init 4 = .ok (.aload_n 0, 1) := by decide +kernel
theorem dX0_init_5 : decode cX0_init 5 = .ok (.bipush 24, 2) := by decide +kernel
theorem dX0_init_7 : decode cX0_init 7 = .ok (.anewarray 9, 3) := by decide +kernel
theorem dX0_init_10 : decode cX0_init 10 = .ok (.putfield 11, 3) := by decide +kernel
theorem dX0_init_13 : decode cX0_init 13 = .ok (.aload_n 0, 1) := by decide +kernel
theorem dX0_init_14 : decode cX0_init 14 = .ok (.iconst 4, 1) := by decide +kernel
theorem dX0_init_15 : decode cX0_init 15 = .ok (.newarray .int, 2) := by decide +kernel
theorem dX0_init_17 : decode cX0_init 17 = .ok (.putfield 17, 3) := by decide +kernel
theorem dX0_init_20 : decode cX0_init 20 = .ok (.aload_n 0, 1) := by decide +kernel
theorem dX0_init_21 : decode cX0_init 21 = .ok (.iconst 4, 1) := by decide +kernel
theorem dX0_init_22 : decode cX0_init 22 = .ok (.newarray .int, 2) := by decide +kernel
theorem dX0_init_24 : decode cX0_init 24 = .ok (.putfield 21, 3) := by decide +kernel
theorem dX0_init_27 : decode cX0_init 27 = .ok (.aload_n 0, 1) := by decide +kernel
theorem dX0_init_28 : decode cX0_init 28 = .ok (.bipush 16, 2) := by decide +kernel
theorem dX0_init_30 : decode cX0_init 30 = .ok (.newarray .int, 2) := by decide +kernel
theorem dX0_init_32 : decode cX0_init 32 = .ok (.putfield 24, 3) := by decide +kernel
theorem dX0_init_35 : decode cX0_init 35 = .ok (.aload_n 0, 1) := by decide +kernel
theorem dX0_init_36 : decode cX0_init 36 = .ok (.bipush 16, 2) := by decide +kernel
theorem dX0_init_38 : decode cX0_init 38 = .ok (.newarray .int, 2) := by decide +kernel
theorem dX0_init_40 : decode cX0_init 40 = .ok (.putfield 27, 3) := by decide +kernel
theorem dX0_init_43 : decode cX0_init 43 = .ok (.aload_n 0, 1) := by decide +kernel
theorem dX0_init_44 : decode cX0_init 44 = .ok (.bipush 27, 2) := by decide +kernel
theorem dX0_init_46 : decode cX0_init 46 = .ok (.newarray .int, 2) := by decide +kernel
theorem dX0_init_48 : decode cX0_init 48 = .ok (.putfield 30, 3) := by decide +kernel
theorem dX0_init_51 : decode cX0_init 51 = .ok (.aload_n 0, 1) := by decide +kernel
theorem dX0_init_52 : decode cX0_init 52 = .ok (.iconst 0, 1) := by decide +kernel
theorem dX0_init_53 : decode cX0_init 53 = .ok (.putfield 33, 3) := by decide +kernel
theorem dX0_init_56 : decode cX0_init 56 = .ok (.aload_n 0, 1) := by decide +kernel
theorem dX0_init_57 : decode cX0_init 57 = .ok (.iconst 0, 1) := by decide +kernel
theorem dX0_init_58 : decode cX0_init 58 = .ok (.putfield 37, 3) := by decide +kernel
theorem dX0_init_61 : decode cX0_init 61 = .ok (.aload_n 0, 1) := by decide +kernel
theorem dX0_init_62 : decode cX0_init 62 = .ok (.iconst 0, 1) := by decide +kernel
theorem dX0_init_63 : decode cX0_init 63 = .ok (.putfield 40, 3) := by decide +kernel
theorem dX0_init_66 : decode cX0_init 66 = .ok (.aload_n 0, 1) := by decide +kernel
theorem dX0_init_67 : decode cX0_init 67 = .ok (.iconst (-1), 1) := by decide +kernel
theorem dX0_init_68 : decode cX0_init 68 = .ok (.putfield 43, 3) := by decide +kernel
theorem dX0_init_71 : decode cX0_init 71 = .ok (.iconst 0, 1) := by decide +kernel
theorem dX0_init_72 : decode cX0_init 72 = .ok (.istore_n 1, 1) := by decide +kernel
theorem dX0_init_73 : decode cX0_init 73 = .ok (.iload_n 1, 1) := by decide +kernel
theorem dX0_init_74 : decode cX0_init 74 = .ok (.aload_n 0, 1) := by decide +kernel
theorem dX0_init_75 : decode cX0_init 75 = .ok (.getfield 11, 3) := by decide +kernel
theorem dX0_init_78 : decode cX0_init 78 = .ok (.arraylength, 1) := by decide +kernel
theorem dX0_init_79 : decode cX0_init 79 = .ok (.if_icmp .ge 22, 3) := by decide +kernel
theorem dX0_init_82 : decode cX0_init 82 = .ok (.aload_n 0, 1) := by decide +kernel
theorem dX0_init_83 : decode cX0_init 83 = .ok (.getfield 11, 3) := by decide +kernel
theorem dX0_init_86 : decode cX0_init 86 = .ok (.iload_n 1, 1) := by decide +kernel
theorem dX0_init_87 : decode cX0_init 87 = .ok (.new 9, 3) := by decide +kernel
theorem dX0_init_90 : decode cX0_init 90 = .ok (.dup, 1) := by decide +kernel
theorem dX0_init_91 : decode cX0_init 91 = .ok (.invokespecial 46, 3) := by decide +kernel
theorem dX0_init_94 : decode cX0_init 94 = .ok (.aastore, 1) := by decide +kernel
theorem dX0_init_95 : decode cX0_init 95 = .ok (.iinc 1 1, 3) := by decide +kernel
theorem dX0_init_98 : decode cX0_init 98 = .ok (.goto (-25), 3) := by decide +kernel
theorem dX0_init_101 : decode cX0_init 101 = .ok (.return_, 1) := by decide +kernel
theorem dX0_reckon_0 : decode cX0_reckon 0 = .ok (.aload_n 0, 1) := by decide +kernel
theorem dX0_reckon_1 : decode cX0_reckon 1 = .ok (.iconst 0, 1) := by decide +kernel
theorem dX0_reckon_2 : decode cX0_reckon 2 = .ok (.putfield 33, 3) := by decide +kernel
theorem dX0_reckon_5 : decode cX0_reckon 5 = .ok (.aload_n 0, 1) := by decide +kernel
theorem dX0_reckon_6 : decode cX0_reckon 6 = .ok (.iconst 1, 1) := by decide +kernel
theorem dX0_reckon_7 : decode cX0_reckon 7 = .ok (.putfield 37, 3) := by decide +kernel
theorem dX0_reckon_10 : decode cX0_reckon 10 = .ok (.iconst 0, 1) := by decide +kernel
theorem dX0_reckon_11 : decode cX0_reckon 11 = .ok (.istore_n 3, 1) := by decide +kernel
theorem dX0_reckon_12 : decode cX0_reckon 12 = .ok (.iload_n 3, 1) := by decide +kernel
theorem dX0_reckon_13 : decode cX0_reckon 13 = .ok (.aload_n 1, 1) := by decide +kernel
theorem dX0_reckon_14 : decode cX0_reckon 14 = .ok (.getfield 47, 3) := by decide +kernel
theorem dX0_reckon_17 : decode cX0_reckon 17 = .ok (.if_icmp .ge 61, 3) := by decide +kernel
theorem dX0_reckon_20 : decode cX0_reckon 20 = .ok (.iload_n 3, 1) := by decide +kernel
theorem dX0_reckon_21 : decode cX0_reckon 21 = .ok (.aload_n 0, 1) := by decide +kernel
theorem dX0_reckon_22 : decode cX0_reckon 22 = .ok (.getfield 17, 3) := by decide +kernel
theorem dX0_reckon_25 : decode cX0_reckon 25 = .ok (.arraylength, 1) := by decide +kernel
theorem dX0_reckon_26 : decode cX0_reckon 26 = .ok (.if_icmp .ge 52, 3) := by decide +kernel
theorem dX0_reckon_29 : decode cX0_reckon 29 = .ok (.aload_n 1, 1) := by decide +kernel
theorem dX0_reckon_30 : decode cX0_reckon 30 = .ok (.getfield 50, 3) := by decide +kernel
theorem dX0_reckon_33 : decode cX0_reckon 33 = .ok (.iload_n 3, 1) := by decide +kernel
theorem dX0_reckon_34 : decode cX0_reckon 34 = .ok (.aaload, 1) := by decide +kernel
theorem dX0_reckon_35 : decode cX0_reckon 35 = .ok (.getfield 54, 3) := by decide +kernel
theorem dX0_reckon_38 : decode cX0_reckon 38 = .ok (.iconst (-1), 1) := by decide +kernel
theorem dX0_reckon_39 : decode cX0_reckon 39 = .ok (.if_icmp .eq 33, 3) := by decide +kernel
theorem dX0_reckon_42 : decode cX0_reckon 42 = .ok (.aload_n 0, 1) := by decide +kernel
theorem dX0_reckon_43 : decode cX0_reckon 43 = .ok (.getfield 17, 3) := by decide +kernel
theorem dX0_reckon_46 : decode cX0_reckon 46 = .ok (.aload_n 0, 1) := by decide +kernel
theorem dX0_reckon_47 : decode cX0_reckon 47 = .ok (.dup, 1) := by decide +kernel
theorem dX0_reckon_48 : decode cX0_reckon 48 = .ok (.getfield 33, 3) := by decide +kernel
theorem dX0_reckon_51 : decode cX0_reckon 51 = .ok (.dup_x1, 1) := by decide +kernel
theorem dX0_reckon_52 : decode cX0_reckon 52 = .ok (.iconst 1, 1) := by decide +kernel
theorem dX0_reckon_53 : decode cX0_reckon 53 = .ok (.iadd, 1) := by decide +kernel
theorem dX0_reckon_54 : decode cX0_reckon 54 = .ok (.putfield 33, 3) := by decide +kernel
theorem dX0_reckon_57 : decode cX0_reckon 57 = .ok (.iload_n 3, 1) := by decide +kernel
theorem dX0_reckon_58 : decode cX0_reckon 58 = .ok (.iastore, 1) := by decide +kernel
theorem dX0_reckon_59 : decode cX0_reckon 59 = .ok (.aload_n 0, 1) := by decide +kernel
theorem dX0_reckon_60 : decode cX0_reckon 60 = .ok (.dup, 1) := by decide +kernel
theorem dX0_reckon_61 : decode cX0_reckon 61 = .ok (.getfield 37, 3) := by decide +kernel
theorem dX0_reckon_64 : decode cX0_reckon 64 = .ok (.aload_n 0, 1) := by decide +kernel
theorem dX0_reckon_65 : decode cX0_reckon 65 = .ok (.getfield 33, 3) := by decide +kernel
theorem dX0_reckon_68 : decode cX0_reckon 68 = .ok (.imul, 1) := by decide +kernel
theorem dX0_reckon_69 : decode cX0_reckon 69 = .ok (.putfield 37, 3) := by decide +kernel
theorem dX0_reckon_72 : decode cX0_reckon 72 = .ok (.iinc 3 1, 3) := by decide +kernel
theorem dX0_reckon_75 : decode cX0_reckon 75 = .ok (.goto (-63), 3) := by decide +kernel
theorem dX0_reckon_78 : decode cX0_reckon 78 = .ok (.iconst 0, 1) := by decide +kernel
theorem dX0_reckon_79 : decode cX0_reckon 79 = .ok (.istore_n 3, 1) := by decide +kernel
theorem dX0_reckon_80 : decode cX0_reckon 80 = .ok (.iload_n 3, 1) := by decide +kernel
theorem dX0_reckon_81 : decode cX0_reckon 81 = .ok (.aload_n 0, 1) := by decide +kernel
theorem dX0_reckon_82 : decode cX0_reckon 82 = .ok (.getfield 37, 3) := by decide +kernel
theorem dX0_reckon_85 : decode cX0_reckon 85 = .ok (.if_icmp .ge 43, 3) := by decide +kernel
theorem dX0_reckon_88 : decode cX0_reckon 88 = .ok (.iload_n 3, 1) := by decide +kernel
theorem dX0_reckon_89 : decode cX0_reckon 89 = .ok (.aload_n 0, 1) := by decide +kernel
theorem dX0_reckon_90 : decode cX0_reckon 90 = .ok (.getfield 11, 3) := by decide +kernel
theorem dX0_reckon_93 : decode cX0_reckon 93 = .ok (.arraylength, 1) := by decide +kernel
theorem dX0_reckon_94 : decode cX0_reckon 94 = .ok (.if_icmp .ge 34, 3) := by decide +kernel
theorem dX0_reckon_97 : decode cX0_reckon 97 = .ok (.aload_n 2, 1) := by decide +kernel
theorem dX0_reckon_98 : decode cX0_reckon 98 = .ok (.aload_n 1, 1) := by decide +kernel
theorem dX0_reckon_99 : decode cX0_reckon 99 = .ok (.iconst 0, 1) := by decide +kernel
theorem dX0_reckon_100 : decode cX0_reckon 100 = .ok (.invokevirtual 59, 3) := by decide +kernel
theorem dX0_reckon_103 : decode cX0_reckon 103 = .ok (.aload_n 0, 1) := by decide +kernel
theorem dX0_reckon_104 : decode cX0_reckon 104 = .ok (.iload_n 3, 1) := by decide +kernel
theorem dX0_reckon_105 : decode cX0_reckon 105 = .ok (.aload_n 2, 1) := by decide +kernel
theorem dX0_reckon_106 : decode cX0_reckon 106 = .ok (.invokevirtual 63, 3) := by decide +kernel
theorem dX0_reckon_109 : decode cX0_reckon 109 = .ok (.aload_n 0, 1) := by decide +kernel
theorem dX0_reckon_110 : decode cX0_reckon 110 = .ok (.getfield 11, 3) := by decide +kernel
theorem dX0_reckon_113 : decode cX0_reckon 113 = .ok (.iload_n 3, 1) := by decide +kernel
theorem dX0_reckon_114 : decode cX0_reckon 114 = .ok (.aaload, 1) := by decide +kernel
theorem dX0_reckon_115 : decode cX0_reckon 115 = .ok (.aload_n 2, 1) := by decide +kernel
theorem dX0_reckon_116 : decode cX0_reckon 116 = .ok (.getfield 67, 3) := by decide +kernel
theorem dX0_reckon_119 : decode cX0_reckon 119 = .ok (.invokevirtual 71, 3) := by decide +kernel
theorem dX0_reckon_122 : decode cX0_reckon 122 = .ok (.iinc 3 1, 3) := by decide +kernel
theorem dX0_reckon_125 : decode cX0_reckon 125 = .ok (.goto (-45), 3) := by decide +kernel
theorem dX0_reckon_128 : decode cX0_reckon 128 = .ok (.return_, 1) := by decide +kernel
theorem dX0_takeInOrder_0 : decode cX0_takeInOrder 0 = .ok (.aload_n 0, 1) := by decide +kernel
theorem dX0_takeInOrder_1 : decode cX0_takeInOrder 1 = .ok (.getfield 17, 3) := by decide +kernel
theorem dX0_takeInOrder_4 : decode cX0_takeInOrder 4 = .ok (.iconst 0, 1) := by decide +kernel
theorem dX0_takeInOrder_5 : decode cX0_takeInOrder 5 = .ok (.aload_n 0, 1) := by decide +kernel
theorem dX0_takeInOrder_6 : decode cX0_takeInOrder 6 = .ok (.getfield 21, 3) := by decide +kernel
theorem dX0_takeInOrder_9 : decode cX0_takeInOrder 9 = .ok (.iconst 0, 1) := by decide +kernel
theorem dX0_takeInOrder_10 : decode cX0_takeInOrder 10 = .ok (.aload_n 0, 1) := by decide +kernel
theorem dX0_takeInOrder_11 : decode cX0_takeInOrder 11 = .ok (.getfield 33, 3) := by decide +kernel
theorem dX0_takeInOrder_14 : decode cX0_takeInOrder 14 = .ok (.invokestatic 74, 3) := by decide +kernel
theorem dX0_takeInOrder_17 : decode cX0_takeInOrder 17 = .ok (.iload_n 1, 1) := by decide +kernel
theorem dX0_takeInOrder_18 : decode cX0_takeInOrder 18 = .ok (.istore_n 3, 1) := by decide +kernel
theorem dX0_takeInOrder_19 : decode cX0_takeInOrder 19 = .ok (.aload_n 0, 1) := by decide +kernel
theorem dX0_takeInOrder_20 : decode cX0_takeInOrder 20 = .ok (.getfield 37, 3) := by decide +kernel
theorem dX0_takeInOrder_23 : decode cX0_takeInOrder 23 = .ok (.istore 4, 2) := by decide +kernel
theorem dX0_takeInOrder_25 : decode cX0_takeInOrder 25 = .ok (.aload_n 0, 1) := by decide +kernel
theorem dX0_takeInOrder_26 : decode cX0_takeInOrder 26 = .ok (.getfield 33, 3) := by decide +kernel
theorem dX0_takeInOrder_29 : decode cX0_takeInOrder 29 = .ok (.istore 5, 2) := by decide +kernel
theorem dX0_takeInOrder_31 : decode cX0_takeInOrder 31 = .ok (.iload 5, 2) := by decide +kernel
theorem dX0_takeInOrder_33 : decode cX0_takeInOrder 33 = .ok (.ifCond .le 81, 3) := by decide +kernel
theorem dX0_takeInOrder_36 : decode cX0_takeInOrder 36 = .ok (.iload 4, 2) := by decide +kernel
theorem dX0_takeInOrder_38 : decode cX0_takeInOrder 38 = .ok (.iload 5, 2) := by decide +kernel
theorem dX0_takeInOrder_40 : decode cX0_takeInOrder 40 = .ok (.idiv, 1) := by decide +kernel
theorem dX0_takeInOrder_41 : decode cX0_takeInOrder 41 = .ok (.istore 4, 2) := by decide +kernel
theorem dX0_takeInOrder_43 : decode cX0_takeInOrder 43 = .ok (.iload 4, 2) := by decide +kernel
theorem dX0_takeInOrder_45 : decode cX0_takeInOrder 45 = .ok (.ifCond .le 10, 3) := by decide +kernel
theorem dX0_takeInOrder_48 : decode cX0_takeInOrder 48 = .ok (.iload_n 3, 1) := by decide +kernel
theorem dX0_takeInOrder_49 : decode cX0_takeInOrder 49 = .ok (.iload 4, 2) := by decide +kernel
theorem dX0_takeInOrder_51 : decode cX0_takeInOrder 51 = .ok (.idiv, 1) := by decide +kernel
theorem dX0_takeInOrder_52 : decode cX0_takeInOrder 52 = .ok (.goto 4, 3) := by decide +kernel
theorem dX0_takeInOrder_55 : decode cX0_takeInOrder 55 = .ok (.iconst 0, 1) := by decide +kernel
theorem dX0_takeInOrder_56 : decode cX0_takeInOrder 56 = .ok (.istore 6, 2) := by decide +kernel
theorem dX0_takeInOrder_58 : decode cX0_takeInOrder 58 = .ok (.iload_n 3, 1) := by decide +kernel
theorem dX0_takeInOrder_59 : decode cX0_takeInOrder 59 = .ok (.iload 6, 2) := by decide +kernel
theorem dX0_takeInOrder_61 : decode cX0_takeInOrder 61 = .ok (.iload 4, 2) := by decide +kernel
theorem dX0_takeInOrder_63 : decode cX0_takeInOrder 63 = .ok (.imul, 1) := by decide +kernel
theorem dX0_takeInOrder_64 : decode cX0_takeInOrder 64 = .ok (.isub, 1) := by decide +kernel
theorem dX0_takeInOrder_65 : decode cX0_takeInOrder 65 = .ok (.istore_n 3, 1) := by decide +kernel
theorem dX0_takeInOrder_66 : decode cX0_takeInOrder 66 = .ok (.iload 6, 2) := by decide +kernel
theorem dX0_takeInOrder_68 : decode cX0_takeInOrder 68 = .ok (.iload 5, 2) := by decide +kernel
theorem dX0_takeInOrder_70 : decode cX0_takeInOrder 70 = .ok (.if_icmp .ge 38, 3) := by decide +kernel
theorem dX0_takeInOrder_73 : decode cX0_takeInOrder 73 = .ok (.aload_n 2, 1) := by decide +kernel
theorem dX0_takeInOrder_74 : decode cX0_takeInOrder 74 = .ok (.aload_n 0, 1) := by decide +kernel
theorem dX0_takeInOrder_75 : decode cX0_takeInOrder 75 = .ok (.getfield 21, 3) := by decide +kernel
theorem dX0_takeInOrder_78 : decode cX0_takeInOrder 78 = .ok (.iload 6, 2) := by decide +kernel
theorem dX0_takeInOrder_80 : decode cX0_takeInOrder 80 = .ok (.iaload, 1) := by decide +kernel
theorem dX0_takeInOrder_81 : decode cX0_takeInOrder 81 = .ok (.invokevirtual 80, 3) := by decide +kernel
theorem dX0_takeInOrder_84 : decode cX0_takeInOrder 84 = .ok (.aload_n 0, 1) := by decide +kernel
theorem dX0_takeInOrder_85 : decode cX0_takeInOrder 85 = .ok (.getfield 21, 3) := by decide +kernel
theorem dX0_takeInOrder_88 : decode cX0_takeInOrder 88 = .ok (.iload 6, 2) := by decide +kernel
theorem dX0_takeInOrder_90 : decode cX0_takeInOrder 90 = .ok (.iconst 1, 1) := by decide +kernel
theorem dX0_takeInOrder_91 : decode cX0_takeInOrder 91 = .ok (.iadd, 1) := by decide +kernel
theorem dX0_takeInOrder_92 : decode cX0_takeInOrder 92 = .ok (.aload_n 0, 1) := by decide +kernel
theorem dX0_takeInOrder_93 : decode cX0_takeInOrder 93 = .ok (.getfield 21, 3) := by decide +kernel
theorem dX0_takeInOrder_96 : decode cX0_takeInOrder 96 = .ok (.iload 6, 2) := by decide +kernel
theorem dX0_takeInOrder_98 : decode cX0_takeInOrder 98 = .ok (.iload 5, 2) := by decide +kernel
theorem dX0_takeInOrder_100 : decode cX0_takeInOrder 100 = .ok (.iload 6, 2) := by decide +kernel
theorem dX0_takeInOrder_102 : decode cX0_takeInOrder 102 = .ok (.isub, 1) := by decide +kernel
theorem dX0_takeInOrder_103 : decode cX0_takeInOrder 103 = .ok (.iconst 1, 1) := by decide +kernel
theorem dX0_takeInOrder_104 : decode cX0_takeInOrder 104 = .ok (.isub, 1) := by decide +kernel
theorem dX0_takeInOrder_105 : decode cX0_takeInOrder 105 = .ok (.invokestatic 74, 3) := by decide +kernel
theorem dX0_takeInOrder_108 : decode cX0_takeInOrder 108 = .ok (.iinc 5 (-1), 3) := by decide +kernel
theorem dX0_takeInOrder_111 : decode cX0_takeInOrder 111 = .ok (.goto (-80), 3) := by decide +kernel
theorem dX0_takeInOrder_114 : decode cX0_takeInOrder 114 = .ok (.return_, 1) := by decide +kernel
theorem dX0_countUnlike_0 : decode cX0_countUnlike 0 = .ok (.iconst 0, 1) := by decide +kernel
theorem dX0_countUnlike_1 : decode cX0_countUnlike 1 = .ok (.istore_n 1, 1) := by decide +kernel
theorem dX0_countUnlike_2 : decode cX0_countUnlike 2 = .ok (.iconst 0, 1) := by decide +kernel
theorem dX0_countUnlike_3 : decode cX0_countUnlike 3 = .ok (.istore_n 2, 1) := by decide +kernel
theorem dX0_countUnlike_4 : decode cX0_countUnlike 4 = .ok (.iload_n 2, 1) := by decide +kernel
theorem dX0_countUnlike_5 : decode cX0_countUnlike 5 = .ok (.aload_n 0, 1) := by decide +kernel
theorem dX0_countUnlike_6 : decode cX0_countUnlike 6 = .ok (.getfield 37, 3) := by decide +kernel
theorem dX0_countUnlike_9 : decode cX0_countUnlike 9 = .ok (.if_icmp .ge 67, 3) := by decide +kernel
theorem dX0_countUnlike_12 : decode cX0_countUnlike 12 = .ok (.iconst 1, 1) := by decide +kernel
theorem dX0_countUnlike_13 : decode cX0_countUnlike 13 = .ok (.istore_n 3, 1) := by decide +kernel
theorem dX0_countUnlike_14 : decode cX0_countUnlike 14 = .ok (.iconst 0, 1) := by decide +kernel
theorem dX0_countUnlike_15 : decode cX0_countUnlike 15 = .ok (.istore 4, 2) := by decide +kernel
theorem dX0_countUnlike_17 : decode cX0_countUnlike 17 = .ok (.iload 4, 2) := by decide +kernel
theorem dX0_countUnlike_19 : decode cX0_countUnlike 19 = .ok (.iload_n 2, 1) := by decide +kernel
theorem dX0_countUnlike_20 : decode cX0_countUnlike 20 = .ok (.if_icmp .ge 38, 3) := by decide +kernel
theorem dX0_countUnlike_23 : decode cX0_countUnlike 23 = .ok (.iload_n 3, 1) := by decide +kernel
theorem dX0_countUnlike_24 : decode cX0_countUnlike 24 = .ok (.ifCond .eq 34, 3) := by decide +kernel
theorem dX0_countUnlike_27 : decode cX0_countUnlike 27 = .ok (.aload_n 0, 1) := by decide +kernel
theorem dX0_countUnlike_28 : decode cX0_countUnlike 28 = .ok (.getfield 11, 3) := by decide +kernel
theorem dX0_countUnlike_31 : decode cX0_countUnlike 31 = .ok (.iload_n 2, 1) := by decide +kernel
theorem dX0_countUnlike_32 : decode cX0_countUnlike 32 = .ok (.aaload, 1) := by decide +kernel
theorem dX0_countUnlike_33 : decode cX0_countUnlike 33 = .ok (.aload_n 0, 1) := by decide +kernel
theorem dX0_countUnlike_34 : decode cX0_countUnlike 34 = .ok (.getfield 11, 3) := by decide +kernel
theorem dX0_countUnlike_37 : decode cX0_countUnlike 37 = .ok (.iload 4, 2) := by decide +kernel
theorem dX0_countUnlike_39 : decode cX0_countUnlike 39 = .ok (.aaload, 1) := by decide +kernel
theorem dX0_countUnlike_40 : decode cX0_countUnlike 40 = .ok (.invokevirtual 84, 3) := by decide +kernel
theorem dX0_countUnlike_43 : decode cX0_countUnlike 43 = .ok (.ifCond .ne 7, 3) := by decide +kernel
theorem dX0_countUnlike_46 : decode cX0_countUnlike 46 = .ok (.iconst 1, 1) := by decide +kernel
theorem dX0_countUnlike_47 : decode cX0_countUnlike 47 = .ok (.goto 4, 3) := by decide +kernel
theorem dX0_countUnlike_50 : decode cX0_countUnlike 50 = .ok (.iconst 0, 1) := by decide +kernel
theorem dX0_countUnlike_51 : decode cX0_countUnlike 51 = .ok (.istore_n 3, 1) := by decide +kernel
theorem dX0_countUnlike_52 : decode cX0_countUnlike 52 = .ok (.iinc 4 1, 3) := by decide +kernel
theorem dX0_countUnlike_55 : decode cX0_countUnlike 55 = .ok (.goto (-38), 3) := by decide +kernel
theorem dX0_countUnlike_58 : decode cX0_countUnlike 58 = .ok (.iload_n 1, 1) := by decide +kernel
theorem dX0_countUnlike_59 : decode cX0_countUnlike 59 = .ok (.iload_n 3, 1) := by decide +kernel
theorem dX0_countUnlike_60 : decode cX0_countUnlike 60 = .ok (.ifCond .eq 7, 3) := by decide +kernel
theorem dX0_countUnlike_63 : decode cX0_countUnlike 63 = .ok (.iconst 1, 1) := by decide +kernel
theorem dX0_countUnlike_64 : decode cX0_countUnlike 64 = .ok (.goto 4, 3) := by decide +kernel
theorem dX0_countUnlike_67 : decode cX0_countUnlike 67 = .ok (.iconst 0, 1) := by decide +kernel
theorem dX0_countUnlike_68 : decode cX0_countUnlike 68 = .ok (.iadd, 1) := by decide +kernel
theorem dX0_countUnlike_69 : decode cX0_countUnlike 69 = .ok (.istore_n 1, 1) := by decide +kernel
theorem dX0_countUnlike_70 : decode cX0_countUnlike 70 = .ok (.iinc 2 1, 3) := by decide +kernel
theorem dX0_countUnlike_73 : decode cX0_countUnlike 73 = .ok (.goto (-69), 3) := by decide +kernel
theorem dX0_countUnlike_76 : decode cX0_countUnlike 76 = .ok (.iload_n 1, 1) := by decide +kernel
theorem dX0_countUnlike_77 : decode cX0_countUnlike 77 = .ok (.ireturn, 1) := by decide +kernel
theorem dX0_canSee_0 : decode cX0_canSee 0 = .ok (.iload_n 2, 1) := by decide +kernel
theorem dX0_canSee_1 : decode cX0_canSee 1 = .ok (.iconst 2, 1) := by decide +kernel
theorem dX0_canSee_2 : decode cX0_canSee 2 = .ok (.if_icmp .lt 21, 3) := by decide +kernel
theorem dX0_canSee_5 : decode cX0_canSee 5 = .ok (.iload_n 2, 1) := by decide +kernel
theorem dX0_canSee_6 : decode cX0_canSee 6 = .ok (.bipush 32, 2) := by decide +kernel
theorem dX0_canSee_8 : decode cX0_canSee 8 = .ok (.if_icmp .gt 15, 3) := by decide +kernel
theorem dX0_canSee_11 : decode cX0_canSee 11 = .ok (.iload_n 2, 1) := by decide +kernel
theorem dX0_canSee_12 : decode cX0_canSee 12 = .ok (.iconst 2, 1) := by decide +kernel
theorem dX0_canSee_13 : decode cX0_canSee 13 = .ok (.irem, 1) := by decide +kernel
theorem dX0_canSee_14 : decode cX0_canSee 14 = .ok (.ifCond .ne 9, 3) := by decide +kernel
theorem dX0_canSee_17 : decode cX0_canSee 17 = .ok (.iload_n 2, 1) := by decide +kernel
theorem dX0_canSee_18 : decode cX0_canSee 18 = .ok (.aload_n 1, 1) := by decide +kernel
theorem dX0_canSee_19 : decode cX0_canSee 19 = .ok (.arraylength, 1) := by decide +kernel
theorem dX0_canSee_20 : decode cX0_canSee 20 = .ok (.if_icmp .le 5, 3) := by decide +kernel
theorem dX0_canSee_23 : decode cX0_canSee 23 = .ok (.iconst 0, 1) := by decide +kernel
theorem dX0_canSee_24 : decode cX0_canSee 24 = .ok (.ireturn, 1) := by decide +kernel
theorem dX0_canSee_25 : decode cX0_canSee 25 = .ok (.iconst 0, 1) := by decide +kernel
theorem dX0_canSee_26 : decode cX0_canSee 26 = .ok (.istore_n 3, 1) := by decide +kernel
theorem dX0_canSee_27 : decode cX0_canSee 27 = .ok (.iload_n 3, 1) := by decide +kernel
theorem dX0_canSee_28 : decode cX0_canSee 28 = .ok (.iconst 1, 1) := by decide +kernel
theorem dX0_canSee_29 : decode cX0_canSee 29 = .ok (.iadd, 1) := by decide +kernel
theorem dX0_canSee_30 : decode cX0_canSee 30 = .ok (.iload_n 2, 1) := by decide +kernel
theorem dX0_canSee_31 : decode cX0_canSee 31 = .ok (.if_icmp .ge 30, 3) := by decide +kernel
theorem dX0_canSee_34 : decode cX0_canSee 34 = .ok (.aload_n 1, 1) := by decide +kernel
theorem dX0_canSee_35 : decode cX0_canSee 35 = .ok (.iload_n 3, 1) := by decide +kernel
theorem dX0_canSee_36 : decode cX0_canSee 36 = .ok (.iaload, 1) := by decide +kernel
theorem dX0_canSee_37 : decode cX0_canSee 37 = .ok (.sipush 240, 3) := by decide +kernel
theorem dX0_canSee_40 : decode cX0_canSee 40 = .ok (.if_icmp .ge 13, 3) := by decide +kernel
theorem dX0_canSee_43 : decode cX0_canSee 43 = .ok (.aload_n 1, 1) := by decide +kernel
theorem dX0_canSee_44 : decode cX0_canSee 44 = .ok (.iload_n 3, 1) := by decide +kernel
theorem dX0_canSee_45 : decode cX0_canSee 45 = .ok (.iconst 1, 1) := by decide +kernel
theorem dX0_canSee_46 : decode cX0_canSee 46 = .ok (.iadd, 1) := by decide +kernel
theorem dX0_canSee_47 : decode cX0_canSee 47 = .ok (.iaload, 1) := by decide +kernel
theorem dX0_canSee_48 : decode cX0_canSee 48 = .ok (.bipush 26, 2) := by decide +kernel
theorem dX0_canSee_50 : decode cX0_canSee 50 = .ok (.if_icmp .le 5, 3) := by decide +kernel
theorem dX0_canSee_53 : decode cX0_canSee 53 = .ok (.iconst 0, 1) := by decide +kernel
theorem dX0_canSee_54 : decode cX0_canSee 54 = .ok (.ireturn, 1) := by decide +kernel
theorem dX0_canSee_55 : decode cX0_canSee 55 = .ok (.iinc 3 2, 3) := by decide +kernel
theorem dX0_canSee_58 : decode cX0_canSee 58 = .ok (.goto (-31), 3) := by decide +kernel
theorem dX0_canSee_61 : decode cX0_canSee 61 = .ok (.iconst 1, 1) := by decide +kernel
theorem dX0_canSee_62 : decode cX0_canSee 62 = .ok (.ireturn, 1) := by decide +kernel
theorem dX0_setSeen_0 : decode cX0_setSeen 0 = .ok (.aload_n 0, 1) := by decide +kernel
theorem dX0_setSeen_1 : decode cX0_setSeen 1 = .ok (.iload_n 2, 1) := by decide +kernel
theorem dX0_setSeen_2 : decode cX0_setSeen 2 = .ok (.iconst 2, 1) := by decide +kernel
theorem dX0_setSeen_3 : decode cX0_setSeen 3 = .ok (.idiv, 1) := by decide +kernel
theorem dX0_setSeen_4 : decode cX0_setSeen 4 = .ok (.bipush 16, 2) := by decide +kernel
theorem dX0_setSeen_6 : decode cX0_setSeen 6 = .ok (.invokestatic 88, 3) := by decide +kernel
theorem dX0_setSeen_9 : decode cX0_setSeen 9 = .ok (.putfield 40, 3) := by decide +kernel
theorem dX0_setSeen_12 : decode cX0_setSeen 12 = .ok (.iconst 0, 1) := by decide +kernel
theorem dX0_setSeen_13 : decode cX0_setSeen 13 = .ok (.istore_n 3, 1) := by decide +kernel
theorem dX0_setSeen_14 : decode cX0_setSeen 14 = .ok (.iload_n 3, 1) := by decide +kernel
theorem dX0_setSeen_15 : decode cX0_setSeen 15 = .ok (.aload_n 0, 1) := by decide +kernel
theorem dX0_setSeen_16 : decode cX0_setSeen 16 = .ok (.getfield 40, 3) := by decide +kernel
theorem dX0_setSeen_19 : decode cX0_setSeen 19 = .ok (.if_icmp .ge 43, 3) := by decide +kernel
theorem dX0_setSeen_22 : decode cX0_setSeen 22 = .ok (.iconst 2, 1) := by decide +kernel
theorem dX0_setSeen_23 : decode cX0_setSeen 23 = .ok (.iload_n 3, 1) := by decide +kernel
theorem dX0_setSeen_24 : decode cX0_setSeen 24 = .ok (.imul, 1) := by decide +kernel
theorem dX0_setSeen_25 : decode cX0_setSeen 25 = .ok (.iconst 1, 1) := by decide +kernel
theorem dX0_setSeen_26 : decode cX0_setSeen 26 = .ok (.iadd, 1) := by decide +kernel
theorem dX0_setSeen_27 : decode cX0_setSeen 27 = .ok (.aload_n 1, 1) := by decide +kernel
theorem dX0_setSeen_28 : decode cX0_setSeen 28 = .ok (.arraylength, 1) := by decide +kernel
theorem dX0_setSeen_29 : decode cX0_setSeen 29 = .ok (.if_icmp .ge 33, 3) := by decide +kernel
theorem dX0_setSeen_32 : decode cX0_setSeen 32 = .ok (.aload_n 0, 1) := by decide +kernel
theorem dX0_setSeen_33 : decode cX0_setSeen 33 = .ok (.getfield 24, 3) := by decide +kernel
theorem dX0_setSeen_36 : decode cX0_setSeen 36 = .ok (.iload_n 3, 1) := by decide +kernel
theorem dX0_setSeen_37 : decode cX0_setSeen 37 = .ok (.aload_n 1, 1) := by decide +kernel
theorem dX0_setSeen_38 : decode cX0_setSeen 38 = .ok (.iconst 2, 1) := by decide +kernel
theorem dX0_setSeen_39 : decode cX0_setSeen 39 = .ok (.iload_n 3, 1) := by decide +kernel
theorem dX0_setSeen_40 : decode cX0_setSeen 40 = .ok (.imul, 1) := by decide +kernel
theorem dX0_setSeen_41 : decode cX0_setSeen 41 = .ok (.iaload, 1) := by decide +kernel
theorem dX0_setSeen_42 : decode cX0_setSeen 42 = .ok (.iastore, 1) := by decide +kernel
theorem dX0_setSeen_43 : decode cX0_setSeen 43 = .ok (.aload_n 0, 1) := by decide +kernel
theorem dX0_setSeen_44 : decode cX0_setSeen 44 = .ok (.getfield 27, 3) := by decide +kernel
theorem dX0_setSeen_47 : decode cX0_setSeen 47 = .ok (.iload_n 3, 1) := by decide +kernel
theorem dX0_setSeen_48 : decode cX0_setSeen 48 = .ok (.aload_n 1, 1) := by decide +kernel
theorem dX0_setSeen_49 : decode cX0_setSeen 49 = .ok (.iconst 2, 1) := by decide +kernel
theorem dX0_setSeen_50 : decode cX0_setSeen 50 = .ok (.iload_n 3, 1) := by decide +kernel
theorem dX0_setSeen_51 : decode cX0_setSeen 51 = .ok (.imul, 1) := by decide +kernel
theorem dX0_setSeen_52 : decode cX0_setSeen 52 = .ok (.iconst 1, 1) := by decide +kernel
theorem dX0_setSeen_53 : decode cX0_setSeen 53 = .ok (.iadd, 1) := by decide +kernel
theorem dX0_setSeen_54 : decode cX0_setSeen 54 = .ok (.iaload, 1) := by decide +kernel
theorem dX0_setSeen_55 : decode cX0_setSeen 55 = .ok (.iastore, 1) := by decide +kernel
theorem dX0_setSeen_56 : decode cX0_setSeen 56 = .ok (.iinc 3 1, 3) := by decide +kernel
theorem dX0_setSeen_59 : decode cX0_setSeen 59 = .ok (.goto (-45), 3) := by decide +kernel
theorem dX0_setSeen_62 : decode cX0_setSeen 62 = .ok (.return_, 1) := by decide +kernel
theorem dX0_isFit_0 : decode cX0_isFit 0 = .ok (.iconst 0, 1) := by decide +kernel
theorem dX0_isFit_1 : decode cX0_isFit 1 = .ok (.istore_n 2, 1) := by decide +kernel
theorem dX0_isFit_2 : decode cX0_isFit 2 = .ok (.iload_n 2, 1) := by decide +kernel
theorem dX0_isFit_3 : decode cX0_isFit 3 = .ok (.aload_n 0, 1) := by decide +kernel
theorem dX0_isFit_4 : decode cX0_isFit 4 = .ok (.getfield 40, 3) := by decide +kernel
theorem dX0_isFit_7 : decode cX0_isFit 7 = .ok (.if_icmp .ge 35, 3) := by decide +kernel
theorem dX0_isFit_10 : decode cX0_isFit 10 = .ok (.aload_n 0, 1) := by decide +kernel
theorem dX0_isFit_11 : decode cX0_isFit 11 = .ok (.getfield 11, 3) := by decide +kernel
theorem dX0_isFit_14 : decode cX0_isFit 14 = .ok (.iload_n 1, 1) := by decide +kernel
theorem dX0_isFit_15 : decode cX0_isFit 15 = .ok (.aaload, 1) := by decide +kernel
theorem dX0_isFit_16 : decode cX0_isFit 16 = .ok (.aload_n 0, 1) := by decide +kernel
theorem dX0_isFit_17 : decode cX0_isFit 17 = .ok (.getfield 24, 3) := by decide +kernel
theorem dX0_isFit_20 : decode cX0_isFit 20 = .ok (.iload_n 2, 1) := by decide +kernel
theorem dX0_isFit_21 : decode cX0_isFit 21 = .ok (.iaload, 1) := by decide +kernel
theorem dX0_isFit_22 : decode cX0_isFit 22 = .ok (.invokevirtual 94, 3) := by decide +kernel
theorem dX0_isFit_25 : decode cX0_isFit 25 = .ok (.aload_n 0, 1) := by decide +kernel
theorem dX0_isFit_26 : decode cX0_isFit 26 = .ok (.getfield 27, 3) := by decide +kernel
theorem dX0_isFit_29 : decode cX0_isFit 29 = .ok (.iload_n 2, 1) := by decide +kernel
theorem dX0_isFit_30 : decode cX0_isFit 30 = .ok (.iaload, 1) := by decide +kernel
theorem dX0_isFit_31 : decode cX0_isFit 31 = .ok (.if_icmp .eq 5, 3) := by decide +kernel
theorem dX0_isFit_34 : decode cX0_isFit 34 = .ok (.iconst 0, 1) := by decide +kernel
theorem dX0_isFit_35 : decode cX0_isFit 35 = .ok (.ireturn, 1) := by decide +kernel
theorem dX0_isFit_36 : decode cX0_isFit 36 = .ok (.iinc 2 1, 3) := by decide +kernel
theorem dX0_isFit_39 : decode cX0_isFit 39 = .ok (.goto (-37), 3) := by decide +kernel
theorem dX0_isFit_42 : decode cX0_isFit 42 = .ok (.iconst 1, 1) := by decide +kernel
theorem dX0_isFit_43 : decode cX0_isFit 43 = .ok (.ireturn, 1) := by decide +kernel
theorem dX0_countFits_0 : decode cX0_countFits 0 = .ok (.iconst 0, 1) := by decide +kernel
theorem dX0_countFits_1 : decode cX0_countFits 1 = .ok (.istore_n 1, 1) := by decide +kernel
theorem dX0_countFits_2 : decode cX0_countFits 2 = .ok (.iconst 0, 1) := by decide +kernel
theorem dX0_countFits_3 : decode cX0_countFits 3 = .ok (.istore_n 2, 1) := by decide +kernel
theorem dX0_countFits_4 : decode cX0_countFits 4 = .ok (.iload_n 2, 1) := by decide +kernel
theorem dX0_countFits_5 : decode cX0_countFits 5 = .ok (.aload_n 0, 1) := by decide +kernel
theorem dX0_countFits_6 : decode cX0_countFits 6 = .ok (.getfield 37, 3) := by decide +kernel
theorem dX0_countFits_9 : decode cX0_countFits 9 = .ok (.if_icmp .ge 25, 3) := by decide +kernel
theorem dX0_countFits_12 : decode cX0_countFits 12 = .ok (.iload_n 1, 1) := by decide +kernel
theorem dX0_countFits_13 : decode cX0_countFits 13 = .ok (.aload_n 0, 1) := by decide +kernel
theorem dX0_countFits_14 : decode cX0_countFits 14 = .ok (.iload_n 2, 1) := by decide +kernel
theorem dX0_countFits_15 : decode cX0_countFits 15 = .ok (.invokevirtual 98, 3) := by decide +kernel
theorem dX0_countFits_18 : decode cX0_countFits 18 = .ok (.ifCond .eq 7, 3) := by decide +kernel
theorem dX0_countFits_21 : decode cX0_countFits 21 = .ok (.iconst 1, 1) := by decide +kernel
theorem dX0_countFits_22 : decode cX0_countFits 22 = .ok (.goto 4, 3) := by decide +kernel
theorem dX0_countFits_25 : decode cX0_countFits 25 = .ok (.iconst 0, 1) := by decide +kernel
theorem dX0_countFits_26 : decode cX0_countFits 26 = .ok (.iadd, 1) := by decide +kernel
theorem dX0_countFits_27 : decode cX0_countFits 27 = .ok (.istore_n 1, 1) := by decide +kernel
theorem dX0_countFits_28 : decode cX0_countFits 28 = .ok (.iinc 2 1, 3) := by decide +kernel
theorem dX0_countFits_31 : decode cX0_countFits 31 = .ok (.goto (-27), 3) := by decide +kernel
theorem dX0_countFits_34 : decode cX0_countFits 34 = .ok (.iload_n 1, 1) := by decide +kernel
theorem dX0_countFits_35 : decode cX0_countFits 35 = .ok (.ireturn, 1) := by decide +kernel
theorem dX0_findFit_0 : decode cX0_findFit 0 = .ok (.iconst 0, 1) := by decide +kernel
theorem dX0_findFit_1 : decode cX0_findFit 1 = .ok (.istore_n 2, 1) := by decide +kernel
theorem dX0_findFit_2 : decode cX0_findFit 2 = .ok (.iconst 0, 1) := by decide +kernel
theorem dX0_findFit_3 : decode cX0_findFit 3 = .ok (.istore_n 3, 1) := by decide +kernel
theorem dX0_findFit_4 : decode cX0_findFit 4 = .ok (.iload_n 3, 1) := by decide +kernel
theorem dX0_findFit_5 : decode cX0_findFit 5 = .ok (.aload_n 0, 1) := by decide +kernel
theorem dX0_findFit_6 : decode cX0_findFit 6 = .ok (.getfield 37, 3) := by decide +kernel
theorem dX0_findFit_9 : decode cX0_findFit 9 = .ok (.if_icmp .ge 27, 3) := by decide +kernel
theorem dX0_findFit_12 : decode cX0_findFit 12 = .ok (.aload_n 0, 1) := by decide +kernel
theorem dX0_findFit_13 : decode cX0_findFit 13 = .ok (.iload_n 3, 1) := by decide +kernel
theorem dX0_findFit_14 : decode cX0_findFit 14 = .ok (.invokevirtual 98, 3) := by decide +kernel
theorem dX0_findFit_17 : decode cX0_findFit 17 = .ok (.ifCond .eq 13, 3) := by decide +kernel
theorem dX0_findFit_20 : decode cX0_findFit 20 = .ok (.iload_n 2, 1) := by decide +kernel
theorem dX0_findFit_21 : decode cX0_findFit 21 = .ok (.iload_n 1, 1) := by decide +kernel
theorem dX0_findFit_22 : decode cX0_findFit 22 = .ok (.if_icmp .ne 5, 3) := by decide +kernel
theorem dX0_findFit_25 : decode cX0_findFit 25 = .ok (.iload_n 3, 1) := by decide +kernel
theorem dX0_findFit_26 : decode cX0_findFit 26 = .ok (.ireturn, 1) := by decide +kernel
theorem dX0_findFit_27 : decode cX0_findFit 27 = .ok (.iinc 2 1, 3) := by decide +kernel
theorem dX0_findFit_30 : decode cX0_findFit 30 = .ok (.iinc 3 1, 3) := by decide +kernel
theorem dX0_findFit_33 : decode cX0_findFit 33 = .ok (.goto (-29), 3) := by decide +kernel
theorem dX0_findFit_36 : decode cX0_findFit 36 = .ok (.iconst (-1), 1) := by decide +kernel
theorem dX0_findFit_37 : decode cX0_findFit 37 = .ok (.ireturn, 1) := by decide +kernel
theorem dX0_findTelling_0 : decode cX0_findTelling 0 = .ok (.iconst 0, 1) := by decide +kernel
theorem dX0_findTelling_1 : decode cX0_findTelling 1 = .ok (.istore_n 1, 1) := by decide +kernel
theorem dX0_findTelling_2 : decode cX0_findTelling 2 = .ok (.bipush 25, 2) := by decide +kernel
theorem dX0_findTelling_4 : decode cX0_findTelling 4 = .ok (.istore_n 2, 1) := by decide +kernel
theorem dX0_findTelling_5 : decode cX0_findTelling 5 = .ok (.iconst 0, 1) := by decide +kernel
theorem dX0_findTelling_6 : decode cX0_findTelling 6 = .ok (.istore_n 3, 1) := by decide +kernel
theorem dX0_findTelling_7 : decode cX0_findTelling 7 = .ok (.iload_n 3, 1) := by decide +kernel
theorem dX0_findTelling_8 : decode cX0_findTelling 8 = .ok (.sipush 240, 3) := by decide +kernel
theorem dX0_findTelling_11 : decode cX0_findTelling 11 = .ok (.if_icmp .ge 27, 3) := by decide +kernel
theorem dX0_findTelling_14 : decode cX0_findTelling 14 = .ok (.aload_n 0, 1) := by decide +kernel
theorem dX0_findTelling_15 : decode cX0_findTelling 15 = .ok (.iload_n 3, 1) := by decide +kernel
theorem dX0_findTelling_16 : decode cX0_findTelling 16 = .ok (.invokevirtual 102, 3) := by decide +kernel
theorem dX0_findTelling_19 : decode cX0_findTelling 19 = .ok (.istore 4, 2) := by decide +kernel
theorem dX0_findTelling_21 : decode cX0_findTelling 21 = .ok (.iload 4, 2) := by decide +kernel
theorem dX0_findTelling_23 : decode cX0_findTelling 23 = .ok (.iload_n 2, 1) := by decide +kernel
theorem dX0_findTelling_24 : decode cX0_findTelling 24 = .ok (.if_icmp .ge 8, 3) := by decide +kernel
theorem dX0_findTelling_27 : decode cX0_findTelling 27 = .ok (.iload 4, 2) := by decide +kernel
theorem dX0_findTelling_29 : decode cX0_findTelling 29 = .ok (.istore_n 2, 1) := by decide +kernel
theorem dX0_findTelling_30 : decode cX0_findTelling 30 = .ok (.iload_n 3, 1) := by decide +kernel
theorem dX0_findTelling_31 : decode cX0_findTelling 31 = .ok (.istore_n 1, 1) := by decide +kernel
theorem dX0_findTelling_32 : decode cX0_findTelling 32 = .ok (.iinc 3 1, 3) := by decide +kernel
theorem dX0_findTelling_35 : decode cX0_findTelling 35 = .ok (.goto (-28), 3) := by decide +kernel
theorem dX0_findTelling_38 : decode cX0_findTelling 38 = .ok (.iload_n 1, 1) := by decide +kernel
theorem dX0_findTelling_39 : decode cX0_findTelling 39 = .ok (.ireturn, 1) := by decide +kernel
theorem dX0_countMostLeft_0 : decode cX0_countMostLeft 0 = .ok (.aload_n 0, 1) := by decide +kernel
theorem dX0_countMostLeft_1 : decode cX0_countMostLeft 1 = .ok (.getfield 30, 3) := by decide +kernel
theorem dX0_countMostLeft_4 : decode cX0_countMostLeft 4 = .ok (.iconst 0, 1) := by decide +kernel
theorem dX0_countMostLeft_5 : decode cX0_countMostLeft 5 = .ok (.invokestatic 105, 3) := by decide +kernel
theorem dX0_countMostLeft_8 : decode cX0_countMostLeft 8 = .ok (.iconst 0, 1) := by decide +kernel
theorem dX0_countMostLeft_9 : decode cX0_countMostLeft 9 = .ok (.istore_n 2, 1) := by decide +kernel
theorem dX0_countMostLeft_10 : decode cX0_countMostLeft 10 = .ok (.iconst 0, 1) := by decide +kernel
theorem dX0_countMostLeft_11 : decode cX0_countMostLeft 11 = .ok (.istore_n 3, 1) := by decide +kernel
theorem dX0_countMostLeft_12 : decode cX0_countMostLeft 12 = .ok (.iload_n 3, 1) := by decide +kernel
theorem dX0_countMostLeft_13 : decode cX0_countMostLeft 13 = .ok (.aload_n 0, 1) := by decide +kernel
theorem dX0_countMostLeft_14 : decode cX0_countMostLeft 14 = .ok (.getfield 37, 3) := by decide +kernel
theorem dX0_countMostLeft_17 : decode cX0_countMostLeft 17 = .ok (.if_icmp .ge 62, 3) := by decide +kernel
theorem dX0_countMostLeft_20 : decode cX0_countMostLeft 20 = .ok (.aload_n 0, 1) := by decide +kernel
theorem dX0_countMostLeft_21 : decode cX0_countMostLeft 21 = .ok (.getfield 11, 3) := by decide +kernel
theorem dX0_countMostLeft_24 : decode cX0_countMostLeft 24 = .ok (.iload_n 3, 1) := by decide +kernel
theorem dX0_countMostLeft_25 : decode cX0_countMostLeft 25 = .ok (.aaload, 1) := by decide +kernel
theorem dX0_countMostLeft_26 : decode cX0_countMostLeft 26 = .ok (.iload_n 1, 1) := by decide +kernel
theorem dX0_countMostLeft_27 : decode cX0_countMostLeft 27 = .ok (.invokevirtual 94, 3) := by decide +kernel
theorem dX0_countMostLeft_30 : decode cX0_countMostLeft 30 = .ok (.istore 4, 2) := by decide +kernel
theorem dX0_countMostLeft_32 : decode cX0_countMostLeft 32 = .ok (.iload 4, 2) := by decide +kernel
theorem dX0_countMostLeft_34 : decode cX0_countMostLeft 34 = .ok (.aload_n 0, 1) := by decide +kernel
theorem dX0_countMostLeft_35 : decode cX0_countMostLeft 35 = .ok (.getfield 30, 3) := by decide +kernel
theorem dX0_countMostLeft_38 : decode cX0_countMostLeft 38 = .ok (.arraylength, 1) := by decide +kernel
theorem dX0_countMostLeft_39 : decode cX0_countMostLeft 39 = .ok (.if_icmp .ge 34, 3) := by decide +kernel
theorem dX0_countMostLeft_42 : decode cX0_countMostLeft 42 = .ok (.aload_n 0, 1) := by decide +kernel
theorem dX0_countMostLeft_43 : decode cX0_countMostLeft 43 = .ok (.iload_n 3, 1) := by decide +kernel
theorem dX0_countMostLeft_44 : decode cX0_countMostLeft 44 = .ok (.invokevirtual 98, 3) := by decide +kernel
theorem dX0_countMostLeft_47 : decode cX0_countMostLeft 47 = .ok (.ifCond .eq 26, 3) := by decide +kernel
theorem dX0_countMostLeft_50 : decode cX0_countMostLeft 50 = .ok (.aload_n 0, 1) := by decide +kernel
theorem dX0_countMostLeft_51 : decode cX0_countMostLeft 51 = .ok (.getfield 30, 3) := by decide +kernel
theorem dX0_countMostLeft_54 : decode cX0_countMostLeft 54 = .ok (.iload 4, 2) := by decide +kernel
theorem dX0_countMostLeft_56 : decode cX0_countMostLeft 56 = .ok (.dup2, 1) := by decide +kernel
theorem dX0_countMostLeft_57 : decode cX0_countMostLeft 57 = .ok (.iaload, 1) := by decide +kernel
theorem dX0_countMostLeft_58 : decode cX0_countMostLeft 58 = .ok (.iconst 1, 1) := by decide +kernel
theorem dX0_countMostLeft_59 : decode cX0_countMostLeft 59 = .ok (.iadd, 1) := by decide +kernel
theorem dX0_countMostLeft_60 : decode cX0_countMostLeft 60 = .ok (.iastore, 1) := by decide +kernel
theorem dX0_countMostLeft_61 : decode cX0_countMostLeft 61 = .ok (.iload_n 2, 1) := by decide +kernel
theorem dX0_countMostLeft_62 : decode cX0_countMostLeft 62 = .ok (.aload_n 0, 1) := by decide +kernel
theorem dX0_countMostLeft_63 : decode cX0_countMostLeft 63 = .ok (.getfield 30, 3) := by decide +kernel
theorem dX0_countMostLeft_66 : decode cX0_countMostLeft 66 = .ok (.iload 4, 2) := by decide +kernel
theorem dX0_countMostLeft_68 : decode cX0_countMostLeft 68 = .ok (.iaload, 1) := by decide +kernel
theorem dX0_countMostLeft_69 : decode cX0_countMostLeft 69 = .ok (.invokestatic 111, 3) := by decide +kernel
theorem dX0_countMostLeft_72 : decode cX0_countMostLeft 72 = .ok (.istore_n 2, 1) := by decide +kernel
theorem dX0_countMostLeft_73 : decode cX0_countMostLeft 73 = .ok (.iinc 3 1, 3) := by decide +kernel
theorem dX0_countMostLeft_76 : decode cX0_countMostLeft 76 = .ok (.goto (-64), 3) := by decide +kernel
theorem dX0_countMostLeft_79 : decode cX0_countMostLeft 79 = .ok (.iload_n 2, 1) := by decide +kernel
theorem dX0_countMostLeft_80 : decode cX0_countMostLeft 80 = .ok (.ireturn, 1) := by decide +kernel
theorem dX1_init_0 : decode cX1_init 0 = .ok (.aload_n 0, 1) := by decide +kernel
theorem dX1_init_1 : decode cX1_init 1 = .ok (.invokespecial 3, 3) := by decide +kernel
theorem dX1_init_4 : decode cX1_init 4 = .ok (.aload_n 0, 1) := by decide +kernel
theorem dX1_init_5 : decode cX1_init 5 = .ok (.new 9, 3) := by decide +kernel
theorem dX1_init_8 : decode cX1_init 8 = .ok (.dup, 1) := by decide +kernel
theorem dX1_init_9 : decode cX1_init 9 = .ok (.invokespecial 11, 3) := by decide +kernel
theorem dX1_init_12 : decode cX1_init 12 = .ok (.putfield 12, 3) := by decide +kernel
theorem dX1_init_15 : decode cX1_init 15 = .ok (.aload_n 0, 1) := by decide +kernel
theorem dX1_init_16 : decode cX1_init 16 = .ok (.new 18, 3) := by decide +kernel
theorem dX1_init_19 : decode cX1_init 19 = .ok (.dup, 1) := by decide +kernel
theorem dX1_init_20 : decode cX1_init 20 = .ok (.invokespecial 20, 3) := by decide +kernel
theorem dX1_init_23 : decode cX1_init 23 = .ok (.putfield 21, 3) := by decide +kernel
theorem dX1_init_26 : decode cX1_init 26 = .ok (.aload_n 0, 1) := by decide +kernel
theorem dX1_init_27 : decode cX1_init 27 = .ok (.new 18, 3) := by decide +kernel
theorem dX1_init_30 : decode cX1_init 30 = .ok (.dup, 1) := by decide +kernel
theorem dX1_init_31 : decode cX1_init 31 = .ok (.invokespecial 20, 3) := by decide +kernel
theorem dX1_init_34 : decode cX1_init 34 = .ok (.putfield 25, 3) := by decide +kernel
theorem dX1_init_37 : decode cX1_init 37 = .ok (.aload_n 0, 1) := by decide +kernel
theorem dX1_init_38 : decode cX1_init 38 = .ok (.new 28, 3) := by decide +kernel
theorem dX1_init_41 : decode cX1_init 41 = .ok (.dup, 1) := by decide +kernel
theorem dX1_init_42 : decode cX1_init 42 = .ok (.invokespecial 30, 3) := by decide +kernel
theorem dX1_init_45 : decode cX1_init 45 = .ok (.putfield 31, 3) := by decide +kernel
theorem dX1_init_48 : decode cX1_init 48 = .ok (.aload_n 0, 1) := by decide +kernel
theorem dX1_init_49 : decode cX1_init 49 = .ok (.new 28, 3) := by decide +kernel
theorem dX1_init_52 : decode cX1_init 52 = .ok (.dup, 1) := by decide +kernel
theorem dX1_init_53 : decode cX1_init 53 = .ok (.invokespecial 30, 3) := by decide +kernel
theorem dX1_init_56 : decode cX1_init 56 = .ok (.putfield 35, 3) := by decide +kernel
theorem dX1_init_59 : decode cX1_init 59 = .ok (.aload_n 0, 1) := by decide +kernel
theorem dX1_init_60 : decode cX1_init 60 = .ok (.bipush 12, 2) := by decide +kernel
theorem dX1_init_62 : decode cX1_init 62 = .ok (.newarray .int, 2) := by decide +kernel
theorem dX1_init_64 : decode cX1_init 64 = .ok (.putfield 38, 3) := by decide +kernel
theorem dX1_init_67 : decode cX1_init 67 = .ok (.aload_n 0, 1) := by decide +kernel
theorem dX1_init_68 : decode cX1_init 68 = .ok (.bipush 100, 2) := by decide +kernel
theorem dX1_init_70 : decode cX1_init 70 = .ok (.newarray .int, 2) := by decide +kernel
theorem dX1_init_72 : decode cX1_init 72 = .ok (.putfield 42, 3) := by decide +kernel
theorem dX1_init_75 : decode cX1_init 75 = .ok (.aload_n 0, 1) := by decide +kernel
theorem dX1_init_76 : decode cX1_init 76 = .ok (.iconst 0, 1) := by decide +kernel
theorem dX1_init_77 : decode cX1_init 77 = .ok (.putfield 45, 3) := by decide +kernel
theorem dX1_init_80 : decode cX1_init 80 = .ok (.aload_n 0, 1) := by decide +kernel
theorem dX1_init_81 : decode cX1_init 81 = .ok (.iconst 0, 1) := by decide +kernel
theorem dX1_init_82 : decode cX1_init 82 = .ok (.putfield 49, 3) := by decide +kernel
theorem dX1_init_85 : decode cX1_init 85 = .ok (.aload_n 0, 1) := by decide +kernel
theorem dX1_init_86 : decode cX1_init 86 = .ok (.iconst 0, 1) := by decide +kernel
theorem dX1_init_87 : decode cX1_init 87 = .ok (.putfield 52, 3) := by decide +kernel
theorem dX1_init_90 : decode cX1_init 90 = .ok (.aload_n 0, 1) := by decide +kernel
theorem dX1_init_91 : decode cX1_init 91 = .ok (.iconst 1, 1) := by decide +kernel
theorem dX1_init_92 : decode cX1_init 92 = .ok (.putfield 55, 3) := by decide +kernel
theorem dX1_init_95 : decode cX1_init 95 = .ok (.aload_n 0, 1) := by decide +kernel
theorem dX1_init_96 : decode cX1_init 96 = .ok (.iconst (-1), 1) := by decide +kernel
theorem dX1_init_97 : decode cX1_init 97 = .ok (.putfield 58, 3) := by decide +kernel
theorem dX1_init_100 : decode cX1_init 100 = .ok (.aload_n 0, 1) := by decide +kernel
theorem dX1_init_101 : decode cX1_init 101 = .ok (.iconst 0, 1) := by decide +kernel
theorem dX1_init_102 : decode cX1_init 102 = .ok (.putfield 61, 3) := by decide +kernel
theorem dX1_init_105 : decode cX1_init 105 = .ok (.aload_n 0, 1) := by decide +kernel
theorem dX1_init_106 : decode cX1_init 106 = .ok (.iconst 0, 1) := by decide +kernel
theorem dX1_init_107 : decode cX1_init 107 = .ok (.putfield 65, 3) := by decide +kernel
theorem dX1_init_110 : decode cX1_init 110 = .ok (.aload_n 0, 1) := by decide +kernel
theorem dX1_init_111 : decode cX1_init 111 = .ok (.iconst 1, 1) := by decide +kernel
theorem dX1_init_112 : decode cX1_init 112 = .ok (.putfield 68, 3) := by decide +kernel
theorem dX1_init_115 : decode cX1_init 115 = .ok (.return_, 1) := by decide +kernel
theorem dX1_begin_0 : decode cX1_begin 0 = .ok (.aload_n 0, 1) := by decide +kernel
theorem dX1_begin_1 : decode cX1_begin 1 = .ok (.getfield 12, 3) := by decide +kernel
theorem dX1_begin_4 : decode cX1_begin 4 = .ok (.aload_n 1, 1) := by decide +kernel
theorem dX1_begin_5 : decode cX1_begin 5 = .ok (.invokevirtual 71, 3) := by decide +kernel
theorem dX1_begin_8 : decode cX1_begin 8 = .ok (.aload_n 0, 1) := by decide +kernel
theorem dX1_begin_9 : decode cX1_begin 9 = .ok (.getfield 31, 3) := by decide +kernel
theorem dX1_begin_12 : decode cX1_begin 12 = .ok (.iconst 0, 1) := by decide +kernel
theorem dX1_begin_13 : decode cX1_begin 13 = .ok (.putfield 75, 3) := by decide +kernel
theorem dX1_begin_16 : decode cX1_begin 16 = .ok (.aload_n 0, 1) := by decide +kernel
theorem dX1_begin_17 : decode cX1_begin 17 = .ok (.getfield 35, 3) := by decide +kernel
theorem dX1_begin_20 : decode cX1_begin 20 = .ok (.iconst 0, 1) := by decide +kernel
theorem dX1_begin_21 : decode cX1_begin 21 = .ok (.putfield 75, 3) := by decide +kernel
theorem dX1_begin_24 : decode cX1_begin 24 = .ok (.aload_n 0, 1) := by decide +kernel
theorem dX1_begin_25 : decode cX1_begin 25 = .ok (.iconst 0, 1) := by decide +kernel
theorem dX1_begin_26 : decode cX1_begin 26 = .ok (.putfield 45, 3) := by decide +kernel
theorem dX1_begin_29 : decode cX1_begin 29 = .ok (.aload_n 0, 1) := by decide +kernel
theorem dX1_begin_30 : decode cX1_begin 30 = .ok (.iconst 0, 1) := by decide +kernel
theorem dX1_begin_31 : decode cX1_begin 31 = .ok (.putfield 49, 3) := by decide +kernel
theorem dX1_begin_34 : decode cX1_begin 34 = .ok (.aload_n 0, 1) := by decide +kernel
theorem dX1_begin_35 : decode cX1_begin 35 = .ok (.iconst 0, 1) := by decide +kernel
theorem dX1_begin_36 : decode cX1_begin 36 = .ok (.putfield 52, 3) := by decide +kernel
theorem dX1_begin_39 : decode cX1_begin 39 = .ok (.aload_n 0, 1) := by decide +kernel
theorem dX1_begin_40 : decode cX1_begin 40 = .ok (.iconst 1, 1) := by decide +kernel
theorem dX1_begin_41 : decode cX1_begin 41 = .ok (.putfield 55, 3) := by decide +kernel
theorem dX1_begin_44 : decode cX1_begin 44 = .ok (.aload_n 0, 1) := by decide +kernel
theorem dX1_begin_45 : decode cX1_begin 45 = .ok (.iconst (-1), 1) := by decide +kernel
theorem dX1_begin_46 : decode cX1_begin 46 = .ok (.putfield 58, 3) := by decide +kernel
theorem dX1_begin_49 : decode cX1_begin 49 = .ok (.aload_n 0, 1) := by decide +kernel
theorem dX1_begin_50 : decode cX1_begin 50 = .ok (.iconst 0, 1) := by decide +kernel
theorem dX1_begin_51 : decode cX1_begin 51 = .ok (.putfield 61, 3) := by decide +kernel
theorem dX1_begin_54 : decode cX1_begin 54 = .ok (.aload_n 0, 1) := by decide +kernel
theorem dX1_begin_55 : decode cX1_begin 55 = .ok (.iconst 0, 1) := by decide +kernel
theorem dX1_begin_56 : decode cX1_begin 56 = .ok (.putfield 65, 3) := by decide +kernel
theorem dX1_begin_59 : decode cX1_begin 59 = .ok (.aload_n 0, 1) := by decide +kernel
theorem dX1_begin_60 : decode cX1_begin 60 = .ok (.iconst 1, 1) := by decide +kernel
theorem dX1_begin_61 : decode cX1_begin 61 = .ok (.putfield 68, 3) := by decide +kernel
theorem dX1_begin_64 : decode cX1_begin 64 = .ok (.return_, 1) := by decide +kernel
theorem dX1_copyLine_0 : decode cX1_copyLine 0 = .ok (.aload_n 0, 1) := by decide +kernel
theorem dX1_copyLine_1 : decode cX1_copyLine 1 = .ok (.getfield 21, 3) := by decide +kernel
theorem dX1_copyLine_4 : decode cX1_copyLine 4 = .ok (.aload_n 1, 1) := by decide +kernel
theorem dX1_copyLine_5 : decode cX1_copyLine 5 = .ok (.getfield 21, 3) := by decide +kernel
theorem dX1_copyLine_8 : decode cX1_copyLine 8 = .ok (.invokevirtual 78, 3) := by decide +kernel
theorem dX1_copyLine_11 : decode cX1_copyLine 11 = .ok (.aload_n 0, 1) := by decide +kernel
theorem dX1_copyLine_12 : decode cX1_copyLine 12 = .ok (.getfield 25, 3) := by decide +kernel
theorem dX1_copyLine_15 : decode cX1_copyLine 15 = .ok (.aload_n 1, 1) := by decide +kernel
theorem dX1_copyLine_16 : decode cX1_copyLine 16 = .ok (.getfield 25, 3) := by decide +kernel
theorem dX1_copyLine_19 : decode cX1_copyLine 19 = .ok (.invokevirtual 78, 3) := by decide +kernel
theorem dX1_copyLine_22 : decode cX1_copyLine 22 = .ok (.aload_n 1, 1) := by decide +kernel
theorem dX1_copyLine_23 : decode cX1_copyLine 23 = .ok (.getfield 42, 3) := by decide +kernel
theorem dX1_copyLine_26 : decode cX1_copyLine 26 = .ok (.iconst 0, 1) := by decide +kernel
theorem dX1_copyLine_27 : decode cX1_copyLine 27 = .ok (.aload_n 0, 1) := by decide +kernel
theorem dX1_copyLine_28 : decode cX1_copyLine 28 = .ok (.getfield 42, 3) := by decide +kernel
theorem dX1_copyLine_31 : decode cX1_copyLine 31 = .ok (.iconst 0, 1) := by decide +kernel
theorem dX1_copyLine_32 : decode cX1_copyLine 32 = .ok (.aload_n 0, 1) := by decide +kernel
theorem dX1_copyLine_33 : decode cX1_copyLine 33 = .ok (.getfield 42, 3) := by decide +kernel
theorem dX1_copyLine_36 : decode cX1_copyLine 36 = .ok (.arraylength, 1) := by decide +kernel
theorem dX1_copyLine_37 : decode cX1_copyLine 37 = .ok (.invokestatic 81, 3) := by decide +kernel
theorem dX1_copyLine_40 : decode cX1_copyLine 40 = .ok (.aload_n 0, 1) := by decide +kernel
theorem dX1_copyLine_41 : decode cX1_copyLine 41 = .ok (.aload_n 1, 1) := by decide +kernel
theorem dX1_copyLine_42 : decode cX1_copyLine 42 = .ok (.getfield 49, 3) := by decide +kernel
theorem dX1_copyLine_45 : decode cX1_copyLine 45 = .ok (.putfield 49, 3) := by decide +kernel
theorem dX1_copyLine_48 : decode cX1_copyLine 48 = .ok (.aload_n 0, 1) := by decide +kernel
theorem dX1_copyLine_49 : decode cX1_copyLine 49 = .ok (.aload_n 1, 1) := by decide +kernel
theorem dX1_copyLine_50 : decode cX1_copyLine 50 = .ok (.getfield 55, 3) := by decide +kernel
theorem dX1_copyLine_53 : decode cX1_copyLine 53 = .ok (.putfield 55, 3) := by decide +kernel
theorem dX1_copyLine_56 : decode cX1_copyLine 56 = .ok (.aload_n 0, 1) := by decide +kernel
theorem dX1_copyLine_57 : decode cX1_copyLine 57 = .ok (.aload_n 1, 1) := by decide +kernel
theorem dX1_copyLine_58 : decode cX1_copyLine 58 = .ok (.getfield 58, 3) := by decide +kernel
theorem dX1_copyLine_61 : decode cX1_copyLine 61 = .ok (.putfield 58, 3) := by decide +kernel
theorem dX1_copyLine_64 : decode cX1_copyLine 64 = .ok (.aload_n 0, 1) := by decide +kernel
theorem dX1_copyLine_65 : decode cX1_copyLine 65 = .ok (.aload_n 1, 1) := by decide +kernel
theorem dX1_copyLine_66 : decode cX1_copyLine 66 = .ok (.getfield 61, 3) := by decide +kernel
theorem dX1_copyLine_69 : decode cX1_copyLine 69 = .ok (.putfield 61, 3) := by decide +kernel
theorem dX1_copyLine_72 : decode cX1_copyLine 72 = .ok (.aload_n 0, 1) := by decide +kernel
theorem dX1_copyLine_73 : decode cX1_copyLine 73 = .ok (.aload_n 1, 1) := by decide +kernel
theorem dX1_copyLine_74 : decode cX1_copyLine 74 = .ok (.getfield 65, 3) := by decide +kernel
theorem dX1_copyLine_77 : decode cX1_copyLine 77 = .ok (.putfield 65, 3) := by decide +kernel
theorem dX1_copyLine_80 : decode cX1_copyLine 80 = .ok (.aload_n 0, 1) := by decide +kernel
theorem dX1_copyLine_81 : decode cX1_copyLine 81 = .ok (.aload_n 1, 1) := by decide +kernel
theorem dX1_copyLine_82 : decode cX1_copyLine 82 = .ok (.getfield 68, 3) := by decide +kernel
theorem dX1_copyLine_85 : decode cX1_copyLine 85 = .ok (.putfield 68, 3) := by decide +kernel
theorem dX1_copyLine_88 : decode cX1_copyLine 88 = .ok (.return_, 1) := by decide +kernel
theorem dX1_copyText_0 : decode cX1_copyText 0 = .ok (.aload_n 0, 1) := by decide +kernel
theorem dX1_copyText_1 : decode cX1_copyText 1 = .ok (.getfield 12, 3) := by decide +kernel
theorem dX1_copyText_4 : decode cX1_copyText 4 = .ok (.aload_n 1, 1) := by decide +kernel
theorem dX1_copyText_5 : decode cX1_copyText 5 = .ok (.getfield 12, 3) := by decide +kernel
theorem dX1_copyText_8 : decode cX1_copyText 8 = .ok (.invokevirtual 71, 3) := by decide +kernel
theorem dX1_copyText_11 : decode cX1_copyText 11 = .ok (.aload_n 0, 1) := by decide +kernel
theorem dX1_copyText_12 : decode cX1_copyText 12 = .ok (.getfield 31, 3) := by decide +kernel
theorem dX1_copyText_15 : decode cX1_copyText 15 = .ok (.aload_n 1, 1) := by decide +kernel
theorem dX1_copyText_16 : decode cX1_copyText 16 = .ok (.getfield 31, 3) := by decide +kernel
theorem dX1_copyText_19 : decode cX1_copyText 19 = .ok (.invokevirtual 87, 3) := by decide +kernel
theorem dX1_copyText_22 : decode cX1_copyText 22 = .ok (.aload_n 0, 1) := by decide +kernel
theorem dX1_copyText_23 : decode cX1_copyText 23 = .ok (.getfield 35, 3) := by decide +kernel
theorem dX1_copyText_26 : decode cX1_copyText 26 = .ok (.aload_n 1, 1) := by decide +kernel
theorem dX1_copyText_27 : decode cX1_copyText 27 = .ok (.getfield 35, 3) := by decide +kernel
theorem dX1_copyText_30 : decode cX1_copyText 30 = .ok (.invokevirtual 87, 3) := by decide +kernel
theorem dX1_copyText_33 : decode cX1_copyText 33 = .ok (.aload_n 1, 1) := by decide +kernel
theorem dX1_copyText_34 : decode cX1_copyText 34 = .ok (.getfield 38, 3) := by decide +kernel
theorem dX1_copyText_37 : decode cX1_copyText 37 = .ok (.iconst 0, 1) := by decide +kernel
theorem dX1_copyText_38 : decode cX1_copyText 38 = .ok (.aload_n 0, 1) := by decide +kernel
theorem dX1_copyText_39 : decode cX1_copyText 39 = .ok (.getfield 38, 3) := by decide +kernel
theorem dX1_copyText_42 : decode cX1_copyText 42 = .ok (.iconst 0, 1) := by decide +kernel
theorem dX1_copyText_43 : decode cX1_copyText 43 = .ok (.aload_n 0, 1) := by decide +kernel
theorem dX1_copyText_44 : decode cX1_copyText 44 = .ok (.getfield 38, 3) := by decide +kernel
theorem dX1_copyText_47 : decode cX1_copyText 47 = .ok (.arraylength, 1) := by decide +kernel
theorem dX1_copyText_48 : decode cX1_copyText 48 = .ok (.invokestatic 81, 3) := by decide +kernel
theorem dX1_copyText_51 : decode cX1_copyText 51 = .ok (.aload_n 0, 1) := by decide +kernel
theorem dX1_copyText_52 : decode cX1_copyText 52 = .ok (.aload_n 1, 1) := by decide +kernel
theorem dX1_copyText_53 : decode cX1_copyText 53 = .ok (.getfield 45, 3) := by decide +kernel
theorem dX1_copyText_56 : decode cX1_copyText 56 = .ok (.putfield 45, 3) := by decide +kernel
theorem dX1_copyText_59 : decode cX1_copyText 59 = .ok (.aload_n 0, 1) := by decide +kernel
theorem dX1_copyText_60 : decode cX1_copyText 60 = .ok (.aload_n 1, 1) := by decide +kernel
theorem dX1_copyText_61 : decode cX1_copyText 61 = .ok (.getfield 52, 3) := by decide +kernel
theorem dX1_copyText_64 : decode cX1_copyText 64 = .ok (.putfield 52, 3) := by decide +kernel
theorem dX1_copyText_67 : decode cX1_copyText 67 = .ok (.return_, 1) := by decide +kernel
theorem dX1_hasMark_0 : decode cX1_hasMark 0 = .ok (.iload_n 1, 1) := by decide +kernel
theorem dX1_hasMark_1 : decode cX1_hasMark 1 = .ok (.ifCond .lt 15, 3) := by decide +kernel
theorem dX1_hasMark_4 : decode cX1_hasMark 4 = .ok (.iload_n 1, 1) := by decide +kernel
theorem dX1_hasMark_5 : decode cX1_hasMark 5 = .ok (.aload_n 0, 1) := by decide +kernel
theorem dX1_hasMark_6 : decode cX1_hasMark 6 = .ok (.getfield 45, 3) := by decide +kernel
theorem dX1_hasMark_9 : decode cX1_hasMark 9 = .ok (.if_icmp .ge 7, 3) := by decide +kernel
theorem dX1_hasMark_12 : decode cX1_hasMark 12 = .ok (.iconst 1, 1) := by decide +kernel
theorem dX1_hasMark_13 : decode cX1_hasMark 13 = .ok (.goto 4, 3) := by decide +kernel
theorem dX1_hasMark_16 : decode cX1_hasMark 16 = .ok (.iconst 0, 1) := by decide +kernel
theorem dX1_hasMark_17 : decode cX1_hasMark 17 = .ok (.ireturn, 1) := by decide +kernel
theorem dX1_addMark_0 : decode cX1_addMark 0 = .ok (.iconst 3, 1) := by decide +kernel
theorem dX1_addMark_1 : decode cX1_addMark 1 = .ok (.aload_n 0, 1) := by decide +kernel
theorem dX1_addMark_2 : decode cX1_addMark 2 = .ok (.getfield 45, 3) := by decide +kernel
theorem dX1_addMark_5 : decode cX1_addMark 5 = .ok (.imul, 1) := by decide +kernel
theorem dX1_addMark_6 : decode cX1_addMark 6 = .ok (.istore 4, 2) := by decide +kernel
theorem dX1_addMark_8 : decode cX1_addMark 8 = .ok (.iload 4, 2) := by decide +kernel
theorem dX1_addMark_10 : decode cX1_addMark 10 = .ok (.iconst 2, 1) := by decide +kernel
theorem dX1_addMark_11 : decode cX1_addMark 11 = .ok (.iadd, 1) := by decide +kernel
theorem dX1_addMark_12 : decode cX1_addMark 12 = .ok (.aload_n 0, 1) := by decide +kernel
theorem dX1_addMark_13 : decode cX1_addMark 13 = .ok (.getfield 38, 3) := by decide +kernel
theorem dX1_addMark_16 : decode cX1_addMark 16 = .ok (.arraylength, 1) := by decide +kernel
theorem dX1_addMark_17 : decode cX1_addMark 17 = .ok (.if_icmp .lt 5, 3) := by decide +kernel
theorem dX1_addMark_20 : decode cX1_addMark 20 = .ok (.iconst (-1), 1) := by decide +kernel
theorem dX1_addMark_21 : decode cX1_addMark 21 = .ok (.ireturn, 1) := by decide +kernel
theorem dX1_addMark_22 : decode cX1_addMark 22 = .ok (.aload_n 0, 1) := by decide +kernel
theorem dX1_addMark_23 : decode cX1_addMark 23 = .ok (.getfield 38, 3) := by decide +kernel
theorem dX1_addMark_26 : decode cX1_addMark 26 = .ok (.iload 4, 2) := by decide +kernel
theorem dX1_addMark_28 : decode cX1_addMark 28 = .ok (.iload_n 1, 1) := by decide +kernel
theorem dX1_addMark_29 : decode cX1_addMark 29 = .ok (.iastore, 1) := by decide +kernel
theorem dX1_addMark_30 : decode cX1_addMark 30 = .ok (.aload_n 0, 1) := by decide +kernel
theorem dX1_addMark_31 : decode cX1_addMark 31 = .ok (.getfield 38, 3) := by decide +kernel
theorem dX1_addMark_34 : decode cX1_addMark 34 = .ok (.iload 4, 2) := by decide +kernel
theorem dX1_addMark_36 : decode cX1_addMark 36 = .ok (.iconst 1, 1) := by decide +kernel
theorem dX1_addMark_37 : decode cX1_addMark 37 = .ok (.iadd, 1) := by decide +kernel
theorem dX1_addMark_38 : decode cX1_addMark 38 = .ok (.iload_n 2, 1) := by decide +kernel
theorem dX1_addMark_39 : decode cX1_addMark 39 = .ok (.iastore, 1) := by decide +kernel
theorem dX1_addMark_40 : decode cX1_addMark 40 = .ok (.aload_n 0, 1) := by decide +kernel
theorem dX1_addMark_41 : decode cX1_addMark 41 = .ok (.getfield 38, 3) := by decide +kernel
theorem dX1_addMark_44 : decode cX1_addMark 44 = .ok (.iload 4, 2) := by decide +kernel
theorem dX1_addMark_46 : decode cX1_addMark 46 = .ok (.iconst 2, 1) := by decide +kernel
theorem dX1_addMark_47 : decode cX1_addMark 47 = .ok (.iadd, 1) := by decide +kernel
theorem dX1_addMark_48 : decode cX1_addMark 48 = .ok (.iload_n 3, 1) := by decide +kernel
theorem dX1_addMark_49 : decode cX1_addMark 49 = .ok (.iastore, 1) := by decide +kernel
theorem dX1_addMark_50 : decode cX1_addMark 50 = .ok (.aload_n 0, 1) := by decide +kernel
theorem dX1_addMark_51 : decode cX1_addMark 51 = .ok (.dup, 1) := by decide +kernel
theorem dX1_addMark_52 : decode cX1_addMark 52 = .ok (.getfield 45, 3) := by decide +kernel
theorem dX1_addMark_55 : decode cX1_addMark 55 = .ok (.dup_x1, 1) := by decide +kernel
theorem dX1_addMark_56 : decode cX1_addMark 56 = .ok (.iconst 1, 1) := by decide +kernel
theorem dX1_addMark_57 : decode cX1_addMark 57 = .ok (.iadd, 1) := by decide +kernel
theorem dX1_addMark_58 : decode cX1_addMark 58 = .ok (.putfield 45, 3) := by decide +kernel
theorem dX1_addMark_61 : decode cX1_addMark 61 = .ok (.ireturn, 1) := by decide +kernel
theorem dX1_dropMark_0 : decode cX1_dropMark 0 = .ok (.iconst 3, 1) := by decide +kernel
theorem dX1_dropMark_1 : decode cX1_dropMark 1 = .ok (.iload_n 1, 1) := by decide +kernel
theorem dX1_dropMark_2 : decode cX1_dropMark 2 = .ok (.imul, 1) := by decide +kernel
theorem dX1_dropMark_3 : decode cX1_dropMark 3 = .ok (.istore_n 2, 1) := by decide +kernel
theorem dX1_dropMark_4 : decode cX1_dropMark 4 = .ok (.iload_n 2, 1) := by decide +kernel
theorem dX1_dropMark_5 : decode cX1_dropMark 5 = .ok (.ifCond .lt 34, 3) := by decide +kernel
theorem dX1_dropMark_8 : decode cX1_dropMark 8 = .ok (.iload_n 2, 1) := by decide +kernel
theorem dX1_dropMark_9 : decode cX1_dropMark 9 = .ok (.iconst 3, 1) := by decide +kernel
theorem dX1_dropMark_10 : decode cX1_dropMark 10 = .ok (.iadd, 1) := by decide +kernel
theorem dX1_dropMark_11 : decode cX1_dropMark 11 = .ok (.aload_n 0, 1) := by decide +kernel
theorem dX1_dropMark_12 : decode cX1_dropMark 12 = .ok (.getfield 38, 3) := by decide +kernel
theorem dX1_dropMark_15 : decode cX1_dropMark 15 = .ok (.arraylength, 1) := by decide +kernel
theorem dX1_dropMark_16 : decode cX1_dropMark 16 = .ok (.if_icmp .ge 23, 3) := by decide +kernel
theorem dX1_dropMark_19 : decode cX1_dropMark 19 = .ok (.aload_n 0, 1) := by decide +kernel
theorem dX1_dropMark_20 : decode cX1_dropMark 20 = .ok (.getfield 38, 3) := by decide +kernel
theorem dX1_dropMark_23 : decode cX1_dropMark 23 = .ok (.iload_n 2, 1) := by decide +kernel
theorem dX1_dropMark_24 : decode cX1_dropMark 24 = .ok (.aload_n 0, 1) := by decide +kernel
theorem dX1_dropMark_25 : decode cX1_dropMark 25 = .ok (.getfield 38, 3) := by decide +kernel
theorem dX1_dropMark_28 : decode cX1_dropMark 28 = .ok (.iload_n 2, 1) := by decide +kernel
theorem dX1_dropMark_29 : decode cX1_dropMark 29 = .ok (.iconst 3, 1) := by decide +kernel
theorem dX1_dropMark_30 : decode cX1_dropMark 30 = .ok (.iadd, 1) := by decide +kernel
theorem dX1_dropMark_31 : decode cX1_dropMark 31 = .ok (.iaload, 1) := by decide +kernel
theorem dX1_dropMark_32 : decode cX1_dropMark 32 = .ok (.iastore, 1) := by decide +kernel
theorem dX1_dropMark_33 : decode cX1_dropMark 33 = .ok (.iinc 2 1, 3) := by decide +kernel
theorem dX1_dropMark_36 : decode cX1_dropMark 36 = .ok (.goto (-32), 3) := by decide +kernel
theorem dX1_dropMark_39 : decode cX1_dropMark 39 = .ok (.aload_n 0, 1) := by decide +kernel
theorem dX1_dropMark_40 : decode cX1_dropMark 40 = .ok (.dup, 1) := by decide +kernel
theorem dX1_dropMark_41 : decode cX1_dropMark 41 = .ok (.getfield 45, 3) := by decide +kernel
theorem dX1_dropMark_44 : decode cX1_dropMark 44 = .ok (.iconst 1, 1) := by decide +kernel
theorem dX1_dropMark_45 : decode cX1_dropMark 45 = .ok (.isub, 1) := by decide +kernel
theorem dX1_dropMark_46 : decode cX1_dropMark 46 = .ok (.putfield 45, 3) := by decide +kernel
theorem dX1_dropMark_49 : decode cX1_dropMark 49 = .ok (.return_, 1) := by decide +kernel
theorem dX1_carryPlaces_0 : decode cX1_carryPlaces 0 = .ok (.aload_n 0, 1) := by decide +kernel
theorem dX1_carryPlaces_1 : decode cX1_carryPlaces 1 = .ok (.aload_n 1, 1) := by decide +kernel
theorem dX1_carryPlaces_2 : decode cX1_carryPlaces 2 = .ok (.aload_n 0, 1) := by decide +kernel
theorem dX1_carryPlaces_3 : decode cX1_carryPlaces 3 = .ok (.getfield 52, 3) := by decide +kernel
theorem dX1_carryPlaces_6 : decode cX1_carryPlaces 6 = .ok (.iload_n 2, 1) := by decide +kernel
theorem dX1_carryPlaces_7 : decode cX1_carryPlaces 7 = .ok (.invokevirtual 90, 3) := by decide +kernel
theorem dX1_carryPlaces_10 : decode cX1_carryPlaces 10 = .ok (.putfield 52, 3) := by decide +kernel
theorem dX1_carryPlaces_13 : decode cX1_carryPlaces 13 = .ok (.iconst 0, 1) := by decide +kernel
theorem dX1_carryPlaces_14 : decode cX1_carryPlaces 14 = .ok (.istore_n 3, 1) := by decide +kernel
theorem dX1_carryPlaces_15 : decode cX1_carryPlaces 15 = .ok (.iload_n 3, 1) := by decide +kernel
theorem dX1_carryPlaces_16 : decode cX1_carryPlaces 16 = .ok (.iconst 2, 1) := by decide +kernel
theorem dX1_carryPlaces_17 : decode cX1_carryPlaces 17 = .ok (.iadd, 1) := by decide +kernel
theorem dX1_carryPlaces_18 : decode cX1_carryPlaces 18 = .ok (.iconst 3, 1) := by decide +kernel
theorem dX1_carryPlaces_19 : decode cX1_carryPlaces 19 = .ok (.aload_n 0, 1) := by decide +kernel
theorem dX1_carryPlaces_20 : decode cX1_carryPlaces 20 = .ok (.getfield 45, 3) := by decide +kernel
theorem dX1_carryPlaces_23 : decode cX1_carryPlaces 23 = .ok (.imul, 1) := by decide +kernel
theorem dX1_carryPlaces_24 : decode cX1_carryPlaces 24 = .ok (.if_icmp .ge 98, 3) := by decide +kernel
theorem dX1_carryPlaces_27 : decode cX1_carryPlaces 27 = .ok (.iload_n 3, 1) := by decide +kernel
theorem dX1_carryPlaces_28 : decode cX1_carryPlaces 28 = .ok (.iconst 2, 1) := by decide +kernel
theorem dX1_carryPlaces_29 : decode cX1_carryPlaces 29 = .ok (.iadd, 1) := by decide +kernel
theorem dX1_carryPlaces_30 : decode cX1_carryPlaces 30 = .ok (.aload_n 0, 1) := by decide +kernel
theorem dX1_carryPlaces_31 : decode cX1_carryPlaces 31 = .ok (.getfield 38, 3) := by decide +kernel
theorem dX1_carryPlaces_34 : decode cX1_carryPlaces 34 = .ok (.arraylength, 1) := by decide +kernel
theorem dX1_carryPlaces_35 : decode cX1_carryPlaces 35 = .ok (.if_icmp .ge 87, 3) := by decide +kernel
theorem dX1_carryPlaces_38 : decode cX1_carryPlaces 38 = .ok (.aload_n 0, 1) := by decide +kernel
theorem dX1_carryPlaces_39 : decode cX1_carryPlaces 39 = .ok (.getfield 38, 3) := by decide +kernel
theorem dX1_carryPlaces_42 : decode cX1_carryPlaces 42 = .ok (.iload_n 3, 1) := by decide +kernel
theorem dX1_carryPlaces_43 : decode cX1_carryPlaces 43 = .ok (.iconst 2, 1) := by decide +kernel
theorem dX1_carryPlaces_44 : decode cX1_carryPlaces 44 = .ok (.iadd, 1) := by decide +kernel
theorem dX1_carryPlaces_45 : decode cX1_carryPlaces 45 = .ok (.iaload, 1) := by decide +kernel
theorem dX1_carryPlaces_46 : decode cX1_carryPlaces 46 = .ok (.istore 4, 2) := by decide +kernel
theorem dX1_carryPlaces_48 : decode cX1_carryPlaces 48 = .ok (.aload_n 0, 1) := by decide +kernel
theorem dX1_carryPlaces_49 : decode cX1_carryPlaces 49 = .ok (.getfield 38, 3) := by decide +kernel
theorem dX1_carryPlaces_52 : decode cX1_carryPlaces 52 = .ok (.iload_n 3, 1) := by decide +kernel
theorem dX1_carryPlaces_53 : decode cX1_carryPlaces 53 = .ok (.aload_n 1, 1) := by decide +kernel
theorem dX1_carryPlaces_54 : decode cX1_carryPlaces 54 = .ok (.aload_n 0, 1) := by decide +kernel
theorem dX1_carryPlaces_55 : decode cX1_carryPlaces 55 = .ok (.getfield 38, 3) := by decide +kernel
theorem dX1_carryPlaces_58 : decode cX1_carryPlaces 58 = .ok (.iload_n 3, 1) := by decide +kernel
theorem dX1_carryPlaces_59 : decode cX1_carryPlaces 59 = .ok (.iaload, 1) := by decide +kernel
theorem dX1_carryPlaces_60 : decode cX1_carryPlaces 60 = .ok (.iload 4, 2) := by decide +kernel
theorem dX1_carryPlaces_62 : decode cX1_carryPlaces 62 = .ok (.iconst 2, 1) := by decide +kernel
theorem dX1_carryPlaces_63 : decode cX1_carryPlaces 63 = .ok (.irem, 1) := by decide +kernel
theorem dX1_carryPlaces_64 : decode cX1_carryPlaces 64 = .ok (.ifCond .ne 7, 3) := by decide +kernel
theorem dX1_carryPlaces_67 : decode cX1_carryPlaces 67 = .ok (.iconst 1, 1) := by decide +kernel
theorem dX1_carryPlaces_68 : decode cX1_carryPlaces 68 = .ok (.goto 4, 3) := by decide +kernel
theorem dX1_carryPlaces_71 : decode cX1_carryPlaces 71 = .ok (.iconst 0, 1) := by decide +kernel
theorem dX1_carryPlaces_72 : decode cX1_carryPlaces 72 = .ok (.invokevirtual 90, 3) := by decide +kernel
theorem dX1_carryPlaces_75 : decode cX1_carryPlaces 75 = .ok (.iastore, 1) := by decide +kernel
theorem dX1_carryPlaces_76 : decode cX1_carryPlaces 76 = .ok (.aload_n 0, 1) := by decide +kernel
theorem dX1_carryPlaces_77 : decode cX1_carryPlaces 77 = .ok (.getfield 38, 3) := by decide +kernel
theorem dX1_carryPlaces_80 : decode cX1_carryPlaces 80 = .ok (.iload_n 3, 1) := by decide +kernel
theorem dX1_carryPlaces_81 : decode cX1_carryPlaces 81 = .ok (.iconst 1, 1) := by decide +kernel
theorem dX1_carryPlaces_82 : decode cX1_carryPlaces 82 = .ok (.iadd, 1) := by decide +kernel
theorem dX1_carryPlaces_83 : decode cX1_carryPlaces 83 = .ok (.aload_n 0, 1) := by decide +kernel
theorem dX1_carryPlaces_84 : decode cX1_carryPlaces 84 = .ok (.getfield 38, 3) := by decide +kernel
theorem dX1_carryPlaces_87 : decode cX1_carryPlaces 87 = .ok (.iload_n 3, 1) := by decide +kernel
theorem dX1_carryPlaces_88 : decode cX1_carryPlaces 88 = .ok (.iaload, 1) := by decide +kernel
theorem dX1_carryPlaces_89 : decode cX1_carryPlaces 89 = .ok (.aload_n 1, 1) := by decide +kernel
theorem dX1_carryPlaces_90 : decode cX1_carryPlaces 90 = .ok (.aload_n 0, 1) := by decide +kernel
theorem dX1_carryPlaces_91 : decode cX1_carryPlaces 91 = .ok (.getfield 38, 3) := by decide +kernel
theorem dX1_carryPlaces_94 : decode cX1_carryPlaces 94 = .ok (.iload_n 3, 1) := by decide +kernel
theorem dX1_carryPlaces_95 : decode cX1_carryPlaces 95 = .ok (.iconst 1, 1) := by decide +kernel
theorem dX1_carryPlaces_96 : decode cX1_carryPlaces 96 = .ok (.iadd, 1) := by decide +kernel
theorem dX1_carryPlaces_97 : decode cX1_carryPlaces 97 = .ok (.iaload, 1) := by decide +kernel
theorem dX1_carryPlaces_98 : decode cX1_carryPlaces 98 = .ok (.iload 4, 2) := by decide +kernel
theorem dX1_carryPlaces_100 : decode cX1_carryPlaces 100 = .ok (.iconst 2, 1) := by decide +kernel
theorem dX1_carryPlaces_101 : decode cX1_carryPlaces 101 = .ok (.if_icmp .lt 7, 3) := by decide +kernel
theorem dX1_carryPlaces_104 : decode cX1_carryPlaces 104 = .ok (.iconst 1, 1) := by decide +kernel
theorem dX1_carryPlaces_105 : decode cX1_carryPlaces 105 = .ok (.goto 4, 3) := by decide +kernel
theorem dX1_carryPlaces_108 : decode cX1_carryPlaces 108 = .ok (.iconst 0, 1) := by decide +kernel
theorem dX1_carryPlaces_109 : decode cX1_carryPlaces 109 = .ok (.invokevirtual 90, 3) := by decide +kernel
theorem dX1_carryPlaces_112 : decode cX1_carryPlaces 112 = .ok (.invokestatic 94, 3) := by decide +kernel
theorem dX1_carryPlaces_115 : decode cX1_carryPlaces 115 = .ok (.iastore, 1) := by decide +kernel
theorem dX1_carryPlaces_116 : decode cX1_carryPlaces 116 = .ok (.iinc 3 3, 3) := by decide +kernel
theorem dX1_carryPlaces_119 : decode cX1_carryPlaces 119 = .ok (.goto (-104), 3) := by decide +kernel
theorem dX1_carryPlaces_122 : decode cX1_carryPlaces 122 = .ok (.return_, 1) := by decide +kernel
theorem dX1_send_0 : decode cX1_send 0 = .ok (.aload_n 0, 1) := by decide +kernel
theorem dX1_send_1 : decode cX1_send 1 = .ok (.iconst 1, 1) := by decide +kernel
theorem dX1_send_2 : decode cX1_send 2 = .ok (.putfield 61, 3) := by decide +kernel
theorem dX1_send_5 : decode cX1_send 5 = .ok (.aload_n 0, 1) := by decide +kernel
theorem dX1_send_6 : decode cX1_send 6 = .ok (.aload_n 0, 1) := by decide +kernel
theorem dX1_send_7 : decode cX1_send 7 = .ok (.getfield 55, 3) := by decide +kernel
theorem dX1_send_10 : decode cX1_send 10 = .ok (.putfield 58, 3) := by decide +kernel
theorem dX1_send_13 : decode cX1_send 13 = .ok (.return_, 1) := by decide +kernel
theorem dX1_takeOwn_0 : decode cX1_takeOwn 0 = .ok (.aload_n 0, 1) := by decide +kernel
theorem dX1_takeOwn_1 : decode cX1_takeOwn 1 = .ok (.iconst 0, 1) := by decide +kernel
theorem dX1_takeOwn_2 : decode cX1_takeOwn 2 = .ok (.putfield 61, 3) := by decide +kernel
theorem dX1_takeOwn_5 : decode cX1_takeOwn 5 = .ok (.aload_n 0, 1) := by decide +kernel
theorem dX1_takeOwn_6 : decode cX1_takeOwn 6 = .ok (.getfield 65, 3) := by decide +kernel
theorem dX1_takeOwn_9 : decode cX1_takeOwn 9 = .ok (.ifCond .eq 23, 3) := by decide +kernel
theorem dX1_takeOwn_12 : decode cX1_takeOwn 12 = .ok (.aload_n 0, 1) := by decide +kernel
theorem dX1_takeOwn_13 : decode cX1_takeOwn 13 = .ok (.getfield 21, 3) := by decide +kernel
theorem dX1_takeOwn_16 : decode cX1_takeOwn 16 = .ok (.aload_n 0, 1) := by decide +kernel
theorem dX1_takeOwn_17 : decode cX1_takeOwn 17 = .ok (.getfield 25, 3) := by decide +kernel
theorem dX1_takeOwn_20 : decode cX1_takeOwn 20 = .ok (.invokevirtual 100, 3) := by decide +kernel
theorem dX1_takeOwn_23 : decode cX1_takeOwn 23 = .ok (.aload_n 0, 1) := by decide +kernel
theorem dX1_takeOwn_24 : decode cX1_takeOwn 24 = .ok (.iconst 0, 1) := by decide +kernel
theorem dX1_takeOwn_25 : decode cX1_takeOwn 25 = .ok (.putfield 65, 3) := by decide +kernel
theorem dX1_takeOwn_28 : decode cX1_takeOwn 28 = .ok (.aload_n 0, 1) := by decide +kernel
theorem dX1_takeOwn_29 : decode cX1_takeOwn 29 = .ok (.invokevirtual 103, 3) := by decide +kernel
theorem dX1_takeOwn_32 : decode cX1_takeOwn 32 = .ok (.return_, 1) := by decide +kernel
theorem dX1_passTick_0 : decode cX1_passTick 0 = .ok (.aload_n 0, 1) := by decide +kernel
theorem dX1_passTick_1 : decode cX1_passTick 1 = .ok (.getfield 58, 3) := by decide +kernel
theorem dX1_passTick_4 : decode cX1_passTick 4 = .ok (.ifCond .le 13, 3) := by decide +kernel
theorem dX1_passTick_7 : decode cX1_passTick 7 = .ok (.aload_n 0, 1) := by decide +kernel
theorem dX1_passTick_8 : decode cX1_passTick 8 = .ok (.dup, 1) := by decide +kernel
theorem dX1_passTick_9 : decode cX1_passTick 9 = .ok (.getfield 58, 3) := by decide +kernel
theorem dX1_passTick_12 : decode cX1_passTick 12 = .ok (.iconst 1, 1) := by decide +kernel
theorem dX1_passTick_13 : decode cX1_passTick 13 = .ok (.isub, 1) := by decide +kernel
theorem dX1_passTick_14 : decode cX1_passTick 14 = .ok (.putfield 58, 3) := by decide +kernel
theorem dX1_passTick_17 : decode cX1_passTick 17 = .ok (.aload_n 0, 1) := by decide +kernel
theorem dX1_passTick_18 : decode cX1_passTick 18 = .ok (.getfield 49, 3) := by decide +kernel
theorem dX1_passTick_21 : decode cX1_passTick 21 = .ok (.istore_n 2, 1) := by decide +kernel
theorem dX1_passTick_22 : decode cX1_passTick 22 = .ok (.iload_n 2, 1) := by decide +kernel
theorem dX1_passTick_23 : decode cX1_passTick 23 = .ok (.iload_n 1, 1) := by decide +kernel
theorem dX1_passTick_24 : decode cX1_passTick 24 = .ok (.if_icmp .ge 37, 3) := by decide +kernel
theorem dX1_passTick_27 : decode cX1_passTick 27 = .ok (.iload_n 2, 1) := by decide +kernel
theorem dX1_passTick_28 : decode cX1_passTick 28 = .ok (.aload_n 0, 1) := by decide +kernel
theorem dX1_passTick_29 : decode cX1_passTick 29 = .ok (.getfield 42, 3) := by decide +kernel
theorem dX1_passTick_32 : decode cX1_passTick 32 = .ok (.arraylength, 1) := by decide +kernel
theorem dX1_passTick_33 : decode cX1_passTick 33 = .ok (.if_icmp .ge 28, 3) := by decide +kernel
theorem dX1_passTick_36 : decode cX1_passTick 36 = .ok (.aload_n 0, 1) := by decide +kernel
theorem dX1_passTick_37 : decode cX1_passTick 37 = .ok (.getfield 42, 3) := by decide +kernel
theorem dX1_passTick_40 : decode cX1_passTick 40 = .ok (.iload_n 2, 1) := by decide +kernel
theorem dX1_passTick_41 : decode cX1_passTick 41 = .ok (.iaload, 1) := by decide +kernel
theorem dX1_passTick_42 : decode cX1_passTick 42 = .ok (.ifCond .le 13, 3) := by decide +kernel
theorem dX1_passTick_45 : decode cX1_passTick 45 = .ok (.aload_n 0, 1) := by decide +kernel
theorem dX1_passTick_46 : decode cX1_passTick 46 = .ok (.getfield 42, 3) := by decide +kernel
theorem dX1_passTick_49 : decode cX1_passTick 49 = .ok (.iload_n 2, 1) := by decide +kernel
theorem dX1_passTick_50 : decode cX1_passTick 50 = .ok (.dup2, 1) := by decide +kernel
theorem dX1_passTick_51 : decode cX1_passTick 51 = .ok (.iaload, 1) := by decide +kernel
theorem dX1_passTick_52 : decode cX1_passTick 52 = .ok (.iconst 1, 1) := by decide +kernel
theorem dX1_passTick_53 : decode cX1_passTick 53 = .ok (.isub, 1) := by decide +kernel
theorem dX1_passTick_54 : decode cX1_passTick 54 = .ok (.iastore, 1) := by decide +kernel
theorem dX1_passTick_55 : decode cX1_passTick 55 = .ok (.iinc 2 1, 3) := by decide +kernel
theorem dX1_passTick_58 : decode cX1_passTick 58 = .ok (.goto (-36), 3) := by decide +kernel
theorem dX1_passTick_61 : decode cX1_passTick 61 = .ok (.return_, 1) := by decide +kernel
theorem dX2_init_0 : decode cX2_init 0 = .ok (.aload_n 0, 1) := by decide +kernel
theorem dX2_init_1 : decode cX2_init 1 = .ok (.invokespecial 3, 3) := by decide +kernel
theorem dX2_init_4 : decode cX2_init 4 = .ok (.aload_n 0, 1) := by decide +kernel
theorem dX2_init_5 : decode cX2_init 5 = .ok (.bipush 20, 2) := by decide +kernel
theorem dX2_init_7 : decode cX2_init 7 = .ok (.anewarray 9, 3) := by decide +kernel
theorem dX2_init_10 : decode cX2_init 10 = .ok (.putfield 11, 3) := by decide +kernel
theorem dX2_init_13 : decode cX2_init 13 = .ok (.aload_n 0, 1) := by decide +kernel
theorem dX2_init_14 : decode cX2_init 14 = .ok (.iconst 0, 1) := by decide +kernel
theorem dX2_init_15 : decode cX2_init 15 = .ok (.putfield 17, 3) := by decide +kernel
theorem dX2_init_18 : decode cX2_init 18 = .ok (.aload_n 0, 1) := by decide +kernel
theorem dX2_init_19 : decode cX2_init 19 = .ok (.iconst 0, 1) := by decide +kernel
theorem dX2_init_20 : decode cX2_init 20 = .ok (.putfield 21, 3) := by decide +kernel
theorem dX2_init_23 : decode cX2_init 23 = .ok (.aload_n 0, 1) := by decide +kernel
theorem dX2_init_24 : decode cX2_init 24 = .ok (.iconst 0, 1) := by decide +kernel
theorem dX2_init_25 : decode cX2_init 25 = .ok (.putfield 24, 3) := by decide +kernel
theorem dX2_init_28 : decode cX2_init 28 = .ok (.return_, 1) := by decide +kernel
theorem dX2_begin_0 : decode cX2_begin 0 = .ok (.aload_n 0, 1) := by decide +kernel
theorem dX2_begin_1 : decode cX2_begin 1 = .ok (.iconst 0, 1) := by decide +kernel
theorem dX2_begin_2 : decode cX2_begin 2 = .ok (.putfield 21, 3) := by decide +kernel
theorem dX2_begin_5 : decode cX2_begin 5 = .ok (.aload_n 0, 1) := by decide +kernel
theorem dX2_begin_6 : decode cX2_begin 6 = .ok (.dup, 1) := by decide +kernel
theorem dX2_begin_7 : decode cX2_begin 7 = .ok (.getfield 24, 3) := by decide +kernel
theorem dX2_begin_10 : decode cX2_begin 10 = .ok (.iconst 1, 1) := by decide +kernel
theorem dX2_begin_11 : decode cX2_begin 11 = .ok (.iadd, 1) := by decide +kernel
theorem dX2_begin_12 : decode cX2_begin 12 = .ok (.putfield 24, 3) := by decide +kernel
theorem dX2_begin_15 : decode cX2_begin 15 = .ok (.return_, 1) := by decide +kernel
theorem dX2_keep_0 : decode cX2_keep 0 = .ok (.aload_n 0, 1) := by decide +kernel
theorem dX2_keep_1 : decode cX2_keep 1 = .ok (.dup, 1) := by decide +kernel
theorem dX2_keep_2 : decode cX2_keep 2 = .ok (.getfield 24, 3) := by decide +kernel
theorem dX2_keep_5 : decode cX2_keep 5 = .ok (.iconst 1, 1) := by decide +kernel
theorem dX2_keep_6 : decode cX2_keep 6 = .ok (.iadd, 1) := by decide +kernel
theorem dX2_keep_7 : decode cX2_keep 7 = .ok (.putfield 24, 3) := by decide +kernel
theorem dX2_keep_10 : decode cX2_keep 10 = .ok (.aload_n 0, 1) := by decide +kernel
theorem dX2_keep_11 : decode cX2_keep 11 = .ok (.getfield 17, 3) := by decide +kernel
theorem dX2_keep_14 : decode cX2_keep 14 = .ok (.aload_n 0, 1) := by decide +kernel
theorem dX2_keep_15 : decode cX2_keep 15 = .ok (.getfield 21, 3) := by decide +kernel
theorem dX2_keep_18 : decode cX2_keep 18 = .ok (.iadd, 1) := by decide +kernel
theorem dX2_keep_19 : decode cX2_keep 19 = .ok (.bipush 20, 2) := by decide +kernel
theorem dX2_keep_21 : decode cX2_keep 21 = .ok (.irem, 1) := by decide +kernel
theorem dX2_keep_22 : decode cX2_keep 22 = .ok (.istore_n 2, 1) := by decide +kernel
theorem dX2_keep_23 : decode cX2_keep 23 = .ok (.aload_n 0, 1) := by decide +kernel
theorem dX2_keep_24 : decode cX2_keep 24 = .ok (.getfield 21, 3) := by decide +kernel
theorem dX2_keep_27 : decode cX2_keep 27 = .ok (.bipush 20, 2) := by decide +kernel
theorem dX2_keep_29 : decode cX2_keep 29 = .ok (.if_icmp .ge 16, 3) := by decide +kernel
theorem dX2_keep_32 : decode cX2_keep 32 = .ok (.aload_n 0, 1) := by decide +kernel
theorem dX2_keep_33 : decode cX2_keep 33 = .ok (.dup, 1) := by decide +kernel
theorem dX2_keep_34 : decode cX2_keep 34 = .ok (.getfield 21, 3) := by decide +kernel
theorem dX2_keep_37 : decode cX2_keep 37 = .ok (.iconst 1, 1) := by decide +kernel
theorem dX2_keep_38 : decode cX2_keep 38 = .ok (.iadd, 1) := by decide +kernel
theorem dX2_keep_39 : decode cX2_keep 39 = .ok (.putfield 21, 3) := by decide +kernel
theorem dX2_keep_42 : decode cX2_keep 42 = .ok (.goto 16, 3) := by decide +kernel
theorem dX2_keep_45 : decode cX2_keep 45 = .ok (.aload_n 0, 1) := by decide +kernel
theorem dX2_keep_46 : decode cX2_keep 46 = .ok (.aload_n 0, 1) := by decide +kernel
theorem dX2_keep_47 : decode cX2_keep 47 = .ok (.getfield 17, 3) := by decide +kernel
theorem dX2_keep_50 : decode cX2_keep 50 = .ok (.iconst 1, 1) := by decide +kernel
theorem dX2_keep_51 : decode cX2_keep 51 = .ok (.iadd, 1) := by decide +kernel
theorem dX2_keep_52 : decode cX2_keep 52 = .ok (.bipush 20, 2) := by decide +kernel
theorem dX2_keep_54 : decode cX2_keep 54 = .ok (.irem, 1) := by decide +kernel
theorem dX2_keep_55 : decode cX2_keep 55 = .ok (.putfield 17, 3) := by decide +kernel
theorem dX2_keep_58 : decode cX2_keep 58 = .ok (.aload_n 0, 1) := by decide +kernel
theorem dX2_keep_59 : decode cX2_keep 59 = .ok (.getfield 11, 3) := by decide +kernel
theorem dX2_keep_62 : decode cX2_keep 62 = .ok (.iload_n 2, 1) := by decide +kernel
theorem dX2_keep_63 : decode cX2_keep 63 = .ok (.aaload, 1) := by decide +kernel
theorem dX2_keep_64 : decode cX2_keep 64 = .ok (.ifnonnull 24, 3) := by decide +kernel
theorem dX2_keep_67 : decode cX2_keep 67 = .ok (.aload_n 0, 1) := by decide +kernel
theorem dX2_keep_68 : decode cX2_keep 68 = .ok (.getfield 11, 3) := by decide +kernel
theorem dX2_keep_71 : decode cX2_keep 71 = .ok (.iload_n 2, 1) := by decide +kernel
theorem dX2_keep_72 : decode cX2_keep 72 = .ok (.new 9, 3) := by decide +kernel
theorem dX2_keep_75 : decode cX2_keep 75 = .ok (.dup, 1) := by decide +kernel
theorem dX2_keep_76 : decode cX2_keep 76 = .ok (.aload_n 1, 1) := by decide +kernel
theorem dX2_keep_77 : decode cX2_keep 77 = .ok (.getfield 27, 3) := by decide +kernel
theorem dX2_keep_80 : decode cX2_keep 80 = .ok (.aload_n 1, 1) := by decide +kernel
theorem dX2_keep_81 : decode cX2_keep 81 = .ok (.getfield 31, 3) := by decide +kernel
theorem dX2_keep_84 : decode cX2_keep 84 = .ok (.invokespecial 35, 3) := by decide +kernel
theorem dX2_keep_87 : decode cX2_keep 87 = .ok (.aastore, 1) := by decide +kernel
theorem dX2_keep_88 : decode cX2_keep 88 = .ok (.aload_n 0, 1) := by decide +kernel
theorem dX2_keep_89 : decode cX2_keep 89 = .ok (.getfield 11, 3) := by decide +kernel
theorem dX2_keep_92 : decode cX2_keep 92 = .ok (.iload_n 2, 1) := by decide +kernel
theorem dX2_keep_93 : decode cX2_keep 93 = .ok (.aaload, 1) := by decide +kernel
theorem dX2_keep_94 : decode cX2_keep 94 = .ok (.aload_n 1, 1) := by decide +kernel
theorem dX2_keep_95 : decode cX2_keep 95 = .ok (.iconst 1, 1) := by decide +kernel
theorem dX2_keep_96 : decode cX2_keep 96 = .ok (.invokevirtual 38, 3) := by decide +kernel
theorem dX2_keep_99 : decode cX2_keep 99 = .ok (.return_, 1) := by decide +kernel
theorem dX2_restore_0 : decode cX2_restore 0 = .ok (.aload_n 0, 1) := by decide +kernel
theorem dX2_restore_1 : decode cX2_restore 1 = .ok (.getfield 21, 3) := by decide +kernel
theorem dX2_restore_4 : decode cX2_restore 4 = .ok (.ifCond .le 20, 3) := by decide +kernel
theorem dX2_restore_7 : decode cX2_restore 7 = .ok (.aload_n 0, 1) := by decide +kernel
theorem dX2_restore_8 : decode cX2_restore 8 = .ok (.getfield 17, 3) := by decide +kernel
theorem dX2_restore_11 : decode cX2_restore 11 = .ok (.aload_n 0, 1) := by decide +kernel
theorem dX2_restore_12 : decode cX2_restore 12 = .ok (.getfield 21, 3) := by decide +kernel
theorem dX2_restore_15 : decode cX2_restore 15 = .ok (.iadd, 1) := by decide +kernel
theorem dX2_restore_16 : decode cX2_restore 16 = .ok (.iconst 1, 1) := by decide +kernel
theorem dX2_restore_17 : decode cX2_restore 17 = .ok (.isub, 1) := by decide +kernel
theorem dX2_restore_18 : decode cX2_restore 18 = .ok (.bipush 20, 2) := by decide +kernel
theorem dX2_restore_20 : decode cX2_restore 20 = .ok (.irem, 1) := by decide +kernel
theorem dX2_restore_21 : decode cX2_restore 21 = .ok (.goto 4, 3) := by decide +kernel
theorem dX2_restore_24 : decode cX2_restore 24 = .ok (.iconst 0, 1) := by decide +kernel
theorem dX2_restore_25 : decode cX2_restore 25 = .ok (.istore_n 2, 1) := by decide +kernel
theorem dX2_restore_26 : decode cX2_restore 26 = .ok (.aload_n 0, 1) := by decide +kernel
theorem dX2_restore_27 : decode cX2_restore 27 = .ok (.getfield 21, 3) := by decide +kernel
theorem dX2_restore_30 : decode cX2_restore 30 = .ok (.ifCond .eq 12, 3) := by decide +kernel
theorem dX2_restore_33 : decode cX2_restore 33 = .ok (.aload_n 0, 1) := by decide +kernel
theorem dX2_restore_34 : decode cX2_restore 34 = .ok (.getfield 11, 3) := by decide +kernel
theorem dX2_restore_37 : decode cX2_restore 37 = .ok (.iload_n 2, 1) := by decide +kernel
theorem dX2_restore_38 : decode cX2_restore 38 = .ok (.aaload, 1) := by decide +kernel
theorem dX2_restore_39 : decode cX2_restore 39 = .ok (.ifnonnull 5, 3) := by decide +kernel
theorem dX2_restore_42 : decode cX2_restore 42 = .ok (.iconst 0, 1) := by decide +kernel
theorem dX2_restore_43 : decode cX2_restore 43 = .ok (.ireturn, 1) := by decide +kernel
theorem dX2_restore_44 : decode cX2_restore 44 = .ok (.aload_n 0, 1) := by decide +kernel
theorem dX2_restore_45 : decode cX2_restore 45 = .ok (.dup, 1) := by decide +kernel
theorem dX2_restore_46 : decode cX2_restore 46 = .ok (.getfield 21, 3) := by decide +kernel
theorem dX2_restore_49 : decode cX2_restore 49 = .ok (.iconst 1, 1) := by decide +kernel
theorem dX2_restore_50 : decode cX2_restore 50 = .ok (.isub, 1) := by decide +kernel
theorem dX2_restore_51 : decode cX2_restore 51 = .ok (.putfield 21, 3) := by decide +kernel
theorem dX2_restore_54 : decode cX2_restore 54 = .ok (.aload_n 0, 1) := by decide +kernel
theorem dX2_restore_55 : decode cX2_restore 55 = .ok (.dup, 1) := by decide +kernel
theorem dX2_restore_56 : decode cX2_restore 56 = .ok (.getfield 24, 3) := by decide +kernel
theorem dX2_restore_59 : decode cX2_restore 59 = .ok (.iconst 1, 1) := by decide +kernel
theorem dX2_restore_60 : decode cX2_restore 60 = .ok (.iadd, 1) := by decide +kernel
theorem dX2_restore_61 : decode cX2_restore 61 = .ok (.putfield 24, 3) := by decide +kernel
theorem dX2_restore_64 : decode cX2_restore 64 = .ok (.aload_n 1, 1) := by decide +kernel
theorem dX2_restore_65 : decode cX2_restore 65 = .ok (.aload_n 0, 1) := by decide +kernel
theorem dX2_restore_66 : decode cX2_restore 66 = .ok (.getfield 11, 3) := by decide +kernel
theorem dX2_restore_69 : decode cX2_restore 69 = .ok (.iload_n 2, 1) := by decide +kernel
theorem dX2_restore_70 : decode cX2_restore 70 = .ok (.aaload, 1) := by decide +kernel
theorem dX2_restore_71 : decode cX2_restore 71 = .ok (.iconst 1, 1) := by decide +kernel
theorem dX2_restore_72 : decode cX2_restore 72 = .ok (.invokevirtual 38, 3) := by decide +kernel
theorem dX2_restore_75 : decode cX2_restore 75 = .ok (.iconst 1, 1) := by decide +kernel
theorem dX2_restore_76 : decode cX2_restore 76 = .ok (.ireturn, 1) := by decide +kernel
theorem dX3_init_0 : decode cX3_init 0 = .ok (.aload_n 0, 1) := by decide +kernel
theorem dX3_init_1 : decode cX3_init 1 = .ok (.invokespecial 3, 3) := by decide +kernel
theorem dX3_init_4 : decode cX3_init 4 = .ok (.aload_n 0, 1) := by decide +kernel
theorem dX3_init_5 : decode cX3_init 5 = .ok (.bipush 8, 2) := by decide +kernel
theorem dX3_init_7 : decode cX3_init 7 = .ok (.anewarray 9, 3) := by decide +kernel
theorem dX3_init_10 : decode cX3_init 10 = .ok (.putfield 11, 3) := by decide +kernel
theorem dX3_init_13 : decode cX3_init 13 = .ok (.aload_n 0, 1) := by decide +kernel
theorem dX3_init_14 : decode cX3_init 14 = .ok (.iconst 0, 1) := by decide +kernel
theorem dX3_init_15 : decode cX3_init 15 = .ok (.putfield 17, 3) := by decide +kernel
theorem dX3_init_18 : decode cX3_init 18 = .ok (.iconst 0, 1) := by decide +kernel
theorem dX3_init_19 : decode cX3_init 19 = .ok (.istore_n 1, 1) := by decide +kernel
theorem dX3_init_20 : decode cX3_init 20 = .ok (.iload_n 1, 1) := by decide +kernel
theorem dX3_init_21 : decode cX3_init 21 = .ok (.aload_n 0, 1) := by decide +kernel
theorem dX3_init_22 : decode cX3_init 22 = .ok (.getfield 11, 3) := by decide +kernel
theorem dX3_init_25 : decode cX3_init 25 = .ok (.arraylength, 1) := by decide +kernel
theorem dX3_init_26 : decode cX3_init 26 = .ok (.if_icmp .ge 22, 3) := by decide +kernel
theorem dX3_init_29 : decode cX3_init 29 = .ok (.aload_n 0, 1) := by decide +kernel
theorem dX3_init_30 : decode cX3_init 30 = .ok (.getfield 11, 3) := by decide +kernel
theorem dX3_init_33 : decode cX3_init 33 = .ok (.iload_n 1, 1) := by decide +kernel
theorem dX3_init_34 : decode cX3_init 34 = .ok (.new 9, 3) := by decide +kernel
theorem dX3_init_37 : decode cX3_init 37 = .ok (.dup, 1) := by decide +kernel
theorem dX3_init_38 : decode cX3_init 38 = .ok (.invokespecial 21, 3) := by decide +kernel
theorem dX3_init_41 : decode cX3_init 41 = .ok (.aastore, 1) := by decide +kernel
theorem dX3_init_42 : decode cX3_init 42 = .ok (.iinc 1 1, 3) := by decide +kernel
theorem dX3_init_45 : decode cX3_init 45 = .ok (.goto (-25), 3) := by decide +kernel
theorem dX3_init_48 : decode cX3_init 48 = .ok (.return_, 1) := by decide +kernel
theorem dX3_copy_0 : decode cX3_copy 0 = .ok (.iconst 0, 1) := by decide +kernel
theorem dX3_copy_1 : decode cX3_copy 1 = .ok (.istore_n 2, 1) := by decide +kernel
theorem dX3_copy_2 : decode cX3_copy 2 = .ok (.iload_n 2, 1) := by decide +kernel
theorem dX3_copy_3 : decode cX3_copy 3 = .ok (.aload_n 1, 1) := by decide +kernel
theorem dX3_copy_4 : decode cX3_copy 4 = .ok (.getfield 17, 3) := by decide +kernel
theorem dX3_copy_7 : decode cX3_copy 7 = .ok (.if_icmp .ge 24, 3) := by decide +kernel
theorem dX3_copy_10 : decode cX3_copy 10 = .ok (.aload_n 0, 1) := by decide +kernel
theorem dX3_copy_11 : decode cX3_copy 11 = .ok (.getfield 11, 3) := by decide +kernel
theorem dX3_copy_14 : decode cX3_copy 14 = .ok (.iload_n 2, 1) := by decide +kernel
theorem dX3_copy_15 : decode cX3_copy 15 = .ok (.aaload, 1) := by decide +kernel
theorem dX3_copy_16 : decode cX3_copy 16 = .ok (.aload_n 1, 1) := by decide +kernel
theorem dX3_copy_17 : decode cX3_copy 17 = .ok (.getfield 11, 3) := by decide +kernel
theorem dX3_copy_20 : decode cX3_copy 20 = .ok (.iload_n 2, 1) := by decide +kernel
theorem dX3_copy_21 : decode cX3_copy 21 = .ok (.aaload, 1) := by decide +kernel
theorem dX3_copy_22 : decode cX3_copy 22 = .ok (.invokevirtual 22, 3) := by decide +kernel
theorem dX3_copy_25 : decode cX3_copy 25 = .ok (.iinc 2 1, 3) := by decide +kernel
theorem dX3_copy_28 : decode cX3_copy 28 = .ok (.goto (-26), 3) := by decide +kernel
theorem dX3_copy_31 : decode cX3_copy 31 = .ok (.aload_n 0, 1) := by decide +kernel
theorem dX3_copy_32 : decode cX3_copy 32 = .ok (.aload_n 1, 1) := by decide +kernel
theorem dX3_copy_33 : decode cX3_copy 33 = .ok (.getfield 17, 3) := by decide +kernel
theorem dX3_copy_36 : decode cX3_copy 36 = .ok (.putfield 17, 3) := by decide +kernel
theorem dX3_copy_39 : decode cX3_copy 39 = .ok (.return_, 1) := by decide +kernel
theorem dX3_addOne_0 : decode cX3_addOne 0 = .ok (.aload_n 0, 1) := by decide +kernel
theorem dX3_addOne_1 : decode cX3_addOne 1 = .ok (.getfield 17, 3) := by decide +kernel
theorem dX3_addOne_4 : decode cX3_addOne 4 = .ok (.aload_n 0, 1) := by decide +kernel
theorem dX3_addOne_5 : decode cX3_addOne 5 = .ok (.getfield 11, 3) := by decide +kernel
theorem dX3_addOne_8 : decode cX3_addOne 8 = .ok (.arraylength, 1) := by decide +kernel
theorem dX3_addOne_9 : decode cX3_addOne 9 = .ok (.if_icmp .ge 20, 3) := by decide +kernel
theorem dX3_addOne_12 : decode cX3_addOne 12 = .ok (.aload_n 0, 1) := by decide +kernel
theorem dX3_addOne_13 : decode cX3_addOne 13 = .ok (.getfield 11, 3) := by decide +kernel
theorem dX3_addOne_16 : decode cX3_addOne 16 = .ok (.aload_n 0, 1) := by decide +kernel
theorem dX3_addOne_17 : decode cX3_addOne 17 = .ok (.dup, 1) := by decide +kernel
theorem dX3_addOne_18 : decode cX3_addOne 18 = .ok (.getfield 17, 3) := by decide +kernel
theorem dX3_addOne_21 : decode cX3_addOne 21 = .ok (.dup_x1, 1) := by decide +kernel
theorem dX3_addOne_22 : decode cX3_addOne 22 = .ok (.iconst 1, 1) := by decide +kernel
theorem dX3_addOne_23 : decode cX3_addOne 23 = .ok (.iadd, 1) := by decide +kernel
theorem dX3_addOne_24 : decode cX3_addOne 24 = .ok (.putfield 17, 3) := by decide +kernel
theorem dX3_addOne_27 : decode cX3_addOne 27 = .ok (.aaload, 1) := by decide +kernel
theorem dX3_addOne_28 : decode cX3_addOne 28 = .ok (.areturn, 1) := by decide +kernel
theorem dX3_addOne_29 : decode cX3_addOne 29 = .ok (.aload_n 0, 1) := by decide +kernel
theorem dX3_addOne_30 : decode cX3_addOne 30 = .ok (.getfield 11, 3) := by decide +kernel
theorem dX3_addOne_33 : decode cX3_addOne 33 = .ok (.iconst 0, 1) := by decide +kernel
theorem dX3_addOne_34 : decode cX3_addOne 34 = .ok (.aaload, 1) := by decide +kernel
theorem dX3_addOne_35 : decode cX3_addOne 35 = .ok (.astore_n 1, 1) := by decide +kernel
theorem dX3_addOne_36 : decode cX3_addOne 36 = .ok (.iconst 1, 1) := by decide +kernel
theorem dX3_addOne_37 : decode cX3_addOne 37 = .ok (.istore_n 2, 1) := by decide +kernel
theorem dX3_addOne_38 : decode cX3_addOne 38 = .ok (.iload_n 2, 1) := by decide +kernel
theorem dX3_addOne_39 : decode cX3_addOne 39 = .ok (.aload_n 0, 1) := by decide +kernel
theorem dX3_addOne_40 : decode cX3_addOne 40 = .ok (.getfield 17, 3) := by decide +kernel
theorem dX3_addOne_43 : decode cX3_addOne 43 = .ok (.if_icmp .ge 23, 3) := by decide +kernel
theorem dX3_addOne_46 : decode cX3_addOne 46 = .ok (.aload_n 0, 1) := by decide +kernel
theorem dX3_addOne_47 : decode cX3_addOne 47 = .ok (.getfield 11, 3) := by decide +kernel
theorem dX3_addOne_50 : decode cX3_addOne 50 = .ok (.iload_n 2, 1) := by decide +kernel
theorem dX3_addOne_51 : decode cX3_addOne 51 = .ok (.iconst 1, 1) := by decide +kernel
theorem dX3_addOne_52 : decode cX3_addOne 52 = .ok (.isub, 1) := by decide +kernel
theorem dX3_addOne_53 : decode cX3_addOne 53 = .ok (.aload_n 0, 1) := by decide +kernel
theorem dX3_addOne_54 : decode cX3_addOne 54 = .ok (.getfield 11, 3) := by decide +kernel
theorem dX3_addOne_57 : decode cX3_addOne 57 = .ok (.iload_n 2, 1) := by decide +kernel
theorem dX3_addOne_58 : decode cX3_addOne 58 = .ok (.aaload, 1) := by decide +kernel
theorem dX3_addOne_59 : decode cX3_addOne 59 = .ok (.aastore, 1) := by decide +kernel
theorem dX3_addOne_60 : decode cX3_addOne 60 = .ok (.iinc 2 1, 3) := by decide +kernel
theorem dX3_addOne_63 : decode cX3_addOne 63 = .ok (.goto (-25), 3) := by decide +kernel
theorem dX3_addOne_66 : decode cX3_addOne 66 = .ok (.aload_n 0, 1) := by decide +kernel
theorem dX3_addOne_67 : decode cX3_addOne 67 = .ok (.getfield 11, 3) := by decide +kernel
theorem dX3_addOne_70 : decode cX3_addOne 70 = .ok (.aload_n 0, 1) := by decide +kernel
theorem dX3_addOne_71 : decode cX3_addOne 71 = .ok (.getfield 17, 3) := by decide +kernel
theorem dX3_addOne_74 : decode cX3_addOne 74 = .ok (.iconst 1, 1) := by decide +kernel
theorem dX3_addOne_75 : decode cX3_addOne 75 = .ok (.isub, 1) := by decide +kernel
theorem dX3_addOne_76 : decode cX3_addOne 76 = .ok (.aload_n 1, 1) := by decide +kernel
theorem dX3_addOne_77 : decode cX3_addOne 77 = .ok (.aastore, 1) := by decide +kernel
theorem dX3_addOne_78 : decode cX3_addOne 78 = .ok (.aload_n 1, 1) := by decide +kernel
theorem dX3_addOne_79 : decode cX3_addOne 79 = .ok (.areturn, 1) := by decide +kernel
theorem dX3_findLatestThatChanges_0 : decode cX3_findLatestThatChanges 0 = .ok (.aload_n 0, 1) := by decide +kernel
theorem dX3_findLatestThatChanges_1 : decode cX3_findLatestThatChanges 1 = .ok (.getfield 17, 3) := by decide +kernel
theorem dX3_findLatestThatChanges_4 : decode cX3_findLatestThatChanges 4 = .ok (.iconst 1, 1) := by decide +kernel
theorem dX3_findLatestThatChanges_5 : decode cX3_findLatestThatChanges 5 = .ok (.isub, 1) := by decide +kernel
theorem dX3_findLatestThatChanges_6 : decode cX3_findLatestThatChanges 6 = .ok (.istore_n 1, 1) := by decide +kernel
theorem dX3_findLatestThatChanges_7 : decode cX3_findLatestThatChanges 7 = .ok (.iload_n 1, 1) := by decide +kernel
theorem dX3_findLatestThatChanges_8 : decode cX3_findLatestThatChanges 8 = .ok (.ifCond .lt 21, 3) := by decide +kernel
theorem dX3_findLatestThatChanges_11 : decode cX3_findLatestThatChanges 11 = .ok (.aload_n 0, 1) := by decide +kernel
theorem dX3_findLatestThatChanges_12 : decode cX3_findLatestThatChanges 12 = .ok (.getfield 11, 3) := by decide +kernel
theorem dX3_findLatestThatChanges_15 : decode cX3_findLatestThatChanges 15 = .ok (.iload_n 1, 1) := by decide +kernel
theorem dX3_findLatestThatChanges_16 : decode cX3_findLatestThatChanges 16 = .ok (.aaload, 1) := by decide +kernel
theorem dX3_findLatestThatChanges_17 : decode cX3_findLatestThatChanges 17 = .ok (.invokevirtual 26, 3) := by decide +kernel
theorem dX3_findLatestThatChanges_20 : decode cX3_findLatestThatChanges 20 = .ok (.ifCond .ne 9, 3) := by decide +kernel
theorem dX3_findLatestThatChanges_23 : decode cX3_findLatestThatChanges 23 = .ok (.iinc 1 (-1), 3) := by decide +kernel
theorem dX3_findLatestThatChanges_26 : decode cX3_findLatestThatChanges 26 = .ok (.goto (-19), 3) := by decide +kernel
theorem dX3_findLatestThatChanges_29 : decode cX3_findLatestThatChanges 29 = .ok (.iload_n 1, 1) := by decide +kernel
theorem dX3_findLatestThatChanges_30 : decode cX3_findLatestThatChanges 30 = .ok (.ifCond .lt 7, 3) := by decide +kernel
theorem dX3_findLatestThatChanges_33 : decode cX3_findLatestThatChanges 33 = .ok (.iload_n 1, 1) := by decide +kernel
theorem dX3_findLatestThatChanges_34 : decode cX3_findLatestThatChanges 34 = .ok (.goto 4, 3) := by decide +kernel
theorem dX3_findLatestThatChanges_37 : decode cX3_findLatestThatChanges 37 = .ok (.iconst (-1), 1) := by decide +kernel
theorem dX3_findLatestThatChanges_38 : decode cX3_findLatestThatChanges 38 = .ok (.ireturn, 1) := by decide +kernel
theorem dX3_askLatest_0 : decode cX3_askLatest 0 = .ok (.aload_n 0, 1) := by decide +kernel
theorem dX3_askLatest_1 : decode cX3_askLatest 1 = .ok (.getfield 17, 3) := by decide +kernel
theorem dX3_askLatest_4 : decode cX3_askLatest 4 = .ok (.ifCond .le 22, 3) := by decide +kernel
theorem dX3_askLatest_7 : decode cX3_askLatest 7 = .ok (.aload_n 0, 1) := by decide +kernel
theorem dX3_askLatest_8 : decode cX3_askLatest 8 = .ok (.getfield 11, 3) := by decide +kernel
theorem dX3_askLatest_11 : decode cX3_askLatest 11 = .ok (.aload_n 0, 1) := by decide +kernel
theorem dX3_askLatest_12 : decode cX3_askLatest 12 = .ok (.getfield 17, 3) := by decide +kernel
theorem dX3_askLatest_15 : decode cX3_askLatest 15 = .ok (.iconst 1, 1) := by decide +kernel
theorem dX3_askLatest_16 : decode cX3_askLatest 16 = .ok (.isub, 1) := by decide +kernel
theorem dX3_askLatest_17 : decode cX3_askLatest 17 = .ok (.aaload, 1) := by decide +kernel
theorem dX3_askLatest_18 : decode cX3_askLatest 18 = .ok (.iload_n 1, 1) := by decide +kernel
theorem dX3_askLatest_19 : decode cX3_askLatest 19 = .ok (.iload_n 2, 1) := by decide +kernel
theorem dX3_askLatest_20 : decode cX3_askLatest 20 = .ok (.invokevirtual 30, 3) := by decide +kernel
theorem dX3_askLatest_23 : decode cX3_askLatest 23 = .ok (.goto 4, 3) := by decide +kernel
theorem dX3_askLatest_26 : decode cX3_askLatest 26 = .ok (.iconst (-1), 1) := by decide +kernel
theorem dX3_askLatest_27 : decode cX3_askLatest 27 = .ok (.ireturn, 1) := by decide +kernel
theorem dX4_init_0 : decode cX4_init 0 = .ok (.aload_n 0, 1) := by decide +kernel
theorem dX4_init_1 : decode cX4_init 1 = .ok (.invokespecial 3, 3) := by decide +kernel
theorem dX4_init_4 : decode cX4_init 4 = .ok (.aload_n 0, 1) := by decide +kernel
theorem dX4_init_5 : decode cX4_init 5 = .ok (.bipush 8, 2) := by decide +kernel
theorem dX4_init_7 : decode cX4_init 7 = .ok (.newarray .int, 2) := by decide +kernel
theorem dX4_init_9 : decode cX4_init 9 = .ok (.putfield 9, 3) := by decide +kernel
theorem dX4_init_12 : decode cX4_init 12 = .ok (.aload_n 0, 1) := by decide +kernel
theorem dX4_init_13 : decode cX4_init 13 = .ok (.iconst 0, 1) := by decide +kernel
theorem dX4_init_14 : decode cX4_init 14 = .ok (.putfield 15, 3) := by decide +kernel
theorem dX4_init_17 : decode cX4_init 17 = .ok (.return_, 1) := by decide +kernel
theorem dX4_begin_0 : decode cX4_begin 0 = .ok (.iload_n 1, 1) := by decide +kernel
theorem dX4_begin_1 : decode cX4_begin 1 = .ok (.aload_n 0, 1) := by decide +kernel
theorem dX4_begin_2 : decode cX4_begin 2 = .ok (.getfield 9, 3) := by decide +kernel
theorem dX4_begin_5 : decode cX4_begin 5 = .ok (.arraylength, 1) := by decide +kernel
theorem dX4_begin_6 : decode cX4_begin 6 = .ok (.if_icmp .le 20, 3) := by decide +kernel
theorem dX4_begin_9 : decode cX4_begin 9 = .ok (.aload_n 0, 1) := by decide +kernel
theorem dX4_begin_10 : decode cX4_begin 10 = .ok (.iload_n 1, 1) := by decide +kernel
theorem dX4_begin_11 : decode cX4_begin 11 = .ok (.iconst 2, 1) := by decide +kernel
theorem dX4_begin_12 : decode cX4_begin 12 = .ok (.aload_n 0, 1) := by decide +kernel
theorem dX4_begin_13 : decode cX4_begin 13 = .ok (.getfield 9, 3) := by decide +kernel
theorem dX4_begin_16 : decode cX4_begin 16 = .ok (.arraylength, 1) := by decide +kernel
theorem dX4_begin_17 : decode cX4_begin 17 = .ok (.imul, 1) := by decide +kernel
theorem dX4_begin_18 : decode cX4_begin 18 = .ok (.invokestatic 19, 3) := by decide +kernel
theorem dX4_begin_21 : decode cX4_begin 21 = .ok (.newarray .int, 2) := by decide +kernel
theorem dX4_begin_23 : decode cX4_begin 23 = .ok (.putfield 9, 3) := by decide +kernel
theorem dX4_begin_26 : decode cX4_begin 26 = .ok (.aload_n 0, 1) := by decide +kernel
theorem dX4_begin_27 : decode cX4_begin 27 = .ok (.iconst 0, 1) := by decide +kernel
theorem dX4_begin_28 : decode cX4_begin 28 = .ok (.putfield 15, 3) := by decide +kernel
theorem dX4_begin_31 : decode cX4_begin 31 = .ok (.return_, 1) := by decide +kernel
theorem dX4_addKeep_0 : decode cX4_addKeep 0 = .ok (.iload_n 1, 1) := by decide +kernel
theorem dX4_addKeep_1 : decode cX4_addKeep 1 = .ok (.ifCond .gt 4, 3) := by decide +kernel
theorem dX4_addKeep_4 : decode cX4_addKeep 4 = .ok (.return_, 1) := by decide +kernel
theorem dX4_addKeep_5 : decode cX4_addKeep 5 = .ok (.aload_n 0, 1) := by decide +kernel
theorem dX4_addKeep_6 : decode cX4_addKeep 6 = .ok (.getfield 15, 3) := by decide +kernel
theorem dX4_addKeep_9 : decode cX4_addKeep 9 = .ok (.ifCond .le 37, 3) := by decide +kernel
theorem dX4_addKeep_12 : decode cX4_addKeep 12 = .ok (.aload_n 0, 1) := by decide +kernel
theorem dX4_addKeep_13 : decode cX4_addKeep 13 = .ok (.getfield 9, 3) := by decide +kernel
theorem dX4_addKeep_16 : decode cX4_addKeep 16 = .ok (.aload_n 0, 1) := by decide +kernel
theorem dX4_addKeep_17 : decode cX4_addKeep 17 = .ok (.getfield 15, 3) := by decide +kernel
theorem dX4_addKeep_20 : decode cX4_addKeep 20 = .ok (.iconst 1, 1) := by decide +kernel
theorem dX4_addKeep_21 : decode cX4_addKeep 21 = .ok (.isub, 1) := by decide +kernel
theorem dX4_addKeep_22 : decode cX4_addKeep 22 = .ok (.iaload, 1) := by decide +kernel
theorem dX4_addKeep_23 : decode cX4_addKeep 23 = .ok (.bipush 31, 2) := by decide +kernel
theorem dX4_addKeep_25 : decode cX4_addKeep 25 = .ok (.if_icmp .le 21, 3) := by decide +kernel
theorem dX4_addKeep_28 : decode cX4_addKeep 28 = .ok (.aload_n 0, 1) := by decide +kernel
theorem dX4_addKeep_29 : decode cX4_addKeep 29 = .ok (.getfield 9, 3) := by decide +kernel
theorem dX4_addKeep_32 : decode cX4_addKeep 32 = .ok (.aload_n 0, 1) := by decide +kernel
theorem dX4_addKeep_33 : decode cX4_addKeep 33 = .ok (.getfield 15, 3) := by decide +kernel
theorem dX4_addKeep_36 : decode cX4_addKeep 36 = .ok (.iconst 1, 1) := by decide +kernel
theorem dX4_addKeep_37 : decode cX4_addKeep 37 = .ok (.isub, 1) := by decide +kernel
theorem dX4_addKeep_38 : decode cX4_addKeep 38 = .ok (.dup2, 1) := by decide +kernel
theorem dX4_addKeep_39 : decode cX4_addKeep 39 = .ok (.iaload, 1) := by decide +kernel
theorem dX4_addKeep_40 : decode cX4_addKeep 40 = .ok (.iload_n 1, 1) := by decide +kernel
theorem dX4_addKeep_41 : decode cX4_addKeep 41 = .ok (.iadd, 1) := by decide +kernel
theorem dX4_addKeep_42 : decode cX4_addKeep 42 = .ok (.iastore, 1) := by decide +kernel
theorem dX4_addKeep_43 : decode cX4_addKeep 43 = .ok (.goto 35, 3) := by decide +kernel
theorem dX4_addKeep_46 : decode cX4_addKeep 46 = .ok (.aload_n 0, 1) := by decide +kernel
theorem dX4_addKeep_47 : decode cX4_addKeep 47 = .ok (.getfield 15, 3) := by decide +kernel
theorem dX4_addKeep_50 : decode cX4_addKeep 50 = .ok (.aload_n 0, 1) := by decide +kernel
theorem dX4_addKeep_51 : decode cX4_addKeep 51 = .ok (.getfield 9, 3) := by decide +kernel
theorem dX4_addKeep_54 : decode cX4_addKeep 54 = .ok (.arraylength, 1) := by decide +kernel
theorem dX4_addKeep_55 : decode cX4_addKeep 55 = .ok (.if_icmp .ge 23, 3) := by decide +kernel
theorem dX4_addKeep_58 : decode cX4_addKeep 58 = .ok (.aload_n 0, 1) := by decide +kernel
theorem dX4_addKeep_59 : decode cX4_addKeep 59 = .ok (.getfield 9, 3) := by decide +kernel
theorem dX4_addKeep_62 : decode cX4_addKeep 62 = .ok (.aload_n 0, 1) := by decide +kernel
theorem dX4_addKeep_63 : decode cX4_addKeep 63 = .ok (.dup, 1) := by decide +kernel
theorem dX4_addKeep_64 : decode cX4_addKeep 64 = .ok (.getfield 15, 3) := by decide +kernel
theorem dX4_addKeep_67 : decode cX4_addKeep 67 = .ok (.dup_x1, 1) := by decide +kernel
theorem dX4_addKeep_68 : decode cX4_addKeep 68 = .ok (.iconst 1, 1) := by decide +kernel
theorem dX4_addKeep_69 : decode cX4_addKeep 69 = .ok (.iadd, 1) := by decide +kernel
theorem dX4_addKeep_70 : decode cX4_addKeep 70 = .ok (.putfield 15, 3) := by decide +kernel
theorem dX4_addKeep_73 : decode cX4_addKeep 73 = .ok (.bipush 31, 2) := by decide +kernel
theorem dX4_addKeep_75 : decode cX4_addKeep 75 = .ok (.iload_n 1, 1) := by decide +kernel
theorem dX4_addKeep_76 : decode cX4_addKeep 76 = .ok (.iadd, 1) := by decide +kernel
theorem dX4_addKeep_77 : decode cX4_addKeep 77 = .ok (.iastore, 1) := by decide +kernel
theorem dX4_addKeep_78 : decode cX4_addKeep 78 = .ok (.return_, 1) := by decide +kernel
theorem dX4_addCut_0 : decode cX4_addCut 0 = .ok (.iload_n 1, 1) := by decide +kernel
theorem dX4_addCut_1 : decode cX4_addCut 1 = .ok (.ifCond .gt 4, 3) := by decide +kernel
theorem dX4_addCut_4 : decode cX4_addCut 4 = .ok (.return_, 1) := by decide +kernel
theorem dX4_addCut_5 : decode cX4_addCut 5 = .ok (.aload_n 0, 1) := by decide +kernel
theorem dX4_addCut_6 : decode cX4_addCut 6 = .ok (.getfield 15, 3) := by decide +kernel
theorem dX4_addCut_9 : decode cX4_addCut 9 = .ok (.ifCond .le 35, 3) := by decide +kernel
theorem dX4_addCut_12 : decode cX4_addCut 12 = .ok (.aload_n 0, 1) := by decide +kernel
theorem dX4_addCut_13 : decode cX4_addCut 13 = .ok (.getfield 9, 3) := by decide +kernel
theorem dX4_addCut_16 : decode cX4_addCut 16 = .ok (.aload_n 0, 1) := by decide +kernel
theorem dX4_addCut_17 : decode cX4_addCut 17 = .ok (.getfield 15, 3) := by decide +kernel
theorem dX4_addCut_20 : decode cX4_addCut 20 = .ok (.iconst 1, 1) := by decide +kernel
theorem dX4_addCut_21 : decode cX4_addCut 21 = .ok (.isub, 1) := by decide +kernel
theorem dX4_addCut_22 : decode cX4_addCut 22 = .ok (.iaload, 1) := by decide +kernel
theorem dX4_addCut_23 : decode cX4_addCut 23 = .ok (.ifCond .ge 21, 3) := by decide +kernel
theorem dX4_addCut_26 : decode cX4_addCut 26 = .ok (.aload_n 0, 1) := by decide +kernel
theorem dX4_addCut_27 : decode cX4_addCut 27 = .ok (.getfield 9, 3) := by decide +kernel
theorem dX4_addCut_30 : decode cX4_addCut 30 = .ok (.aload_n 0, 1) := by decide +kernel
theorem dX4_addCut_31 : decode cX4_addCut 31 = .ok (.getfield 15, 3) := by decide +kernel
theorem dX4_addCut_34 : decode cX4_addCut 34 = .ok (.iconst 1, 1) := by decide +kernel
theorem dX4_addCut_35 : decode cX4_addCut 35 = .ok (.isub, 1) := by decide +kernel
theorem dX4_addCut_36 : decode cX4_addCut 36 = .ok (.dup2, 1) := by decide +kernel
theorem dX4_addCut_37 : decode cX4_addCut 37 = .ok (.iaload, 1) := by decide +kernel
theorem dX4_addCut_38 : decode cX4_addCut 38 = .ok (.iload_n 1, 1) := by decide +kernel
theorem dX4_addCut_39 : decode cX4_addCut 39 = .ok (.isub, 1) := by decide +kernel
theorem dX4_addCut_40 : decode cX4_addCut 40 = .ok (.iastore, 1) := by decide +kernel
theorem dX4_addCut_41 : decode cX4_addCut 41 = .ok (.goto 33, 3) := by decide +kernel
theorem dX4_addCut_44 : decode cX4_addCut 44 = .ok (.aload_n 0, 1) := by decide +kernel
theorem dX4_addCut_45 : decode cX4_addCut 45 = .ok (.getfield 15, 3) := by decide +kernel
theorem dX4_addCut_48 : decode cX4_addCut 48 = .ok (.aload_n 0, 1) := by decide +kernel
theorem dX4_addCut_49 : decode cX4_addCut 49 = .ok (.getfield 9, 3) := by decide +kernel
theorem dX4_addCut_52 : decode cX4_addCut 52 = .ok (.arraylength, 1) := by decide +kernel
theorem dX4_addCut_53 : decode cX4_addCut 53 = .ok (.if_icmp .ge 21, 3) := by decide +kernel
theorem dX4_addCut_56 : decode cX4_addCut 56 = .ok (.aload_n 0, 1) := by decide +kernel
theorem dX4_addCut_57 : decode cX4_addCut 57 = .ok (.getfield 9, 3) := by decide +kernel
theorem dX4_addCut_60 : decode cX4_addCut 60 = .ok (.aload_n 0, 1) := by decide +kernel
theorem dX4_addCut_61 : decode cX4_addCut 61 = .ok (.dup, 1) := by decide +kernel
theorem dX4_addCut_62 : decode cX4_addCut 62 = .ok (.getfield 15, 3) := by decide +kernel
theorem dX4_addCut_65 : decode cX4_addCut 65 = .ok (.dup_x1, 1) := by decide +kernel
theorem dX4_addCut_66 : decode cX4_addCut 66 = .ok (.iconst 1, 1) := by decide +kernel
theorem dX4_addCut_67 : decode cX4_addCut 67 = .ok (.iadd, 1) := by decide +kernel
theorem dX4_addCut_68 : decode cX4_addCut 68 = .ok (.putfield 15, 3) := by decide +kernel
theorem dX4_addCut_71 : decode cX4_addCut 71 = .ok (.iload_n 1, 1) := by decide +kernel
theorem dX4_addCut_72 : decode cX4_addCut 72 = .ok (.ineg, 1) := by decide +kernel
theorem dX4_addCut_73 : decode cX4_addCut 73 = .ok (.iastore, 1) := by decide +kernel
theorem dX4_addCut_74 : decode cX4_addCut 74 = .ok (.return_, 1) := by decide +kernel
theorem dX4_addPut_0 : decode cX4_addPut 0 = .ok (.aload_n 0, 1) := by decide +kernel
theorem dX4_addPut_1 : decode cX4_addPut 1 = .ok (.getfield 15, 3) := by decide +kernel
theorem dX4_addPut_4 : decode cX4_addPut 4 = .ok (.aload_n 0, 1) := by decide +kernel
theorem dX4_addPut_5 : decode cX4_addPut 5 = .ok (.getfield 9, 3) := by decide +kernel
theorem dX4_addPut_8 : decode cX4_addPut 8 = .ok (.arraylength, 1) := by decide +kernel
theorem dX4_addPut_9 : decode cX4_addPut 9 = .ok (.if_icmp .lt 4, 3) := by decide +kernel
theorem dX4_addPut_12 : decode cX4_addPut 12 = .ok (.return_, 1) := by decide +kernel
theorem dX4_addPut_13 : decode cX4_addPut 13 = .ok (.aload_n 0, 1) := by decide +kernel
theorem dX4_addPut_14 : decode cX4_addPut 14 = .ok (.getfield 9, 3) := by decide +kernel
theorem dX4_addPut_17 : decode cX4_addPut 17 = .ok (.aload_n 0, 1) := by decide +kernel
theorem dX4_addPut_18 : decode cX4_addPut 18 = .ok (.getfield 15, 3) := by decide +kernel
theorem dX4_addPut_21 : decode cX4_addPut 21 = .ok (.iload_n 1, 1) := by decide +kernel
theorem dX4_addPut_22 : decode cX4_addPut 22 = .ok (.iastore, 1) := by decide +kernel
theorem dX4_addPut_23 : decode cX4_addPut 23 = .ok (.aload_n 0, 1) := by decide +kernel
theorem dX4_addPut_24 : decode cX4_addPut 24 = .ok (.getfield 15, 3) := by decide +kernel
theorem dX4_addPut_27 : decode cX4_addPut 27 = .ok (.ifCond .le 49, 3) := by decide +kernel
theorem dX4_addPut_30 : decode cX4_addPut 30 = .ok (.aload_n 0, 1) := by decide +kernel
theorem dX4_addPut_31 : decode cX4_addPut 31 = .ok (.getfield 9, 3) := by decide +kernel
theorem dX4_addPut_34 : decode cX4_addPut 34 = .ok (.aload_n 0, 1) := by decide +kernel
theorem dX4_addPut_35 : decode cX4_addPut 35 = .ok (.getfield 15, 3) := by decide +kernel
theorem dX4_addPut_38 : decode cX4_addPut 38 = .ok (.iconst 1, 1) := by decide +kernel
theorem dX4_addPut_39 : decode cX4_addPut 39 = .ok (.isub, 1) := by decide +kernel
theorem dX4_addPut_40 : decode cX4_addPut 40 = .ok (.iaload, 1) := by decide +kernel
theorem dX4_addPut_41 : decode cX4_addPut 41 = .ok (.ifCond .ge 35, 3) := by decide +kernel
theorem dX4_addPut_44 : decode cX4_addPut 44 = .ok (.aload_n 0, 1) := by decide +kernel
theorem dX4_addPut_45 : decode cX4_addPut 45 = .ok (.getfield 9, 3) := by decide +kernel
theorem dX4_addPut_48 : decode cX4_addPut 48 = .ok (.aload_n 0, 1) := by decide +kernel
theorem dX4_addPut_49 : decode cX4_addPut 49 = .ok (.getfield 15, 3) := by decide +kernel
theorem dX4_addPut_52 : decode cX4_addPut 52 = .ok (.aload_n 0, 1) := by decide +kernel
theorem dX4_addPut_53 : decode cX4_addPut 53 = .ok (.getfield 9, 3) := by decide +kernel
theorem dX4_addPut_56 : decode cX4_addPut 56 = .ok (.aload_n 0, 1) := by decide +kernel
theorem dX4_addPut_57 : decode cX4_addPut 57 = .ok (.getfield 15, 3) := by decide +kernel
theorem dX4_addPut_60 : decode cX4_addPut 60 = .ok (.iconst 1, 1) := by decide +kernel
theorem dX4_addPut_61 : decode cX4_addPut 61 = .ok (.isub, 1) := by decide +kernel
theorem dX4_addPut_62 : decode cX4_addPut 62 = .ok (.iaload, 1) := by decide +kernel
theorem dX4_addPut_63 : decode cX4_addPut 63 = .ok (.iastore, 1) := by decide +kernel
theorem dX4_addPut_64 : decode cX4_addPut 64 = .ok (.aload_n 0, 1) := by decide +kernel
theorem dX4_addPut_65 : decode cX4_addPut 65 = .ok (.getfield 9, 3) := by decide +kernel
theorem dX4_addPut_68 : decode cX4_addPut 68 = .ok (.aload_n 0, 1) := by decide +kernel
theorem dX4_addPut_69 : decode cX4_addPut 69 = .ok (.getfield 15, 3) := by decide +kernel
theorem dX4_addPut_72 : decode cX4_addPut 72 = .ok (.iconst 1, 1) := by decide +kernel
theorem dX4_addPut_73 : decode cX4_addPut 73 = .ok (.isub, 1) := by decide +kernel
theorem dX4_addPut_74 : decode cX4_addPut 74 = .ok (.iload_n 1, 1) := by decide +kernel
theorem dX4_addPut_75 : decode cX4_addPut 75 = .ok (.iastore, 1) := by decide +kernel
theorem dX4_addPut_76 : decode cX4_addPut 76 = .ok (.aload_n 0, 1) := by decide +kernel
theorem dX4_addPut_77 : decode cX4_addPut 77 = .ok (.dup, 1) := by decide +kernel
theorem dX4_addPut_78 : decode cX4_addPut 78 = .ok (.getfield 15, 3) := by decide +kernel
theorem dX4_addPut_81 : decode cX4_addPut 81 = .ok (.iconst 1, 1) := by decide +kernel
theorem dX4_addPut_82 : decode cX4_addPut 82 = .ok (.iadd, 1) := by decide +kernel
theorem dX4_addPut_83 : decode cX4_addPut 83 = .ok (.putfield 15, 3) := by decide +kernel
theorem dX4_addPut_86 : decode cX4_addPut 86 = .ok (.return_, 1) := by decide +kernel
theorem dX4_copy_0 : decode cX4_copy 0 = .ok (.aload_n 1, 1) := by decide +kernel
theorem dX4_copy_1 : decode cX4_copy 1 = .ok (.getfield 15, 3) := by decide +kernel
theorem dX4_copy_4 : decode cX4_copy 4 = .ok (.aload_n 0, 1) := by decide +kernel
theorem dX4_copy_5 : decode cX4_copy 5 = .ok (.getfield 9, 3) := by decide +kernel
theorem dX4_copy_8 : decode cX4_copy 8 = .ok (.arraylength, 1) := by decide +kernel
theorem dX4_copy_9 : decode cX4_copy 9 = .ok (.if_icmp .le 14, 3) := by decide +kernel
theorem dX4_copy_12 : decode cX4_copy 12 = .ok (.aload_n 0, 1) := by decide +kernel
theorem dX4_copy_13 : decode cX4_copy 13 = .ok (.aload_n 1, 1) := by decide +kernel
theorem dX4_copy_14 : decode cX4_copy 14 = .ok (.getfield 9, 3) := by decide +kernel
theorem dX4_copy_17 : decode cX4_copy 17 = .ok (.arraylength, 1) := by decide +kernel
theorem dX4_copy_18 : decode cX4_copy 18 = .ok (.newarray .int, 2) := by decide +kernel
theorem dX4_copy_20 : decode cX4_copy 20 = .ok (.putfield 9, 3) := by decide +kernel
theorem dX4_copy_23 : decode cX4_copy 23 = .ok (.aload_n 1, 1) := by decide +kernel
theorem dX4_copy_24 : decode cX4_copy 24 = .ok (.getfield 9, 3) := by decide +kernel
theorem dX4_copy_27 : decode cX4_copy 27 = .ok (.iconst 0, 1) := by decide +kernel
theorem dX4_copy_28 : decode cX4_copy 28 = .ok (.aload_n 0, 1) := by decide +kernel
theorem dX4_copy_29 : decode cX4_copy 29 = .ok (.getfield 9, 3) := by decide +kernel
theorem dX4_copy_32 : decode cX4_copy 32 = .ok (.iconst 0, 1) := by decide +kernel
theorem dX4_copy_33 : decode cX4_copy 33 = .ok (.aload_n 1, 1) := by decide +kernel
theorem dX4_copy_34 : decode cX4_copy 34 = .ok (.getfield 15, 3) := by decide +kernel
theorem dX4_copy_37 : decode cX4_copy 37 = .ok (.invokestatic 25, 3) := by decide +kernel
theorem dX4_copy_40 : decode cX4_copy 40 = .ok (.aload_n 0, 1) := by decide +kernel
theorem dX4_copy_41 : decode cX4_copy 41 = .ok (.aload_n 1, 1) := by decide +kernel
theorem dX4_copy_42 : decode cX4_copy 42 = .ok (.getfield 15, 3) := by decide +kernel
theorem dX4_copy_45 : decode cX4_copy 45 = .ok (.putfield 15, 3) := by decide +kernel
theorem dX4_copy_48 : decode cX4_copy 48 = .ok (.return_, 1) := by decide +kernel
theorem dX4_swap_0 : decode cX4_swap 0 = .ok (.aload_n 0, 1) := by decide +kernel
theorem dX4_swap_1 : decode cX4_swap 1 = .ok (.getfield 9, 3) := by decide +kernel
theorem dX4_swap_4 : decode cX4_swap 4 = .ok (.astore_n 2, 1) := by decide +kernel
theorem dX4_swap_5 : decode cX4_swap 5 = .ok (.aload_n 0, 1) := by decide +kernel
theorem dX4_swap_6 : decode cX4_swap 6 = .ok (.getfield 15, 3) := by decide +kernel
theorem dX4_swap_9 : decode cX4_swap 9 = .ok (.istore_n 3, 1) := by decide +kernel
theorem dX4_swap_10 : decode cX4_swap 10 = .ok (.aload_n 0, 1) := by decide +kernel
theorem dX4_swap_11 : decode cX4_swap 11 = .ok (.aload_n 1, 1) := by decide +kernel
theorem dX4_swap_12 : decode cX4_swap 12 = .ok (.getfield 9, 3) := by decide +kernel
theorem dX4_swap_15 : decode cX4_swap 15 = .ok (.putfield 9, 3) := by decide +kernel
theorem dX4_swap_18 : decode cX4_swap 18 = .ok (.aload_n 0, 1) := by decide +kernel
theorem dX4_swap_19 : decode cX4_swap 19 = .ok (.aload_n 1, 1) := by decide +kernel
theorem dX4_swap_20 : decode cX4_swap 20 = .ok (.getfield 15, 3) := by decide +kernel
theorem dX4_swap_23 : decode cX4_swap 23 = .ok (.putfield 15, 3) := by decide +kernel
theorem dX4_swap_26 : decode cX4_swap 26 = .ok (.aload_n 1, 1) := by decide +kernel
theorem dX4_swap_27 : decode cX4_swap 27 = .ok (.aload_n 2, 1) := by decide +kernel
theorem dX4_swap_28 : decode cX4_swap 28 = .ok (.putfield 9, 3) := by decide +kernel
theorem dX4_swap_31 : decode cX4_swap 31 = .ok (.aload_n 1, 1) := by decide +kernel
theorem dX4_swap_32 : decode cX4_swap 32 = .ok (.iload_n 3, 1) := by decide +kernel
theorem dX4_swap_33 : decode cX4_swap 33 = .ok (.putfield 15, 3) := by decide +kernel
theorem dX4_swap_36 : decode cX4_swap 36 = .ok (.return_, 1) := by decide +kernel
theorem dX4_build_0 : decode cX4_build 0 = .ok (.aload_n 0, 1) := by decide +kernel
theorem dX4_build_1 : decode cX4_build 1 = .ok (.iload_n 3, 1) := by decide +kernel
theorem dX4_build_2 : decode cX4_build 2 = .ok (.iload_n 2, 1) := by decide +kernel
theorem dX4_build_3 : decode cX4_build 3 = .ok (.isub, 1) := by decide +kernel
theorem dX4_build_4 : decode cX4_build 4 = .ok (.iconst 1, 1) := by decide +kernel
theorem dX4_build_5 : decode cX4_build 5 = .ok (.iadd, 1) := by decide +kernel
theorem dX4_build_6 : decode cX4_build 6 = .ok (.invokevirtual 31, 3) := by decide +kernel
theorem dX4_build_9 : decode cX4_build 9 = .ok (.iload 4, 2) := by decide +kernel
theorem dX4_build_11 : decode cX4_build 11 = .ok (.istore 5, 2) := by decide +kernel
theorem dX4_build_13 : decode cX4_build 13 = .ok (.iload_n 2, 1) := by decide +kernel
theorem dX4_build_14 : decode cX4_build 14 = .ok (.istore 6, 2) := by decide +kernel
theorem dX4_build_16 : decode cX4_build 16 = .ok (.iload 6, 2) := by decide +kernel
theorem dX4_build_18 : decode cX4_build 18 = .ok (.ifCond .lt 86, 3) := by decide +kernel
theorem dX4_build_21 : decode cX4_build 21 = .ok (.iload 6, 2) := by decide +kernel
theorem dX4_build_23 : decode cX4_build 23 = .ok (.iload_n 3, 1) := by decide +kernel
theorem dX4_build_24 : decode cX4_build 24 = .ok (.if_icmp .ge 80, 3) := by decide +kernel
theorem dX4_build_27 : decode cX4_build 27 = .ok (.iload 6, 2) := by decide +kernel
theorem dX4_build_29 : decode cX4_build 29 = .ok (.aload_n 1, 1) := by decide +kernel
theorem dX4_build_30 : decode cX4_build 30 = .ok (.arraylength, 1) := by decide +kernel
theorem dX4_build_31 : decode cX4_build 31 = .ok (.if_icmp .ge 73, 3) := by decide +kernel
theorem dX4_build_34 : decode cX4_build 34 = .ok (.aload_n 1, 1) := by decide +kernel
theorem dX4_build_35 : decode cX4_build 35 = .ok (.iload 6, 2) := by decide +kernel
theorem dX4_build_37 : decode cX4_build 37 = .ok (.iaload, 1) := by decide +kernel
theorem dX4_build_38 : decode cX4_build 38 = .ok (.istore 7, 2) := by decide +kernel
theorem dX4_build_40 : decode cX4_build 40 = .ok (.iload 7, 2) := by decide +kernel
theorem dX4_build_42 : decode cX4_build 42 = .ok (.invokestatic 35, 3) := by decide +kernel
theorem dX4_build_45 : decode cX4_build 45 = .ok (.ifCond .eq 12, 3) := by decide +kernel
theorem dX4_build_48 : decode cX4_build 48 = .ok (.aload_n 0, 1) := by decide +kernel
theorem dX4_build_49 : decode cX4_build 49 = .ok (.iload 7, 2) := by decide +kernel
theorem dX4_build_51 : decode cX4_build 51 = .ok (.invokevirtual 39, 3) := by decide +kernel
theorem dX4_build_54 : decode cX4_build 54 = .ok (.goto 44, 3) := by decide +kernel
theorem dX4_build_57 : decode cX4_build 57 = .ok (.iload 7, 2) := by decide +kernel
theorem dX4_build_59 : decode cX4_build 59 = .ok (.ifCond .ge 20, 3) := by decide +kernel
theorem dX4_build_62 : decode cX4_build 62 = .ok (.aload_n 0, 1) := by decide +kernel
theorem dX4_build_63 : decode cX4_build 63 = .ok (.iload 7, 2) := by decide +kernel
theorem dX4_build_65 : decode cX4_build 65 = .ok (.ineg, 1) := by decide +kernel
theorem dX4_build_66 : decode cX4_build 66 = .ok (.invokevirtual 42, 3) := by decide +kernel
theorem dX4_build_69 : decode cX4_build 69 = .ok (.iload 5, 2) := by decide +kernel
theorem dX4_build_71 : decode cX4_build 71 = .ok (.iload 7, 2) := by decide +kernel
theorem dX4_build_73 : decode cX4_build 73 = .ok (.iadd, 1) := by decide +kernel
theorem dX4_build_74 : decode cX4_build 74 = .ok (.istore 5, 2) := by decide +kernel
theorem dX4_build_76 : decode cX4_build 76 = .ok (.goto 22, 3) := by decide +kernel
theorem dX4_build_79 : decode cX4_build 79 = .ok (.aload_n 0, 1) := by decide +kernel
theorem dX4_build_80 : decode cX4_build 80 = .ok (.iload 7, 2) := by decide +kernel
theorem dX4_build_82 : decode cX4_build 82 = .ok (.bipush 31, 2) := by decide +kernel
theorem dX4_build_84 : decode cX4_build 84 = .ok (.isub, 1) := by decide +kernel
theorem dX4_build_85 : decode cX4_build 85 = .ok (.invokevirtual 45, 3) := by decide +kernel
theorem dX4_build_88 : decode cX4_build 88 = .ok (.iload 5, 2) := by decide +kernel
theorem dX4_build_90 : decode cX4_build 90 = .ok (.iload 7, 2) := by decide +kernel
theorem dX4_build_92 : decode cX4_build 92 = .ok (.bipush 31, 2) := by decide +kernel
theorem dX4_build_94 : decode cX4_build 94 = .ok (.isub, 1) := by decide +kernel
theorem dX4_build_95 : decode cX4_build 95 = .ok (.isub, 1) := by decide +kernel
theorem dX4_build_96 : decode cX4_build 96 = .ok (.istore 5, 2) := by decide +kernel
theorem dX4_build_98 : decode cX4_build 98 = .ok (.iinc 6 1, 3) := by decide +kernel
theorem dX4_build_101 : decode cX4_build 101 = .ok (.goto (-85), 3) := by decide +kernel
theorem dX4_build_104 : decode cX4_build 104 = .ok (.aload_n 0, 1) := by decide +kernel
theorem dX4_build_105 : decode cX4_build 105 = .ok (.iload 5, 2) := by decide +kernel
theorem dX4_build_107 : decode cX4_build 107 = .ok (.invokevirtual 45, 3) := by decide +kernel
theorem dX4_build_110 : decode cX4_build 110 = .ok (.iload 5, 2) := by decide +kernel
theorem dX4_build_112 : decode cX4_build 112 = .ok (.ifCond .lt 7, 3) := by decide +kernel
theorem dX4_build_115 : decode cX4_build 115 = .ok (.iconst 1, 1) := by decide +kernel
theorem dX4_build_116 : decode cX4_build 116 = .ok (.goto 4, 3) := by decide +kernel
theorem dX4_build_119 : decode cX4_build 119 = .ok (.iconst 0, 1) := by decide +kernel
theorem dX4_build_120 : decode cX4_build 120 = .ok (.ireturn, 1) := by decide +kernel
theorem dX4_buildPut_0 : decode cX4_buildPut 0 = .ok (.aload_n 0, 1) := by decide +kernel
theorem dX4_buildPut_1 : decode cX4_buildPut 1 = .ok (.iconst 3, 1) := by decide +kernel
theorem dX4_buildPut_2 : decode cX4_buildPut 2 = .ok (.invokevirtual 31, 3) := by decide +kernel
theorem dX4_buildPut_5 : decode cX4_buildPut 5 = .ok (.aload_n 0, 1) := by decide +kernel
theorem dX4_buildPut_6 : decode cX4_buildPut 6 = .ok (.iload_n 1, 1) := by decide +kernel
theorem dX4_buildPut_7 : decode cX4_buildPut 7 = .ok (.invokevirtual 45, 3) := by decide +kernel
theorem dX4_buildPut_10 : decode cX4_buildPut 10 = .ok (.aload_n 0, 1) := by decide +kernel
theorem dX4_buildPut_11 : decode cX4_buildPut 11 = .ok (.iload_n 2, 1) := by decide +kernel
theorem dX4_buildPut_12 : decode cX4_buildPut 12 = .ok (.invokevirtual 39, 3) := by decide +kernel
theorem dX4_buildPut_15 : decode cX4_buildPut 15 = .ok (.aload_n 0, 1) := by decide +kernel
theorem dX4_buildPut_16 : decode cX4_buildPut 16 = .ok (.iload_n 3, 1) := by decide +kernel
theorem dX4_buildPut_17 : decode cX4_buildPut 17 = .ok (.iload_n 1, 1) := by decide +kernel
theorem dX4_buildPut_18 : decode cX4_buildPut 18 = .ok (.isub, 1) := by decide +kernel
theorem dX4_buildPut_19 : decode cX4_buildPut 19 = .ok (.invokevirtual 45, 3) := by decide +kernel
theorem dX4_buildPut_22 : decode cX4_buildPut 22 = .ok (.return_, 1) := by decide +kernel
theorem dX4_buildCut_0 : decode cX4_buildCut 0 = .ok (.aload_n 0, 1) := by decide +kernel
theorem dX4_buildCut_1 : decode cX4_buildCut 1 = .ok (.iconst 3, 1) := by decide +kernel
theorem dX4_buildCut_2 : decode cX4_buildCut 2 = .ok (.invokevirtual 31, 3) := by decide +kernel
theorem dX4_buildCut_5 : decode cX4_buildCut 5 = .ok (.aload_n 0, 1) := by decide +kernel
theorem dX4_buildCut_6 : decode cX4_buildCut 6 = .ok (.iload_n 1, 1) := by decide +kernel
theorem dX4_buildCut_7 : decode cX4_buildCut 7 = .ok (.invokevirtual 45, 3) := by decide +kernel
theorem dX4_buildCut_10 : decode cX4_buildCut 10 = .ok (.aload_n 0, 1) := by decide +kernel
theorem dX4_buildCut_11 : decode cX4_buildCut 11 = .ok (.iload_n 2, 1) := by decide +kernel
theorem dX4_buildCut_12 : decode cX4_buildCut 12 = .ok (.invokevirtual 42, 3) := by decide +kernel
theorem dX4_buildCut_15 : decode cX4_buildCut 15 = .ok (.aload_n 0, 1) := by decide +kernel
theorem dX4_buildCut_16 : decode cX4_buildCut 16 = .ok (.iload_n 3, 1) := by decide +kernel
theorem dX4_buildCut_17 : decode cX4_buildCut 17 = .ok (.iload_n 1, 1) := by decide +kernel
theorem dX4_buildCut_18 : decode cX4_buildCut 18 = .ok (.isub, 1) := by decide +kernel
theorem dX4_buildCut_19 : decode cX4_buildCut 19 = .ok (.iload_n 2, 1) := by decide +kernel
theorem dX4_buildCut_20 : decode cX4_buildCut 20 = .ok (.isub, 1) := by decide +kernel
theorem dX4_buildCut_21 : decode cX4_buildCut 21 = .ok (.invokevirtual 45, 3) := by decide +kernel
theorem dX4_buildCut_24 : decode cX4_buildCut 24 = .ok (.return_, 1) := by decide +kernel
theorem dX4_isPut_0 : decode cX4_isPut 0 = .ok (.iload_n 0, 1) := by decide +kernel
theorem dX4_isPut_1 : decode cX4_isPut 1 = .ok (.ifCond .le 13, 3) := by decide +kernel
theorem dX4_isPut_4 : decode cX4_isPut 4 = .ok (.iload_n 0, 1) := by decide +kernel
theorem dX4_isPut_5 : decode cX4_isPut 5 = .ok (.bipush 31, 2) := by decide +kernel
theorem dX4_isPut_7 : decode cX4_isPut 7 = .ok (.if_icmp .gt 7, 3) := by decide +kernel
theorem dX4_isPut_10 : decode cX4_isPut 10 = .ok (.iconst 1, 1) := by decide +kernel
theorem dX4_isPut_11 : decode cX4_isPut 11 = .ok (.goto 4, 3) := by decide +kernel
theorem dX4_isPut_14 : decode cX4_isPut 14 = .ok (.iconst 0, 1) := by decide +kernel
theorem dX4_isPut_15 : decode cX4_isPut 15 = .ok (.ireturn, 1) := by decide +kernel
theorem dX4_changesSomething_0 : decode cX4_changesSomething 0 = .ok (.iconst 0, 1) := by decide +kernel
theorem dX4_changesSomething_1 : decode cX4_changesSomething 1 = .ok (.istore_n 1, 1) := by decide +kernel
theorem dX4_changesSomething_2 : decode cX4_changesSomething 2 = .ok (.iload_n 1, 1) := by decide +kernel
theorem dX4_changesSomething_3 : decode cX4_changesSomething 3 = .ok (.aload_n 0, 1) := by decide +kernel
theorem dX4_changesSomething_4 : decode cX4_changesSomething 4 = .ok (.getfield 15, 3) := by decide +kernel
theorem dX4_changesSomething_7 : decode cX4_changesSomething 7 = .ok (.if_icmp .ge 22, 3) := by decide +kernel
theorem dX4_changesSomething_10 : decode cX4_changesSomething 10 = .ok (.aload_n 0, 1) := by decide +kernel
theorem dX4_changesSomething_11 : decode cX4_changesSomething 11 = .ok (.getfield 9, 3) := by decide +kernel
theorem dX4_changesSomething_14 : decode cX4_changesSomething 14 = .ok (.iload_n 1, 1) := by decide +kernel
theorem dX4_changesSomething_15 : decode cX4_changesSomething 15 = .ok (.iaload, 1) := by decide +kernel
theorem dX4_changesSomething_16 : decode cX4_changesSomething 16 = .ok (.bipush 31, 2) := by decide +kernel
theorem dX4_changesSomething_18 : decode cX4_changesSomething 18 = .ok (.if_icmp .gt 5, 3) := by decide +kernel
theorem dX4_changesSomething_21 : decode cX4_changesSomething 21 = .ok (.iconst 1, 1) := by decide +kernel
theorem dX4_changesSomething_22 : decode cX4_changesSomething 22 = .ok (.ireturn, 1) := by decide +kernel
theorem dX4_changesSomething_23 : decode cX4_changesSomething 23 = .ok (.iinc 1 1, 3) := by decide +kernel
theorem dX4_changesSomething_26 : decode cX4_changesSomething 26 = .ok (.goto (-24), 3) := by decide +kernel
theorem dX4_changesSomething_29 : decode cX4_changesSomething 29 = .ok (.iconst 0, 1) := by decide +kernel
theorem dX4_changesSomething_30 : decode cX4_changesSomething 30 = .ok (.ireturn, 1) := by decide +kernel
theorem dX4_countPut_0 : decode cX4_countPut 0 = .ok (.iconst 0, 1) := by decide +kernel
theorem dX4_countPut_1 : decode cX4_countPut 1 = .ok (.istore_n 1, 1) := by decide +kernel
theorem dX4_countPut_2 : decode cX4_countPut 2 = .ok (.iconst 0, 1) := by decide +kernel
theorem dX4_countPut_3 : decode cX4_countPut 3 = .ok (.istore_n 2, 1) := by decide +kernel
theorem dX4_countPut_4 : decode cX4_countPut 4 = .ok (.iload_n 2, 1) := by decide +kernel
theorem dX4_countPut_5 : decode cX4_countPut 5 = .ok (.aload_n 0, 1) := by decide +kernel
theorem dX4_countPut_6 : decode cX4_countPut 6 = .ok (.getfield 15, 3) := by decide +kernel
theorem dX4_countPut_9 : decode cX4_countPut 9 = .ok (.if_icmp .ge 29, 3) := by decide +kernel
theorem dX4_countPut_12 : decode cX4_countPut 12 = .ok (.iload_n 1, 1) := by decide +kernel
theorem dX4_countPut_13 : decode cX4_countPut 13 = .ok (.aload_n 0, 1) := by decide +kernel
theorem dX4_countPut_14 : decode cX4_countPut 14 = .ok (.getfield 9, 3) := by decide +kernel
theorem dX4_countPut_17 : decode cX4_countPut 17 = .ok (.iload_n 2, 1) := by decide +kernel
theorem dX4_countPut_18 : decode cX4_countPut 18 = .ok (.iaload, 1) := by decide +kernel
theorem dX4_countPut_19 : decode cX4_countPut 19 = .ok (.invokestatic 35, 3) := by decide +kernel
theorem dX4_countPut_22 : decode cX4_countPut 22 = .ok (.ifCond .eq 7, 3) := by decide +kernel
theorem dX4_countPut_25 : decode cX4_countPut 25 = .ok (.iconst 1, 1) := by decide +kernel
theorem dX4_countPut_26 : decode cX4_countPut 26 = .ok (.goto 4, 3) := by decide +kernel
theorem dX4_countPut_29 : decode cX4_countPut 29 = .ok (.iconst 0, 1) := by decide +kernel
theorem dX4_countPut_30 : decode cX4_countPut 30 = .ok (.iadd, 1) := by decide +kernel
theorem dX4_countPut_31 : decode cX4_countPut 31 = .ok (.istore_n 1, 1) := by decide +kernel
theorem dX4_countPut_32 : decode cX4_countPut 32 = .ok (.iinc 2 1, 3) := by decide +kernel
theorem dX4_countPut_35 : decode cX4_countPut 35 = .ok (.goto (-31), 3) := by decide +kernel
theorem dX4_countPut_38 : decode cX4_countPut 38 = .ok (.iload_n 1, 1) := by decide +kernel
theorem dX4_countPut_39 : decode cX4_countPut 39 = .ok (.ireturn, 1) := by decide +kernel
theorem dX4_beginsStep_0 : decode cX4_beginsStep 0 = .ok (.iload_n 1, 1) := by decide +kernel
theorem dX4_beginsStep_1 : decode cX4_beginsStep 1 = .ok (.ifCond .eq 29, 3) := by decide +kernel
theorem dX4_beginsStep_4 : decode cX4_beginsStep 4 = .ok (.aload_n 0, 1) := by decide +kernel
theorem dX4_beginsStep_5 : decode cX4_beginsStep 5 = .ok (.getfield 9, 3) := by decide +kernel
theorem dX4_beginsStep_8 : decode cX4_beginsStep 8 = .ok (.iload_n 1, 1) := by decide +kernel
theorem dX4_beginsStep_9 : decode cX4_beginsStep 9 = .ok (.iaload, 1) := by decide +kernel
theorem dX4_beginsStep_10 : decode cX4_beginsStep 10 = .ok (.invokestatic 35, 3) := by decide +kernel
theorem dX4_beginsStep_13 : decode cX4_beginsStep 13 = .ok (.ifCond .eq 17, 3) := by decide +kernel
theorem dX4_beginsStep_16 : decode cX4_beginsStep 16 = .ok (.aload_n 0, 1) := by decide +kernel
theorem dX4_beginsStep_17 : decode cX4_beginsStep 17 = .ok (.getfield 9, 3) := by decide +kernel
theorem dX4_beginsStep_20 : decode cX4_beginsStep 20 = .ok (.iload_n 1, 1) := by decide +kernel
theorem dX4_beginsStep_21 : decode cX4_beginsStep 21 = .ok (.iconst 1, 1) := by decide +kernel
