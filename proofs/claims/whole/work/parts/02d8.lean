theorem dX8_init_0 : decode cX8_init 0 = .ok (.aload_n 0, 1) := by decide +kernel
theorem dX8_init_1 : decode cX8_init 1 = .ok (.invokespecial 1, 3) := by decide +kernel
theorem dX8_init_4 : decode cX8_init 4 = .ok (.aload_n 0, 1) := by decide +kernel
theorem dX8_init_5 : decode cX8_init 5 = .ok (.new 7, 3) := by decide +kernel
theorem dX8_init_8 : decode cX8_init 8 = .ok (.dup, 1) := by decide +kernel
theorem dX8_init_9 : decode cX8_init 9 = .ok (.invokespecial 9, 3) := by decide +kernel
theorem dX8_init_12 : decode cX8_init 12 = .ok (.putfield 10, 3) := by decide +kernel
theorem dX8_init_15 : decode cX8_init 15 = .ok (.aload_n 0, 1) := by decide +kernel
theorem dX8_init_16 : decode cX8_init 16 = .ok (.new 16, 3) := by decide +kernel
theorem dX8_init_19 : decode cX8_init 19 = .ok (.dup, 1) := by decide +kernel
theorem dX8_init_20 : decode cX8_init 20 = .ok (.invokespecial 18, 3) := by decide +kernel
theorem dX8_init_23 : decode cX8_init 23 = .ok (.putfield 19, 3) := by decide +kernel
theorem dX8_init_26 : decode cX8_init 26 = .ok (.aload_n 0, 1) := by decide +kernel
theorem dX8_init_27 : decode cX8_init 27 = .ok (.iconst 3, 1) := by decide +kernel
theorem dX8_init_28 : decode cX8_init 28 = .ok (.anewarray 16, 3) := by decide +kernel
theorem dX8_init_31 : decode cX8_init 31 = .ok (.putfield 23, 3) := by decide +kernel
theorem dX8_init_34 : decode cX8_init 34 = .ok (.aload_n 0, 1) := by decide +kernel
theorem dX8_init_35 : decode cX8_init 35 = .ok (.iconst 3, 1) := by decide +kernel
theorem dX8_init_36 : decode cX8_init 36 = .ok (.newarray .boolean, 2) := by decide +kernel
theorem dX8_init_38 : decode cX8_init 38 = .ok (.putfield 27, 3) := by decide +kernel
theorem dX8_init_41 : decode cX8_init 41 = .ok (.aload_n 0, 1) := by decide +kernel
theorem dX8_init_42 : decode cX8_init 42 = .ok (.iconst 4, 1) := by decide +kernel
theorem dX8_init_43 : decode cX8_init 43 = .ok (.anewarray 31, 3) := by decide +kernel
theorem dX8_init_46 : decode cX8_init 46 = .ok (.putfield 33, 3) := by decide +kernel
theorem dX8_init_49 : decode cX8_init 49 = .ok (.aload_n 0, 1) := by decide +kernel
theorem dX8_init_50 : decode cX8_init 50 = .ok (.new 37, 3) := by decide +kernel
theorem dX8_init_53 : decode cX8_init 53 = .ok (.dup, 1) := by decide +kernel
theorem dX8_init_54 : decode cX8_init 54 = .ok (.invokespecial 39, 3) := by decide +kernel
theorem dX8_init_57 : decode cX8_init 57 = .ok (.putfield 40, 3) := by decide +kernel
theorem dX8_init_60 : decode cX8_init 60 = .ok (.aload_n 0, 1) := by decide +kernel
theorem dX8_init_61 : decode cX8_init 61 = .ok (.new 44, 3) := by decide +kernel
theorem dX8_init_64 : decode cX8_init 64 = .ok (.dup, 1) := by decide +kernel
theorem dX8_init_65 : decode cX8_init 65 = .ok (.invokespecial 46, 3) := by decide +kernel
theorem dX8_init_68 : decode cX8_init 68 = .ok (.putfield 47, 3) := by decide +kernel
theorem dX8_init_71 : decode cX8_init 71 = .ok (.aload_n 0, 1) := by decide +kernel
theorem dX8_init_72 : decode cX8_init 72 = .ok (.new 44, 3) := by decide +kernel
theorem dX8_init_75 : decode cX8_init 75 = .ok (.dup, 1) := by decide +kernel
theorem dX8_init_76 : decode cX8_init 76 = .ok (.invokespecial 46, 3) := by decide +kernel
theorem dX8_init_79 : decode cX8_init 79 = .ok (.putfield 51, 3) := by decide +kernel
theorem dX8_init_82 : decode cX8_init 82 = .ok (.aload_n 0, 1) := by decide +kernel
theorem dX8_init_83 : decode cX8_init 83 = .ok (.new 54, 3) := by decide +kernel
theorem dX8_init_86 : decode cX8_init 86 = .ok (.dup, 1) := by decide +kernel
theorem dX8_init_87 : decode cX8_init 87 = .ok (.invokespecial 56, 3) := by decide +kernel
theorem dX8_init_90 : decode cX8_init 90 = .ok (.putfield 57, 3) := by decide +kernel
theorem dX8_init_93 : decode cX8_init 93 = .ok (.aload_n 0, 1) := by decide +kernel
theorem dX8_init_94 : decode cX8_init 94 = .ok (.new 61, 3) := by decide +kernel
theorem dX8_init_97 : decode cX8_init 97 = .ok (.dup, 1) := by decide +kernel
theorem dX8_init_98 : decode cX8_init 98 = .ok (.invokespecial 63, 3) := by decide +kernel
theorem dX8_init_101 : decode cX8_init 101 = .ok (.putfield 64, 3) := by decide +kernel
theorem dX8_init_104 : decode cX8_init 104 = .ok (.aload_n 0, 1) := by decide +kernel
theorem dX8_init_105 : decode cX8_init 105 = .ok (.sipush 256, 3) := by decide +kernel
theorem dX8_init_108 : decode cX8_init 108 = .ok (.newarray .int, 2) := by decide +kernel
theorem dX8_init_110 : decode cX8_init 110 = .ok (.putfield 68, 3) := by decide +kernel
theorem dX8_init_113 : decode cX8_init 113 = .ok (.aload_n 0, 1) := by decide +kernel
theorem dX8_init_114 : decode cX8_init 114 = .ok (.iconst 0, 1) := by decide +kernel
theorem dX8_init_115 : decode cX8_init 115 = .ok (.putfield 72, 3) := by decide +kernel
theorem dX8_init_118 : decode cX8_init 118 = .ok (.iconst 0, 1) := by decide +kernel
theorem dX8_init_119 : decode cX8_init 119 = .ok (.istore_n 1, 1) := by decide +kernel
theorem dX8_init_120 : decode cX8_init 120 = .ok (.iload_n 1, 1) := by decide +kernel
theorem dX8_init_121 : decode cX8_init 121 = .ok (.iconst 3, 1) := by decide +kernel
theorem dX8_init_122 : decode cX8_init 122 = .ok (.if_icmp .ge 22, 3) := by decide +kernel
theorem dX8_init_125 : decode cX8_init 125 = .ok (.aload_n 0, 1) := by decide +kernel
theorem dX8_init_126 : decode cX8_init 126 = .ok (.getfield 23, 3) := by decide +kernel
theorem dX8_init_129 : decode cX8_init 129 = .ok (.iload_n 1, 1) := by decide +kernel
theorem dX8_init_130 : decode cX8_init 130 = .ok (.new 16, 3) := by decide +kernel
theorem dX8_init_133 : decode cX8_init 133 = .ok (.dup, 1) := by decide +kernel
theorem dX8_init_134 : decode cX8_init 134 = .ok (.invokespecial 18, 3) := by decide +kernel
theorem dX8_init_137 : decode cX8_init 137 = .ok (.aastore, 1) := by decide +kernel
theorem dX8_init_138 : decode cX8_init 138 = .ok (.iinc 1 1, 3) := by decide +kernel
theorem dX8_init_141 : decode cX8_init 141 = .ok (.goto (-21), 3) := by decide +kernel
theorem dX8_init_144 : decode cX8_init 144 = .ok (.iconst 0, 1) := by decide +kernel
theorem dX8_init_145 : decode cX8_init 145 = .ok (.istore_n 1, 1) := by decide +kernel
theorem dX8_init_146 : decode cX8_init 146 = .ok (.iload_n 1, 1) := by decide +kernel
theorem dX8_init_147 : decode cX8_init 147 = .ok (.iconst 4, 1) := by decide +kernel
theorem dX8_init_148 : decode cX8_init 148 = .ok (.if_icmp .ge 22, 3) := by decide +kernel
theorem dX8_init_151 : decode cX8_init 151 = .ok (.aload_n 0, 1) := by decide +kernel
theorem dX8_init_152 : decode cX8_init 152 = .ok (.getfield 33, 3) := by decide +kernel
theorem dX8_init_155 : decode cX8_init 155 = .ok (.iload_n 1, 1) := by decide +kernel
theorem dX8_init_156 : decode cX8_init 156 = .ok (.new 31, 3) := by decide +kernel
theorem dX8_init_159 : decode cX8_init 159 = .ok (.dup, 1) := by decide +kernel
theorem dX8_init_160 : decode cX8_init 160 = .ok (.invokespecial 76, 3) := by decide +kernel
theorem dX8_init_163 : decode cX8_init 163 = .ok (.aastore, 1) := by decide +kernel
theorem dX8_init_164 : decode cX8_init 164 = .ok (.iinc 1 1, 3) := by decide +kernel
theorem dX8_init_167 : decode cX8_init 167 = .ok (.goto (-21), 3) := by decide +kernel
theorem dX8_init_170 : decode cX8_init 170 = .ok (.return_, 1) := by decide +kernel
theorem dX8_feed_0 : decode cX8_feed 0 = .ok (.aload_n 0, 1) := by decide +kernel
theorem dX8_feed_1 : decode cX8_feed 1 = .ok (.getfield 10, 3) := by decide +kernel
theorem dX8_feed_4 : decode cX8_feed 4 = .ok (.getfield 77, 3) := by decide +kernel
theorem dX8_feed_7 : decode cX8_feed 7 = .ok (.sipush 780, 3) := by decide +kernel
theorem dX8_feed_10 : decode cX8_feed 10 = .ok (.if_icmp .le 5, 3) := by decide +kernel
theorem dX8_feed_13 : decode cX8_feed 13 = .ok (.iconst (-1), 1) := by decide +kernel
theorem dX8_feed_14 : decode cX8_feed 14 = .ok (.ireturn, 1) := by decide +kernel
theorem dX8_feed_15 : decode cX8_feed 15 = .ok (.aload_n 0, 1) := by decide +kernel
theorem dX8_feed_16 : decode cX8_feed 16 = .ok (.getfield 10, 3) := by decide +kernel
theorem dX8_feed_19 : decode cX8_feed 19 = .ok (.iload_n 1, 1) := by decide +kernel
theorem dX8_feed_20 : decode cX8_feed 20 = .ok (.invokevirtual 81, 3) := by decide +kernel
theorem dX8_feed_23 : decode cX8_feed 23 = .ok (.aload_n 0, 1) := by decide +kernel
theorem dX8_feed_24 : decode cX8_feed 24 = .ok (.getfield 10, 3) := by decide +kernel
theorem dX8_feed_27 : decode cX8_feed 27 = .ok (.iload_n 2, 1) := by decide +kernel
theorem dX8_feed_28 : decode cX8_feed 28 = .ok (.invokevirtual 81, 3) := by decide +kernel
theorem dX8_feed_31 : decode cX8_feed 31 = .ok (.aload_n 0, 1) := by decide +kernel
theorem dX8_feed_32 : decode cX8_feed 32 = .ok (.getfield 10, 3) := by decide +kernel
theorem dX8_feed_35 : decode cX8_feed 35 = .ok (.iload_n 3, 1) := by decide +kernel
theorem dX8_feed_36 : decode cX8_feed 36 = .ok (.invokevirtual 81, 3) := by decide +kernel
theorem dX8_feed_39 : decode cX8_feed 39 = .ok (.aload_n 0, 1) := by decide +kernel
theorem dX8_feed_40 : decode cX8_feed 40 = .ok (.getfield 10, 3) := by decide +kernel
theorem dX8_feed_43 : decode cX8_feed 43 = .ok (.iload 4, 2) := by decide +kernel
theorem dX8_feed_45 : decode cX8_feed 45 = .ok (.invokevirtual 81, 3) := by decide +kernel
theorem dX8_feed_48 : decode cX8_feed 48 = .ok (.aload_n 0, 1) := by decide +kernel
theorem dX8_feed_49 : decode cX8_feed 49 = .ok (.getfield 10, 3) := by decide +kernel
theorem dX8_feed_52 : decode cX8_feed 52 = .ok (.iload 5, 2) := by decide +kernel
theorem dX8_feed_54 : decode cX8_feed 54 = .ok (.invokevirtual 81, 3) := by decide +kernel
theorem dX8_feed_57 : decode cX8_feed 57 = .ok (.aload_n 0, 1) := by decide +kernel
theorem dX8_feed_58 : decode cX8_feed 58 = .ok (.getfield 10, 3) := by decide +kernel
theorem dX8_feed_61 : decode cX8_feed 61 = .ok (.getfield 77, 3) := by decide +kernel
theorem dX8_feed_64 : decode cX8_feed 64 = .ok (.ireturn, 1) := by decide +kernel
theorem dX8_end_0 : decode cX8_end 0 = .ok (.iload_n 1, 1) := by decide +kernel
theorem dX8_end_1 : decode cX8_end 1 = .ok (.ifCond .lt 14, 3) := by decide +kernel
theorem dX8_end_4 : decode cX8_end 4 = .ok (.iload_n 1, 1) := by decide +kernel
theorem dX8_end_5 : decode cX8_end 5 = .ok (.aload_n 0, 1) := by decide +kernel
theorem dX8_end_6 : decode cX8_end 6 = .ok (.getfield 10, 3) := by decide +kernel
theorem dX8_end_9 : decode cX8_end 9 = .ok (.getfield 77, 3) := by decide +kernel
theorem dX8_end_12 : decode cX8_end 12 = .ok (.if_icmp .le 5, 3) := by decide +kernel
theorem dX8_end_15 : decode cX8_end 15 = .ok (.iconst (-1), 1) := by decide +kernel
theorem dX8_end_16 : decode cX8_end 16 = .ok (.ireturn, 1) := by decide +kernel
theorem dX8_end_17 : decode cX8_end 17 = .ok (.aload_n 0, 1) := by decide +kernel
theorem dX8_end_18 : decode cX8_end 18 = .ok (.getfield 10, 3) := by decide +kernel
theorem dX8_end_21 : decode cX8_end 21 = .ok (.iload_n 1, 1) := by decide +kernel
theorem dX8_end_22 : decode cX8_end 22 = .ok (.putfield 77, 3) := by decide +kernel
theorem dX8_end_25 : decode cX8_end 25 = .ok (.iload_n 1, 1) := by decide +kernel
theorem dX8_end_26 : decode cX8_end 26 = .ok (.ireturn, 1) := by decide +kernel
theorem dX8_town_0 : decode cX8_town 0 = .ok (.aload_n 0, 1) := by decide +kernel
theorem dX8_town_1 : decode cX8_town 1 = .ok (.getfield 10, 3) := by decide +kernel
theorem dX8_town_4 : decode cX8_town 4 = .ok (.invokevirtual 85, 3) := by decide +kernel
theorem dX8_town_7 : decode cX8_town 7 = .ok (.aload_n 0, 1) := by decide +kernel
theorem dX8_town_8 : decode cX8_town 8 = .ok (.getfield 10, 3) := by decide +kernel
theorem dX8_town_11 : decode cX8_town 11 = .ok (.iconst 0, 1) := by decide +kernel
theorem dX8_town_12 : decode cX8_town 12 = .ok (.putfield 77, 3) := by decide +kernel
theorem dX8_town_15 : decode cX8_town 15 = .ok (.aload_n 0, 1) := by decide +kernel
theorem dX8_town_16 : decode cX8_town 16 = .ok (.getfield 10, 3) := by decide +kernel
theorem dX8_town_19 : decode cX8_town 19 = .ok (.getfield 88, 3) := by decide +kernel
theorem dX8_town_22 : decode cX8_town 22 = .ok (.ifCond .eq 6, 3) := by decide +kernel
theorem dX8_town_25 : decode cX8_town 25 = .ok (.bipush (-4), 2) := by decide +kernel
theorem dX8_town_27 : decode cX8_town 27 = .ok (.ireturn, 1) := by decide +kernel
theorem dX8_town_28 : decode cX8_town 28 = .ok (.aload_n 0, 1) := by decide +kernel
theorem dX8_town_29 : decode cX8_town 29 = .ok (.getfield 19, 3) := by decide +kernel
theorem dX8_town_32 : decode cX8_town 32 = .ok (.astore_n 1, 1) := by decide +kernel
theorem dX8_town_33 : decode cX8_town 33 = .ok (.aload_n 0, 1) := by decide +kernel
theorem dX8_town_34 : decode cX8_town 34 = .ok (.aload_n 0, 1) := by decide +kernel
theorem dX8_town_35 : decode cX8_town 35 = .ok (.getfield 10, 3) := by decide +kernel
theorem dX8_town_38 : decode cX8_town 38 = .ok (.getfield 91, 3) := by decide +kernel
theorem dX8_town_41 : decode cX8_town 41 = .ok (.putfield 19, 3) := by decide +kernel
theorem dX8_town_44 : decode cX8_town 44 = .ok (.aload_n 0, 1) := by decide +kernel
theorem dX8_town_45 : decode cX8_town 45 = .ok (.getfield 10, 3) := by decide +kernel
theorem dX8_town_48 : decode cX8_town 48 = .ok (.aload_n 1, 1) := by decide +kernel
theorem dX8_town_49 : decode cX8_town 49 = .ok (.putfield 91, 3) := by decide +kernel
theorem dX8_town_52 : decode cX8_town 52 = .ok (.aload_n 0, 1) := by decide +kernel
theorem dX8_town_53 : decode cX8_town 53 = .ok (.invokevirtual 94, 3) := by decide +kernel
theorem dX8_town_56 : decode cX8_town 56 = .ok (.aload_n 0, 1) := by decide +kernel
theorem dX8_town_57 : decode cX8_town 57 = .ok (.getfield 19, 3) := by decide +kernel
theorem dX8_town_60 : decode cX8_town 60 = .ok (.getfield 97, 3) := by decide +kernel
theorem dX8_town_63 : decode cX8_town 63 = .ok (.ireturn, 1) := by decide +kernel
theorem dX8_fault_0 : decode cX8_fault 0 = .ok (.iload_n 1, 1) := by decide +kernel
theorem dX8_fault_1 : decode cX8_fault 1 = .ok (.ifCond .ne 11, 3) := by decide +kernel
theorem dX8_fault_4 : decode cX8_fault 4 = .ok (.aload_n 0, 1) := by decide +kernel
theorem dX8_fault_5 : decode cX8_fault 5 = .ok (.getfield 10, 3) := by decide +kernel
theorem dX8_fault_8 : decode cX8_fault 8 = .ok (.getfield 88, 3) := by decide +kernel
theorem dX8_fault_11 : decode cX8_fault 11 = .ok (.ireturn, 1) := by decide +kernel
theorem dX8_fault_12 : decode cX8_fault 12 = .ok (.iload_n 1, 1) := by decide +kernel
theorem dX8_fault_13 : decode cX8_fault 13 = .ok (.iconst 1, 1) := by decide +kernel
theorem dX8_fault_14 : decode cX8_fault 14 = .ok (.if_icmp .ne 13, 3) := by decide +kernel
theorem dX8_fault_17 : decode cX8_fault 17 = .ok (.aload_n 0, 1) := by decide +kernel
theorem dX8_fault_18 : decode cX8_fault 18 = .ok (.getfield 10, 3) := by decide +kernel
theorem dX8_fault_21 : decode cX8_fault 21 = .ok (.getfield 100, 3) := by decide +kernel
theorem dX8_fault_24 : decode cX8_fault 24 = .ok (.goto 4, 3) := by decide +kernel
theorem dX8_fault_27 : decode cX8_fault 27 = .ok (.iconst (-1), 1) := by decide +kernel
theorem dX8_fault_28 : decode cX8_fault 28 = .ok (.ireturn, 1) := by decide +kernel
theorem dX8_house_0 : decode cX8_house 0 = .ok (.aload_n 0, 1) := by decide +kernel
theorem dX8_house_1 : decode cX8_house 1 = .ok (.iload_n 1, 1) := by decide +kernel
theorem dX8_house_2 : decode cX8_house 2 = .ok (.invokevirtual 103, 3) := by decide +kernel
theorem dX8_house_5 : decode cX8_house 5 = .ok (.ifCond .ne 6, 3) := by decide +kernel
theorem dX8_house_8 : decode cX8_house 8 = .ok (.bipush (-2), 2) := by decide +kernel
theorem dX8_house_10 : decode cX8_house 10 = .ok (.ireturn, 1) := by decide +kernel
theorem dX8_house_11 : decode cX8_house 11 = .ok (.iload_n 2, 1) := by decide +kernel
theorem dX8_house_12 : decode cX8_house 12 = .ok (.ifCond .ne 13, 3) := by decide +kernel
theorem dX8_house_15 : decode cX8_house 15 = .ok (.aload_n 0, 1) := by decide +kernel
theorem dX8_house_16 : decode cX8_house 16 = .ok (.getfield 19, 3) := by decide +kernel
theorem dX8_house_19 : decode cX8_house 19 = .ok (.getfield 107, 3) := by decide +kernel
theorem dX8_house_22 : decode cX8_house 22 = .ok (.iload_n 1, 1) := by decide +kernel
theorem dX8_house_23 : decode cX8_house 23 = .ok (.iaload, 1) := by decide +kernel
theorem dX8_house_24 : decode cX8_house 24 = .ok (.ireturn, 1) := by decide +kernel
theorem dX8_house_25 : decode cX8_house 25 = .ok (.iload_n 2, 1) := by decide +kernel
theorem dX8_house_26 : decode cX8_house 26 = .ok (.iconst 1, 1) := by decide +kernel
theorem dX8_house_27 : decode cX8_house 27 = .ok (.if_icmp .ne 17, 3) := by decide +kernel
theorem dX8_house_30 : decode cX8_house 30 = .ok (.aload_n 0, 1) := by decide +kernel
theorem dX8_house_31 : decode cX8_house 31 = .ok (.getfield 19, 3) := by decide +kernel
theorem dX8_house_34 : decode cX8_house 34 = .ok (.getfield 110, 3) := by decide +kernel
theorem dX8_house_37 : decode cX8_house 37 = .ok (.iload_n 1, 1) := by decide +kernel
theorem dX8_house_38 : decode cX8_house 38 = .ok (.invokestatic 113, 3) := by decide +kernel
theorem dX8_house_41 : decode cX8_house 41 = .ok (.goto 5, 3) := by decide +kernel
theorem dX8_house_44 : decode cX8_house 44 = .ok (.bipush (-2), 2) := by decide +kernel
theorem dX8_house_46 : decode cX8_house 46 = .ok (.ireturn, 1) := by decide +kernel
theorem dX8_place_0 : decode cX8_place 0 = .ok (.aload_n 0, 1) := by decide +kernel
theorem dX8_place_1 : decode cX8_place 1 = .ok (.iload_n 1, 1) := by decide +kernel
theorem dX8_place_2 : decode cX8_place 2 = .ok (.invokevirtual 117, 3) := by decide +kernel
theorem dX8_place_5 : decode cX8_place 5 = .ok (.ifCond .ne 6, 3) := by decide +kernel
theorem dX8_place_8 : decode cX8_place 8 = .ok (.bipush (-2), 2) := by decide +kernel
theorem dX8_place_10 : decode cX8_place 10 = .ok (.ireturn, 1) := by decide +kernel
theorem dX8_place_11 : decode cX8_place 11 = .ok (.iload_n 2, 1) := by decide +kernel
theorem dX8_place_12 : decode cX8_place 12 = .ok (.ifCond .ne 13, 3) := by decide +kernel
theorem dX8_place_15 : decode cX8_place 15 = .ok (.aload_n 0, 1) := by decide +kernel
theorem dX8_place_16 : decode cX8_place 16 = .ok (.getfield 19, 3) := by decide +kernel
theorem dX8_place_19 : decode cX8_place 19 = .ok (.getfield 120, 3) := by decide +kernel
theorem dX8_place_22 : decode cX8_place 22 = .ok (.iload_n 1, 1) := by decide +kernel
theorem dX8_place_23 : decode cX8_place 23 = .ok (.iaload, 1) := by decide +kernel
theorem dX8_place_24 : decode cX8_place 24 = .ok (.ireturn, 1) := by decide +kernel
theorem dX8_place_25 : decode cX8_place 25 = .ok (.iload_n 2, 1) := by decide +kernel
theorem dX8_place_26 : decode cX8_place 26 = .ok (.iconst 1, 1) := by decide +kernel
theorem dX8_place_27 : decode cX8_place 27 = .ok (.if_icmp .ne 15, 3) := by decide +kernel
theorem dX8_place_30 : decode cX8_place 30 = .ok (.aload_n 0, 1) := by decide +kernel
theorem dX8_place_31 : decode cX8_place 31 = .ok (.getfield 19, 3) := by decide +kernel
theorem dX8_place_34 : decode cX8_place 34 = .ok (.getfield 123, 3) := by decide +kernel
theorem dX8_place_37 : decode cX8_place 37 = .ok (.iload_n 1, 1) := by decide +kernel
theorem dX8_place_38 : decode cX8_place 38 = .ok (.iaload, 1) := by decide +kernel
theorem dX8_place_39 : decode cX8_place 39 = .ok (.goto 5, 3) := by decide +kernel
theorem dX8_place_42 : decode cX8_place 42 = .ok (.bipush (-2), 2) := by decide +kernel
theorem dX8_place_44 : decode cX8_place 44 = .ok (.ireturn, 1) := by decide +kernel
theorem dX8_letter_0 : decode cX8_letter 0 = .ok (.aload_n 0, 1) := by decide +kernel
theorem dX8_letter_1 : decode cX8_letter 1 = .ok (.iload_n 1, 1) := by decide +kernel
theorem dX8_letter_2 : decode cX8_letter 2 = .ok (.invokevirtual 126, 3) := by decide +kernel
theorem dX8_letter_5 : decode cX8_letter 5 = .ok (.ifCond .ne 6, 3) := by decide +kernel
theorem dX8_letter_8 : decode cX8_letter 8 = .ok (.bipush (-2), 2) := by decide +kernel
theorem dX8_letter_10 : decode cX8_letter 10 = .ok (.ireturn, 1) := by decide +kernel
theorem dX8_letter_11 : decode cX8_letter 11 = .ok (.iload_n 2, 1) := by decide +kernel
theorem dX8_letter_12 : decode cX8_letter 12 = .ok (.tableswitch 58 0 2 #[28, 38, 48], 28) := by decide +kernel
theorem dX8_letter_40 : decode cX8_letter 40 = .ok (.aload_n 0, 1) := by decide +kernel
theorem dX8_letter_41 : decode cX8_letter 41 = .ok (.getfield 19, 3) := by decide +kernel
theorem dX8_letter_44 : decode cX8_letter 44 = .ok (.getfield 129, 3) := by decide +kernel
theorem dX8_letter_47 : decode cX8_letter 47 = .ok (.iload_n 1, 1) := by decide +kernel
theorem dX8_letter_48 : decode cX8_letter 48 = .ok (.iaload, 1) := by decide +kernel
theorem dX8_letter_49 : decode cX8_letter 49 = .ok (.ireturn, 1) := by decide +kernel
theorem dX8_letter_50 : decode cX8_letter 50 = .ok (.aload_n 0, 1) := by decide +kernel
theorem dX8_letter_51 : decode cX8_letter 51 = .ok (.getfield 19, 3) := by decide +kernel
theorem dX8_letter_54 : decode cX8_letter 54 = .ok (.getfield 132, 3) := by decide +kernel
theorem dX8_letter_57 : decode cX8_letter 57 = .ok (.iload_n 1, 1) := by decide +kernel
theorem dX8_letter_58 : decode cX8_letter 58 = .ok (.iaload, 1) := by decide +kernel
theorem dX8_letter_59 : decode cX8_letter 59 = .ok (.ireturn, 1) := by decide +kernel
theorem dX8_letter_60 : decode cX8_letter 60 = .ok (.aload_n 0, 1) := by decide +kernel
theorem dX8_letter_61 : decode cX8_letter 61 = .ok (.getfield 19, 3) := by decide +kernel
theorem dX8_letter_64 : decode cX8_letter 64 = .ok (.getfield 135, 3) := by decide +kernel
theorem dX8_letter_67 : decode cX8_letter 67 = .ok (.iload_n 1, 1) := by decide +kernel
theorem dX8_letter_68 : decode cX8_letter 68 = .ok (.iaload, 1) := by decide +kernel
theorem dX8_letter_69 : decode cX8_letter 69 = .ok (.ireturn, 1) := by decide +kernel
theorem dX8_letter_70 : decode cX8_letter 70 = .ok (.bipush (-2), 2) := by decide +kernel
theorem dX8_letter_72 : decode cX8_letter 72 = .ok (.ireturn, 1) := by decide +kernel
theorem dX8_snows_0 : decode cX8_snows 0 = .ok (.aload_n 0, 1) := by decide +kernel
theorem dX8_snows_1 : decode cX8_snows 1 = .ok (.invokevirtual 138, 3) := by decide +kernel
theorem dX8_snows_4 : decode cX8_snows 4 = .ok (.ifCond .eq 24, 3) := by decide +kernel
theorem dX8_snows_7 : decode cX8_snows 7 = .ok (.aload_n 0, 1) := by decide +kernel
theorem dX8_snows_8 : decode cX8_snows 8 = .ok (.getfield 19, 3) := by decide +kernel
theorem dX8_snows_11 : decode cX8_snows 11 = .ok (.getfield 142, 3) := by decide +kernel
theorem dX8_snows_14 : decode cX8_snows 14 = .ok (.aload_n 0, 1) := by decide +kernel
theorem dX8_snows_15 : decode cX8_snows 15 = .ok (.getfield 19, 3) := by decide +kernel
theorem dX8_snows_18 : decode cX8_snows 18 = .ok (.getfield 145, 3) := by decide +kernel
theorem dX8_snows_21 : decode cX8_snows 21 = .ok (.invokestatic 148, 3) := by decide +kernel
theorem dX8_snows_24 : decode cX8_snows 24 = .ok (.iand, 1) := by decide +kernel
theorem dX8_snows_25 : decode cX8_snows 25 = .ok (.goto 5, 3) := by decide +kernel
theorem dX8_snows_28 : decode cX8_snows 28 = .ok (.bipush (-2), 2) := by decide +kernel
theorem dX8_snows_30 : decode cX8_snows 30 = .ok (.ireturn, 1) := by decide +kernel
theorem dX8_at_0 : decode cX8_at 0 = .ok (.aload_n 0, 1) := by decide +kernel
theorem dX8_at_1 : decode cX8_at 1 = .ok (.iload_n 1, 1) := by decide +kernel
theorem dX8_at_2 : decode cX8_at 2 = .ok (.invokevirtual 103, 3) := by decide +kernel
theorem dX8_at_5 : decode cX8_at 5 = .ok (.ifCond .eq 23, 3) := by decide +kernel
theorem dX8_at_8 : decode cX8_at 8 = .ok (.aload_n 0, 1) := by decide +kernel
theorem dX8_at_9 : decode cX8_at 9 = .ok (.iload_n 2, 1) := by decide +kernel
theorem dX8_at_10 : decode cX8_at 10 = .ok (.invokevirtual 152, 3) := by decide +kernel
theorem dX8_at_13 : decode cX8_at 13 = .ok (.ifCond .eq 15, 3) := by decide +kernel
theorem dX8_at_16 : decode cX8_at 16 = .ok (.aload_n 0, 1) := by decide +kernel
theorem dX8_at_17 : decode cX8_at 17 = .ok (.getfield 47, 3) := by decide +kernel
theorem dX8_at_20 : decode cX8_at 20 = .ok (.iload_n 1, 1) := by decide +kernel
theorem dX8_at_21 : decode cX8_at 21 = .ok (.iload_n 2, 1) := by decide +kernel
theorem dX8_at_22 : decode cX8_at 22 = .ok (.invokevirtual 155, 3) := by decide +kernel
theorem dX8_at_25 : decode cX8_at 25 = .ok (.goto 5, 3) := by decide +kernel
theorem dX8_at_28 : decode cX8_at 28 = .ok (.bipush (-2), 2) := by decide +kernel
theorem dX8_at_30 : decode cX8_at 30 = .ok (.ireturn, 1) := by decide +kernel
theorem dX8_who_0 : decode cX8_who 0 = .ok (.aload_n 0, 1) := by decide +kernel
theorem dX8_who_1 : decode cX8_who 1 = .ok (.iload_n 1, 1) := by decide +kernel
theorem dX8_who_2 : decode cX8_who 2 = .ok (.invokevirtual 117, 3) := by decide +kernel
theorem dX8_who_5 : decode cX8_who 5 = .ok (.ifCond .eq 30, 3) := by decide +kernel
theorem dX8_who_8 : decode cX8_who 8 = .ok (.aload_n 0, 1) := by decide +kernel
theorem dX8_who_9 : decode cX8_who 9 = .ok (.iload_n 2, 1) := by decide +kernel
theorem dX8_who_10 : decode cX8_who 10 = .ok (.invokevirtual 152, 3) := by decide +kernel
theorem dX8_who_13 : decode cX8_who 13 = .ok (.ifCond .eq 22, 3) := by decide +kernel
theorem dX8_who_16 : decode cX8_who 16 = .ok (.aload_n 0, 1) := by decide +kernel
theorem dX8_who_17 : decode cX8_who 17 = .ok (.getfield 47, 3) := by decide +kernel
theorem dX8_who_20 : decode cX8_who 20 = .ok (.iload_n 1, 1) := by decide +kernel
theorem dX8_who_21 : decode cX8_who 21 = .ok (.iload_n 2, 1) := by decide +kernel
theorem dX8_who_22 : decode cX8_who 22 = .ok (.aload_n 0, 1) := by decide +kernel
theorem dX8_who_23 : decode cX8_who 23 = .ok (.getfield 19, 3) := by decide +kernel
theorem dX8_who_26 : decode cX8_who 26 = .ok (.getfield 158, 3) := by decide +kernel
theorem dX8_who_29 : decode cX8_who 29 = .ok (.invokevirtual 161, 3) := by decide +kernel
theorem dX8_who_32 : decode cX8_who 32 = .ok (.goto 5, 3) := by decide +kernel
theorem dX8_who_35 : decode cX8_who 35 = .ok (.bipush (-2), 2) := by decide +kernel
theorem dX8_who_37 : decode cX8_who 37 = .ok (.ireturn, 1) := by decide +kernel
theorem dX8_pushes_0 : decode cX8_pushes 0 = .ok (.aload_n 0, 1) := by decide +kernel
theorem dX8_pushes_1 : decode cX8_pushes 1 = .ok (.iload_n 1, 1) := by decide +kernel
theorem dX8_pushes_2 : decode cX8_pushes 2 = .ok (.invokevirtual 103, 3) := by decide +kernel
theorem dX8_pushes_5 : decode cX8_pushes 5 = .ok (.ifCond .eq 23, 3) := by decide +kernel
theorem dX8_pushes_8 : decode cX8_pushes 8 = .ok (.aload_n 0, 1) := by decide +kernel
theorem dX8_pushes_9 : decode cX8_pushes 9 = .ok (.iload_n 2, 1) := by decide +kernel
theorem dX8_pushes_10 : decode cX8_pushes 10 = .ok (.invokevirtual 165, 3) := by decide +kernel
theorem dX8_pushes_13 : decode cX8_pushes 13 = .ok (.ifCond .eq 15, 3) := by decide +kernel
theorem dX8_pushes_16 : decode cX8_pushes 16 = .ok (.aload_n 0, 1) := by decide +kernel
theorem dX8_pushes_17 : decode cX8_pushes 17 = .ok (.getfield 47, 3) := by decide +kernel
theorem dX8_pushes_20 : decode cX8_pushes 20 = .ok (.iload_n 1, 1) := by decide +kernel
theorem dX8_pushes_21 : decode cX8_pushes 21 = .ok (.iload_n 2, 1) := by decide +kernel
theorem dX8_pushes_22 : decode cX8_pushes 22 = .ok (.invokevirtual 168, 3) := by decide +kernel
theorem dX8_pushes_25 : decode cX8_pushes 25 = .ok (.goto 5, 3) := by decide +kernel
theorem dX8_pushes_28 : decode cX8_pushes 28 = .ok (.bipush (-2), 2) := by decide +kernel
theorem dX8_pushes_30 : decode cX8_pushes 30 = .ok (.ireturn, 1) := by decide +kernel
theorem dX8_force_0 : decode cX8_force 0 = .ok (.aload_n 0, 1) := by decide +kernel
theorem dX8_force_1 : decode cX8_force 1 = .ok (.iload_n 1, 1) := by decide +kernel
theorem dX8_force_2 : decode cX8_force 2 = .ok (.invokevirtual 165, 3) := by decide +kernel
theorem dX8_force_5 : decode cX8_force 5 = .ok (.ifCond .eq 15, 3) := by decide +kernel
theorem dX8_force_8 : decode cX8_force 8 = .ok (.aload_n 0, 1) := by decide +kernel
theorem dX8_force_9 : decode cX8_force 9 = .ok (.getfield 47, 3) := by decide +kernel
theorem dX8_force_12 : decode cX8_force 12 = .ok (.getfield 171, 3) := by decide +kernel
theorem dX8_force_15 : decode cX8_force 15 = .ok (.iload_n 1, 1) := by decide +kernel
theorem dX8_force_16 : decode cX8_force 16 = .ok (.iaload, 1) := by decide +kernel
theorem dX8_force_17 : decode cX8_force 17 = .ok (.goto 6, 3) := by decide +kernel
theorem dX8_force_20 : decode cX8_force 20 = .ok (.sipush (-10000), 3) := by decide +kernel
theorem dX8_force_23 : decode cX8_force 23 = .ok (.ireturn, 1) := by decide +kernel
theorem dX8_turn_0 : decode cX8_turn 0 = .ok (.aload_n 0, 1) := by decide +kernel
theorem dX8_turn_1 : decode cX8_turn 1 = .ok (.iload_n 1, 1) := by decide +kernel
theorem dX8_turn_2 : decode cX8_turn 2 = .ok (.invokevirtual 165, 3) := by decide +kernel
theorem dX8_turn_5 : decode cX8_turn 5 = .ok (.ifCond .eq 15, 3) := by decide +kernel
theorem dX8_turn_8 : decode cX8_turn 8 = .ok (.aload_n 0, 1) := by decide +kernel
theorem dX8_turn_9 : decode cX8_turn 9 = .ok (.getfield 47, 3) := by decide +kernel
theorem dX8_turn_12 : decode cX8_turn 12 = .ok (.getfield 174, 3) := by decide +kernel
theorem dX8_turn_15 : decode cX8_turn 15 = .ok (.iload_n 1, 1) := by decide +kernel
theorem dX8_turn_16 : decode cX8_turn 16 = .ok (.iaload, 1) := by decide +kernel
theorem dX8_turn_17 : decode cX8_turn 17 = .ok (.goto 6, 3) := by decide +kernel
theorem dX8_turn_20 : decode cX8_turn 20 = .ok (.sipush (-10000), 3) := by decide +kernel
theorem dX8_turn_23 : decode cX8_turn 23 = .ok (.ireturn, 1) := by decide +kernel
theorem dX8_stands_0 : decode cX8_stands 0 = .ok (.aload_n 0, 1) := by decide +kernel
theorem dX8_stands_1 : decode cX8_stands 1 = .ok (.iload_n 1, 1) := by decide +kernel
theorem dX8_stands_2 : decode cX8_stands 2 = .ok (.invokevirtual 152, 3) := by decide +kernel
theorem dX8_stands_5 : decode cX8_stands 5 = .ok (.ifCond .ne 6, 3) := by decide +kernel
theorem dX8_stands_8 : decode cX8_stands 8 = .ok (.bipush (-2), 2) := by decide +kernel
theorem dX8_stands_10 : decode cX8_stands 10 = .ok (.ireturn, 1) := by decide +kernel
theorem dX8_stands_11 : decode cX8_stands 11 = .ok (.iconst 0, 1) := by decide +kernel
theorem dX8_stands_12 : decode cX8_stands 12 = .ok (.istore_n 2, 1) := by decide +kernel
theorem dX8_stands_13 : decode cX8_stands 13 = .ok (.iconst 0, 1) := by decide +kernel
theorem dX8_stands_14 : decode cX8_stands 14 = .ok (.istore_n 3, 1) := by decide +kernel
theorem dX8_stands_15 : decode cX8_stands 15 = .ok (.iload_n 3, 1) := by decide +kernel
theorem dX8_stands_16 : decode cX8_stands 16 = .ok (.iload_n 1, 1) := by decide +kernel
theorem dX8_stands_17 : decode cX8_stands 17 = .ok (.if_icmp .ge 21, 3) := by decide +kernel
theorem dX8_stands_20 : decode cX8_stands 20 = .ok (.iload_n 2, 1) := by decide +kernel
theorem dX8_stands_21 : decode cX8_stands 21 = .ok (.aload_n 0, 1) := by decide +kernel
theorem dX8_stands_22 : decode cX8_stands 22 = .ok (.getfield 47, 3) := by decide +kernel
theorem dX8_stands_25 : decode cX8_stands 25 = .ok (.getfield 174, 3) := by decide +kernel
theorem dX8_stands_28 : decode cX8_stands 28 = .ok (.iload_n 3, 1) := by decide +kernel
theorem dX8_stands_29 : decode cX8_stands 29 = .ok (.iaload, 1) := by decide +kernel
theorem dX8_stands_30 : decode cX8_stands 30 = .ok (.iadd, 1) := by decide +kernel
theorem dX8_stands_31 : decode cX8_stands 31 = .ok (.istore_n 2, 1) := by decide +kernel
theorem dX8_stands_32 : decode cX8_stands 32 = .ok (.iinc 3 1, 3) := by decide +kernel
theorem dX8_stands_35 : decode cX8_stands 35 = .ok (.goto (-20), 3) := by decide +kernel
theorem dX8_stands_38 : decode cX8_stands 38 = .ok (.iload_n 2, 1) := by decide +kernel
theorem dX8_stands_39 : decode cX8_stands 39 = .ok (.aload_n 0, 1) := by decide +kernel
theorem dX8_stands_40 : decode cX8_stands 40 = .ok (.getfield 19, 3) := by decide +kernel
theorem dX8_stands_43 : decode cX8_stands 43 = .ok (.getfield 158, 3) := by decide +kernel
theorem dX8_stands_46 : decode cX8_stands 46 = .ok (.invokestatic 177, 3) := by decide +kernel
theorem dX8_stands_49 : decode cX8_stands 49 = .ok (.ireturn, 1) := by decide +kernel
theorem dX8_jerk_0 : decode cX8_jerk 0 = .ok (.aload_n 0, 1) := by decide +kernel
theorem dX8_jerk_1 : decode cX8_jerk 1 = .ok (.invokevirtual 138, 3) := by decide +kernel
theorem dX8_jerk_4 : decode cX8_jerk 4 = .ok (.ifCond .ne 6, 3) := by decide +kernel
theorem dX8_jerk_7 : decode cX8_jerk 7 = .ok (.bipush (-2), 2) := by decide +kernel
theorem dX8_jerk_9 : decode cX8_jerk 9 = .ok (.ireturn, 1) := by decide +kernel
theorem dX8_jerk_10 : decode cX8_jerk 10 = .ok (.iconst 0, 1) := by decide +kernel
theorem dX8_jerk_11 : decode cX8_jerk 11 = .ok (.istore_n 1, 1) := by decide +kernel
theorem dX8_jerk_12 : decode cX8_jerk 12 = .ok (.iconst 1, 1) := by decide +kernel
theorem dX8_jerk_13 : decode cX8_jerk 13 = .ok (.istore_n 2, 1) := by decide +kernel
theorem dX8_jerk_14 : decode cX8_jerk 14 = .ok (.iload_n 2, 1) := by decide +kernel
theorem dX8_jerk_15 : decode cX8_jerk 15 = .ok (.aload_n 0, 1) := by decide +kernel
theorem dX8_jerk_16 : decode cX8_jerk 16 = .ok (.getfield 19, 3) := by decide +kernel
theorem dX8_jerk_19 : decode cX8_jerk 19 = .ok (.getfield 145, 3) := by decide +kernel
theorem dX8_jerk_22 : decode cX8_jerk 22 = .ok (.if_icmp .ge 38, 3) := by decide +kernel
theorem dX8_jerk_25 : decode cX8_jerk 25 = .ok (.aload_n 0, 1) := by decide +kernel
theorem dX8_jerk_26 : decode cX8_jerk 26 = .ok (.getfield 47, 3) := by decide +kernel
theorem dX8_jerk_29 : decode cX8_jerk 29 = .ok (.getfield 174, 3) := by decide +kernel
theorem dX8_jerk_32 : decode cX8_jerk 32 = .ok (.iload_n 2, 1) := by decide +kernel
theorem dX8_jerk_33 : decode cX8_jerk 33 = .ok (.iaload, 1) := by decide +kernel
theorem dX8_jerk_34 : decode cX8_jerk 34 = .ok (.invokestatic 180, 3) := by decide +kernel
theorem dX8_jerk_37 : decode cX8_jerk 37 = .ok (.aload_n 0, 1) := by decide +kernel
theorem dX8_jerk_38 : decode cX8_jerk 38 = .ok (.getfield 47, 3) := by decide +kernel
theorem dX8_jerk_41 : decode cX8_jerk 41 = .ok (.getfield 174, 3) := by decide +kernel
theorem dX8_jerk_44 : decode cX8_jerk 44 = .ok (.iload_n 1, 1) := by decide +kernel
theorem dX8_jerk_45 : decode cX8_jerk 45 = .ok (.iaload, 1) := by decide +kernel
theorem dX8_jerk_46 : decode cX8_jerk 46 = .ok (.invokestatic 180, 3) := by decide +kernel
theorem dX8_jerk_49 : decode cX8_jerk 49 = .ok (.if_icmp .le 5, 3) := by decide +kernel
theorem dX8_jerk_52 : decode cX8_jerk 52 = .ok (.iload_n 2, 1) := by decide +kernel
theorem dX8_jerk_53 : decode cX8_jerk 53 = .ok (.istore_n 1, 1) := by decide +kernel
theorem dX8_jerk_54 : decode cX8_jerk 54 = .ok (.iinc 2 1, 3) := by decide +kernel
theorem dX8_jerk_57 : decode cX8_jerk 57 = .ok (.goto (-43), 3) := by decide +kernel
theorem dX8_jerk_60 : decode cX8_jerk 60 = .ok (.iload_n 1, 1) := by decide +kernel
theorem dX8_jerk_61 : decode cX8_jerk 61 = .ok (.ireturn, 1) := by decide +kernel
theorem dX8_still_0 : decode cX8_still 0 = .ok (.aload_n 0, 1) := by decide +kernel
theorem dX8_still_1 : decode cX8_still 1 = .ok (.invokevirtual 138, 3) := by decide +kernel
theorem dX8_still_4 : decode cX8_still 4 = .ok (.ifCond .ne 6, 3) := by decide +kernel
theorem dX8_still_7 : decode cX8_still 7 = .ok (.bipush (-2), 2) := by decide +kernel
theorem dX8_still_9 : decode cX8_still 9 = .ok (.ireturn, 1) := by decide +kernel
theorem dX8_still_10 : decode cX8_still 10 = .ok (.iconst 0, 1) := by decide +kernel
theorem dX8_still_11 : decode cX8_still 11 = .ok (.istore_n 1, 1) := by decide +kernel
theorem dX8_still_12 : decode cX8_still 12 = .ok (.iconst 0, 1) := by decide +kernel
theorem dX8_still_13 : decode cX8_still 13 = .ok (.istore_n 2, 1) := by decide +kernel
theorem dX8_still_14 : decode cX8_still 14 = .ok (.iload_n 2, 1) := by decide +kernel
theorem dX8_still_15 : decode cX8_still 15 = .ok (.aload_n 0, 1) := by decide +kernel
theorem dX8_still_16 : decode cX8_still 16 = .ok (.getfield 19, 3) := by decide +kernel
theorem dX8_still_19 : decode cX8_still 19 = .ok (.getfield 145, 3) := by decide +kernel
theorem dX8_still_22 : decode cX8_still 22 = .ok (.if_icmp .ge 27, 3) := by decide +kernel
theorem dX8_still_25 : decode cX8_still 25 = .ok (.aload_n 0, 1) := by decide +kernel
theorem dX8_still_26 : decode cX8_still 26 = .ok (.getfield 47, 3) := by decide +kernel
theorem dX8_still_29 : decode cX8_still 29 = .ok (.getfield 174, 3) := by decide +kernel
theorem dX8_still_32 : decode cX8_still 32 = .ok (.iload_n 2, 1) := by decide +kernel
theorem dX8_still_33 : decode cX8_still 33 = .ok (.iaload, 1) := by decide +kernel
theorem dX8_still_34 : decode cX8_still 34 = .ok (.ifCond .ne 9, 3) := by decide +kernel
theorem dX8_still_37 : decode cX8_still 37 = .ok (.iload_n 1, 1) := by decide +kernel
theorem dX8_still_38 : decode cX8_still 38 = .ok (.iconst 1, 1) := by decide +kernel
theorem dX8_still_39 : decode cX8_still 39 = .ok (.iload_n 2, 1) := by decide +kernel
theorem dX8_still_40 : decode cX8_still 40 = .ok (.ishl, 1) := by decide +kernel
theorem dX8_still_41 : decode cX8_still 41 = .ok (.ior, 1) := by decide +kernel
theorem dX8_still_42 : decode cX8_still 42 = .ok (.istore_n 1, 1) := by decide +kernel
theorem dX8_still_43 : decode cX8_still 43 = .ok (.iinc 2 1, 3) := by decide +kernel
theorem dX8_still_46 : decode cX8_still 46 = .ok (.goto (-32), 3) := by decide +kernel
theorem dX8_still_49 : decode cX8_still 49 = .ok (.iload_n 1, 1) := by decide +kernel
theorem dX8_still_50 : decode cX8_still 50 = .ok (.ireturn, 1) := by decide +kernel
theorem dX8_strongest_0 : decode cX8_strongest 0 = .ok (.aload_n 0, 1) := by decide +kernel
theorem dX8_strongest_1 : decode cX8_strongest 1 = .ok (.iload_n 1, 1) := by decide +kernel
theorem dX8_strongest_2 : decode cX8_strongest 2 = .ok (.invokevirtual 165, 3) := by decide +kernel
theorem dX8_strongest_5 : decode cX8_strongest 5 = .ok (.ifCond .ne 6, 3) := by decide +kernel
theorem dX8_strongest_8 : decode cX8_strongest 8 = .ok (.bipush (-2), 2) := by decide +kernel
theorem dX8_strongest_10 : decode cX8_strongest 10 = .ok (.ireturn, 1) := by decide +kernel
theorem dX8_strongest_11 : decode cX8_strongest 11 = .ok (.iconst (-1), 1) := by decide +kernel
theorem dX8_strongest_12 : decode cX8_strongest 12 = .ok (.istore_n 2, 1) := by decide +kernel
theorem dX8_strongest_13 : decode cX8_strongest 13 = .ok (.iconst 0, 1) := by decide +kernel
theorem dX8_strongest_14 : decode cX8_strongest 14 = .ok (.istore_n 3, 1) := by decide +kernel
theorem dX8_strongest_15 : decode cX8_strongest 15 = .ok (.iconst 0, 1) := by decide +kernel
theorem dX8_strongest_16 : decode cX8_strongest 16 = .ok (.istore 4, 2) := by decide +kernel
theorem dX8_strongest_18 : decode cX8_strongest 18 = .ok (.iload 4, 2) := by decide +kernel
theorem dX8_strongest_20 : decode cX8_strongest 20 = .ok (.aload_n 0, 1) := by decide +kernel
theorem dX8_strongest_21 : decode cX8_strongest 21 = .ok (.getfield 19, 3) := by decide +kernel
theorem dX8_strongest_24 : decode cX8_strongest 24 = .ok (.getfield 158, 3) := by decide +kernel
theorem dX8_strongest_27 : decode cX8_strongest 27 = .ok (.if_icmp .ge 37, 3) := by decide +kernel
theorem dX8_strongest_30 : decode cX8_strongest 30 = .ok (.aload_n 0, 1) := by decide +kernel
theorem dX8_strongest_31 : decode cX8_strongest 31 = .ok (.getfield 47, 3) := by decide +kernel
theorem dX8_strongest_34 : decode cX8_strongest 34 = .ok (.iload 4, 2) := by decide +kernel
theorem dX8_strongest_36 : decode cX8_strongest 36 = .ok (.iload_n 1, 1) := by decide +kernel
theorem dX8_strongest_37 : decode cX8_strongest 37 = .ok (.invokevirtual 168, 3) := by decide +kernel
theorem dX8_strongest_40 : decode cX8_strongest 40 = .ok (.iload_n 3, 1) := by decide +kernel
theorem dX8_strongest_41 : decode cX8_strongest 41 = .ok (.if_icmp .le 17, 3) := by decide +kernel
theorem dX8_strongest_44 : decode cX8_strongest 44 = .ok (.aload_n 0, 1) := by decide +kernel
theorem dX8_strongest_45 : decode cX8_strongest 45 = .ok (.getfield 47, 3) := by decide +kernel
theorem dX8_strongest_48 : decode cX8_strongest 48 = .ok (.iload 4, 2) := by decide +kernel
theorem dX8_strongest_50 : decode cX8_strongest 50 = .ok (.iload_n 1, 1) := by decide +kernel
theorem dX8_strongest_51 : decode cX8_strongest 51 = .ok (.invokevirtual 168, 3) := by decide +kernel
theorem dX8_strongest_54 : decode cX8_strongest 54 = .ok (.istore_n 3, 1) := by decide +kernel
theorem dX8_strongest_55 : decode cX8_strongest 55 = .ok (.iload 4, 2) := by decide +kernel
theorem dX8_strongest_57 : decode cX8_strongest 57 = .ok (.istore_n 2, 1) := by decide +kernel
theorem dX8_strongest_58 : decode cX8_strongest 58 = .ok (.iinc 4 1, 3) := by decide +kernel
theorem dX8_strongest_61 : decode cX8_strongest 61 = .ok (.goto (-43), 3) := by decide +kernel
theorem dX8_strongest_64 : decode cX8_strongest 64 = .ok (.iload_n 2, 1) := by decide +kernel
theorem dX8_strongest_65 : decode cX8_strongest 65 = .ok (.ireturn, 1) := by decide +kernel
theorem dX8_toil_0 : decode cX8_toil 0 = .ok (.aload_n 0, 1) := by decide +kernel
theorem dX8_toil_1 : decode cX8_toil 1 = .ok (.iload_n 1, 1) := by decide +kernel
theorem dX8_toil_2 : decode cX8_toil 2 = .ok (.invokevirtual 103, 3) := by decide +kernel
theorem dX8_toil_5 : decode cX8_toil 5 = .ok (.ifCond .ne 6, 3) := by decide +kernel
theorem dX8_toil_8 : decode cX8_toil 8 = .ok (.bipush (-2), 2) := by decide +kernel
theorem dX8_toil_10 : decode cX8_toil 10 = .ok (.ireturn, 1) := by decide +kernel
theorem dX8_toil_11 : decode cX8_toil 11 = .ok (.iconst 0, 1) := by decide +kernel
theorem dX8_toil_12 : decode cX8_toil 12 = .ok (.istore_n 2, 1) := by decide +kernel
theorem dX8_toil_13 : decode cX8_toil 13 = .ok (.iconst 0, 1) := by decide +kernel
theorem dX8_toil_14 : decode cX8_toil 14 = .ok (.istore_n 3, 1) := by decide +kernel
theorem dX8_toil_15 : decode cX8_toil 15 = .ok (.iload_n 3, 1) := by decide +kernel
theorem dX8_toil_16 : decode cX8_toil 16 = .ok (.aload_n 0, 1) := by decide +kernel
theorem dX8_toil_17 : decode cX8_toil 17 = .ok (.getfield 19, 3) := by decide +kernel
theorem dX8_toil_20 : decode cX8_toil 20 = .ok (.getfield 145, 3) := by decide +kernel
theorem dX8_toil_23 : decode cX8_toil 23 = .ok (.if_icmp .ge 21, 3) := by decide +kernel
theorem dX8_toil_26 : decode cX8_toil 26 = .ok (.iload_n 2, 1) := by decide +kernel
theorem dX8_toil_27 : decode cX8_toil 27 = .ok (.aload_n 0, 1) := by decide +kernel
theorem dX8_toil_28 : decode cX8_toil 28 = .ok (.getfield 47, 3) := by decide +kernel
theorem dX8_toil_31 : decode cX8_toil 31 = .ok (.iload_n 1, 1) := by decide +kernel
theorem dX8_toil_32 : decode cX8_toil 32 = .ok (.iload_n 3, 1) := by decide +kernel
theorem dX8_toil_33 : decode cX8_toil 33 = .ok (.invokevirtual 168, 3) := by decide +kernel
theorem dX8_toil_36 : decode cX8_toil 36 = .ok (.iadd, 1) := by decide +kernel
theorem dX8_toil_37 : decode cX8_toil 37 = .ok (.istore_n 2, 1) := by decide +kernel
theorem dX8_toil_38 : decode cX8_toil 38 = .ok (.iinc 3 1, 3) := by decide +kernel
theorem dX8_toil_41 : decode cX8_toil 41 = .ok (.goto (-26), 3) := by decide +kernel
theorem dX8_toil_44 : decode cX8_toil 44 = .ok (.iload_n 2, 1) := by decide +kernel
theorem dX8_toil_45 : decode cX8_toil 45 = .ok (.ireturn, 1) := by decide +kernel
theorem dX8_sun_0 : decode cX8_sun 0 = .ok (.aload_n 0, 1) := by decide +kernel
theorem dX8_sun_1 : decode cX8_sun 1 = .ok (.iload_n 1, 1) := by decide +kernel
theorem dX8_sun_2 : decode cX8_sun 2 = .ok (.invokevirtual 103, 3) := by decide +kernel
theorem dX8_sun_5 : decode cX8_sun 5 = .ok (.ifCond .eq 27, 3) := by decide +kernel
theorem dX8_sun_8 : decode cX8_sun 8 = .ok (.aload_n 0, 1) := by decide +kernel
theorem dX8_sun_9 : decode cX8_sun 9 = .ok (.iload_n 2, 1) := by decide +kernel
theorem dX8_sun_10 : decode cX8_sun 10 = .ok (.invokevirtual 152, 3) := by decide +kernel
theorem dX8_sun_13 : decode cX8_sun 13 = .ok (.ifCond .eq 19, 3) := by decide +kernel
theorem dX8_sun_16 : decode cX8_sun 16 = .ok (.aload_n 0, 1) := by decide +kernel
theorem dX8_sun_17 : decode cX8_sun 17 = .ok (.getfield 47, 3) := by decide +kernel
theorem dX8_sun_20 : decode cX8_sun 20 = .ok (.aload_n 0, 1) := by decide +kernel
theorem dX8_sun_21 : decode cX8_sun 21 = .ok (.getfield 19, 3) := by decide +kernel
theorem dX8_sun_24 : decode cX8_sun 24 = .ok (.iload_n 1, 1) := by decide +kernel
theorem dX8_sun_25 : decode cX8_sun 25 = .ok (.iload_n 2, 1) := by decide +kernel
theorem dX8_sun_26 : decode cX8_sun 26 = .ok (.invokevirtual 185, 3) := by decide +kernel
theorem dX8_sun_29 : decode cX8_sun 29 = .ok (.goto 5, 3) := by decide +kernel
theorem dX8_sun_32 : decode cX8_sun 32 = .ok (.bipush (-2), 2) := by decide +kernel
theorem dX8_sun_34 : decode cX8_sun 34 = .ok (.ireturn, 1) := by decide +kernel
theorem dX8_brown_0 : decode cX8_brown 0 = .ok (.aload_n 0, 1) := by decide +kernel
theorem dX8_brown_1 : decode cX8_brown 1 = .ok (.invokevirtual 138, 3) := by decide +kernel
theorem dX8_brown_4 : decode cX8_brown 4 = .ok (.ifCond .ne 6, 3) := by decide +kernel
theorem dX8_brown_7 : decode cX8_brown 7 = .ok (.bipush (-2), 2) := by decide +kernel
theorem dX8_brown_9 : decode cX8_brown 9 = .ok (.ireturn, 1) := by decide +kernel
theorem dX8_brown_10 : decode cX8_brown 10 = .ok (.iconst (-1), 1) := by decide +kernel
theorem dX8_brown_11 : decode cX8_brown 11 = .ok (.istore_n 1, 1) := by decide +kernel
theorem dX8_brown_12 : decode cX8_brown 12 = .ok (.iconst (-1), 1) := by decide +kernel
theorem dX8_brown_13 : decode cX8_brown 13 = .ok (.istore_n 2, 1) := by decide +kernel
theorem dX8_brown_14 : decode cX8_brown 14 = .ok (.iconst 0, 1) := by decide +kernel
theorem dX8_brown_15 : decode cX8_brown 15 = .ok (.istore_n 3, 1) := by decide +kernel
theorem dX8_brown_16 : decode cX8_brown 16 = .ok (.iload_n 3, 1) := by decide +kernel
theorem dX8_brown_17 : decode cX8_brown 17 = .ok (.aload_n 0, 1) := by decide +kernel
theorem dX8_brown_18 : decode cX8_brown 18 = .ok (.getfield 19, 3) := by decide +kernel
theorem dX8_brown_21 : decode cX8_brown 21 = .ok (.getfield 158, 3) := by decide +kernel
theorem dX8_brown_24 : decode cX8_brown 24 = .ok (.if_icmp .ge 46, 3) := by decide +kernel
theorem dX8_brown_27 : decode cX8_brown 27 = .ok (.aload_n 0, 1) := by decide +kernel
theorem dX8_brown_28 : decode cX8_brown 28 = .ok (.getfield 47, 3) := by decide +kernel
theorem dX8_brown_31 : decode cX8_brown 31 = .ok (.aload_n 0, 1) := by decide +kernel
theorem dX8_brown_32 : decode cX8_brown 32 = .ok (.getfield 19, 3) := by decide +kernel
theorem dX8_brown_35 : decode cX8_brown 35 = .ok (.iload_n 3, 1) := by decide +kernel
theorem dX8_brown_36 : decode cX8_brown 36 = .ok (.aload_n 0, 1) := by decide +kernel
theorem dX8_brown_37 : decode cX8_brown 37 = .ok (.getfield 19, 3) := by decide +kernel
theorem dX8_brown_40 : decode cX8_brown 40 = .ok (.getfield 145, 3) := by decide +kernel
theorem dX8_brown_43 : decode cX8_brown 43 = .ok (.invokevirtual 185, 3) := by decide +kernel
theorem dX8_brown_46 : decode cX8_brown 46 = .ok (.istore 4, 2) := by decide +kernel
theorem dX8_brown_48 : decode cX8_brown 48 = .ok (.iload_n 1, 1) := by decide +kernel
theorem dX8_brown_49 : decode cX8_brown 49 = .ok (.iconst (-1), 1) := by decide +kernel
theorem dX8_brown_50 : decode cX8_brown 50 = .ok (.if_icmp .eq 9, 3) := by decide +kernel
theorem dX8_brown_53 : decode cX8_brown 53 = .ok (.iload 4, 2) := by decide +kernel
theorem dX8_brown_55 : decode cX8_brown 55 = .ok (.iload_n 2, 1) := by decide +kernel
theorem dX8_brown_56 : decode cX8_brown 56 = .ok (.if_icmp .le 8, 3) := by decide +kernel
theorem dX8_brown_59 : decode cX8_brown 59 = .ok (.iload 4, 2) := by decide +kernel
theorem dX8_brown_61 : decode cX8_brown 61 = .ok (.istore_n 2, 1) := by decide +kernel
theorem dX8_brown_62 : decode cX8_brown 62 = .ok (.iload_n 3, 1) := by decide +kernel
theorem dX8_brown_63 : decode cX8_brown 63 = .ok (.istore_n 1, 1) := by decide +kernel
theorem dX8_brown_64 : decode cX8_brown 64 = .ok (.iinc 3 1, 3) := by decide +kernel
theorem dX8_brown_67 : decode cX8_brown 67 = .ok (.goto (-51), 3) := by decide +kernel
theorem dX8_brown_70 : decode cX8_brown 70 = .ok (.iload_n 1, 1) := by decide +kernel
theorem dX8_brown_71 : decode cX8_brown 71 = .ok (.ireturn, 1) := by decide +kernel
theorem dX8_pale_0 : decode cX8_pale 0 = .ok (.aload_n 0, 1) := by decide +kernel
theorem dX8_pale_1 : decode cX8_pale 1 = .ok (.invokevirtual 138, 3) := by decide +kernel
theorem dX8_pale_4 : decode cX8_pale 4 = .ok (.ifCond .ne 6, 3) := by decide +kernel
theorem dX8_pale_7 : decode cX8_pale 7 = .ok (.bipush (-2), 2) := by decide +kernel
theorem dX8_pale_9 : decode cX8_pale 9 = .ok (.ireturn, 1) := by decide +kernel
theorem dX8_pale_10 : decode cX8_pale 10 = .ok (.iconst (-1), 1) := by decide +kernel
theorem dX8_pale_11 : decode cX8_pale 11 = .ok (.istore_n 1, 1) := by decide +kernel
theorem dX8_pale_12 : decode cX8_pale 12 = .ok (.iconst 0, 1) := by decide +kernel
theorem dX8_pale_13 : decode cX8_pale 13 = .ok (.istore_n 2, 1) := by decide +kernel
theorem dX8_pale_14 : decode cX8_pale 14 = .ok (.iconst 0, 1) := by decide +kernel
theorem dX8_pale_15 : decode cX8_pale 15 = .ok (.istore_n 3, 1) := by decide +kernel
theorem dX8_pale_16 : decode cX8_pale 16 = .ok (.iload_n 3, 1) := by decide +kernel
theorem dX8_pale_17 : decode cX8_pale 17 = .ok (.aload_n 0, 1) := by decide +kernel
theorem dX8_pale_18 : decode cX8_pale 18 = .ok (.getfield 19, 3) := by decide +kernel
theorem dX8_pale_21 : decode cX8_pale 21 = .ok (.getfield 158, 3) := by decide +kernel
theorem dX8_pale_24 : decode cX8_pale 24 = .ok (.if_icmp .ge 46, 3) := by decide +kernel
theorem dX8_pale_27 : decode cX8_pale 27 = .ok (.aload_n 0, 1) := by decide +kernel
theorem dX8_pale_28 : decode cX8_pale 28 = .ok (.getfield 47, 3) := by decide +kernel
theorem dX8_pale_31 : decode cX8_pale 31 = .ok (.aload_n 0, 1) := by decide +kernel
theorem dX8_pale_32 : decode cX8_pale 32 = .ok (.getfield 19, 3) := by decide +kernel
theorem dX8_pale_35 : decode cX8_pale 35 = .ok (.iload_n 3, 1) := by decide +kernel
theorem dX8_pale_36 : decode cX8_pale 36 = .ok (.aload_n 0, 1) := by decide +kernel
theorem dX8_pale_37 : decode cX8_pale 37 = .ok (.getfield 19, 3) := by decide +kernel
theorem dX8_pale_40 : decode cX8_pale 40 = .ok (.getfield 145, 3) := by decide +kernel
theorem dX8_pale_43 : decode cX8_pale 43 = .ok (.invokevirtual 185, 3) := by decide +kernel
theorem dX8_pale_46 : decode cX8_pale 46 = .ok (.istore 4, 2) := by decide +kernel
theorem dX8_pale_48 : decode cX8_pale 48 = .ok (.iload_n 1, 1) := by decide +kernel
theorem dX8_pale_49 : decode cX8_pale 49 = .ok (.iconst (-1), 1) := by decide +kernel
theorem dX8_pale_50 : decode cX8_pale 50 = .ok (.if_icmp .eq 9, 3) := by decide +kernel
theorem dX8_pale_53 : decode cX8_pale 53 = .ok (.iload 4, 2) := by decide +kernel
theorem dX8_pale_55 : decode cX8_pale 55 = .ok (.iload_n 2, 1) := by decide +kernel
theorem dX8_pale_56 : decode cX8_pale 56 = .ok (.if_icmp .ge 8, 3) := by decide +kernel
theorem dX8_pale_59 : decode cX8_pale 59 = .ok (.iload 4, 2) := by decide +kernel
theorem dX8_pale_61 : decode cX8_pale 61 = .ok (.istore_n 2, 1) := by decide +kernel
theorem dX8_pale_62 : decode cX8_pale 62 = .ok (.iload_n 3, 1) := by decide +kernel
theorem dX8_pale_63 : decode cX8_pale 63 = .ok (.istore_n 1, 1) := by decide +kernel
theorem dX8_pale_64 : decode cX8_pale 64 = .ok (.iinc 3 1, 3) := by decide +kernel
theorem dX8_pale_67 : decode cX8_pale 67 = .ok (.goto (-51), 3) := by decide +kernel
theorem dX8_pale_70 : decode cX8_pale 70 = .ok (.iload_n 1, 1) := by decide +kernel
theorem dX8_pale_71 : decode cX8_pale 71 = .ok (.ireturn, 1) := by decide +kernel
theorem dX8_span_0 : decode cX8_span 0 = .ok (.aload_n 0, 1) := by decide +kernel
theorem dX8_span_1 : decode cX8_span 1 = .ok (.invokevirtual 138, 3) := by decide +kernel
theorem dX8_span_4 : decode cX8_span 4 = .ok (.ifCond .eq 17, 3) := by decide +kernel
theorem dX8_span_7 : decode cX8_span 7 = .ok (.aload_n 0, 1) := by decide +kernel
theorem dX8_span_8 : decode cX8_span 8 = .ok (.getfield 47, 3) := by decide +kernel
theorem dX8_span_11 : decode cX8_span 11 = .ok (.aload_n 0, 1) := by decide +kernel
theorem dX8_span_12 : decode cX8_span 12 = .ok (.getfield 19, 3) := by decide +kernel
theorem dX8_span_15 : decode cX8_span 15 = .ok (.invokevirtual 189, 3) := by decide +kernel
theorem dX8_span_18 : decode cX8_span 18 = .ok (.goto 5, 3) := by decide +kernel
theorem dX8_span_21 : decode cX8_span 21 = .ok (.bipush (-2), 2) := by decide +kernel
theorem dX8_span_23 : decode cX8_span 23 = .ok (.ireturn, 1) := by decide +kernel
theorem dX8_home_0 : decode cX8_home 0 = .ok (.aload_n 0, 1) := by decide +kernel
theorem dX8_home_1 : decode cX8_home 1 = .ok (.invokevirtual 138, 3) := by decide +kernel
theorem dX8_home_4 : decode cX8_home 4 = .ok (.ifCond .ne 6, 3) := by decide +kernel
theorem dX8_home_7 : decode cX8_home 7 = .ok (.bipush (-2), 2) := by decide +kernel
theorem dX8_home_9 : decode cX8_home 9 = .ok (.ireturn, 1) := by decide +kernel
theorem dX8_home_10 : decode cX8_home 10 = .ok (.iconst 1, 1) := by decide +kernel
theorem dX8_home_11 : decode cX8_home 11 = .ok (.istore_n 1, 1) := by decide +kernel
theorem dX8_home_12 : decode cX8_home 12 = .ok (.iload_n 1, 1) := by decide +kernel
theorem dX8_home_13 : decode cX8_home 13 = .ok (.aload_n 0, 1) := by decide +kernel
theorem dX8_home_14 : decode cX8_home 14 = .ok (.getfield 19, 3) := by decide +kernel
theorem dX8_home_17 : decode cX8_home 17 = .ok (.getfield 145, 3) := by decide +kernel
theorem dX8_home_20 : decode cX8_home 20 = .ok (.if_icmp .gt 29, 3) := by decide +kernel
theorem dX8_home_23 : decode cX8_home 23 = .ok (.aload_n 0, 1) := by decide +kernel
theorem dX8_home_24 : decode cX8_home 24 = .ok (.iload_n 1, 1) := by decide +kernel
theorem dX8_home_25 : decode cX8_home 25 = .ok (.invokevirtual 193, 3) := by decide +kernel
theorem dX8_home_28 : decode cX8_home 28 = .ok (.aload_n 0, 1) := by decide +kernel
theorem dX8_home_29 : decode cX8_home 29 = .ok (.getfield 19, 3) := by decide +kernel
theorem dX8_home_32 : decode cX8_home 32 = .ok (.getfield 158, 3) := by decide +kernel
theorem dX8_home_35 : decode cX8_home 35 = .ok (.invokestatic 148, 3) := by decide +kernel
theorem dX8_home_38 : decode cX8_home 38 = .ok (.if_icmp .ne 5, 3) := by decide +kernel
theorem dX8_home_41 : decode cX8_home 41 = .ok (.iload_n 1, 1) := by decide +kernel
theorem dX8_home_42 : decode cX8_home 42 = .ok (.ireturn, 1) := by decide +kernel
theorem dX8_home_43 : decode cX8_home 43 = .ok (.iinc 1 1, 3) := by decide +kernel
theorem dX8_home_46 : decode cX8_home 46 = .ok (.goto (-34), 3) := by decide +kernel
theorem dX8_home_49 : decode cX8_home 49 = .ok (.iconst (-1), 1) := by decide +kernel
theorem dX8_home_50 : decode cX8_home 50 = .ok (.ireturn, 1) := by decide +kernel
theorem dX8_sees_0 : decode cX8_sees 0 = .ok (.aload_n 0, 1) := by decide +kernel
theorem dX8_sees_1 : decode cX8_sees 1 = .ok (.iload_n 1, 1) := by decide +kernel
theorem dX8_sees_2 : decode cX8_sees 2 = .ok (.invokevirtual 103, 3) := by decide +kernel
theorem dX8_sees_5 : decode cX8_sees 5 = .ok (.ifCond .ne 6, 3) := by decide +kernel
theorem dX8_sees_8 : decode cX8_sees 8 = .ok (.bipush (-2), 2) := by decide +kernel
theorem dX8_sees_10 : decode cX8_sees 10 = .ok (.ireturn, 1) := by decide +kernel
theorem dX8_sees_11 : decode cX8_sees 11 = .ok (.iconst 0, 1) := by decide +kernel
theorem dX8_sees_12 : decode cX8_sees 12 = .ok (.istore_n 2, 1) := by decide +kernel
theorem dX8_sees_13 : decode cX8_sees 13 = .ok (.iconst 0, 1) := by decide +kernel
theorem dX8_sees_14 : decode cX8_sees 14 = .ok (.istore_n 3, 1) := by decide +kernel
theorem dX8_sees_15 : decode cX8_sees 15 = .ok (.iload_n 3, 1) := by decide +kernel
theorem dX8_sees_16 : decode cX8_sees 16 = .ok (.aload_n 0, 1) := by decide +kernel
theorem dX8_sees_17 : decode cX8_sees 17 = .ok (.getfield 19, 3) := by decide +kernel
theorem dX8_sees_20 : decode cX8_sees 20 = .ok (.getfield 145, 3) := by decide +kernel
theorem dX8_sees_23 : decode cX8_sees 23 = .ok (.if_icmp .gt 23, 3) := by decide +kernel
theorem dX8_sees_26 : decode cX8_sees 26 = .ok (.iload_n 2, 1) := by decide +kernel
theorem dX8_sees_27 : decode cX8_sees 27 = .ok (.iconst 1, 1) := by decide +kernel
theorem dX8_sees_28 : decode cX8_sees 28 = .ok (.aload_n 0, 1) := by decide +kernel
theorem dX8_sees_29 : decode cX8_sees 29 = .ok (.getfield 47, 3) := by decide +kernel
theorem dX8_sees_32 : decode cX8_sees 32 = .ok (.iload_n 1, 1) := by decide +kernel
theorem dX8_sees_33 : decode cX8_sees 33 = .ok (.iload_n 3, 1) := by decide +kernel
theorem dX8_sees_34 : decode cX8_sees 34 = .ok (.invokevirtual 155, 3) := by decide +kernel
theorem dX8_sees_37 : decode cX8_sees 37 = .ok (.ishl, 1) := by decide +kernel
theorem dX8_sees_38 : decode cX8_sees 38 = .ok (.ior, 1) := by decide +kernel
theorem dX8_sees_39 : decode cX8_sees 39 = .ok (.istore_n 2, 1) := by decide +kernel
theorem dX8_sees_40 : decode cX8_sees 40 = .ok (.iinc 3 1, 3) := by decide +kernel
theorem dX8_sees_43 : decode cX8_sees 43 = .ok (.goto (-28), 3) := by decide +kernel
theorem dX8_sees_46 : decode cX8_sees 46 = .ok (.iload_n 2, 1) := by decide +kernel
theorem dX8_sees_47 : decode cX8_sees 47 = .ok (.ireturn, 1) := by decide +kernel
theorem dX8_when_0 : decode cX8_when 0 = .ok (.aload_n 0, 1) := by decide +kernel
theorem dX8_when_1 : decode cX8_when 1 = .ok (.iload_n 1, 1) := by decide +kernel
theorem dX8_when_2 : decode cX8_when 2 = .ok (.invokevirtual 103, 3) := by decide +kernel
theorem dX8_when_5 : decode cX8_when 5 = .ok (.ifCond .eq 21, 3) := by decide +kernel
theorem dX8_when_8 : decode cX8_when 8 = .ok (.aload_n 0, 1) := by decide +kernel
theorem dX8_when_9 : decode cX8_when 9 = .ok (.iload_n 2, 1) := by decide +kernel
theorem dX8_when_10 : decode cX8_when 10 = .ok (.invokevirtual 117, 3) := by decide +kernel
theorem dX8_when_13 : decode cX8_when 13 = .ok (.ifCond .eq 13, 3) := by decide +kernel
theorem dX8_when_16 : decode cX8_when 16 = .ok (.aload_n 0, 1) := by decide +kernel
theorem dX8_when_17 : decode cX8_when 17 = .ok (.iload_n 1, 1) := by decide +kernel
theorem dX8_when_18 : decode cX8_when 18 = .ok (.iload_n 2, 1) := by decide +kernel
theorem dX8_when_19 : decode cX8_when 19 = .ok (.iconst 0, 1) := by decide +kernel
theorem dX8_when_20 : decode cX8_when 20 = .ok (.invokevirtual 196, 3) := by decide +kernel
theorem dX8_when_23 : decode cX8_when 23 = .ok (.goto 5, 3) := by decide +kernel
theorem dX8_when_26 : decode cX8_when 26 = .ok (.bipush (-2), 2) := by decide +kernel
theorem dX8_when_28 : decode cX8_when 28 = .ok (.ireturn, 1) := by decide +kernel
theorem dX8_apart_0 : decode cX8_apart 0 = .ok (.aload_n 0, 1) := by decide +kernel
theorem dX8_apart_1 : decode cX8_apart 1 = .ok (.iload_n 1, 1) := by decide +kernel
theorem dX8_apart_2 : decode cX8_apart 2 = .ok (.invokevirtual 103, 3) := by decide +kernel
theorem dX8_apart_5 : decode cX8_apart 5 = .ok (.ifCond .eq 29, 3) := by decide +kernel
theorem dX8_apart_8 : decode cX8_apart 8 = .ok (.aload_n 0, 1) := by decide +kernel
theorem dX8_apart_9 : decode cX8_apart 9 = .ok (.iload_n 2, 1) := by decide +kernel
theorem dX8_apart_10 : decode cX8_apart 10 = .ok (.invokevirtual 103, 3) := by decide +kernel
theorem dX8_apart_13 : decode cX8_apart 13 = .ok (.ifCond .eq 21, 3) := by decide +kernel
theorem dX8_apart_16 : decode cX8_apart 16 = .ok (.aload_n 0, 1) := by decide +kernel
theorem dX8_apart_17 : decode cX8_apart 17 = .ok (.iload_n 3, 1) := by decide +kernel
theorem dX8_apart_18 : decode cX8_apart 18 = .ok (.invokevirtual 152, 3) := by decide +kernel
theorem dX8_apart_21 : decode cX8_apart 21 = .ok (.ifCond .eq 13, 3) := by decide +kernel
theorem dX8_apart_24 : decode cX8_apart 24 = .ok (.aload_n 0, 1) := by decide +kernel
theorem dX8_apart_25 : decode cX8_apart 25 = .ok (.iload_n 1, 1) := by decide +kernel
theorem dX8_apart_26 : decode cX8_apart 26 = .ok (.iload_n 2, 1) := by decide +kernel
theorem dX8_apart_27 : decode cX8_apart 27 = .ok (.iload_n 3, 1) := by decide +kernel
theorem dX8_apart_28 : decode cX8_apart 28 = .ok (.invokevirtual 199, 3) := by decide +kernel
theorem dX8_apart_31 : decode cX8_apart 31 = .ok (.goto 5, 3) := by decide +kernel
theorem dX8_apart_34 : decode cX8_apart 34 = .ok (.bipush (-2), 2) := by decide +kernel
theorem dX8_apart_36 : decode cX8_apart 36 = .ok (.ireturn, 1) := by decide +kernel
theorem dX8_often_0 : decode cX8_often 0 = .ok (.aload_n 0, 1) := by decide +kernel
theorem dX8_often_1 : decode cX8_often 1 = .ok (.iload_n 1, 1) := by decide +kernel
theorem dX8_often_2 : decode cX8_often 2 = .ok (.invokevirtual 103, 3) := by decide +kernel
theorem dX8_often_5 : decode cX8_often 5 = .ok (.ifCond .eq 11, 3) := by decide +kernel
theorem dX8_often_8 : decode cX8_often 8 = .ok (.aload_n 0, 1) := by decide +kernel
theorem dX8_often_9 : decode cX8_often 9 = .ok (.iload_n 2, 1) := by decide +kernel
theorem dX8_often_10 : decode cX8_often 10 = .ok (.invokevirtual 117, 3) := by decide +kernel
theorem dX8_often_13 : decode cX8_often 13 = .ok (.ifCond .ne 6, 3) := by decide +kernel
theorem dX8_often_16 : decode cX8_often 16 = .ok (.bipush (-2), 2) := by decide +kernel
theorem dX8_often_18 : decode cX8_often 18 = .ok (.ireturn, 1) := by decide +kernel
theorem dX8_often_19 : decode cX8_often 19 = .ok (.iconst 0, 1) := by decide +kernel
theorem dX8_often_20 : decode cX8_often 20 = .ok (.istore_n 3, 1) := by decide +kernel
theorem dX8_often_21 : decode cX8_often 21 = .ok (.iconst 0, 1) := by decide +kernel
theorem dX8_often_22 : decode cX8_often 22 = .ok (.istore 4, 2) := by decide +kernel
theorem dX8_often_24 : decode cX8_often 24 = .ok (.iload 4, 2) := by decide +kernel
theorem dX8_often_26 : decode cX8_often 26 = .ok (.aload_n 0, 1) := by decide +kernel
theorem dX8_often_27 : decode cX8_often 27 = .ok (.getfield 19, 3) := by decide +kernel
theorem dX8_often_30 : decode cX8_often 30 = .ok (.getfield 145, 3) := by decide +kernel
theorem dX8_often_33 : decode cX8_often 33 = .ok (.if_icmp .gt 26, 3) := by decide +kernel
theorem dX8_often_36 : decode cX8_often 36 = .ok (.aload_n 0, 1) := by decide +kernel
theorem dX8_often_37 : decode cX8_often 37 = .ok (.getfield 47, 3) := by decide +kernel
theorem dX8_often_40 : decode cX8_often 40 = .ok (.iload_n 1, 1) := by decide +kernel
theorem dX8_often_41 : decode cX8_often 41 = .ok (.iload 4, 2) := by decide +kernel
theorem dX8_often_43 : decode cX8_often 43 = .ok (.invokevirtual 155, 3) := by decide +kernel
theorem dX8_often_46 : decode cX8_often 46 = .ok (.iload_n 2, 1) := by decide +kernel
theorem dX8_often_47 : decode cX8_often 47 = .ok (.if_icmp .ne 6, 3) := by decide +kernel
theorem dX8_often_50 : decode cX8_often 50 = .ok (.iinc 3 1, 3) := by decide +kernel
theorem dX8_often_53 : decode cX8_often 53 = .ok (.iinc 4 1, 3) := by decide +kernel
theorem dX8_often_56 : decode cX8_often 56 = .ok (.goto (-32), 3) := by decide +kernel
theorem dX8_often_59 : decode cX8_often 59 = .ok (.iload_n 3, 1) := by decide +kernel
theorem dX8_often_60 : decode cX8_often 60 = .ok (.ireturn, 1) := by decide +kernel
theorem dX8_nose_0 : decode cX8_nose 0 = .ok (.aload_n 0, 1) := by decide +kernel
theorem dX8_nose_1 : decode cX8_nose 1 = .ok (.iload_n 1, 1) := by decide +kernel
theorem dX8_nose_2 : decode cX8_nose 2 = .ok (.invokevirtual 103, 3) := by decide +kernel
theorem dX8_nose_5 : decode cX8_nose 5 = .ok (.ifCond .ne 6, 3) := by decide +kernel
theorem dX8_nose_8 : decode cX8_nose 8 = .ok (.bipush (-2), 2) := by decide +kernel
theorem dX8_nose_10 : decode cX8_nose 10 = .ok (.ireturn, 1) := by decide +kernel
theorem dX8_nose_11 : decode cX8_nose 11 = .ok (.iconst 0, 1) := by decide +kernel
theorem dX8_nose_12 : decode cX8_nose 12 = .ok (.istore_n 2, 1) := by decide +kernel
theorem dX8_nose_13 : decode cX8_nose 13 = .ok (.iconst 0, 1) := by decide +kernel
theorem dX8_nose_14 : decode cX8_nose 14 = .ok (.istore_n 3, 1) := by decide +kernel
theorem dX8_nose_15 : decode cX8_nose 15 = .ok (.iload_n 3, 1) := by decide +kernel
theorem dX8_nose_16 : decode cX8_nose 16 = .ok (.aload_n 0, 1) := by decide +kernel
theorem dX8_nose_17 : decode cX8_nose 17 = .ok (.getfield 19, 3) := by decide +kernel
theorem dX8_nose_20 : decode cX8_nose 20 = .ok (.getfield 145, 3) := by decide +kernel
theorem dX8_nose_23 : decode cX8_nose 23 = .ok (.if_icmp .gt 29, 3) := by decide +kernel
theorem dX8_nose_26 : decode cX8_nose 26 = .ok (.iload_n 2, 1) := by decide +kernel
theorem dX8_nose_27 : decode cX8_nose 27 = .ok (.aload_n 0, 1) := by decide +kernel
theorem dX8_nose_28 : decode cX8_nose 28 = .ok (.getfield 19, 3) := by decide +kernel
theorem dX8_nose_31 : decode cX8_nose 31 = .ok (.getfield 123, 3) := by decide +kernel
theorem dX8_nose_34 : decode cX8_nose 34 = .ok (.aload_n 0, 1) := by decide +kernel
theorem dX8_nose_35 : decode cX8_nose 35 = .ok (.getfield 47, 3) := by decide +kernel
theorem dX8_nose_38 : decode cX8_nose 38 = .ok (.iload_n 1, 1) := by decide +kernel
theorem dX8_nose_39 : decode cX8_nose 39 = .ok (.iload_n 3, 1) := by decide +kernel
theorem dX8_nose_40 : decode cX8_nose 40 = .ok (.invokevirtual 155, 3) := by decide +kernel
theorem dX8_nose_43 : decode cX8_nose 43 = .ok (.iaload, 1) := by decide +kernel
theorem dX8_nose_44 : decode cX8_nose 44 = .ok (.iadd, 1) := by decide +kernel
theorem dX8_nose_45 : decode cX8_nose 45 = .ok (.istore_n 2, 1) := by decide +kernel
theorem dX8_nose_46 : decode cX8_nose 46 = .ok (.iinc 3 1, 3) := by decide +kernel
theorem dX8_nose_49 : decode cX8_nose 49 = .ok (.goto (-34), 3) := by decide +kernel
theorem dX8_nose_52 : decode cX8_nose 52 = .ok (.iload_n 2, 1) := by decide +kernel
theorem dX8_nose_53 : decode cX8_nose 53 = .ok (.ireturn, 1) := by decide +kernel
theorem dX8_idle_0 : decode cX8_idle 0 = .ok (.aload_n 0, 1) := by decide +kernel
theorem dX8_idle_1 : decode cX8_idle 1 = .ok (.iload_n 1, 1) := by decide +kernel
theorem dX8_idle_2 : decode cX8_idle 2 = .ok (.invokevirtual 165, 3) := by decide +kernel
theorem dX8_idle_5 : decode cX8_idle 5 = .ok (.ifCond .ne 6, 3) := by decide +kernel
theorem dX8_idle_8 : decode cX8_idle 8 = .ok (.bipush (-2), 2) := by decide +kernel
theorem dX8_idle_10 : decode cX8_idle 10 = .ok (.ireturn, 1) := by decide +kernel
theorem dX8_idle_11 : decode cX8_idle 11 = .ok (.iconst 0, 1) := by decide +kernel
theorem dX8_idle_12 : decode cX8_idle 12 = .ok (.istore_n 2, 1) := by decide +kernel
theorem dX8_idle_13 : decode cX8_idle 13 = .ok (.iconst 0, 1) := by decide +kernel
theorem dX8_idle_14 : decode cX8_idle 14 = .ok (.istore_n 3, 1) := by decide +kernel
theorem dX8_idle_15 : decode cX8_idle 15 = .ok (.iload_n 3, 1) := by decide +kernel
theorem dX8_idle_16 : decode cX8_idle 16 = .ok (.aload_n 0, 1) := by decide +kernel
theorem dX8_idle_17 : decode cX8_idle 17 = .ok (.getfield 19, 3) := by decide +kernel
theorem dX8_idle_20 : decode cX8_idle 20 = .ok (.getfield 158, 3) := by decide +kernel
theorem dX8_idle_23 : decode cX8_idle 23 = .ok (.if_icmp .ge 27, 3) := by decide +kernel
theorem dX8_idle_26 : decode cX8_idle 26 = .ok (.aload_n 0, 1) := by decide +kernel
theorem dX8_idle_27 : decode cX8_idle 27 = .ok (.getfield 47, 3) := by decide +kernel
theorem dX8_idle_30 : decode cX8_idle 30 = .ok (.iload_n 3, 1) := by decide +kernel
theorem dX8_idle_31 : decode cX8_idle 31 = .ok (.iload_n 1, 1) := by decide +kernel
theorem dX8_idle_32 : decode cX8_idle 32 = .ok (.invokevirtual 168, 3) := by decide +kernel
theorem dX8_idle_35 : decode cX8_idle 35 = .ok (.ifCond .ne 9, 3) := by decide +kernel
theorem dX8_idle_38 : decode cX8_idle 38 = .ok (.iload_n 2, 1) := by decide +kernel
theorem dX8_idle_39 : decode cX8_idle 39 = .ok (.iconst 1, 1) := by decide +kernel
theorem dX8_idle_40 : decode cX8_idle 40 = .ok (.iload_n 3, 1) := by decide +kernel
theorem dX8_idle_41 : decode cX8_idle 41 = .ok (.ishl, 1) := by decide +kernel
theorem dX8_idle_42 : decode cX8_idle 42 = .ok (.ior, 1) := by decide +kernel
theorem dX8_idle_43 : decode cX8_idle 43 = .ok (.istore_n 2, 1) := by decide +kernel
theorem dX8_idle_44 : decode cX8_idle 44 = .ok (.iinc 3 1, 3) := by decide +kernel
theorem dX8_idle_47 : decode cX8_idle 47 = .ok (.goto (-32), 3) := by decide +kernel
theorem dX8_idle_50 : decode cX8_idle 50 = .ok (.iload_n 2, 1) := by decide +kernel
theorem dX8_idle_51 : decode cX8_idle 51 = .ok (.ireturn, 1) := by decide +kernel
theorem dX8_backs_0 : decode cX8_backs 0 = .ok (.aload_n 0, 1) := by decide +kernel
theorem dX8_backs_1 : decode cX8_backs 1 = .ok (.invokevirtual 138, 3) := by decide +kernel
theorem dX8_backs_4 : decode cX8_backs 4 = .ok (.ifCond .ne 6, 3) := by decide +kernel
theorem dX8_backs_7 : decode cX8_backs 7 = .ok (.bipush (-2), 2) := by decide +kernel
theorem dX8_backs_9 : decode cX8_backs 9 = .ok (.ireturn, 1) := by decide +kernel
theorem dX8_backs_10 : decode cX8_backs 10 = .ok (.iconst 0, 1) := by decide +kernel
theorem dX8_backs_11 : decode cX8_backs 11 = .ok (.istore_n 1, 1) := by decide +kernel
theorem dX8_backs_12 : decode cX8_backs 12 = .ok (.iconst 0, 1) := by decide +kernel
theorem dX8_backs_13 : decode cX8_backs 13 = .ok (.istore_n 2, 1) := by decide +kernel
theorem dX8_backs_14 : decode cX8_backs 14 = .ok (.iload_n 2, 1) := by decide +kernel
theorem dX8_backs_15 : decode cX8_backs 15 = .ok (.aload_n 0, 1) := by decide +kernel
theorem dX8_backs_16 : decode cX8_backs 16 = .ok (.getfield 19, 3) := by decide +kernel
theorem dX8_backs_19 : decode cX8_backs 19 = .ok (.getfield 145, 3) := by decide +kernel
theorem dX8_backs_22 : decode cX8_backs 22 = .ok (.if_icmp .ge 24, 3) := by decide +kernel
theorem dX8_backs_25 : decode cX8_backs 25 = .ok (.aload_n 0, 1) := by decide +kernel
theorem dX8_backs_26 : decode cX8_backs 26 = .ok (.getfield 47, 3) := by decide +kernel
theorem dX8_backs_29 : decode cX8_backs 29 = .ok (.getfield 174, 3) := by decide +kernel
theorem dX8_backs_32 : decode cX8_backs 32 = .ok (.iload_n 2, 1) := by decide +kernel
theorem dX8_backs_33 : decode cX8_backs 33 = .ok (.iaload, 1) := by decide +kernel
theorem dX8_backs_34 : decode cX8_backs 34 = .ok (.ifCond .ge 6, 3) := by decide +kernel
theorem dX8_backs_37 : decode cX8_backs 37 = .ok (.iinc 1 1, 3) := by decide +kernel
theorem dX8_backs_40 : decode cX8_backs 40 = .ok (.iinc 2 1, 3) := by decide +kernel
theorem dX8_backs_43 : decode cX8_backs 43 = .ok (.goto (-29), 3) := by decide +kernel
theorem dX8_backs_46 : decode cX8_backs 46 = .ok (.iload_n 1, 1) := by decide +kernel
theorem dX8_backs_47 : decode cX8_backs 47 = .ok (.ireturn, 1) := by decide +kernel
theorem dX8_beside_0 : decode cX8_beside 0 = .ok (.aload_n 0, 1) := by decide +kernel
theorem dX8_beside_1 : decode cX8_beside 1 = .ok (.iload_n 1, 1) := by decide +kernel
theorem dX8_beside_2 : decode cX8_beside 2 = .ok (.iload_n 2, 1) := by decide +kernel
theorem dX8_beside_3 : decode cX8_beside 3 = .ok (.invokevirtual 202, 3) := by decide +kernel
theorem dX8_beside_6 : decode cX8_beside 6 = .ok (.ifCond .ne 6, 3) := by decide +kernel
theorem dX8_beside_9 : decode cX8_beside 9 = .ok (.bipush (-2), 2) := by decide +kernel
theorem dX8_beside_11 : decode cX8_beside 11 = .ok (.ireturn, 1) := by decide +kernel
theorem dX8_beside_12 : decode cX8_beside 12 = .ok (.iconst 0, 1) := by decide +kernel
theorem dX8_beside_13 : decode cX8_beside 13 = .ok (.istore_n 3, 1) := by decide +kernel
theorem dX8_beside_14 : decode cX8_beside 14 = .ok (.iload_n 3, 1) := by decide +kernel
theorem dX8_beside_15 : decode cX8_beside 15 = .ok (.aload_n 0, 1) := by decide +kernel
theorem dX8_beside_16 : decode cX8_beside 16 = .ok (.getfield 19, 3) := by decide +kernel
theorem dX8_beside_19 : decode cX8_beside 19 = .ok (.getfield 145, 3) := by decide +kernel
theorem dX8_beside_22 : decode cX8_beside 22 = .ok (.if_icmp .gt 40, 3) := by decide +kernel
theorem dX8_beside_25 : decode cX8_beside 25 = .ok (.aload_n 0, 1) := by decide +kernel
theorem dX8_beside_26 : decode cX8_beside 26 = .ok (.iload_n 1, 1) := by decide +kernel
theorem dX8_beside_27 : decode cX8_beside 27 = .ok (.iload_n 2, 1) := by decide +kernel
theorem dX8_beside_28 : decode cX8_beside 28 = .ok (.iload_n 3, 1) := by decide +kernel
theorem dX8_beside_29 : decode cX8_beside 29 = .ok (.invokevirtual 199, 3) := by decide +kernel
theorem dX8_beside_32 : decode cX8_beside 32 = .ok (.istore 4, 2) := by decide +kernel
theorem dX8_beside_34 : decode cX8_beside 34 = .ok (.iload 4, 2) := by decide +kernel
theorem dX8_beside_36 : decode cX8_beside 36 = .ok (.iconst 1, 1) := by decide +kernel
theorem dX8_beside_37 : decode cX8_beside 37 = .ok (.if_icmp .eq 17, 3) := by decide +kernel
theorem dX8_beside_40 : decode cX8_beside 40 = .ok (.iload 4, 2) := by decide +kernel
theorem dX8_beside_42 : decode cX8_beside 42 = .ok (.aload_n 0, 1) := by decide +kernel
theorem dX8_beside_43 : decode cX8_beside 43 = .ok (.getfield 19, 3) := by decide +kernel
theorem dX8_beside_46 : decode cX8_beside 46 = .ok (.getfield 158, 3) := by decide +kernel
theorem dX8_beside_49 : decode cX8_beside 49 = .ok (.iconst 1, 1) := by decide +kernel
theorem dX8_beside_50 : decode cX8_beside 50 = .ok (.isub, 1) := by decide +kernel
theorem dX8_beside_51 : decode cX8_beside 51 = .ok (.if_icmp .ne 5, 3) := by decide +kernel
theorem dX8_beside_54 : decode cX8_beside 54 = .ok (.iload_n 3, 1) := by decide +kernel
theorem dX8_beside_55 : decode cX8_beside 55 = .ok (.ireturn, 1) := by decide +kernel
theorem dX8_beside_56 : decode cX8_beside 56 = .ok (.iinc 3 1, 3) := by decide +kernel
theorem dX8_beside_59 : decode cX8_beside 59 = .ok (.goto (-45), 3) := by decide +kernel
theorem dX8_beside_62 : decode cX8_beside 62 = .ok (.iconst (-1), 1) := by decide +kernel
theorem dX8_beside_63 : decode cX8_beside 63 = .ok (.ireturn, 1) := by decide +kernel
theorem dX8_all_0 : decode cX8_all 0 = .ok (.aload_n 0, 1) := by decide +kernel
theorem dX8_all_1 : decode cX8_all 1 = .ok (.iload_n 1, 1) := by decide +kernel
theorem dX8_all_2 : decode cX8_all 2 = .ok (.invokevirtual 165, 3) := by decide +kernel
theorem dX8_all_5 : decode cX8_all 5 = .ok (.ifCond .ne 6, 3) := by decide +kernel
theorem dX8_all_8 : decode cX8_all 8 = .ok (.bipush (-2), 2) := by decide +kernel
theorem dX8_all_10 : decode cX8_all 10 = .ok (.ireturn, 1) := by decide +kernel
theorem dX8_all_11 : decode cX8_all 11 = .ok (.iconst 0, 1) := by decide +kernel
theorem dX8_all_12 : decode cX8_all 12 = .ok (.istore_n 2, 1) := by decide +kernel
theorem dX8_all_13 : decode cX8_all 13 = .ok (.iconst 0, 1) := by decide +kernel
theorem dX8_all_14 : decode cX8_all 14 = .ok (.istore_n 3, 1) := by decide +kernel
theorem dX8_all_15 : decode cX8_all 15 = .ok (.iload_n 3, 1) := by decide +kernel
theorem dX8_all_16 : decode cX8_all 16 = .ok (.aload_n 0, 1) := by decide +kernel
theorem dX8_all_17 : decode cX8_all 17 = .ok (.getfield 19, 3) := by decide +kernel
theorem dX8_all_20 : decode cX8_all 20 = .ok (.getfield 158, 3) := by decide +kernel
theorem dX8_all_23 : decode cX8_all 23 = .ok (.if_icmp .ge 21, 3) := by decide +kernel
theorem dX8_all_26 : decode cX8_all 26 = .ok (.iload_n 2, 1) := by decide +kernel
theorem dX8_all_27 : decode cX8_all 27 = .ok (.aload_n 0, 1) := by decide +kernel
theorem dX8_all_28 : decode cX8_all 28 = .ok (.getfield 47, 3) := by decide +kernel
theorem dX8_all_31 : decode cX8_all 31 = .ok (.iload_n 3, 1) := by decide +kernel
theorem dX8_all_32 : decode cX8_all 32 = .ok (.iload_n 1, 1) := by decide +kernel
theorem dX8_all_33 : decode cX8_all 33 = .ok (.invokevirtual 168, 3) := by decide +kernel
theorem dX8_all_36 : decode cX8_all 36 = .ok (.iadd, 1) := by decide +kernel
theorem dX8_all_37 : decode cX8_all 37 = .ok (.istore_n 2, 1) := by decide +kernel
theorem dX8_all_38 : decode cX8_all 38 = .ok (.iinc 3 1, 3) := by decide +kernel
theorem dX8_all_41 : decode cX8_all 41 = .ok (.goto (-26), 3) := by decide +kernel
theorem dX8_all_44 : decode cX8_all 44 = .ok (.iload_n 2, 1) := by decide +kernel
theorem dX8_all_45 : decode cX8_all 45 = .ok (.ireturn, 1) := by decide +kernel
theorem dX8_noon_0 : decode cX8_noon 0 = .ok (.aload_n 0, 1) := by decide +kernel
theorem dX8_noon_1 : decode cX8_noon 1 = .ok (.iload_n 1, 1) := by decide +kernel
theorem dX8_noon_2 : decode cX8_noon 2 = .ok (.invokevirtual 152, 3) := by decide +kernel
theorem dX8_noon_5 : decode cX8_noon 5 = .ok (.ifCond .ne 6, 3) := by decide +kernel
theorem dX8_noon_8 : decode cX8_noon 8 = .ok (.bipush (-2), 2) := by decide +kernel
theorem dX8_noon_10 : decode cX8_noon 10 = .ok (.ireturn, 1) := by decide +kernel
theorem dX8_noon_11 : decode cX8_noon 11 = .ok (.iconst (-1), 1) := by decide +kernel
theorem dX8_noon_12 : decode cX8_noon 12 = .ok (.istore_n 2, 1) := by decide +kernel
theorem dX8_noon_13 : decode cX8_noon 13 = .ok (.iconst (-1), 1) := by decide +kernel
theorem dX8_noon_14 : decode cX8_noon 14 = .ok (.istore_n 3, 1) := by decide +kernel
theorem dX8_noon_15 : decode cX8_noon 15 = .ok (.iconst 0, 1) := by decide +kernel
theorem dX8_noon_16 : decode cX8_noon 16 = .ok (.istore 4, 2) := by decide +kernel
theorem dX8_noon_18 : decode cX8_noon 18 = .ok (.iload 4, 2) := by decide +kernel
theorem dX8_noon_20 : decode cX8_noon 20 = .ok (.aload_n 0, 1) := by decide +kernel
theorem dX8_noon_21 : decode cX8_noon 21 = .ok (.getfield 19, 3) := by decide +kernel
theorem dX8_noon_24 : decode cX8_noon 24 = .ok (.getfield 158, 3) := by decide +kernel
theorem dX8_noon_27 : decode cX8_noon 27 = .ok (.if_icmp .ge 41, 3) := by decide +kernel
theorem dX8_noon_30 : decode cX8_noon 30 = .ok (.aload_n 0, 1) := by decide +kernel
theorem dX8_noon_31 : decode cX8_noon 31 = .ok (.getfield 19, 3) := by decide +kernel
theorem dX8_noon_34 : decode cX8_noon 34 = .ok (.getfield 120, 3) := by decide +kernel
theorem dX8_noon_37 : decode cX8_noon 37 = .ok (.aload_n 0, 1) := by decide +kernel
theorem dX8_noon_38 : decode cX8_noon 38 = .ok (.getfield 47, 3) := by decide +kernel
theorem dX8_noon_41 : decode cX8_noon 41 = .ok (.iload 4, 2) := by decide +kernel
theorem dX8_noon_43 : decode cX8_noon 43 = .ok (.iload_n 1, 1) := by decide +kernel
theorem dX8_noon_44 : decode cX8_noon 44 = .ok (.invokevirtual 155, 3) := by decide +kernel
theorem dX8_noon_47 : decode cX8_noon 47 = .ok (.iaload, 1) := by decide +kernel
theorem dX8_noon_48 : decode cX8_noon 48 = .ok (.istore 5, 2) := by decide +kernel
theorem dX8_noon_50 : decode cX8_noon 50 = .ok (.iload 5, 2) := by decide +kernel
theorem dX8_noon_52 : decode cX8_noon 52 = .ok (.iload_n 3, 1) := by decide +kernel
theorem dX8_noon_53 : decode cX8_noon 53 = .ok (.if_icmp .le 9, 3) := by decide +kernel
theorem dX8_noon_56 : decode cX8_noon 56 = .ok (.iload 5, 2) := by decide +kernel
theorem dX8_noon_58 : decode cX8_noon 58 = .ok (.istore_n 3, 1) := by decide +kernel
theorem dX8_noon_59 : decode cX8_noon 59 = .ok (.iload 4, 2) := by decide +kernel
theorem dX8_noon_61 : decode cX8_noon 61 = .ok (.istore_n 2, 1) := by decide +kernel
theorem dX8_noon_62 : decode cX8_noon 62 = .ok (.iinc 4 1, 3) := by decide +kernel
theorem dX8_noon_65 : decode cX8_noon 65 = .ok (.goto (-47), 3) := by decide +kernel
theorem dX8_noon_68 : decode cX8_noon 68 = .ok (.iload_n 2, 1) := by decide +kernel
theorem dX8_noon_69 : decode cX8_noon 69 = .ok (.ireturn, 1) := by decide +kernel
theorem dX8_mates_0 : decode cX8_mates 0 = .ok (.aload_n 0, 1) := by decide +kernel
theorem dX8_mates_1 : decode cX8_mates 1 = .ok (.iload_n 1, 1) := by decide +kernel
theorem dX8_mates_2 : decode cX8_mates 2 = .ok (.invokevirtual 103, 3) := by decide +kernel
theorem dX8_mates_5 : decode cX8_mates 5 = .ok (.ifCond .eq 11, 3) := by decide +kernel
theorem dX8_mates_8 : decode cX8_mates 8 = .ok (.aload_n 0, 1) := by decide +kernel
theorem dX8_mates_9 : decode cX8_mates 9 = .ok (.iload_n 2, 1) := by decide +kernel
theorem dX8_mates_10 : decode cX8_mates 10 = .ok (.invokevirtual 152, 3) := by decide +kernel
theorem dX8_mates_13 : decode cX8_mates 13 = .ok (.ifCond .ne 6, 3) := by decide +kernel
theorem dX8_mates_16 : decode cX8_mates 16 = .ok (.bipush (-2), 2) := by decide +kernel
theorem dX8_mates_18 : decode cX8_mates 18 = .ok (.ireturn, 1) := by decide +kernel
theorem dX8_mates_19 : decode cX8_mates 19 = .ok (.iconst 1, 1) := by decide +kernel
theorem dX8_mates_20 : decode cX8_mates 20 = .ok (.aload_n 0, 1) := by decide +kernel
theorem dX8_mates_21 : decode cX8_mates 21 = .ok (.iload_n 1, 1) := by decide +kernel
theorem dX8_mates_22 : decode cX8_mates 22 = .ok (.iconst 1, 1) := by decide +kernel
theorem dX8_mates_23 : decode cX8_mates 23 = .ok (.iload_n 2, 1) := by decide +kernel
theorem dX8_mates_24 : decode cX8_mates 24 = .ok (.invokevirtual 206, 3) := by decide +kernel
theorem dX8_mates_27 : decode cX8_mates 27 = .ok (.ishl, 1) := by decide +kernel
theorem dX8_mates_28 : decode cX8_mates 28 = .ok (.iconst 1, 1) := by decide +kernel
theorem dX8_mates_29 : decode cX8_mates 29 = .ok (.aload_n 0, 1) := by decide +kernel
theorem dX8_mates_30 : decode cX8_mates 30 = .ok (.iload_n 1, 1) := by decide +kernel
theorem dX8_mates_31 : decode cX8_mates 31 = .ok (.iconst (-1), 1) := by decide +kernel
theorem dX8_mates_32 : decode cX8_mates 32 = .ok (.iload_n 2, 1) := by decide +kernel
theorem dX8_mates_33 : decode cX8_mates 33 = .ok (.invokevirtual 206, 3) := by decide +kernel
theorem dX8_mates_36 : decode cX8_mates 36 = .ok (.ishl, 1) := by decide +kernel
theorem dX8_mates_37 : decode cX8_mates 37 = .ok (.ior, 1) := by decide +kernel
theorem dX8_mates_38 : decode cX8_mates 38 = .ok (.ireturn, 1) := by decide +kernel
theorem dX8_view_0 : decode cX8_view 0 = .ok (.aload_n 0, 1) := by decide +kernel
theorem dX8_view_1 : decode cX8_view 1 = .ok (.iload_n 1, 1) := by decide +kernel
theorem dX8_view_2 : decode cX8_view 2 = .ok (.invokevirtual 103, 3) := by decide +kernel
theorem dX8_view_5 : decode cX8_view 5 = .ok (.ifCond .eq 29, 3) := by decide +kernel
theorem dX8_view_8 : decode cX8_view 8 = .ok (.aload_n 0, 1) := by decide +kernel
theorem dX8_view_9 : decode cX8_view 9 = .ok (.iload_n 2, 1) := by decide +kernel
theorem dX8_view_10 : decode cX8_view 10 = .ok (.invokevirtual 152, 3) := by decide +kernel
theorem dX8_view_13 : decode cX8_view 13 = .ok (.ifCond .eq 21, 3) := by decide +kernel
theorem dX8_view_16 : decode cX8_view 16 = .ok (.aload_n 0, 1) := by decide +kernel
theorem dX8_view_17 : decode cX8_view 17 = .ok (.iload_n 1, 1) := by decide +kernel
theorem dX8_view_18 : decode cX8_view 18 = .ok (.aload_n 0, 1) := by decide +kernel
theorem dX8_view_19 : decode cX8_view 19 = .ok (.getfield 19, 3) := by decide +kernel
theorem dX8_view_22 : decode cX8_view 22 = .ok (.getfield 158, 3) := by decide +kernel
theorem dX8_view_25 : decode cX8_view 25 = .ok (.iconst 2, 1) := by decide +kernel
theorem dX8_view_26 : decode cX8_view 26 = .ok (.idiv, 1) := by decide +kernel
theorem dX8_view_27 : decode cX8_view 27 = .ok (.iload_n 2, 1) := by decide +kernel
theorem dX8_view_28 : decode cX8_view 28 = .ok (.invokevirtual 206, 3) := by decide +kernel
theorem dX8_view_31 : decode cX8_view 31 = .ok (.goto 5, 3) := by decide +kernel
theorem dX8_view_34 : decode cX8_view 34 = .ok (.bipush (-2), 2) := by decide +kernel
theorem dX8_view_36 : decode cX8_view 36 = .ok (.ireturn, 1) := by decide +kernel
theorem dX8_best_0 : decode cX8_best 0 = .ok (.aload_n 0, 1) := by decide +kernel
theorem dX8_best_1 : decode cX8_best 1 = .ok (.iload_n 1, 1) := by decide +kernel
theorem dX8_best_2 : decode cX8_best 2 = .ok (.invokevirtual 103, 3) := by decide +kernel
theorem dX8_best_5 : decode cX8_best 5 = .ok (.ifCond .ne 6, 3) := by decide +kernel
theorem dX8_best_8 : decode cX8_best 8 = .ok (.bipush (-2), 2) := by decide +kernel
theorem dX8_best_10 : decode cX8_best 10 = .ok (.ireturn, 1) := by decide +kernel
theorem dX8_best_11 : decode cX8_best 11 = .ok (.iconst 0, 1) := by decide +kernel
theorem dX8_best_12 : decode cX8_best 12 = .ok (.istore_n 2, 1) := by decide +kernel
theorem dX8_best_13 : decode cX8_best 13 = .ok (.iconst 1, 1) := by decide +kernel
theorem dX8_best_14 : decode cX8_best 14 = .ok (.istore_n 3, 1) := by decide +kernel
theorem dX8_best_15 : decode cX8_best 15 = .ok (.iload_n 3, 1) := by decide +kernel
theorem dX8_best_16 : decode cX8_best 16 = .ok (.aload_n 0, 1) := by decide +kernel
theorem dX8_best_17 : decode cX8_best 17 = .ok (.getfield 19, 3) := by decide +kernel
theorem dX8_best_20 : decode cX8_best 20 = .ok (.getfield 145, 3) := by decide +kernel
theorem dX8_best_23 : decode cX8_best 23 = .ok (.if_icmp .gt 48, 3) := by decide +kernel
theorem dX8_best_26 : decode cX8_best 26 = .ok (.aload_n 0, 1) := by decide +kernel
theorem dX8_best_27 : decode cX8_best 27 = .ok (.getfield 19, 3) := by decide +kernel
theorem dX8_best_30 : decode cX8_best 30 = .ok (.getfield 120, 3) := by decide +kernel
theorem dX8_best_33 : decode cX8_best 33 = .ok (.aload_n 0, 1) := by decide +kernel
theorem dX8_best_34 : decode cX8_best 34 = .ok (.getfield 47, 3) := by decide +kernel
theorem dX8_best_37 : decode cX8_best 37 = .ok (.iload_n 1, 1) := by decide +kernel
theorem dX8_best_38 : decode cX8_best 38 = .ok (.iload_n 3, 1) := by decide +kernel
theorem dX8_best_39 : decode cX8_best 39 = .ok (.invokevirtual 155, 3) := by decide +kernel
theorem dX8_best_42 : decode cX8_best 42 = .ok (.iaload, 1) := by decide +kernel
theorem dX8_best_43 : decode cX8_best 43 = .ok (.aload_n 0, 1) := by decide +kernel
theorem dX8_best_44 : decode cX8_best 44 = .ok (.getfield 19, 3) := by decide +kernel
theorem dX8_best_47 : decode cX8_best 47 = .ok (.getfield 120, 3) := by decide +kernel
theorem dX8_best_50 : decode cX8_best 50 = .ok (.aload_n 0, 1) := by decide +kernel
theorem dX8_best_51 : decode cX8_best 51 = .ok (.getfield 47, 3) := by decide +kernel
theorem dX8_best_54 : decode cX8_best 54 = .ok (.iload_n 1, 1) := by decide +kernel
theorem dX8_best_55 : decode cX8_best 55 = .ok (.iload_n 2, 1) := by decide +kernel
theorem dX8_best_56 : decode cX8_best 56 = .ok (.invokevirtual 155, 3) := by decide +kernel
theorem dX8_best_59 : decode cX8_best 59 = .ok (.iaload, 1) := by decide +kernel
theorem dX8_best_60 : decode cX8_best 60 = .ok (.if_icmp .le 5, 3) := by decide +kernel
theorem dX8_best_63 : decode cX8_best 63 = .ok (.iload_n 3, 1) := by decide +kernel
theorem dX8_best_64 : decode cX8_best 64 = .ok (.istore_n 2, 1) := by decide +kernel
theorem dX8_best_65 : decode cX8_best 65 = .ok (.iinc 3 1, 3) := by decide +kernel
theorem dX8_best_68 : decode cX8_best 68 = .ok (.goto (-53), 3) := by decide +kernel
theorem dX8_best_71 : decode cX8_best 71 = .ok (.iload_n 2, 1) := by decide +kernel
theorem dX8_best_72 : decode cX8_best 72 = .ok (.ireturn, 1) := by decide +kernel
theorem dX8_sweet_0 : decode cX8_sweet 0 = .ok (.aload_n 0, 1) := by decide +kernel
theorem dX8_sweet_1 : decode cX8_sweet 1 = .ok (.iload_n 1, 1) := by decide +kernel
theorem dX8_sweet_2 : decode cX8_sweet 2 = .ok (.invokevirtual 103, 3) := by decide +kernel
theorem dX8_sweet_5 : decode cX8_sweet 5 = .ok (.ifCond .ne 6, 3) := by decide +kernel
theorem dX8_sweet_8 : decode cX8_sweet 8 = .ok (.bipush (-2), 2) := by decide +kernel
theorem dX8_sweet_10 : decode cX8_sweet 10 = .ok (.ireturn, 1) := by decide +kernel
theorem dX8_sweet_11 : decode cX8_sweet 11 = .ok (.iconst 0, 1) := by decide +kernel
theorem dX8_sweet_12 : decode cX8_sweet 12 = .ok (.istore_n 2, 1) := by decide +kernel
theorem dX8_sweet_13 : decode cX8_sweet 13 = .ok (.iconst 0, 1) := by decide +kernel
theorem dX8_sweet_14 : decode cX8_sweet 14 = .ok (.istore_n 3, 1) := by decide +kernel
theorem dX8_sweet_15 : decode cX8_sweet 15 = .ok (.iload_n 3, 1) := by decide +kernel
theorem dX8_sweet_16 : decode cX8_sweet 16 = .ok (.aload_n 0, 1) := by decide +kernel
theorem dX8_sweet_17 : decode cX8_sweet 17 = .ok (.getfield 19, 3) := by decide +kernel
theorem dX8_sweet_20 : decode cX8_sweet 20 = .ok (.getfield 145, 3) := by decide +kernel
theorem dX8_sweet_23 : decode cX8_sweet 23 = .ok (.if_icmp .gt 46, 3) := by decide +kernel
theorem dX8_sweet_26 : decode cX8_sweet 26 = .ok (.aload_n 0, 1) := by decide +kernel
theorem dX8_sweet_27 : decode cX8_sweet 27 = .ok (.getfield 47, 3) := by decide +kernel
theorem dX8_sweet_30 : decode cX8_sweet 30 = .ok (.iload_n 1, 1) := by decide +kernel
theorem dX8_sweet_31 : decode cX8_sweet 31 = .ok (.iload_n 3, 1) := by decide +kernel
theorem dX8_sweet_32 : decode cX8_sweet 32 = .ok (.invokevirtual 155, 3) := by decide +kernel
theorem dX8_sweet_35 : decode cX8_sweet 35 = .ok (.istore 4, 2) := by decide +kernel
theorem dX8_sweet_37 : decode cX8_sweet 37 = .ok (.aload_n 0, 1) := by decide +kernel
theorem dX8_sweet_38 : decode cX8_sweet 38 = .ok (.getfield 19, 3) := by decide +kernel
theorem dX8_sweet_41 : decode cX8_sweet 41 = .ok (.getfield 120, 3) := by decide +kernel
theorem dX8_sweet_44 : decode cX8_sweet 44 = .ok (.iload 4, 2) := by decide +kernel
theorem dX8_sweet_46 : decode cX8_sweet 46 = .ok (.iaload, 1) := by decide +kernel
theorem dX8_sweet_47 : decode cX8_sweet 47 = .ok (.aload_n 0, 1) := by decide +kernel
theorem dX8_sweet_48 : decode cX8_sweet 48 = .ok (.getfield 19, 3) := by decide +kernel
theorem dX8_sweet_51 : decode cX8_sweet 51 = .ok (.getfield 123, 3) := by decide +kernel
theorem dX8_sweet_54 : decode cX8_sweet 54 = .ok (.iload 4, 2) := by decide +kernel
theorem dX8_sweet_56 : decode cX8_sweet 56 = .ok (.iaload, 1) := by decide +kernel
theorem dX8_sweet_57 : decode cX8_sweet 57 = .ok (.if_icmp .le 6, 3) := by decide +kernel
theorem dX8_sweet_60 : decode cX8_sweet 60 = .ok (.iinc 2 1, 3) := by decide +kernel
theorem dX8_sweet_63 : decode cX8_sweet 63 = .ok (.iinc 3 1, 3) := by decide +kernel
theorem dX8_sweet_66 : decode cX8_sweet 66 = .ok (.goto (-51), 3) := by decide +kernel
theorem dX8_sweet_69 : decode cX8_sweet 69 = .ok (.iload_n 2, 1) := by decide +kernel
theorem dX8_sweet_70 : decode cX8_sweet 70 = .ok (.ireturn, 1) := by decide +kernel
theorem dX8_last_0 : decode cX8_last 0 = .ok (.aload_n 0, 1) := by decide +kernel
theorem dX8_last_1 : decode cX8_last 1 = .ok (.iload_n 1, 1) := by decide +kernel
theorem dX8_last_2 : decode cX8_last 2 = .ok (.invokevirtual 103, 3) := by decide +kernel
theorem dX8_last_5 : decode cX8_last 5 = .ok (.ifCond .ne 6, 3) := by decide +kernel
theorem dX8_last_8 : decode cX8_last 8 = .ok (.bipush (-2), 2) := by decide +kernel
theorem dX8_last_10 : decode cX8_last 10 = .ok (.ireturn, 1) := by decide +kernel
theorem dX8_last_11 : decode cX8_last 11 = .ok (.iconst 0, 1) := by decide +kernel
theorem dX8_last_12 : decode cX8_last 12 = .ok (.istore_n 2, 1) := by decide +kernel
theorem dX8_last_13 : decode cX8_last 13 = .ok (.iconst 1, 1) := by decide +kernel
theorem dX8_last_14 : decode cX8_last 14 = .ok (.istore_n 3, 1) := by decide +kernel
theorem dX8_last_15 : decode cX8_last 15 = .ok (.iload_n 3, 1) := by decide +kernel
theorem dX8_last_16 : decode cX8_last 16 = .ok (.aload_n 0, 1) := by decide +kernel
theorem dX8_last_17 : decode cX8_last 17 = .ok (.getfield 19, 3) := by decide +kernel
theorem dX8_last_20 : decode cX8_last 20 = .ok (.getfield 145, 3) := by decide +kernel
theorem dX8_last_23 : decode cX8_last 23 = .ok (.if_icmp .gt 32, 3) := by decide +kernel
theorem dX8_last_26 : decode cX8_last 26 = .ok (.aload_n 0, 1) := by decide +kernel
theorem dX8_last_27 : decode cX8_last 27 = .ok (.getfield 47, 3) := by decide +kernel
theorem dX8_last_30 : decode cX8_last 30 = .ok (.iload_n 1, 1) := by decide +kernel
theorem dX8_last_31 : decode cX8_last 31 = .ok (.iload_n 3, 1) := by decide +kernel
theorem dX8_last_32 : decode cX8_last 32 = .ok (.invokevirtual 155, 3) := by decide +kernel
theorem dX8_last_35 : decode cX8_last 35 = .ok (.aload_n 0, 1) := by decide +kernel
theorem dX8_last_36 : decode cX8_last 36 = .ok (.getfield 47, 3) := by decide +kernel
theorem dX8_last_39 : decode cX8_last 39 = .ok (.iload_n 1, 1) := by decide +kernel
theorem dX8_last_40 : decode cX8_last 40 = .ok (.iconst 0, 1) := by decide +kernel
theorem dX8_last_41 : decode cX8_last 41 = .ok (.invokevirtual 155, 3) := by decide +kernel
theorem dX8_last_44 : decode cX8_last 44 = .ok (.if_icmp .ne 5, 3) := by decide +kernel
theorem dX8_last_47 : decode cX8_last 47 = .ok (.iload_n 3, 1) := by decide +kernel
theorem dX8_last_48 : decode cX8_last 48 = .ok (.istore_n 2, 1) := by decide +kernel
theorem dX8_last_49 : decode cX8_last 49 = .ok (.iinc 3 1, 3) := by decide +kernel
theorem dX8_last_52 : decode cX8_last 52 = .ok (.goto (-37), 3) := by decide +kernel
theorem dX8_last_55 : decode cX8_last 55 = .ok (.iload_n 2, 1) := by decide +kernel
theorem dX8_last_56 : decode cX8_last 56 = .ok (.ireturn, 1) := by decide +kernel
theorem dX8_same_0 : decode cX8_same 0 = .ok (.aload_n 0, 1) := by decide +kernel
theorem dX8_same_1 : decode cX8_same 1 = .ok (.iload_n 1, 1) := by decide +kernel
theorem dX8_same_2 : decode cX8_same 2 = .ok (.invokevirtual 152, 3) := by decide +kernel
theorem dX8_same_5 : decode cX8_same 5 = .ok (.ifCond .eq 11, 3) := by decide +kernel
theorem dX8_same_8 : decode cX8_same 8 = .ok (.aload_n 0, 1) := by decide +kernel
theorem dX8_same_9 : decode cX8_same 9 = .ok (.iload_n 1, 1) := by decide +kernel
theorem dX8_same_10 : decode cX8_same 10 = .ok (.invokevirtual 193, 3) := by decide +kernel
theorem dX8_same_13 : decode cX8_same 13 = .ok (.goto 5, 3) := by decide +kernel
theorem dX8_same_16 : decode cX8_same 16 = .ok (.bipush (-2), 2) := by decide +kernel
theorem dX8_same_18 : decode cX8_same 18 = .ok (.ireturn, 1) := by decide +kernel
theorem dX8_loose_0 : decode cX8_loose 0 = .ok (.aload_n 0, 1) := by decide +kernel
theorem dX8_loose_1 : decode cX8_loose 1 = .ok (.iload_n 1, 1) := by decide +kernel
theorem dX8_loose_2 : decode cX8_loose 2 = .ok (.invokevirtual 117, 3) := by decide +kernel
theorem dX8_loose_5 : decode cX8_loose 5 = .ok (.ifCond .ne 6, 3) := by decide +kernel
theorem dX8_loose_8 : decode cX8_loose 8 = .ok (.bipush (-2), 2) := by decide +kernel
theorem dX8_loose_10 : decode cX8_loose 10 = .ok (.ireturn, 1) := by decide +kernel
theorem dX8_loose_11 : decode cX8_loose 11 = .ok (.iconst 0, 1) := by decide +kernel
theorem dX8_loose_12 : decode cX8_loose 12 = .ok (.istore_n 2, 1) := by decide +kernel
theorem dX8_loose_13 : decode cX8_loose 13 = .ok (.iconst 0, 1) := by decide +kernel
theorem dX8_loose_14 : decode cX8_loose 14 = .ok (.istore_n 3, 1) := by decide +kernel
theorem dX8_loose_15 : decode cX8_loose 15 = .ok (.iload_n 3, 1) := by decide +kernel
theorem dX8_loose_16 : decode cX8_loose 16 = .ok (.aload_n 0, 1) := by decide +kernel
theorem dX8_loose_17 : decode cX8_loose 17 = .ok (.getfield 19, 3) := by decide +kernel
theorem dX8_loose_20 : decode cX8_loose 20 = .ok (.getfield 145, 3) := by decide +kernel
theorem dX8_loose_23 : decode cX8_loose 23 = .ok (.if_icmp .ge 52, 3) := by decide +kernel
theorem dX8_loose_26 : decode cX8_loose 26 = .ok (.aload_n 0, 1) := by decide +kernel
theorem dX8_loose_27 : decode cX8_loose 27 = .ok (.getfield 47, 3) := by decide +kernel
theorem dX8_loose_30 : decode cX8_loose 30 = .ok (.iload_n 1, 1) := by decide +kernel
theorem dX8_loose_31 : decode cX8_loose 31 = .ok (.iload_n 3, 1) := by decide +kernel
theorem dX8_loose_32 : decode cX8_loose 32 = .ok (.aload_n 0, 1) := by decide +kernel
theorem dX8_loose_33 : decode cX8_loose 33 = .ok (.getfield 19, 3) := by decide +kernel
theorem dX8_loose_36 : decode cX8_loose 36 = .ok (.getfield 158, 3) := by decide +kernel
theorem dX8_loose_39 : decode cX8_loose 39 = .ok (.invokevirtual 161, 3) := by decide +kernel
theorem dX8_loose_42 : decode cX8_loose 42 = .ok (.istore 4, 2) := by decide +kernel
theorem dX8_loose_44 : decode cX8_loose 44 = .ok (.iload 4, 2) := by decide +kernel
theorem dX8_loose_46 : decode cX8_loose 46 = .ok (.iconst (-1), 1) := by decide +kernel
theorem dX8_loose_47 : decode cX8_loose 47 = .ok (.if_icmp .eq 22, 3) := by decide +kernel
theorem dX8_loose_50 : decode cX8_loose 50 = .ok (.aload_n 0, 1) := by decide +kernel
theorem dX8_loose_51 : decode cX8_loose 51 = .ok (.getfield 47, 3) := by decide +kernel
theorem dX8_loose_54 : decode cX8_loose 54 = .ok (.iload 4, 2) := by decide +kernel
theorem dX8_loose_56 : decode cX8_loose 56 = .ok (.iload_n 3, 1) := by decide +kernel
theorem dX8_loose_57 : decode cX8_loose 57 = .ok (.invokevirtual 168, 3) := by decide +kernel
theorem dX8_loose_60 : decode cX8_loose 60 = .ok (.ifCond .ne 9, 3) := by decide +kernel
theorem dX8_loose_63 : decode cX8_loose 63 = .ok (.iload_n 2, 1) := by decide +kernel
theorem dX8_loose_64 : decode cX8_loose 64 = .ok (.iconst 1, 1) := by decide +kernel
theorem dX8_loose_65 : decode cX8_loose 65 = .ok (.iload_n 3, 1) := by decide +kernel
theorem dX8_loose_66 : decode cX8_loose 66 = .ok (.ishl, 1) := by decide +kernel
theorem dX8_loose_67 : decode cX8_loose 67 = .ok (.ior, 1) := by decide +kernel
theorem dX8_loose_68 : decode cX8_loose 68 = .ok (.istore_n 2, 1) := by decide +kernel
theorem dX8_loose_69 : decode cX8_loose 69 = .ok (.iinc 3 1, 3) := by decide +kernel
theorem dX8_loose_72 : decode cX8_loose 72 = .ok (.goto (-57), 3) := by decide +kernel
theorem dX8_loose_75 : decode cX8_loose 75 = .ok (.iload_n 2, 1) := by decide +kernel
theorem dX8_loose_76 : decode cX8_loose 76 = .ok (.ireturn, 1) := by decide +kernel
theorem dX8_gold_0 : decode cX8_gold 0 = .ok (.aload_n 0, 1) := by decide +kernel
theorem dX8_gold_1 : decode cX8_gold 1 = .ok (.invokevirtual 209, 3) := by decide +kernel
theorem dX8_gold_4 : decode cX8_gold 4 = .ok (.istore_n 1, 1) := by decide +kernel
theorem dX8_gold_5 : decode cX8_gold 5 = .ok (.iload_n 1, 1) := by decide +kernel
theorem dX8_gold_6 : decode cX8_gold 6 = .ok (.bipush (-2), 2) := by decide +kernel
theorem dX8_gold_8 : decode cX8_gold 8 = .ok (.if_icmp .ne 6, 3) := by decide +kernel
theorem dX8_gold_11 : decode cX8_gold 11 = .ok (.bipush (-2), 2) := by decide +kernel
theorem dX8_gold_13 : decode cX8_gold 13 = .ok (.ireturn, 1) := by decide +kernel
theorem dX8_gold_14 : decode cX8_gold 14 = .ok (.iconst 0, 1) := by decide +kernel
theorem dX8_gold_15 : decode cX8_gold 15 = .ok (.istore_n 2, 1) := by decide +kernel
theorem dX8_gold_16 : decode cX8_gold 16 = .ok (.iconst 0, 1) := by decide +kernel
theorem dX8_gold_17 : decode cX8_gold 17 = .ok (.istore_n 3, 1) := by decide +kernel
theorem dX8_gold_18 : decode cX8_gold 18 = .ok (.iload_n 3, 1) := by decide +kernel
theorem dX8_gold_19 : decode cX8_gold 19 = .ok (.aload_n 0, 1) := by decide +kernel
theorem dX8_gold_20 : decode cX8_gold 20 = .ok (.getfield 19, 3) := by decide +kernel
theorem dX8_gold_23 : decode cX8_gold 23 = .ok (.getfield 158, 3) := by decide +kernel
theorem dX8_gold_26 : decode cX8_gold 26 = .ok (.if_icmp .ge 56, 3) := by decide +kernel
theorem dX8_gold_29 : decode cX8_gold 29 = .ok (.aload_n 0, 1) := by decide +kernel
theorem dX8_gold_30 : decode cX8_gold 30 = .ok (.getfield 47, 3) := by decide +kernel
theorem dX8_gold_33 : decode cX8_gold 33 = .ok (.aload_n 0, 1) := by decide +kernel
theorem dX8_gold_34 : decode cX8_gold 34 = .ok (.getfield 19, 3) := by decide +kernel
theorem dX8_gold_37 : decode cX8_gold 37 = .ok (.iload_n 3, 1) := by decide +kernel
theorem dX8_gold_38 : decode cX8_gold 38 = .ok (.aload_n 0, 1) := by decide +kernel
theorem dX8_gold_39 : decode cX8_gold 39 = .ok (.getfield 19, 3) := by decide +kernel
theorem dX8_gold_42 : decode cX8_gold 42 = .ok (.getfield 145, 3) := by decide +kernel
theorem dX8_gold_45 : decode cX8_gold 45 = .ok (.invokevirtual 185, 3) := by decide +kernel
theorem dX8_gold_48 : decode cX8_gold 48 = .ok (.aload_n 0, 1) := by decide +kernel
theorem dX8_gold_49 : decode cX8_gold 49 = .ok (.getfield 47, 3) := by decide +kernel
theorem dX8_gold_52 : decode cX8_gold 52 = .ok (.aload_n 0, 1) := by decide +kernel
theorem dX8_gold_53 : decode cX8_gold 53 = .ok (.getfield 19, 3) := by decide +kernel
theorem dX8_gold_56 : decode cX8_gold 56 = .ok (.iload_n 1, 1) := by decide +kernel
theorem dX8_gold_57 : decode cX8_gold 57 = .ok (.aload_n 0, 1) := by decide +kernel
theorem dX8_gold_58 : decode cX8_gold 58 = .ok (.getfield 19, 3) := by decide +kernel
theorem dX8_gold_61 : decode cX8_gold 61 = .ok (.getfield 145, 3) := by decide +kernel
theorem dX8_gold_64 : decode cX8_gold 64 = .ok (.invokevirtual 185, 3) := by decide +kernel
theorem dX8_gold_67 : decode cX8_gold 67 = .ok (.if_icmp .ne 9, 3) := by decide +kernel
theorem dX8_gold_70 : decode cX8_gold 70 = .ok (.iload_n 2, 1) := by decide +kernel
theorem dX8_gold_71 : decode cX8_gold 71 = .ok (.iconst 1, 1) := by decide +kernel
theorem dX8_gold_72 : decode cX8_gold 72 = .ok (.iload_n 3, 1) := by decide +kernel
theorem dX8_gold_73 : decode cX8_gold 73 = .ok (.ishl, 1) := by decide +kernel
theorem dX8_gold_74 : decode cX8_gold 74 = .ok (.ior, 1) := by decide +kernel
theorem dX8_gold_75 : decode cX8_gold 75 = .ok (.istore_n 2, 1) := by decide +kernel
theorem dX8_gold_76 : decode cX8_gold 76 = .ok (.iinc 3 1, 3) := by decide +kernel
theorem dX8_gold_79 : decode cX8_gold 79 = .ok (.goto (-61), 3) := by decide +kernel
theorem dX8_gold_82 : decode cX8_gold 82 = .ok (.iload_n 2, 1) := by decide +kernel
theorem dX8_gold_83 : decode cX8_gold 83 = .ok (.ireturn, 1) := by decide +kernel
theorem dX8_late_0 : decode cX8_late 0 = .ok (.aload_n 0, 1) := by decide +kernel
theorem dX8_late_1 : decode cX8_late 1 = .ok (.iload_n 1, 1) := by decide +kernel
theorem dX8_late_2 : decode cX8_late 2 = .ok (.invokevirtual 126, 3) := by decide +kernel
theorem dX8_late_5 : decode cX8_late 5 = .ok (.ifCond .ne 6, 3) := by decide +kernel
theorem dX8_late_8 : decode cX8_late 8 = .ok (.bipush (-2), 2) := by decide +kernel
theorem dX8_late_10 : decode cX8_late 10 = .ok (.ireturn, 1) := by decide +kernel
theorem dX8_late_11 : decode cX8_late 11 = .ok (.aload_n 0, 1) := by decide +kernel
theorem dX8_late_12 : decode cX8_late 12 = .ok (.aload_n 0, 1) := by decide +kernel
theorem dX8_late_13 : decode cX8_late 13 = .ok (.getfield 19, 3) := by decide +kernel
theorem dX8_late_16 : decode cX8_late 16 = .ok (.getfield 129, 3) := by decide +kernel
theorem dX8_late_19 : decode cX8_late 19 = .ok (.iload_n 1, 1) := by decide +kernel
theorem dX8_late_20 : decode cX8_late 20 = .ok (.iaload, 1) := by decide +kernel
theorem dX8_late_21 : decode cX8_late 21 = .ok (.aload_n 0, 1) := by decide +kernel
theorem dX8_late_22 : decode cX8_late 22 = .ok (.getfield 19, 3) := by decide +kernel
theorem dX8_late_25 : decode cX8_late 25 = .ok (.getfield 132, 3) := by decide +kernel
theorem dX8_late_28 : decode cX8_late 28 = .ok (.iload_n 1, 1) := by decide +kernel
theorem dX8_late_29 : decode cX8_late 29 = .ok (.iaload, 1) := by decide +kernel
theorem dX8_late_30 : decode cX8_late 30 = .ok (.aload_n 0, 1) := by decide +kernel
theorem dX8_late_31 : decode cX8_late 31 = .ok (.getfield 19, 3) := by decide +kernel
theorem dX8_late_34 : decode cX8_late 34 = .ok (.getfield 135, 3) := by decide +kernel
theorem dX8_late_37 : decode cX8_late 37 = .ok (.iload_n 1, 1) := by decide +kernel
theorem dX8_late_38 : decode cX8_late 38 = .ok (.iaload, 1) := by decide +kernel
theorem dX8_late_39 : decode cX8_late 39 = .ok (.invokevirtual 196, 3) := by decide +kernel
theorem dX8_late_42 : decode cX8_late 42 = .ok (.ireturn, 1) := by decide +kernel
theorem dX8_right_0 : decode cX8_right 0 = .ok (.aload_n 0, 1) := by decide +kernel
theorem dX8_right_1 : decode cX8_right 1 = .ok (.iload_n 1, 1) := by decide +kernel
theorem dX8_right_2 : decode cX8_right 2 = .ok (.invokevirtual 126, 3) := by decide +kernel
theorem dX8_right_5 : decode cX8_right 5 = .ok (.ifCond .ne 6, 3) := by decide +kernel
theorem dX8_right_8 : decode cX8_right 8 = .ok (.bipush (-2), 2) := by decide +kernel
theorem dX8_right_10 : decode cX8_right 10 = .ok (.ireturn, 1) := by decide +kernel
theorem dX8_right_11 : decode cX8_right 11 = .ok (.aload_n 0, 1) := by decide +kernel
theorem dX8_right_12 : decode cX8_right 12 = .ok (.getfield 47, 3) := by decide +kernel
theorem dX8_right_15 : decode cX8_right 15 = .ok (.aload_n 0, 1) := by decide +kernel
theorem dX8_right_16 : decode cX8_right 16 = .ok (.getfield 19, 3) := by decide +kernel
theorem dX8_right_19 : decode cX8_right 19 = .ok (.iload_n 1, 1) := by decide +kernel
theorem dX8_right_20 : decode cX8_right 20 = .ok (.invokevirtual 213, 3) := by decide +kernel
theorem dX8_right_23 : decode cX8_right 23 = .ok (.ifCond .eq 7, 3) := by decide +kernel
theorem dX8_right_26 : decode cX8_right 26 = .ok (.iconst 1, 1) := by decide +kernel
theorem dX8_right_27 : decode cX8_right 27 = .ok (.goto 4, 3) := by decide +kernel
theorem dX8_right_30 : decode cX8_right 30 = .ok (.iconst 0, 1) := by decide +kernel
theorem dX8_right_31 : decode cX8_right 31 = .ok (.ireturn, 1) := by decide +kernel
theorem dX8_rights_0 : decode cX8_rights 0 = .ok (.aload_n 0, 1) := by decide +kernel
theorem dX8_rights_1 : decode cX8_rights 1 = .ok (.invokevirtual 138, 3) := by decide +kernel
theorem dX8_rights_4 : decode cX8_rights 4 = .ok (.ifCond .eq 17, 3) := by decide +kernel
theorem dX8_rights_7 : decode cX8_rights 7 = .ok (.aload_n 0, 1) := by decide +kernel
theorem dX8_rights_8 : decode cX8_rights 8 = .ok (.getfield 47, 3) := by decide +kernel
theorem dX8_rights_11 : decode cX8_rights 11 = .ok (.aload_n 0, 1) := by decide +kernel
theorem dX8_rights_12 : decode cX8_rights 12 = .ok (.getfield 19, 3) := by decide +kernel
theorem dX8_rights_15 : decode cX8_rights 15 = .ok (.invokevirtual 217, 3) := by decide +kernel
theorem dX8_rights_18 : decode cX8_rights 18 = .ok (.goto 5, 3) := by decide +kernel
theorem dX8_rights_21 : decode cX8_rights 21 = .ok (.bipush (-2), 2) := by decide +kernel
theorem dX8_rights_23 : decode cX8_rights 23 = .ok (.ireturn, 1) := by decide +kernel
theorem dX8_wrong_0 : decode cX8_wrong 0 = .ok (.aload_n 0, 1) := by decide +kernel
theorem dX8_wrong_1 : decode cX8_wrong 1 = .ok (.iload_n 1, 1) := by decide +kernel
theorem dX8_wrong_2 : decode cX8_wrong 2 = .ok (.invokevirtual 126, 3) := by decide +kernel
theorem dX8_wrong_5 : decode cX8_wrong 5 = .ok (.ifCond .ne 6, 3) := by decide +kernel
theorem dX8_wrong_8 : decode cX8_wrong 8 = .ok (.bipush (-2), 2) := by decide +kernel
theorem dX8_wrong_10 : decode cX8_wrong 10 = .ok (.ireturn, 1) := by decide +kernel
theorem dX8_wrong_11 : decode cX8_wrong 11 = .ok (.aload_n 0, 1) := by decide +kernel
theorem dX8_wrong_12 : decode cX8_wrong 12 = .ok (.getfield 19, 3) := by decide +kernel
theorem dX8_wrong_15 : decode cX8_wrong 15 = .ok (.getfield 132, 3) := by decide +kernel
theorem dX8_wrong_18 : decode cX8_wrong 18 = .ok (.iload_n 1, 1) := by decide +kernel
theorem dX8_wrong_19 : decode cX8_wrong 19 = .ok (.iaload, 1) := by decide +kernel
theorem dX8_wrong_20 : decode cX8_wrong 20 = .ok (.istore_n 2, 1) := by decide +kernel
theorem dX8_wrong_21 : decode cX8_wrong 21 = .ok (.aload_n 0, 1) := by decide +kernel
theorem dX8_wrong_22 : decode cX8_wrong 22 = .ok (.getfield 19, 3) := by decide +kernel
theorem dX8_wrong_25 : decode cX8_wrong 25 = .ok (.getfield 135, 3) := by decide +kernel
theorem dX8_wrong_28 : decode cX8_wrong 28 = .ok (.iload_n 1, 1) := by decide +kernel
theorem dX8_wrong_29 : decode cX8_wrong 29 = .ok (.iaload, 1) := by decide +kernel
theorem dX8_wrong_30 : decode cX8_wrong 30 = .ok (.istore_n 3, 1) := by decide +kernel
theorem dX8_wrong_31 : decode cX8_wrong 31 = .ok (.aload_n 0, 1) := by decide +kernel
theorem dX8_wrong_32 : decode cX8_wrong 32 = .ok (.iload_n 2, 1) := by decide +kernel
theorem dX8_wrong_33 : decode cX8_wrong 33 = .ok (.invokevirtual 117, 3) := by decide +kernel
theorem dX8_wrong_36 : decode cX8_wrong 36 = .ok (.ifCond .eq 11, 3) := by decide +kernel
theorem dX8_wrong_39 : decode cX8_wrong 39 = .ok (.aload_n 0, 1) := by decide +kernel
theorem dX8_wrong_40 : decode cX8_wrong 40 = .ok (.iload_n 3, 1) := by decide +kernel
theorem dX8_wrong_41 : decode cX8_wrong 41 = .ok (.invokevirtual 152, 3) := by decide +kernel
theorem dX8_wrong_44 : decode cX8_wrong 44 = .ok (.ifCond .ne 5, 3) := by decide +kernel
theorem dX8_wrong_47 : decode cX8_wrong 47 = .ok (.iconst (-1), 1) := by decide +kernel
theorem dX8_wrong_48 : decode cX8_wrong 48 = .ok (.ireturn, 1) := by decide +kernel
theorem dX8_wrong_49 : decode cX8_wrong 49 = .ok (.aload_n 0, 1) := by decide +kernel
theorem dX8_wrong_50 : decode cX8_wrong 50 = .ok (.getfield 47, 3) := by decide +kernel
theorem dX8_wrong_53 : decode cX8_wrong 53 = .ok (.iload_n 2, 1) := by decide +kernel
theorem dX8_wrong_54 : decode cX8_wrong 54 = .ok (.iload_n 3, 1) := by decide +kernel
theorem dX8_wrong_55 : decode cX8_wrong 55 = .ok (.aload_n 0, 1) := by decide +kernel
theorem dX8_wrong_56 : decode cX8_wrong 56 = .ok (.getfield 19, 3) := by decide +kernel
theorem dX8_wrong_59 : decode cX8_wrong 59 = .ok (.getfield 158, 3) := by decide +kernel
theorem dX8_wrong_62 : decode cX8_wrong 62 = .ok (.invokevirtual 161, 3) := by decide +kernel
theorem dX8_wrong_65 : decode cX8_wrong 65 = .ok (.istore 4, 2) := by decide +kernel
theorem dX8_wrong_67 : decode cX8_wrong 67 = .ok (.iload 4, 2) := by decide +kernel
theorem dX8_wrong_69 : decode cX8_wrong 69 = .ok (.aload_n 0, 1) := by decide +kernel
theorem dX8_wrong_70 : decode cX8_wrong 70 = .ok (.getfield 19, 3) := by decide +kernel
theorem dX8_wrong_73 : decode cX8_wrong 73 = .ok (.getfield 129, 3) := by decide +kernel
theorem dX8_wrong_76 : decode cX8_wrong 76 = .ok (.iload_n 1, 1) := by decide +kernel
theorem dX8_wrong_77 : decode cX8_wrong 77 = .ok (.iaload, 1) := by decide +kernel
theorem dX8_wrong_78 : decode cX8_wrong 78 = .ok (.if_icmp .ne 7, 3) := by decide +kernel
theorem dX8_wrong_81 : decode cX8_wrong 81 = .ok (.iconst (-1), 1) := by decide +kernel
theorem dX8_wrong_82 : decode cX8_wrong 82 = .ok (.goto 5, 3) := by decide +kernel
theorem dX8_wrong_85 : decode cX8_wrong 85 = .ok (.iload 4, 2) := by decide +kernel
theorem dX8_wrong_87 : decode cX8_wrong 87 = .ok (.ireturn, 1) := by decide +kernel
theorem dX8_stay_0 : decode cX8_stay 0 = .ok (.aload_n 0, 1) := by decide +kernel
theorem dX8_stay_1 : decode cX8_stay 1 = .ok (.iload_n 1, 1) := by decide +kernel
theorem dX8_stay_2 : decode cX8_stay 2 = .ok (.invokevirtual 165, 3) := by decide +kernel
theorem dX8_stay_5 : decode cX8_stay 5 = .ok (.ifCond .eq 10, 3) := by decide +kernel
theorem dX8_stay_8 : decode cX8_stay 8 = .ok (.iload_n 2, 1) := by decide +kernel
theorem dX8_stay_9 : decode cX8_stay 9 = .ok (.invokestatic 220, 3) := by decide +kernel
theorem dX8_stay_12 : decode cX8_stay 12 = .ok (.ifCond .ne 6, 3) := by decide +kernel
theorem dX8_stay_15 : decode cX8_stay 15 = .ok (.bipush (-2), 2) := by decide +kernel
theorem dX8_stay_17 : decode cX8_stay 17 = .ok (.ireturn, 1) := by decide +kernel
theorem dX8_stay_18 : decode cX8_stay 18 = .ok (.aload_n 0, 1) := by decide +kernel
theorem dX8_stay_19 : decode cX8_stay 19 = .ok (.iload_n 1, 1) := by decide +kernel
theorem dX8_stay_20 : decode cX8_stay 20 = .ok (.iload_n 2, 1) := by decide +kernel
theorem dX8_stay_21 : decode cX8_stay 21 = .ok (.invokevirtual 223, 3) := by decide +kernel
theorem dX8_stay_24 : decode cX8_stay 24 = .ok (.istore_n 3, 1) := by decide +kernel
theorem dX8_stay_25 : decode cX8_stay 25 = .ok (.iload_n 3, 1) := by decide +kernel
theorem dX8_stay_26 : decode cX8_stay 26 = .ok (.iconst (-1), 1) := by decide +kernel
theorem dX8_stay_27 : decode cX8_stay 27 = .ok (.if_icmp .ne 7, 3) := by decide +kernel
theorem dX8_stay_30 : decode cX8_stay 30 = .ok (.iconst (-1), 1) := by decide +kernel
theorem dX8_stay_31 : decode cX8_stay 31 = .ok (.goto 7, 3) := by decide +kernel
theorem dX8_stay_34 : decode cX8_stay 34 = .ok (.iload_n 3, 1) := by decide +kernel
theorem dX8_stay_35 : decode cX8_stay 35 = .ok (.invokestatic 226, 3) := by decide +kernel
theorem dX8_stay_38 : decode cX8_stay 38 = .ok (.ireturn, 1) := by decide +kernel
theorem dX8_stays_0 : decode cX8_stays 0 = .ok (.aload_n 0, 1) := by decide +kernel
theorem dX8_stays_1 : decode cX8_stays 1 = .ok (.iload_n 1, 1) := by decide +kernel
theorem dX8_stays_2 : decode cX8_stays 2 = .ok (.invokevirtual 165, 3) := by decide +kernel
theorem dX8_stays_5 : decode cX8_stays 5 = .ok (.ifCond .eq 19, 3) := by decide +kernel
theorem dX8_stays_8 : decode cX8_stays 8 = .ok (.iload_n 2, 1) := by decide +kernel
theorem dX8_stays_9 : decode cX8_stays 9 = .ok (.invokestatic 220, 3) := by decide +kernel
theorem dX8_stays_12 : decode cX8_stays 12 = .ok (.ifCond .eq 12, 3) := by decide +kernel
theorem dX8_stays_15 : decode cX8_stays 15 = .ok (.aload_n 0, 1) := by decide +kernel
theorem dX8_stays_16 : decode cX8_stays 16 = .ok (.iload_n 1, 1) := by decide +kernel
theorem dX8_stays_17 : decode cX8_stays 17 = .ok (.iload_n 2, 1) := by decide +kernel
theorem dX8_stays_18 : decode cX8_stays 18 = .ok (.invokevirtual 223, 3) := by decide +kernel
theorem dX8_stays_21 : decode cX8_stays 21 = .ok (.goto 5, 3) := by decide +kernel
theorem dX8_stays_24 : decode cX8_stays 24 = .ok (.bipush (-2), 2) := by decide +kernel
theorem dX8_stays_26 : decode cX8_stays 26 = .ok (.ireturn, 1) := by decide +kernel
theorem dX8_moves_0 : decode cX8_moves 0 = .ok (.aload_n 0, 1) := by decide +kernel
theorem dX8_moves_1 : decode cX8_moves 1 = .ok (.iload_n 1, 1) := by decide +kernel
theorem dX8_moves_2 : decode cX8_moves 2 = .ok (.invokevirtual 165, 3) := by decide +kernel
theorem dX8_moves_5 : decode cX8_moves 5 = .ok (.ifCond .ne 6, 3) := by decide +kernel
theorem dX8_moves_8 : decode cX8_moves 8 = .ok (.bipush (-2), 2) := by decide +kernel
theorem dX8_moves_10 : decode cX8_moves 10 = .ok (.ireturn, 1) := by decide +kernel
theorem dX8_moves_11 : decode cX8_moves 11 = .ok (.aload_n 0, 1) := by decide +kernel
theorem dX8_moves_12 : decode cX8_moves 12 = .ok (.getfield 64, 3) := by decide +kernel
theorem dX8_moves_15 : decode cX8_moves 15 = .ok (.invokevirtual 231, 3) := by decide +kernel
theorem dX8_moves_18 : decode cX8_moves 18 = .ok (.iconst 0, 1) := by decide +kernel
theorem dX8_moves_19 : decode cX8_moves 19 = .ok (.istore_n 2, 1) := by decide +kernel
theorem dX8_moves_20 : decode cX8_moves 20 = .ok (.iconst 0, 1) := by decide +kernel
theorem dX8_moves_21 : decode cX8_moves 21 = .ok (.istore_n 3, 1) := by decide +kernel
theorem dX8_moves_22 : decode cX8_moves 22 = .ok (.iload_n 3, 1) := by decide +kernel
theorem dX8_moves_23 : decode cX8_moves 23 = .ok (.aload_n 0, 1) := by decide +kernel
theorem dX8_moves_24 : decode cX8_moves 24 = .ok (.getfield 19, 3) := by decide +kernel
theorem dX8_moves_27 : decode cX8_moves 27 = .ok (.getfield 158, 3) := by decide +kernel
theorem dX8_moves_30 : decode cX8_moves 30 = .ok (.invokestatic 148, 3) := by decide +kernel
theorem dX8_moves_33 : decode cX8_moves 33 = .ok (.if_icmp .gt 29, 3) := by decide +kernel
theorem dX8_moves_36 : decode cX8_moves 36 = .ok (.aload_n 0, 1) := by decide +kernel
theorem dX8_moves_37 : decode cX8_moves 37 = .ok (.getfield 64, 3) := by decide +kernel
theorem dX8_moves_40 : decode cX8_moves 40 = .ok (.aload_n 0, 1) := by decide +kernel
theorem dX8_moves_41 : decode cX8_moves 41 = .ok (.iload_n 1, 1) := by decide +kernel
theorem dX8_moves_42 : decode cX8_moves 42 = .ok (.iload_n 3, 1) := by decide +kernel
theorem dX8_moves_43 : decode cX8_moves 43 = .ok (.invokevirtual 234, 3) := by decide +kernel
theorem dX8_moves_46 : decode cX8_moves 46 = .ok (.invokevirtual 237, 3) := by decide +kernel
theorem dX8_moves_49 : decode cX8_moves 49 = .ok (.iconst 1, 1) := by decide +kernel
theorem dX8_moves_50 : decode cX8_moves 50 = .ok (.if_icmp .ne 6, 3) := by decide +kernel
theorem dX8_moves_53 : decode cX8_moves 53 = .ok (.iinc 2 1, 3) := by decide +kernel
theorem dX8_moves_56 : decode cX8_moves 56 = .ok (.iinc 3 1, 3) := by decide +kernel
theorem dX8_moves_59 : decode cX8_moves 59 = .ok (.goto (-37), 3) := by decide +kernel
theorem dX8_moves_62 : decode cX8_moves 62 = .ok (.iload_n 2, 1) := by decide +kernel
theorem dX8_moves_63 : decode cX8_moves 63 = .ok (.ireturn, 1) := by decide +kernel
theorem dX8_fewestStaying_0 : decode cX8_fewestStaying 0 = .ok (.iconst (-1), 1) := by decide +kernel
theorem dX8_fewestStaying_1 : decode cX8_fewestStaying 1 = .ok (.istore_n 3, 1) := by decide +kernel
theorem dX8_fewestStaying_2 : decode cX8_fewestStaying 2 = .ok (.iconst 0, 1) := by decide +kernel
theorem dX8_fewestStaying_3 : decode cX8_fewestStaying 3 = .ok (.istore 4, 2) := by decide +kernel
theorem dX8_fewestStaying_5 : decode cX8_fewestStaying 5 = .ok (.iload 4, 2) := by decide +kernel
theorem dX8_fewestStaying_7 : decode cX8_fewestStaying 7 = .ok (.aload_n 0, 1) := by decide +kernel
theorem dX8_fewestStaying_8 : decode cX8_fewestStaying 8 = .ok (.getfield 19, 3) := by decide +kernel
theorem dX8_fewestStaying_11 : decode cX8_fewestStaying 11 = .ok (.getfield 158, 3) := by decide +kernel
theorem dX8_fewestStaying_14 : decode cX8_fewestStaying 14 = .ok (.invokestatic 148, 3) := by decide +kernel
theorem dX8_fewestStaying_17 : decode cX8_fewestStaying 17 = .ok (.if_icmp .gt 52, 3) := by decide +kernel
theorem dX8_fewestStaying_20 : decode cX8_fewestStaying 20 = .ok (.iload_n 3, 1) := by decide +kernel
theorem dX8_fewestStaying_21 : decode cX8_fewestStaying 21 = .ok (.iconst (-1), 1) := by decide +kernel
theorem dX8_fewestStaying_22 : decode cX8_fewestStaying 22 = .ok (.if_icmp .eq 15, 3) := by decide +kernel
theorem dX8_fewestStaying_25 : decode cX8_fewestStaying 25 = .ok (.iload 4, 2) := by decide +kernel
theorem dX8_fewestStaying_27 : decode cX8_fewestStaying 27 = .ok (.invokestatic 226, 3) := by decide +kernel
theorem dX8_fewestStaying_30 : decode cX8_fewestStaying 30 = .ok (.iload_n 3, 1) := by decide +kernel
theorem dX8_fewestStaying_31 : decode cX8_fewestStaying 31 = .ok (.invokestatic 226, 3) := by decide +kernel
theorem dX8_fewestStaying_34 : decode cX8_fewestStaying 34 = .ok (.if_icmp .ge 7, 3) := by decide +kernel
theorem dX8_fewestStaying_37 : decode cX8_fewestStaying 37 = .ok (.iconst 1, 1) := by decide +kernel
theorem dX8_fewestStaying_38 : decode cX8_fewestStaying 38 = .ok (.goto 4, 3) := by decide +kernel
theorem dX8_fewestStaying_41 : decode cX8_fewestStaying 41 = .ok (.iconst 0, 1) := by decide +kernel
theorem dX8_fewestStaying_42 : decode cX8_fewestStaying 42 = .ok (.istore 5, 2) := by decide +kernel
theorem dX8_fewestStaying_44 : decode cX8_fewestStaying 44 = .ok (.iload 5, 2) := by decide +kernel
theorem dX8_fewestStaying_46 : decode cX8_fewestStaying 46 = .ok (.ifCond .eq 17, 3) := by decide +kernel
theorem dX8_fewestStaying_49 : decode cX8_fewestStaying 49 = .ok (.aload_n 0, 1) := by decide +kernel
theorem dX8_fewestStaying_50 : decode cX8_fewestStaying 50 = .ok (.iload_n 1, 1) := by decide +kernel
theorem dX8_fewestStaying_51 : decode cX8_fewestStaying 51 = .ok (.iload 4, 2) := by decide +kernel
theorem dX8_fewestStaying_53 : decode cX8_fewestStaying 53 = .ok (.invokevirtual 234, 3) := by decide +kernel
theorem dX8_fewestStaying_56 : decode cX8_fewestStaying 56 = .ok (.iload_n 2, 1) := by decide +kernel
theorem dX8_fewestStaying_57 : decode cX8_fewestStaying 57 = .ok (.if_icmp .ne 6, 3) := by decide +kernel
theorem dX8_fewestStaying_60 : decode cX8_fewestStaying 60 = .ok (.iload 4, 2) := by decide +kernel
theorem dX8_fewestStaying_62 : decode cX8_fewestStaying 62 = .ok (.istore_n 3, 1) := by decide +kernel
theorem dX8_fewestStaying_63 : decode cX8_fewestStaying 63 = .ok (.iinc 4 1, 3) := by decide +kernel
theorem dX8_fewestStaying_66 : decode cX8_fewestStaying 66 = .ok (.goto (-61), 3) := by decide +kernel
theorem dX8_fewestStaying_69 : decode cX8_fewestStaying 69 = .ok (.iload_n 3, 1) := by decide +kernel
theorem dX8_fewestStaying_70 : decode cX8_fewestStaying 70 = .ok (.ireturn, 1) := by decide +kernel
theorem dX8_turnWithout_0 : decode cX8_turnWithout 0 = .ok (.iconst 0, 1) := by decide +kernel
theorem dX8_turnWithout_1 : decode cX8_turnWithout 1 = .ok (.istore_n 3, 1) := by decide +kernel
theorem dX8_turnWithout_2 : decode cX8_turnWithout 2 = .ok (.iconst 0, 1) := by decide +kernel
theorem dX8_turnWithout_3 : decode cX8_turnWithout 3 = .ok (.istore 4, 2) := by decide +kernel
theorem dX8_turnWithout_5 : decode cX8_turnWithout 5 = .ok (.iload 4, 2) := by decide +kernel
theorem dX8_turnWithout_7 : decode cX8_turnWithout 7 = .ok (.aload_n 0, 1) := by decide +kernel
theorem dX8_turnWithout_8 : decode cX8_turnWithout 8 = .ok (.getfield 19, 3) := by decide +kernel
theorem dX8_turnWithout_11 : decode cX8_turnWithout 11 = .ok (.getfield 158, 3) := by decide +kernel
theorem dX8_turnWithout_14 : decode cX8_turnWithout 14 = .ok (.if_icmp .ge 43, 3) := by decide +kernel
theorem dX8_turnWithout_17 : decode cX8_turnWithout 17 = .ok (.iload_n 2, 1) := by decide +kernel
theorem dX8_turnWithout_18 : decode cX8_turnWithout 18 = .ok (.iload 4, 2) := by decide +kernel
theorem dX8_turnWithout_20 : decode cX8_turnWithout 20 = .ok (.invokestatic 113, 3) := by decide +kernel
theorem dX8_turnWithout_23 : decode cX8_turnWithout 23 = .ok (.ifCond .ne 28, 3) := by decide +kernel
theorem dX8_turnWithout_26 : decode cX8_turnWithout 26 = .ok (.iload_n 3, 1) := by decide +kernel
theorem dX8_turnWithout_27 : decode cX8_turnWithout 27 = .ok (.aload_n 0, 1) := by decide +kernel
theorem dX8_turnWithout_28 : decode cX8_turnWithout 28 = .ok (.getfield 47, 3) := by decide +kernel
theorem dX8_turnWithout_31 : decode cX8_turnWithout 31 = .ok (.iload 4, 2) := by decide +kernel
theorem dX8_turnWithout_33 : decode cX8_turnWithout 33 = .ok (.iload_n 1, 1) := by decide +kernel
theorem dX8_turnWithout_34 : decode cX8_turnWithout 34 = .ok (.invokevirtual 168, 3) := by decide +kernel
theorem dX8_turnWithout_37 : decode cX8_turnWithout 37 = .ok (.aload_n 0, 1) := by decide +kernel
theorem dX8_turnWithout_38 : decode cX8_turnWithout 38 = .ok (.getfield 19, 3) := by decide +kernel
theorem dX8_turnWithout_41 : decode cX8_turnWithout 41 = .ok (.getfield 110, 3) := by decide +kernel
theorem dX8_turnWithout_44 : decode cX8_turnWithout 44 = .ok (.iload 4, 2) := by decide +kernel
theorem dX8_turnWithout_46 : decode cX8_turnWithout 46 = .ok (.invokestatic 239, 3) := by decide +kernel
theorem dX8_turnWithout_49 : decode cX8_turnWithout 49 = .ok (.iadd, 1) := by decide +kernel
theorem dX8_turnWithout_50 : decode cX8_turnWithout 50 = .ok (.istore_n 3, 1) := by decide +kernel
theorem dX8_turnWithout_51 : decode cX8_turnWithout 51 = .ok (.iinc 4 1, 3) := by decide +kernel
theorem dX8_turnWithout_54 : decode cX8_turnWithout 54 = .ok (.goto (-49), 3) := by decide +kernel
theorem dX8_turnWithout_57 : decode cX8_turnWithout 57 = .ok (.aload_n 0, 1) := by decide +kernel
theorem dX8_turnWithout_58 : decode cX8_turnWithout 58 = .ok (.getfield 19, 3) := by decide +kernel
theorem dX8_turnWithout_61 : decode cX8_turnWithout 61 = .ok (.getfield 242, 3) := by decide +kernel
theorem dX8_turnWithout_64 : decode cX8_turnWithout 64 = .ok (.aload_n 0, 1) := by decide +kernel
theorem dX8_turnWithout_65 : decode cX8_turnWithout 65 = .ok (.getfield 19, 3) := by decide +kernel
theorem dX8_turnWithout_68 : decode cX8_turnWithout 68 = .ok (.getfield 245, 3) := by decide +kernel
theorem dX8_turnWithout_71 : decode cX8_turnWithout 71 = .ok (.iload_n 3, 1) := by decide +kernel
theorem dX8_turnWithout_72 : decode cX8_turnWithout 72 = .ok (.iload_n 1, 1) := by decide +kernel
theorem dX8_turnWithout_73 : decode cX8_turnWithout 73 = .ok (.aload_n 0, 1) := by decide +kernel
theorem dX8_turnWithout_74 : decode cX8_turnWithout 74 = .ok (.getfield 19, 3) := by decide +kernel
theorem dX8_turnWithout_77 : decode cX8_turnWithout 77 = .ok (.getfield 158, 3) := by decide +kernel
theorem dX8_turnWithout_80 : decode cX8_turnWithout 80 = .ok (.invokestatic 248, 3) := by decide +kernel
theorem dX8_turnWithout_83 : decode cX8_turnWithout 83 = .ok (.ireturn, 1) := by decide +kernel
theorem dX8_fair_0 : decode cX8_fair 0 = .ok (.aload_n 0, 1) := by decide +kernel
theorem dX8_fair_1 : decode cX8_fair 1 = .ok (.invokevirtual 138, 3) := by decide +kernel
theorem dX8_fair_4 : decode cX8_fair 4 = .ok (.ifCond .ne 6, 3) := by decide +kernel
theorem dX8_fair_7 : decode cX8_fair 7 = .ok (.bipush (-2), 2) := by decide +kernel
theorem dX8_fair_9 : decode cX8_fair 9 = .ok (.ireturn, 1) := by decide +kernel
theorem dX8_fair_10 : decode cX8_fair 10 = .ok (.iconst (-1), 1) := by decide +kernel
theorem dX8_fair_11 : decode cX8_fair 11 = .ok (.istore_n 1, 1) := by decide +kernel
theorem dX8_fair_12 : decode cX8_fair 12 = .ok (.iconst 0, 1) := by decide +kernel
theorem dX8_fair_13 : decode cX8_fair 13 = .ok (.istore_n 2, 1) := by decide +kernel
theorem dX8_fair_14 : decode cX8_fair 14 = .ok (.iconst 1, 1) := by decide +kernel
theorem dX8_fair_15 : decode cX8_fair 15 = .ok (.istore_n 3, 1) := by decide +kernel
theorem dX8_fair_16 : decode cX8_fair 16 = .ok (.iload_n 3, 1) := by decide +kernel
theorem dX8_fair_17 : decode cX8_fair 17 = .ok (.bipush 30, 2) := by decide +kernel
theorem dX8_fair_19 : decode cX8_fair 19 = .ok (.if_icmp .gt 43, 3) := by decide +kernel
theorem dX8_fair_22 : decode cX8_fair 22 = .ok (.aload_n 0, 1) := by decide +kernel
theorem dX8_fair_23 : decode cX8_fair 23 = .ok (.iload_n 3, 1) := by decide +kernel
theorem dX8_fair_24 : decode cX8_fair 24 = .ok (.invokevirtual 252, 3) := by decide +kernel
theorem dX8_fair_27 : decode cX8_fair 27 = .ok (.aload_n 0, 1) := by decide +kernel
theorem dX8_fair_28 : decode cX8_fair 28 = .ok (.getfield 51, 3) := by decide +kernel
theorem dX8_fair_31 : decode cX8_fair 31 = .ok (.aload_n 0, 1) := by decide +kernel
theorem dX8_fair_32 : decode cX8_fair 32 = .ok (.getfield 19, 3) := by decide +kernel
theorem dX8_fair_35 : decode cX8_fair 35 = .ok (.invokevirtual 189, 3) := by decide +kernel
theorem dX8_fair_38 : decode cX8_fair 38 = .ok (.istore 4, 2) := by decide +kernel
theorem dX8_fair_40 : decode cX8_fair 40 = .ok (.iload_n 1, 1) := by decide +kernel
theorem dX8_fair_41 : decode cX8_fair 41 = .ok (.iconst (-1), 1) := by decide +kernel
theorem dX8_fair_42 : decode cX8_fair 42 = .ok (.if_icmp .eq 9, 3) := by decide +kernel
theorem dX8_fair_45 : decode cX8_fair 45 = .ok (.iload 4, 2) := by decide +kernel
theorem dX8_fair_47 : decode cX8_fair 47 = .ok (.iload_n 2, 1) := by decide +kernel
theorem dX8_fair_48 : decode cX8_fair 48 = .ok (.if_icmp .ge 8, 3) := by decide +kernel
theorem dX8_fair_51 : decode cX8_fair 51 = .ok (.iload 4, 2) := by decide +kernel
theorem dX8_fair_53 : decode cX8_fair 53 = .ok (.istore_n 2, 1) := by decide +kernel
theorem dX8_fair_54 : decode cX8_fair 54 = .ok (.iload_n 3, 1) := by decide +kernel
theorem dX8_fair_55 : decode cX8_fair 55 = .ok (.istore_n 1, 1) := by decide +kernel
theorem dX8_fair_56 : decode cX8_fair 56 = .ok (.iinc 3 1, 3) := by decide +kernel
theorem dX8_fair_59 : decode cX8_fair 59 = .ok (.goto (-43), 3) := by decide +kernel
theorem dX8_fair_62 : decode cX8_fair 62 = .ok (.iload_n 1, 1) := by decide +kernel
theorem dX8_fair_63 : decode cX8_fair 63 = .ok (.ireturn, 1) := by decide +kernel
theorem dX8_post_0 : decode cX8_post 0 = .ok (.aload_n 0, 1) := by decide +kernel
theorem dX8_post_1 : decode cX8_post 1 = .ok (.invokevirtual 138, 3) := by decide +kernel
theorem dX8_post_4 : decode cX8_post 4 = .ok (.ifCond .ne 6, 3) := by decide +kernel
theorem dX8_post_7 : decode cX8_post 7 = .ok (.bipush (-2), 2) := by decide +kernel
theorem dX8_post_9 : decode cX8_post 9 = .ok (.ireturn, 1) := by decide +kernel
theorem dX8_post_10 : decode cX8_post 10 = .ok (.iconst (-1), 1) := by decide +kernel
theorem dX8_post_11 : decode cX8_post 11 = .ok (.istore_n 1, 1) := by decide +kernel
theorem dX8_post_12 : decode cX8_post 12 = .ok (.iconst 0, 1) := by decide +kernel
theorem dX8_post_13 : decode cX8_post 13 = .ok (.istore_n 2, 1) := by decide +kernel
theorem dX8_post_14 : decode cX8_post 14 = .ok (.iconst 1, 1) := by decide +kernel
theorem dX8_post_15 : decode cX8_post 15 = .ok (.istore_n 3, 1) := by decide +kernel
theorem dX8_post_16 : decode cX8_post 16 = .ok (.iload_n 3, 1) := by decide +kernel
theorem dX8_post_17 : decode cX8_post 17 = .ok (.bipush 30, 2) := by decide +kernel
theorem dX8_post_19 : decode cX8_post 19 = .ok (.if_icmp .gt 46, 3) := by decide +kernel
theorem dX8_post_22 : decode cX8_post 22 = .ok (.aload_n 0, 1) := by decide +kernel
theorem dX8_post_23 : decode cX8_post 23 = .ok (.iload_n 3, 1) := by decide +kernel
theorem dX8_post_24 : decode cX8_post 24 = .ok (.invokevirtual 252, 3) := by decide +kernel
theorem dX8_post_27 : decode cX8_post 27 = .ok (.aload_n 0, 1) := by decide +kernel
theorem dX8_post_28 : decode cX8_post 28 = .ok (.getfield 51, 3) := by decide +kernel
theorem dX8_post_31 : decode cX8_post 31 = .ok (.aload_n 0, 1) := by decide +kernel
theorem dX8_post_32 : decode cX8_post 32 = .ok (.getfield 19, 3) := by decide +kernel
theorem dX8_post_35 : decode cX8_post 35 = .ok (.invokevirtual 217, 3) := by decide +kernel
theorem dX8_post_38 : decode cX8_post 38 = .ok (.invokestatic 226, 3) := by decide +kernel
theorem dX8_post_41 : decode cX8_post 41 = .ok (.istore 4, 2) := by decide +kernel
theorem dX8_post_43 : decode cX8_post 43 = .ok (.iload_n 1, 1) := by decide +kernel
theorem dX8_post_44 : decode cX8_post 44 = .ok (.iconst (-1), 1) := by decide +kernel
theorem dX8_post_45 : decode cX8_post 45 = .ok (.if_icmp .eq 9, 3) := by decide +kernel
theorem dX8_post_48 : decode cX8_post 48 = .ok (.iload 4, 2) := by decide +kernel
theorem dX8_post_50 : decode cX8_post 50 = .ok (.iload_n 2, 1) := by decide +kernel
theorem dX8_post_51 : decode cX8_post 51 = .ok (.if_icmp .le 8, 3) := by decide +kernel
theorem dX8_post_54 : decode cX8_post 54 = .ok (.iload 4, 2) := by decide +kernel
theorem dX8_post_56 : decode cX8_post 56 = .ok (.istore_n 2, 1) := by decide +kernel
theorem dX8_post_57 : decode cX8_post 57 = .ok (.iload_n 3, 1) := by decide +kernel
theorem dX8_post_58 : decode cX8_post 58 = .ok (.istore_n 1, 1) := by decide +kernel
theorem dX8_post_59 : decode cX8_post 59 = .ok (.iinc 3 1, 3) := by decide +kernel
theorem dX8_post_62 : decode cX8_post 62 = .ok (.goto (-46), 3) := by decide +kernel
theorem dX8_post_65 : decode cX8_post 65 = .ok (.iload_n 1, 1) := by decide +kernel
theorem dX8_post_66 : decode cX8_post 66 = .ok (.ireturn, 1) := by decide +kernel
theorem dX8_by_0 : decode cX8_by 0 = .ok (.aload_n 0, 1) := by decide +kernel
theorem dX8_by_1 : decode cX8_by 1 = .ok (.invokevirtual 138, 3) := by decide +kernel
theorem dX8_by_4 : decode cX8_by 4 = .ok (.ifCond .eq 20, 3) := by decide +kernel
theorem dX8_by_7 : decode cX8_by 7 = .ok (.iload_n 1, 1) := by decide +kernel
theorem dX8_by_8 : decode cX8_by 8 = .ok (.ifCond .lt 16, 3) := by decide +kernel
theorem dX8_by_11 : decode cX8_by 11 = .ok (.iload_n 1, 1) := by decide +kernel
theorem dX8_by_12 : decode cX8_by 12 = .ok (.iconst 4, 1) := by decide +kernel
theorem dX8_by_13 : decode cX8_by 13 = .ok (.if_icmp .ge 11, 3) := by decide +kernel
theorem dX8_by_16 : decode cX8_by 16 = .ok (.aload_n 0, 1) := by decide +kernel
theorem dX8_by_17 : decode cX8_by 17 = .ok (.iload_n 1, 1) := by decide +kernel
theorem dX8_by_18 : decode cX8_by 18 = .ok (.invokevirtual 255, 3) := by decide +kernel
theorem dX8_by_21 : decode cX8_by 21 = .ok (.goto 5, 3) := by decide +kernel
theorem dX8_by_24 : decode cX8_by 24 = .ok (.bipush (-2), 2) := by decide +kernel
theorem dX8_by_26 : decode cX8_by 26 = .ok (.ireturn, 1) := by decide +kernel
theorem dX8_law_0 : decode cX8_law 0 = .ok (.aload_n 0, 1) := by decide +kernel
theorem dX8_law_1 : decode cX8_law 1 = .ok (.invokevirtual 138, 3) := by decide +kernel
theorem dX8_law_4 : decode cX8_law 4 = .ok (.ifCond .ne 6, 3) := by decide +kernel
theorem dX8_law_7 : decode cX8_law 7 = .ok (.bipush (-2), 2) := by decide +kernel
theorem dX8_law_9 : decode cX8_law 9 = .ok (.ireturn, 1) := by decide +kernel
theorem dX8_law_10 : decode cX8_law 10 = .ok (.iconst (-1), 1) := by decide +kernel
theorem dX8_law_11 : decode cX8_law 11 = .ok (.istore_n 1, 1) := by decide +kernel
theorem dX8_law_12 : decode cX8_law 12 = .ok (.iconst 0, 1) := by decide +kernel
theorem dX8_law_13 : decode cX8_law 13 = .ok (.istore_n 2, 1) := by decide +kernel
theorem dX8_law_14 : decode cX8_law 14 = .ok (.iconst 0, 1) := by decide +kernel
theorem dX8_law_15 : decode cX8_law 15 = .ok (.istore_n 3, 1) := by decide +kernel
theorem dX8_law_16 : decode cX8_law 16 = .ok (.iload_n 3, 1) := by decide +kernel
theorem dX8_law_17 : decode cX8_law 17 = .ok (.iconst 4, 1) := by decide +kernel
theorem dX8_law_18 : decode cX8_law 18 = .ok (.if_icmp .ge 32, 3) := by decide +kernel
theorem dX8_law_21 : decode cX8_law 21 = .ok (.aload_n 0, 1) := by decide +kernel
theorem dX8_law_22 : decode cX8_law 22 = .ok (.iload_n 3, 1) := by decide +kernel
theorem dX8_law_23 : decode cX8_law 23 = .ok (.invokevirtual 255, 3) := by decide +kernel
theorem dX8_law_26 : decode cX8_law 26 = .ok (.istore 4, 2) := by decide +kernel
theorem dX8_law_28 : decode cX8_law 28 = .ok (.iload_n 1, 1) := by decide +kernel
theorem dX8_law_29 : decode cX8_law 29 = .ok (.iconst (-1), 1) := by decide +kernel
theorem dX8_law_30 : decode cX8_law 30 = .ok (.if_icmp .eq 9, 3) := by decide +kernel
theorem dX8_law_33 : decode cX8_law 33 = .ok (.iload 4, 2) := by decide +kernel
theorem dX8_law_35 : decode cX8_law 35 = .ok (.iload_n 2, 1) := by decide +kernel
theorem dX8_law_36 : decode cX8_law 36 = .ok (.if_icmp .ge 8, 3) := by decide +kernel
theorem dX8_law_39 : decode cX8_law 39 = .ok (.iload 4, 2) := by decide +kernel
theorem dX8_law_41 : decode cX8_law 41 = .ok (.istore_n 2, 1) := by decide +kernel
theorem dX8_law_42 : decode cX8_law 42 = .ok (.iload_n 3, 1) := by decide +kernel
theorem dX8_law_43 : decode cX8_law 43 = .ok (.istore_n 1, 1) := by decide +kernel
theorem dX8_law_44 : decode cX8_law 44 = .ok (.iinc 3 1, 3) := by decide +kernel
theorem dX8_law_47 : decode cX8_law 47 = .ok (.goto (-31), 3) := by decide +kernel
theorem dX8_law_50 : decode cX8_law 50 = .ok (.iload_n 1, 1) := by decide +kernel
theorem dX8_law_51 : decode cX8_law 51 = .ok (.ireturn, 1) := by decide +kernel
theorem dX8_trade_0 : decode cX8_trade 0 = .ok (.aload_n 0, 1) := by decide +kernel
theorem dX8_trade_1 : decode cX8_trade 1 = .ok (.invokevirtual 138, 3) := by decide +kernel
theorem dX8_trade_4 : decode cX8_trade 4 = .ok (.ifCond .ne 6, 3) := by decide +kernel
theorem dX8_trade_7 : decode cX8_trade 7 = .ok (.bipush (-2), 2) := by decide +kernel
theorem dX8_trade_9 : decode cX8_trade 9 = .ok (.ireturn, 1) := by decide +kernel
theorem dX8_trade_10 : decode cX8_trade 10 = .ok (.iconst 0, 1) := by decide +kernel
theorem dX8_trade_11 : decode cX8_trade 11 = .ok (.istore_n 1, 1) := by decide +kernel
theorem dX8_trade_12 : decode cX8_trade 12 = .ok (.iload_n 1, 1) := by decide +kernel
theorem dX8_trade_13 : decode cX8_trade 13 = .ok (.aload_n 0, 1) := by decide +kernel
theorem dX8_trade_14 : decode cX8_trade 14 = .ok (.getfield 19, 3) := by decide +kernel
theorem dX8_trade_17 : decode cX8_trade 17 = .ok (.getfield 158, 3) := by decide +kernel
theorem dX8_trade_20 : decode cX8_trade 20 = .ok (.if_icmp .ge 46, 3) := by decide +kernel
theorem dX8_trade_23 : decode cX8_trade 23 = .ok (.iload_n 1, 1) := by decide +kernel
theorem dX8_trade_24 : decode cX8_trade 24 = .ok (.iconst 1, 1) := by decide +kernel
theorem dX8_trade_25 : decode cX8_trade 25 = .ok (.iadd, 1) := by decide +kernel
theorem dX8_trade_26 : decode cX8_trade 26 = .ok (.istore_n 2, 1) := by decide +kernel
theorem dX8_trade_27 : decode cX8_trade 27 = .ok (.iload_n 2, 1) := by decide +kernel
theorem dX8_trade_28 : decode cX8_trade 28 = .ok (.aload_n 0, 1) := by decide +kernel
theorem dX8_trade_29 : decode cX8_trade 29 = .ok (.getfield 19, 3) := by decide +kernel
theorem dX8_trade_32 : decode cX8_trade 32 = .ok (.getfield 158, 3) := by decide +kernel
theorem dX8_trade_35 : decode cX8_trade 35 = .ok (.if_icmp .ge 25, 3) := by decide +kernel
theorem dX8_trade_38 : decode cX8_trade 38 = .ok (.aload_n 0, 1) := by decide +kernel
theorem dX8_trade_39 : decode cX8_trade 39 = .ok (.iload_n 1, 1) := by decide +kernel
theorem dX8_trade_40 : decode cX8_trade 40 = .ok (.iload_n 2, 1) := by decide +kernel
theorem dX8_trade_41 : decode cX8_trade 41 = .ok (.invokevirtual 258, 3) := by decide +kernel
theorem dX8_trade_44 : decode cX8_trade 44 = .ok (.ifCond .eq 10, 3) := by decide +kernel
theorem dX8_trade_47 : decode cX8_trade 47 = .ok (.bipush 10, 2) := by decide +kernel
theorem dX8_trade_49 : decode cX8_trade 49 = .ok (.iload_n 1, 1) := by decide +kernel
theorem dX8_trade_50 : decode cX8_trade 50 = .ok (.imul, 1) := by decide +kernel
theorem dX8_trade_51 : decode cX8_trade 51 = .ok (.iload_n 2, 1) := by decide +kernel
theorem dX8_trade_52 : decode cX8_trade 52 = .ok (.iadd, 1) := by decide +kernel
theorem dX8_trade_53 : decode cX8_trade 53 = .ok (.ireturn, 1) := by decide +kernel
theorem dX8_trade_54 : decode cX8_trade 54 = .ok (.iinc 2 1, 3) := by decide +kernel
theorem dX8_trade_57 : decode cX8_trade 57 = .ok (.goto (-30), 3) := by decide +kernel
theorem dX8_trade_60 : decode cX8_trade 60 = .ok (.iinc 1 1, 3) := by decide +kernel
theorem dX8_trade_63 : decode cX8_trade 63 = .ok (.goto (-51), 3) := by decide +kernel
theorem dX8_trade_66 : decode cX8_trade 66 = .ok (.iconst (-1), 1) := by decide +kernel
theorem dX8_trade_67 : decode cX8_trade 67 = .ok (.ireturn, 1) := by decide +kernel
theorem dX8_trades_0 : decode cX8_trades 0 = .ok (.aload_n 0, 1) := by decide +kernel
theorem dX8_trades_1 : decode cX8_trades 1 = .ok (.invokevirtual 138, 3) := by decide +kernel
theorem dX8_trades_4 : decode cX8_trades 4 = .ok (.ifCond .ne 6, 3) := by decide +kernel
theorem dX8_trades_7 : decode cX8_trades 7 = .ok (.bipush (-2), 2) := by decide +kernel
theorem dX8_trades_9 : decode cX8_trades 9 = .ok (.ireturn, 1) := by decide +kernel
theorem dX8_trades_10 : decode cX8_trades 10 = .ok (.iconst 0, 1) := by decide +kernel
theorem dX8_trades_11 : decode cX8_trades 11 = .ok (.istore_n 1, 1) := by decide +kernel
theorem dX8_trades_12 : decode cX8_trades 12 = .ok (.iconst 0, 1) := by decide +kernel
theorem dX8_trades_13 : decode cX8_trades 13 = .ok (.istore_n 2, 1) := by decide +kernel
theorem dX8_trades_14 : decode cX8_trades 14 = .ok (.iload_n 2, 1) := by decide +kernel
theorem dX8_trades_15 : decode cX8_trades 15 = .ok (.aload_n 0, 1) := by decide +kernel
theorem dX8_trades_16 : decode cX8_trades 16 = .ok (.getfield 19, 3) := by decide +kernel
theorem dX8_trades_19 : decode cX8_trades 19 = .ok (.getfield 158, 3) := by decide +kernel
theorem dX8_trades_22 : decode cX8_trades 22 = .ok (.if_icmp .ge 42, 3) := by decide +kernel
theorem dX8_trades_25 : decode cX8_trades 25 = .ok (.iload_n 2, 1) := by decide +kernel
theorem dX8_trades_26 : decode cX8_trades 26 = .ok (.iconst 1, 1) := by decide +kernel
theorem dX8_trades_27 : decode cX8_trades 27 = .ok (.iadd, 1) := by decide +kernel
theorem dX8_trades_28 : decode cX8_trades 28 = .ok (.istore_n 3, 1) := by decide +kernel
theorem dX8_trades_29 : decode cX8_trades 29 = .ok (.iload_n 3, 1) := by decide +kernel
theorem dX8_trades_30 : decode cX8_trades 30 = .ok (.aload_n 0, 1) := by decide +kernel
theorem dX8_trades_31 : decode cX8_trades 31 = .ok (.getfield 19, 3) := by decide +kernel
theorem dX8_trades_34 : decode cX8_trades 34 = .ok (.getfield 158, 3) := by decide +kernel
theorem dX8_trades_37 : decode cX8_trades 37 = .ok (.if_icmp .ge 21, 3) := by decide +kernel
theorem dX8_trades_40 : decode cX8_trades 40 = .ok (.aload_n 0, 1) := by decide +kernel
theorem dX8_trades_41 : decode cX8_trades 41 = .ok (.iload_n 2, 1) := by decide +kernel
theorem dX8_trades_42 : decode cX8_trades 42 = .ok (.iload_n 3, 1) := by decide +kernel
theorem dX8_trades_43 : decode cX8_trades 43 = .ok (.invokevirtual 258, 3) := by decide +kernel
theorem dX8_trades_46 : decode cX8_trades 46 = .ok (.ifCond .eq 6, 3) := by decide +kernel
theorem dX8_trades_49 : decode cX8_trades 49 = .ok (.iinc 1 1, 3) := by decide +kernel
theorem dX8_trades_52 : decode cX8_trades 52 = .ok (.iinc 3 1, 3) := by decide +kernel
theorem dX8_trades_55 : decode cX8_trades 55 = .ok (.goto (-26), 3) := by decide +kernel
theorem dX8_trades_58 : decode cX8_trades 58 = .ok (.iinc 2 1, 3) := by decide +kernel
theorem dX8_trades_61 : decode cX8_trades 61 = .ok (.goto (-47), 3) := by decide +kernel
theorem dX8_trades_64 : decode cX8_trades 64 = .ok (.iload_n 1, 1) := by decide +kernel
theorem dX8_trades_65 : decode cX8_trades 65 = .ok (.ireturn, 1) := by decide +kernel
theorem dX8_followHeavy_0 : decode cX8_followHeavy 0 = .ok (.aload_n 0, 1) := by decide +kernel
theorem dX8_followHeavy_1 : decode cX8_followHeavy 1 = .ok (.getfield 40, 3) := by decide +kernel
theorem dX8_followHeavy_4 : decode cX8_followHeavy 4 = .ok (.aload_n 0, 1) := by decide +kernel
theorem dX8_followHeavy_5 : decode cX8_followHeavy 5 = .ok (.getfield 19, 3) := by decide +kernel
theorem dX8_followHeavy_8 : decode cX8_followHeavy 8 = .ok (.invokevirtual 261, 3) := by decide +kernel
theorem dX8_followHeavy_11 : decode cX8_followHeavy 11 = .ok (.aload_n 0, 1) := by decide +kernel
theorem dX8_followHeavy_12 : decode cX8_followHeavy 12 = .ok (.getfield 40, 3) := by decide +kernel
theorem dX8_followHeavy_15 : decode cX8_followHeavy 15 = .ok (.iload_n 1, 1) := by decide +kernel
theorem dX8_followHeavy_16 : decode cX8_followHeavy 16 = .ok (.putfield 265, 3) := by decide +kernel
theorem dX8_followHeavy_19 : decode cX8_followHeavy 19 = .ok (.aload_n 0, 1) := by decide +kernel
theorem dX8_followHeavy_20 : decode cX8_followHeavy 20 = .ok (.getfield 51, 3) := by decide +kernel
theorem dX8_followHeavy_23 : decode cX8_followHeavy 23 = .ok (.aload_n 0, 1) := by decide +kernel
theorem dX8_followHeavy_24 : decode cX8_followHeavy 24 = .ok (.getfield 19, 3) := by decide +kernel
theorem dX8_followHeavy_27 : decode cX8_followHeavy 27 = .ok (.aload_n 0, 1) := by decide +kernel
theorem dX8_followHeavy_28 : decode cX8_followHeavy 28 = .ok (.getfield 40, 3) := by decide +kernel
theorem dX8_followHeavy_31 : decode cX8_followHeavy 31 = .ok (.invokevirtual 266, 3) := by decide +kernel
theorem dX8_followHeavy_34 : decode cX8_followHeavy 34 = .ok (.return_, 1) := by decide +kernel
theorem dX8_followLaw_0 : decode cX8_followLaw 0 = .ok (.aload_n 0, 1) := by decide +kernel
theorem dX8_followLaw_1 : decode cX8_followLaw 1 = .ok (.getfield 40, 3) := by decide +kernel
theorem dX8_followLaw_4 : decode cX8_followLaw 4 = .ok (.aload_n 0, 1) := by decide +kernel
theorem dX8_followLaw_5 : decode cX8_followLaw 5 = .ok (.getfield 19, 3) := by decide +kernel
theorem dX8_followLaw_8 : decode cX8_followLaw 8 = .ok (.invokevirtual 261, 3) := by decide +kernel
theorem dX8_followLaw_11 : decode cX8_followLaw 11 = .ok (.aload_n 0, 1) := by decide +kernel
theorem dX8_followLaw_12 : decode cX8_followLaw 12 = .ok (.getfield 40, 3) := by decide +kernel
theorem dX8_followLaw_15 : decode cX8_followLaw 15 = .ok (.iload_n 1, 1) := by decide +kernel
theorem dX8_followLaw_16 : decode cX8_followLaw 16 = .ok (.putfield 270, 3) := by decide +kernel
theorem dX8_followLaw_19 : decode cX8_followLaw 19 = .ok (.aload_n 0, 1) := by decide +kernel
theorem dX8_followLaw_20 : decode cX8_followLaw 20 = .ok (.getfield 51, 3) := by decide +kernel
theorem dX8_followLaw_23 : decode cX8_followLaw 23 = .ok (.aload_n 0, 1) := by decide +kernel
theorem dX8_followLaw_24 : decode cX8_followLaw 24 = .ok (.getfield 19, 3) := by decide +kernel
theorem dX8_followLaw_27 : decode cX8_followLaw 27 = .ok (.aload_n 0, 1) := by decide +kernel
theorem dX8_followLaw_28 : decode cX8_followLaw 28 = .ok (.getfield 40, 3) := by decide +kernel
theorem dX8_followLaw_31 : decode cX8_followLaw 31 = .ok (.invokevirtual 266, 3) := by decide +kernel
theorem dX8_followLaw_34 : decode cX8_followLaw 34 = .ok (.return_, 1) := by decide +kernel
theorem dX8_spreadBy_0 : decode cX8_spreadBy 0 = .ok (.aload_n 0, 1) := by decide +kernel
theorem dX8_spreadBy_1 : decode cX8_spreadBy 1 = .ok (.iload_n 1, 1) := by decide +kernel
theorem dX8_spreadBy_2 : decode cX8_spreadBy 2 = .ok (.invokevirtual 271, 3) := by decide +kernel
theorem dX8_spreadBy_5 : decode cX8_spreadBy 5 = .ok (.aload_n 0, 1) := by decide +kernel
theorem dX8_spreadBy_6 : decode cX8_spreadBy 6 = .ok (.getfield 51, 3) := by decide +kernel
theorem dX8_spreadBy_9 : decode cX8_spreadBy 9 = .ok (.aload_n 0, 1) := by decide +kernel
theorem dX8_spreadBy_10 : decode cX8_spreadBy 10 = .ok (.getfield 19, 3) := by decide +kernel
theorem dX8_spreadBy_13 : decode cX8_spreadBy 13 = .ok (.invokevirtual 189, 3) := by decide +kernel
theorem dX8_spreadBy_16 : decode cX8_spreadBy 16 = .ok (.ireturn, 1) := by decide +kernel
theorem dX8_bothGain_0 : decode cX8_bothGain 0 = .ok (.aload_n 0, 1) := by decide +kernel
theorem dX8_bothGain_1 : decode cX8_bothGain 1 = .ok (.getfield 40, 3) := by decide +kernel
theorem dX8_bothGain_4 : decode cX8_bothGain 4 = .ok (.aload_n 0, 1) := by decide +kernel
theorem dX8_bothGain_5 : decode cX8_bothGain 5 = .ok (.getfield 19, 3) := by decide +kernel
theorem dX8_bothGain_8 : decode cX8_bothGain 8 = .ok (.invokevirtual 261, 3) := by decide +kernel
theorem dX8_bothGain_11 : decode cX8_bothGain 11 = .ok (.aload_n 0, 1) := by decide +kernel
theorem dX8_bothGain_12 : decode cX8_bothGain 12 = .ok (.getfield 40, 3) := by decide +kernel
theorem dX8_bothGain_15 : decode cX8_bothGain 15 = .ok (.iload_n 1, 1) := by decide +kernel
theorem dX8_bothGain_16 : decode cX8_bothGain 16 = .ok (.putfield 274, 3) := by decide +kernel
theorem dX8_bothGain_19 : decode cX8_bothGain 19 = .ok (.aload_n 0, 1) := by decide +kernel
theorem dX8_bothGain_20 : decode cX8_bothGain 20 = .ok (.getfield 40, 3) := by decide +kernel
theorem dX8_bothGain_23 : decode cX8_bothGain 23 = .ok (.iload_n 2, 1) := by decide +kernel
theorem dX8_bothGain_24 : decode cX8_bothGain 24 = .ok (.putfield 277, 3) := by decide +kernel
theorem dX8_bothGain_27 : decode cX8_bothGain 27 = .ok (.aload_n 0, 1) := by decide +kernel
theorem dX8_bothGain_28 : decode cX8_bothGain 28 = .ok (.getfield 51, 3) := by decide +kernel
theorem dX8_bothGain_31 : decode cX8_bothGain 31 = .ok (.aload_n 0, 1) := by decide +kernel
theorem dX8_bothGain_32 : decode cX8_bothGain 32 = .ok (.getfield 19, 3) := by decide +kernel
theorem dX8_bothGain_35 : decode cX8_bothGain 35 = .ok (.aload_n 0, 1) := by decide +kernel
theorem dX8_bothGain_36 : decode cX8_bothGain 36 = .ok (.getfield 40, 3) := by decide +kernel
theorem dX8_bothGain_39 : decode cX8_bothGain 39 = .ok (.invokevirtual 266, 3) := by decide +kernel
theorem dX8_bothGain_42 : decode cX8_bothGain 42 = .ok (.aload_n 0, 1) := by decide +kernel
theorem dX8_bothGain_43 : decode cX8_bothGain 43 = .ok (.iload_n 1, 1) := by decide +kernel
theorem dX8_bothGain_44 : decode cX8_bothGain 44 = .ok (.invokevirtual 280, 3) := by decide +kernel
theorem dX8_bothGain_47 : decode cX8_bothGain 47 = .ok (.ifCond .eq 15, 3) := by decide +kernel
theorem dX8_bothGain_50 : decode cX8_bothGain 50 = .ok (.aload_n 0, 1) := by decide +kernel
theorem dX8_bothGain_51 : decode cX8_bothGain 51 = .ok (.iload_n 2, 1) := by decide +kernel
theorem dX8_bothGain_52 : decode cX8_bothGain 52 = .ok (.invokevirtual 280, 3) := by decide +kernel
theorem dX8_bothGain_55 : decode cX8_bothGain 55 = .ok (.ifCond .eq 7, 3) := by decide +kernel
theorem dX8_bothGain_58 : decode cX8_bothGain 58 = .ok (.iconst 1, 1) := by decide +kernel
theorem dX8_bothGain_59 : decode cX8_bothGain 59 = .ok (.goto 4, 3) := by decide +kernel
theorem dX8_bothGain_62 : decode cX8_bothGain 62 = .ok (.iconst 0, 1) := by decide +kernel
theorem dX8_bothGain_63 : decode cX8_bothGain 63 = .ok (.ireturn, 1) := by decide +kernel
theorem dX8_gainsSun_0 : decode cX8_gainsSun 0 = .ok (.aload_n 0, 1) := by decide +kernel
theorem dX8_gainsSun_1 : decode cX8_gainsSun 1 = .ok (.getfield 51, 3) := by decide +kernel
theorem dX8_gainsSun_4 : decode cX8_gainsSun 4 = .ok (.aload_n 0, 1) := by decide +kernel
theorem dX8_gainsSun_5 : decode cX8_gainsSun 5 = .ok (.getfield 19, 3) := by decide +kernel
theorem dX8_gainsSun_8 : decode cX8_gainsSun 8 = .ok (.iload_n 1, 1) := by decide +kernel
theorem dX8_gainsSun_9 : decode cX8_gainsSun 9 = .ok (.aload_n 0, 1) := by decide +kernel
theorem dX8_gainsSun_10 : decode cX8_gainsSun 10 = .ok (.getfield 19, 3) := by decide +kernel
theorem dX8_gainsSun_13 : decode cX8_gainsSun 13 = .ok (.getfield 145, 3) := by decide +kernel
theorem dX8_gainsSun_16 : decode cX8_gainsSun 16 = .ok (.invokevirtual 185, 3) := by decide +kernel
theorem dX8_gainsSun_19 : decode cX8_gainsSun 19 = .ok (.aload_n 0, 1) := by decide +kernel
theorem dX8_gainsSun_20 : decode cX8_gainsSun 20 = .ok (.getfield 47, 3) := by decide +kernel
theorem dX8_gainsSun_23 : decode cX8_gainsSun 23 = .ok (.aload_n 0, 1) := by decide +kernel
theorem dX8_gainsSun_24 : decode cX8_gainsSun 24 = .ok (.getfield 19, 3) := by decide +kernel
theorem dX8_gainsSun_27 : decode cX8_gainsSun 27 = .ok (.iload_n 1, 1) := by decide +kernel
theorem dX8_gainsSun_28 : decode cX8_gainsSun 28 = .ok (.aload_n 0, 1) := by decide +kernel
theorem dX8_gainsSun_29 : decode cX8_gainsSun 29 = .ok (.getfield 19, 3) := by decide +kernel
theorem dX8_gainsSun_32 : decode cX8_gainsSun 32 = .ok (.getfield 145, 3) := by decide +kernel
theorem dX8_gainsSun_35 : decode cX8_gainsSun 35 = .ok (.invokevirtual 185, 3) := by decide +kernel
theorem dX8_gainsSun_38 : decode cX8_gainsSun 38 = .ok (.if_icmp .le 7, 3) := by decide +kernel
theorem dX8_gainsSun_41 : decode cX8_gainsSun 41 = .ok (.iconst 1, 1) := by decide +kernel
theorem dX8_gainsSun_42 : decode cX8_gainsSun 42 = .ok (.goto 4, 3) := by decide +kernel
theorem dX8_gainsSun_45 : decode cX8_gainsSun 45 = .ok (.iconst 0, 1) := by decide +kernel
theorem dX8_gainsSun_46 : decode cX8_gainsSun 46 = .ok (.ireturn, 1) := by decide +kernel
theorem dX8_leans_0 : decode cX8_leans 0 = .ok (.aload_n 0, 1) := by decide +kernel
theorem dX8_leans_1 : decode cX8_leans 1 = .ok (.iload_n 1, 1) := by decide +kernel
theorem dX8_leans_2 : decode cX8_leans 2 = .ok (.invokevirtual 283, 3) := by decide +kernel
theorem dX8_leans_5 : decode cX8_leans 5 = .ok (.istore_n 2, 1) := by decide +kernel
theorem dX8_leans_6 : decode cX8_leans 6 = .ok (.iload_n 2, 1) := by decide +kernel
theorem dX8_leans_7 : decode cX8_leans 7 = .ok (.ifCond .eq 5, 3) := by decide +kernel
theorem dX8_leans_10 : decode cX8_leans 10 = .ok (.iload_n 2, 1) := by decide +kernel
theorem dX8_leans_11 : decode cX8_leans 11 = .ok (.ireturn, 1) := by decide +kernel
theorem dX8_leans_12 : decode cX8_leans 12 = .ok (.aload_n 0, 1) := by decide +kernel
theorem dX8_leans_13 : decode cX8_leans 13 = .ok (.aload_n 0, 1) := by decide +kernel
theorem dX8_leans_14 : decode cX8_leans 14 = .ok (.getfield 33, 3) := by decide +kernel
theorem dX8_leans_17 : decode cX8_leans 17 = .ok (.iload_n 1, 1) := by decide +kernel
theorem dX8_leans_18 : decode cX8_leans 18 = .ok (.aaload, 1) := by decide +kernel
theorem dX8_leans_19 : decode cX8_leans 19 = .ok (.invokevirtual 286, 3) := by decide +kernel
theorem dX8_leans_22 : decode cX8_leans 22 = .ok (.aload_n 0, 1) := by decide +kernel
theorem dX8_leans_23 : decode cX8_leans 23 = .ok (.getfield 57, 3) := by decide +kernel
theorem dX8_leans_26 : decode cX8_leans 26 = .ok (.getfield 290, 3) := by decide +kernel
theorem dX8_leans_29 : decode cX8_leans 29 = .ok (.ireturn, 1) := by decide +kernel
theorem dX8_surely_0 : decode cX8_surely 0 = .ok (.aload_n 0, 1) := by decide +kernel
theorem dX8_surely_1 : decode cX8_surely 1 = .ok (.iload_n 1, 1) := by decide +kernel
theorem dX8_surely_2 : decode cX8_surely 2 = .ok (.invokevirtual 283, 3) := by decide +kernel
theorem dX8_surely_5 : decode cX8_surely 5 = .ok (.istore_n 2, 1) := by decide +kernel
theorem dX8_surely_6 : decode cX8_surely 6 = .ok (.iload_n 2, 1) := by decide +kernel
theorem dX8_surely_7 : decode cX8_surely 7 = .ok (.ifCond .eq 5, 3) := by decide +kernel
theorem dX8_surely_10 : decode cX8_surely 10 = .ok (.iload_n 2, 1) := by decide +kernel
theorem dX8_surely_11 : decode cX8_surely 11 = .ok (.ireturn, 1) := by decide +kernel
theorem dX8_surely_12 : decode cX8_surely 12 = .ok (.aload_n 0, 1) := by decide +kernel
theorem dX8_surely_13 : decode cX8_surely 13 = .ok (.aload_n 0, 1) := by decide +kernel
theorem dX8_surely_14 : decode cX8_surely 14 = .ok (.getfield 33, 3) := by decide +kernel
theorem dX8_surely_17 : decode cX8_surely 17 = .ok (.iload_n 1, 1) := by decide +kernel
theorem dX8_surely_18 : decode cX8_surely 18 = .ok (.aaload, 1) := by decide +kernel
theorem dX8_surely_19 : decode cX8_surely 19 = .ok (.invokevirtual 286, 3) := by decide +kernel
theorem dX8_surely_22 : decode cX8_surely 22 = .ok (.aload_n 0, 1) := by decide +kernel
theorem dX8_surely_23 : decode cX8_surely 23 = .ok (.getfield 57, 3) := by decide +kernel
theorem dX8_surely_26 : decode cX8_surely 26 = .ok (.getfield 290, 3) := by decide +kernel
theorem dX8_surely_29 : decode cX8_surely 29 = .ok (.ifCond .ne 7, 3) := by decide +kernel
theorem dX8_surely_32 : decode cX8_surely 32 = .ok (.iconst (-1), 1) := by decide +kernel
theorem dX8_surely_33 : decode cX8_surely 33 = .ok (.goto 10, 3) := by decide +kernel
theorem dX8_surely_36 : decode cX8_surely 36 = .ok (.aload_n 0, 1) := by decide +kernel
theorem dX8_surely_37 : decode cX8_surely 37 = .ok (.getfield 57, 3) := by decide +kernel
theorem dX8_surely_40 : decode cX8_surely 40 = .ok (.getfield 293, 3) := by decide +kernel
theorem dX8_surely_43 : decode cX8_surely 43 = .ok (.ireturn, 1) := by decide +kernel
theorem dX8_never_0 : decode cX8_never 0 = .ok (.aload_n 0, 1) := by decide +kernel
theorem dX8_never_1 : decode cX8_never 1 = .ok (.iload_n 1, 1) := by decide +kernel
theorem dX8_never_2 : decode cX8_never 2 = .ok (.invokevirtual 283, 3) := by decide +kernel
theorem dX8_never_5 : decode cX8_never 5 = .ok (.istore_n 2, 1) := by decide +kernel
theorem dX8_never_6 : decode cX8_never 6 = .ok (.iload_n 2, 1) := by decide +kernel
theorem dX8_never_7 : decode cX8_never 7 = .ok (.ifCond .eq 5, 3) := by decide +kernel
theorem dX8_never_10 : decode cX8_never 10 = .ok (.iload_n 2, 1) := by decide +kernel
theorem dX8_never_11 : decode cX8_never 11 = .ok (.ireturn, 1) := by decide +kernel
theorem dX8_never_12 : decode cX8_never 12 = .ok (.aload_n 0, 1) := by decide +kernel
theorem dX8_never_13 : decode cX8_never 13 = .ok (.aload_n 0, 1) := by decide +kernel
theorem dX8_never_14 : decode cX8_never 14 = .ok (.getfield 33, 3) := by decide +kernel
theorem dX8_never_17 : decode cX8_never 17 = .ok (.iload_n 1, 1) := by decide +kernel
theorem dX8_never_18 : decode cX8_never 18 = .ok (.aaload, 1) := by decide +kernel
theorem dX8_never_19 : decode cX8_never 19 = .ok (.invokevirtual 286, 3) := by decide +kernel
theorem dX8_never_22 : decode cX8_never 22 = .ok (.aload_n 0, 1) := by decide +kernel
theorem dX8_never_23 : decode cX8_never 23 = .ok (.getfield 57, 3) := by decide +kernel
theorem dX8_never_26 : decode cX8_never 26 = .ok (.getfield 290, 3) := by decide +kernel
theorem dX8_never_29 : decode cX8_never 29 = .ok (.ifCond .ne 7, 3) := by decide +kernel
theorem dX8_never_32 : decode cX8_never 32 = .ok (.iconst (-1), 1) := by decide +kernel
theorem dX8_never_33 : decode cX8_never 33 = .ok (.goto 23, 3) := by decide +kernel
theorem dX8_never_36 : decode cX8_never 36 = .ok (.aload_n 0, 1) := by decide +kernel
theorem dX8_never_37 : decode cX8_never 37 = .ok (.getfield 19, 3) := by decide +kernel
theorem dX8_never_40 : decode cX8_never 40 = .ok (.getfield 158, 3) := by decide +kernel
theorem dX8_never_43 : decode cX8_never 43 = .ok (.invokestatic 148, 3) := by decide +kernel
theorem dX8_never_46 : decode cX8_never 46 = .ok (.aload_n 0, 1) := by decide +kernel
theorem dX8_never_47 : decode cX8_never 47 = .ok (.getfield 57, 3) := by decide +kernel
theorem dX8_never_50 : decode cX8_never 50 = .ok (.getfield 296, 3) := by decide +kernel
theorem dX8_never_53 : decode cX8_never 53 = .ok (.iconst (-1), 1) := by decide +kernel
theorem dX8_never_54 : decode cX8_never 54 = .ok (.ixor, 1) := by decide +kernel
theorem dX8_never_55 : decode cX8_never 55 = .ok (.iand, 1) := by decide +kernel
theorem dX8_never_56 : decode cX8_never 56 = .ok (.ireturn, 1) := by decide +kernel
theorem dX8_ask_0 : decode cX8_ask 0 = .ok (.aload_n 0, 1) := by decide +kernel
theorem dX8_ask_1 : decode cX8_ask 1 = .ok (.iload_n 1, 1) := by decide +kernel
theorem dX8_ask_2 : decode cX8_ask 2 = .ok (.invokevirtual 283, 3) := by decide +kernel
theorem dX8_ask_5 : decode cX8_ask 5 = .ok (.istore_n 2, 1) := by decide +kernel
theorem dX8_ask_6 : decode cX8_ask 6 = .ok (.iload_n 2, 1) := by decide +kernel
theorem dX8_ask_7 : decode cX8_ask 7 = .ok (.ifCond .eq 5, 3) := by decide +kernel
theorem dX8_ask_10 : decode cX8_ask 10 = .ok (.iload_n 2, 1) := by decide +kernel
theorem dX8_ask_11 : decode cX8_ask 11 = .ok (.ireturn, 1) := by decide +kernel
theorem dX8_ask_12 : decode cX8_ask 12 = .ok (.aload_n 0, 1) := by decide +kernel
theorem dX8_ask_13 : decode cX8_ask 13 = .ok (.aload_n 0, 1) := by decide +kernel
theorem dX8_ask_14 : decode cX8_ask 14 = .ok (.getfield 33, 3) := by decide +kernel
theorem dX8_ask_17 : decode cX8_ask 17 = .ok (.iload_n 1, 1) := by decide +kernel
theorem dX8_ask_18 : decode cX8_ask 18 = .ok (.aaload, 1) := by decide +kernel
theorem dX8_ask_19 : decode cX8_ask 19 = .ok (.invokevirtual 286, 3) := by decide +kernel
theorem dX8_ask_22 : decode cX8_ask 22 = .ok (.aload_n 0, 1) := by decide +kernel
theorem dX8_ask_23 : decode cX8_ask 23 = .ok (.invokevirtual 299, 3) := by decide +kernel
theorem dX8_ask_26 : decode cX8_ask 26 = .ok (.ireturn, 1) := by decide +kernel
theorem dX8_leaves_0 : decode cX8_leaves 0 = .ok (.aload_n 0, 1) := by decide +kernel
theorem dX8_leaves_1 : decode cX8_leaves 1 = .ok (.iload_n 1, 1) := by decide +kernel
theorem dX8_leaves_2 : decode cX8_leaves 2 = .ok (.invokevirtual 283, 3) := by decide +kernel
theorem dX8_leaves_5 : decode cX8_leaves 5 = .ok (.istore_n 2, 1) := by decide +kernel
theorem dX8_leaves_6 : decode cX8_leaves 6 = .ok (.iload_n 2, 1) := by decide +kernel
theorem dX8_leaves_7 : decode cX8_leaves 7 = .ok (.ifCond .eq 5, 3) := by decide +kernel
theorem dX8_leaves_10 : decode cX8_leaves 10 = .ok (.iload_n 2, 1) := by decide +kernel
theorem dX8_leaves_11 : decode cX8_leaves 11 = .ok (.ireturn, 1) := by decide +kernel
theorem dX8_leaves_12 : decode cX8_leaves 12 = .ok (.aload_n 0, 1) := by decide +kernel
theorem dX8_leaves_13 : decode cX8_leaves 13 = .ok (.aload_n 0, 1) := by decide +kernel
theorem dX8_leaves_14 : decode cX8_leaves 14 = .ok (.getfield 33, 3) := by decide +kernel
theorem dX8_leaves_17 : decode cX8_leaves 17 = .ok (.iload_n 1, 1) := by decide +kernel
theorem dX8_leaves_18 : decode cX8_leaves 18 = .ok (.aaload, 1) := by decide +kernel
theorem dX8_leaves_19 : decode cX8_leaves 19 = .ok (.invokevirtual 286, 3) := by decide +kernel
theorem dX8_leaves_22 : decode cX8_leaves 22 = .ok (.aload_n 0, 1) := by decide +kernel
theorem dX8_leaves_23 : decode cX8_leaves 23 = .ok (.invokevirtual 299, 3) := by decide +kernel
theorem dX8_leaves_26 : decode cX8_leaves 26 = .ok (.istore_n 3, 1) := by decide +kernel
theorem dX8_leaves_27 : decode cX8_leaves 27 = .ok (.iload_n 3, 1) := by decide +kernel
theorem dX8_leaves_28 : decode cX8_leaves 28 = .ok (.iconst (-1), 1) := by decide +kernel
theorem dX8_leaves_29 : decode cX8_leaves 29 = .ok (.if_icmp .ne 13, 3) := by decide +kernel
theorem dX8_leaves_32 : decode cX8_leaves 32 = .ok (.aload_n 0, 1) := by decide +kernel
theorem dX8_leaves_33 : decode cX8_leaves 33 = .ok (.getfield 57, 3) := by decide +kernel
theorem dX8_leaves_36 : decode cX8_leaves 36 = .ok (.getfield 290, 3) := by decide +kernel
theorem dX8_leaves_39 : decode cX8_leaves 39 = .ok (.goto 15, 3) := by decide +kernel
theorem dX8_leaves_42 : decode cX8_leaves 42 = .ok (.aload_n 0, 1) := by decide +kernel
theorem dX8_leaves_43 : decode cX8_leaves 43 = .ok (.getfield 57, 3) := by decide +kernel
theorem dX8_leaves_46 : decode cX8_leaves 46 = .ok (.iload_n 3, 1) := by decide +kernel
theorem dX8_leaves_47 : decode cX8_leaves 47 = .ok (.aload_n 0, 1) := by decide +kernel
theorem dX8_leaves_48 : decode cX8_leaves 48 = .ok (.getfield 64, 3) := by decide +kernel
theorem dX8_leaves_51 : decode cX8_leaves 51 = .ok (.invokevirtual 302, 3) := by decide +kernel
theorem dX8_leaves_54 : decode cX8_leaves 54 = .ok (.ireturn, 1) := by decide +kernel
theorem dX8_refuseTurns_0 : decode cX8_refuseTurns 0 = .ok (.aload_n 0, 1) := by decide +kernel
theorem dX8_refuseTurns_1 : decode cX8_refuseTurns 1 = .ok (.iload_n 1, 1) := by decide +kernel
theorem dX8_refuseTurns_2 : decode cX8_refuseTurns 2 = .ok (.aload_n 0, 1) := by decide +kernel
theorem dX8_refuseTurns_3 : decode cX8_refuseTurns 3 = .ok (.getfield 19, 3) := by decide +kernel
theorem dX8_refuseTurns_6 : decode cX8_refuseTurns 6 = .ok (.getfield 145, 3) := by decide +kernel
theorem dX8_refuseTurns_9 : decode cX8_refuseTurns 9 = .ok (.iconst 1, 1) := by decide +kernel
theorem dX8_refuseTurns_10 : decode cX8_refuseTurns 10 = .ok (.isub, 1) := by decide +kernel
theorem dX8_refuseTurns_11 : decode cX8_refuseTurns 11 = .ok (.sipush (-400), 3) := by decide +kernel
theorem dX8_refuseTurns_14 : decode cX8_refuseTurns 14 = .ok (.sipush 400, 3) := by decide +kernel
theorem dX8_refuseTurns_17 : decode cX8_refuseTurns 17 = .ok (.invokevirtual 306, 3) := by decide +kernel
theorem dX8_refuseTurns_20 : decode cX8_refuseTurns 20 = .ok (.ireturn, 1) := by decide +kernel
theorem dX8_refusePairs_0 : decode cX8_refusePairs 0 = .ok (.iload_n 1, 1) := by decide +kernel
theorem dX8_refusePairs_1 : decode cX8_refusePairs 1 = .ok (.invokestatic 310, 3) := by decide +kernel
theorem dX8_refusePairs_4 : decode cX8_refusePairs 4 = .ok (.ifCond .eq 10, 3) := by decide +kernel
theorem dX8_refusePairs_7 : decode cX8_refusePairs 7 = .ok (.aload_n 0, 1) := by decide +kernel
theorem dX8_refusePairs_8 : decode cX8_refusePairs 8 = .ok (.invokevirtual 138, 3) := by decide +kernel
theorem dX8_refusePairs_11 : decode cX8_refusePairs 11 = .ok (.ifCond .ne 6, 3) := by decide +kernel
theorem dX8_refusePairs_14 : decode cX8_refusePairs 14 = .ok (.bipush (-2), 2) := by decide +kernel
theorem dX8_refusePairs_16 : decode cX8_refusePairs 16 = .ok (.ireturn, 1) := by decide +kernel
theorem dX8_refusePairs_17 : decode cX8_refusePairs 17 = .ok (.aload_n 0, 1) := by decide +kernel
theorem dX8_refusePairs_18 : decode cX8_refusePairs 18 = .ok (.getfield 33, 3) := by decide +kernel
theorem dX8_refusePairs_21 : decode cX8_refusePairs 21 = .ok (.iload_n 1, 1) := by decide +kernel
theorem dX8_refusePairs_22 : decode cX8_refusePairs 22 = .ok (.aaload, 1) := by decide +kernel
theorem dX8_refusePairs_23 : decode cX8_refusePairs 23 = .ok (.invokevirtual 313, 3) := by decide +kernel
theorem dX8_refusePairs_26 : decode cX8_refusePairs 26 = .ok (.ifCond .ne 6, 3) := by decide +kernel
theorem dX8_refusePairs_29 : decode cX8_refusePairs 29 = .ok (.bipush (-6), 2) := by decide +kernel
theorem dX8_refusePairs_31 : decode cX8_refusePairs 31 = .ok (.ireturn, 1) := by decide +kernel
theorem dX8_refusePairs_32 : decode cX8_refusePairs 32 = .ok (.aload_n 0, 1) := by decide +kernel
theorem dX8_refusePairs_33 : decode cX8_refusePairs 33 = .ok (.getfield 33, 3) := by decide +kernel
theorem dX8_refusePairs_36 : decode cX8_refusePairs 36 = .ok (.iload_n 1, 1) := by decide +kernel
theorem dX8_refusePairs_37 : decode cX8_refusePairs 37 = .ok (.aaload, 1) := by decide +kernel
theorem dX8_refusePairs_38 : decode cX8_refusePairs 38 = .ok (.iload_n 2, 1) := by decide +kernel
theorem dX8_refusePairs_39 : decode cX8_refusePairs 39 = .ok (.iload_n 3, 1) := by decide +kernel
theorem dX8_refusePairs_40 : decode cX8_refusePairs 40 = .ok (.iload 4, 2) := by decide +kernel
theorem dX8_refusePairs_42 : decode cX8_refusePairs 42 = .ok (.invokevirtual 316, 3) := by decide +kernel
theorem dX8_refusePairs_45 : decode cX8_refusePairs 45 = .ok (.ifCond .eq 7, 3) := by decide +kernel
theorem dX8_refusePairs_48 : decode cX8_refusePairs 48 = .ok (.iconst 0, 1) := by decide +kernel
theorem dX8_refusePairs_49 : decode cX8_refusePairs 49 = .ok (.goto 5, 3) := by decide +kernel
theorem dX8_refusePairs_52 : decode cX8_refusePairs 52 = .ok (.bipush (-2), 2) := by decide +kernel
theorem dX8_refusePairs_54 : decode cX8_refusePairs 54 = .ok (.ireturn, 1) := by decide +kernel
theorem dX8_seek_0 : decode cX8_seek 0 = .ok (.aload_n 0, 1) := by decide +kernel
theorem dX8_seek_1 : decode cX8_seek 1 = .ok (.getfield 57, 3) := by decide +kernel
theorem dX8_seek_4 : decode cX8_seek 4 = .ok (.aload_n 0, 1) := by decide +kernel
theorem dX8_seek_5 : decode cX8_seek 5 = .ok (.getfield 19, 3) := by decide +kernel
theorem dX8_seek_8 : decode cX8_seek 8 = .ok (.getfield 158, 3) := by decide +kernel
theorem dX8_seek_11 : decode cX8_seek 11 = .ok (.invokestatic 148, 3) := by decide +kernel
theorem dX8_seek_14 : decode cX8_seek 14 = .ok (.invokevirtual 320, 3) := by decide +kernel
theorem dX8_seek_17 : decode cX8_seek 17 = .ok (.iconst 0, 1) := by decide +kernel
theorem dX8_seek_18 : decode cX8_seek 18 = .ok (.istore_n 2, 1) := by decide +kernel
theorem dX8_seek_19 : decode cX8_seek 19 = .ok (.iload_n 2, 1) := by decide +kernel
theorem dX8_seek_20 : decode cX8_seek 20 = .ok (.aload_n 0, 1) := by decide +kernel
theorem dX8_seek_21 : decode cX8_seek 21 = .ok (.getfield 19, 3) := by decide +kernel
theorem dX8_seek_24 : decode cX8_seek 24 = .ok (.getfield 158, 3) := by decide +kernel
theorem dX8_seek_27 : decode cX8_seek 27 = .ok (.invokestatic 148, 3) := by decide +kernel
theorem dX8_seek_30 : decode cX8_seek 30 = .ok (.if_icmp .gt 73, 3) := by decide +kernel
theorem dX8_seek_33 : decode cX8_seek 33 = .ok (.aload_n 0, 1) := by decide +kernel
theorem dX8_seek_34 : decode cX8_seek 34 = .ok (.getfield 40, 3) := by decide +kernel
theorem dX8_seek_37 : decode cX8_seek 37 = .ok (.aload_n 0, 1) := by decide +kernel
theorem dX8_seek_38 : decode cX8_seek 38 = .ok (.getfield 19, 3) := by decide +kernel
theorem dX8_seek_41 : decode cX8_seek 41 = .ok (.invokevirtual 261, 3) := by decide +kernel
theorem dX8_seek_44 : decode cX8_seek 44 = .ok (.aload_n 0, 1) := by decide +kernel
theorem dX8_seek_45 : decode cX8_seek 45 = .ok (.getfield 40, 3) := by decide +kernel
theorem dX8_seek_48 : decode cX8_seek 48 = .ok (.iload_n 2, 1) := by decide +kernel
theorem dX8_seek_49 : decode cX8_seek 49 = .ok (.putfield 323, 3) := by decide +kernel
theorem dX8_seek_52 : decode cX8_seek 52 = .ok (.aload_n 0, 1) := by decide +kernel
theorem dX8_seek_53 : decode cX8_seek 53 = .ok (.getfield 51, 3) := by decide +kernel
theorem dX8_seek_56 : decode cX8_seek 56 = .ok (.aload_n 0, 1) := by decide +kernel
theorem dX8_seek_57 : decode cX8_seek 57 = .ok (.getfield 19, 3) := by decide +kernel
theorem dX8_seek_60 : decode cX8_seek 60 = .ok (.aload_n 0, 1) := by decide +kernel
theorem dX8_seek_61 : decode cX8_seek 61 = .ok (.getfield 40, 3) := by decide +kernel
theorem dX8_seek_64 : decode cX8_seek 64 = .ok (.invokevirtual 266, 3) := by decide +kernel
theorem dX8_seek_67 : decode cX8_seek 67 = .ok (.aload_n 1, 1) := by decide +kernel
theorem dX8_seek_68 : decode cX8_seek 68 = .ok (.aload_n 0, 1) := by decide +kernel
theorem dX8_seek_69 : decode cX8_seek 69 = .ok (.getfield 51, 3) := by decide +kernel
theorem dX8_seek_72 : decode cX8_seek 72 = .ok (.invokevirtual 324, 3) := by decide +kernel
theorem dX8_seek_75 : decode cX8_seek 75 = .ok (.ifCond .eq 22, 3) := by decide +kernel
theorem dX8_seek_78 : decode cX8_seek 78 = .ok (.aload_n 0, 1) := by decide +kernel
theorem dX8_seek_79 : decode cX8_seek 79 = .ok (.getfield 57, 3) := by decide +kernel
theorem dX8_seek_82 : decode cX8_seek 82 = .ok (.iload_n 2, 1) := by decide +kernel
theorem dX8_seek_83 : decode cX8_seek 83 = .ok (.aload_n 0, 1) := by decide +kernel
theorem dX8_seek_84 : decode cX8_seek 84 = .ok (.getfield 51, 3) := by decide +kernel
theorem dX8_seek_87 : decode cX8_seek 87 = .ok (.aload_n 0, 1) := by decide +kernel
theorem dX8_seek_88 : decode cX8_seek 88 = .ok (.getfield 19, 3) := by decide +kernel
theorem dX8_seek_91 : decode cX8_seek 91 = .ok (.getfield 145, 3) := by decide +kernel
theorem dX8_seek_94 : decode cX8_seek 94 = .ok (.invokevirtual 328, 3) := by decide +kernel
theorem dX8_seek_97 : decode cX8_seek 97 = .ok (.iinc 2 1, 3) := by decide +kernel
theorem dX8_seek_100 : decode cX8_seek 100 = .ok (.goto (-81), 3) := by decide +kernel
theorem dX8_seek_103 : decode cX8_seek 103 = .ok (.return_, 1) := by decide +kernel
theorem dX8_weekToAsk_0 : decode cX8_weekToAsk 0 = .ok (.iconst (-1), 1) := by decide +kernel
theorem dX8_weekToAsk_1 : decode cX8_weekToAsk 1 = .ok (.istore_n 1, 1) := by decide +kernel
theorem dX8_weekToAsk_2 : decode cX8_weekToAsk 2 = .ok (.aload_n 0, 1) := by decide +kernel
theorem dX8_weekToAsk_3 : decode cX8_weekToAsk 3 = .ok (.getfield 57, 3) := by decide +kernel
theorem dX8_weekToAsk_6 : decode cX8_weekToAsk 6 = .ok (.getfield 290, 3) := by decide +kernel
theorem dX8_weekToAsk_9 : decode cX8_weekToAsk 9 = .ok (.istore_n 2, 1) := by decide +kernel
theorem dX8_weekToAsk_10 : decode cX8_weekToAsk 10 = .ok (.iconst 0, 1) := by decide +kernel
theorem dX8_weekToAsk_11 : decode cX8_weekToAsk 11 = .ok (.istore_n 3, 1) := by decide +kernel
theorem dX8_weekToAsk_12 : decode cX8_weekToAsk 12 = .ok (.iload_n 3, 1) := by decide +kernel
theorem dX8_weekToAsk_13 : decode cX8_weekToAsk 13 = .ok (.aload_n 0, 1) := by decide +kernel
theorem dX8_weekToAsk_14 : decode cX8_weekToAsk 14 = .ok (.getfield 19, 3) := by decide +kernel
theorem dX8_weekToAsk_17 : decode cX8_weekToAsk 17 = .ok (.getfield 145, 3) := by decide +kernel
theorem dX8_weekToAsk_20 : decode cX8_weekToAsk 20 = .ok (.if_icmp .ge 34, 3) := by decide +kernel
theorem dX8_weekToAsk_23 : decode cX8_weekToAsk 23 = .ok (.aload_n 0, 1) := by decide +kernel
theorem dX8_weekToAsk_24 : decode cX8_weekToAsk 24 = .ok (.getfield 57, 3) := by decide +kernel
theorem dX8_weekToAsk_27 : decode cX8_weekToAsk 27 = .ok (.iload_n 3, 1) := by decide +kernel
theorem dX8_weekToAsk_28 : decode cX8_weekToAsk 28 = .ok (.aload_n 0, 1) := by decide +kernel
theorem dX8_weekToAsk_29 : decode cX8_weekToAsk 29 = .ok (.getfield 64, 3) := by decide +kernel
theorem dX8_weekToAsk_32 : decode cX8_weekToAsk 32 = .ok (.invokevirtual 302, 3) := by decide +kernel
theorem dX8_weekToAsk_35 : decode cX8_weekToAsk 35 = .ok (.istore 4, 2) := by decide +kernel
theorem dX8_weekToAsk_37 : decode cX8_weekToAsk 37 = .ok (.iload 4, 2) := by decide +kernel
theorem dX8_weekToAsk_39 : decode cX8_weekToAsk 39 = .ok (.iload_n 2, 1) := by decide +kernel
theorem dX8_weekToAsk_40 : decode cX8_weekToAsk 40 = .ok (.if_icmp .ge 8, 3) := by decide +kernel
theorem dX8_weekToAsk_43 : decode cX8_weekToAsk 43 = .ok (.iload 4, 2) := by decide +kernel
theorem dX8_weekToAsk_45 : decode cX8_weekToAsk 45 = .ok (.istore_n 2, 1) := by decide +kernel
theorem dX8_weekToAsk_46 : decode cX8_weekToAsk 46 = .ok (.iload_n 3, 1) := by decide +kernel
theorem dX8_weekToAsk_47 : decode cX8_weekToAsk 47 = .ok (.istore_n 1, 1) := by decide +kernel
theorem dX8_weekToAsk_48 : decode cX8_weekToAsk 48 = .ok (.iinc 3 1, 3) := by decide +kernel
theorem dX8_weekToAsk_51 : decode cX8_weekToAsk 51 = .ok (.goto (-39), 3) := by decide +kernel
theorem dX8_weekToAsk_54 : decode cX8_weekToAsk 54 = .ok (.iload_n 1, 1) := by decide +kernel
theorem dX8_weekToAsk_55 : decode cX8_weekToAsk 55 = .ok (.ireturn, 1) := by decide +kernel
theorem dX8_gate_0 : decode cX8_gate 0 = .ok (.aload_n 0, 1) := by decide +kernel
theorem dX8_gate_1 : decode cX8_gate 1 = .ok (.iload_n 1, 1) := by decide +kernel
theorem dX8_gate_2 : decode cX8_gate 2 = .ok (.aload_n 0, 1) := by decide +kernel
theorem dX8_gate_3 : decode cX8_gate 3 = .ok (.getfield 19, 3) := by decide +kernel
theorem dX8_gate_6 : decode cX8_gate 6 = .ok (.getfield 145, 3) := by decide +kernel
theorem dX8_gate_9 : decode cX8_gate 9 = .ok (.iconst 0, 1) := by decide +kernel
theorem dX8_gate_10 : decode cX8_gate 10 = .ok (.aload_n 0, 1) := by decide +kernel
theorem dX8_gate_11 : decode cX8_gate 11 = .ok (.getfield 19, 3) := by decide +kernel
theorem dX8_gate_14 : decode cX8_gate 14 = .ok (.getfield 158, 3) := by decide +kernel
theorem dX8_gate_17 : decode cX8_gate 17 = .ok (.iconst 1, 1) := by decide +kernel
theorem dX8_gate_18 : decode cX8_gate 18 = .ok (.isub, 1) := by decide +kernel
theorem dX8_gate_19 : decode cX8_gate 19 = .ok (.invokevirtual 306, 3) := by decide +kernel
theorem dX8_gate_22 : decode cX8_gate 22 = .ok (.istore_n 2, 1) := by decide +kernel
theorem dX8_gate_23 : decode cX8_gate 23 = .ok (.iload_n 2, 1) := by decide +kernel
theorem dX8_gate_24 : decode cX8_gate 24 = .ok (.ifCond .eq 7, 3) := by decide +kernel
theorem dX8_gate_27 : decode cX8_gate 27 = .ok (.iload_n 2, 1) := by decide +kernel
theorem dX8_gate_28 : decode cX8_gate 28 = .ok (.goto 17, 3) := by decide +kernel
theorem dX8_gate_31 : decode cX8_gate 31 = .ok (.aload_n 0, 1) := by decide +kernel
theorem dX8_gate_32 : decode cX8_gate 32 = .ok (.aload_n 0, 1) := by decide +kernel
theorem dX8_gate_33 : decode cX8_gate 33 = .ok (.getfield 33, 3) := by decide +kernel
theorem dX8_gate_36 : decode cX8_gate 36 = .ok (.iload_n 1, 1) := by decide +kernel
theorem dX8_gate_37 : decode cX8_gate 37 = .ok (.aaload, 1) := by decide +kernel
theorem dX8_gate_38 : decode cX8_gate 38 = .ok (.aload_n 0, 1) := by decide +kernel
theorem dX8_gate_39 : decode cX8_gate 39 = .ok (.getfield 47, 3) := by decide +kernel
theorem dX8_gate_42 : decode cX8_gate 42 = .ok (.invokevirtual 331, 3) := by decide +kernel
theorem dX8_gate_45 : decode cX8_gate 45 = .ok (.ireturn, 1) := by decide +kernel
theorem dX8_laws_0 : decode cX8_laws 0 = .ok (.aload_n 0, 1) := by decide +kernel
theorem dX8_laws_1 : decode cX8_laws 1 = .ok (.iload_n 1, 1) := by decide +kernel
theorem dX8_laws_2 : decode cX8_laws 2 = .ok (.aload_n 0, 1) := by decide +kernel
theorem dX8_laws_3 : decode cX8_laws 3 = .ok (.getfield 19, 3) := by decide +kernel
theorem dX8_laws_6 : decode cX8_laws 6 = .ok (.getfield 145, 3) := by decide +kernel
theorem dX8_laws_9 : decode cX8_laws 9 = .ok (.iconst 0, 1) := by decide +kernel
theorem dX8_laws_10 : decode cX8_laws 10 = .ok (.aload_n 0, 1) := by decide +kernel
theorem dX8_laws_11 : decode cX8_laws 11 = .ok (.getfield 19, 3) := by decide +kernel
theorem dX8_laws_14 : decode cX8_laws 14 = .ok (.getfield 158, 3) := by decide +kernel
theorem dX8_laws_17 : decode cX8_laws 17 = .ok (.iconst 1, 1) := by decide +kernel
theorem dX8_laws_18 : decode cX8_laws 18 = .ok (.isub, 1) := by decide +kernel
theorem dX8_laws_19 : decode cX8_laws 19 = .ok (.invokevirtual 306, 3) := by decide +kernel
theorem dX8_laws_22 : decode cX8_laws 22 = .ok (.istore_n 2, 1) := by decide +kernel
theorem dX8_laws_23 : decode cX8_laws 23 = .ok (.iload_n 2, 1) := by decide +kernel
theorem dX8_laws_24 : decode cX8_laws 24 = .ok (.ifCond .eq 5, 3) := by decide +kernel
theorem dX8_laws_27 : decode cX8_laws 27 = .ok (.iload_n 2, 1) := by decide +kernel
theorem dX8_laws_28 : decode cX8_laws 28 = .ok (.ireturn, 1) := by decide +kernel
theorem dX8_laws_29 : decode cX8_laws 29 = .ok (.iconst 0, 1) := by decide +kernel
theorem dX8_laws_30 : decode cX8_laws 30 = .ok (.istore_n 3, 1) := by decide +kernel
theorem dX8_laws_31 : decode cX8_laws 31 = .ok (.iconst 0, 1) := by decide +kernel
theorem dX8_laws_32 : decode cX8_laws 32 = .ok (.istore 4, 2) := by decide +kernel
theorem dX8_laws_34 : decode cX8_laws 34 = .ok (.iload 4, 2) := by decide +kernel
theorem dX8_laws_36 : decode cX8_laws 36 = .ok (.iconst 4, 1) := by decide +kernel
theorem dX8_laws_37 : decode cX8_laws 37 = .ok (.if_icmp .ge 39, 3) := by decide +kernel
theorem dX8_laws_40 : decode cX8_laws 40 = .ok (.aload_n 0, 1) := by decide +kernel
theorem dX8_laws_41 : decode cX8_laws 41 = .ok (.iload 4, 2) := by decide +kernel
theorem dX8_laws_43 : decode cX8_laws 43 = .ok (.invokevirtual 271, 3) := by decide +kernel
theorem dX8_laws_46 : decode cX8_laws 46 = .ok (.aload_n 0, 1) := by decide +kernel
theorem dX8_laws_47 : decode cX8_laws 47 = .ok (.aload_n 0, 1) := by decide +kernel
theorem dX8_laws_48 : decode cX8_laws 48 = .ok (.getfield 33, 3) := by decide +kernel
theorem dX8_laws_51 : decode cX8_laws 51 = .ok (.iload_n 1, 1) := by decide +kernel
theorem dX8_laws_52 : decode cX8_laws 52 = .ok (.aaload, 1) := by decide +kernel
theorem dX8_laws_53 : decode cX8_laws 53 = .ok (.aload_n 0, 1) := by decide +kernel
theorem dX8_laws_54 : decode cX8_laws 54 = .ok (.getfield 51, 3) := by decide +kernel
theorem dX8_laws_57 : decode cX8_laws 57 = .ok (.invokevirtual 331, 3) := by decide +kernel
theorem dX8_laws_60 : decode cX8_laws 60 = .ok (.ifCond .eq 10, 3) := by decide +kernel
theorem dX8_laws_63 : decode cX8_laws 63 = .ok (.iload_n 3, 1) := by decide +kernel
theorem dX8_laws_64 : decode cX8_laws 64 = .ok (.iconst 1, 1) := by decide +kernel
theorem dX8_laws_65 : decode cX8_laws 65 = .ok (.iload 4, 2) := by decide +kernel
theorem dX8_laws_67 : decode cX8_laws 67 = .ok (.ishl, 1) := by decide +kernel
theorem dX8_laws_68 : decode cX8_laws 68 = .ok (.ior, 1) := by decide +kernel
theorem dX8_laws_69 : decode cX8_laws 69 = .ok (.istore_n 3, 1) := by decide +kernel
theorem dX8_laws_70 : decode cX8_laws 70 = .ok (.iinc 4 1, 3) := by decide +kernel
theorem dX8_laws_73 : decode cX8_laws 73 = .ok (.goto (-39), 3) := by decide +kernel
theorem dX8_laws_76 : decode cX8_laws 76 = .ok (.iload_n 3, 1) := by decide +kernel
theorem dX8_laws_77 : decode cX8_laws 77 = .ok (.ireturn, 1) := by decide +kernel
theorem dX8_gateBits_0 : decode cX8_gateBits 0 = .ok (.iconst 0, 1) := by decide +kernel
theorem dX8_gateBits_1 : decode cX8_gateBits 1 = .ok (.istore_n 3, 1) := by decide +kernel
theorem dX8_gateBits_2 : decode cX8_gateBits 2 = .ok (.iconst 0, 1) := by decide +kernel
theorem dX8_gateBits_3 : decode cX8_gateBits 3 = .ok (.istore 4, 2) := by decide +kernel
theorem dX8_gateBits_5 : decode cX8_gateBits 5 = .ok (.iload 4, 2) := by decide +kernel
theorem dX8_gateBits_7 : decode cX8_gateBits 7 = .ok (.aload_n 0, 1) := by decide +kernel
theorem dX8_gateBits_8 : decode cX8_gateBits 8 = .ok (.getfield 19, 3) := by decide +kernel
theorem dX8_gateBits_11 : decode cX8_gateBits 11 = .ok (.getfield 158, 3) := by decide +kernel
theorem dX8_gateBits_14 : decode cX8_gateBits 14 = .ok (.if_icmp .ge 26, 3) := by decide +kernel
theorem dX8_gateBits_17 : decode cX8_gateBits 17 = .ok (.aload_n 1, 1) := by decide +kernel
theorem dX8_gateBits_18 : decode cX8_gateBits 18 = .ok (.aload_n 2, 1) := by decide +kernel
theorem dX8_gateBits_19 : decode cX8_gateBits 19 = .ok (.iload 4, 2) := by decide +kernel
theorem dX8_gateBits_21 : decode cX8_gateBits 21 = .ok (.invokevirtual 335, 3) := by decide +kernel
theorem dX8_gateBits_24 : decode cX8_gateBits 24 = .ok (.ifCond .eq 10, 3) := by decide +kernel
theorem dX8_gateBits_27 : decode cX8_gateBits 27 = .ok (.iload_n 3, 1) := by decide +kernel
theorem dX8_gateBits_28 : decode cX8_gateBits 28 = .ok (.iconst 1, 1) := by decide +kernel
theorem dX8_gateBits_29 : decode cX8_gateBits 29 = .ok (.iload 4, 2) := by decide +kernel
theorem dX8_gateBits_31 : decode cX8_gateBits 31 = .ok (.ishl, 1) := by decide +kernel
theorem dX8_gateBits_32 : decode cX8_gateBits 32 = .ok (.ior, 1) := by decide +kernel
theorem dX8_gateBits_33 : decode cX8_gateBits 33 = .ok (.istore_n 3, 1) := by decide +kernel
theorem dX8_gateBits_34 : decode cX8_gateBits 34 = .ok (.iinc 4 1, 3) := by decide +kernel
theorem dX8_gateBits_37 : decode cX8_gateBits 37 = .ok (.goto (-32), 3) := by decide +kernel
theorem dX8_gateBits_40 : decode cX8_gateBits 40 = .ok (.iload_n 3, 1) := by decide +kernel
theorem dX8_gateBits_41 : decode cX8_gateBits 41 = .ok (.ireturn, 1) := by decide +kernel
theorem dX8_worth_0 : decode cX8_worth 0 = .ok (.aload_n 0, 1) := by decide +kernel
theorem dX8_worth_1 : decode cX8_worth 1 = .ok (.invokevirtual 138, 3) := by decide +kernel
theorem dX8_worth_4 : decode cX8_worth 4 = .ok (.ifCond .eq 29, 3) := by decide +kernel
theorem dX8_worth_7 : decode cX8_worth 7 = .ok (.iload_n 1, 1) := by decide +kernel
theorem dX8_worth_8 : decode cX8_worth 8 = .ok (.ifCond .lt 25, 3) := by decide +kernel
theorem dX8_worth_11 : decode cX8_worth 11 = .ok (.iload_n 1, 1) := by decide +kernel
theorem dX8_worth_12 : decode cX8_worth 12 = .ok (.aload_n 0, 1) := by decide +kernel
theorem dX8_worth_13 : decode cX8_worth 13 = .ok (.getfield 19, 3) := by decide +kernel
theorem dX8_worth_16 : decode cX8_worth 16 = .ok (.getfield 158, 3) := by decide +kernel
theorem dX8_worth_19 : decode cX8_worth 19 = .ok (.invokestatic 148, 3) := by decide +kernel
theorem dX8_worth_22 : decode cX8_worth 22 = .ok (.if_icmp .gt 11, 3) := by decide +kernel
theorem dX8_worth_25 : decode cX8_worth 25 = .ok (.aload_n 0, 1) := by decide +kernel
theorem dX8_worth_26 : decode cX8_worth 26 = .ok (.iload_n 1, 1) := by decide +kernel
theorem dX8_worth_27 : decode cX8_worth 27 = .ok (.invokevirtual 339, 3) := by decide +kernel
theorem dX8_worth_30 : decode cX8_worth 30 = .ok (.goto 5, 3) := by decide +kernel
theorem dX8_worth_33 : decode cX8_worth 33 = .ok (.bipush (-2), 2) := by decide +kernel
theorem dX8_worth_35 : decode cX8_worth 35 = .ok (.ireturn, 1) := by decide +kernel
theorem dX8_share_0 : decode cX8_share 0 = .ok (.aload_n 0, 1) := by decide +kernel
theorem dX8_share_1 : decode cX8_share 1 = .ok (.iload_n 1, 1) := by decide +kernel
theorem dX8_share_2 : decode cX8_share 2 = .ok (.invokevirtual 103, 3) := by decide +kernel
theorem dX8_share_5 : decode cX8_share 5 = .ok (.ifCond .eq 10, 3) := by decide +kernel
theorem dX8_share_8 : decode cX8_share 8 = .ok (.iload_n 2, 1) := by decide +kernel
theorem dX8_share_9 : decode cX8_share 9 = .ok (.invokestatic 342, 3) := by decide +kernel
theorem dX8_share_12 : decode cX8_share 12 = .ok (.ifCond .ne 6, 3) := by decide +kernel
theorem dX8_share_15 : decode cX8_share 15 = .ok (.bipush (-2), 2) := by decide +kernel
theorem dX8_share_17 : decode cX8_share 17 = .ok (.ireturn, 1) := by decide +kernel
theorem dX8_share_18 : decode cX8_share 18 = .ok (.aload_n 0, 1) := by decide +kernel
theorem dX8_share_19 : decode cX8_share 19 = .ok (.invokevirtual 345, 3) := by decide +kernel
theorem dX8_share_22 : decode cX8_share 22 = .ok (.lconst 0, 1) := by decide +kernel
theorem dX8_share_23 : decode cX8_share 23 = .ok (.lstore_n 3, 1) := by decide +kernel
theorem dX8_share_24 : decode cX8_share 24 = .ok (.iconst 0, 1) := by decide +kernel
theorem dX8_share_25 : decode cX8_share 25 = .ok (.istore 5, 2) := by decide +kernel
theorem dX8_share_27 : decode cX8_share 27 = .ok (.iload 5, 2) := by decide +kernel
theorem dX8_share_29 : decode cX8_share 29 = .ok (.aload_n 0, 1) := by decide +kernel
theorem dX8_share_30 : decode cX8_share 30 = .ok (.getfield 19, 3) := by decide +kernel
theorem dX8_share_33 : decode cX8_share 33 = .ok (.getfield 158, 3) := by decide +kernel
theorem dX8_share_36 : decode cX8_share 36 = .ok (.invokestatic 148, 3) := by decide +kernel
theorem dX8_share_39 : decode cX8_share 39 = .ok (.if_icmp .gt 78, 3) := by decide +kernel
theorem dX8_share_42 : decode cX8_share 42 = .ok (.iload 5, 2) := by decide +kernel
theorem dX8_share_44 : decode cX8_share 44 = .ok (.iload_n 1, 1) := by decide +kernel
theorem dX8_share_45 : decode cX8_share 45 = .ok (.invokestatic 113, 3) := by decide +kernel
theorem dX8_share_48 : decode cX8_share 48 = .ok (.ifCond .ne 63, 3) := by decide +kernel
theorem dX8_share_51 : decode cX8_share 51 = .ok (.iload 5, 2) := by decide +kernel
theorem dX8_share_53 : decode cX8_share 53 = .ok (.invokestatic 226, 3) := by decide +kernel
theorem dX8_share_56 : decode cX8_share 56 = .ok (.istore 6, 2) := by decide +kernel
theorem dX8_share_58 : decode cX8_share 58 = .ok (.getstatic 348, 3) := by decide +kernel
theorem dX8_share_61 : decode cX8_share 61 = .ok (.iload 6, 2) := by decide +kernel
theorem dX8_share_63 : decode cX8_share 63 = .ok (.iaload, 1) := by decide +kernel
theorem dX8_share_64 : decode cX8_share 64 = .ok (.i2l, 1) := by decide +kernel
theorem dX8_share_65 : decode cX8_share 65 = .ok (.getstatic 348, 3) := by decide +kernel
theorem dX8_share_68 : decode cX8_share 68 = .ok (.aload_n 0, 1) := by decide +kernel
theorem dX8_share_69 : decode cX8_share 69 = .ok (.getfield 19, 3) := by decide +kernel
theorem dX8_share_72 : decode cX8_share 72 = .ok (.getfield 158, 3) := by decide +kernel
theorem dX8_share_75 : decode cX8_share 75 = .ok (.iconst 1, 1) := by decide +kernel
theorem dX8_share_76 : decode cX8_share 76 = .ok (.isub, 1) := by decide +kernel
theorem dX8_share_77 : decode cX8_share 77 = .ok (.iload 6, 2) := by decide +kernel
theorem dX8_share_79 : decode cX8_share 79 = .ok (.isub, 1) := by decide +kernel
theorem dX8_share_80 : decode cX8_share 80 = .ok (.iaload, 1) := by decide +kernel
theorem dX8_share_81 : decode cX8_share 81 = .ok (.i2l, 1) := by decide +kernel
theorem dX8_share_82 : decode cX8_share 82 = .ok (.lmul, 1) := by decide +kernel
theorem dX8_share_83 : decode cX8_share 83 = .ok (.lstore 7, 2) := by decide +kernel
theorem dX8_share_85 : decode cX8_share 85 = .ok (.lload_n 3, 1) := by decide +kernel
theorem dX8_share_86 : decode cX8_share 86 = .ok (.lload 7, 2) := by decide +kernel
theorem dX8_share_88 : decode cX8_share 88 = .ok (.aload_n 0, 1) := by decide +kernel
theorem dX8_share_89 : decode cX8_share 89 = .ok (.getfield 68, 3) := by decide +kernel
theorem dX8_share_92 : decode cX8_share 92 = .ok (.iload 5, 2) := by decide +kernel
theorem dX8_share_94 : decode cX8_share 94 = .ok (.iconst 1, 1) := by decide +kernel
theorem dX8_share_95 : decode cX8_share 95 = .ok (.iload_n 1, 1) := by decide +kernel
theorem dX8_share_96 : decode cX8_share 96 = .ok (.ishl, 1) := by decide +kernel
theorem dX8_share_97 : decode cX8_share 97 = .ok (.ior, 1) := by decide +kernel
theorem dX8_share_98 : decode cX8_share 98 = .ok (.iaload, 1) := by decide +kernel
theorem dX8_share_99 : decode cX8_share 99 = .ok (.aload_n 0, 1) := by decide +kernel
theorem dX8_share_100 : decode cX8_share 100 = .ok (.getfield 68, 3) := by decide +kernel
theorem dX8_share_103 : decode cX8_share 103 = .ok (.iload 5, 2) := by decide +kernel
theorem dX8_share_105 : decode cX8_share 105 = .ok (.iaload, 1) := by decide +kernel
theorem dX8_share_106 : decode cX8_share 106 = .ok (.isub, 1) := by decide +kernel
theorem dX8_share_107 : decode cX8_share 107 = .ok (.i2l, 1) := by decide +kernel
theorem dX8_share_108 : decode cX8_share 108 = .ok (.lmul, 1) := by decide +kernel
theorem dX8_share_109 : decode cX8_share 109 = .ok (.ladd, 1) := by decide +kernel
theorem dX8_share_110 : decode cX8_share 110 = .ok (.lstore_n 3, 1) := by decide +kernel
theorem dX8_share_111 : decode cX8_share 111 = .ok (.iinc 5 1, 3) := by decide +kernel
theorem dX8_share_114 : decode cX8_share 114 = .ok (.goto (-87), 3) := by decide +kernel
theorem dX8_share_117 : decode cX8_share 117 = .ok (.lload_n 3, 1) := by decide +kernel
theorem dX8_share_118 : decode cX8_share 118 = .ok (.getstatic 348, 3) := by decide +kernel
theorem dX8_share_121 : decode cX8_share 121 = .ok (.aload_n 0, 1) := by decide +kernel
theorem dX8_share_122 : decode cX8_share 122 = .ok (.getfield 19, 3) := by decide +kernel
theorem dX8_share_125 : decode cX8_share 125 = .ok (.getfield 158, 3) := by decide +kernel
theorem dX8_share_128 : decode cX8_share 128 = .ok (.iaload, 1) := by decide +kernel
theorem dX8_share_129 : decode cX8_share 129 = .ok (.i2l, 1) := by decide +kernel
theorem dX8_share_130 : decode cX8_share 130 = .ok (.iload_n 2, 1) := by decide +kernel
theorem dX8_share_131 : decode cX8_share 131 = .ok (.invokestatic 351, 3) := by decide +kernel
theorem dX8_share_134 : decode cX8_share 134 = .ok (.l2i, 1) := by decide +kernel
theorem dX8_share_135 : decode cX8_share 135 = .ok (.ireturn, 1) := by decide +kernel
theorem dX8_turnedBy_0 : decode cX8_turnedBy 0 = .ok (.aload_n 0, 1) := by decide +kernel
theorem dX8_turnedBy_1 : decode cX8_turnedBy 1 = .ok (.getfield 40, 3) := by decide +kernel
theorem dX8_turnedBy_4 : decode cX8_turnedBy 4 = .ok (.aload_n 0, 1) := by decide +kernel
theorem dX8_turnedBy_5 : decode cX8_turnedBy 5 = .ok (.getfield 19, 3) := by decide +kernel
theorem dX8_turnedBy_8 : decode cX8_turnedBy 8 = .ok (.invokevirtual 261, 3) := by decide +kernel
theorem dX8_turnedBy_11 : decode cX8_turnedBy 11 = .ok (.aload_n 0, 1) := by decide +kernel
theorem dX8_turnedBy_12 : decode cX8_turnedBy 12 = .ok (.getfield 40, 3) := by decide +kernel
theorem dX8_turnedBy_15 : decode cX8_turnedBy 15 = .ok (.aload_n 0, 1) := by decide +kernel
theorem dX8_turnedBy_16 : decode cX8_turnedBy 16 = .ok (.getfield 19, 3) := by decide +kernel
theorem dX8_turnedBy_19 : decode cX8_turnedBy 19 = .ok (.getfield 158, 3) := by decide +kernel
theorem dX8_turnedBy_22 : decode cX8_turnedBy 22 = .ok (.invokestatic 148, 3) := by decide +kernel
theorem dX8_turnedBy_25 : decode cX8_turnedBy 25 = .ok (.iload_n 1, 1) := by decide +kernel
theorem dX8_turnedBy_26 : decode cX8_turnedBy 26 = .ok (.iconst (-1), 1) := by decide +kernel
theorem dX8_turnedBy_27 : decode cX8_turnedBy 27 = .ok (.ixor, 1) := by decide +kernel
theorem dX8_turnedBy_28 : decode cX8_turnedBy 28 = .ok (.iand, 1) := by decide +kernel
theorem dX8_turnedBy_29 : decode cX8_turnedBy 29 = .ok (.putfield 355, 3) := by decide +kernel
theorem dX8_turnedBy_32 : decode cX8_turnedBy 32 = .ok (.aload_n 0, 1) := by decide +kernel
theorem dX8_turnedBy_33 : decode cX8_turnedBy 33 = .ok (.getfield 51, 3) := by decide +kernel
theorem dX8_turnedBy_36 : decode cX8_turnedBy 36 = .ok (.aload_n 0, 1) := by decide +kernel
theorem dX8_turnedBy_37 : decode cX8_turnedBy 37 = .ok (.getfield 19, 3) := by decide +kernel
theorem dX8_turnedBy_40 : decode cX8_turnedBy 40 = .ok (.aload_n 0, 1) := by decide +kernel
theorem dX8_turnedBy_41 : decode cX8_turnedBy 41 = .ok (.getfield 40, 3) := by decide +kernel
theorem dX8_turnedBy_44 : decode cX8_turnedBy 44 = .ok (.invokevirtual 266, 3) := by decide +kernel
theorem dX8_turnedBy_47 : decode cX8_turnedBy 47 = .ok (.iconst 0, 1) := by decide +kernel
theorem dX8_turnedBy_48 : decode cX8_turnedBy 48 = .ok (.istore_n 2, 1) := by decide +kernel
theorem dX8_turnedBy_49 : decode cX8_turnedBy 49 = .ok (.iconst 0, 1) := by decide +kernel
theorem dX8_turnedBy_50 : decode cX8_turnedBy 50 = .ok (.istore_n 3, 1) := by decide +kernel
theorem dX8_turnedBy_51 : decode cX8_turnedBy 51 = .ok (.iload_n 3, 1) := by decide +kernel
theorem dX8_turnedBy_52 : decode cX8_turnedBy 52 = .ok (.aload_n 0, 1) := by decide +kernel
theorem dX8_turnedBy_53 : decode cX8_turnedBy 53 = .ok (.getfield 19, 3) := by decide +kernel
theorem dX8_turnedBy_56 : decode cX8_turnedBy 56 = .ok (.getfield 145, 3) := by decide +kernel
theorem dX8_turnedBy_59 : decode cX8_turnedBy 59 = .ok (.if_icmp .ge 24, 3) := by decide +kernel
theorem dX8_turnedBy_62 : decode cX8_turnedBy 62 = .ok (.iload_n 2, 1) := by decide +kernel
theorem dX8_turnedBy_63 : decode cX8_turnedBy 63 = .ok (.aload_n 0, 1) := by decide +kernel
theorem dX8_turnedBy_64 : decode cX8_turnedBy 64 = .ok (.getfield 51, 3) := by decide +kernel
theorem dX8_turnedBy_67 : decode cX8_turnedBy 67 = .ok (.getfield 174, 3) := by decide +kernel
theorem dX8_turnedBy_70 : decode cX8_turnedBy 70 = .ok (.iload_n 3, 1) := by decide +kernel
theorem dX8_turnedBy_71 : decode cX8_turnedBy 71 = .ok (.iaload, 1) := by decide +kernel
theorem dX8_turnedBy_72 : decode cX8_turnedBy 72 = .ok (.invokestatic 180, 3) := by decide +kernel
theorem dX8_turnedBy_75 : decode cX8_turnedBy 75 = .ok (.iadd, 1) := by decide +kernel
theorem dX8_turnedBy_76 : decode cX8_turnedBy 76 = .ok (.istore_n 2, 1) := by decide +kernel
theorem dX8_turnedBy_77 : decode cX8_turnedBy 77 = .ok (.iinc 3 1, 3) := by decide +kernel
theorem dX8_turnedBy_80 : decode cX8_turnedBy 80 = .ok (.goto (-29), 3) := by decide +kernel
theorem dX8_turnedBy_83 : decode cX8_turnedBy 83 = .ok (.iload_n 2, 1) := by decide +kernel
theorem dX8_turnedBy_84 : decode cX8_turnedBy 84 = .ok (.ireturn, 1) := by decide +kernel
theorem dX8_learnWorths_0 : decode cX8_learnWorths 0 = .ok (.aload_n 0, 1) := by decide +kernel
theorem dX8_learnWorths_1 : decode cX8_learnWorths 1 = .ok (.getfield 72, 3) := by decide +kernel
theorem dX8_learnWorths_4 : decode cX8_learnWorths 4 = .ok (.ifCond .eq 4, 3) := by decide +kernel
theorem dX8_learnWorths_7 : decode cX8_learnWorths 7 = .ok (.return_, 1) := by decide +kernel
theorem dX8_learnWorths_8 : decode cX8_learnWorths 8 = .ok (.iconst 0, 1) := by decide +kernel
theorem dX8_learnWorths_9 : decode cX8_learnWorths 9 = .ok (.istore_n 1, 1) := by decide +kernel
theorem dX8_learnWorths_10 : decode cX8_learnWorths 10 = .ok (.iload_n 1, 1) := by decide +kernel
theorem dX8_learnWorths_11 : decode cX8_learnWorths 11 = .ok (.aload_n 0, 1) := by decide +kernel
theorem dX8_learnWorths_12 : decode cX8_learnWorths 12 = .ok (.getfield 19, 3) := by decide +kernel
theorem dX8_learnWorths_15 : decode cX8_learnWorths 15 = .ok (.getfield 158, 3) := by decide +kernel
theorem dX8_learnWorths_18 : decode cX8_learnWorths 18 = .ok (.invokestatic 148, 3) := by decide +kernel
theorem dX8_learnWorths_21 : decode cX8_learnWorths 21 = .ok (.if_icmp .gt 20, 3) := by decide +kernel
theorem dX8_learnWorths_24 : decode cX8_learnWorths 24 = .ok (.aload_n 0, 1) := by decide +kernel
theorem dX8_learnWorths_25 : decode cX8_learnWorths 25 = .ok (.getfield 68, 3) := by decide +kernel
theorem dX8_learnWorths_28 : decode cX8_learnWorths 28 = .ok (.iload_n 1, 1) := by decide +kernel
theorem dX8_learnWorths_29 : decode cX8_learnWorths 29 = .ok (.aload_n 0, 1) := by decide +kernel
theorem dX8_learnWorths_30 : decode cX8_learnWorths 30 = .ok (.iload_n 1, 1) := by decide +kernel
theorem dX8_learnWorths_31 : decode cX8_learnWorths 31 = .ok (.invokevirtual 339, 3) := by decide +kernel
theorem dX8_learnWorths_34 : decode cX8_learnWorths 34 = .ok (.iastore, 1) := by decide +kernel
theorem dX8_learnWorths_35 : decode cX8_learnWorths 35 = .ok (.iinc 1 1, 3) := by decide +kernel
theorem dX8_learnWorths_38 : decode cX8_learnWorths 38 = .ok (.goto (-28), 3) := by decide +kernel
theorem dX8_learnWorths_41 : decode cX8_learnWorths 41 = .ok (.aload_n 0, 1) := by decide +kernel
theorem dX8_learnWorths_42 : decode cX8_learnWorths 42 = .ok (.iconst 1, 1) := by decide +kernel
theorem dX8_learnWorths_43 : decode cX8_learnWorths 43 = .ok (.putfield 72, 3) := by decide +kernel
theorem dX8_learnWorths_46 : decode cX8_learnWorths 46 = .ok (.return_, 1) := by decide +kernel
theorem dX8_rests_0 : decode cX8_rests 0 = .ok (.aload_n 0, 1) := by decide +kernel
theorem dX8_rests_1 : decode cX8_rests 1 = .ok (.iload_n 1, 1) := by decide +kernel
theorem dX8_rests_2 : decode cX8_rests 2 = .ok (.iload_n 2, 1) := by decide +kernel
theorem dX8_rests_3 : decode cX8_rests 3 = .ok (.invokevirtual 202, 3) := by decide +kernel
theorem dX8_rests_6 : decode cX8_rests 6 = .ok (.ifCond .ne 6, 3) := by decide +kernel
theorem dX8_rests_9 : decode cX8_rests 9 = .ok (.bipush (-2), 2) := by decide +kernel
theorem dX8_rests_11 : decode cX8_rests 11 = .ok (.ireturn, 1) := by decide +kernel
theorem dX8_rests_12 : decode cX8_rests 12 = .ok (.iconst 0, 1) := by decide +kernel
theorem dX8_rests_13 : decode cX8_rests 13 = .ok (.istore_n 3, 1) := by decide +kernel
theorem dX8_rests_14 : decode cX8_rests 14 = .ok (.iconst 0, 1) := by decide +kernel
theorem dX8_rests_15 : decode cX8_rests 15 = .ok (.istore 4, 2) := by decide +kernel
theorem dX8_rests_17 : decode cX8_rests 17 = .ok (.iload 4, 2) := by decide +kernel
theorem dX8_rests_19 : decode cX8_rests 19 = .ok (.iconst 4, 1) := by decide +kernel
theorem dX8_rests_20 : decode cX8_rests 20 = .ok (.if_icmp .ge 90, 3) := by decide +kernel
theorem dX8_rests_23 : decode cX8_rests 23 = .ok (.iload 4, 2) := by decide +kernel
theorem dX8_rests_25 : decode cX8_rests 25 = .ok (.iconst 1, 1) := by decide +kernel
theorem dX8_rests_26 : decode cX8_rests 26 = .ok (.iand, 1) := by decide +kernel
theorem dX8_rests_27 : decode cX8_rests 27 = .ok (.istore 5, 2) := by decide +kernel
theorem dX8_rests_29 : decode cX8_rests 29 = .ok (.iload 4, 2) := by decide +kernel
theorem dX8_rests_31 : decode cX8_rests 31 = .ok (.iconst 1, 1) := by decide +kernel
theorem dX8_rests_32 : decode cX8_rests 32 = .ok (.ishr, 1) := by decide +kernel
theorem dX8_rests_33 : decode cX8_rests 33 = .ok (.istore 6, 2) := by decide +kernel
theorem dX8_rests_35 : decode cX8_rests 35 = .ok (.aload_n 0, 1) := by decide +kernel
theorem dX8_rests_36 : decode cX8_rests 36 = .ok (.iload_n 1, 1) := by decide +kernel
theorem dX8_rests_37 : decode cX8_rests 37 = .ok (.iload_n 2, 1) := by decide +kernel
theorem dX8_rests_38 : decode cX8_rests 38 = .ok (.iload 5, 2) := by decide +kernel
theorem dX8_rests_40 : decode cX8_rests 40 = .ok (.iload 6, 2) := by decide +kernel
theorem dX8_rests_42 : decode cX8_rests 42 = .ok (.invokevirtual 358, 3) := by decide +kernel
theorem dX8_rests_45 : decode cX8_rests 45 = .ok (.aload_n 0, 1) := by decide +kernel
theorem dX8_rests_46 : decode cX8_rests 46 = .ok (.iload_n 1, 1) := by decide +kernel
theorem dX8_rests_47 : decode cX8_rests 47 = .ok (.iload_n 2, 1) := by decide +kernel
theorem dX8_rests_48 : decode cX8_rests 48 = .ok (.iconst 1, 1) := by decide +kernel
theorem dX8_rests_49 : decode cX8_rests 49 = .ok (.iload 5, 2) := by decide +kernel
theorem dX8_rests_51 : decode cX8_rests 51 = .ok (.isub, 1) := by decide +kernel
theorem dX8_rests_52 : decode cX8_rests 52 = .ok (.iload 6, 2) := by decide +kernel
theorem dX8_rests_54 : decode cX8_rests 54 = .ok (.invokevirtual 358, 3) := by decide +kernel
theorem dX8_rests_57 : decode cX8_rests 57 = .ok (.if_icmp .lt 7, 3) := by decide +kernel
theorem dX8_rests_60 : decode cX8_rests 60 = .ok (.iconst 1, 1) := by decide +kernel
theorem dX8_rests_61 : decode cX8_rests 61 = .ok (.goto 4, 3) := by decide +kernel
theorem dX8_rests_64 : decode cX8_rests 64 = .ok (.iconst 0, 1) := by decide +kernel
theorem dX8_rests_65 : decode cX8_rests 65 = .ok (.istore 7, 2) := by decide +kernel
theorem dX8_rests_67 : decode cX8_rests 67 = .ok (.iload 7, 2) := by decide +kernel
theorem dX8_rests_69 : decode cX8_rests 69 = .ok (.ifCond .eq 35, 3) := by decide +kernel
theorem dX8_rests_72 : decode cX8_rests 72 = .ok (.aload_n 0, 1) := by decide +kernel
theorem dX8_rests_73 : decode cX8_rests 73 = .ok (.iload_n 2, 1) := by decide +kernel
theorem dX8_rests_74 : decode cX8_rests 74 = .ok (.iload_n 1, 1) := by decide +kernel
theorem dX8_rests_75 : decode cX8_rests 75 = .ok (.iload 6, 2) := by decide +kernel
theorem dX8_rests_77 : decode cX8_rests 77 = .ok (.iload 5, 2) := by decide +kernel
theorem dX8_rests_79 : decode cX8_rests 79 = .ok (.invokevirtual 358, 3) := by decide +kernel
theorem dX8_rests_82 : decode cX8_rests 82 = .ok (.aload_n 0, 1) := by decide +kernel
theorem dX8_rests_83 : decode cX8_rests 83 = .ok (.iload_n 2, 1) := by decide +kernel
theorem dX8_rests_84 : decode cX8_rests 84 = .ok (.iload_n 1, 1) := by decide +kernel
theorem dX8_rests_85 : decode cX8_rests 85 = .ok (.iconst 1, 1) := by decide +kernel
theorem dX8_rests_86 : decode cX8_rests 86 = .ok (.iload 6, 2) := by decide +kernel
theorem dX8_rests_88 : decode cX8_rests 88 = .ok (.isub, 1) := by decide +kernel
theorem dX8_rests_89 : decode cX8_rests 89 = .ok (.iload 5, 2) := by decide +kernel
theorem dX8_rests_91 : decode cX8_rests 91 = .ok (.invokevirtual 358, 3) := by decide +kernel
theorem dX8_rests_94 : decode cX8_rests 94 = .ok (.if_icmp .lt 10, 3) := by decide +kernel
theorem dX8_rests_97 : decode cX8_rests 97 = .ok (.iload_n 3, 1) := by decide +kernel
theorem dX8_rests_98 : decode cX8_rests 98 = .ok (.iconst 1, 1) := by decide +kernel
theorem dX8_rests_99 : decode cX8_rests 99 = .ok (.iload 4, 2) := by decide +kernel
theorem dX8_rests_101 : decode cX8_rests 101 = .ok (.ishl, 1) := by decide +kernel
theorem dX8_rests_102 : decode cX8_rests 102 = .ok (.ior, 1) := by decide +kernel
theorem dX8_rests_103 : decode cX8_rests 103 = .ok (.istore_n 3, 1) := by decide +kernel
theorem dX8_rests_104 : decode cX8_rests 104 = .ok (.iinc 4 1, 3) := by decide +kernel
theorem dX8_rests_107 : decode cX8_rests 107 = .ok (.goto (-90), 3) := by decide +kernel
theorem dX8_rests_110 : decode cX8_rests 110 = .ok (.iload_n 3, 1) := by decide +kernel
theorem dX8_rests_111 : decode cX8_rests 111 = .ok (.ireturn, 1) := by decide +kernel
theorem dX8_gets_0 : decode cX8_gets 0 = .ok (.aload_n 0, 1) := by decide +kernel
theorem dX8_gets_1 : decode cX8_gets 1 = .ok (.iload_n 1, 1) := by decide +kernel
theorem dX8_gets_2 : decode cX8_gets 2 = .ok (.iload_n 2, 1) := by decide +kernel
theorem dX8_gets_3 : decode cX8_gets 3 = .ok (.invokevirtual 202, 3) := by decide +kernel
theorem dX8_gets_6 : decode cX8_gets 6 = .ok (.ifCond .eq 30, 3) := by decide +kernel
theorem dX8_gets_9 : decode cX8_gets 9 = .ok (.iload_n 3, 1) := by decide +kernel
theorem dX8_gets_10 : decode cX8_gets 10 = .ok (.invokestatic 342, 3) := by decide +kernel
theorem dX8_gets_13 : decode cX8_gets 13 = .ok (.ifCond .eq 23, 3) := by decide +kernel
theorem dX8_gets_16 : decode cX8_gets 16 = .ok (.iload 4, 2) := by decide +kernel
theorem dX8_gets_18 : decode cX8_gets 18 = .ok (.invokestatic 342, 3) := by decide +kernel
theorem dX8_gets_21 : decode cX8_gets 21 = .ok (.ifCond .eq 15, 3) := by decide +kernel
theorem dX8_gets_24 : decode cX8_gets 24 = .ok (.aload_n 0, 1) := by decide +kernel
theorem dX8_gets_25 : decode cX8_gets 25 = .ok (.iload_n 1, 1) := by decide +kernel
theorem dX8_gets_26 : decode cX8_gets 26 = .ok (.iload_n 2, 1) := by decide +kernel
theorem dX8_gets_27 : decode cX8_gets 27 = .ok (.iload_n 3, 1) := by decide +kernel
theorem dX8_gets_28 : decode cX8_gets 28 = .ok (.iload 4, 2) := by decide +kernel
theorem dX8_gets_30 : decode cX8_gets 30 = .ok (.invokevirtual 358, 3) := by decide +kernel
theorem dX8_gets_33 : decode cX8_gets 33 = .ok (.goto 6, 3) := by decide +kernel
theorem dX8_gets_36 : decode cX8_gets 36 = .ok (.sipush (-1000), 3) := by decide +kernel
theorem dX8_gets_39 : decode cX8_gets 39 = .ok (.ireturn, 1) := by decide +kernel
theorem dX8_gain_0 : decode cX8_gain 0 = .ok (.aload_n 0, 1) := by decide +kernel
theorem dX8_gain_1 : decode cX8_gain 1 = .ok (.getfield 40, 3) := by decide +kernel
theorem dX8_gain_4 : decode cX8_gain 4 = .ok (.aload_n 0, 1) := by decide +kernel
theorem dX8_gain_5 : decode cX8_gain 5 = .ok (.getfield 19, 3) := by decide +kernel
theorem dX8_gain_8 : decode cX8_gain 8 = .ok (.invokevirtual 261, 3) := by decide +kernel
theorem dX8_gain_11 : decode cX8_gain 11 = .ok (.aload_n 0, 1) := by decide +kernel
theorem dX8_gain_12 : decode cX8_gain 12 = .ok (.getfield 40, 3) := by decide +kernel
theorem dX8_gain_15 : decode cX8_gain 15 = .ok (.iload_n 3, 1) := by decide +kernel
theorem dX8_gain_16 : decode cX8_gain 16 = .ok (.iload_n 1, 1) := by decide +kernel
theorem dX8_gain_17 : decode cX8_gain 17 = .ok (.ishl, 1) := by decide +kernel
theorem dX8_gain_18 : decode cX8_gain 18 = .ok (.iload 4, 2) := by decide +kernel
theorem dX8_gain_20 : decode cX8_gain 20 = .ok (.iload_n 2, 1) := by decide +kernel
theorem dX8_gain_21 : decode cX8_gain 21 = .ok (.ishl, 1) := by decide +kernel
theorem dX8_gain_22 : decode cX8_gain 22 = .ok (.ior, 1) := by decide +kernel
theorem dX8_gain_23 : decode cX8_gain 23 = .ok (.putfield 355, 3) := by decide +kernel
theorem dX8_gain_26 : decode cX8_gain 26 = .ok (.aload_n 0, 1) := by decide +kernel
theorem dX8_gain_27 : decode cX8_gain 27 = .ok (.getfield 51, 3) := by decide +kernel
theorem dX8_gain_30 : decode cX8_gain 30 = .ok (.aload_n 0, 1) := by decide +kernel
theorem dX8_gain_31 : decode cX8_gain 31 = .ok (.getfield 19, 3) := by decide +kernel
theorem dX8_gain_34 : decode cX8_gain 34 = .ok (.aload_n 0, 1) := by decide +kernel
theorem dX8_gain_35 : decode cX8_gain 35 = .ok (.getfield 40, 3) := by decide +kernel
theorem dX8_gain_38 : decode cX8_gain 38 = .ok (.invokevirtual 266, 3) := by decide +kernel
theorem dX8_gain_41 : decode cX8_gain 41 = .ok (.aload_n 0, 1) := by decide +kernel
theorem dX8_gain_42 : decode cX8_gain 42 = .ok (.getfield 51, 3) := by decide +kernel
theorem dX8_gain_45 : decode cX8_gain 45 = .ok (.aload_n 0, 1) := by decide +kernel
theorem dX8_gain_46 : decode cX8_gain 46 = .ok (.getfield 19, 3) := by decide +kernel
theorem dX8_gain_49 : decode cX8_gain 49 = .ok (.iload_n 1, 1) := by decide +kernel
theorem dX8_gain_50 : decode cX8_gain 50 = .ok (.aload_n 0, 1) := by decide +kernel
theorem dX8_gain_51 : decode cX8_gain 51 = .ok (.getfield 19, 3) := by decide +kernel
theorem dX8_gain_54 : decode cX8_gain 54 = .ok (.getfield 145, 3) := by decide +kernel
theorem dX8_gain_57 : decode cX8_gain 57 = .ok (.invokevirtual 185, 3) := by decide +kernel
theorem dX8_gain_60 : decode cX8_gain 60 = .ok (.istore 5, 2) := by decide +kernel
theorem dX8_gain_62 : decode cX8_gain 62 = .ok (.iconst 0, 1) := by decide +kernel
theorem dX8_gain_63 : decode cX8_gain 63 = .ok (.istore 6, 2) := by decide +kernel
theorem dX8_gain_65 : decode cX8_gain 65 = .ok (.iload 6, 2) := by decide +kernel
theorem dX8_gain_67 : decode cX8_gain 67 = .ok (.aload_n 0, 1) := by decide +kernel
theorem dX8_gain_68 : decode cX8_gain 68 = .ok (.getfield 19, 3) := by decide +kernel
theorem dX8_gain_71 : decode cX8_gain 71 = .ok (.getfield 145, 3) := by decide +kernel
theorem dX8_gain_74 : decode cX8_gain 74 = .ok (.if_icmp .ge 25, 3) := by decide +kernel
theorem dX8_gain_77 : decode cX8_gain 77 = .ok (.aload_n 0, 1) := by decide +kernel
theorem dX8_gain_78 : decode cX8_gain 78 = .ok (.getfield 51, 3) := by decide +kernel
theorem dX8_gain_81 : decode cX8_gain 81 = .ok (.iload_n 1, 1) := by decide +kernel
theorem dX8_gain_82 : decode cX8_gain 82 = .ok (.iload 6, 2) := by decide +kernel
theorem dX8_gain_84 : decode cX8_gain 84 = .ok (.invokevirtual 168, 3) := by decide +kernel
theorem dX8_gain_87 : decode cX8_gain 87 = .ok (.ifCond .le 6, 3) := by decide +kernel
theorem dX8_gain_90 : decode cX8_gain 90 = .ok (.iinc 5 (-2), 3) := by decide +kernel
theorem dX8_gain_93 : decode cX8_gain 93 = .ok (.iinc 6 1, 3) := by decide +kernel
theorem dX8_gain_96 : decode cX8_gain 96 = .ok (.goto (-31), 3) := by decide +kernel
theorem dX8_gain_99 : decode cX8_gain 99 = .ok (.iload 5, 2) := by decide +kernel
theorem dX8_gain_101 : decode cX8_gain 101 = .ok (.ireturn, 1) := by decide +kernel
theorem dX8_chance_0 : decode cX8_chance 0 = .ok (.aload_n 0, 1) := by decide +kernel
theorem dX8_chance_1 : decode cX8_chance 1 = .ok (.iload_n 1, 1) := by decide +kernel
theorem dX8_chance_2 : decode cX8_chance 2 = .ok (.invokevirtual 103, 3) := by decide +kernel
theorem dX8_chance_5 : decode cX8_chance 5 = .ok (.ifCond .eq 27, 3) := by decide +kernel
theorem dX8_chance_8 : decode cX8_chance 8 = .ok (.aload_n 0, 1) := by decide +kernel
theorem dX8_chance_9 : decode cX8_chance 9 = .ok (.iload_n 2, 1) := by decide +kernel
theorem dX8_chance_10 : decode cX8_chance 10 = .ok (.invokevirtual 117, 3) := by decide +kernel
theorem dX8_chance_13 : decode cX8_chance 13 = .ok (.ifCond .eq 19, 3) := by decide +kernel
theorem dX8_chance_16 : decode cX8_chance 16 = .ok (.aload_n 0, 1) := by decide +kernel
theorem dX8_chance_17 : decode cX8_chance 17 = .ok (.iload_n 3, 1) := by decide +kernel
theorem dX8_chance_18 : decode cX8_chance 18 = .ok (.invokevirtual 361, 3) := by decide +kernel
theorem dX8_chance_21 : decode cX8_chance 21 = .ok (.ifCond .eq 11, 3) := by decide +kernel
theorem dX8_chance_24 : decode cX8_chance 24 = .ok (.iload 4, 2) := by decide +kernel
theorem dX8_chance_26 : decode cX8_chance 26 = .ok (.invokestatic 342, 3) := by decide +kernel
theorem dX8_chance_29 : decode cX8_chance 29 = .ok (.ifCond .ne 7, 3) := by decide +kernel
theorem dX8_chance_32 : decode cX8_chance 32 = .ok (.ldc2_w 364, 3) := by decide +kernel
theorem dX8_chance_35 : decode cX8_chance 35 = .ok (.lreturn, 1) := by decide +kernel
theorem dX8_chance_36 : decode cX8_chance 36 = .ok (.lconst 0, 1) := by decide +kernel
theorem dX8_chance_37 : decode cX8_chance 37 = .ok (.lstore 5, 2) := by decide +kernel
theorem dX8_chance_39 : decode cX8_chance 39 = .ok (.iconst 0, 1) := by decide +kernel
theorem dX8_chance_40 : decode cX8_chance 40 = .ok (.istore 7, 2) := by decide +kernel
theorem dX8_chance_42 : decode cX8_chance 42 = .ok (.iload 7, 2) := by decide +kernel
theorem dX8_chance_44 : decode cX8_chance 44 = .ok (.iload_n 3, 1) := by decide +kernel
theorem dX8_chance_45 : decode cX8_chance 45 = .ok (.iconst 1, 1) := by decide +kernel
theorem dX8_chance_46 : decode cX8_chance 46 = .ok (.iadd, 1) := by decide +kernel
theorem dX8_chance_47 : decode cX8_chance 47 = .ok (.invokestatic 148, 3) := by decide +kernel
theorem dX8_chance_50 : decode cX8_chance 50 = .ok (.if_icmp .gt 51, 3) := by decide +kernel
theorem dX8_chance_53 : decode cX8_chance 53 = .ok (.aload_n 0, 1) := by decide +kernel
theorem dX8_chance_54 : decode cX8_chance 54 = .ok (.iload 7, 2) := by decide +kernel
theorem dX8_chance_56 : decode cX8_chance 56 = .ok (.iload_n 3, 1) := by decide +kernel
theorem dX8_chance_57 : decode cX8_chance 57 = .ok (.iconst 1, 1) := by decide +kernel
theorem dX8_chance_58 : decode cX8_chance 58 = .ok (.iadd, 1) := by decide +kernel
theorem dX8_chance_59 : decode cX8_chance 59 = .ok (.invokevirtual 366, 3) := by decide +kernel
theorem dX8_chance_62 : decode cX8_chance 62 = .ok (.lstore 8, 2) := by decide +kernel
theorem dX8_chance_64 : decode cX8_chance 64 = .ok (.aload_n 0, 1) := by decide +kernel
theorem dX8_chance_65 : decode cX8_chance 65 = .ok (.iload 7, 2) := by decide +kernel
theorem dX8_chance_67 : decode cX8_chance 67 = .ok (.iload_n 3, 1) := by decide +kernel
theorem dX8_chance_68 : decode cX8_chance 68 = .ok (.iconst 1, 1) := by decide +kernel
theorem dX8_chance_69 : decode cX8_chance 69 = .ok (.iadd, 1) := by decide +kernel
theorem dX8_chance_70 : decode cX8_chance 70 = .ok (.invokevirtual 370, 3) := by decide +kernel
theorem dX8_chance_73 : decode cX8_chance 73 = .ok (.aload_n 0, 1) := by decide +kernel
theorem dX8_chance_74 : decode cX8_chance 74 = .ok (.getfield 51, 3) := by decide +kernel
theorem dX8_chance_77 : decode cX8_chance 77 = .ok (.iload_n 1, 1) := by decide +kernel
theorem dX8_chance_78 : decode cX8_chance 78 = .ok (.iload_n 3, 1) := by decide +kernel
theorem dX8_chance_79 : decode cX8_chance 79 = .ok (.iconst 1, 1) := by decide +kernel
theorem dX8_chance_80 : decode cX8_chance 80 = .ok (.iadd, 1) := by decide +kernel
theorem dX8_chance_81 : decode cX8_chance 81 = .ok (.invokevirtual 155, 3) := by decide +kernel
theorem dX8_chance_84 : decode cX8_chance 84 = .ok (.iload_n 2, 1) := by decide +kernel
theorem dX8_chance_85 : decode cX8_chance 85 = .ok (.if_icmp .ne 10, 3) := by decide +kernel
theorem dX8_chance_88 : decode cX8_chance 88 = .ok (.lload 5, 2) := by decide +kernel
theorem dX8_chance_90 : decode cX8_chance 90 = .ok (.lload 8, 2) := by decide +kernel
theorem dX8_chance_92 : decode cX8_chance 92 = .ok (.ladd, 1) := by decide +kernel
theorem dX8_chance_93 : decode cX8_chance 93 = .ok (.lstore 5, 2) := by decide +kernel
theorem dX8_chance_95 : decode cX8_chance 95 = .ok (.iinc 7 1, 3) := by decide +kernel
theorem dX8_chance_98 : decode cX8_chance 98 = .ok (.goto (-56), 3) := by decide +kernel
theorem dX8_chance_101 : decode cX8_chance 101 = .ok (.lload 5, 2) := by decide +kernel
theorem dX8_chance_103 : decode cX8_chance 103 = .ok (.bipush 10, 2) := by decide +kernel
theorem dX8_chance_105 : decode cX8_chance 105 = .ok (.iload_n 3, 1) := by decide +kernel
theorem dX8_chance_106 : decode cX8_chance 106 = .ok (.iconst 1, 1) := by decide +kernel
theorem dX8_chance_107 : decode cX8_chance 107 = .ok (.iadd, 1) := by decide +kernel
theorem dX8_chance_108 : decode cX8_chance 108 = .ok (.invokestatic 374, 3) := by decide +kernel
theorem dX8_chance_111 : decode cX8_chance 111 = .ok (.iload 4, 2) := by decide +kernel
theorem dX8_chance_113 : decode cX8_chance 113 = .ok (.invokestatic 351, 3) := by decide +kernel
theorem dX8_chance_116 : decode cX8_chance 116 = .ok (.lreturn, 1) := by decide +kernel
theorem dX8_mean_0 : decode cX8_mean 0 = .ok (.aload_n 0, 1) := by decide +kernel
theorem dX8_mean_1 : decode cX8_mean 1 = .ok (.iload_n 1, 1) := by decide +kernel
theorem dX8_mean_2 : decode cX8_mean 2 = .ok (.invokevirtual 103, 3) := by decide +kernel
theorem dX8_mean_5 : decode cX8_mean 5 = .ok (.ifCond .eq 18, 3) := by decide +kernel
theorem dX8_mean_8 : decode cX8_mean 8 = .ok (.aload_n 0, 1) := by decide +kernel
theorem dX8_mean_9 : decode cX8_mean 9 = .ok (.iload_n 2, 1) := by decide +kernel
theorem dX8_mean_10 : decode cX8_mean 10 = .ok (.invokevirtual 361, 3) := by decide +kernel
theorem dX8_mean_13 : decode cX8_mean 13 = .ok (.ifCond .eq 10, 3) := by decide +kernel
theorem dX8_mean_16 : decode cX8_mean 16 = .ok (.iload_n 3, 1) := by decide +kernel
theorem dX8_mean_17 : decode cX8_mean 17 = .ok (.invokestatic 342, 3) := by decide +kernel
theorem dX8_mean_20 : decode cX8_mean 20 = .ok (.ifCond .ne 7, 3) := by decide +kernel
theorem dX8_mean_23 : decode cX8_mean 23 = .ok (.ldc2_w 364, 3) := by decide +kernel
theorem dX8_mean_26 : decode cX8_mean 26 = .ok (.lreturn, 1) := by decide +kernel
theorem dX8_mean_27 : decode cX8_mean 27 = .ok (.lconst 0, 1) := by decide +kernel
theorem dX8_mean_28 : decode cX8_mean 28 = .ok (.lstore 4, 2) := by decide +kernel
theorem dX8_mean_30 : decode cX8_mean 30 = .ok (.iconst 0, 1) := by decide +kernel
theorem dX8_mean_31 : decode cX8_mean 31 = .ok (.istore 6, 2) := by decide +kernel
theorem dX8_mean_33 : decode cX8_mean 33 = .ok (.iload 6, 2) := by decide +kernel
theorem dX8_mean_35 : decode cX8_mean 35 = .ok (.iload_n 2, 1) := by decide +kernel
theorem dX8_mean_36 : decode cX8_mean 36 = .ok (.iconst 1, 1) := by decide +kernel
theorem dX8_mean_37 : decode cX8_mean 37 = .ok (.iadd, 1) := by decide +kernel
theorem dX8_mean_38 : decode cX8_mean 38 = .ok (.invokestatic 148, 3) := by decide +kernel
theorem dX8_mean_41 : decode cX8_mean 41 = .ok (.if_icmp .gt 53, 3) := by decide +kernel
theorem dX8_mean_44 : decode cX8_mean 44 = .ok (.aload_n 0, 1) := by decide +kernel
theorem dX8_mean_45 : decode cX8_mean 45 = .ok (.iload 6, 2) := by decide +kernel
theorem dX8_mean_47 : decode cX8_mean 47 = .ok (.iload_n 2, 1) := by decide +kernel
theorem dX8_mean_48 : decode cX8_mean 48 = .ok (.iconst 1, 1) := by decide +kernel
theorem dX8_mean_49 : decode cX8_mean 49 = .ok (.iadd, 1) := by decide +kernel
theorem dX8_mean_50 : decode cX8_mean 50 = .ok (.invokevirtual 366, 3) := by decide +kernel
theorem dX8_mean_53 : decode cX8_mean 53 = .ok (.lstore 7, 2) := by decide +kernel
theorem dX8_mean_55 : decode cX8_mean 55 = .ok (.aload_n 0, 1) := by decide +kernel
theorem dX8_mean_56 : decode cX8_mean 56 = .ok (.iload 6, 2) := by decide +kernel
theorem dX8_mean_58 : decode cX8_mean 58 = .ok (.iload_n 2, 1) := by decide +kernel
theorem dX8_mean_59 : decode cX8_mean 59 = .ok (.iconst 1, 1) := by decide +kernel
theorem dX8_mean_60 : decode cX8_mean 60 = .ok (.iadd, 1) := by decide +kernel
theorem dX8_mean_61 : decode cX8_mean 61 = .ok (.invokevirtual 370, 3) := by decide +kernel
theorem dX8_mean_64 : decode cX8_mean 64 = .ok (.lload 4, 2) := by decide +kernel
theorem dX8_mean_66 : decode cX8_mean 66 = .ok (.lload 7, 2) := by decide +kernel
theorem dX8_mean_68 : decode cX8_mean 68 = .ok (.aload_n 0, 1) := by decide +kernel
theorem dX8_mean_69 : decode cX8_mean 69 = .ok (.getfield 51, 3) := by decide +kernel
theorem dX8_mean_72 : decode cX8_mean 72 = .ok (.aload_n 0, 1) := by decide +kernel
theorem dX8_mean_73 : decode cX8_mean 73 = .ok (.getfield 19, 3) := by decide +kernel
theorem dX8_mean_76 : decode cX8_mean 76 = .ok (.iload_n 1, 1) := by decide +kernel
theorem dX8_mean_77 : decode cX8_mean 77 = .ok (.iload_n 2, 1) := by decide +kernel
theorem dX8_mean_78 : decode cX8_mean 78 = .ok (.iconst 1, 1) := by decide +kernel
theorem dX8_mean_79 : decode cX8_mean 79 = .ok (.iadd, 1) := by decide +kernel
theorem dX8_mean_80 : decode cX8_mean 80 = .ok (.invokevirtual 185, 3) := by decide +kernel
theorem dX8_mean_83 : decode cX8_mean 83 = .ok (.i2l, 1) := by decide +kernel
theorem dX8_mean_84 : decode cX8_mean 84 = .ok (.lmul, 1) := by decide +kernel
theorem dX8_mean_85 : decode cX8_mean 85 = .ok (.ladd, 1) := by decide +kernel
theorem dX8_mean_86 : decode cX8_mean 86 = .ok (.lstore 4, 2) := by decide +kernel
theorem dX8_mean_88 : decode cX8_mean 88 = .ok (.iinc 6 1, 3) := by decide +kernel
theorem dX8_mean_91 : decode cX8_mean 91 = .ok (.goto (-58), 3) := by decide +kernel
theorem dX8_mean_94 : decode cX8_mean 94 = .ok (.lload 4, 2) := by decide +kernel
theorem dX8_mean_96 : decode cX8_mean 96 = .ok (.bipush 10, 2) := by decide +kernel
theorem dX8_mean_98 : decode cX8_mean 98 = .ok (.iload_n 2, 1) := by decide +kernel
theorem dX8_mean_99 : decode cX8_mean 99 = .ok (.iconst 1, 1) := by decide +kernel
theorem dX8_mean_100 : decode cX8_mean 100 = .ok (.iadd, 1) := by decide +kernel
theorem dX8_mean_101 : decode cX8_mean 101 = .ok (.invokestatic 374, 3) := by decide +kernel
theorem dX8_mean_104 : decode cX8_mean 104 = .ok (.iload_n 3, 1) := by decide +kernel
theorem dX8_mean_105 : decode cX8_mean 105 = .ok (.invokestatic 351, 3) := by decide +kernel
theorem dX8_mean_108 : decode cX8_mean 108 = .ok (.lreturn, 1) := by decide +kernel
theorem dX8_followSnows_0 : decode cX8_followSnows 0 = .ok (.aload_n 0, 1) := by decide +kernel
theorem dX8_followSnows_1 : decode cX8_followSnows 1 = .ok (.getfield 40, 3) := by decide +kernel
theorem dX8_followSnows_4 : decode cX8_followSnows 4 = .ok (.aload_n 0, 1) := by decide +kernel
theorem dX8_followSnows_5 : decode cX8_followSnows 5 = .ok (.getfield 19, 3) := by decide +kernel
theorem dX8_followSnows_8 : decode cX8_followSnows 8 = .ok (.invokevirtual 261, 3) := by decide +kernel
theorem dX8_followSnows_11 : decode cX8_followSnows 11 = .ok (.aload_n 0, 1) := by decide +kernel
theorem dX8_followSnows_12 : decode cX8_followSnows 12 = .ok (.getfield 40, 3) := by decide +kernel
theorem dX8_followSnows_15 : decode cX8_followSnows 15 = .ok (.iload_n 1, 1) := by decide +kernel
theorem dX8_followSnows_16 : decode cX8_followSnows 16 = .ok (.putfield 377, 3) := by decide +kernel
theorem dX8_followSnows_19 : decode cX8_followSnows 19 = .ok (.aload_n 0, 1) := by decide +kernel
theorem dX8_followSnows_20 : decode cX8_followSnows 20 = .ok (.getfield 40, 3) := by decide +kernel
theorem dX8_followSnows_23 : decode cX8_followSnows 23 = .ok (.iload_n 2, 1) := by decide +kernel
theorem dX8_followSnows_24 : decode cX8_followSnows 24 = .ok (.putfield 378, 3) := by decide +kernel
theorem dX8_followSnows_27 : decode cX8_followSnows 27 = .ok (.aload_n 0, 1) := by decide +kernel
theorem dX8_followSnows_28 : decode cX8_followSnows 28 = .ok (.getfield 51, 3) := by decide +kernel
theorem dX8_followSnows_31 : decode cX8_followSnows 31 = .ok (.aload_n 0, 1) := by decide +kernel
theorem dX8_followSnows_32 : decode cX8_followSnows 32 = .ok (.getfield 19, 3) := by decide +kernel
theorem dX8_followSnows_35 : decode cX8_followSnows 35 = .ok (.aload_n 0, 1) := by decide +kernel
theorem dX8_followSnows_36 : decode cX8_followSnows 36 = .ok (.getfield 40, 3) := by decide +kernel
theorem dX8_followSnows_39 : decode cX8_followSnows 39 = .ok (.invokevirtual 266, 3) := by decide +kernel
theorem dX8_followSnows_42 : decode cX8_followSnows 42 = .ok (.return_, 1) := by decide +kernel
theorem dX8_weightOf_0 : decode cX8_weightOf 0 = .ok (.iload_n 1, 1) := by decide +kernel
theorem dX8_weightOf_1 : decode cX8_weightOf 1 = .ok (.invokestatic 226, 3) := by decide +kernel
theorem dX8_weightOf_4 : decode cX8_weightOf 4 = .ok (.istore_n 3, 1) := by decide +kernel
theorem dX8_weightOf_5 : decode cX8_weightOf 5 = .ok (.aload_n 0, 1) := by decide +kernel
theorem dX8_weightOf_6 : decode cX8_weightOf 6 = .ok (.getfield 19, 3) := by decide +kernel
theorem dX8_weightOf_9 : decode cX8_weightOf 9 = .ok (.getfield 381, 3) := by decide +kernel
theorem dX8_weightOf_12 : decode cX8_weightOf 12 = .ok (.iload_n 3, 1) := by decide +kernel
theorem dX8_weightOf_13 : decode cX8_weightOf 13 = .ok (.invokestatic 374, 3) := by decide +kernel
theorem dX8_weightOf_16 : decode cX8_weightOf 16 = .ok (.bipush 10, 2) := by decide +kernel
theorem dX8_weightOf_18 : decode cX8_weightOf 18 = .ok (.aload_n 0, 1) := by decide +kernel
theorem dX8_weightOf_19 : decode cX8_weightOf 19 = .ok (.getfield 19, 3) := by decide +kernel
theorem dX8_weightOf_22 : decode cX8_weightOf 22 = .ok (.getfield 381, 3) := by decide +kernel
theorem dX8_weightOf_25 : decode cX8_weightOf 25 = .ok (.isub, 1) := by decide +kernel
theorem dX8_weightOf_26 : decode cX8_weightOf 26 = .ok (.iload_n 2, 1) := by decide +kernel
theorem dX8_weightOf_27 : decode cX8_weightOf 27 = .ok (.iload_n 3, 1) := by decide +kernel
theorem dX8_weightOf_28 : decode cX8_weightOf 28 = .ok (.isub, 1) := by decide +kernel
theorem dX8_weightOf_29 : decode cX8_weightOf 29 = .ok (.invokestatic 374, 3) := by decide +kernel
theorem dX8_weightOf_32 : decode cX8_weightOf 32 = .ok (.lmul, 1) := by decide +kernel
theorem dX8_weightOf_33 : decode cX8_weightOf 33 = .ok (.lreturn, 1) := by decide +kernel
theorem dX8_rest_0 : decode cX8_rest 0 = .ok (.aload_n 0, 1) := by decide +kernel
theorem dX8_rest_1 : decode cX8_rest 1 = .ok (.iload_n 1, 1) := by decide +kernel
theorem dX8_rest_2 : decode cX8_rest 2 = .ok (.invokevirtual 103, 3) := by decide +kernel
theorem dX8_rest_5 : decode cX8_rest 5 = .ok (.ifCond .eq 11, 3) := by decide +kernel
theorem dX8_rest_8 : decode cX8_rest 8 = .ok (.aload_n 0, 1) := by decide +kernel
theorem dX8_rest_9 : decode cX8_rest 9 = .ok (.iload_n 2, 1) := by decide +kernel
theorem dX8_rest_10 : decode cX8_rest 10 = .ok (.invokevirtual 165, 3) := by decide +kernel
theorem dX8_rest_13 : decode cX8_rest 13 = .ok (.ifCond .ne 6, 3) := by decide +kernel
theorem dX8_rest_16 : decode cX8_rest 16 = .ok (.bipush (-2), 2) := by decide +kernel
theorem dX8_rest_18 : decode cX8_rest 18 = .ok (.ireturn, 1) := by decide +kernel
theorem dX8_rest_19 : decode cX8_rest 19 = .ok (.aload_n 0, 1) := by decide +kernel
theorem dX8_rest_20 : decode cX8_rest 20 = .ok (.iload_n 1, 1) := by decide +kernel
theorem dX8_rest_21 : decode cX8_rest 21 = .ok (.iconst (-1), 1) := by decide +kernel
theorem dX8_rest_22 : decode cX8_rest 22 = .ok (.iload_n 2, 1) := by decide +kernel
theorem dX8_rest_23 : decode cX8_rest 23 = .ok (.invokevirtual 384, 3) := by decide +kernel
theorem dX8_rest_26 : decode cX8_rest 26 = .ok (.ireturn, 1) := by decide +kernel
theorem dX8_swap_0 : decode cX8_swap 0 = .ok (.aload_n 0, 1) := by decide +kernel
theorem dX8_swap_1 : decode cX8_swap 1 = .ok (.iload_n 1, 1) := by decide +kernel
theorem dX8_swap_2 : decode cX8_swap 2 = .ok (.iload_n 2, 1) := by decide +kernel
theorem dX8_swap_3 : decode cX8_swap 3 = .ok (.invokevirtual 202, 3) := by decide +kernel
theorem dX8_swap_6 : decode cX8_swap 6 = .ok (.ifCond .eq 11, 3) := by decide +kernel
theorem dX8_swap_9 : decode cX8_swap 9 = .ok (.aload_n 0, 1) := by decide +kernel
theorem dX8_swap_10 : decode cX8_swap 10 = .ok (.iload_n 3, 1) := by decide +kernel
theorem dX8_swap_11 : decode cX8_swap 11 = .ok (.invokevirtual 165, 3) := by decide +kernel
theorem dX8_swap_14 : decode cX8_swap 14 = .ok (.ifCond .ne 6, 3) := by decide +kernel
theorem dX8_swap_17 : decode cX8_swap 17 = .ok (.bipush (-2), 2) := by decide +kernel
theorem dX8_swap_19 : decode cX8_swap 19 = .ok (.ireturn, 1) := by decide +kernel
theorem dX8_swap_20 : decode cX8_swap 20 = .ok (.aload_n 0, 1) := by decide +kernel
theorem dX8_swap_21 : decode cX8_swap 21 = .ok (.iload_n 1, 1) := by decide +kernel
theorem dX8_swap_22 : decode cX8_swap 22 = .ok (.iload_n 2, 1) := by decide +kernel
theorem dX8_swap_23 : decode cX8_swap 23 = .ok (.iload_n 3, 1) := by decide +kernel
theorem dX8_swap_24 : decode cX8_swap 24 = .ok (.invokevirtual 384, 3) := by decide +kernel
theorem dX8_swap_27 : decode cX8_swap 27 = .ok (.ireturn, 1) := by decide +kernel
theorem dX8_act_0 : decode cX8_act 0 = .ok (.aload_n 0, 1) := by decide +kernel
theorem dX8_act_1 : decode cX8_act 1 = .ok (.getfield 19, 3) := by decide +kernel
theorem dX8_act_4 : decode cX8_act 4 = .ok (.getfield 387, 3) := by decide +kernel
theorem dX8_act_7 : decode cX8_act 7 = .ok (.getfield 391, 3) := by decide +kernel
theorem dX8_act_10 : decode cX8_act 10 = .ok (.bipush 30, 2) := by decide +kernel
theorem dX8_act_12 : decode cX8_act 12 = .ok (.if_icmp .lt 6, 3) := by decide +kernel
theorem dX8_act_15 : decode cX8_act 15 = .ok (.bipush (-5), 2) := by decide +kernel
theorem dX8_act_17 : decode cX8_act 17 = .ok (.ireturn, 1) := by decide +kernel
theorem dX8_act_18 : decode cX8_act 18 = .ok (.aload_n 0, 1) := by decide +kernel
theorem dX8_act_19 : decode cX8_act 19 = .ok (.getfield 19, 3) := by decide +kernel
theorem dX8_act_22 : decode cX8_act 22 = .ok (.getfield 387, 3) := by decide +kernel
theorem dX8_act_25 : decode cX8_act 25 = .ok (.iload_n 1, 1) := by decide +kernel
theorem dX8_act_26 : decode cX8_act 26 = .ok (.iload_n 2, 1) := by decide +kernel
theorem dX8_act_27 : decode cX8_act 27 = .ok (.iload_n 3, 1) := by decide +kernel
theorem dX8_act_28 : decode cX8_act 28 = .ok (.invokevirtual 394, 3) := by decide +kernel
theorem dX8_act_31 : decode cX8_act 31 = .ok (.aload_n 0, 1) := by decide +kernel
theorem dX8_act_32 : decode cX8_act 32 = .ok (.invokevirtual 94, 3) := by decide +kernel
theorem dX8_act_35 : decode cX8_act 35 = .ok (.aload_n 0, 1) := by decide +kernel
theorem dX8_act_36 : decode cX8_act 36 = .ok (.getfield 47, 3) := by decide +kernel
theorem dX8_act_39 : decode cX8_act 39 = .ok (.iload_n 1, 1) := by decide +kernel
theorem dX8_act_40 : decode cX8_act 40 = .ok (.aload_n 0, 1) := by decide +kernel
theorem dX8_act_41 : decode cX8_act 41 = .ok (.getfield 19, 3) := by decide +kernel
theorem dX8_act_44 : decode cX8_act 44 = .ok (.getfield 145, 3) := by decide +kernel
theorem dX8_act_47 : decode cX8_act 47 = .ok (.invokevirtual 155, 3) := by decide +kernel
theorem dX8_act_50 : decode cX8_act 50 = .ok (.ireturn, 1) := by decide +kernel
theorem dX8_undo_0 : decode cX8_undo 0 = .ok (.aload_n 0, 1) := by decide +kernel
theorem dX8_undo_1 : decode cX8_undo 1 = .ok (.invokevirtual 138, 3) := by decide +kernel
theorem dX8_undo_4 : decode cX8_undo 4 = .ok (.ifCond .ne 6, 3) := by decide +kernel
theorem dX8_undo_7 : decode cX8_undo 7 = .ok (.bipush (-2), 2) := by decide +kernel
theorem dX8_undo_9 : decode cX8_undo 9 = .ok (.ireturn, 1) := by decide +kernel
theorem dX8_undo_10 : decode cX8_undo 10 = .ok (.aload_n 0, 1) := by decide +kernel
theorem dX8_undo_11 : decode cX8_undo 11 = .ok (.getfield 19, 3) := by decide +kernel
theorem dX8_undo_14 : decode cX8_undo 14 = .ok (.getfield 387, 3) := by decide +kernel
theorem dX8_undo_17 : decode cX8_undo 17 = .ok (.getfield 391, 3) := by decide +kernel
theorem dX8_undo_20 : decode cX8_undo 20 = .ok (.ifCond .ne 6, 3) := by decide +kernel
theorem dX8_undo_23 : decode cX8_undo 23 = .ok (.bipush (-5), 2) := by decide +kernel
theorem dX8_undo_25 : decode cX8_undo 25 = .ok (.ireturn, 1) := by decide +kernel
theorem dX8_undo_26 : decode cX8_undo 26 = .ok (.aload_n 0, 1) := by decide +kernel
theorem dX8_undo_27 : decode cX8_undo 27 = .ok (.getfield 19, 3) := by decide +kernel
theorem dX8_undo_30 : decode cX8_undo 30 = .ok (.getfield 387, 3) := by decide +kernel
theorem dX8_undo_33 : decode cX8_undo 33 = .ok (.aload_n 0, 1) := by decide +kernel
theorem dX8_undo_34 : decode cX8_undo 34 = .ok (.getfield 19, 3) := by decide +kernel
theorem dX8_undo_37 : decode cX8_undo 37 = .ok (.getfield 387, 3) := by decide +kernel
theorem dX8_undo_40 : decode cX8_undo 40 = .ok (.getfield 391, 3) := by decide +kernel
theorem dX8_undo_43 : decode cX8_undo 43 = .ok (.iconst 1, 1) := by decide +kernel
theorem dX8_undo_44 : decode cX8_undo 44 = .ok (.isub, 1) := by decide +kernel
theorem dX8_undo_45 : decode cX8_undo 45 = .ok (.invokevirtual 397, 3) := by decide +kernel
theorem dX8_undo_48 : decode cX8_undo 48 = .ok (.aload_n 0, 1) := by decide +kernel
theorem dX8_undo_49 : decode cX8_undo 49 = .ok (.invokevirtual 94, 3) := by decide +kernel
theorem dX8_undo_52 : decode cX8_undo 52 = .ok (.aload_n 0, 1) := by decide +kernel
theorem dX8_undo_53 : decode cX8_undo 53 = .ok (.getfield 19, 3) := by decide +kernel
theorem dX8_undo_56 : decode cX8_undo 56 = .ok (.getfield 387, 3) := by decide +kernel
theorem dX8_undo_59 : decode cX8_undo 59 = .ok (.getfield 391, 3) := by decide +kernel
theorem dX8_undo_62 : decode cX8_undo 62 = .ok (.ireturn, 1) := by decide +kernel
theorem dX8_anew_0 : decode cX8_anew 0 = .ok (.aload_n 0, 1) := by decide +kernel
theorem dX8_anew_1 : decode cX8_anew 1 = .ok (.invokevirtual 138, 3) := by decide +kernel
theorem dX8_anew_4 : decode cX8_anew 4 = .ok (.ifCond .ne 6, 3) := by decide +kernel
theorem dX8_anew_7 : decode cX8_anew 7 = .ok (.bipush (-2), 2) := by decide +kernel
theorem dX8_anew_9 : decode cX8_anew 9 = .ok (.ireturn, 1) := by decide +kernel
theorem dX8_anew_10 : decode cX8_anew 10 = .ok (.aload_n 0, 1) := by decide +kernel
theorem dX8_anew_11 : decode cX8_anew 11 = .ok (.getfield 19, 3) := by decide +kernel
theorem dX8_anew_14 : decode cX8_anew 14 = .ok (.getfield 387, 3) := by decide +kernel
theorem dX8_anew_17 : decode cX8_anew 17 = .ok (.getfield 391, 3) := by decide +kernel
theorem dX8_anew_20 : decode cX8_anew 20 = .ok (.istore_n 1, 1) := by decide +kernel
theorem dX8_anew_21 : decode cX8_anew 21 = .ok (.aload_n 0, 1) := by decide +kernel
theorem dX8_anew_22 : decode cX8_anew 22 = .ok (.getfield 19, 3) := by decide +kernel
theorem dX8_anew_25 : decode cX8_anew 25 = .ok (.getfield 387, 3) := by decide +kernel
theorem dX8_anew_28 : decode cX8_anew 28 = .ok (.iconst 0, 1) := by decide +kernel
theorem dX8_anew_29 : decode cX8_anew 29 = .ok (.invokevirtual 397, 3) := by decide +kernel
theorem dX8_anew_32 : decode cX8_anew 32 = .ok (.aload_n 0, 1) := by decide +kernel
theorem dX8_anew_33 : decode cX8_anew 33 = .ok (.invokevirtual 94, 3) := by decide +kernel
theorem dX8_anew_36 : decode cX8_anew 36 = .ok (.iload_n 1, 1) := by decide +kernel
theorem dX8_anew_37 : decode cX8_anew 37 = .ok (.ireturn, 1) := by decide +kernel
theorem dX8_drawn_0 : decode cX8_drawn 0 = .ok (.aload_n 0, 1) := by decide +kernel
theorem dX8_drawn_1 : decode cX8_drawn 1 = .ok (.invokevirtual 138, 3) := by decide +kernel
theorem dX8_drawn_4 : decode cX8_drawn 4 = .ok (.ifCond .eq 19, 3) := by decide +kernel
theorem dX8_drawn_7 : decode cX8_drawn 7 = .ok (.iload_n 1, 1) := by decide +kernel
theorem dX8_drawn_8 : decode cX8_drawn 8 = .ok (.invokestatic 400, 3) := by decide +kernel
theorem dX8_drawn_11 : decode cX8_drawn 11 = .ok (.ifCond .eq 12, 3) := by decide +kernel
theorem dX8_drawn_14 : decode cX8_drawn 14 = .ok (.iload_n 2, 1) := by decide +kernel
theorem dX8_drawn_15 : decode cX8_drawn 15 = .ok (.ifCond .lt 8, 3) := by decide +kernel
theorem dX8_drawn_18 : decode cX8_drawn 18 = .ok (.iload_n 2, 1) := by decide +kernel
theorem dX8_drawn_19 : decode cX8_drawn 19 = .ok (.iconst 2, 1) := by decide +kernel
theorem dX8_drawn_20 : decode cX8_drawn 20 = .ok (.if_icmp .le 6, 3) := by decide +kernel
theorem dX8_drawn_23 : decode cX8_drawn 23 = .ok (.bipush (-2), 2) := by decide +kernel
theorem dX8_drawn_25 : decode cX8_drawn 25 = .ok (.ireturn, 1) := by decide +kernel
theorem dX8_drawn_26 : decode cX8_drawn 26 = .ok (.aload_n 0, 1) := by decide +kernel
theorem dX8_drawn_27 : decode cX8_drawn 27 = .ok (.iload_n 1, 1) := by decide +kernel
theorem dX8_drawn_28 : decode cX8_drawn 28 = .ok (.invokevirtual 403, 3) := by decide +kernel
theorem dX8_drawn_31 : decode cX8_drawn 31 = .ok (.istore_n 3, 1) := by decide +kernel
theorem dX8_drawn_32 : decode cX8_drawn 32 = .ok (.iload_n 2, 1) := by decide +kernel
theorem dX8_drawn_33 : decode cX8_drawn 33 = .ok (.ifCond .ne 5, 3) := by decide +kernel
theorem dX8_drawn_36 : decode cX8_drawn 36 = .ok (.iload_n 3, 1) := by decide +kernel
theorem dX8_drawn_37 : decode cX8_drawn 37 = .ok (.ireturn, 1) := by decide +kernel
theorem dX8_drawn_38 : decode cX8_drawn 38 = .ok (.aload_n 0, 1) := by decide +kernel
theorem dX8_drawn_39 : decode cX8_drawn 39 = .ok (.iload_n 3, 1) := by decide +kernel
theorem dX8_drawn_40 : decode cX8_drawn 40 = .ok (.aload_n 0, 1) := by decide +kernel
theorem dX8_drawn_41 : decode cX8_drawn 41 = .ok (.getfield 19, 3) := by decide +kernel
theorem dX8_drawn_44 : decode cX8_drawn 44 = .ok (.getfield 145, 3) := by decide +kernel
theorem dX8_drawn_47 : decode cX8_drawn 47 = .ok (.invokevirtual 370, 3) := by decide +kernel
theorem dX8_drawn_50 : decode cX8_drawn 50 = .ok (.iload_n 2, 1) := by decide +kernel
theorem dX8_drawn_51 : decode cX8_drawn 51 = .ok (.iconst 1, 1) := by decide +kernel
theorem dX8_drawn_52 : decode cX8_drawn 52 = .ok (.if_icmp .ne 17, 3) := by decide +kernel
theorem dX8_drawn_55 : decode cX8_drawn 55 = .ok (.aload_n 0, 1) := by decide +kernel
theorem dX8_drawn_56 : decode cX8_drawn 56 = .ok (.getfield 51, 3) := by decide +kernel
theorem dX8_drawn_59 : decode cX8_drawn 59 = .ok (.aload_n 0, 1) := by decide +kernel
theorem dX8_drawn_60 : decode cX8_drawn 60 = .ok (.getfield 19, 3) := by decide +kernel
theorem dX8_drawn_63 : decode cX8_drawn 63 = .ok (.invokevirtual 189, 3) := by decide +kernel
theorem dX8_drawn_66 : decode cX8_drawn 66 = .ok (.goto 14, 3) := by decide +kernel
theorem dX8_drawn_69 : decode cX8_drawn 69 = .ok (.aload_n 0, 1) := by decide +kernel
theorem dX8_drawn_70 : decode cX8_drawn 70 = .ok (.getfield 51, 3) := by decide +kernel
theorem dX8_drawn_73 : decode cX8_drawn 73 = .ok (.aload_n 0, 1) := by decide +kernel
theorem dX8_drawn_74 : decode cX8_drawn 74 = .ok (.getfield 19, 3) := by decide +kernel
theorem dX8_drawn_77 : decode cX8_drawn 77 = .ok (.invokevirtual 217, 3) := by decide +kernel
theorem dX8_drawn_80 : decode cX8_drawn 80 = .ok (.ireturn, 1) := by decide +kernel
theorem dX8_luck_0 : decode cX8_luck 0 = .ok (.iload_n 1, 1) := by decide +kernel
theorem dX8_luck_1 : decode cX8_luck 1 = .ok (.invokestatic 400, 3) := by decide +kernel
theorem dX8_luck_4 : decode cX8_luck 4 = .ok (.ifCond .eq 22, 3) := by decide +kernel
theorem dX8_luck_7 : decode cX8_luck 7 = .ok (.iload_n 2, 1) := by decide +kernel
theorem dX8_luck_8 : decode cX8_luck 8 = .ok (.iconst 1, 1) := by decide +kernel
theorem dX8_luck_9 : decode cX8_luck 9 = .ok (.if_icmp .lt 17, 3) := by decide +kernel
theorem dX8_luck_12 : decode cX8_luck 12 = .ok (.iload_n 2, 1) := by decide +kernel
theorem dX8_luck_13 : decode cX8_luck 13 = .ok (.bipush 20, 2) := by decide +kernel
theorem dX8_luck_15 : decode cX8_luck 15 = .ok (.if_icmp .gt 11, 3) := by decide +kernel
theorem dX8_luck_18 : decode cX8_luck 18 = .ok (.aload_n 0, 1) := by decide +kernel
theorem dX8_luck_19 : decode cX8_luck 19 = .ok (.iload_n 3, 1) := by decide +kernel
theorem dX8_luck_20 : decode cX8_luck 20 = .ok (.invokevirtual 126, 3) := by decide +kernel
theorem dX8_luck_23 : decode cX8_luck 23 = .ok (.ifCond .ne 6, 3) := by decide +kernel
theorem dX8_luck_26 : decode cX8_luck 26 = .ok (.bipush (-2), 2) := by decide +kernel
theorem dX8_luck_28 : decode cX8_luck 28 = .ok (.ireturn, 1) := by decide +kernel
theorem dX8_luck_29 : decode cX8_luck 29 = .ok (.iconst 0, 1) := by decide +kernel
theorem dX8_luck_30 : decode cX8_luck 30 = .ok (.istore 4, 2) := by decide +kernel
theorem dX8_luck_32 : decode cX8_luck 32 = .ok (.iconst 0, 1) := by decide +kernel
theorem dX8_luck_33 : decode cX8_luck 33 = .ok (.istore 5, 2) := by decide +kernel
theorem dX8_luck_35 : decode cX8_luck 35 = .ok (.iload 5, 2) := by decide +kernel
theorem dX8_luck_37 : decode cX8_luck 37 = .ok (.iload_n 2, 1) := by decide +kernel
theorem dX8_luck_38 : decode cX8_luck 38 = .ok (.if_icmp .ge 46, 3) := by decide +kernel
theorem dX8_luck_41 : decode cX8_luck 41 = .ok (.aload_n 0, 1) := by decide +kernel
theorem dX8_luck_42 : decode cX8_luck 42 = .ok (.aload_n 0, 1) := by decide +kernel
theorem dX8_luck_43 : decode cX8_luck 43 = .ok (.iload_n 1, 1) := by decide +kernel
theorem dX8_luck_44 : decode cX8_luck 44 = .ok (.iload 5, 2) := by decide +kernel
theorem dX8_luck_46 : decode cX8_luck 46 = .ok (.iadd, 1) := by decide +kernel
theorem dX8_luck_47 : decode cX8_luck 47 = .ok (.invokevirtual 403, 3) := by decide +kernel
theorem dX8_luck_50 : decode cX8_luck 50 = .ok (.aload_n 0, 1) := by decide +kernel
theorem dX8_luck_51 : decode cX8_luck 51 = .ok (.getfield 19, 3) := by decide +kernel
theorem dX8_luck_54 : decode cX8_luck 54 = .ok (.getfield 145, 3) := by decide +kernel
theorem dX8_luck_57 : decode cX8_luck 57 = .ok (.invokevirtual 370, 3) := by decide +kernel
theorem dX8_luck_60 : decode cX8_luck 60 = .ok (.aload_n 0, 1) := by decide +kernel
theorem dX8_luck_61 : decode cX8_luck 61 = .ok (.getfield 51, 3) := by decide +kernel
theorem dX8_luck_64 : decode cX8_luck 64 = .ok (.aload_n 0, 1) := by decide +kernel
theorem dX8_luck_65 : decode cX8_luck 65 = .ok (.getfield 19, 3) := by decide +kernel
theorem dX8_luck_68 : decode cX8_luck 68 = .ok (.iload_n 3, 1) := by decide +kernel
theorem dX8_luck_69 : decode cX8_luck 69 = .ok (.invokevirtual 213, 3) := by decide +kernel
theorem dX8_luck_72 : decode cX8_luck 72 = .ok (.ifCond .eq 6, 3) := by decide +kernel
theorem dX8_luck_75 : decode cX8_luck 75 = .ok (.iinc 4 1, 3) := by decide +kernel
theorem dX8_luck_78 : decode cX8_luck 78 = .ok (.iinc 5 1, 3) := by decide +kernel
theorem dX8_luck_81 : decode cX8_luck 81 = .ok (.goto (-46), 3) := by decide +kernel
theorem dX8_luck_84 : decode cX8_luck 84 = .ok (.iload 4, 2) := by decide +kernel
theorem dX8_luck_86 : decode cX8_luck 86 = .ok (.ireturn, 1) := by decide +kernel
theorem dX8_drawnSnows_0 : decode cX8_drawnSnows 0 = .ok (.iload_n 1, 1) := by decide +kernel
theorem dX8_drawnSnows_1 : decode cX8_drawnSnows 1 = .ok (.i2l, 1) := by decide +kernel
theorem dX8_drawnSnows_2 : decode cX8_drawnSnows 2 = .ok (.lstore_n 2, 1) := by decide +kernel
theorem dX8_drawnSnows_3 : decode cX8_drawnSnows 3 = .ok (.iconst 0, 1) := by decide +kernel
theorem dX8_drawnSnows_4 : decode cX8_drawnSnows 4 = .ok (.istore 4, 2) := by decide +kernel
theorem dX8_drawnSnows_6 : decode cX8_drawnSnows 6 = .ok (.iconst 0, 1) := by decide +kernel
theorem dX8_drawnSnows_7 : decode cX8_drawnSnows 7 = .ok (.istore 5, 2) := by decide +kernel
theorem dX8_drawnSnows_9 : decode cX8_drawnSnows 9 = .ok (.iload 5, 2) := by decide +kernel
theorem dX8_drawnSnows_11 : decode cX8_drawnSnows 11 = .ok (.aload_n 0, 1) := by decide +kernel
theorem dX8_drawnSnows_12 : decode cX8_drawnSnows 12 = .ok (.getfield 19, 3) := by decide +kernel
theorem dX8_drawnSnows_15 : decode cX8_drawnSnows 15 = .ok (.getfield 145, 3) := by decide +kernel
theorem dX8_drawnSnows_18 : decode cX8_drawnSnows 18 = .ok (.if_icmp .ge 53, 3) := by decide +kernel
theorem dX8_drawnSnows_21 : decode cX8_drawnSnows 21 = .ok (.ldc2_w 406, 3) := by decide +kernel
theorem dX8_drawnSnows_24 : decode cX8_drawnSnows 24 = .ok (.lload_n 2, 1) := by decide +kernel
theorem dX8_drawnSnows_25 : decode cX8_drawnSnows 25 = .ok (.lmul, 1) := by decide +kernel
theorem dX8_drawnSnows_26 : decode cX8_drawnSnows 26 = .ok (.ldc2_w 408, 3) := by decide +kernel
theorem dX8_drawnSnows_29 : decode cX8_drawnSnows 29 = .ok (.ladd, 1) := by decide +kernel
theorem dX8_drawnSnows_30 : decode cX8_drawnSnows 30 = .ok (.ldc2_w 410, 3) := by decide +kernel
theorem dX8_drawnSnows_33 : decode cX8_drawnSnows 33 = .ok (.land, 1) := by decide +kernel
theorem dX8_drawnSnows_34 : decode cX8_drawnSnows 34 = .ok (.lstore_n 2, 1) := by decide +kernel
theorem dX8_drawnSnows_35 : decode cX8_drawnSnows 35 = .ok (.lload_n 2, 1) := by decide +kernel
theorem dX8_drawnSnows_36 : decode cX8_drawnSnows 36 = .ok (.ldc2_w 412, 3) := by decide +kernel
theorem dX8_drawnSnows_39 : decode cX8_drawnSnows 39 = .ok (.ldiv, 1) := by decide +kernel
theorem dX8_drawnSnows_40 : decode cX8_drawnSnows 40 = .ok (.ldc2_w 414, 3) := by decide +kernel
theorem dX8_drawnSnows_43 : decode cX8_drawnSnows 43 = .ok (.lrem, 1) := by decide +kernel
theorem dX8_drawnSnows_44 : decode cX8_drawnSnows 44 = .ok (.aload_n 0, 1) := by decide +kernel
theorem dX8_drawnSnows_45 : decode cX8_drawnSnows 45 = .ok (.getfield 19, 3) := by decide +kernel
theorem dX8_drawnSnows_48 : decode cX8_drawnSnows 48 = .ok (.getfield 381, 3) := by decide +kernel
theorem dX8_drawnSnows_51 : decode cX8_drawnSnows 51 = .ok (.i2l, 1) := by decide +kernel
theorem dX8_drawnSnows_52 : decode cX8_drawnSnows 52 = .ok (.lcmp, 1) := by decide +kernel
theorem dX8_drawnSnows_53 : decode cX8_drawnSnows 53 = .ok (.ifCond .ge 12, 3) := by decide +kernel
theorem dX8_drawnSnows_56 : decode cX8_drawnSnows 56 = .ok (.iload 4, 2) := by decide +kernel
theorem dX8_drawnSnows_58 : decode cX8_drawnSnows 58 = .ok (.iconst 1, 1) := by decide +kernel
theorem dX8_drawnSnows_59 : decode cX8_drawnSnows 59 = .ok (.iload 5, 2) := by decide +kernel
theorem dX8_drawnSnows_61 : decode cX8_drawnSnows 61 = .ok (.ishl, 1) := by decide +kernel
theorem dX8_drawnSnows_62 : decode cX8_drawnSnows 62 = .ok (.ior, 1) := by decide +kernel
theorem dX8_drawnSnows_63 : decode cX8_drawnSnows 63 = .ok (.istore 4, 2) := by decide +kernel
theorem dX8_drawnSnows_65 : decode cX8_drawnSnows 65 = .ok (.iinc 5 1, 3) := by decide +kernel
theorem dX8_drawnSnows_68 : decode cX8_drawnSnows 68 = .ok (.goto (-59), 3) := by decide +kernel
theorem dX8_drawnSnows_71 : decode cX8_drawnSnows 71 = .ok (.iload 4, 2) := by decide +kernel
theorem dX8_drawnSnows_73 : decode cX8_drawnSnows 73 = .ok (.ireturn, 1) := by decide +kernel
theorem dX8_rate_0 : decode cX8_rate 0 = .ok (.aload_n 0, 1) := by decide +kernel
theorem dX8_rate_1 : decode cX8_rate 1 = .ok (.iload_n 1, 1) := by decide +kernel
theorem dX8_rate_2 : decode cX8_rate 2 = .ok (.invokevirtual 103, 3) := by decide +kernel
theorem dX8_rate_5 : decode cX8_rate 5 = .ok (.ifCond .eq 13, 3) := by decide +kernel
theorem dX8_rate_8 : decode cX8_rate 8 = .ok (.iload_n 2, 1) := by decide +kernel
theorem dX8_rate_9 : decode cX8_rate 9 = .ok (.ifCond .lt 9, 3) := by decide +kernel
theorem dX8_rate_12 : decode cX8_rate 12 = .ok (.iload_n 2, 1) := by decide +kernel
theorem dX8_rate_13 : decode cX8_rate 13 = .ok (.bipush 40, 2) := by decide +kernel
theorem dX8_rate_15 : decode cX8_rate 15 = .ok (.if_icmp .le 6, 3) := by decide +kernel
theorem dX8_rate_18 : decode cX8_rate 18 = .ok (.bipush (-2), 2) := by decide +kernel
theorem dX8_rate_20 : decode cX8_rate 20 = .ok (.ireturn, 1) := by decide +kernel
theorem dX8_rate_21 : decode cX8_rate 21 = .ok (.aload_n 0, 1) := by decide +kernel
theorem dX8_rate_22 : decode cX8_rate 22 = .ok (.getfield 19, 3) := by decide +kernel
theorem dX8_rate_25 : decode cX8_rate 25 = .ok (.getfield 387, 3) := by decide +kernel
theorem dX8_rate_28 : decode cX8_rate 28 = .ok (.getfield 391, 3) := by decide +kernel
theorem dX8_rate_31 : decode cX8_rate 31 = .ok (.ifCond .le 6, 3) := by decide +kernel
theorem dX8_rate_34 : decode cX8_rate 34 = .ok (.bipush (-5), 2) := by decide +kernel
theorem dX8_rate_36 : decode cX8_rate 36 = .ok (.ireturn, 1) := by decide +kernel
theorem dX8_rate_37 : decode cX8_rate 37 = .ok (.aload_n 0, 1) := by decide +kernel
theorem dX8_rate_38 : decode cX8_rate 38 = .ok (.getfield 19, 3) := by decide +kernel
theorem dX8_rate_41 : decode cX8_rate 41 = .ok (.getfield 107, 3) := by decide +kernel
theorem dX8_rate_44 : decode cX8_rate 44 = .ok (.iload_n 1, 1) := by decide +kernel
theorem dX8_rate_45 : decode cX8_rate 45 = .ok (.iaload, 1) := by decide +kernel
theorem dX8_rate_46 : decode cX8_rate 46 = .ok (.istore_n 3, 1) := by decide +kernel
theorem dX8_rate_47 : decode cX8_rate 47 = .ok (.aload_n 0, 1) := by decide +kernel
theorem dX8_rate_48 : decode cX8_rate 48 = .ok (.getfield 19, 3) := by decide +kernel
theorem dX8_rate_51 : decode cX8_rate 51 = .ok (.getfield 107, 3) := by decide +kernel
theorem dX8_rate_54 : decode cX8_rate 54 = .ok (.iload_n 1, 1) := by decide +kernel
theorem dX8_rate_55 : decode cX8_rate 55 = .ok (.iload_n 2, 1) := by decide +kernel
theorem dX8_rate_56 : decode cX8_rate 56 = .ok (.iastore, 1) := by decide +kernel
theorem dX8_rate_57 : decode cX8_rate 57 = .ok (.aload_n 0, 1) := by decide +kernel
theorem dX8_rate_58 : decode cX8_rate 58 = .ok (.invokevirtual 94, 3) := by decide +kernel
theorem dX8_rate_61 : decode cX8_rate 61 = .ok (.iload_n 3, 1) := by decide +kernel
theorem dX8_rate_62 : decode cX8_rate 62 = .ok (.ireturn, 1) := by decide +kernel
theorem dX8_count_0 : decode cX8_count 0 = .ok (.iload_n 1, 1) := by decide +kernel
theorem dX8_count_1 : decode cX8_count 1 = .ok (.tableswitch 159 0 11 #[63, 71, 79, 87, 95, 103, 111, 119, 127, 138, 146, 154], 63) := by decide +kernel
theorem dX8_count_64 : decode cX8_count 64 = .ok (.aload_n 0, 1) := by decide +kernel
theorem dX8_count_65 : decode cX8_count 65 = .ok (.getfield 19, 3) := by decide +kernel
theorem dX8_count_68 : decode cX8_count 68 = .ok (.getfield 145, 3) := by decide +kernel
theorem dX8_count_71 : decode cX8_count 71 = .ok (.ireturn, 1) := by decide +kernel
theorem dX8_count_72 : decode cX8_count 72 = .ok (.aload_n 0, 1) := by decide +kernel
theorem dX8_count_73 : decode cX8_count 73 = .ok (.getfield 19, 3) := by decide +kernel
theorem dX8_count_76 : decode cX8_count 76 = .ok (.getfield 242, 3) := by decide +kernel
theorem dX8_count_79 : decode cX8_count 79 = .ok (.ireturn, 1) := by decide +kernel
theorem dX8_count_80 : decode cX8_count 80 = .ok (.aload_n 0, 1) := by decide +kernel
theorem dX8_count_81 : decode cX8_count 81 = .ok (.getfield 19, 3) := by decide +kernel
theorem dX8_count_84 : decode cX8_count 84 = .ok (.getfield 245, 3) := by decide +kernel
theorem dX8_count_87 : decode cX8_count 87 = .ok (.ireturn, 1) := by decide +kernel
theorem dX8_count_88 : decode cX8_count 88 = .ok (.aload_n 0, 1) := by decide +kernel
theorem dX8_count_89 : decode cX8_count 89 = .ok (.getfield 19, 3) := by decide +kernel
theorem dX8_count_92 : decode cX8_count 92 = .ok (.getfield 381, 3) := by decide +kernel
theorem dX8_count_95 : decode cX8_count 95 = .ok (.ireturn, 1) := by decide +kernel
theorem dX8_count_96 : decode cX8_count 96 = .ok (.aload_n 0, 1) := by decide +kernel
theorem dX8_count_97 : decode cX8_count 97 = .ok (.getfield 19, 3) := by decide +kernel
theorem dX8_count_100 : decode cX8_count 100 = .ok (.getfield 158, 3) := by decide +kernel
theorem dX8_count_103 : decode cX8_count 103 = .ok (.ireturn, 1) := by decide +kernel
theorem dX8_count_104 : decode cX8_count 104 = .ok (.aload_n 0, 1) := by decide +kernel
theorem dX8_count_105 : decode cX8_count 105 = .ok (.getfield 19, 3) := by decide +kernel
theorem dX8_count_108 : decode cX8_count 108 = .ok (.getfield 416, 3) := by decide +kernel
theorem dX8_count_111 : decode cX8_count 111 = .ok (.ireturn, 1) := by decide +kernel
theorem dX8_count_112 : decode cX8_count 112 = .ok (.aload_n 0, 1) := by decide +kernel
theorem dX8_count_113 : decode cX8_count 113 = .ok (.getfield 19, 3) := by decide +kernel
theorem dX8_count_116 : decode cX8_count 116 = .ok (.getfield 419, 3) := by decide +kernel
theorem dX8_count_119 : decode cX8_count 119 = .ok (.ireturn, 1) := by decide +kernel
theorem dX8_count_120 : decode cX8_count 120 = .ok (.aload_n 0, 1) := by decide +kernel
theorem dX8_count_121 : decode cX8_count 121 = .ok (.getfield 19, 3) := by decide +kernel
theorem dX8_count_124 : decode cX8_count 124 = .ok (.getfield 422, 3) := by decide +kernel
theorem dX8_count_127 : decode cX8_count 127 = .ok (.ireturn, 1) := by decide +kernel
theorem dX8_count_128 : decode cX8_count 128 = .ok (.aload_n 0, 1) := by decide +kernel
theorem dX8_count_129 : decode cX8_count 129 = .ok (.getfield 19, 3) := by decide +kernel
theorem dX8_count_132 : decode cX8_count 132 = .ok (.getfield 387, 3) := by decide +kernel
theorem dX8_count_135 : decode cX8_count 135 = .ok (.getfield 391, 3) := by decide +kernel
theorem dX8_count_138 : decode cX8_count 138 = .ok (.ireturn, 1) := by decide +kernel
theorem dX8_count_139 : decode cX8_count 139 = .ok (.aload_n 0, 1) := by decide +kernel
theorem dX8_count_140 : decode cX8_count 140 = .ok (.getfield 19, 3) := by decide +kernel
theorem dX8_count_143 : decode cX8_count 143 = .ok (.getfield 97, 3) := by decide +kernel
theorem dX8_count_146 : decode cX8_count 146 = .ok (.ireturn, 1) := by decide +kernel
theorem dX8_count_147 : decode cX8_count 147 = .ok (.aload_n 0, 1) := by decide +kernel
theorem dX8_count_148 : decode cX8_count 148 = .ok (.getfield 10, 3) := by decide +kernel
theorem dX8_count_151 : decode cX8_count 151 = .ok (.getfield 77, 3) := by decide +kernel
theorem dX8_count_154 : decode cX8_count 154 = .ok (.ireturn, 1) := by decide +kernel
theorem dX8_count_155 : decode cX8_count 155 = .ok (.aload_n 0, 1) := by decide +kernel
theorem dX8_count_156 : decode cX8_count 156 = .ok (.invokevirtual 425, 3) := by decide +kernel
theorem dX8_count_159 : decode cX8_count 159 = .ok (.ireturn, 1) := by decide +kernel
theorem dX8_count_160 : decode cX8_count 160 = .ok (.iconst (-1), 1) := by decide +kernel
theorem dX8_count_161 : decode cX8_count 161 = .ok (.ireturn, 1) := by decide +kernel
theorem dX8_rowsThere_0 : decode cX8_rowsThere 0 = .ok (.iconst 0, 1) := by decide +kernel
theorem dX8_rowsThere_1 : decode cX8_rowsThere 1 = .ok (.istore_n 1, 1) := by decide +kernel
theorem dX8_rowsThere_2 : decode cX8_rowsThere 2 = .ok (.iconst 0, 1) := by decide +kernel
theorem dX8_rowsThere_3 : decode cX8_rowsThere 3 = .ok (.istore_n 2, 1) := by decide +kernel
theorem dX8_rowsThere_4 : decode cX8_rowsThere 4 = .ok (.iload_n 2, 1) := by decide +kernel
theorem dX8_rowsThere_5 : decode cX8_rowsThere 5 = .ok (.iconst 4, 1) := by decide +kernel
theorem dX8_rowsThere_6 : decode cX8_rowsThere 6 = .ok (.if_icmp .ge 24, 3) := by decide +kernel
theorem dX8_rowsThere_9 : decode cX8_rowsThere 9 = .ok (.aload_n 0, 1) := by decide +kernel
theorem dX8_rowsThere_10 : decode cX8_rowsThere 10 = .ok (.getfield 33, 3) := by decide +kernel
theorem dX8_rowsThere_13 : decode cX8_rowsThere 13 = .ok (.iload_n 2, 1) := by decide +kernel
theorem dX8_rowsThere_14 : decode cX8_rowsThere 14 = .ok (.aaload, 1) := by decide +kernel
theorem dX8_rowsThere_15 : decode cX8_rowsThere 15 = .ok (.invokevirtual 313, 3) := by decide +kernel
theorem dX8_rowsThere_18 : decode cX8_rowsThere 18 = .ok (.ifCond .eq 6, 3) := by decide +kernel
theorem dX8_rowsThere_21 : decode cX8_rowsThere 21 = .ok (.iinc 1 1, 3) := by decide +kernel
theorem dX8_rowsThere_24 : decode cX8_rowsThere 24 = .ok (.iinc 2 1, 3) := by decide +kernel
theorem dX8_rowsThere_27 : decode cX8_rowsThere 27 = .ok (.goto (-23), 3) := by decide +kernel
theorem dX8_rowsThere_30 : decode cX8_rowsThere 30 = .ok (.iload_n 1, 1) := by decide +kernel
theorem dX8_rowsThere_31 : decode cX8_rowsThere 31 = .ok (.ireturn, 1) := by decide +kernel
theorem dX8_image_0 : decode cX8_image 0 = .ok (.iload_n 1, 1) := by decide +kernel
theorem dX8_image_1 : decode cX8_image 1 = .ok (.ifCond .lt 8, 3) := by decide +kernel
theorem dX8_image_4 : decode cX8_image 4 = .ok (.iload_n 1, 1) := by decide +kernel
theorem dX8_image_5 : decode cX8_image 5 = .ok (.iconst 3, 1) := by decide +kernel
theorem dX8_image_6 : decode cX8_image 6 = .ok (.if_icmp .lt 6, 3) := by decide +kernel
theorem dX8_image_9 : decode cX8_image 9 = .ok (.bipush (-2), 2) := by decide +kernel
theorem dX8_image_11 : decode cX8_image 11 = .ok (.ireturn, 1) := by decide +kernel
theorem dX8_image_12 : decode cX8_image 12 = .ok (.aload_n 0, 1) := by decide +kernel
theorem dX8_image_13 : decode cX8_image 13 = .ok (.getfield 23, 3) := by decide +kernel
theorem dX8_image_16 : decode cX8_image 16 = .ok (.iload_n 1, 1) := by decide +kernel
theorem dX8_image_17 : decode cX8_image 17 = .ok (.aaload, 1) := by decide +kernel
theorem dX8_image_18 : decode cX8_image 18 = .ok (.aload_n 0, 1) := by decide +kernel
theorem dX8_image_19 : decode cX8_image 19 = .ok (.getfield 19, 3) := by decide +kernel
theorem dX8_image_22 : decode cX8_image 22 = .ok (.invokevirtual 428, 3) := by decide +kernel
theorem dX8_image_25 : decode cX8_image 25 = .ok (.aload_n 0, 1) := by decide +kernel
theorem dX8_image_26 : decode cX8_image 26 = .ok (.getfield 27, 3) := by decide +kernel
theorem dX8_image_29 : decode cX8_image 29 = .ok (.iload_n 1, 1) := by decide +kernel
theorem dX8_image_30 : decode cX8_image 30 = .ok (.iconst 1, 1) := by decide +kernel
theorem dX8_image_31 : decode cX8_image 31 = .ok (.bastore, 1) := by decide +kernel
theorem dX8_image_32 : decode cX8_image 32 = .ok (.iconst 0, 1) := by decide +kernel
theorem dX8_image_33 : decode cX8_image 33 = .ok (.ireturn, 1) := by decide +kernel
theorem dX8_back_0 : decode cX8_back 0 = .ok (.iload_n 1, 1) := by decide +kernel
theorem dX8_back_1 : decode cX8_back 1 = .ok (.ifCond .lt 8, 3) := by decide +kernel
theorem dX8_back_4 : decode cX8_back 4 = .ok (.iload_n 1, 1) := by decide +kernel
theorem dX8_back_5 : decode cX8_back 5 = .ok (.iconst 3, 1) := by decide +kernel
theorem dX8_back_6 : decode cX8_back 6 = .ok (.if_icmp .lt 6, 3) := by decide +kernel
theorem dX8_back_9 : decode cX8_back 9 = .ok (.bipush (-2), 2) := by decide +kernel
theorem dX8_back_11 : decode cX8_back 11 = .ok (.ireturn, 1) := by decide +kernel
theorem dX8_back_12 : decode cX8_back 12 = .ok (.aload_n 0, 1) := by decide +kernel
theorem dX8_back_13 : decode cX8_back 13 = .ok (.getfield 27, 3) := by decide +kernel
theorem dX8_back_16 : decode cX8_back 16 = .ok (.iload_n 1, 1) := by decide +kernel
theorem dX8_back_17 : decode cX8_back 17 = .ok (.baload, 1) := by decide +kernel
theorem dX8_back_18 : decode cX8_back 18 = .ok (.ifCond .ne 6, 3) := by decide +kernel
theorem dX8_back_21 : decode cX8_back 21 = .ok (.bipush (-6), 2) := by decide +kernel
theorem dX8_back_23 : decode cX8_back 23 = .ok (.ireturn, 1) := by decide +kernel
theorem dX8_back_24 : decode cX8_back 24 = .ok (.aload_n 0, 1) := by decide +kernel
theorem dX8_back_25 : decode cX8_back 25 = .ok (.getfield 19, 3) := by decide +kernel
theorem dX8_back_28 : decode cX8_back 28 = .ok (.aload_n 0, 1) := by decide +kernel
theorem dX8_back_29 : decode cX8_back 29 = .ok (.getfield 23, 3) := by decide +kernel
theorem dX8_back_32 : decode cX8_back 32 = .ok (.iload_n 1, 1) := by decide +kernel
theorem dX8_back_33 : decode cX8_back 33 = .ok (.aaload, 1) := by decide +kernel
theorem dX8_back_34 : decode cX8_back 34 = .ok (.invokevirtual 428, 3) := by decide +kernel
theorem dX8_back_37 : decode cX8_back 37 = .ok (.aload_n 0, 1) := by decide +kernel
theorem dX8_back_38 : decode cX8_back 38 = .ok (.invokevirtual 94, 3) := by decide +kernel
theorem dX8_back_41 : decode cX8_back 41 = .ok (.iconst 0, 1) := by decide +kernel
theorem dX8_back_42 : decode cX8_back 42 = .ok (.ireturn, 1) := by decide +kernel
theorem dX8_row_0 : decode cX8_row 0 = .ok (.iload_n 1, 1) := by decide +kernel
theorem dX8_row_1 : decode cX8_row 1 = .ok (.invokestatic 310, 3) := by decide +kernel
theorem dX8_row_4 : decode cX8_row 4 = .ok (.ifCond .eq 18, 3) := by decide +kernel
theorem dX8_row_7 : decode cX8_row 7 = .ok (.iload_n 2, 1) := by decide +kernel
theorem dX8_row_8 : decode cX8_row 8 = .ok (.ifCond .lt 14, 3) := by decide +kernel
theorem dX8_row_11 : decode cX8_row 11 = .ok (.iload_n 2, 1) := by decide +kernel
theorem dX8_row_12 : decode cX8_row 12 = .ok (.iconst 4, 1) := by decide +kernel
theorem dX8_row_13 : decode cX8_row 13 = .ok (.if_icmp .ge 9, 3) := by decide +kernel
theorem dX8_row_16 : decode cX8_row 16 = .ok (.iload_n 3, 1) := by decide +kernel
theorem dX8_row_17 : decode cX8_row 17 = .ok (.bipush 60, 2) := by decide +kernel
theorem dX8_row_19 : decode cX8_row 19 = .ok (.if_icmp .le 6, 3) := by decide +kernel
theorem dX8_row_22 : decode cX8_row 22 = .ok (.bipush (-2), 2) := by decide +kernel
theorem dX8_row_24 : decode cX8_row 24 = .ok (.ireturn, 1) := by decide +kernel
theorem dX8_row_25 : decode cX8_row 25 = .ok (.iload_n 3, 1) := by decide +kernel
theorem dX8_row_26 : decode cX8_row 26 = .ok (.ifCond .ge 6, 3) := by decide +kernel
theorem dX8_row_29 : decode cX8_row 29 = .ok (.bipush (-3), 2) := by decide +kernel
theorem dX8_row_31 : decode cX8_row 31 = .ok (.ireturn, 1) := by decide +kernel
theorem dX8_row_32 : decode cX8_row 32 = .ok (.aload_n 0, 1) := by decide +kernel
theorem dX8_row_33 : decode cX8_row 33 = .ok (.getfield 33, 3) := by decide +kernel
theorem dX8_row_36 : decode cX8_row 36 = .ok (.iload_n 1, 1) := by decide +kernel
theorem dX8_row_37 : decode cX8_row 37 = .ok (.aaload, 1) := by decide +kernel
theorem dX8_row_38 : decode cX8_row 38 = .ok (.iload_n 2, 1) := by decide +kernel
theorem dX8_row_39 : decode cX8_row 39 = .ok (.iload_n 3, 1) := by decide +kernel
theorem dX8_row_40 : decode cX8_row 40 = .ok (.invokevirtual 431, 3) := by decide +kernel
theorem dX8_row_43 : decode cX8_row 43 = .ok (.iconst 0, 1) := by decide +kernel
theorem dX8_row_44 : decode cX8_row 44 = .ok (.ireturn, 1) := by decide +kernel
theorem dX8_write_0 : decode cX8_write 0 = .ok (.iload_n 1, 1) := by decide +kernel
theorem dX8_write_1 : decode cX8_write 1 = .ok (.invokestatic 310, 3) := by decide +kernel
theorem dX8_write_4 : decode cX8_write 4 = .ok (.ifCond .ne 6, 3) := by decide +kernel
theorem dX8_write_7 : decode cX8_write 7 = .ok (.bipush (-2), 2) := by decide +kernel
theorem dX8_write_9 : decode cX8_write 9 = .ok (.ireturn, 1) := by decide +kernel
theorem dX8_write_10 : decode cX8_write 10 = .ok (.aload_n 0, 1) := by decide +kernel
theorem dX8_write_11 : decode cX8_write 11 = .ok (.getfield 33, 3) := by decide +kernel
theorem dX8_write_14 : decode cX8_write 14 = .ok (.iload_n 1, 1) := by decide +kernel
theorem dX8_write_15 : decode cX8_write 15 = .ok (.aaload, 1) := by decide +kernel
theorem dX8_write_16 : decode cX8_write 16 = .ok (.astore 5, 2) := by decide +kernel
theorem dX8_write_18 : decode cX8_write 18 = .ok (.aload 5, 2) := by decide +kernel
theorem dX8_write_20 : decode cX8_write 20 = .ok (.invokevirtual 313, 3) := by decide +kernel
theorem dX8_write_23 : decode cX8_write 23 = .ok (.ifCond .ne 6, 3) := by decide +kernel
theorem dX8_write_26 : decode cX8_write 26 = .ok (.bipush (-6), 2) := by decide +kernel
theorem dX8_write_28 : decode cX8_write 28 = .ok (.ireturn, 1) := by decide +kernel
theorem dX8_write_29 : decode cX8_write 29 = .ok (.iload_n 2, 1) := by decide +kernel
theorem dX8_write_30 : decode cX8_write 30 = .ok (.ifCond .lt 12, 3) := by decide +kernel
theorem dX8_write_33 : decode cX8_write 33 = .ok (.iload_n 2, 1) := by decide +kernel
theorem dX8_write_34 : decode cX8_write 34 = .ok (.aload 5, 2) := by decide +kernel
theorem dX8_write_36 : decode cX8_write 36 = .ok (.getfield 433, 3) := by decide +kernel
theorem dX8_write_39 : decode cX8_write 39 = .ok (.if_icmp .lt 6, 3) := by decide +kernel
theorem dX8_write_42 : decode cX8_write 42 = .ok (.bipush (-7), 2) := by decide +kernel
theorem dX8_write_44 : decode cX8_write 44 = .ok (.ireturn, 1) := by decide +kernel
theorem dX8_write_45 : decode cX8_write 45 = .ok (.aload 5, 2) := by decide +kernel
theorem dX8_write_47 : decode cX8_write 47 = .ok (.getfield 434, 3) := by decide +kernel
theorem dX8_write_50 : decode cX8_write 50 = .ok (.iload_n 2, 1) := by decide +kernel
theorem dX8_write_51 : decode cX8_write 51 = .ok (.lload_n 3, 1) := by decide +kernel
theorem dX8_write_52 : decode cX8_write 52 = .ok (.aload 5, 2) := by decide +kernel
theorem dX8_write_54 : decode cX8_write 54 = .ok (.getfield 438, 3) := by decide +kernel
theorem dX8_write_57 : decode cX8_write 57 = .ok (.invokestatic 441, 3) := by decide +kernel
theorem dX8_write_60 : decode cX8_write 60 = .ok (.lastore, 1) := by decide +kernel
theorem dX8_write_61 : decode cX8_write 61 = .ok (.iconst 0, 1) := by decide +kernel
theorem dX8_write_62 : decode cX8_write 62 = .ok (.ireturn, 1) := by decide +kernel
theorem dX8_paste_0 : decode cX8_paste 0 = .ok (.iload_n 1, 1) := by decide +kernel
theorem dX8_paste_1 : decode cX8_paste 1 = .ok (.invokestatic 310, 3) := by decide +kernel
theorem dX8_paste_4 : decode cX8_paste 4 = .ok (.ifCond .eq 10, 3) := by decide +kernel
theorem dX8_paste_7 : decode cX8_paste 7 = .ok (.iload_n 3, 1) := by decide +kernel
theorem dX8_paste_8 : decode cX8_paste 8 = .ok (.invokestatic 310, 3) := by decide +kernel
theorem dX8_paste_11 : decode cX8_paste 11 = .ok (.ifCond .ne 6, 3) := by decide +kernel
theorem dX8_paste_14 : decode cX8_paste 14 = .ok (.bipush (-2), 2) := by decide +kernel
theorem dX8_paste_16 : decode cX8_paste 16 = .ok (.ireturn, 1) := by decide +kernel
theorem dX8_paste_17 : decode cX8_paste 17 = .ok (.aload_n 0, 1) := by decide +kernel
theorem dX8_paste_18 : decode cX8_paste 18 = .ok (.getfield 33, 3) := by decide +kernel
theorem dX8_paste_21 : decode cX8_paste 21 = .ok (.iload_n 1, 1) := by decide +kernel
theorem dX8_paste_22 : decode cX8_paste 22 = .ok (.aaload, 1) := by decide +kernel
theorem dX8_paste_23 : decode cX8_paste 23 = .ok (.astore 6, 2) := by decide +kernel
theorem dX8_paste_25 : decode cX8_paste 25 = .ok (.aload_n 0, 1) := by decide +kernel
theorem dX8_paste_26 : decode cX8_paste 26 = .ok (.getfield 33, 3) := by decide +kernel
theorem dX8_paste_29 : decode cX8_paste 29 = .ok (.iload_n 3, 1) := by decide +kernel
theorem dX8_paste_30 : decode cX8_paste 30 = .ok (.aaload, 1) := by decide +kernel
theorem dX8_paste_31 : decode cX8_paste 31 = .ok (.astore 7, 2) := by decide +kernel
theorem dX8_paste_33 : decode cX8_paste 33 = .ok (.aload 6, 2) := by decide +kernel
theorem dX8_paste_35 : decode cX8_paste 35 = .ok (.invokevirtual 313, 3) := by decide +kernel
theorem dX8_paste_38 : decode cX8_paste 38 = .ok (.ifCond .eq 11, 3) := by decide +kernel
theorem dX8_paste_41 : decode cX8_paste 41 = .ok (.aload 7, 2) := by decide +kernel
theorem dX8_paste_43 : decode cX8_paste 43 = .ok (.invokevirtual 313, 3) := by decide +kernel
theorem dX8_paste_46 : decode cX8_paste 46 = .ok (.ifCond .ne 6, 3) := by decide +kernel
theorem dX8_paste_49 : decode cX8_paste 49 = .ok (.bipush (-6), 2) := by decide +kernel
theorem dX8_paste_51 : decode cX8_paste 51 = .ok (.ireturn, 1) := by decide +kernel
theorem dX8_paste_52 : decode cX8_paste 52 = .ok (.aload 6, 2) := by decide +kernel
theorem dX8_paste_54 : decode cX8_paste 54 = .ok (.getfield 438, 3) := by decide +kernel
theorem dX8_paste_57 : decode cX8_paste 57 = .ok (.aload 7, 2) := by decide +kernel
theorem dX8_paste_59 : decode cX8_paste 59 = .ok (.getfield 438, 3) := by decide +kernel
theorem dX8_paste_62 : decode cX8_paste 62 = .ok (.if_icmp .eq 6, 3) := by decide +kernel
theorem dX8_paste_65 : decode cX8_paste 65 = .ok (.bipush (-8), 2) := by decide +kernel
theorem dX8_paste_67 : decode cX8_paste 67 = .ok (.ireturn, 1) := by decide +kernel
theorem dX8_paste_68 : decode cX8_paste 68 = .ok (.aload 6, 2) := by decide +kernel
theorem dX8_paste_70 : decode cX8_paste 70 = .ok (.iload_n 2, 1) := by decide +kernel
theorem dX8_paste_71 : decode cX8_paste 71 = .ok (.iload 5, 2) := by decide +kernel
theorem dX8_paste_73 : decode cX8_paste 73 = .ok (.invokevirtual 445, 3) := by decide +kernel
theorem dX8_paste_76 : decode cX8_paste 76 = .ok (.ifCond .eq 15, 3) := by decide +kernel
theorem dX8_paste_79 : decode cX8_paste 79 = .ok (.aload 7, 2) := by decide +kernel
theorem dX8_paste_81 : decode cX8_paste 81 = .ok (.iload 4, 2) := by decide +kernel
theorem dX8_paste_83 : decode cX8_paste 83 = .ok (.iload 5, 2) := by decide +kernel
theorem dX8_paste_85 : decode cX8_paste 85 = .ok (.invokevirtual 445, 3) := by decide +kernel
theorem dX8_paste_88 : decode cX8_paste 88 = .ok (.ifCond .ne 6, 3) := by decide +kernel
theorem dX8_paste_91 : decode cX8_paste 91 = .ok (.bipush (-7), 2) := by decide +kernel
theorem dX8_paste_93 : decode cX8_paste 93 = .ok (.ireturn, 1) := by decide +kernel
theorem dX8_paste_94 : decode cX8_paste 94 = .ok (.aload 6, 2) := by decide +kernel
theorem dX8_paste_96 : decode cX8_paste 96 = .ok (.getfield 434, 3) := by decide +kernel
theorem dX8_paste_99 : decode cX8_paste 99 = .ok (.iload_n 2, 1) := by decide +kernel
theorem dX8_paste_100 : decode cX8_paste 100 = .ok (.aload 7, 2) := by decide +kernel
theorem dX8_paste_102 : decode cX8_paste 102 = .ok (.getfield 434, 3) := by decide +kernel
theorem dX8_paste_105 : decode cX8_paste 105 = .ok (.iload 4, 2) := by decide +kernel
theorem dX8_paste_107 : decode cX8_paste 107 = .ok (.iload 5, 2) := by decide +kernel
theorem dX8_paste_109 : decode cX8_paste 109 = .ok (.invokestatic 448, 3) := by decide +kernel
theorem dX8_paste_112 : decode cX8_paste 112 = .ok (.iconst 0, 1) := by decide +kernel
theorem dX8_paste_113 : decode cX8_paste 113 = .ok (.ireturn, 1) := by decide +kernel
theorem dX8_cut_0 : decode cX8_cut 0 = .ok (.iload_n 2, 1) := by decide +kernel
theorem dX8_cut_1 : decode cX8_cut 1 = .ok (.tableswitch 41 0 2 #[27, 32, 37], 27) := by decide +kernel
theorem dX8_cut_28 : decode cX8_cut 28 = .ok (.lload_n 0, 1) := by decide +kernel
theorem dX8_cut_29 : decode cX8_cut 29 = .ok (.l2i, 1) := by decide +kernel
theorem dX8_cut_30 : decode cX8_cut 30 = .ok (.i2b, 1) := by decide +kernel
theorem dX8_cut_31 : decode cX8_cut 31 = .ok (.i2l, 1) := by decide +kernel
theorem dX8_cut_32 : decode cX8_cut 32 = .ok (.lreturn, 1) := by decide +kernel
theorem dX8_cut_33 : decode cX8_cut 33 = .ok (.lload_n 0, 1) := by decide +kernel
theorem dX8_cut_34 : decode cX8_cut 34 = .ok (.l2i, 1) := by decide +kernel
theorem dX8_cut_35 : decode cX8_cut 35 = .ok (.i2s, 1) := by decide +kernel
theorem dX8_cut_36 : decode cX8_cut 36 = .ok (.i2l, 1) := by decide +kernel
theorem dX8_cut_37 : decode cX8_cut 37 = .ok (.lreturn, 1) := by decide +kernel
theorem dX8_cut_38 : decode cX8_cut 38 = .ok (.lload_n 0, 1) := by decide +kernel
theorem dX8_cut_39 : decode cX8_cut 39 = .ok (.l2i, 1) := by decide +kernel
theorem dX8_cut_40 : decode cX8_cut 40 = .ok (.i2l, 1) := by decide +kernel
theorem dX8_cut_41 : decode cX8_cut 41 = .ok (.lreturn, 1) := by decide +kernel
theorem dX8_cut_42 : decode cX8_cut 42 = .ok (.lload_n 0, 1) := by decide +kernel
theorem dX8_cut_43 : decode cX8_cut 43 = .ok (.lreturn, 1) := by decide +kernel
theorem dX8_hasTown_0 : decode cX8_hasTown 0 = .ok (.aload_n 0, 1) := by decide +kernel
theorem dX8_hasTown_1 : decode cX8_hasTown 1 = .ok (.getfield 19, 3) := by decide +kernel
theorem dX8_hasTown_4 : decode cX8_hasTown 4 = .ok (.getfield 97, 3) := by decide +kernel
theorem dX8_hasTown_7 : decode cX8_hasTown 7 = .ok (.ifCond .le 7, 3) := by decide +kernel
theorem dX8_hasTown_10 : decode cX8_hasTown 10 = .ok (.iconst 1, 1) := by decide +kernel
theorem dX8_hasTown_11 : decode cX8_hasTown 11 = .ok (.goto 4, 3) := by decide +kernel
theorem dX8_hasTown_14 : decode cX8_hasTown 14 = .ok (.iconst 0, 1) := by decide +kernel
theorem dX8_hasTown_15 : decode cX8_hasTown 15 = .ok (.ireturn, 1) := by decide +kernel
theorem dX8_isHouse_0 : decode cX8_isHouse 0 = .ok (.iload_n 1, 1) := by decide +kernel
theorem dX8_isHouse_1 : decode cX8_isHouse 1 = .ok (.ifCond .lt 18, 3) := by decide +kernel
theorem dX8_isHouse_4 : decode cX8_isHouse 4 = .ok (.iload_n 1, 1) := by decide +kernel
theorem dX8_isHouse_5 : decode cX8_isHouse 5 = .ok (.aload_n 0, 1) := by decide +kernel
theorem dX8_isHouse_6 : decode cX8_isHouse 6 = .ok (.getfield 19, 3) := by decide +kernel
theorem dX8_isHouse_9 : decode cX8_isHouse 9 = .ok (.getfield 158, 3) := by decide +kernel
theorem dX8_isHouse_12 : decode cX8_isHouse 12 = .ok (.if_icmp .ge 7, 3) := by decide +kernel
theorem dX8_isHouse_15 : decode cX8_isHouse 15 = .ok (.iconst 1, 1) := by decide +kernel
theorem dX8_isHouse_16 : decode cX8_isHouse 16 = .ok (.goto 4, 3) := by decide +kernel
theorem dX8_isHouse_19 : decode cX8_isHouse 19 = .ok (.iconst 0, 1) := by decide +kernel
theorem dX8_isHouse_20 : decode cX8_isHouse 20 = .ok (.ireturn, 1) := by decide +kernel
theorem dX8_isPair_0 : decode cX8_isPair 0 = .ok (.aload_n 0, 1) := by decide +kernel
theorem dX8_isPair_1 : decode cX8_isPair 1 = .ok (.iload_n 1, 1) := by decide +kernel
theorem dX8_isPair_2 : decode cX8_isPair 2 = .ok (.invokevirtual 103, 3) := by decide +kernel
theorem dX8_isPair_5 : decode cX8_isPair 5 = .ok (.ifCond .eq 20, 3) := by decide +kernel
theorem dX8_isPair_8 : decode cX8_isPair 8 = .ok (.aload_n 0, 1) := by decide +kernel
theorem dX8_isPair_9 : decode cX8_isPair 9 = .ok (.iload_n 2, 1) := by decide +kernel
theorem dX8_isPair_10 : decode cX8_isPair 10 = .ok (.invokevirtual 103, 3) := by decide +kernel
theorem dX8_isPair_13 : decode cX8_isPair 13 = .ok (.ifCond .eq 12, 3) := by decide +kernel
theorem dX8_isPair_16 : decode cX8_isPair 16 = .ok (.iload_n 1, 1) := by decide +kernel
theorem dX8_isPair_17 : decode cX8_isPair 17 = .ok (.iload_n 2, 1) := by decide +kernel
theorem dX8_isPair_18 : decode cX8_isPair 18 = .ok (.if_icmp .eq 7, 3) := by decide +kernel
theorem dX8_isPair_21 : decode cX8_isPair 21 = .ok (.iconst 1, 1) := by decide +kernel
theorem dX8_isPair_22 : decode cX8_isPair 22 = .ok (.goto 4, 3) := by decide +kernel
theorem dX8_isPair_25 : decode cX8_isPair 25 = .ok (.iconst 0, 1) := by decide +kernel
theorem dX8_isPair_26 : decode cX8_isPair 26 = .ok (.ireturn, 1) := by decide +kernel
theorem dX8_isPlace_0 : decode cX8_isPlace 0 = .ok (.iload_n 1, 1) := by decide +kernel
theorem dX8_isPlace_1 : decode cX8_isPlace 1 = .ok (.ifCond .lt 18, 3) := by decide +kernel
theorem dX8_isPlace_4 : decode cX8_isPlace 4 = .ok (.iload_n 1, 1) := by decide +kernel
theorem dX8_isPlace_5 : decode cX8_isPlace 5 = .ok (.aload_n 0, 1) := by decide +kernel
theorem dX8_isPlace_6 : decode cX8_isPlace 6 = .ok (.getfield 19, 3) := by decide +kernel
theorem dX8_isPlace_9 : decode cX8_isPlace 9 = .ok (.getfield 158, 3) := by decide +kernel
theorem dX8_isPlace_12 : decode cX8_isPlace 12 = .ok (.if_icmp .ge 7, 3) := by decide +kernel
theorem dX8_isPlace_15 : decode cX8_isPlace 15 = .ok (.iconst 1, 1) := by decide +kernel
theorem dX8_isPlace_16 : decode cX8_isPlace 16 = .ok (.goto 4, 3) := by decide +kernel
theorem dX8_isPlace_19 : decode cX8_isPlace 19 = .ok (.iconst 0, 1) := by decide +kernel
theorem dX8_isPlace_20 : decode cX8_isPlace 20 = .ok (.ireturn, 1) := by decide +kernel
theorem dX8_isLetter_0 : decode cX8_isLetter 0 = .ok (.iload_n 1, 1) := by decide +kernel
theorem dX8_isLetter_1 : decode cX8_isLetter 1 = .ok (.ifCond .lt 18, 3) := by decide +kernel
theorem dX8_isLetter_4 : decode cX8_isLetter 4 = .ok (.iload_n 1, 1) := by decide +kernel
theorem dX8_isLetter_5 : decode cX8_isLetter 5 = .ok (.aload_n 0, 1) := by decide +kernel
theorem dX8_isLetter_6 : decode cX8_isLetter 6 = .ok (.getfield 19, 3) := by decide +kernel
theorem dX8_isLetter_9 : decode cX8_isLetter 9 = .ok (.getfield 422, 3) := by decide +kernel
theorem dX8_isLetter_12 : decode cX8_isLetter 12 = .ok (.if_icmp .ge 7, 3) := by decide +kernel
theorem dX8_isLetter_15 : decode cX8_isLetter 15 = .ok (.iconst 1, 1) := by decide +kernel
theorem dX8_isLetter_16 : decode cX8_isLetter 16 = .ok (.goto 4, 3) := by decide +kernel
theorem dX8_isLetter_19 : decode cX8_isLetter 19 = .ok (.iconst 0, 1) := by decide +kernel
theorem dX8_isLetter_20 : decode cX8_isLetter 20 = .ok (.ireturn, 1) := by decide +kernel
theorem dX8_isWeek_0 : decode cX8_isWeek 0 = .ok (.aload_n 0, 1) := by decide +kernel
theorem dX8_isWeek_1 : decode cX8_isWeek 1 = .ok (.invokevirtual 138, 3) := by decide +kernel
theorem dX8_isWeek_4 : decode cX8_isWeek 4 = .ok (.ifCond .eq 22, 3) := by decide +kernel
theorem dX8_isWeek_7 : decode cX8_isWeek 7 = .ok (.iload_n 1, 1) := by decide +kernel
theorem dX8_isWeek_8 : decode cX8_isWeek 8 = .ok (.ifCond .lt 18, 3) := by decide +kernel
theorem dX8_isWeek_11 : decode cX8_isWeek 11 = .ok (.iload_n 1, 1) := by decide +kernel
theorem dX8_isWeek_12 : decode cX8_isWeek 12 = .ok (.aload_n 0, 1) := by decide +kernel
theorem dX8_isWeek_13 : decode cX8_isWeek 13 = .ok (.getfield 19, 3) := by decide +kernel
theorem dX8_isWeek_16 : decode cX8_isWeek 16 = .ok (.getfield 145, 3) := by decide +kernel
theorem dX8_isWeek_19 : decode cX8_isWeek 19 = .ok (.if_icmp .gt 7, 3) := by decide +kernel
theorem dX8_isWeek_22 : decode cX8_isWeek 22 = .ok (.iconst 1, 1) := by decide +kernel
theorem dX8_isWeek_23 : decode cX8_isWeek 23 = .ok (.goto 4, 3) := by decide +kernel
theorem dX8_isWeek_26 : decode cX8_isWeek 26 = .ok (.iconst 0, 1) := by decide +kernel
theorem dX8_isWeek_27 : decode cX8_isWeek 27 = .ok (.ireturn, 1) := by decide +kernel
theorem dX8_isTurningWeek_0 : decode cX8_isTurningWeek 0 = .ok (.aload_n 0, 1) := by decide +kernel
theorem dX8_isTurningWeek_1 : decode cX8_isTurningWeek 1 = .ok (.invokevirtual 138, 3) := by decide +kernel
theorem dX8_isTurningWeek_4 : decode cX8_isTurningWeek 4 = .ok (.ifCond .eq 22, 3) := by decide +kernel
theorem dX8_isTurningWeek_7 : decode cX8_isTurningWeek 7 = .ok (.iload_n 1, 1) := by decide +kernel
theorem dX8_isTurningWeek_8 : decode cX8_isTurningWeek 8 = .ok (.ifCond .lt 18, 3) := by decide +kernel
theorem dX8_isTurningWeek_11 : decode cX8_isTurningWeek 11 = .ok (.iload_n 1, 1) := by decide +kernel
theorem dX8_isTurningWeek_12 : decode cX8_isTurningWeek 12 = .ok (.aload_n 0, 1) := by decide +kernel
theorem dX8_isTurningWeek_13 : decode cX8_isTurningWeek 13 = .ok (.getfield 19, 3) := by decide +kernel
theorem dX8_isTurningWeek_16 : decode cX8_isTurningWeek 16 = .ok (.getfield 145, 3) := by decide +kernel
theorem dX8_isTurningWeek_19 : decode cX8_isTurningWeek 19 = .ok (.if_icmp .ge 7, 3) := by decide +kernel
theorem dX8_isTurningWeek_22 : decode cX8_isTurningWeek 22 = .ok (.iconst 1, 1) := by decide +kernel
theorem dX8_isTurningWeek_23 : decode cX8_isTurningWeek 23 = .ok (.goto 4, 3) := by decide +kernel
theorem dX8_isTurningWeek_26 : decode cX8_isTurningWeek 26 = .ok (.iconst 0, 1) := by decide +kernel
theorem dX8_isTurningWeek_27 : decode cX8_isTurningWeek 27 = .ok (.ireturn, 1) := by decide +kernel
theorem dX8_isChanceWeek_0 : decode cX8_isChanceWeek 0 = .ok (.aload_n 0, 1) := by decide +kernel
theorem dX8_isChanceWeek_1 : decode cX8_isChanceWeek 1 = .ok (.iload_n 1, 1) := by decide +kernel
theorem dX8_isChanceWeek_2 : decode cX8_isChanceWeek 2 = .ok (.invokevirtual 165, 3) := by decide +kernel
theorem dX8_isChanceWeek_5 : decode cX8_isChanceWeek 5 = .ok (.ifCond .eq 13, 3) := by decide +kernel
theorem dX8_isChanceWeek_8 : decode cX8_isChanceWeek 8 = .ok (.iload_n 1, 1) := by decide +kernel
theorem dX8_isChanceWeek_9 : decode cX8_isChanceWeek 9 = .ok (.bipush 7, 2) := by decide +kernel
theorem dX8_isChanceWeek_11 : decode cX8_isChanceWeek 11 = .ok (.if_icmp .gt 7, 3) := by decide +kernel
theorem dX8_isChanceWeek_14 : decode cX8_isChanceWeek 14 = .ok (.iconst 1, 1) := by decide +kernel
theorem dX8_isChanceWeek_15 : decode cX8_isChanceWeek 15 = .ok (.goto 4, 3) := by decide +kernel
theorem dX8_isChanceWeek_18 : decode cX8_isChanceWeek 18 = .ok (.iconst 0, 1) := by decide +kernel
theorem dX8_isChanceWeek_19 : decode cX8_isChanceWeek 19 = .ok (.ireturn, 1) := by decide +kernel
theorem dX8_isTurn_0 : decode cX8_isTurn 0 = .ok (.iload_n 0, 1) := by decide +kernel
theorem dX8_isTurn_1 : decode cX8_isTurn 1 = .ok (.sipush (-400), 3) := by decide +kernel
theorem dX8_isTurn_4 : decode cX8_isTurn 4 = .ok (.if_icmp .lt 14, 3) := by decide +kernel
theorem dX8_isTurn_7 : decode cX8_isTurn 7 = .ok (.iload_n 0, 1) := by decide +kernel
theorem dX8_isTurn_8 : decode cX8_isTurn 8 = .ok (.sipush 400, 3) := by decide +kernel
theorem dX8_isTurn_11 : decode cX8_isTurn 11 = .ok (.if_icmp .gt 7, 3) := by decide +kernel
theorem dX8_isTurn_14 : decode cX8_isTurn 14 = .ok (.iconst 1, 1) := by decide +kernel
theorem dX8_isTurn_15 : decode cX8_isTurn 15 = .ok (.goto 4, 3) := by decide +kernel
theorem dX8_isTurn_18 : decode cX8_isTurn 18 = .ok (.iconst 0, 1) := by decide +kernel
theorem dX8_isTurn_19 : decode cX8_isTurn 19 = .ok (.ireturn, 1) := by decide +kernel
theorem dX8_isPart_0 : decode cX8_isPart 0 = .ok (.iload_n 0, 1) := by decide +kernel
theorem dX8_isPart_1 : decode cX8_isPart 1 = .ok (.ifCond .eq 8, 3) := by decide +kernel
theorem dX8_isPart_4 : decode cX8_isPart 4 = .ok (.iload_n 0, 1) := by decide +kernel
theorem dX8_isPart_5 : decode cX8_isPart 5 = .ok (.iconst 1, 1) := by decide +kernel
theorem dX8_isPart_6 : decode cX8_isPart 6 = .ok (.if_icmp .ne 7, 3) := by decide +kernel
theorem dX8_isPart_9 : decode cX8_isPart 9 = .ok (.iconst 1, 1) := by decide +kernel
theorem dX8_isPart_10 : decode cX8_isPart 10 = .ok (.goto 4, 3) := by decide +kernel
theorem dX8_isPart_13 : decode cX8_isPart 13 = .ok (.iconst 0, 1) := by decide +kernel
theorem dX8_isPart_14 : decode cX8_isPart 14 = .ok (.ireturn, 1) := by decide +kernel
theorem dX8_isSeed_0 : decode cX8_isSeed 0 = .ok (.iload_n 0, 1) := by decide +kernel
theorem dX8_isSeed_1 : decode cX8_isSeed 1 = .ok (.ifCond .lt 14, 3) := by decide +kernel
theorem dX8_isSeed_4 : decode cX8_isSeed 4 = .ok (.iload_n 0, 1) := by decide +kernel
theorem dX8_isSeed_5 : decode cX8_isSeed 5 = .ok (.ldc_w 454, 3) := by decide +kernel
theorem dX8_isSeed_8 : decode cX8_isSeed 8 = .ok (.if_icmp .gt 7, 3) := by decide +kernel
theorem dX8_isSeed_11 : decode cX8_isSeed 11 = .ok (.iconst 1, 1) := by decide +kernel
theorem dX8_isSeed_12 : decode cX8_isSeed 12 = .ok (.goto 4, 3) := by decide +kernel
theorem dX8_isSeed_15 : decode cX8_isSeed 15 = .ok (.iconst 0, 1) := by decide +kernel
theorem dX8_isSeed_16 : decode cX8_isSeed 16 = .ok (.ireturn, 1) := by decide +kernel
theorem dX8_isSlot_0 : decode cX8_isSlot 0 = .ok (.iload_n 0, 1) := by decide +kernel
theorem dX8_isSlot_1 : decode cX8_isSlot 1 = .ok (.ifCond .lt 12, 3) := by decide +kernel
theorem dX8_isSlot_4 : decode cX8_isSlot 4 = .ok (.iload_n 0, 1) := by decide +kernel
theorem dX8_isSlot_5 : decode cX8_isSlot 5 = .ok (.iconst 4, 1) := by decide +kernel
theorem dX8_isSlot_6 : decode cX8_isSlot 6 = .ok (.if_icmp .ge 7, 3) := by decide +kernel
theorem dX8_isSlot_9 : decode cX8_isSlot 9 = .ok (.iconst 1, 1) := by decide +kernel
theorem dX8_isSlot_10 : decode cX8_isSlot 10 = .ok (.goto 4, 3) := by decide +kernel
theorem dX8_isSlot_13 : decode cX8_isSlot 13 = .ok (.iconst 0, 1) := by decide +kernel
theorem dX8_isSlot_14 : decode cX8_isSlot 14 = .ok (.ireturn, 1) := by decide +kernel
theorem dX8_renew_0 : decode cX8_renew 0 = .ok (.aload_n 0, 1) := by decide +kernel
theorem dX8_renew_1 : decode cX8_renew 1 = .ok (.getfield 40, 3) := by decide +kernel
theorem dX8_renew_4 : decode cX8_renew 4 = .ok (.aload_n 0, 1) := by decide +kernel
theorem dX8_renew_5 : decode cX8_renew 5 = .ok (.getfield 19, 3) := by decide +kernel
theorem dX8_renew_8 : decode cX8_renew 8 = .ok (.invokevirtual 261, 3) := by decide +kernel
theorem dX8_renew_11 : decode cX8_renew 11 = .ok (.aload_n 0, 1) := by decide +kernel
theorem dX8_renew_12 : decode cX8_renew 12 = .ok (.getfield 47, 3) := by decide +kernel
theorem dX8_renew_15 : decode cX8_renew 15 = .ok (.aload_n 0, 1) := by decide +kernel
theorem dX8_renew_16 : decode cX8_renew 16 = .ok (.getfield 19, 3) := by decide +kernel
theorem dX8_renew_19 : decode cX8_renew 19 = .ok (.aload_n 0, 1) := by decide +kernel
theorem dX8_renew_20 : decode cX8_renew 20 = .ok (.getfield 40, 3) := by decide +kernel
theorem dX8_renew_23 : decode cX8_renew 23 = .ok (.invokevirtual 266, 3) := by decide +kernel
theorem dX8_renew_26 : decode cX8_renew 26 = .ok (.aload_n 0, 1) := by decide +kernel
theorem dX8_renew_27 : decode cX8_renew 27 = .ok (.iconst 0, 1) := by decide +kernel
theorem dX8_renew_28 : decode cX8_renew 28 = .ok (.putfield 72, 3) := by decide +kernel
theorem dX8_renew_31 : decode cX8_renew 31 = .ok (.return_, 1) := by decide +kernel
theorem dX8_backHomeBits_0 : decode cX8_backHomeBits 0 = .ok (.iconst 0, 1) := by decide +kernel
theorem dX8_backHomeBits_1 : decode cX8_backHomeBits 1 = .ok (.istore_n 2, 1) := by decide +kernel
theorem dX8_backHomeBits_2 : decode cX8_backHomeBits 2 = .ok (.iconst 0, 1) := by decide +kernel
theorem dX8_backHomeBits_3 : decode cX8_backHomeBits 3 = .ok (.istore_n 3, 1) := by decide +kernel
theorem dX8_backHomeBits_4 : decode cX8_backHomeBits 4 = .ok (.iload_n 3, 1) := by decide +kernel
theorem dX8_backHomeBits_5 : decode cX8_backHomeBits 5 = .ok (.aload_n 0, 1) := by decide +kernel
theorem dX8_backHomeBits_6 : decode cX8_backHomeBits 6 = .ok (.getfield 19, 3) := by decide +kernel
theorem dX8_backHomeBits_9 : decode cX8_backHomeBits 9 = .ok (.getfield 158, 3) := by decide +kernel
theorem dX8_backHomeBits_12 : decode cX8_backHomeBits 12 = .ok (.if_icmp .ge 36, 3) := by decide +kernel
theorem dX8_backHomeBits_15 : decode cX8_backHomeBits 15 = .ok (.aload_n 0, 1) := by decide +kernel
theorem dX8_backHomeBits_16 : decode cX8_backHomeBits 16 = .ok (.getfield 47, 3) := by decide +kernel
theorem dX8_backHomeBits_19 : decode cX8_backHomeBits 19 = .ok (.iload_n 3, 1) := by decide +kernel
theorem dX8_backHomeBits_20 : decode cX8_backHomeBits 20 = .ok (.iload_n 1, 1) := by decide +kernel
theorem dX8_backHomeBits_21 : decode cX8_backHomeBits 21 = .ok (.invokevirtual 155, 3) := by decide +kernel
theorem dX8_backHomeBits_24 : decode cX8_backHomeBits 24 = .ok (.aload_n 0, 1) := by decide +kernel
theorem dX8_backHomeBits_25 : decode cX8_backHomeBits 25 = .ok (.getfield 47, 3) := by decide +kernel
theorem dX8_backHomeBits_28 : decode cX8_backHomeBits 28 = .ok (.iload_n 3, 1) := by decide +kernel
theorem dX8_backHomeBits_29 : decode cX8_backHomeBits 29 = .ok (.iconst 0, 1) := by decide +kernel
theorem dX8_backHomeBits_30 : decode cX8_backHomeBits 30 = .ok (.invokevirtual 155, 3) := by decide +kernel
theorem dX8_backHomeBits_33 : decode cX8_backHomeBits 33 = .ok (.if_icmp .ne 9, 3) := by decide +kernel
theorem dX8_backHomeBits_36 : decode cX8_backHomeBits 36 = .ok (.iload_n 2, 1) := by decide +kernel
theorem dX8_backHomeBits_37 : decode cX8_backHomeBits 37 = .ok (.iconst 1, 1) := by decide +kernel
theorem dX8_backHomeBits_38 : decode cX8_backHomeBits 38 = .ok (.iload_n 3, 1) := by decide +kernel
theorem dX8_backHomeBits_39 : decode cX8_backHomeBits 39 = .ok (.ishl, 1) := by decide +kernel
theorem dX8_backHomeBits_40 : decode cX8_backHomeBits 40 = .ok (.ior, 1) := by decide +kernel
theorem dX8_backHomeBits_41 : decode cX8_backHomeBits 41 = .ok (.istore_n 2, 1) := by decide +kernel
theorem dX8_backHomeBits_42 : decode cX8_backHomeBits 42 = .ok (.iinc 3 1, 3) := by decide +kernel
theorem dX8_backHomeBits_45 : decode cX8_backHomeBits 45 = .ok (.goto (-41), 3) := by decide +kernel
theorem dX8_backHomeBits_48 : decode cX8_backHomeBits 48 = .ok (.iload_n 2, 1) := by decide +kernel
theorem dX8_backHomeBits_49 : decode cX8_backHomeBits 49 = .ok (.ireturn, 1) := by decide +kernel
theorem dX8_firstWeekOn_0 : decode cX8_firstWeekOn 0 = .ok (.iload_n 3, 1) := by decide +kernel
theorem dX8_firstWeekOn_1 : decode cX8_firstWeekOn 1 = .ok (.istore 4, 2) := by decide +kernel
theorem dX8_firstWeekOn_3 : decode cX8_firstWeekOn 3 = .ok (.iload 4, 2) := by decide +kernel
theorem dX8_firstWeekOn_5 : decode cX8_firstWeekOn 5 = .ok (.aload_n 0, 1) := by decide +kernel
theorem dX8_firstWeekOn_6 : decode cX8_firstWeekOn 6 = .ok (.getfield 19, 3) := by decide +kernel
theorem dX8_firstWeekOn_9 : decode cX8_firstWeekOn 9 = .ok (.getfield 145, 3) := by decide +kernel
theorem dX8_firstWeekOn_12 : decode cX8_firstWeekOn 12 = .ok (.if_icmp .gt 26, 3) := by decide +kernel
theorem dX8_firstWeekOn_15 : decode cX8_firstWeekOn 15 = .ok (.aload_n 0, 1) := by decide +kernel
theorem dX8_firstWeekOn_16 : decode cX8_firstWeekOn 16 = .ok (.getfield 47, 3) := by decide +kernel
theorem dX8_firstWeekOn_19 : decode cX8_firstWeekOn 19 = .ok (.iload_n 1, 1) := by decide +kernel
theorem dX8_firstWeekOn_20 : decode cX8_firstWeekOn 20 = .ok (.iload 4, 2) := by decide +kernel
theorem dX8_firstWeekOn_22 : decode cX8_firstWeekOn 22 = .ok (.invokevirtual 155, 3) := by decide +kernel
theorem dX8_firstWeekOn_25 : decode cX8_firstWeekOn 25 = .ok (.iload_n 2, 1) := by decide +kernel
theorem dX8_firstWeekOn_26 : decode cX8_firstWeekOn 26 = .ok (.if_icmp .ne 6, 3) := by decide +kernel
theorem dX8_firstWeekOn_29 : decode cX8_firstWeekOn 29 = .ok (.iload 4, 2) := by decide +kernel
theorem dX8_firstWeekOn_31 : decode cX8_firstWeekOn 31 = .ok (.ireturn, 1) := by decide +kernel
theorem dX8_firstWeekOn_32 : decode cX8_firstWeekOn 32 = .ok (.iinc 4 1, 3) := by decide +kernel
theorem dX8_firstWeekOn_35 : decode cX8_firstWeekOn 35 = .ok (.goto (-32), 3) := by decide +kernel
theorem dX8_firstWeekOn_38 : decode cX8_firstWeekOn 38 = .ok (.iconst (-1), 1) := by decide +kernel
theorem dX8_firstWeekOn_39 : decode cX8_firstWeekOn 39 = .ok (.ireturn, 1) := by decide +kernel
theorem dX8_distance_0 : decode cX8_distance 0 = .ok (.aload_n 0, 1) := by decide +kernel
theorem dX8_distance_1 : decode cX8_distance 1 = .ok (.getfield 47, 3) := by decide +kernel
theorem dX8_distance_4 : decode cX8_distance 4 = .ok (.iload_n 2, 1) := by decide +kernel
theorem dX8_distance_5 : decode cX8_distance 5 = .ok (.iload_n 3, 1) := by decide +kernel
theorem dX8_distance_6 : decode cX8_distance 6 = .ok (.invokevirtual 155, 3) := by decide +kernel
theorem dX8_distance_9 : decode cX8_distance 9 = .ok (.aload_n 0, 1) := by decide +kernel
theorem dX8_distance_10 : decode cX8_distance 10 = .ok (.getfield 47, 3) := by decide +kernel
theorem dX8_distance_13 : decode cX8_distance 13 = .ok (.iload_n 1, 1) := by decide +kernel
theorem dX8_distance_14 : decode cX8_distance 14 = .ok (.iload_n 3, 1) := by decide +kernel
theorem dX8_distance_15 : decode cX8_distance 15 = .ok (.invokevirtual 155, 3) := by decide +kernel
theorem dX8_distance_18 : decode cX8_distance 18 = .ok (.isub, 1) := by decide +kernel
theorem dX8_distance_19 : decode cX8_distance 19 = .ok (.aload_n 0, 1) := by decide +kernel
theorem dX8_distance_20 : decode cX8_distance 20 = .ok (.getfield 19, 3) := by decide +kernel
theorem dX8_distance_23 : decode cX8_distance 23 = .ok (.getfield 158, 3) := by decide +kernel
theorem dX8_distance_26 : decode cX8_distance 26 = .ok (.invokestatic 177, 3) := by decide +kernel
theorem dX8_distance_29 : decode cX8_distance 29 = .ok (.ireturn, 1) := by decide +kernel
theorem dX8_neighbour_0 : decode cX8_neighbour 0 = .ok (.aload_n 0, 1) := by decide +kernel
theorem dX8_neighbour_1 : decode cX8_neighbour 1 = .ok (.getfield 47, 3) := by decide +kernel
theorem dX8_neighbour_4 : decode cX8_neighbour 4 = .ok (.aload_n 0, 1) := by decide +kernel
theorem dX8_neighbour_5 : decode cX8_neighbour 5 = .ok (.getfield 47, 3) := by decide +kernel
theorem dX8_neighbour_8 : decode cX8_neighbour 8 = .ok (.iload_n 1, 1) := by decide +kernel
theorem dX8_neighbour_9 : decode cX8_neighbour 9 = .ok (.iload_n 3, 1) := by decide +kernel
theorem dX8_neighbour_10 : decode cX8_neighbour 10 = .ok (.invokevirtual 155, 3) := by decide +kernel
theorem dX8_neighbour_13 : decode cX8_neighbour 13 = .ok (.iload_n 2, 1) := by decide +kernel
theorem dX8_neighbour_14 : decode cX8_neighbour 14 = .ok (.iadd, 1) := by decide +kernel
theorem dX8_neighbour_15 : decode cX8_neighbour 15 = .ok (.aload_n 0, 1) := by decide +kernel
theorem dX8_neighbour_16 : decode cX8_neighbour 16 = .ok (.getfield 19, 3) := by decide +kernel
theorem dX8_neighbour_19 : decode cX8_neighbour 19 = .ok (.getfield 158, 3) := by decide +kernel
theorem dX8_neighbour_22 : decode cX8_neighbour 22 = .ok (.invokestatic 177, 3) := by decide +kernel
theorem dX8_neighbour_25 : decode cX8_neighbour 25 = .ok (.iload_n 3, 1) := by decide +kernel
theorem dX8_neighbour_26 : decode cX8_neighbour 26 = .ok (.aload_n 0, 1) := by decide +kernel
theorem dX8_neighbour_27 : decode cX8_neighbour 27 = .ok (.getfield 19, 3) := by decide +kernel
theorem dX8_neighbour_30 : decode cX8_neighbour 30 = .ok (.getfield 158, 3) := by decide +kernel
theorem dX8_neighbour_33 : decode cX8_neighbour 33 = .ok (.invokevirtual 161, 3) := by decide +kernel
theorem dX8_neighbour_36 : decode cX8_neighbour 36 = .ok (.ireturn, 1) := by decide +kernel
theorem dX8_lowBits_0 : decode cX8_lowBits 0 = .ok (.iconst 1, 1) := by decide +kernel
theorem dX8_lowBits_1 : decode cX8_lowBits 1 = .ok (.iload_n 0, 1) := by decide +kernel
theorem dX8_lowBits_2 : decode cX8_lowBits 2 = .ok (.ishl, 1) := by decide +kernel
theorem dX8_lowBits_3 : decode cX8_lowBits 3 = .ok (.iconst 1, 1) := by decide +kernel
theorem dX8_lowBits_4 : decode cX8_lowBits 4 = .ok (.isub, 1) := by decide +kernel
theorem dX8_lowBits_5 : decode cX8_lowBits 5 = .ok (.ireturn, 1) := by decide +kernel
theorem dX8_bitOf_0 : decode cX8_bitOf 0 = .ok (.iload_n 0, 1) := by decide +kernel
theorem dX8_bitOf_1 : decode cX8_bitOf 1 = .ok (.iload_n 1, 1) := by decide +kernel
theorem dX8_bitOf_2 : decode cX8_bitOf 2 = .ok (.ishr, 1) := by decide +kernel
theorem dX8_bitOf_3 : decode cX8_bitOf 3 = .ok (.iconst 1, 1) := by decide +kernel
theorem dX8_bitOf_4 : decode cX8_bitOf 4 = .ok (.iand, 1) := by decide +kernel
theorem dX8_bitOf_5 : decode cX8_bitOf 5 = .ok (.ireturn, 1) := by decide +kernel
theorem dX8_round_0 : decode cX8_round 0 = .ok (.iload_n 1, 1) := by decide +kernel
theorem dX8_round_1 : decode cX8_round 1 = .ok (.iconst 1, 1) := by decide +kernel
theorem dX8_round_2 : decode cX8_round 2 = .ok (.if_icmp .ge 7, 3) := by decide +kernel
theorem dX8_round_5 : decode cX8_round 5 = .ok (.iconst 0, 1) := by decide +kernel
theorem dX8_round_6 : decode cX8_round 6 = .ok (.goto 8, 3) := by decide +kernel
theorem dX8_round_9 : decode cX8_round 9 = .ok (.iload_n 0, 1) := by decide +kernel
theorem dX8_round_10 : decode cX8_round 10 = .ok (.iload_n 1, 1) := by decide +kernel
theorem dX8_round_11 : decode cX8_round 11 = .ok (.invokestatic 455, 3) := by decide +kernel
theorem dX8_round_14 : decode cX8_round 14 = .ok (.ireturn, 1) := by decide +kernel
theorem dX8_signed_0 : decode cX8_signed 0 = .ok (.iload_n 1, 1) := by decide +kernel
theorem dX8_signed_1 : decode cX8_signed 1 = .ok (.iload_n 2, 1) := by decide +kernel
theorem dX8_signed_2 : decode cX8_signed 2 = .ok (.invokestatic 113, 3) := by decide +kernel
theorem dX8_signed_5 : decode cX8_signed 5 = .ok (.iconst 1, 1) := by decide +kernel
theorem dX8_signed_6 : decode cX8_signed 6 = .ok (.if_icmp .ne 8, 3) := by decide +kernel
theorem dX8_signed_9 : decode cX8_signed 9 = .ok (.iload_n 0, 1) := by decide +kernel
theorem dX8_signed_10 : decode cX8_signed 10 = .ok (.ineg, 1) := by decide +kernel
theorem dX8_signed_11 : decode cX8_signed 11 = .ok (.goto 4, 3) := by decide +kernel
theorem dX8_signed_14 : decode cX8_signed 14 = .ok (.iload_n 0, 1) := by decide +kernel
theorem dX8_signed_15 : decode cX8_signed 15 = .ok (.ireturn, 1) := by decide +kernel
theorem dX8_turnBy_0 : decode cX8_turnBy 0 = .ok (.iload_n 1, 1) := by decide +kernel
theorem dX8_turnBy_1 : decode cX8_turnBy 1 = .ok (.iconst 1, 1) := by decide +kernel
theorem dX8_turnBy_2 : decode cX8_turnBy 2 = .ok (.if_icmp .ge 7, 3) := by decide +kernel
theorem dX8_turnBy_5 : decode cX8_turnBy 5 = .ok (.iconst 0, 1) := by decide +kernel
theorem dX8_turnBy_6 : decode cX8_turnBy 6 = .ok (.goto 6, 3) := by decide +kernel
theorem dX8_turnBy_9 : decode cX8_turnBy 9 = .ok (.iload_n 2, 1) := by decide +kernel
theorem dX8_turnBy_10 : decode cX8_turnBy 10 = .ok (.iload_n 1, 1) := by decide +kernel
theorem dX8_turnBy_11 : decode cX8_turnBy 11 = .ok (.idiv, 1) := by decide +kernel
theorem dX8_turnBy_12 : decode cX8_turnBy 12 = .ok (.istore 5, 2) := by decide +kernel
theorem dX8_turnBy_14 : decode cX8_turnBy 14 = .ok (.iload_n 0, 1) := by decide +kernel
theorem dX8_turnBy_15 : decode cX8_turnBy 15 = .ok (.tableswitch 42 0 2 #[25, 28, 35], 25) := by decide +kernel
theorem dX8_turnBy_40 : decode cX8_turnBy 40 = .ok (.iload 5, 2) := by decide +kernel
theorem dX8_turnBy_42 : decode cX8_turnBy 42 = .ok (.ireturn, 1) := by decide +kernel
theorem dX8_turnBy_43 : decode cX8_turnBy 43 = .ok (.iload 5, 2) := by decide +kernel
theorem dX8_turnBy_45 : decode cX8_turnBy 45 = .ok (.iconst 0, 1) := by decide +kernel
theorem dX8_turnBy_46 : decode cX8_turnBy 46 = .ok (.invokestatic 458, 3) := by decide +kernel
theorem dX8_turnBy_49 : decode cX8_turnBy 49 = .ok (.ireturn, 1) := by decide +kernel
theorem dX8_turnBy_50 : decode cX8_turnBy 50 = .ok (.iload_n 2, 1) := by decide +kernel
theorem dX8_turnBy_51 : decode cX8_turnBy 51 = .ok (.iload 4, 2) := by decide +kernel
theorem dX8_turnBy_53 : decode cX8_turnBy 53 = .ok (.invokestatic 177, 3) := by decide +kernel
theorem dX8_turnBy_56 : decode cX8_turnBy 56 = .ok (.ireturn, 1) := by decide +kernel
theorem dX8_turnBy_57 : decode cX8_turnBy 57 = .ok (.iload_n 3, 1) := by decide +kernel
theorem dX8_turnBy_58 : decode cX8_turnBy 58 = .ok (.iconst 2, 1) := by decide +kernel
theorem dX8_turnBy_59 : decode cX8_turnBy 59 = .ok (.irem, 1) := by decide +kernel
theorem dX8_turnBy_60 : decode cX8_turnBy 60 = .ok (.ifCond .ne 8, 3) := by decide +kernel
theorem dX8_turnBy_63 : decode cX8_turnBy 63 = .ok (.iload 5, 2) := by decide +kernel
theorem dX8_turnBy_65 : decode cX8_turnBy 65 = .ok (.goto 4, 3) := by decide +kernel
theorem dX8_turnBy_68 : decode cX8_turnBy 68 = .ok (.iconst 0, 1) := by decide +kernel
theorem dX8_turnBy_69 : decode cX8_turnBy 69 = .ok (.ireturn, 1) := by decide +kernel
theorem dX8_power_0 : decode cX8_power 0 = .ok (.lconst 1, 1) := by decide +kernel
theorem dX8_power_1 : decode cX8_power 1 = .ok (.lstore_n 2, 1) := by decide +kernel
theorem dX8_power_2 : decode cX8_power 2 = .ok (.iconst 0, 1) := by decide +kernel
theorem dX8_power_3 : decode cX8_power 3 = .ok (.istore 4, 2) := by decide +kernel
theorem dX8_power_5 : decode cX8_power 5 = .ok (.iload 4, 2) := by decide +kernel
theorem dX8_power_7 : decode cX8_power 7 = .ok (.iload_n 1, 1) := by decide +kernel
theorem dX8_power_8 : decode cX8_power 8 = .ok (.if_icmp .ge 14, 3) := by decide +kernel
theorem dX8_power_11 : decode cX8_power 11 = .ok (.lload_n 2, 1) := by decide +kernel
theorem dX8_power_12 : decode cX8_power 12 = .ok (.iload_n 0, 1) := by decide +kernel
theorem dX8_power_13 : decode cX8_power 13 = .ok (.i2l, 1) := by decide +kernel
theorem dX8_power_14 : decode cX8_power 14 = .ok (.lmul, 1) := by decide +kernel
theorem dX8_power_15 : decode cX8_power 15 = .ok (.lstore_n 2, 1) := by decide +kernel
theorem dX8_power_16 : decode cX8_power 16 = .ok (.iinc 4 1, 3) := by decide +kernel
theorem dX8_power_19 : decode cX8_power 19 = .ok (.goto (-14), 3) := by decide +kernel
theorem dX8_power_22 : decode cX8_power 22 = .ok (.lload_n 2, 1) := by decide +kernel
theorem dX8_power_23 : decode cX8_power 23 = .ok (.lreturn, 1) := by decide +kernel
theorem dX8_fractionPart_0 : decode cX8_fractionPart 0 = .ok (.lload_n 0, 1) := by decide +kernel
theorem dX8_fractionPart_1 : decode cX8_fractionPart 1 = .ok (.invokestatic 461, 3) := by decide +kernel
theorem dX8_fractionPart_4 : decode cX8_fractionPart 4 = .ok (.lload_n 2, 1) := by decide +kernel
theorem dX8_fractionPart_5 : decode cX8_fractionPart 5 = .ok (.invokestatic 464, 3) := by decide +kernel
theorem dX8_fractionPart_8 : decode cX8_fractionPart 8 = .ok (.lstore 5, 2) := by decide +kernel
theorem dX8_fractionPart_10 : decode cX8_fractionPart 10 = .ok (.lload 5, 2) := by decide +kernel
theorem dX8_fractionPart_12 : decode cX8_fractionPart 12 = .ok (.lconst 1, 1) := by decide +kernel
theorem dX8_fractionPart_13 : decode cX8_fractionPart 13 = .ok (.lcmp, 1) := by decide +kernel
theorem dX8_fractionPart_14 : decode cX8_fractionPart 14 = .ok (.ifCond .ge 7, 3) := by decide +kernel
theorem dX8_fractionPart_17 : decode cX8_fractionPart 17 = .ok (.iload 4, 2) := by decide +kernel
theorem dX8_fractionPart_19 : decode cX8_fractionPart 19 = .ok (.i2l, 1) := by decide +kernel
theorem dX8_fractionPart_20 : decode cX8_fractionPart 20 = .ok (.lreturn, 1) := by decide +kernel
theorem dX8_fractionPart_21 : decode cX8_fractionPart 21 = .ok (.iload 4, 2) := by decide +kernel
theorem dX8_fractionPart_23 : decode cX8_fractionPart 23 = .ok (.ifCond .ne 7, 3) := by decide +kernel
theorem dX8_fractionPart_26 : decode cX8_fractionPart 26 = .ok (.lload_n 0, 1) := by decide +kernel
theorem dX8_fractionPart_27 : decode cX8_fractionPart 27 = .ok (.goto 4, 3) := by decide +kernel
theorem dX8_fractionPart_30 : decode cX8_fractionPart 30 = .ok (.lload_n 2, 1) := by decide +kernel
theorem dX8_fractionPart_31 : decode cX8_fractionPart 31 = .ok (.lload 5, 2) := by decide +kernel
theorem dX8_fractionPart_33 : decode cX8_fractionPart 33 = .ok (.ldiv, 1) := by decide +kernel
theorem dX8_fractionPart_34 : decode cX8_fractionPart 34 = .ok (.lreturn, 1) := by decide +kernel
theorem dX8_commonDivisor_0 : decode cX8_commonDivisor 0 = .ok (.iconst 0, 1) := by decide +kernel
theorem dX8_commonDivisor_1 : decode cX8_commonDivisor 1 = .ok (.istore 4, 2) := by decide +kernel
theorem dX8_commonDivisor_3 : decode cX8_commonDivisor 3 = .ok (.iload 4, 2) := by decide +kernel
theorem dX8_commonDivisor_5 : decode cX8_commonDivisor 5 = .ok (.sipush 200, 3) := by decide +kernel
theorem dX8_commonDivisor_8 : decode cX8_commonDivisor 8 = .ok (.if_icmp .ge 25, 3) := by decide +kernel
theorem dX8_commonDivisor_11 : decode cX8_commonDivisor 11 = .ok (.lload_n 2, 1) := by decide +kernel
theorem dX8_commonDivisor_12 : decode cX8_commonDivisor 12 = .ok (.lconst 0, 1) := by decide +kernel
theorem dX8_commonDivisor_13 : decode cX8_commonDivisor 13 = .ok (.lcmp, 1) := by decide +kernel
theorem dX8_commonDivisor_14 : decode cX8_commonDivisor 14 = .ok (.ifCond .eq 19, 3) := by decide +kernel
theorem dX8_commonDivisor_17 : decode cX8_commonDivisor 17 = .ok (.lload_n 0, 1) := by decide +kernel
theorem dX8_commonDivisor_18 : decode cX8_commonDivisor 18 = .ok (.lload_n 2, 1) := by decide +kernel
theorem dX8_commonDivisor_19 : decode cX8_commonDivisor 19 = .ok (.lrem, 1) := by decide +kernel
theorem dX8_commonDivisor_20 : decode cX8_commonDivisor 20 = .ok (.lstore 5, 2) := by decide +kernel
theorem dX8_commonDivisor_22 : decode cX8_commonDivisor 22 = .ok (.lload_n 2, 1) := by decide +kernel
theorem dX8_commonDivisor_23 : decode cX8_commonDivisor 23 = .ok (.lstore_n 0, 1) := by decide +kernel
theorem dX8_commonDivisor_24 : decode cX8_commonDivisor 24 = .ok (.lload 5, 2) := by decide +kernel
theorem dX8_commonDivisor_26 : decode cX8_commonDivisor 26 = .ok (.lstore_n 2, 1) := by decide +kernel
theorem dX8_commonDivisor_27 : decode cX8_commonDivisor 27 = .ok (.iinc 4 1, 3) := by decide +kernel
theorem dX8_commonDivisor_30 : decode cX8_commonDivisor 30 = .ok (.goto (-27), 3) := by decide +kernel
theorem dX8_commonDivisor_33 : decode cX8_commonDivisor 33 = .ok (.lload_n 0, 1) := by decide +kernel
theorem dX8_commonDivisor_34 : decode cX8_commonDivisor 34 = .ok (.lreturn, 1) := by decide +kernel
