theorem dX6_feed_0 : decode cX6_feed 0 = .ok (.aload_n 0, 1) := by decide +kernel
theorem dX6_feed_1 : decode cX6_feed 1 = .ok (.getfield 58, 3) := by decide +kernel
theorem dX6_feed_4 : decode cX6_feed 4 = .ok (.bipush 20, 2) := by decide +kernel
theorem dX6_feed_6 : decode cX6_feed 6 = .ok (.iadd, 1) := by decide +kernel
theorem dX6_feed_7 : decode cX6_feed 7 = .ok (.sipush 900, 3) := by decide +kernel
theorem dX6_feed_10 : decode cX6_feed 10 = .ok (.if_icmp .le 5, 3) := by decide +kernel
theorem dX6_feed_13 : decode cX6_feed 13 = .ok (.iconst (-1), 1) := by decide +kernel
theorem dX6_feed_14 : decode cX6_feed 14 = .ok (.ireturn, 1) := by decide +kernel
theorem dX6_feed_15 : decode cX6_feed 15 = .ok (.aload_n 0, 1) := by decide +kernel
theorem dX6_feed_16 : decode cX6_feed 16 = .ok (.iload_n 1, 1) := by decide +kernel
theorem dX6_feed_17 : decode cX6_feed 17 = .ok (.invokevirtual 61, 3) := by decide +kernel
theorem dX6_feed_20 : decode cX6_feed 20 = .ok (.aload_n 0, 1) := by decide +kernel
theorem dX6_feed_21 : decode cX6_feed 21 = .ok (.iload_n 2, 1) := by decide +kernel
theorem dX6_feed_22 : decode cX6_feed 22 = .ok (.invokevirtual 61, 3) := by decide +kernel
theorem dX6_feed_25 : decode cX6_feed 25 = .ok (.aload_n 0, 1) := by decide +kernel
theorem dX6_feed_26 : decode cX6_feed 26 = .ok (.iload_n 3, 1) := by decide +kernel
theorem dX6_feed_27 : decode cX6_feed 27 = .ok (.invokevirtual 61, 3) := by decide +kernel
theorem dX6_feed_30 : decode cX6_feed 30 = .ok (.aload_n 0, 1) := by decide +kernel
theorem dX6_feed_31 : decode cX6_feed 31 = .ok (.iload 4, 2) := by decide +kernel
theorem dX6_feed_33 : decode cX6_feed 33 = .ok (.invokevirtual 61, 3) := by decide +kernel
theorem dX6_feed_36 : decode cX6_feed 36 = .ok (.aload_n 0, 1) := by decide +kernel
theorem dX6_feed_37 : decode cX6_feed 37 = .ok (.iload 5, 2) := by decide +kernel
theorem dX6_feed_39 : decode cX6_feed 39 = .ok (.invokevirtual 61, 3) := by decide +kernel
theorem dX6_feed_42 : decode cX6_feed 42 = .ok (.aload_n 0, 1) := by decide +kernel
theorem dX6_feed_43 : decode cX6_feed 43 = .ok (.getfield 58, 3) := by decide +kernel
theorem dX6_feed_46 : decode cX6_feed 46 = .ok (.ireturn, 1) := by decide +kernel
theorem dX6_putBytes_0 : decode cX6_putBytes 0 = .ok (.bipush 24, 2) := by decide +kernel
theorem dX6_putBytes_2 : decode cX6_putBytes 2 = .ok (.istore_n 2, 1) := by decide +kernel
theorem dX6_putBytes_3 : decode cX6_putBytes 3 = .ok (.iload_n 2, 1) := by decide +kernel
theorem dX6_putBytes_4 : decode cX6_putBytes 4 = .ok (.ifCond .lt 45, 3) := by decide +kernel
theorem dX6_putBytes_7 : decode cX6_putBytes 7 = .ok (.aload_n 0, 1) := by decide +kernel
theorem dX6_putBytes_8 : decode cX6_putBytes 8 = .ok (.getfield 58, 3) := by decide +kernel
theorem dX6_putBytes_11 : decode cX6_putBytes 11 = .ok (.sipush 900, 3) := by decide +kernel
theorem dX6_putBytes_14 : decode cX6_putBytes 14 = .ok (.if_icmp .ge 29, 3) := by decide +kernel
theorem dX6_putBytes_17 : decode cX6_putBytes 17 = .ok (.aload_n 0, 1) := by decide +kernel
theorem dX6_putBytes_18 : decode cX6_putBytes 18 = .ok (.getfield 9, 3) := by decide +kernel
theorem dX6_putBytes_21 : decode cX6_putBytes 21 = .ok (.aload_n 0, 1) := by decide +kernel
theorem dX6_putBytes_22 : decode cX6_putBytes 22 = .ok (.getfield 58, 3) := by decide +kernel
theorem dX6_putBytes_25 : decode cX6_putBytes 25 = .ok (.iload_n 1, 1) := by decide +kernel
theorem dX6_putBytes_26 : decode cX6_putBytes 26 = .ok (.iload_n 2, 1) := by decide +kernel
theorem dX6_putBytes_27 : decode cX6_putBytes 27 = .ok (.ishr, 1) := by decide +kernel
theorem dX6_putBytes_28 : decode cX6_putBytes 28 = .ok (.sipush 255, 3) := by decide +kernel
theorem dX6_putBytes_31 : decode cX6_putBytes 31 = .ok (.iand, 1) := by decide +kernel
theorem dX6_putBytes_32 : decode cX6_putBytes 32 = .ok (.iastore, 1) := by decide +kernel
theorem dX6_putBytes_33 : decode cX6_putBytes 33 = .ok (.aload_n 0, 1) := by decide +kernel
theorem dX6_putBytes_34 : decode cX6_putBytes 34 = .ok (.dup, 1) := by decide +kernel
theorem dX6_putBytes_35 : decode cX6_putBytes 35 = .ok (.getfield 58, 3) := by decide +kernel
theorem dX6_putBytes_38 : decode cX6_putBytes 38 = .ok (.iconst 1, 1) := by decide +kernel
theorem dX6_putBytes_39 : decode cX6_putBytes 39 = .ok (.iadd, 1) := by decide +kernel
theorem dX6_putBytes_40 : decode cX6_putBytes 40 = .ok (.putfield 58, 3) := by decide +kernel
theorem dX6_putBytes_43 : decode cX6_putBytes 43 = .ok (.iinc 2 (-8), 3) := by decide +kernel
theorem dX6_putBytes_46 : decode cX6_putBytes 46 = .ok (.goto (-43), 3) := by decide +kernel
theorem dX6_putBytes_49 : decode cX6_putBytes 49 = .ok (.return_, 1) := by decide +kernel
theorem dX6_machine_0 : decode cX6_machine 0 = .ok (.iload_n 1, 1) := by decide +kernel
theorem dX6_machine_1 : decode cX6_machine 1 = .ok (.iconst 0, 1) := by decide +kernel
theorem dX6_machine_2 : decode cX6_machine 2 = .ok (.aload_n 0, 1) := by decide +kernel
theorem dX6_machine_3 : decode cX6_machine 3 = .ok (.getfield 58, 3) := by decide +kernel
theorem dX6_machine_6 : decode cX6_machine 6 = .ok (.invokestatic 65, 3) := by decide +kernel
theorem dX6_machine_9 : decode cX6_machine 9 = .ok (.ifCond .ne 9, 3) := by decide +kernel
theorem dX6_machine_12 : decode cX6_machine 12 = .ok (.aload_n 0, 1) := by decide +kernel
theorem dX6_machine_13 : decode cX6_machine 13 = .ok (.iconst 2, 1) := by decide +kernel
theorem dX6_machine_14 : decode cX6_machine 14 = .ok (.invokevirtual 69, 3) := by decide +kernel
theorem dX6_machine_17 : decode cX6_machine 17 = .ok (.ireturn, 1) := by decide +kernel
theorem dX6_machine_18 : decode cX6_machine 18 = .ok (.aload_n 0, 1) := by decide +kernel
theorem dX6_machine_19 : decode cX6_machine 19 = .ok (.iconst 0, 1) := by decide +kernel
theorem dX6_machine_20 : decode cX6_machine 20 = .ok (.putfield 58, 3) := by decide +kernel
theorem dX6_machine_23 : decode cX6_machine 23 = .ok (.aload_n 0, 1) := by decide +kernel
theorem dX6_machine_24 : decode cX6_machine 24 = .ok (.getfield 28, 3) := by decide +kernel
theorem dX6_machine_27 : decode cX6_machine 27 = .ok (.iload_n 1, 1) := by decide +kernel
theorem dX6_machine_28 : decode cX6_machine 28 = .ok (.invokevirtual 73, 3) := by decide +kernel
theorem dX6_machine_31 : decode cX6_machine 31 = .ok (.ifCond .ne 20, 3) := by decide +kernel
theorem dX6_machine_34 : decode cX6_machine 34 = .ok (.aload_n 0, 1) := by decide +kernel
theorem dX6_machine_35 : decode cX6_machine 35 = .ok (.aload_n 0, 1) := by decide +kernel
theorem dX6_machine_36 : decode cX6_machine 36 = .ok (.getfield 28, 3) := by decide +kernel
theorem dX6_machine_39 : decode cX6_machine 39 = .ok (.getfield 77, 3) := by decide +kernel
theorem dX6_machine_42 : decode cX6_machine 42 = .ok (.putfield 80, 3) := by decide +kernel
theorem dX6_machine_45 : decode cX6_machine 45 = .ok (.aload_n 0, 1) := by decide +kernel
theorem dX6_machine_46 : decode cX6_machine 46 = .ok (.iconst 4, 1) := by decide +kernel
theorem dX6_machine_47 : decode cX6_machine 47 = .ok (.invokevirtual 69, 3) := by decide +kernel
theorem dX6_machine_50 : decode cX6_machine 50 = .ok (.ireturn, 1) := by decide +kernel
theorem dX6_machine_51 : decode cX6_machine 51 = .ok (.aload_n 0, 1) := by decide +kernel
theorem dX6_machine_52 : decode cX6_machine 52 = .ok (.iconst 0, 1) := by decide +kernel
theorem dX6_machine_53 : decode cX6_machine 53 = .ok (.putfield 80, 3) := by decide +kernel
theorem dX6_machine_56 : decode cX6_machine 56 = .ok (.aload_n 0, 1) := by decide +kernel
theorem dX6_machine_57 : decode cX6_machine 57 = .ok (.getfield 16, 3) := by decide +kernel
theorem dX6_machine_60 : decode cX6_machine 60 = .ok (.aload_n 0, 1) := by decide +kernel
theorem dX6_machine_61 : decode cX6_machine 61 = .ok (.getfield 20, 3) := by decide +kernel
theorem dX6_machine_64 : decode cX6_machine 64 = .ok (.invokevirtual 83, 3) := by decide +kernel
theorem dX6_machine_67 : decode cX6_machine 67 = .ok (.aload_n 0, 1) := by decide +kernel
theorem dX6_machine_68 : decode cX6_machine 68 = .ok (.getfield 37, 3) := by decide +kernel
theorem dX6_machine_71 : decode cX6_machine 71 = .ok (.aload_n 0, 1) := by decide +kernel
theorem dX6_machine_72 : decode cX6_machine 72 = .ok (.getfield 16, 3) := by decide +kernel
theorem dX6_machine_75 : decode cX6_machine 75 = .ok (.getfield 86, 3) := by decide +kernel
theorem dX6_machine_78 : decode cX6_machine 78 = .ok (.aload_n 0, 1) := by decide +kernel
theorem dX6_machine_79 : decode cX6_machine 79 = .ok (.getfield 16, 3) := by decide +kernel
theorem dX6_machine_82 : decode cX6_machine 82 = .ok (.getfield 89, 3) := by decide +kernel
theorem dX6_machine_85 : decode cX6_machine 85 = .ok (.invokevirtual 92, 3) := by decide +kernel
theorem dX6_machine_88 : decode cX6_machine 88 = .ok (.aload_n 0, 1) := by decide +kernel
theorem dX6_machine_89 : decode cX6_machine 89 = .ok (.iconst 1, 1) := by decide +kernel
theorem dX6_machine_90 : decode cX6_machine 90 = .ok (.putfield 96, 3) := by decide +kernel
theorem dX6_machine_93 : decode cX6_machine 93 = .ok (.aload_n 0, 1) := by decide +kernel
theorem dX6_machine_94 : decode cX6_machine 94 = .ok (.iconst 0, 1) := by decide +kernel
theorem dX6_machine_95 : decode cX6_machine 95 = .ok (.putfield 100, 3) := by decide +kernel
theorem dX6_machine_98 : decode cX6_machine 98 = .ok (.aload_n 0, 1) := by decide +kernel
theorem dX6_machine_99 : decode cX6_machine 99 = .ok (.aload_n 0, 1) := by decide +kernel
theorem dX6_machine_100 : decode cX6_machine 100 = .ok (.getfield 16, 3) := by decide +kernel
theorem dX6_machine_103 : decode cX6_machine 103 = .ok (.getfield 103, 3) := by decide +kernel
theorem dX6_machine_106 : decode cX6_machine 106 = .ok (.invokevirtual 106, 3) := by decide +kernel
theorem dX6_machine_109 : decode cX6_machine 109 = .ok (.ireturn, 1) := by decide +kernel
theorem dX6_fault_0 : decode cX6_fault 0 = .ok (.aload_n 0, 1) := by decide +kernel
theorem dX6_fault_1 : decode cX6_fault 1 = .ok (.getfield 80, 3) := by decide +kernel
theorem dX6_fault_4 : decode cX6_fault 4 = .ok (.ireturn, 1) := by decide +kernel
theorem dX6_where_0 : decode cX6_where 0 = .ok (.aload_n 0, 1) := by decide +kernel
theorem dX6_where_1 : decode cX6_where 1 = .ok (.getfield 54, 3) := by decide +kernel
theorem dX6_where_4 : decode cX6_where 4 = .ok (.iconst 4, 1) := by decide +kernel
theorem dX6_where_5 : decode cX6_where 5 = .ok (.if_icmp .ne 13, 3) := by decide +kernel
theorem dX6_where_8 : decode cX6_where 8 = .ok (.aload_n 0, 1) := by decide +kernel
theorem dX6_where_9 : decode cX6_where 9 = .ok (.getfield 28, 3) := by decide +kernel
theorem dX6_where_12 : decode cX6_where 12 = .ok (.getfield 109, 3) := by decide +kernel
theorem dX6_where_15 : decode cX6_where 15 = .ok (.goto 4, 3) := by decide +kernel
theorem dX6_where_18 : decode cX6_where 18 = .ok (.iconst (-1), 1) := by decide +kernel
theorem dX6_where_19 : decode cX6_where 19 = .ok (.ireturn, 1) := by decide +kernel
theorem dX6_about_0 : decode cX6_about 0 = .ok (.aload_n 0, 1) := by decide +kernel
theorem dX6_about_1 : decode cX6_about 1 = .ok (.getfield 96, 3) := by decide +kernel
theorem dX6_about_4 : decode cX6_about 4 = .ok (.ifCond .ne 9, 3) := by decide +kernel
theorem dX6_about_7 : decode cX6_about 7 = .ok (.aload_n 0, 1) := by decide +kernel
theorem dX6_about_8 : decode cX6_about 8 = .ok (.iconst 1, 1) := by decide +kernel
theorem dX6_about_9 : decode cX6_about 9 = .ok (.invokevirtual 69, 3) := by decide +kernel
theorem dX6_about_12 : decode cX6_about 12 = .ok (.ireturn, 1) := by decide +kernel
theorem dX6_about_13 : decode cX6_about 13 = .ok (.iload_n 1, 1) := by decide +kernel
theorem dX6_about_14 : decode cX6_about 14 = .ok (.tableswitch 158 0 8 #[50, 62, 74, 86, 98, 110, 122, 134, 146], 50) := by decide +kernel
theorem dX6_about_64 : decode cX6_about 64 = .ok (.aload_n 0, 1) := by decide +kernel
theorem dX6_about_65 : decode cX6_about 65 = .ok (.aload_n 0, 1) := by decide +kernel
theorem dX6_about_66 : decode cX6_about 66 = .ok (.getfield 16, 3) := by decide +kernel
theorem dX6_about_69 : decode cX6_about 69 = .ok (.getfield 112, 3) := by decide +kernel
theorem dX6_about_72 : decode cX6_about 72 = .ok (.invokevirtual 106, 3) := by decide +kernel
theorem dX6_about_75 : decode cX6_about 75 = .ok (.ireturn, 1) := by decide +kernel
theorem dX6_about_76 : decode cX6_about 76 = .ok (.aload_n 0, 1) := by decide +kernel
theorem dX6_about_77 : decode cX6_about 77 = .ok (.aload_n 0, 1) := by decide +kernel
theorem dX6_about_78 : decode cX6_about 78 = .ok (.getfield 16, 3) := by decide +kernel
theorem dX6_about_81 : decode cX6_about 81 = .ok (.getfield 115, 3) := by decide +kernel
theorem dX6_about_84 : decode cX6_about 84 = .ok (.invokevirtual 106, 3) := by decide +kernel
theorem dX6_about_87 : decode cX6_about 87 = .ok (.ireturn, 1) := by decide +kernel
theorem dX6_about_88 : decode cX6_about 88 = .ok (.aload_n 0, 1) := by decide +kernel
theorem dX6_about_89 : decode cX6_about 89 = .ok (.aload_n 0, 1) := by decide +kernel
theorem dX6_about_90 : decode cX6_about 90 = .ok (.getfield 16, 3) := by decide +kernel
theorem dX6_about_93 : decode cX6_about 93 = .ok (.getfield 118, 3) := by decide +kernel
theorem dX6_about_96 : decode cX6_about 96 = .ok (.invokevirtual 106, 3) := by decide +kernel
theorem dX6_about_99 : decode cX6_about 99 = .ok (.ireturn, 1) := by decide +kernel
theorem dX6_about_100 : decode cX6_about 100 = .ok (.aload_n 0, 1) := by decide +kernel
theorem dX6_about_101 : decode cX6_about 101 = .ok (.aload_n 0, 1) := by decide +kernel
theorem dX6_about_102 : decode cX6_about 102 = .ok (.getfield 16, 3) := by decide +kernel
theorem dX6_about_105 : decode cX6_about 105 = .ok (.getfield 86, 3) := by decide +kernel
theorem dX6_about_108 : decode cX6_about 108 = .ok (.invokevirtual 106, 3) := by decide +kernel
theorem dX6_about_111 : decode cX6_about 111 = .ok (.ireturn, 1) := by decide +kernel
theorem dX6_about_112 : decode cX6_about 112 = .ok (.aload_n 0, 1) := by decide +kernel
theorem dX6_about_113 : decode cX6_about 113 = .ok (.aload_n 0, 1) := by decide +kernel
theorem dX6_about_114 : decode cX6_about 114 = .ok (.getfield 16, 3) := by decide +kernel
theorem dX6_about_117 : decode cX6_about 117 = .ok (.getfield 89, 3) := by decide +kernel
theorem dX6_about_120 : decode cX6_about 120 = .ok (.invokevirtual 106, 3) := by decide +kernel
theorem dX6_about_123 : decode cX6_about 123 = .ok (.ireturn, 1) := by decide +kernel
theorem dX6_about_124 : decode cX6_about 124 = .ok (.aload_n 0, 1) := by decide +kernel
theorem dX6_about_125 : decode cX6_about 125 = .ok (.aload_n 0, 1) := by decide +kernel
theorem dX6_about_126 : decode cX6_about 126 = .ok (.getfield 16, 3) := by decide +kernel
theorem dX6_about_129 : decode cX6_about 129 = .ok (.getfield 103, 3) := by decide +kernel
theorem dX6_about_132 : decode cX6_about 132 = .ok (.invokevirtual 106, 3) := by decide +kernel
theorem dX6_about_135 : decode cX6_about 135 = .ok (.ireturn, 1) := by decide +kernel
theorem dX6_about_136 : decode cX6_about 136 = .ok (.aload_n 0, 1) := by decide +kernel
theorem dX6_about_137 : decode cX6_about 137 = .ok (.aload_n 0, 1) := by decide +kernel
theorem dX6_about_138 : decode cX6_about 138 = .ok (.getfield 16, 3) := by decide +kernel
theorem dX6_about_141 : decode cX6_about 141 = .ok (.invokevirtual 121, 3) := by decide +kernel
theorem dX6_about_144 : decode cX6_about 144 = .ok (.invokevirtual 106, 3) := by decide +kernel
theorem dX6_about_147 : decode cX6_about 147 = .ok (.ireturn, 1) := by decide +kernel
theorem dX6_about_148 : decode cX6_about 148 = .ok (.aload_n 0, 1) := by decide +kernel
theorem dX6_about_149 : decode cX6_about 149 = .ok (.aload_n 0, 1) := by decide +kernel
theorem dX6_about_150 : decode cX6_about 150 = .ok (.getfield 37, 3) := by decide +kernel
theorem dX6_about_153 : decode cX6_about 153 = .ok (.getfield 125, 3) := by decide +kernel
theorem dX6_about_156 : decode cX6_about 156 = .ok (.invokevirtual 106, 3) := by decide +kernel
theorem dX6_about_159 : decode cX6_about 159 = .ok (.ireturn, 1) := by decide +kernel
theorem dX6_about_160 : decode cX6_about 160 = .ok (.aload_n 0, 1) := by decide +kernel
theorem dX6_about_161 : decode cX6_about 161 = .ok (.aload_n 0, 1) := by decide +kernel
theorem dX6_about_162 : decode cX6_about 162 = .ok (.getfield 37, 3) := by decide +kernel
theorem dX6_about_165 : decode cX6_about 165 = .ok (.getfield 128, 3) := by decide +kernel
theorem dX6_about_168 : decode cX6_about 168 = .ok (.invokevirtual 106, 3) := by decide +kernel
theorem dX6_about_171 : decode cX6_about 171 = .ok (.ireturn, 1) := by decide +kernel
theorem dX6_about_172 : decode cX6_about 172 = .ok (.aload_n 0, 1) := by decide +kernel
theorem dX6_about_173 : decode cX6_about 173 = .ok (.iconst 1, 1) := by decide +kernel
theorem dX6_about_174 : decode cX6_about 174 = .ok (.invokevirtual 69, 3) := by decide +kernel
theorem dX6_about_177 : decode cX6_about 177 = .ok (.ireturn, 1) := by decide +kernel
theorem dX6_deed_0 : decode cX6_deed 0 = .ok (.aload_n 0, 1) := by decide +kernel
theorem dX6_deed_1 : decode cX6_deed 1 = .ok (.getfield 16, 3) := by decide +kernel
theorem dX6_deed_4 : decode cX6_deed 4 = .ok (.iload_n 1, 1) := by decide +kernel
theorem dX6_deed_5 : decode cX6_deed 5 = .ok (.iload_n 2, 1) := by decide +kernel
theorem dX6_deed_6 : decode cX6_deed 6 = .ok (.invokevirtual 131, 3) := by decide +kernel
theorem dX6_deed_9 : decode cX6_deed 9 = .ok (.ifCond .eq 12, 3) := by decide +kernel
theorem dX6_deed_12 : decode cX6_deed 12 = .ok (.iload_n 3, 1) := by decide +kernel
theorem dX6_deed_13 : decode cX6_deed 13 = .ok (.iconst 0, 1) := by decide +kernel
theorem dX6_deed_14 : decode cX6_deed 14 = .ok (.iconst 2, 1) := by decide +kernel
theorem dX6_deed_15 : decode cX6_deed 15 = .ok (.invokestatic 65, 3) := by decide +kernel
theorem dX6_deed_18 : decode cX6_deed 18 = .ok (.ifCond .ne 9, 3) := by decide +kernel
theorem dX6_deed_21 : decode cX6_deed 21 = .ok (.aload_n 0, 1) := by decide +kernel
theorem dX6_deed_22 : decode cX6_deed 22 = .ok (.iconst 1, 1) := by decide +kernel
theorem dX6_deed_23 : decode cX6_deed 23 = .ok (.invokevirtual 69, 3) := by decide +kernel
theorem dX6_deed_26 : decode cX6_deed 26 = .ok (.ireturn, 1) := by decide +kernel
theorem dX6_deed_27 : decode cX6_deed 27 = .ok (.iload_n 3, 1) := by decide +kernel
theorem dX6_deed_28 : decode cX6_deed 28 = .ok (.ifCond .ne 17, 3) := by decide +kernel
theorem dX6_deed_31 : decode cX6_deed 31 = .ok (.aload_n 0, 1) := by decide +kernel
theorem dX6_deed_32 : decode cX6_deed 32 = .ok (.aload_n 0, 1) := by decide +kernel
theorem dX6_deed_33 : decode cX6_deed 33 = .ok (.getfield 16, 3) := by decide +kernel
theorem dX6_deed_36 : decode cX6_deed 36 = .ok (.iload_n 1, 1) := by decide +kernel
theorem dX6_deed_37 : decode cX6_deed 37 = .ok (.iload_n 2, 1) := by decide +kernel
theorem dX6_deed_38 : decode cX6_deed 38 = .ok (.invokevirtual 135, 3) := by decide +kernel
theorem dX6_deed_41 : decode cX6_deed 41 = .ok (.invokevirtual 106, 3) := by decide +kernel
theorem dX6_deed_44 : decode cX6_deed 44 = .ok (.ireturn, 1) := by decide +kernel
theorem dX6_deed_45 : decode cX6_deed 45 = .ok (.aload_n 0, 1) := by decide +kernel
theorem dX6_deed_46 : decode cX6_deed 46 = .ok (.iload_n 3, 1) := by decide +kernel
theorem dX6_deed_47 : decode cX6_deed 47 = .ok (.iconst 1, 1) := by decide +kernel
theorem dX6_deed_48 : decode cX6_deed 48 = .ok (.if_icmp .ne 15, 3) := by decide +kernel
theorem dX6_deed_51 : decode cX6_deed 51 = .ok (.aload_n 0, 1) := by decide +kernel
theorem dX6_deed_52 : decode cX6_deed 52 = .ok (.getfield 16, 3) := by decide +kernel
theorem dX6_deed_55 : decode cX6_deed 55 = .ok (.iload_n 1, 1) := by decide +kernel
theorem dX6_deed_56 : decode cX6_deed 56 = .ok (.iload_n 2, 1) := by decide +kernel
theorem dX6_deed_57 : decode cX6_deed 57 = .ok (.invokevirtual 139, 3) := by decide +kernel
theorem dX6_deed_60 : decode cX6_deed 60 = .ok (.goto 15, 3) := by decide +kernel
theorem dX6_deed_63 : decode cX6_deed 63 = .ok (.aload_n 0, 1) := by decide +kernel
theorem dX6_deed_64 : decode cX6_deed 64 = .ok (.getfield 16, 3) := by decide +kernel
theorem dX6_deed_67 : decode cX6_deed 67 = .ok (.iload_n 1, 1) := by decide +kernel
theorem dX6_deed_68 : decode cX6_deed 68 = .ok (.iload_n 2, 1) := by decide +kernel
theorem dX6_deed_69 : decode cX6_deed 69 = .ok (.invokevirtual 142, 3) := by decide +kernel
theorem dX6_deed_72 : decode cX6_deed 72 = .ok (.invokestatic 145, 3) := by decide +kernel
theorem dX6_deed_75 : decode cX6_deed 75 = .ok (.invokevirtual 106, 3) := by decide +kernel
theorem dX6_deed_78 : decode cX6_deed 78 = .ok (.ireturn, 1) := by decide +kernel
theorem dX6_word_0 : decode cX6_word 0 = .ok (.aload_n 0, 1) := by decide +kernel
theorem dX6_word_1 : decode cX6_word 1 = .ok (.getfield 16, 3) := by decide +kernel
theorem dX6_word_4 : decode cX6_word 4 = .ok (.iload_n 1, 1) := by decide +kernel
theorem dX6_word_5 : decode cX6_word 5 = .ok (.invokevirtual 149, 3) := by decide +kernel
theorem dX6_word_8 : decode cX6_word 8 = .ok (.ifCond .ne 9, 3) := by decide +kernel
theorem dX6_word_11 : decode cX6_word 11 = .ok (.aload_n 0, 1) := by decide +kernel
theorem dX6_word_12 : decode cX6_word 12 = .ok (.iconst 1, 1) := by decide +kernel
theorem dX6_word_13 : decode cX6_word 13 = .ok (.invokevirtual 69, 3) := by decide +kernel
theorem dX6_word_16 : decode cX6_word 16 = .ok (.ireturn, 1) := by decide +kernel
theorem dX6_word_17 : decode cX6_word 17 = .ok (.aload_n 0, 1) := by decide +kernel
theorem dX6_word_18 : decode cX6_word 18 = .ok (.aload_n 0, 1) := by decide +kernel
theorem dX6_word_19 : decode cX6_word 19 = .ok (.getfield 37, 3) := by decide +kernel
theorem dX6_word_22 : decode cX6_word 22 = .ok (.iload_n 1, 1) := by decide +kernel
theorem dX6_word_23 : decode cX6_word 23 = .ok (.invokevirtual 152, 3) := by decide +kernel
theorem dX6_word_26 : decode cX6_word 26 = .ok (.invokevirtual 106, 3) := by decide +kernel
theorem dX6_word_29 : decode cX6_word 29 = .ok (.ireturn, 1) := by decide +kernel
theorem dX6_memory_0 : decode cX6_memory 0 = .ok (.aload_n 0, 1) := by decide +kernel
theorem dX6_memory_1 : decode cX6_memory 1 = .ok (.getfield 16, 3) := by decide +kernel
theorem dX6_memory_4 : decode cX6_memory 4 = .ok (.iload_n 1, 1) := by decide +kernel
theorem dX6_memory_5 : decode cX6_memory 5 = .ok (.invokevirtual 149, 3) := by decide +kernel
theorem dX6_memory_8 : decode cX6_memory 8 = .ok (.ifCond .ne 9, 3) := by decide +kernel
theorem dX6_memory_11 : decode cX6_memory 11 = .ok (.aload_n 0, 1) := by decide +kernel
theorem dX6_memory_12 : decode cX6_memory 12 = .ok (.iconst 1, 1) := by decide +kernel
theorem dX6_memory_13 : decode cX6_memory 13 = .ok (.invokevirtual 69, 3) := by decide +kernel
theorem dX6_memory_16 : decode cX6_memory 16 = .ok (.ireturn, 1) := by decide +kernel
theorem dX6_memory_17 : decode cX6_memory 17 = .ok (.aload_n 0, 1) := by decide +kernel
theorem dX6_memory_18 : decode cX6_memory 18 = .ok (.aload_n 0, 1) := by decide +kernel
theorem dX6_memory_19 : decode cX6_memory 19 = .ok (.getfield 37, 3) := by decide +kernel
theorem dX6_memory_22 : decode cX6_memory 22 = .ok (.getfield 155, 3) := by decide +kernel
theorem dX6_memory_25 : decode cX6_memory 25 = .ok (.iload_n 1, 1) := by decide +kernel
theorem dX6_memory_26 : decode cX6_memory 26 = .ok (.iaload, 1) := by decide +kernel
theorem dX6_memory_27 : decode cX6_memory 27 = .ok (.invokevirtual 106, 3) := by decide +kernel
theorem dX6_memory_30 : decode cX6_memory 30 = .ok (.ireturn, 1) := by decide +kernel
theorem dX6_serial_0 : decode cX6_serial 0 = .ok (.aload_n 0, 1) := by decide +kernel
theorem dX6_serial_1 : decode cX6_serial 1 = .ok (.getfield 16, 3) := by decide +kernel
theorem dX6_serial_4 : decode cX6_serial 4 = .ok (.iload_n 1, 1) := by decide +kernel
theorem dX6_serial_5 : decode cX6_serial 5 = .ok (.invokevirtual 149, 3) := by decide +kernel
theorem dX6_serial_8 : decode cX6_serial 8 = .ok (.ifCond .ne 9, 3) := by decide +kernel
theorem dX6_serial_11 : decode cX6_serial 11 = .ok (.aload_n 0, 1) := by decide +kernel
theorem dX6_serial_12 : decode cX6_serial 12 = .ok (.iconst 1, 1) := by decide +kernel
theorem dX6_serial_13 : decode cX6_serial 13 = .ok (.invokevirtual 69, 3) := by decide +kernel
theorem dX6_serial_16 : decode cX6_serial 16 = .ok (.ireturn, 1) := by decide +kernel
theorem dX6_serial_17 : decode cX6_serial 17 = .ok (.aload_n 0, 1) := by decide +kernel
theorem dX6_serial_18 : decode cX6_serial 18 = .ok (.invokevirtual 158, 3) := by decide +kernel
theorem dX6_serial_21 : decode cX6_serial 21 = .ok (.aload_n 0, 1) := by decide +kernel
theorem dX6_serial_22 : decode cX6_serial 22 = .ok (.aload_n 0, 1) := by decide +kernel
theorem dX6_serial_23 : decode cX6_serial 23 = .ok (.getfield 50, 3) := by decide +kernel
theorem dX6_serial_26 : decode cX6_serial 26 = .ok (.getfield 161, 3) := by decide +kernel
theorem dX6_serial_29 : decode cX6_serial 29 = .ok (.iload_n 1, 1) := by decide +kernel
theorem dX6_serial_30 : decode cX6_serial 30 = .ok (.iaload, 1) := by decide +kernel
theorem dX6_serial_31 : decode cX6_serial 31 = .ok (.invokevirtual 106, 3) := by decide +kernel
theorem dX6_serial_34 : decode cX6_serial 34 = .ok (.ireturn, 1) := by decide +kernel
theorem dX6_agrees_0 : decode cX6_agrees 0 = .ok (.aload_n 0, 1) := by decide +kernel
theorem dX6_agrees_1 : decode cX6_agrees 1 = .ok (.getfield 96, 3) := by decide +kernel
theorem dX6_agrees_4 : decode cX6_agrees 4 = .ok (.ifCond .ne 9, 3) := by decide +kernel
theorem dX6_agrees_7 : decode cX6_agrees 7 = .ok (.aload_n 0, 1) := by decide +kernel
theorem dX6_agrees_8 : decode cX6_agrees 8 = .ok (.iconst 1, 1) := by decide +kernel
theorem dX6_agrees_9 : decode cX6_agrees 9 = .ok (.invokevirtual 69, 3) := by decide +kernel
theorem dX6_agrees_12 : decode cX6_agrees 12 = .ok (.ireturn, 1) := by decide +kernel
theorem dX6_agrees_13 : decode cX6_agrees 13 = .ok (.aload_n 0, 1) := by decide +kernel
theorem dX6_agrees_14 : decode cX6_agrees 14 = .ok (.invokevirtual 158, 3) := by decide +kernel
theorem dX6_agrees_17 : decode cX6_agrees 17 = .ok (.iconst 0, 1) := by decide +kernel
theorem dX6_agrees_18 : decode cX6_agrees 18 = .ok (.istore_n 1, 1) := by decide +kernel
theorem dX6_agrees_19 : decode cX6_agrees 19 = .ok (.iload_n 1, 1) := by decide +kernel
theorem dX6_agrees_20 : decode cX6_agrees 20 = .ok (.bipush 64, 2) := by decide +kernel
theorem dX6_agrees_22 : decode cX6_agrees 22 = .ok (.if_icmp .ge 46, 3) := by decide +kernel
theorem dX6_agrees_25 : decode cX6_agrees 25 = .ok (.aload_n 0, 1) := by decide +kernel
theorem dX6_agrees_26 : decode cX6_agrees 26 = .ok (.getfield 16, 3) := by decide +kernel
theorem dX6_agrees_29 : decode cX6_agrees 29 = .ok (.iload_n 1, 1) := by decide +kernel
theorem dX6_agrees_30 : decode cX6_agrees 30 = .ok (.invokevirtual 149, 3) := by decide +kernel
theorem dX6_agrees_33 : decode cX6_agrees 33 = .ok (.ifCond .eq 35, 3) := by decide +kernel
theorem dX6_agrees_36 : decode cX6_agrees 36 = .ok (.aload_n 0, 1) := by decide +kernel
theorem dX6_agrees_37 : decode cX6_agrees 37 = .ok (.getfield 50, 3) := by decide +kernel
theorem dX6_agrees_40 : decode cX6_agrees 40 = .ok (.getfield 161, 3) := by decide +kernel
theorem dX6_agrees_43 : decode cX6_agrees 43 = .ok (.iload_n 1, 1) := by decide +kernel
theorem dX6_agrees_44 : decode cX6_agrees 44 = .ok (.iaload, 1) := by decide +kernel
theorem dX6_agrees_45 : decode cX6_agrees 45 = .ok (.aload_n 0, 1) := by decide +kernel
theorem dX6_agrees_46 : decode cX6_agrees 46 = .ok (.getfield 37, 3) := by decide +kernel
theorem dX6_agrees_49 : decode cX6_agrees 49 = .ok (.iload_n 1, 1) := by decide +kernel
theorem dX6_agrees_50 : decode cX6_agrees 50 = .ok (.invokevirtual 152, 3) := by decide +kernel
theorem dX6_agrees_53 : decode cX6_agrees 53 = .ok (.if_icmp .eq 9, 3) := by decide +kernel
theorem dX6_agrees_56 : decode cX6_agrees 56 = .ok (.aload_n 0, 1) := by decide +kernel
theorem dX6_agrees_57 : decode cX6_agrees 57 = .ok (.iconst 0, 1) := by decide +kernel
theorem dX6_agrees_58 : decode cX6_agrees 58 = .ok (.invokevirtual 106, 3) := by decide +kernel
theorem dX6_agrees_61 : decode cX6_agrees 61 = .ok (.ireturn, 1) := by decide +kernel
theorem dX6_agrees_62 : decode cX6_agrees 62 = .ok (.iinc 1 1, 3) := by decide +kernel
theorem dX6_agrees_65 : decode cX6_agrees 65 = .ok (.goto (-46), 3) := by decide +kernel
theorem dX6_agrees_68 : decode cX6_agrees 68 = .ok (.aload_n 0, 1) := by decide +kernel
theorem dX6_agrees_69 : decode cX6_agrees 69 = .ok (.iconst 1, 1) := by decide +kernel
theorem dX6_agrees_70 : decode cX6_agrees 70 = .ok (.invokevirtual 106, 3) := by decide +kernel
theorem dX6_agrees_73 : decode cX6_agrees 73 = .ok (.ireturn, 1) := by decide +kernel
theorem dX6_playCommits_0 : decode cX6_playCommits 0 = .ok (.aload_n 0, 1) := by decide +kernel
theorem dX6_playCommits_1 : decode cX6_playCommits 1 = .ok (.getfield 50, 3) := by decide +kernel
theorem dX6_playCommits_4 : decode cX6_playCommits 4 = .ok (.invokevirtual 164, 3) := by decide +kernel
theorem dX6_playCommits_7 : decode cX6_playCommits 7 = .ok (.iconst 0, 1) := by decide +kernel
theorem dX6_playCommits_8 : decode cX6_playCommits 8 = .ok (.istore_n 1, 1) := by decide +kernel
theorem dX6_playCommits_9 : decode cX6_playCommits 9 = .ok (.iload_n 1, 1) := by decide +kernel
theorem dX6_playCommits_10 : decode cX6_playCommits 10 = .ok (.aload_n 0, 1) := by decide +kernel
theorem dX6_playCommits_11 : decode cX6_playCommits 11 = .ok (.getfield 37, 3) := by decide +kernel
theorem dX6_playCommits_14 : decode cX6_playCommits 14 = .ok (.getfield 128, 3) := by decide +kernel
theorem dX6_playCommits_17 : decode cX6_playCommits 17 = .ok (.if_icmp .ge 47, 3) := by decide +kernel
theorem dX6_playCommits_20 : decode cX6_playCommits 20 = .ok (.iload_n 1, 1) := by decide +kernel
theorem dX6_playCommits_21 : decode cX6_playCommits 21 = .ok (.bipush 48, 2) := by decide +kernel
theorem dX6_playCommits_23 : decode cX6_playCommits 23 = .ok (.if_icmp .ge 41, 3) := by decide +kernel
theorem dX6_playCommits_26 : decode cX6_playCommits 26 = .ok (.aload_n 0, 1) := by decide +kernel
theorem dX6_playCommits_27 : decode cX6_playCommits 27 = .ok (.getfield 50, 3) := by decide +kernel
theorem dX6_playCommits_30 : decode cX6_playCommits 30 = .ok (.aload_n 0, 1) := by decide +kernel
theorem dX6_playCommits_31 : decode cX6_playCommits 31 = .ok (.getfield 37, 3) := by decide +kernel
theorem dX6_playCommits_34 : decode cX6_playCommits 34 = .ok (.getfield 166, 3) := by decide +kernel
theorem dX6_playCommits_37 : decode cX6_playCommits 37 = .ok (.iload_n 1, 1) := by decide +kernel
theorem dX6_playCommits_38 : decode cX6_playCommits 38 = .ok (.iconst 4, 1) := by decide +kernel
theorem dX6_playCommits_39 : decode cX6_playCommits 39 = .ok (.imul, 1) := by decide +kernel
theorem dX6_playCommits_40 : decode cX6_playCommits 40 = .ok (.iaload, 1) := by decide +kernel
theorem dX6_playCommits_41 : decode cX6_playCommits 41 = .ok (.aload_n 0, 1) := by decide +kernel
theorem dX6_playCommits_42 : decode cX6_playCommits 42 = .ok (.getfield 37, 3) := by decide +kernel
theorem dX6_playCommits_45 : decode cX6_playCommits 45 = .ok (.getfield 166, 3) := by decide +kernel
theorem dX6_playCommits_48 : decode cX6_playCommits 48 = .ok (.iload_n 1, 1) := by decide +kernel
theorem dX6_playCommits_49 : decode cX6_playCommits 49 = .ok (.iconst 4, 1) := by decide +kernel
theorem dX6_playCommits_50 : decode cX6_playCommits 50 = .ok (.imul, 1) := by decide +kernel
theorem dX6_playCommits_51 : decode cX6_playCommits 51 = .ok (.iconst 1, 1) := by decide +kernel
theorem dX6_playCommits_52 : decode cX6_playCommits 52 = .ok (.iadd, 1) := by decide +kernel
theorem dX6_playCommits_53 : decode cX6_playCommits 53 = .ok (.iaload, 1) := by decide +kernel
theorem dX6_playCommits_54 : decode cX6_playCommits 54 = .ok (.iconst 1, 1) := by decide +kernel
theorem dX6_playCommits_55 : decode cX6_playCommits 55 = .ok (.invokevirtual 169, 3) := by decide +kernel
theorem dX6_playCommits_58 : decode cX6_playCommits 58 = .ok (.iinc 1 1, 3) := by decide +kernel
theorem dX6_playCommits_61 : decode cX6_playCommits 61 = .ok (.goto (-52), 3) := by decide +kernel
theorem dX6_playCommits_64 : decode cX6_playCommits 64 = .ok (.return_, 1) := by decide +kernel
theorem dX6_lock_0 : decode cX6_lock 0 = .ok (.aload_n 0, 1) := by decide +kernel
theorem dX6_lock_1 : decode cX6_lock 1 = .ok (.getfield 96, 3) := by decide +kernel
theorem dX6_lock_4 : decode cX6_lock 4 = .ok (.ifCond .eq 17, 3) := by decide +kernel
theorem dX6_lock_7 : decode cX6_lock 7 = .ok (.aload_n 0, 1) := by decide +kernel
theorem dX6_lock_8 : decode cX6_lock 8 = .ok (.aload_n 0, 1) := by decide +kernel
theorem dX6_lock_9 : decode cX6_lock 9 = .ok (.getfield 37, 3) := by decide +kernel
theorem dX6_lock_12 : decode cX6_lock 12 = .ok (.getfield 173, 3) := by decide +kernel
theorem dX6_lock_15 : decode cX6_lock 15 = .ok (.invokevirtual 106, 3) := by decide +kernel
theorem dX6_lock_18 : decode cX6_lock 18 = .ok (.goto 8, 3) := by decide +kernel
theorem dX6_lock_21 : decode cX6_lock 21 = .ok (.aload_n 0, 1) := by decide +kernel
theorem dX6_lock_22 : decode cX6_lock 22 = .ok (.iconst 1, 1) := by decide +kernel
theorem dX6_lock_23 : decode cX6_lock 23 = .ok (.invokevirtual 69, 3) := by decide +kernel
theorem dX6_lock_26 : decode cX6_lock 26 = .ok (.ireturn, 1) := by decide +kernel
theorem dX6_alone_0 : decode cX6_alone 0 = .ok (.aload_n 0, 1) := by decide +kernel
theorem dX6_alone_1 : decode cX6_alone 1 = .ok (.getfield 16, 3) := by decide +kernel
theorem dX6_alone_4 : decode cX6_alone 4 = .ok (.iload_n 1, 1) := by decide +kernel
theorem dX6_alone_5 : decode cX6_alone 5 = .ok (.invokevirtual 176, 3) := by decide +kernel
theorem dX6_alone_8 : decode cX6_alone 8 = .ok (.ifCond .eq 14, 3) := by decide +kernel
theorem dX6_alone_11 : decode cX6_alone 11 = .ok (.aload_n 0, 1) := by decide +kernel
theorem dX6_alone_12 : decode cX6_alone 12 = .ok (.getfield 16, 3) := by decide +kernel
theorem dX6_alone_15 : decode cX6_alone 15 = .ok (.iload_n 2, 1) := by decide +kernel
theorem dX6_alone_16 : decode cX6_alone 16 = .ok (.invokevirtual 149, 3) := by decide +kernel
theorem dX6_alone_19 : decode cX6_alone 19 = .ok (.ifCond .ne 9, 3) := by decide +kernel
theorem dX6_alone_22 : decode cX6_alone 22 = .ok (.aload_n 0, 1) := by decide +kernel
theorem dX6_alone_23 : decode cX6_alone 23 = .ok (.iconst 1, 1) := by decide +kernel
theorem dX6_alone_24 : decode cX6_alone 24 = .ok (.invokevirtual 69, 3) := by decide +kernel
theorem dX6_alone_27 : decode cX6_alone 27 = .ok (.ireturn, 1) := by decide +kernel
theorem dX6_alone_28 : decode cX6_alone 28 = .ok (.aload_n 0, 1) := by decide +kernel
theorem dX6_alone_29 : decode cX6_alone 29 = .ok (.getfield 50, 3) := by decide +kernel
theorem dX6_alone_32 : decode cX6_alone 32 = .ok (.invokevirtual 164, 3) := by decide +kernel
theorem dX6_alone_35 : decode cX6_alone 35 = .ok (.iconst 0, 1) := by decide +kernel
theorem dX6_alone_36 : decode cX6_alone 36 = .ok (.istore_n 3, 1) := by decide +kernel
theorem dX6_alone_37 : decode cX6_alone 37 = .ok (.iload_n 3, 1) := by decide +kernel
theorem dX6_alone_38 : decode cX6_alone 38 = .ok (.aload_n 0, 1) := by decide +kernel
theorem dX6_alone_39 : decode cX6_alone 39 = .ok (.getfield 16, 3) := by decide +kernel
theorem dX6_alone_42 : decode cX6_alone 42 = .ok (.getfield 103, 3) := by decide +kernel
theorem dX6_alone_45 : decode cX6_alone 45 = .ok (.if_icmp .ge 55, 3) := by decide +kernel
theorem dX6_alone_48 : decode cX6_alone 48 = .ok (.iload_n 3, 1) := by decide +kernel
theorem dX6_alone_49 : decode cX6_alone 49 = .ok (.iconst 4, 1) := by decide +kernel
theorem dX6_alone_50 : decode cX6_alone 50 = .ok (.if_icmp .ge 50, 3) := by decide +kernel
theorem dX6_alone_53 : decode cX6_alone 53 = .ok (.iload_n 1, 1) := by decide +kernel
theorem dX6_alone_54 : decode cX6_alone 54 = .ok (.iload_n 3, 1) := by decide +kernel
theorem dX6_alone_55 : decode cX6_alone 55 = .ok (.iadd, 1) := by decide +kernel
theorem dX6_alone_56 : decode cX6_alone 56 = .ok (.istore 4, 2) := by decide +kernel
theorem dX6_alone_58 : decode cX6_alone 58 = .ok (.aload_n 0, 1) := by decide +kernel
theorem dX6_alone_59 : decode cX6_alone 59 = .ok (.getfield 50, 3) := by decide +kernel
theorem dX6_alone_62 : decode cX6_alone 62 = .ok (.iload 4, 2) := by decide +kernel
theorem dX6_alone_64 : decode cX6_alone 64 = .ok (.aload_n 0, 1) := by decide +kernel
theorem dX6_alone_65 : decode cX6_alone 65 = .ok (.getfield 16, 3) := by decide +kernel
theorem dX6_alone_68 : decode cX6_alone 68 = .ok (.getfield 103, 3) := by decide +kernel
theorem dX6_alone_71 : decode cX6_alone 71 = .ok (.if_icmp .ge 8, 3) := by decide +kernel
theorem dX6_alone_74 : decode cX6_alone 74 = .ok (.iload 4, 2) := by decide +kernel
theorem dX6_alone_76 : decode cX6_alone 76 = .ok (.goto 13, 3) := by decide +kernel
theorem dX6_alone_79 : decode cX6_alone 79 = .ok (.iload 4, 2) := by decide +kernel
theorem dX6_alone_81 : decode cX6_alone 81 = .ok (.aload_n 0, 1) := by decide +kernel
theorem dX6_alone_82 : decode cX6_alone 82 = .ok (.getfield 16, 3) := by decide +kernel
theorem dX6_alone_85 : decode cX6_alone 85 = .ok (.getfield 103, 3) := by decide +kernel
theorem dX6_alone_88 : decode cX6_alone 88 = .ok (.isub, 1) := by decide +kernel
theorem dX6_alone_89 : decode cX6_alone 89 = .ok (.iconst 0, 1) := by decide +kernel
theorem dX6_alone_90 : decode cX6_alone 90 = .ok (.iconst 0, 1) := by decide +kernel
theorem dX6_alone_91 : decode cX6_alone 91 = .ok (.invokevirtual 169, 3) := by decide +kernel
theorem dX6_alone_94 : decode cX6_alone 94 = .ok (.iinc 3 1, 3) := by decide +kernel
theorem dX6_alone_97 : decode cX6_alone 97 = .ok (.goto (-60), 3) := by decide +kernel
theorem dX6_alone_100 : decode cX6_alone 100 = .ok (.aload_n 0, 1) := by decide +kernel
theorem dX6_alone_101 : decode cX6_alone 101 = .ok (.aload_n 0, 1) := by decide +kernel
theorem dX6_alone_102 : decode cX6_alone 102 = .ok (.getfield 50, 3) := by decide +kernel
theorem dX6_alone_105 : decode cX6_alone 105 = .ok (.getfield 161, 3) := by decide +kernel
theorem dX6_alone_108 : decode cX6_alone 108 = .ok (.iload_n 2, 1) := by decide +kernel
theorem dX6_alone_109 : decode cX6_alone 109 = .ok (.iaload, 1) := by decide +kernel
theorem dX6_alone_110 : decode cX6_alone 110 = .ok (.invokevirtual 106, 3) := by decide +kernel
theorem dX6_alone_113 : decode cX6_alone 113 = .ok (.ireturn, 1) := by decide +kernel
theorem dX6_place_0 : decode cX6_place 0 = .ok (.aload_n 0, 1) := by decide +kernel
theorem dX6_place_1 : decode cX6_place 1 = .ok (.getfield 16, 3) := by decide +kernel
theorem dX6_place_4 : decode cX6_place 4 = .ok (.iload_n 1, 1) := by decide +kernel
theorem dX6_place_5 : decode cX6_place 5 = .ok (.invokevirtual 176, 3) := by decide +kernel
theorem dX6_place_8 : decode cX6_place 8 = .ok (.ifCond .eq 41, 3) := by decide +kernel
theorem dX6_place_11 : decode cX6_place 11 = .ok (.iload_n 2, 1) := by decide +kernel
theorem dX6_place_12 : decode cX6_place 12 = .ok (.iconst 0, 1) := by decide +kernel
theorem dX6_place_13 : decode cX6_place 13 = .ok (.aload_n 0, 1) := by decide +kernel
theorem dX6_place_14 : decode cX6_place 14 = .ok (.getfield 16, 3) := by decide +kernel
theorem dX6_place_17 : decode cX6_place 17 = .ok (.getfield 112, 3) := by decide +kernel
theorem dX6_place_20 : decode cX6_place 20 = .ok (.iconst 1, 1) := by decide +kernel
theorem dX6_place_21 : decode cX6_place 21 = .ok (.isub, 1) := by decide +kernel
theorem dX6_place_22 : decode cX6_place 22 = .ok (.invokestatic 65, 3) := by decide +kernel
theorem dX6_place_25 : decode cX6_place 25 = .ok (.ifCond .eq 24, 3) := by decide +kernel
theorem dX6_place_28 : decode cX6_place 28 = .ok (.iload_n 3, 1) := by decide +kernel
theorem dX6_place_29 : decode cX6_place 29 = .ok (.iconst 0, 1) := by decide +kernel
theorem dX6_place_30 : decode cX6_place 30 = .ok (.aload_n 0, 1) := by decide +kernel
theorem dX6_place_31 : decode cX6_place 31 = .ok (.getfield 16, 3) := by decide +kernel
theorem dX6_place_34 : decode cX6_place 34 = .ok (.getfield 115, 3) := by decide +kernel
theorem dX6_place_37 : decode cX6_place 37 = .ok (.iconst 1, 1) := by decide +kernel
theorem dX6_place_38 : decode cX6_place 38 = .ok (.isub, 1) := by decide +kernel
theorem dX6_place_39 : decode cX6_place 39 = .ok (.invokestatic 65, 3) := by decide +kernel
theorem dX6_place_42 : decode cX6_place 42 = .ok (.ifCond .eq 7, 3) := by decide +kernel
theorem dX6_place_45 : decode cX6_place 45 = .ok (.iconst 1, 1) := by decide +kernel
theorem dX6_place_46 : decode cX6_place 46 = .ok (.goto 4, 3) := by decide +kernel
theorem dX6_place_49 : decode cX6_place 49 = .ok (.iconst 0, 1) := by decide +kernel
theorem dX6_place_50 : decode cX6_place 50 = .ok (.istore 5, 2) := by decide +kernel
theorem dX6_place_52 : decode cX6_place 52 = .ok (.iload 5, 2) := by decide +kernel
theorem dX6_place_54 : decode cX6_place 54 = .ok (.ifCond .eq 13, 3) := by decide +kernel
theorem dX6_place_57 : decode cX6_place 57 = .ok (.iload 4, 2) := by decide +kernel
theorem dX6_place_59 : decode cX6_place 59 = .ok (.iconst 0, 1) := by decide +kernel
theorem dX6_place_60 : decode cX6_place 60 = .ok (.iconst 4, 1) := by decide +kernel
theorem dX6_place_61 : decode cX6_place 61 = .ok (.invokestatic 65, 3) := by decide +kernel
theorem dX6_place_64 : decode cX6_place 64 = .ok (.ifCond .ne 9, 3) := by decide +kernel
theorem dX6_place_67 : decode cX6_place 67 = .ok (.aload_n 0, 1) := by decide +kernel
theorem dX6_place_68 : decode cX6_place 68 = .ok (.iconst 1, 1) := by decide +kernel
theorem dX6_place_69 : decode cX6_place 69 = .ok (.invokevirtual 69, 3) := by decide +kernel
theorem dX6_place_72 : decode cX6_place 72 = .ok (.ireturn, 1) := by decide +kernel
theorem dX6_place_73 : decode cX6_place 73 = .ok (.aload_n 0, 1) := by decide +kernel
theorem dX6_place_74 : decode cX6_place 74 = .ok (.getfield 37, 3) := by decide +kernel
theorem dX6_place_77 : decode cX6_place 77 = .ok (.getfield 179, 3) := by decide +kernel
theorem dX6_place_80 : decode cX6_place 80 = .ok (.iload_n 1, 1) := by decide +kernel
theorem dX6_place_81 : decode cX6_place 81 = .ok (.aaload, 1) := by decide +kernel
theorem dX6_place_82 : decode cX6_place 82 = .ok (.astore 6, 2) := by decide +kernel
theorem dX6_place_84 : decode cX6_place 84 = .ok (.iload_n 2, 1) := by decide +kernel
theorem dX6_place_85 : decode cX6_place 85 = .ok (.aload_n 0, 1) := by decide +kernel
theorem dX6_place_86 : decode cX6_place 86 = .ok (.getfield 16, 3) := by decide +kernel
theorem dX6_place_89 : decode cX6_place 89 = .ok (.getfield 115, 3) := by decide +kernel
theorem dX6_place_92 : decode cX6_place 92 = .ok (.imul, 1) := by decide +kernel
theorem dX6_place_93 : decode cX6_place 93 = .ok (.iload_n 3, 1) := by decide +kernel
theorem dX6_place_94 : decode cX6_place 94 = .ok (.iadd, 1) := by decide +kernel
theorem dX6_place_95 : decode cX6_place 95 = .ok (.istore 7, 2) := by decide +kernel
theorem dX6_place_97 : decode cX6_place 97 = .ok (.iload 7, 2) := by decide +kernel
theorem dX6_place_99 : decode cX6_place 99 = .ok (.iconst 0, 1) := by decide +kernel
theorem dX6_place_100 : decode cX6_place 100 = .ok (.bipush 15, 2) := by decide +kernel
theorem dX6_place_102 : decode cX6_place 102 = .ok (.invokestatic 65, 3) := by decide +kernel
theorem dX6_place_105 : decode cX6_place 105 = .ok (.ifCond .ne 9, 3) := by decide +kernel
theorem dX6_place_108 : decode cX6_place 108 = .ok (.aload_n 0, 1) := by decide +kernel
theorem dX6_place_109 : decode cX6_place 109 = .ok (.iconst 1, 1) := by decide +kernel
theorem dX6_place_110 : decode cX6_place 110 = .ok (.invokevirtual 69, 3) := by decide +kernel
theorem dX6_place_113 : decode cX6_place 113 = .ok (.ireturn, 1) := by decide +kernel
theorem dX6_place_114 : decode cX6_place 114 = .ok (.iload 4, 2) := by decide +kernel
theorem dX6_place_116 : decode cX6_place 116 = .ok (.tableswitch 90 0 3 #[32, 45, 58, 74], 32) := by decide +kernel
theorem dX6_place_148 : decode cX6_place 148 = .ok (.aload_n 0, 1) := by decide +kernel
theorem dX6_place_149 : decode cX6_place 149 = .ok (.aload 6, 2) := by decide +kernel
theorem dX6_place_151 : decode cX6_place 151 = .ok (.getfield 183, 3) := by decide +kernel
theorem dX6_place_154 : decode cX6_place 154 = .ok (.iload 7, 2) := by decide +kernel
theorem dX6_place_156 : decode cX6_place 156 = .ok (.iaload, 1) := by decide +kernel
theorem dX6_place_157 : decode cX6_place 157 = .ok (.invokevirtual 106, 3) := by decide +kernel
theorem dX6_place_160 : decode cX6_place 160 = .ok (.ireturn, 1) := by decide +kernel
theorem dX6_place_161 : decode cX6_place 161 = .ok (.aload_n 0, 1) := by decide +kernel
theorem dX6_place_162 : decode cX6_place 162 = .ok (.aload 6, 2) := by decide +kernel
theorem dX6_place_164 : decode cX6_place 164 = .ok (.getfield 188, 3) := by decide +kernel
theorem dX6_place_167 : decode cX6_place 167 = .ok (.iload 7, 2) := by decide +kernel
theorem dX6_place_169 : decode cX6_place 169 = .ok (.iaload, 1) := by decide +kernel
theorem dX6_place_170 : decode cX6_place 170 = .ok (.invokevirtual 106, 3) := by decide +kernel
theorem dX6_place_173 : decode cX6_place 173 = .ok (.ireturn, 1) := by decide +kernel
theorem dX6_place_174 : decode cX6_place 174 = .ok (.aload_n 0, 1) := by decide +kernel
theorem dX6_place_175 : decode cX6_place 175 = .ok (.aload 6, 2) := by decide +kernel
theorem dX6_place_177 : decode cX6_place 177 = .ok (.getfield 191, 3) := by decide +kernel
theorem dX6_place_180 : decode cX6_place 180 = .ok (.iload 7, 2) := by decide +kernel
theorem dX6_place_182 : decode cX6_place 182 = .ok (.baload, 1) := by decide +kernel
theorem dX6_place_183 : decode cX6_place 183 = .ok (.invokestatic 145, 3) := by decide +kernel
theorem dX6_place_186 : decode cX6_place 186 = .ok (.invokevirtual 106, 3) := by decide +kernel
theorem dX6_place_189 : decode cX6_place 189 = .ok (.ireturn, 1) := by decide +kernel
theorem dX6_place_190 : decode cX6_place 190 = .ok (.aload_n 0, 1) := by decide +kernel
theorem dX6_place_191 : decode cX6_place 191 = .ok (.aload 6, 2) := by decide +kernel
theorem dX6_place_193 : decode cX6_place 193 = .ok (.getfield 195, 3) := by decide +kernel
theorem dX6_place_196 : decode cX6_place 196 = .ok (.iload 7, 2) := by decide +kernel
theorem dX6_place_198 : decode cX6_place 198 = .ok (.baload, 1) := by decide +kernel
theorem dX6_place_199 : decode cX6_place 199 = .ok (.invokestatic 145, 3) := by decide +kernel
theorem dX6_place_202 : decode cX6_place 202 = .ok (.invokevirtual 106, 3) := by decide +kernel
theorem dX6_place_205 : decode cX6_place 205 = .ok (.ireturn, 1) := by decide +kernel
theorem dX6_place_206 : decode cX6_place 206 = .ok (.aload_n 0, 1) := by decide +kernel
theorem dX6_place_207 : decode cX6_place 207 = .ok (.aload 6, 2) := by decide +kernel
theorem dX6_place_209 : decode cX6_place 209 = .ok (.getfield 198, 3) := by decide +kernel
theorem dX6_place_212 : decode cX6_place 212 = .ok (.iload 7, 2) := by decide +kernel
theorem dX6_place_214 : decode cX6_place 214 = .ok (.iaload, 1) := by decide +kernel
theorem dX6_place_215 : decode cX6_place 215 = .ok (.invokevirtual 106, 3) := by decide +kernel
theorem dX6_place_218 : decode cX6_place 218 = .ok (.ireturn, 1) := by decide +kernel
theorem dX6_cached_0 : decode cX6_cached 0 = .ok (.aload_n 0, 1) := by decide +kernel
theorem dX6_cached_1 : decode cX6_cached 1 = .ok (.getfield 16, 3) := by decide +kernel
theorem dX6_cached_4 : decode cX6_cached 4 = .ok (.iload_n 1, 1) := by decide +kernel
theorem dX6_cached_5 : decode cX6_cached 5 = .ok (.invokevirtual 176, 3) := by decide +kernel
theorem dX6_cached_8 : decode cX6_cached 8 = .ok (.ifCond .eq 14, 3) := by decide +kernel
theorem dX6_cached_11 : decode cX6_cached 11 = .ok (.aload_n 0, 1) := by decide +kernel
theorem dX6_cached_12 : decode cX6_cached 12 = .ok (.getfield 16, 3) := by decide +kernel
theorem dX6_cached_15 : decode cX6_cached 15 = .ok (.iload_n 2, 1) := by decide +kernel
theorem dX6_cached_16 : decode cX6_cached 16 = .ok (.invokevirtual 149, 3) := by decide +kernel
theorem dX6_cached_19 : decode cX6_cached 19 = .ok (.ifCond .ne 9, 3) := by decide +kernel
theorem dX6_cached_22 : decode cX6_cached 22 = .ok (.aload_n 0, 1) := by decide +kernel
theorem dX6_cached_23 : decode cX6_cached 23 = .ok (.iconst 1, 1) := by decide +kernel
theorem dX6_cached_24 : decode cX6_cached 24 = .ok (.invokevirtual 69, 3) := by decide +kernel
theorem dX6_cached_27 : decode cX6_cached 27 = .ok (.ireturn, 1) := by decide +kernel
theorem dX6_cached_28 : decode cX6_cached 28 = .ok (.aload_n 0, 1) := by decide +kernel
theorem dX6_cached_29 : decode cX6_cached 29 = .ok (.getfield 37, 3) := by decide +kernel
theorem dX6_cached_32 : decode cX6_cached 32 = .ok (.getfield 179, 3) := by decide +kernel
theorem dX6_cached_35 : decode cX6_cached 35 = .ok (.iload_n 1, 1) := by decide +kernel
theorem dX6_cached_36 : decode cX6_cached 36 = .ok (.aaload, 1) := by decide +kernel
theorem dX6_cached_37 : decode cX6_cached 37 = .ok (.aload_n 0, 1) := by decide +kernel
theorem dX6_cached_38 : decode cX6_cached 38 = .ok (.getfield 16, 3) := by decide +kernel
theorem dX6_cached_41 : decode cX6_cached 41 = .ok (.iload_n 2, 1) := by decide +kernel
theorem dX6_cached_42 : decode cX6_cached 42 = .ok (.invokevirtual 201, 3) := by decide +kernel
theorem dX6_cached_45 : decode cX6_cached 45 = .ok (.invokevirtual 204, 3) := by decide +kernel
theorem dX6_cached_48 : decode cX6_cached 48 = .ok (.istore_n 3, 1) := by decide +kernel
theorem dX6_cached_49 : decode cX6_cached 49 = .ok (.aload_n 0, 1) := by decide +kernel
theorem dX6_cached_50 : decode cX6_cached 50 = .ok (.iload_n 3, 1) := by decide +kernel
theorem dX6_cached_51 : decode cX6_cached 51 = .ok (.iconst (-1), 1) := by decide +kernel
theorem dX6_cached_52 : decode cX6_cached 52 = .ok (.if_icmp .ne 8, 3) := by decide +kernel
theorem dX6_cached_55 : decode cX6_cached 55 = .ok (.bipush (-2), 2) := by decide +kernel
theorem dX6_cached_57 : decode cX6_cached 57 = .ok (.goto 24, 3) := by decide +kernel
theorem dX6_cached_60 : decode cX6_cached 60 = .ok (.aload_n 0, 1) := by decide +kernel
theorem dX6_cached_61 : decode cX6_cached 61 = .ok (.getfield 37, 3) := by decide +kernel
theorem dX6_cached_64 : decode cX6_cached 64 = .ok (.getfield 179, 3) := by decide +kernel
theorem dX6_cached_67 : decode cX6_cached 67 = .ok (.iload_n 1, 1) := by decide +kernel
theorem dX6_cached_68 : decode cX6_cached 68 = .ok (.aaload, 1) := by decide +kernel
theorem dX6_cached_69 : decode cX6_cached 69 = .ok (.iload_n 3, 1) := by decide +kernel
theorem dX6_cached_70 : decode cX6_cached 70 = .ok (.aload_n 0, 1) := by decide +kernel
theorem dX6_cached_71 : decode cX6_cached 71 = .ok (.getfield 16, 3) := by decide +kernel
theorem dX6_cached_74 : decode cX6_cached 74 = .ok (.iload_n 2, 1) := by decide +kernel
theorem dX6_cached_75 : decode cX6_cached 75 = .ok (.invokevirtual 207, 3) := by decide +kernel
theorem dX6_cached_78 : decode cX6_cached 78 = .ok (.invokevirtual 210, 3) := by decide +kernel
theorem dX6_cached_81 : decode cX6_cached 81 = .ok (.invokevirtual 106, 3) := by decide +kernel
theorem dX6_cached_84 : decode cX6_cached 84 = .ok (.ireturn, 1) := by decide +kernel
theorem dX6_sharers_0 : decode cX6_sharers 0 = .ok (.aload_n 0, 1) := by decide +kernel
theorem dX6_sharers_1 : decode cX6_sharers 1 = .ok (.getfield 96, 3) := by decide +kernel
theorem dX6_sharers_4 : decode cX6_sharers 4 = .ok (.ifCond .eq 13, 3) := by decide +kernel
theorem dX6_sharers_7 : decode cX6_sharers 7 = .ok (.iload_n 1, 1) := by decide +kernel
theorem dX6_sharers_8 : decode cX6_sharers 8 = .ok (.iconst 0, 1) := by decide +kernel
theorem dX6_sharers_9 : decode cX6_sharers 9 = .ok (.bipush 16, 2) := by decide +kernel
theorem dX6_sharers_11 : decode cX6_sharers 11 = .ok (.invokestatic 65, 3) := by decide +kernel
theorem dX6_sharers_14 : decode cX6_sharers 14 = .ok (.ifCond .ne 9, 3) := by decide +kernel
theorem dX6_sharers_17 : decode cX6_sharers 17 = .ok (.aload_n 0, 1) := by decide +kernel
theorem dX6_sharers_18 : decode cX6_sharers 18 = .ok (.iconst 1, 1) := by decide +kernel
theorem dX6_sharers_19 : decode cX6_sharers 19 = .ok (.invokevirtual 69, 3) := by decide +kernel
theorem dX6_sharers_22 : decode cX6_sharers 22 = .ok (.ireturn, 1) := by decide +kernel
theorem dX6_sharers_23 : decode cX6_sharers 23 = .ok (.iconst 0, 1) := by decide +kernel
theorem dX6_sharers_24 : decode cX6_sharers 24 = .ok (.istore_n 2, 1) := by decide +kernel
theorem dX6_sharers_25 : decode cX6_sharers 25 = .ok (.iconst 0, 1) := by decide +kernel
theorem dX6_sharers_26 : decode cX6_sharers 26 = .ok (.istore_n 3, 1) := by decide +kernel
theorem dX6_sharers_27 : decode cX6_sharers 27 = .ok (.iload_n 3, 1) := by decide +kernel
theorem dX6_sharers_28 : decode cX6_sharers 28 = .ok (.iconst 4, 1) := by decide +kernel
theorem dX6_sharers_29 : decode cX6_sharers 29 = .ok (.if_icmp .ge 32, 3) := by decide +kernel
theorem dX6_sharers_32 : decode cX6_sharers 32 = .ok (.aload_n 0, 1) := by decide +kernel
theorem dX6_sharers_33 : decode cX6_sharers 33 = .ok (.getfield 37, 3) := by decide +kernel
theorem dX6_sharers_36 : decode cX6_sharers 36 = .ok (.getfield 179, 3) := by decide +kernel
theorem dX6_sharers_39 : decode cX6_sharers 39 = .ok (.iload_n 3, 1) := by decide +kernel
theorem dX6_sharers_40 : decode cX6_sharers 40 = .ok (.aaload, 1) := by decide +kernel
theorem dX6_sharers_41 : decode cX6_sharers 41 = .ok (.iload_n 1, 1) := by decide +kernel
theorem dX6_sharers_42 : decode cX6_sharers 42 = .ok (.invokevirtual 204, 3) := by decide +kernel
theorem dX6_sharers_45 : decode cX6_sharers 45 = .ok (.iconst (-1), 1) := by decide +kernel
theorem dX6_sharers_46 : decode cX6_sharers 46 = .ok (.if_icmp .eq 9, 3) := by decide +kernel
theorem dX6_sharers_49 : decode cX6_sharers 49 = .ok (.iload_n 2, 1) := by decide +kernel
theorem dX6_sharers_50 : decode cX6_sharers 50 = .ok (.iconst 1, 1) := by decide +kernel
theorem dX6_sharers_51 : decode cX6_sharers 51 = .ok (.iload_n 3, 1) := by decide +kernel
theorem dX6_sharers_52 : decode cX6_sharers 52 = .ok (.ishl, 1) := by decide +kernel
theorem dX6_sharers_53 : decode cX6_sharers 53 = .ok (.ior, 1) := by decide +kernel
theorem dX6_sharers_54 : decode cX6_sharers 54 = .ok (.istore_n 2, 1) := by decide +kernel
theorem dX6_sharers_55 : decode cX6_sharers 55 = .ok (.iinc 3 1, 3) := by decide +kernel
theorem dX6_sharers_58 : decode cX6_sharers 58 = .ok (.goto (-31), 3) := by decide +kernel
theorem dX6_sharers_61 : decode cX6_sharers 61 = .ok (.aload_n 0, 1) := by decide +kernel
theorem dX6_sharers_62 : decode cX6_sharers 62 = .ok (.iload_n 2, 1) := by decide +kernel
theorem dX6_sharers_63 : decode cX6_sharers 63 = .ok (.invokevirtual 106, 3) := by decide +kernel
theorem dX6_sharers_66 : decode cX6_sharers 66 = .ok (.ireturn, 1) := by decide +kernel
theorem dX6_reads_0 : decode cX6_reads 0 = .ok (.aload_n 0, 1) := by decide +kernel
theorem dX6_reads_1 : decode cX6_reads 1 = .ok (.getfield 16, 3) := by decide +kernel
theorem dX6_reads_4 : decode cX6_reads 4 = .ok (.iload_n 1, 1) := by decide +kernel
theorem dX6_reads_5 : decode cX6_reads 5 = .ok (.invokevirtual 176, 3) := by decide +kernel
theorem dX6_reads_8 : decode cX6_reads 8 = .ok (.ifCond .eq 23, 3) := by decide +kernel
theorem dX6_reads_11 : decode cX6_reads 11 = .ok (.aload_n 0, 1) := by decide +kernel
theorem dX6_reads_12 : decode cX6_reads 12 = .ok (.aload_n 0, 1) := by decide +kernel
theorem dX6_reads_13 : decode cX6_reads 13 = .ok (.getfield 37, 3) := by decide +kernel
theorem dX6_reads_16 : decode cX6_reads 16 = .ok (.getfield 179, 3) := by decide +kernel
theorem dX6_reads_19 : decode cX6_reads 19 = .ok (.iload_n 1, 1) := by decide +kernel
theorem dX6_reads_20 : decode cX6_reads 20 = .ok (.aaload, 1) := by decide +kernel
theorem dX6_reads_21 : decode cX6_reads 21 = .ok (.iconst 0, 1) := by decide +kernel
theorem dX6_reads_22 : decode cX6_reads 22 = .ok (.invokevirtual 213, 3) := by decide +kernel
theorem dX6_reads_25 : decode cX6_reads 25 = .ok (.invokevirtual 106, 3) := by decide +kernel
theorem dX6_reads_28 : decode cX6_reads 28 = .ok (.goto 8, 3) := by decide +kernel
theorem dX6_reads_31 : decode cX6_reads 31 = .ok (.aload_n 0, 1) := by decide +kernel
theorem dX6_reads_32 : decode cX6_reads 32 = .ok (.iconst 1, 1) := by decide +kernel
theorem dX6_reads_33 : decode cX6_reads 33 = .ok (.invokevirtual 69, 3) := by decide +kernel
theorem dX6_reads_36 : decode cX6_reads 36 = .ok (.ireturn, 1) := by decide +kernel
theorem dX6_writes_0 : decode cX6_writes 0 = .ok (.aload_n 0, 1) := by decide +kernel
theorem dX6_writes_1 : decode cX6_writes 1 = .ok (.getfield 16, 3) := by decide +kernel
theorem dX6_writes_4 : decode cX6_writes 4 = .ok (.iload_n 1, 1) := by decide +kernel
theorem dX6_writes_5 : decode cX6_writes 5 = .ok (.invokevirtual 176, 3) := by decide +kernel
theorem dX6_writes_8 : decode cX6_writes 8 = .ok (.ifCond .eq 23, 3) := by decide +kernel
theorem dX6_writes_11 : decode cX6_writes 11 = .ok (.aload_n 0, 1) := by decide +kernel
theorem dX6_writes_12 : decode cX6_writes 12 = .ok (.aload_n 0, 1) := by decide +kernel
theorem dX6_writes_13 : decode cX6_writes 13 = .ok (.getfield 37, 3) := by decide +kernel
theorem dX6_writes_16 : decode cX6_writes 16 = .ok (.getfield 179, 3) := by decide +kernel
theorem dX6_writes_19 : decode cX6_writes 19 = .ok (.iload_n 1, 1) := by decide +kernel
theorem dX6_writes_20 : decode cX6_writes 20 = .ok (.aaload, 1) := by decide +kernel
theorem dX6_writes_21 : decode cX6_writes 21 = .ok (.iconst 1, 1) := by decide +kernel
theorem dX6_writes_22 : decode cX6_writes 22 = .ok (.invokevirtual 213, 3) := by decide +kernel
theorem dX6_writes_25 : decode cX6_writes 25 = .ok (.invokevirtual 106, 3) := by decide +kernel
theorem dX6_writes_28 : decode cX6_writes 28 = .ok (.goto 8, 3) := by decide +kernel
theorem dX6_writes_31 : decode cX6_writes 31 = .ok (.aload_n 0, 1) := by decide +kernel
theorem dX6_writes_32 : decode cX6_writes 32 = .ok (.iconst 1, 1) := by decide +kernel
theorem dX6_writes_33 : decode cX6_writes 33 = .ok (.invokevirtual 69, 3) := by decide +kernel
theorem dX6_writes_36 : decode cX6_writes 36 = .ok (.ireturn, 1) := by decide +kernel
theorem dX6_traffic_0 : decode cX6_traffic 0 = .ok (.aload_n 0, 1) := by decide +kernel
theorem dX6_traffic_1 : decode cX6_traffic 1 = .ok (.getfield 96, 3) := by decide +kernel
theorem dX6_traffic_4 : decode cX6_traffic 4 = .ok (.ifCond .eq 12, 3) := by decide +kernel
theorem dX6_traffic_7 : decode cX6_traffic 7 = .ok (.iload_n 1, 1) := by decide +kernel
theorem dX6_traffic_8 : decode cX6_traffic 8 = .ok (.iconst 0, 1) := by decide +kernel
theorem dX6_traffic_9 : decode cX6_traffic 9 = .ok (.iconst 2, 1) := by decide +kernel
theorem dX6_traffic_10 : decode cX6_traffic 10 = .ok (.invokestatic 65, 3) := by decide +kernel
theorem dX6_traffic_13 : decode cX6_traffic 13 = .ok (.ifCond .ne 9, 3) := by decide +kernel
theorem dX6_traffic_16 : decode cX6_traffic 16 = .ok (.aload_n 0, 1) := by decide +kernel
theorem dX6_traffic_17 : decode cX6_traffic 17 = .ok (.iconst 1, 1) := by decide +kernel
theorem dX6_traffic_18 : decode cX6_traffic 18 = .ok (.invokevirtual 69, 3) := by decide +kernel
theorem dX6_traffic_21 : decode cX6_traffic 21 = .ok (.ireturn, 1) := by decide +kernel
theorem dX6_traffic_22 : decode cX6_traffic 22 = .ok (.aload_n 0, 1) := by decide +kernel
theorem dX6_traffic_23 : decode cX6_traffic 23 = .ok (.aload_n 0, 1) := by decide +kernel
theorem dX6_traffic_24 : decode cX6_traffic 24 = .ok (.getfield 37, 3) := by decide +kernel
theorem dX6_traffic_27 : decode cX6_traffic 27 = .ok (.getfield 216, 3) := by decide +kernel
theorem dX6_traffic_30 : decode cX6_traffic 30 = .ok (.iload_n 1, 1) := by decide +kernel
theorem dX6_traffic_31 : decode cX6_traffic 31 = .ok (.iaload, 1) := by decide +kernel
theorem dX6_traffic_32 : decode cX6_traffic 32 = .ok (.invokevirtual 106, 3) := by decide +kernel
theorem dX6_traffic_35 : decode cX6_traffic 35 = .ok (.ireturn, 1) := by decide +kernel
theorem dX6_core_0 : decode cX6_core 0 = .ok (.aload_n 0, 1) := by decide +kernel
theorem dX6_core_1 : decode cX6_core 1 = .ok (.getfield 16, 3) := by decide +kernel
theorem dX6_core_4 : decode cX6_core 4 = .ok (.iload_n 1, 1) := by decide +kernel
theorem dX6_core_5 : decode cX6_core 5 = .ok (.invokevirtual 176, 3) := by decide +kernel
theorem dX6_core_8 : decode cX6_core 8 = .ok (.ifCond .ne 9, 3) := by decide +kernel
theorem dX6_core_11 : decode cX6_core 11 = .ok (.aload_n 0, 1) := by decide +kernel
theorem dX6_core_12 : decode cX6_core 12 = .ok (.iconst 1, 1) := by decide +kernel
theorem dX6_core_13 : decode cX6_core 13 = .ok (.invokevirtual 69, 3) := by decide +kernel
theorem dX6_core_16 : decode cX6_core 16 = .ok (.ireturn, 1) := by decide +kernel
theorem dX6_core_17 : decode cX6_core 17 = .ok (.aload_n 0, 1) := by decide +kernel
theorem dX6_core_18 : decode cX6_core 18 = .ok (.getfield 37, 3) := by decide +kernel
theorem dX6_core_21 : decode cX6_core 21 = .ok (.getfield 219, 3) := by decide +kernel
theorem dX6_core_24 : decode cX6_core 24 = .ok (.iload_n 1, 1) := by decide +kernel
theorem dX6_core_25 : decode cX6_core 25 = .ok (.aaload, 1) := by decide +kernel
theorem dX6_core_26 : decode cX6_core 26 = .ok (.astore_n 3, 1) := by decide +kernel
theorem dX6_core_27 : decode cX6_core 27 = .ok (.iload_n 2, 1) := by decide +kernel
theorem dX6_core_28 : decode cX6_core 28 = .ok (.tableswitch 128 0 6 #[44, 69, 78, 87, 96, 105, 114], 44) := by decide +kernel
theorem dX6_core_72 : decode cX6_core 72 = .ok (.aload_n 0, 1) := by decide +kernel
theorem dX6_core_73 : decode cX6_core 73 = .ok (.aload_n 0, 1) := by decide +kernel
theorem dX6_core_74 : decode cX6_core 74 = .ok (.getfield 37, 3) := by decide +kernel
theorem dX6_core_77 : decode cX6_core 77 = .ok (.iload_n 1, 1) := by decide +kernel
theorem dX6_core_78 : decode cX6_core 78 = .ok (.invokevirtual 222, 3) := by decide +kernel
theorem dX6_core_81 : decode cX6_core 81 = .ok (.ifCond .eq 10, 3) := by decide +kernel
theorem dX6_core_84 : decode cX6_core 84 = .ok (.aload_n 3, 1) := by decide +kernel
theorem dX6_core_85 : decode cX6_core 85 = .ok (.getfield 225, 3) := by decide +kernel
theorem dX6_core_88 : decode cX6_core 88 = .ok (.goto 5, 3) := by decide +kernel
theorem dX6_core_91 : decode cX6_core 91 = .ok (.bipush (-2), 2) := by decide +kernel
theorem dX6_core_93 : decode cX6_core 93 = .ok (.invokevirtual 106, 3) := by decide +kernel
theorem dX6_core_96 : decode cX6_core 96 = .ok (.ireturn, 1) := by decide +kernel
theorem dX6_core_97 : decode cX6_core 97 = .ok (.aload_n 0, 1) := by decide +kernel
theorem dX6_core_98 : decode cX6_core 98 = .ok (.aload_n 3, 1) := by decide +kernel
theorem dX6_core_99 : decode cX6_core 99 = .ok (.getfield 230, 3) := by decide +kernel
theorem dX6_core_102 : decode cX6_core 102 = .ok (.invokevirtual 106, 3) := by decide +kernel
theorem dX6_core_105 : decode cX6_core 105 = .ok (.ireturn, 1) := by decide +kernel
theorem dX6_core_106 : decode cX6_core 106 = .ok (.aload_n 0, 1) := by decide +kernel
theorem dX6_core_107 : decode cX6_core 107 = .ok (.aload_n 3, 1) := by decide +kernel
theorem dX6_core_108 : decode cX6_core 108 = .ok (.getfield 233, 3) := by decide +kernel
theorem dX6_core_111 : decode cX6_core 111 = .ok (.invokevirtual 106, 3) := by decide +kernel
theorem dX6_core_114 : decode cX6_core 114 = .ok (.ireturn, 1) := by decide +kernel
theorem dX6_core_115 : decode cX6_core 115 = .ok (.aload_n 0, 1) := by decide +kernel
theorem dX6_core_116 : decode cX6_core 116 = .ok (.aload_n 3, 1) := by decide +kernel
theorem dX6_core_117 : decode cX6_core 117 = .ok (.getfield 236, 3) := by decide +kernel
theorem dX6_core_120 : decode cX6_core 120 = .ok (.invokevirtual 106, 3) := by decide +kernel
theorem dX6_core_123 : decode cX6_core 123 = .ok (.ireturn, 1) := by decide +kernel
theorem dX6_core_124 : decode cX6_core 124 = .ok (.aload_n 0, 1) := by decide +kernel
theorem dX6_core_125 : decode cX6_core 125 = .ok (.aload_n 3, 1) := by decide +kernel
theorem dX6_core_126 : decode cX6_core 126 = .ok (.getfield 239, 3) := by decide +kernel
theorem dX6_core_129 : decode cX6_core 129 = .ok (.invokevirtual 106, 3) := by decide +kernel
theorem dX6_core_132 : decode cX6_core 132 = .ok (.ireturn, 1) := by decide +kernel
theorem dX6_core_133 : decode cX6_core 133 = .ok (.aload_n 0, 1) := by decide +kernel
theorem dX6_core_134 : decode cX6_core 134 = .ok (.aload_n 3, 1) := by decide +kernel
theorem dX6_core_135 : decode cX6_core 135 = .ok (.getfield 242, 3) := by decide +kernel
theorem dX6_core_138 : decode cX6_core 138 = .ok (.invokevirtual 106, 3) := by decide +kernel
theorem dX6_core_141 : decode cX6_core 141 = .ok (.ireturn, 1) := by decide +kernel
theorem dX6_core_142 : decode cX6_core 142 = .ok (.aload_n 0, 1) := by decide +kernel
theorem dX6_core_143 : decode cX6_core 143 = .ok (.aload_n 0, 1) := by decide +kernel
theorem dX6_core_144 : decode cX6_core 144 = .ok (.getfield 16, 3) := by decide +kernel
theorem dX6_core_147 : decode cX6_core 147 = .ok (.getfield 245, 3) := by decide +kernel
theorem dX6_core_150 : decode cX6_core 150 = .ok (.iload_n 1, 1) := by decide +kernel
theorem dX6_core_151 : decode cX6_core 151 = .ok (.iaload, 1) := by decide +kernel
theorem dX6_core_152 : decode cX6_core 152 = .ok (.invokevirtual 106, 3) := by decide +kernel
theorem dX6_core_155 : decode cX6_core 155 = .ok (.ireturn, 1) := by decide +kernel
theorem dX6_core_156 : decode cX6_core 156 = .ok (.aload_n 0, 1) := by decide +kernel
theorem dX6_core_157 : decode cX6_core 157 = .ok (.iconst 1, 1) := by decide +kernel
theorem dX6_core_158 : decode cX6_core 158 = .ok (.invokevirtual 69, 3) := by decide +kernel
theorem dX6_core_161 : decode cX6_core 161 = .ok (.ireturn, 1) := by decide +kernel
theorem dX6_count_0 : decode cX6_count 0 = .ok (.aload_n 0, 1) := by decide +kernel
theorem dX6_count_1 : decode cX6_count 1 = .ok (.getfield 16, 3) := by decide +kernel
theorem dX6_count_4 : decode cX6_count 4 = .ok (.iload_n 1, 1) := by decide +kernel
theorem dX6_count_5 : decode cX6_count 5 = .ok (.invokevirtual 176, 3) := by decide +kernel
theorem dX6_count_8 : decode cX6_count 8 = .ok (.ifCond .eq 13, 3) := by decide +kernel
theorem dX6_count_11 : decode cX6_count 11 = .ok (.iload_n 2, 1) := by decide +kernel
theorem dX6_count_12 : decode cX6_count 12 = .ok (.iconst 0, 1) := by decide +kernel
theorem dX6_count_13 : decode cX6_count 13 = .ok (.bipush 6, 2) := by decide +kernel
theorem dX6_count_15 : decode cX6_count 15 = .ok (.invokestatic 65, 3) := by decide +kernel
theorem dX6_count_18 : decode cX6_count 18 = .ok (.ifCond .ne 9, 3) := by decide +kernel
theorem dX6_count_21 : decode cX6_count 21 = .ok (.aload_n 0, 1) := by decide +kernel
theorem dX6_count_22 : decode cX6_count 22 = .ok (.iconst 1, 1) := by decide +kernel
theorem dX6_count_23 : decode cX6_count 23 = .ok (.invokevirtual 69, 3) := by decide +kernel
theorem dX6_count_26 : decode cX6_count 26 = .ok (.ireturn, 1) := by decide +kernel
theorem dX6_count_27 : decode cX6_count 27 = .ok (.aload_n 0, 1) := by decide +kernel
theorem dX6_count_28 : decode cX6_count 28 = .ok (.aload_n 0, 1) := by decide +kernel
theorem dX6_count_29 : decode cX6_count 29 = .ok (.getfield 37, 3) := by decide +kernel
theorem dX6_count_32 : decode cX6_count 32 = .ok (.getfield 219, 3) := by decide +kernel
theorem dX6_count_35 : decode cX6_count 35 = .ok (.iload_n 1, 1) := by decide +kernel
theorem dX6_count_36 : decode cX6_count 36 = .ok (.aaload, 1) := by decide +kernel
theorem dX6_count_37 : decode cX6_count 37 = .ok (.getfield 248, 3) := by decide +kernel
theorem dX6_count_40 : decode cX6_count 40 = .ok (.iload_n 2, 1) := by decide +kernel
theorem dX6_count_41 : decode cX6_count 41 = .ok (.iaload, 1) := by decide +kernel
theorem dX6_count_42 : decode cX6_count 42 = .ok (.invokevirtual 106, 3) := by decide +kernel
theorem dX6_count_45 : decode cX6_count 45 = .ok (.ireturn, 1) := by decide +kernel
theorem dX6_advice_0 : decode cX6_advice 0 = .ok (.aload_n 0, 1) := by decide +kernel
theorem dX6_advice_1 : decode cX6_advice 1 = .ok (.getfield 16, 3) := by decide +kernel
theorem dX6_advice_4 : decode cX6_advice 4 = .ok (.iload_n 1, 1) := by decide +kernel
theorem dX6_advice_5 : decode cX6_advice 5 = .ok (.invokevirtual 176, 3) := by decide +kernel
theorem dX6_advice_8 : decode cX6_advice 8 = .ok (.ifCond .ne 9, 3) := by decide +kernel
theorem dX6_advice_11 : decode cX6_advice 11 = .ok (.aload_n 0, 1) := by decide +kernel
theorem dX6_advice_12 : decode cX6_advice 12 = .ok (.iconst 1, 1) := by decide +kernel
theorem dX6_advice_13 : decode cX6_advice 13 = .ok (.invokevirtual 69, 3) := by decide +kernel
theorem dX6_advice_16 : decode cX6_advice 16 = .ok (.ireturn, 1) := by decide +kernel
theorem dX6_advice_17 : decode cX6_advice 17 = .ok (.iload_n 2, 1) := by decide +kernel
theorem dX6_advice_18 : decode cX6_advice 18 = .ok (.iconst 0, 1) := by decide +kernel
theorem dX6_advice_19 : decode cX6_advice 19 = .ok (.iconst 3, 1) := by decide +kernel
theorem dX6_advice_20 : decode cX6_advice 20 = .ok (.invokestatic 65, 3) := by decide +kernel
theorem dX6_advice_23 : decode cX6_advice 23 = .ok (.ifCond .ne 9, 3) := by decide +kernel
theorem dX6_advice_26 : decode cX6_advice 26 = .ok (.aload_n 0, 1) := by decide +kernel
theorem dX6_advice_27 : decode cX6_advice 27 = .ok (.iconst 2, 1) := by decide +kernel
theorem dX6_advice_28 : decode cX6_advice 28 = .ok (.invokevirtual 69, 3) := by decide +kernel
theorem dX6_advice_31 : decode cX6_advice 31 = .ok (.ireturn, 1) := by decide +kernel
theorem dX6_advice_32 : decode cX6_advice 32 = .ok (.aload_n 0, 1) := by decide +kernel
theorem dX6_advice_33 : decode cX6_advice 33 = .ok (.getfield 37, 3) := by decide +kernel
theorem dX6_advice_36 : decode cX6_advice 36 = .ok (.getfield 219, 3) := by decide +kernel
theorem dX6_advice_39 : decode cX6_advice 39 = .ok (.iload_n 1, 1) := by decide +kernel
theorem dX6_advice_40 : decode cX6_advice 40 = .ok (.aaload, 1) := by decide +kernel
theorem dX6_advice_41 : decode cX6_advice 41 = .ok (.getfield 236, 3) := by decide +kernel
theorem dX6_advice_44 : decode cX6_advice 44 = .ok (.iconst 1, 1) := by decide +kernel
theorem dX6_advice_45 : decode cX6_advice 45 = .ok (.if_icmp .eq 9, 3) := by decide +kernel
theorem dX6_advice_48 : decode cX6_advice 48 = .ok (.aload_n 0, 1) := by decide +kernel
theorem dX6_advice_49 : decode cX6_advice 49 = .ok (.iconst 5, 1) := by decide +kernel
theorem dX6_advice_50 : decode cX6_advice 50 = .ok (.invokevirtual 69, 3) := by decide +kernel
theorem dX6_advice_53 : decode cX6_advice 53 = .ok (.ireturn, 1) := by decide +kernel
theorem dX6_advice_54 : decode cX6_advice 54 = .ok (.aload_n 0, 1) := by decide +kernel
theorem dX6_advice_55 : decode cX6_advice 55 = .ok (.aload_n 0, 1) := by decide +kernel
theorem dX6_advice_56 : decode cX6_advice 56 = .ok (.getfield 37, 3) := by decide +kernel
theorem dX6_advice_59 : decode cX6_advice 59 = .ok (.iload_n 1, 1) := by decide +kernel
theorem dX6_advice_60 : decode cX6_advice 60 = .ok (.iload_n 2, 1) := by decide +kernel
theorem dX6_advice_61 : decode cX6_advice 61 = .ok (.invokevirtual 251, 3) := by decide +kernel
theorem dX6_advice_64 : decode cX6_advice 64 = .ok (.aload_n 0, 1) := by decide +kernel
theorem dX6_advice_65 : decode cX6_advice 65 = .ok (.getfield 37, 3) := by decide +kernel
theorem dX6_advice_68 : decode cX6_advice 68 = .ok (.getfield 254, 3) := by decide +kernel
theorem dX6_advice_71 : decode cX6_advice 71 = .ok (.if_icmp .lt 7, 3) := by decide +kernel
theorem dX6_advice_74 : decode cX6_advice 74 = .ok (.iconst 1, 1) := by decide +kernel
theorem dX6_advice_75 : decode cX6_advice 75 = .ok (.goto 4, 3) := by decide +kernel
theorem dX6_advice_78 : decode cX6_advice 78 = .ok (.iconst 0, 1) := by decide +kernel
theorem dX6_advice_79 : decode cX6_advice 79 = .ok (.invokestatic 145, 3) := by decide +kernel
theorem dX6_advice_82 : decode cX6_advice 82 = .ok (.invokevirtual 106, 3) := by decide +kernel
theorem dX6_advice_85 : decode cX6_advice 85 = .ok (.ireturn, 1) := by decide +kernel
theorem dX6_commit_0 : decode cX6_commit 0 = .ok (.iload_n 1, 1) := by decide +kernel
theorem dX6_commit_1 : decode cX6_commit 1 = .ok (.iconst 0, 1) := by decide +kernel
theorem dX6_commit_2 : decode cX6_commit 2 = .ok (.aload_n 0, 1) := by decide +kernel
theorem dX6_commit_3 : decode cX6_commit 3 = .ok (.getfield 37, 3) := by decide +kernel
theorem dX6_commit_6 : decode cX6_commit 6 = .ok (.getfield 128, 3) := by decide +kernel
theorem dX6_commit_9 : decode cX6_commit 9 = .ok (.iconst 1, 1) := by decide +kernel
theorem dX6_commit_10 : decode cX6_commit 10 = .ok (.isub, 1) := by decide +kernel
theorem dX6_commit_11 : decode cX6_commit 11 = .ok (.invokestatic 65, 3) := by decide +kernel
theorem dX6_commit_14 : decode cX6_commit 14 = .ok (.ifCond .eq 13, 3) := by decide +kernel
theorem dX6_commit_17 : decode cX6_commit 17 = .ok (.iload_n 1, 1) := by decide +kernel
theorem dX6_commit_18 : decode cX6_commit 18 = .ok (.bipush 48, 2) := by decide +kernel
theorem dX6_commit_20 : decode cX6_commit 20 = .ok (.if_icmp .ge 7, 3) := by decide +kernel
theorem dX6_commit_23 : decode cX6_commit 23 = .ok (.iconst 1, 1) := by decide +kernel
theorem dX6_commit_24 : decode cX6_commit 24 = .ok (.goto 4, 3) := by decide +kernel
theorem dX6_commit_27 : decode cX6_commit 27 = .ok (.iconst 0, 1) := by decide +kernel
theorem dX6_commit_28 : decode cX6_commit 28 = .ok (.istore_n 3, 1) := by decide +kernel
theorem dX6_commit_29 : decode cX6_commit 29 = .ok (.aload_n 0, 1) := by decide +kernel
theorem dX6_commit_30 : decode cX6_commit 30 = .ok (.getfield 96, 3) := by decide +kernel
theorem dX6_commit_33 : decode cX6_commit 33 = .ok (.ifCond .eq 16, 3) := by decide +kernel
theorem dX6_commit_36 : decode cX6_commit 36 = .ok (.iload_n 3, 1) := by decide +kernel
theorem dX6_commit_37 : decode cX6_commit 37 = .ok (.ifCond .eq 12, 3) := by decide +kernel
theorem dX6_commit_40 : decode cX6_commit 40 = .ok (.iload_n 2, 1) := by decide +kernel
theorem dX6_commit_41 : decode cX6_commit 41 = .ok (.iconst 0, 1) := by decide +kernel
theorem dX6_commit_42 : decode cX6_commit 42 = .ok (.iconst 3, 1) := by decide +kernel
theorem dX6_commit_43 : decode cX6_commit 43 = .ok (.invokestatic 65, 3) := by decide +kernel
theorem dX6_commit_46 : decode cX6_commit 46 = .ok (.ifCond .ne 9, 3) := by decide +kernel
theorem dX6_commit_49 : decode cX6_commit 49 = .ok (.aload_n 0, 1) := by decide +kernel
theorem dX6_commit_50 : decode cX6_commit 50 = .ok (.iconst 1, 1) := by decide +kernel
theorem dX6_commit_51 : decode cX6_commit 51 = .ok (.invokevirtual 69, 3) := by decide +kernel
theorem dX6_commit_54 : decode cX6_commit 54 = .ok (.ireturn, 1) := by decide +kernel
theorem dX6_commit_55 : decode cX6_commit 55 = .ok (.aload_n 0, 1) := by decide +kernel
theorem dX6_commit_56 : decode cX6_commit 56 = .ok (.aload_n 0, 1) := by decide +kernel
theorem dX6_commit_57 : decode cX6_commit 57 = .ok (.getfield 37, 3) := by decide +kernel
theorem dX6_commit_60 : decode cX6_commit 60 = .ok (.getfield 166, 3) := by decide +kernel
theorem dX6_commit_63 : decode cX6_commit 63 = .ok (.iload_n 1, 1) := by decide +kernel
theorem dX6_commit_64 : decode cX6_commit 64 = .ok (.iconst 4, 1) := by decide +kernel
theorem dX6_commit_65 : decode cX6_commit 65 = .ok (.imul, 1) := by decide +kernel
theorem dX6_commit_66 : decode cX6_commit 66 = .ok (.iload_n 2, 1) := by decide +kernel
theorem dX6_commit_67 : decode cX6_commit 67 = .ok (.iadd, 1) := by decide +kernel
theorem dX6_commit_68 : decode cX6_commit 68 = .ok (.iaload, 1) := by decide +kernel
theorem dX6_commit_69 : decode cX6_commit 69 = .ok (.invokevirtual 106, 3) := by decide +kernel
theorem dX6_commit_72 : decode cX6_commit 72 = .ok (.ireturn, 1) := by decide +kernel
theorem dX6_would_0 : decode cX6_would 0 = .ok (.aload_n 0, 1) := by decide +kernel
theorem dX6_would_1 : decode cX6_would 1 = .ok (.getfield 16, 3) := by decide +kernel
theorem dX6_would_4 : decode cX6_would 4 = .ok (.iload_n 1, 1) := by decide +kernel
theorem dX6_would_5 : decode cX6_would 5 = .ok (.invokevirtual 176, 3) := by decide +kernel
theorem dX6_would_8 : decode cX6_would 8 = .ok (.ifCond .ne 9, 3) := by decide +kernel
theorem dX6_would_11 : decode cX6_would 11 = .ok (.aload_n 0, 1) := by decide +kernel
theorem dX6_would_12 : decode cX6_would 12 = .ok (.iconst 1, 1) := by decide +kernel
theorem dX6_would_13 : decode cX6_would 13 = .ok (.invokevirtual 69, 3) := by decide +kernel
theorem dX6_would_16 : decode cX6_would 16 = .ok (.ireturn, 1) := by decide +kernel
theorem dX6_would_17 : decode cX6_would 17 = .ok (.aload_n 0, 1) := by decide +kernel
theorem dX6_would_18 : decode cX6_would 18 = .ok (.getfield 44, 3) := by decide +kernel
theorem dX6_would_21 : decode cX6_would 21 = .ok (.aload_n 0, 1) := by decide +kernel
theorem dX6_would_22 : decode cX6_would 22 = .ok (.getfield 37, 3) := by decide +kernel
theorem dX6_would_25 : decode cX6_would 25 = .ok (.invokevirtual 255, 3) := by decide +kernel
theorem dX6_would_28 : decode cX6_would 28 = .ok (.aload_n 0, 1) := by decide +kernel
theorem dX6_would_29 : decode cX6_would 29 = .ok (.aload_n 0, 1) := by decide +kernel
theorem dX6_would_30 : decode cX6_would 30 = .ok (.getfield 44, 3) := by decide +kernel
theorem dX6_would_33 : decode cX6_would 33 = .ok (.iload_n 1, 1) := by decide +kernel
theorem dX6_would_34 : decode cX6_would 34 = .ok (.invokevirtual 258, 3) := by decide +kernel
theorem dX6_would_37 : decode cX6_would 37 = .ok (.invokevirtual 106, 3) := by decide +kernel
theorem dX6_would_40 : decode cX6_would 40 = .ok (.ireturn, 1) := by decide +kernel
theorem dX6_wouldEnd_0 : decode cX6_wouldEnd 0 = .ok (.aload_n 0, 1) := by decide +kernel
theorem dX6_wouldEnd_1 : decode cX6_wouldEnd 1 = .ok (.getfield 16, 3) := by decide +kernel
theorem dX6_wouldEnd_4 : decode cX6_wouldEnd 4 = .ok (.iload_n 1, 1) := by decide +kernel
theorem dX6_wouldEnd_5 : decode cX6_wouldEnd 5 = .ok (.invokevirtual 176, 3) := by decide +kernel
theorem dX6_wouldEnd_8 : decode cX6_wouldEnd 8 = .ok (.ifCond .ne 9, 3) := by decide +kernel
theorem dX6_wouldEnd_11 : decode cX6_wouldEnd 11 = .ok (.aload_n 0, 1) := by decide +kernel
theorem dX6_wouldEnd_12 : decode cX6_wouldEnd 12 = .ok (.iconst 1, 1) := by decide +kernel
theorem dX6_wouldEnd_13 : decode cX6_wouldEnd 13 = .ok (.invokevirtual 69, 3) := by decide +kernel
theorem dX6_wouldEnd_16 : decode cX6_wouldEnd 16 = .ok (.ireturn, 1) := by decide +kernel
theorem dX6_wouldEnd_17 : decode cX6_wouldEnd 17 = .ok (.aload_n 0, 1) := by decide +kernel
theorem dX6_wouldEnd_18 : decode cX6_wouldEnd 18 = .ok (.getfield 44, 3) := by decide +kernel
theorem dX6_wouldEnd_21 : decode cX6_wouldEnd 21 = .ok (.aload_n 0, 1) := by decide +kernel
theorem dX6_wouldEnd_22 : decode cX6_wouldEnd 22 = .ok (.getfield 37, 3) := by decide +kernel
theorem dX6_wouldEnd_25 : decode cX6_wouldEnd 25 = .ok (.invokevirtual 255, 3) := by decide +kernel
theorem dX6_wouldEnd_28 : decode cX6_wouldEnd 28 = .ok (.aload_n 0, 1) := by decide +kernel
theorem dX6_wouldEnd_29 : decode cX6_wouldEnd 29 = .ok (.getfield 44, 3) := by decide +kernel
theorem dX6_wouldEnd_32 : decode cX6_wouldEnd 32 = .ok (.iload_n 1, 1) := by decide +kernel
theorem dX6_wouldEnd_33 : decode cX6_wouldEnd 33 = .ok (.invokevirtual 258, 3) := by decide +kernel
theorem dX6_wouldEnd_36 : decode cX6_wouldEnd 36 = .ok (.pop, 1) := by decide +kernel
theorem dX6_wouldEnd_37 : decode cX6_wouldEnd 37 = .ok (.aload_n 0, 1) := by decide +kernel
theorem dX6_wouldEnd_38 : decode cX6_wouldEnd 38 = .ok (.aload_n 0, 1) := by decide +kernel
theorem dX6_wouldEnd_39 : decode cX6_wouldEnd 39 = .ok (.getfield 44, 3) := by decide +kernel
theorem dX6_wouldEnd_42 : decode cX6_wouldEnd 42 = .ok (.getfield 261, 3) := by decide +kernel
theorem dX6_wouldEnd_45 : decode cX6_wouldEnd 45 = .ok (.invokevirtual 106, 3) := by decide +kernel
theorem dX6_wouldEnd_48 : decode cX6_wouldEnd 48 = .ok (.ireturn, 1) := by decide +kernel
theorem dX6_step_0 : decode cX6_step 0 = .ok (.aload_n 0, 1) := by decide +kernel
theorem dX6_step_1 : decode cX6_step 1 = .ok (.getfield 16, 3) := by decide +kernel
theorem dX6_step_4 : decode cX6_step 4 = .ok (.iload_n 1, 1) := by decide +kernel
theorem dX6_step_5 : decode cX6_step 5 = .ok (.invokevirtual 176, 3) := by decide +kernel
theorem dX6_step_8 : decode cX6_step 8 = .ok (.ifCond .eq 18, 3) := by decide +kernel
theorem dX6_step_11 : decode cX6_step 11 = .ok (.aload_n 0, 1) := by decide +kernel
theorem dX6_step_12 : decode cX6_step 12 = .ok (.aload_n 0, 1) := by decide +kernel
theorem dX6_step_13 : decode cX6_step 13 = .ok (.getfield 37, 3) := by decide +kernel
theorem dX6_step_16 : decode cX6_step 16 = .ok (.iload_n 1, 1) := by decide +kernel
theorem dX6_step_17 : decode cX6_step 17 = .ok (.invokevirtual 258, 3) := by decide +kernel
theorem dX6_step_20 : decode cX6_step 20 = .ok (.invokevirtual 106, 3) := by decide +kernel
theorem dX6_step_23 : decode cX6_step 23 = .ok (.goto 8, 3) := by decide +kernel
theorem dX6_step_26 : decode cX6_step 26 = .ok (.aload_n 0, 1) := by decide +kernel
theorem dX6_step_27 : decode cX6_step 27 = .ok (.iconst 1, 1) := by decide +kernel
theorem dX6_step_28 : decode cX6_step 28 = .ok (.invokevirtual 69, 3) := by decide +kernel
theorem dX6_step_31 : decode cX6_step 31 = .ok (.ireturn, 1) := by decide +kernel
theorem dX6_rounds_0 : decode cX6_rounds 0 = .ok (.aload_n 0, 1) := by decide +kernel
theorem dX6_rounds_1 : decode cX6_rounds 1 = .ok (.getfield 96, 3) := by decide +kernel
theorem dX6_rounds_4 : decode cX6_rounds 4 = .ok (.ifCond .ne 9, 3) := by decide +kernel
theorem dX6_rounds_7 : decode cX6_rounds 7 = .ok (.aload_n 0, 1) := by decide +kernel
theorem dX6_rounds_8 : decode cX6_rounds 8 = .ok (.iconst 1, 1) := by decide +kernel
theorem dX6_rounds_9 : decode cX6_rounds 9 = .ok (.invokevirtual 69, 3) := by decide +kernel
theorem dX6_rounds_12 : decode cX6_rounds 12 = .ok (.ireturn, 1) := by decide +kernel
theorem dX6_rounds_13 : decode cX6_rounds 13 = .ok (.iload_n 1, 1) := by decide +kernel
theorem dX6_rounds_14 : decode cX6_rounds 14 = .ok (.iconst 1, 1) := by decide +kernel
theorem dX6_rounds_15 : decode cX6_rounds 15 = .ok (.sipush 200, 3) := by decide +kernel
theorem dX6_rounds_18 : decode cX6_rounds 18 = .ok (.invokestatic 65, 3) := by decide +kernel
theorem dX6_rounds_21 : decode cX6_rounds 21 = .ok (.ifCond .ne 9, 3) := by decide +kernel
theorem dX6_rounds_24 : decode cX6_rounds 24 = .ok (.aload_n 0, 1) := by decide +kernel
theorem dX6_rounds_25 : decode cX6_rounds 25 = .ok (.iconst 2, 1) := by decide +kernel
theorem dX6_rounds_26 : decode cX6_rounds 26 = .ok (.invokevirtual 69, 3) := by decide +kernel
theorem dX6_rounds_29 : decode cX6_rounds 29 = .ok (.ireturn, 1) := by decide +kernel
theorem dX6_rounds_30 : decode cX6_rounds 30 = .ok (.aload_n 0, 1) := by decide +kernel
theorem dX6_rounds_31 : decode cX6_rounds 31 = .ok (.aload_n 0, 1) := by decide +kernel
theorem dX6_rounds_32 : decode cX6_rounds 32 = .ok (.getfield 37, 3) := by decide +kernel
theorem dX6_rounds_35 : decode cX6_rounds 35 = .ok (.iload_n 1, 1) := by decide +kernel
theorem dX6_rounds_36 : decode cX6_rounds 36 = .ok (.invokevirtual 264, 3) := by decide +kernel
theorem dX6_rounds_39 : decode cX6_rounds 39 = .ok (.invokevirtual 106, 3) := by decide +kernel
theorem dX6_rounds_42 : decode cX6_rounds 42 = .ok (.ireturn, 1) := by decide +kernel
theorem dX6_draws_0 : decode cX6_draws 0 = .ok (.aload_n 0, 1) := by decide +kernel
theorem dX6_draws_1 : decode cX6_draws 1 = .ok (.getfield 96, 3) := by decide +kernel
theorem dX6_draws_4 : decode cX6_draws 4 = .ok (.ifCond .ne 9, 3) := by decide +kernel
theorem dX6_draws_7 : decode cX6_draws 7 = .ok (.aload_n 0, 1) := by decide +kernel
theorem dX6_draws_8 : decode cX6_draws 8 = .ok (.iconst 1, 1) := by decide +kernel
theorem dX6_draws_9 : decode cX6_draws 9 = .ok (.invokevirtual 69, 3) := by decide +kernel
theorem dX6_draws_12 : decode cX6_draws 12 = .ok (.ireturn, 1) := by decide +kernel
theorem dX6_draws_13 : decode cX6_draws 13 = .ok (.iload_n 1, 1) := by decide +kernel
theorem dX6_draws_14 : decode cX6_draws 14 = .ok (.iconst 1, 1) := by decide +kernel
theorem dX6_draws_15 : decode cX6_draws 15 = .ok (.sipush 1000, 3) := by decide +kernel
theorem dX6_draws_18 : decode cX6_draws 18 = .ok (.invokestatic 65, 3) := by decide +kernel
theorem dX6_draws_21 : decode cX6_draws 21 = .ok (.ifCond .eq 10, 3) := by decide +kernel
theorem dX6_draws_24 : decode cX6_draws 24 = .ok (.iload_n 2, 1) := by decide +kernel
theorem dX6_draws_25 : decode cX6_draws 25 = .ok (.invokestatic 267, 3) := by decide +kernel
theorem dX6_draws_28 : decode cX6_draws 28 = .ok (.ifCond .ne 9, 3) := by decide +kernel
theorem dX6_draws_31 : decode cX6_draws 31 = .ok (.aload_n 0, 1) := by decide +kernel
theorem dX6_draws_32 : decode cX6_draws 32 = .ok (.iconst 2, 1) := by decide +kernel
theorem dX6_draws_33 : decode cX6_draws 33 = .ok (.invokevirtual 69, 3) := by decide +kernel
theorem dX6_draws_36 : decode cX6_draws 36 = .ok (.ireturn, 1) := by decide +kernel
theorem dX6_draws_37 : decode cX6_draws 37 = .ok (.aload_n 0, 1) := by decide +kernel
theorem dX6_draws_38 : decode cX6_draws 38 = .ok (.aload_n 0, 1) := by decide +kernel
theorem dX6_draws_39 : decode cX6_draws 39 = .ok (.getfield 37, 3) := by decide +kernel
theorem dX6_draws_42 : decode cX6_draws 42 = .ok (.iload_n 1, 1) := by decide +kernel
theorem dX6_draws_43 : decode cX6_draws 43 = .ok (.iload_n 2, 1) := by decide +kernel
theorem dX6_draws_44 : decode cX6_draws 44 = .ok (.invokevirtual 270, 3) := by decide +kernel
theorem dX6_draws_47 : decode cX6_draws 47 = .ok (.invokevirtual 106, 3) := by decide +kernel
theorem dX6_draws_50 : decode cX6_draws 50 = .ok (.ireturn, 1) := by decide +kernel
theorem dX6_isSeed_0 : decode cX6_isSeed 0 = .ok (.iload_n 0, 1) := by decide +kernel
theorem dX6_isSeed_1 : decode cX6_isSeed 1 = .ok (.iconst 0, 1) := by decide +kernel
theorem dX6_isSeed_2 : decode cX6_isSeed 2 = .ok (.ldc_w 273, 3) := by decide +kernel
theorem dX6_isSeed_5 : decode cX6_isSeed 5 = .ok (.invokestatic 65, 3) := by decide +kernel
theorem dX6_isSeed_8 : decode cX6_isSeed 8 = .ok (.ireturn, 1) := by decide +kernel
theorem dX6_interrupt_0 : decode cX6_interrupt 0 = .ok (.aload_n 0, 1) := by decide +kernel
theorem dX6_interrupt_1 : decode cX6_interrupt 1 = .ok (.getfield 16, 3) := by decide +kernel
theorem dX6_interrupt_4 : decode cX6_interrupt 4 = .ok (.iload_n 1, 1) := by decide +kernel
theorem dX6_interrupt_5 : decode cX6_interrupt 5 = .ok (.invokevirtual 176, 3) := by decide +kernel
theorem dX6_interrupt_8 : decode cX6_interrupt 8 = .ok (.ifCond .ne 9, 3) := by decide +kernel
theorem dX6_interrupt_11 : decode cX6_interrupt 11 = .ok (.aload_n 0, 1) := by decide +kernel
theorem dX6_interrupt_12 : decode cX6_interrupt 12 = .ok (.iconst 1, 1) := by decide +kernel
theorem dX6_interrupt_13 : decode cX6_interrupt 13 = .ok (.invokevirtual 69, 3) := by decide +kernel
theorem dX6_interrupt_16 : decode cX6_interrupt 16 = .ok (.ireturn, 1) := by decide +kernel
theorem dX6_interrupt_17 : decode cX6_interrupt 17 = .ok (.aload_n 0, 1) := by decide +kernel
theorem dX6_interrupt_18 : decode cX6_interrupt 18 = .ok (.getfield 37, 3) := by decide +kernel
theorem dX6_interrupt_21 : decode cX6_interrupt 21 = .ok (.getfield 219, 3) := by decide +kernel
theorem dX6_interrupt_24 : decode cX6_interrupt 24 = .ok (.iload_n 1, 1) := by decide +kernel
theorem dX6_interrupt_25 : decode cX6_interrupt 25 = .ok (.aaload, 1) := by decide +kernel
theorem dX6_interrupt_26 : decode cX6_interrupt 26 = .ok (.getfield 236, 3) := by decide +kernel
theorem dX6_interrupt_29 : decode cX6_interrupt 29 = .ok (.iconst 1, 1) := by decide +kernel
theorem dX6_interrupt_30 : decode cX6_interrupt 30 = .ok (.if_icmp .eq 9, 3) := by decide +kernel
theorem dX6_interrupt_33 : decode cX6_interrupt 33 = .ok (.aload_n 0, 1) := by decide +kernel
theorem dX6_interrupt_34 : decode cX6_interrupt 34 = .ok (.iconst 5, 1) := by decide +kernel
theorem dX6_interrupt_35 : decode cX6_interrupt 35 = .ok (.invokevirtual 69, 3) := by decide +kernel
theorem dX6_interrupt_38 : decode cX6_interrupt 38 = .ok (.ireturn, 1) := by decide +kernel
theorem dX6_interrupt_39 : decode cX6_interrupt 39 = .ok (.aload_n 0, 1) := by decide +kernel
theorem dX6_interrupt_40 : decode cX6_interrupt 40 = .ok (.getfield 37, 3) := by decide +kernel
theorem dX6_interrupt_43 : decode cX6_interrupt 43 = .ok (.iconst 1, 1) := by decide +kernel
theorem dX6_interrupt_44 : decode cX6_interrupt 44 = .ok (.iload_n 1, 1) := by decide +kernel
theorem dX6_interrupt_45 : decode cX6_interrupt 45 = .ok (.ishl, 1) := by decide +kernel
theorem dX6_interrupt_46 : decode cX6_interrupt 46 = .ok (.iconst 2, 1) := by decide +kernel
theorem dX6_interrupt_47 : decode cX6_interrupt 47 = .ok (.invokevirtual 274, 3) := by decide +kernel
theorem dX6_interrupt_50 : decode cX6_interrupt 50 = .ok (.aload_n 0, 1) := by decide +kernel
theorem dX6_interrupt_51 : decode cX6_interrupt 51 = .ok (.aload_n 0, 1) := by decide +kernel
theorem dX6_interrupt_52 : decode cX6_interrupt 52 = .ok (.getfield 37, 3) := by decide +kernel
theorem dX6_interrupt_55 : decode cX6_interrupt 55 = .ok (.getfield 219, 3) := by decide +kernel
theorem dX6_interrupt_58 : decode cX6_interrupt 58 = .ok (.iload_n 1, 1) := by decide +kernel
theorem dX6_interrupt_59 : decode cX6_interrupt 59 = .ok (.aaload, 1) := by decide +kernel
theorem dX6_interrupt_60 : decode cX6_interrupt 60 = .ok (.getfield 225, 3) := by decide +kernel
theorem dX6_interrupt_63 : decode cX6_interrupt 63 = .ok (.invokevirtual 106, 3) := by decide +kernel
theorem dX6_interrupt_66 : decode cX6_interrupt 66 = .ok (.ireturn, 1) := by decide +kernel
theorem dX6_isTrial_0 : decode cX6_isTrial 0 = .ok (.iload_n 0, 1) := by decide +kernel
theorem dX6_isTrial_1 : decode cX6_isTrial 1 = .ok (.iconst 0, 1) := by decide +kernel
theorem dX6_isTrial_2 : decode cX6_isTrial 2 = .ok (.iconst 2, 1) := by decide +kernel
theorem dX6_isTrial_3 : decode cX6_isTrial 3 = .ok (.invokestatic 65, 3) := by decide +kernel
theorem dX6_isTrial_6 : decode cX6_isTrial 6 = .ok (.ifCond .eq 24, 3) := by decide +kernel
theorem dX6_isTrial_9 : decode cX6_isTrial 9 = .ok (.iload_n 1, 1) := by decide +kernel
theorem dX6_isTrial_10 : decode cX6_isTrial 10 = .ok (.iconst 1, 1) := by decide +kernel
theorem dX6_isTrial_11 : decode cX6_isTrial 11 = .ok (.bipush 9, 2) := by decide +kernel
theorem dX6_isTrial_13 : decode cX6_isTrial 13 = .ok (.invokestatic 65, 3) := by decide +kernel
theorem dX6_isTrial_16 : decode cX6_isTrial 16 = .ok (.ifCond .eq 14, 3) := by decide +kernel
theorem dX6_isTrial_19 : decode cX6_isTrial 19 = .ok (.iload_n 2, 1) := by decide +kernel
theorem dX6_isTrial_20 : decode cX6_isTrial 20 = .ok (.invokestatic 267, 3) := by decide +kernel
theorem dX6_isTrial_23 : decode cX6_isTrial 23 = .ok (.ifCond .eq 7, 3) := by decide +kernel
theorem dX6_isTrial_26 : decode cX6_isTrial 26 = .ok (.iconst 1, 1) := by decide +kernel
theorem dX6_isTrial_27 : decode cX6_isTrial 27 = .ok (.goto 4, 3) := by decide +kernel
theorem dX6_isTrial_30 : decode cX6_isTrial 30 = .ok (.iconst 0, 1) := by decide +kernel
theorem dX6_isTrial_31 : decode cX6_isTrial 31 = .ok (.ireturn, 1) := by decide +kernel
theorem dX6_tried_0 : decode cX6_tried 0 = .ok (.aload_n 0, 1) := by decide +kernel
theorem dX6_tried_1 : decode cX6_tried 1 = .ok (.getfield 96, 3) := by decide +kernel
theorem dX6_tried_4 : decode cX6_tried 4 = .ok (.ifCond .eq 13, 3) := by decide +kernel
theorem dX6_tried_7 : decode cX6_tried 7 = .ok (.iload 4, 2) := by decide +kernel
theorem dX6_tried_9 : decode cX6_tried 9 = .ok (.iconst 0, 1) := by decide +kernel
theorem dX6_tried_10 : decode cX6_tried 10 = .ok (.iconst 5, 1) := by decide +kernel
theorem dX6_tried_11 : decode cX6_tried 11 = .ok (.invokestatic 65, 3) := by decide +kernel
theorem dX6_tried_14 : decode cX6_tried 14 = .ok (.ifCond .ne 9, 3) := by decide +kernel
theorem dX6_tried_17 : decode cX6_tried 17 = .ok (.aload_n 0, 1) := by decide +kernel
theorem dX6_tried_18 : decode cX6_tried 18 = .ok (.iconst 1, 1) := by decide +kernel
theorem dX6_tried_19 : decode cX6_tried 19 = .ok (.invokevirtual 69, 3) := by decide +kernel
theorem dX6_tried_22 : decode cX6_tried 22 = .ok (.ireturn, 1) := by decide +kernel
theorem dX6_tried_23 : decode cX6_tried 23 = .ok (.iload_n 1, 1) := by decide +kernel
theorem dX6_tried_24 : decode cX6_tried 24 = .ok (.iload_n 2, 1) := by decide +kernel
theorem dX6_tried_25 : decode cX6_tried 25 = .ok (.iload_n 3, 1) := by decide +kernel
theorem dX6_tried_26 : decode cX6_tried 26 = .ok (.invokestatic 277, 3) := by decide +kernel
theorem dX6_tried_29 : decode cX6_tried 29 = .ok (.ifCond .ne 9, 3) := by decide +kernel
theorem dX6_tried_32 : decode cX6_tried 32 = .ok (.aload_n 0, 1) := by decide +kernel
theorem dX6_tried_33 : decode cX6_tried 33 = .ok (.iconst 2, 1) := by decide +kernel
theorem dX6_tried_34 : decode cX6_tried 34 = .ok (.invokevirtual 69, 3) := by decide +kernel
theorem dX6_tried_37 : decode cX6_tried 37 = .ok (.ireturn, 1) := by decide +kernel
theorem dX6_tried_38 : decode cX6_tried 38 = .ok (.aload_n 0, 1) := by decide +kernel
theorem dX6_tried_39 : decode cX6_tried 39 = .ok (.getfield 44, 3) := by decide +kernel
theorem dX6_tried_42 : decode cX6_tried 42 = .ok (.iload_n 1, 1) := by decide +kernel
theorem dX6_tried_43 : decode cX6_tried 43 = .ok (.iload_n 2, 1) := by decide +kernel
theorem dX6_tried_44 : decode cX6_tried 44 = .ok (.invokevirtual 92, 3) := by decide +kernel
theorem dX6_tried_47 : decode cX6_tried 47 = .ok (.aload_n 0, 1) := by decide +kernel
theorem dX6_tried_48 : decode cX6_tried 48 = .ok (.getfield 44, 3) := by decide +kernel
theorem dX6_tried_51 : decode cX6_tried 51 = .ok (.sipush 2000, 3) := by decide +kernel
theorem dX6_tried_54 : decode cX6_tried 54 = .ok (.iload_n 3, 1) := by decide +kernel
theorem dX6_tried_55 : decode cX6_tried 55 = .ok (.invokevirtual 270, 3) := by decide +kernel
theorem dX6_tried_58 : decode cX6_tried 58 = .ok (.pop, 1) := by decide +kernel
theorem dX6_tried_59 : decode cX6_tried 59 = .ok (.aload_n 0, 1) := by decide +kernel
theorem dX6_tried_60 : decode cX6_tried 60 = .ok (.getfield 44, 3) := by decide +kernel
theorem dX6_tried_63 : decode cX6_tried 63 = .ok (.invokevirtual 280, 3) := by decide +kernel
theorem dX6_tried_66 : decode cX6_tried 66 = .ok (.ifCond .ne 10, 3) := by decide +kernel
theorem dX6_tried_69 : decode cX6_tried 69 = .ok (.aload_n 0, 1) := by decide +kernel
theorem dX6_tried_70 : decode cX6_tried 70 = .ok (.bipush (-2), 2) := by decide +kernel
theorem dX6_tried_72 : decode cX6_tried 72 = .ok (.invokevirtual 106, 3) := by decide +kernel
theorem dX6_tried_75 : decode cX6_tried 75 = .ok (.ireturn, 1) := by decide +kernel
theorem dX6_tried_76 : decode cX6_tried 76 = .ok (.iload 4, 2) := by decide +kernel
theorem dX6_tried_78 : decode cX6_tried 78 = .ok (.tableswitch 98 0 4 #[34, 46, 59, 72, 85], 34) := by decide +kernel
theorem dX6_tried_112 : decode cX6_tried 112 = .ok (.aload_n 0, 1) := by decide +kernel
theorem dX6_tried_113 : decode cX6_tried 113 = .ok (.aload_n 0, 1) := by decide +kernel
theorem dX6_tried_114 : decode cX6_tried 114 = .ok (.getfield 44, 3) := by decide +kernel
theorem dX6_tried_117 : decode cX6_tried 117 = .ok (.getfield 125, 3) := by decide +kernel
theorem dX6_tried_120 : decode cX6_tried 120 = .ok (.invokevirtual 106, 3) := by decide +kernel
theorem dX6_tried_123 : decode cX6_tried 123 = .ok (.ireturn, 1) := by decide +kernel
theorem dX6_tried_124 : decode cX6_tried 124 = .ok (.aload_n 0, 1) := by decide +kernel
theorem dX6_tried_125 : decode cX6_tried 125 = .ok (.aload_n 0, 1) := by decide +kernel
theorem dX6_tried_126 : decode cX6_tried 126 = .ok (.getfield 44, 3) := by decide +kernel
theorem dX6_tried_129 : decode cX6_tried 129 = .ok (.iconst 0, 1) := by decide +kernel
theorem dX6_tried_130 : decode cX6_tried 130 = .ok (.invokevirtual 284, 3) := by decide +kernel
theorem dX6_tried_133 : decode cX6_tried 133 = .ok (.invokevirtual 106, 3) := by decide +kernel
theorem dX6_tried_136 : decode cX6_tried 136 = .ok (.ireturn, 1) := by decide +kernel
theorem dX6_tried_137 : decode cX6_tried 137 = .ok (.aload_n 0, 1) := by decide +kernel
theorem dX6_tried_138 : decode cX6_tried 138 = .ok (.aload_n 0, 1) := by decide +kernel
theorem dX6_tried_139 : decode cX6_tried 139 = .ok (.getfield 44, 3) := by decide +kernel
theorem dX6_tried_142 : decode cX6_tried 142 = .ok (.iconst 1, 1) := by decide +kernel
theorem dX6_tried_143 : decode cX6_tried 143 = .ok (.invokevirtual 284, 3) := by decide +kernel
theorem dX6_tried_146 : decode cX6_tried 146 = .ok (.invokevirtual 106, 3) := by decide +kernel
theorem dX6_tried_149 : decode cX6_tried 149 = .ok (.ireturn, 1) := by decide +kernel
theorem dX6_tried_150 : decode cX6_tried 150 = .ok (.aload_n 0, 1) := by decide +kernel
theorem dX6_tried_151 : decode cX6_tried 151 = .ok (.aload_n 0, 1) := by decide +kernel
theorem dX6_tried_152 : decode cX6_tried 152 = .ok (.getfield 44, 3) := by decide +kernel
theorem dX6_tried_155 : decode cX6_tried 155 = .ok (.iconst 3, 1) := by decide +kernel
theorem dX6_tried_156 : decode cX6_tried 156 = .ok (.invokevirtual 284, 3) := by decide +kernel
theorem dX6_tried_159 : decode cX6_tried 159 = .ok (.invokevirtual 106, 3) := by decide +kernel
theorem dX6_tried_162 : decode cX6_tried 162 = .ok (.ireturn, 1) := by decide +kernel
theorem dX6_tried_163 : decode cX6_tried 163 = .ok (.aload_n 0, 1) := by decide +kernel
theorem dX6_tried_164 : decode cX6_tried 164 = .ok (.aload_n 0, 1) := by decide +kernel
theorem dX6_tried_165 : decode cX6_tried 165 = .ok (.getfield 44, 3) := by decide +kernel
theorem dX6_tried_168 : decode cX6_tried 168 = .ok (.iconst 5, 1) := by decide +kernel
theorem dX6_tried_169 : decode cX6_tried 169 = .ok (.invokevirtual 284, 3) := by decide +kernel
theorem dX6_tried_172 : decode cX6_tried 172 = .ok (.invokevirtual 106, 3) := by decide +kernel
theorem dX6_tried_175 : decode cX6_tried 175 = .ok (.ireturn, 1) := by decide +kernel
theorem dX6_tried_176 : decode cX6_tried 176 = .ok (.aload_n 0, 1) := by decide +kernel
theorem dX6_tried_177 : decode cX6_tried 177 = .ok (.aload_n 0, 1) := by decide +kernel
theorem dX6_tried_178 : decode cX6_tried 178 = .ok (.getfield 44, 3) := by decide +kernel
theorem dX6_tried_181 : decode cX6_tried 181 = .ok (.bipush 6, 2) := by decide +kernel
theorem dX6_tried_183 : decode cX6_tried 183 = .ok (.invokevirtual 284, 3) := by decide +kernel
theorem dX6_tried_186 : decode cX6_tried 186 = .ok (.invokevirtual 106, 3) := by decide +kernel
theorem dX6_tried_189 : decode cX6_tried 189 = .ok (.ireturn, 1) := by decide +kernel
theorem dX6_triedWord_0 : decode cX6_triedWord 0 = .ok (.aload_n 0, 1) := by decide +kernel
theorem dX6_triedWord_1 : decode cX6_triedWord 1 = .ok (.getfield 16, 3) := by decide +kernel
theorem dX6_triedWord_4 : decode cX6_triedWord 4 = .ok (.iload 4, 2) := by decide +kernel
theorem dX6_triedWord_6 : decode cX6_triedWord 6 = .ok (.invokevirtual 149, 3) := by decide +kernel
theorem dX6_triedWord_9 : decode cX6_triedWord 9 = .ok (.ifCond .ne 9, 3) := by decide +kernel
theorem dX6_triedWord_12 : decode cX6_triedWord 12 = .ok (.aload_n 0, 1) := by decide +kernel
theorem dX6_triedWord_13 : decode cX6_triedWord 13 = .ok (.iconst 1, 1) := by decide +kernel
theorem dX6_triedWord_14 : decode cX6_triedWord 14 = .ok (.invokevirtual 69, 3) := by decide +kernel
theorem dX6_triedWord_17 : decode cX6_triedWord 17 = .ok (.ireturn, 1) := by decide +kernel
theorem dX6_triedWord_18 : decode cX6_triedWord 18 = .ok (.iload_n 1, 1) := by decide +kernel
theorem dX6_triedWord_19 : decode cX6_triedWord 19 = .ok (.iload_n 2, 1) := by decide +kernel
theorem dX6_triedWord_20 : decode cX6_triedWord 20 = .ok (.iload_n 3, 1) := by decide +kernel
theorem dX6_triedWord_21 : decode cX6_triedWord 21 = .ok (.invokestatic 277, 3) := by decide +kernel
theorem dX6_triedWord_24 : decode cX6_triedWord 24 = .ok (.ifCond .ne 9, 3) := by decide +kernel
theorem dX6_triedWord_27 : decode cX6_triedWord 27 = .ok (.aload_n 0, 1) := by decide +kernel
theorem dX6_triedWord_28 : decode cX6_triedWord 28 = .ok (.iconst 2, 1) := by decide +kernel
theorem dX6_triedWord_29 : decode cX6_triedWord 29 = .ok (.invokevirtual 69, 3) := by decide +kernel
theorem dX6_triedWord_32 : decode cX6_triedWord 32 = .ok (.ireturn, 1) := by decide +kernel
theorem dX6_triedWord_33 : decode cX6_triedWord 33 = .ok (.aload_n 0, 1) := by decide +kernel
theorem dX6_triedWord_34 : decode cX6_triedWord 34 = .ok (.getfield 44, 3) := by decide +kernel
theorem dX6_triedWord_37 : decode cX6_triedWord 37 = .ok (.iload_n 1, 1) := by decide +kernel
theorem dX6_triedWord_38 : decode cX6_triedWord 38 = .ok (.iload_n 2, 1) := by decide +kernel
theorem dX6_triedWord_39 : decode cX6_triedWord 39 = .ok (.invokevirtual 92, 3) := by decide +kernel
theorem dX6_triedWord_42 : decode cX6_triedWord 42 = .ok (.aload_n 0, 1) := by decide +kernel
theorem dX6_triedWord_43 : decode cX6_triedWord 43 = .ok (.getfield 44, 3) := by decide +kernel
theorem dX6_triedWord_46 : decode cX6_triedWord 46 = .ok (.sipush 2000, 3) := by decide +kernel
theorem dX6_triedWord_49 : decode cX6_triedWord 49 = .ok (.iload_n 3, 1) := by decide +kernel
theorem dX6_triedWord_50 : decode cX6_triedWord 50 = .ok (.invokevirtual 270, 3) := by decide +kernel
theorem dX6_triedWord_53 : decode cX6_triedWord 53 = .ok (.pop, 1) := by decide +kernel
theorem dX6_triedWord_54 : decode cX6_triedWord 54 = .ok (.aload_n 0, 1) := by decide +kernel
theorem dX6_triedWord_55 : decode cX6_triedWord 55 = .ok (.aload_n 0, 1) := by decide +kernel
theorem dX6_triedWord_56 : decode cX6_triedWord 56 = .ok (.getfield 44, 3) := by decide +kernel
theorem dX6_triedWord_59 : decode cX6_triedWord 59 = .ok (.iload 4, 2) := by decide +kernel
theorem dX6_triedWord_61 : decode cX6_triedWord 61 = .ok (.invokevirtual 152, 3) := by decide +kernel
theorem dX6_triedWord_64 : decode cX6_triedWord 64 = .ok (.invokevirtual 106, 3) := by decide +kernel
theorem dX6_triedWord_67 : decode cX6_triedWord 67 = .ok (.ireturn, 1) := by decide +kernel
theorem dX6_best_0 : decode cX6_best 0 = .ok (.aload_n 0, 1) := by decide +kernel
theorem dX6_best_1 : decode cX6_best 1 = .ok (.getfield 96, 3) := by decide +kernel
theorem dX6_best_4 : decode cX6_best 4 = .ok (.ifCond .ne 9, 3) := by decide +kernel
theorem dX6_best_7 : decode cX6_best 7 = .ok (.aload_n 0, 1) := by decide +kernel
theorem dX6_best_8 : decode cX6_best 8 = .ok (.iconst 1, 1) := by decide +kernel
theorem dX6_best_9 : decode cX6_best 9 = .ok (.invokevirtual 69, 3) := by decide +kernel
theorem dX6_best_12 : decode cX6_best 12 = .ok (.ireturn, 1) := by decide +kernel
theorem dX6_best_13 : decode cX6_best 13 = .ok (.iload_n 1, 1) := by decide +kernel
theorem dX6_best_14 : decode cX6_best 14 = .ok (.invokestatic 267, 3) := by decide +kernel
theorem dX6_best_17 : decode cX6_best 17 = .ok (.ifCond .ne 9, 3) := by decide +kernel
theorem dX6_best_20 : decode cX6_best 20 = .ok (.aload_n 0, 1) := by decide +kernel
theorem dX6_best_21 : decode cX6_best 21 = .ok (.iconst 2, 1) := by decide +kernel
theorem dX6_best_22 : decode cX6_best 22 = .ok (.invokevirtual 69, 3) := by decide +kernel
theorem dX6_best_25 : decode cX6_best 25 = .ok (.ireturn, 1) := by decide +kernel
theorem dX6_best_26 : decode cX6_best 26 = .ok (.bipush (-2), 2) := by decide +kernel
theorem dX6_best_28 : decode cX6_best 28 = .ok (.istore_n 2, 1) := by decide +kernel
theorem dX6_best_29 : decode cX6_best 29 = .ok (.iconst 0, 1) := by decide +kernel
theorem dX6_best_30 : decode cX6_best 30 = .ok (.istore_n 3, 1) := by decide +kernel
theorem dX6_best_31 : decode cX6_best 31 = .ok (.iconst 0, 1) := by decide +kernel
theorem dX6_best_32 : decode cX6_best 32 = .ok (.istore 4, 2) := by decide +kernel
theorem dX6_best_34 : decode cX6_best 34 = .ok (.iload 4, 2) := by decide +kernel
theorem dX6_best_36 : decode cX6_best 36 = .ok (.iconst 2, 1) := by decide +kernel
theorem dX6_best_37 : decode cX6_best 37 = .ok (.if_icmp .gt 75, 3) := by decide +kernel
theorem dX6_best_40 : decode cX6_best 40 = .ok (.aload_n 0, 1) := by decide +kernel
theorem dX6_best_41 : decode cX6_best 41 = .ok (.getfield 44, 3) := by decide +kernel
theorem dX6_best_44 : decode cX6_best 44 = .ok (.iload 4, 2) := by decide +kernel
theorem dX6_best_46 : decode cX6_best 46 = .ok (.aload_n 0, 1) := by decide +kernel
theorem dX6_best_47 : decode cX6_best 47 = .ok (.getfield 16, 3) := by decide +kernel
theorem dX6_best_50 : decode cX6_best 50 = .ok (.getfield 89, 3) := by decide +kernel
theorem dX6_best_53 : decode cX6_best 53 = .ok (.invokevirtual 92, 3) := by decide +kernel
theorem dX6_best_56 : decode cX6_best 56 = .ok (.aload_n 0, 1) := by decide +kernel
theorem dX6_best_57 : decode cX6_best 57 = .ok (.getfield 44, 3) := by decide +kernel
theorem dX6_best_60 : decode cX6_best 60 = .ok (.sipush 2000, 3) := by decide +kernel
theorem dX6_best_63 : decode cX6_best 63 = .ok (.iload_n 1, 1) := by decide +kernel
theorem dX6_best_64 : decode cX6_best 64 = .ok (.invokevirtual 270, 3) := by decide +kernel
theorem dX6_best_67 : decode cX6_best 67 = .ok (.pop, 1) := by decide +kernel
theorem dX6_best_68 : decode cX6_best 68 = .ok (.aload_n 0, 1) := by decide +kernel
theorem dX6_best_69 : decode cX6_best 69 = .ok (.getfield 44, 3) := by decide +kernel
theorem dX6_best_72 : decode cX6_best 72 = .ok (.invokevirtual 280, 3) := by decide +kernel
theorem dX6_best_75 : decode cX6_best 75 = .ok (.ifCond .eq 31, 3) := by decide +kernel
theorem dX6_best_78 : decode cX6_best 78 = .ok (.iload_n 2, 1) := by decide +kernel
theorem dX6_best_79 : decode cX6_best 79 = .ok (.bipush (-2), 2) := by decide +kernel
theorem dX6_best_81 : decode cX6_best 81 = .ok (.if_icmp .eq 14, 3) := by decide +kernel
theorem dX6_best_84 : decode cX6_best 84 = .ok (.aload_n 0, 1) := by decide +kernel
theorem dX6_best_85 : decode cX6_best 85 = .ok (.getfield 44, 3) := by decide +kernel
theorem dX6_best_88 : decode cX6_best 88 = .ok (.getfield 125, 3) := by decide +kernel
theorem dX6_best_91 : decode cX6_best 91 = .ok (.iload_n 3, 1) := by decide +kernel
theorem dX6_best_92 : decode cX6_best 92 = .ok (.if_icmp .ge 14, 3) := by decide +kernel
theorem dX6_best_95 : decode cX6_best 95 = .ok (.iload 4, 2) := by decide +kernel
theorem dX6_best_97 : decode cX6_best 97 = .ok (.istore_n 2, 1) := by decide +kernel
theorem dX6_best_98 : decode cX6_best 98 = .ok (.aload_n 0, 1) := by decide +kernel
theorem dX6_best_99 : decode cX6_best 99 = .ok (.getfield 44, 3) := by decide +kernel
theorem dX6_best_102 : decode cX6_best 102 = .ok (.getfield 125, 3) := by decide +kernel
theorem dX6_best_105 : decode cX6_best 105 = .ok (.istore_n 3, 1) := by decide +kernel
theorem dX6_best_106 : decode cX6_best 106 = .ok (.iinc 4 1, 3) := by decide +kernel
theorem dX6_best_109 : decode cX6_best 109 = .ok (.goto (-75), 3) := by decide +kernel
theorem dX6_best_112 : decode cX6_best 112 = .ok (.aload_n 0, 1) := by decide +kernel
theorem dX6_best_113 : decode cX6_best 113 = .ok (.iload_n 2, 1) := by decide +kernel
theorem dX6_best_114 : decode cX6_best 114 = .ok (.invokevirtual 106, 3) := by decide +kernel
theorem dX6_best_117 : decode cX6_best 117 = .ok (.ireturn, 1) := by decide +kernel
theorem dX6_waysFor_0 : decode cX6_waysFor 0 = .ok (.aload_n 0, 1) := by decide +kernel
theorem dX6_waysFor_1 : decode cX6_waysFor 1 = .ok (.getfield 16, 3) := by decide +kernel
theorem dX6_waysFor_4 : decode cX6_waysFor 4 = .ok (.iload_n 1, 1) := by decide +kernel
theorem dX6_waysFor_5 : decode cX6_waysFor 5 = .ok (.invokevirtual 176, 3) := by decide +kernel
theorem dX6_waysFor_8 : decode cX6_waysFor 8 = .ok (.ifCond .ne 9, 3) := by decide +kernel
theorem dX6_waysFor_11 : decode cX6_waysFor 11 = .ok (.aload_n 0, 1) := by decide +kernel
theorem dX6_waysFor_12 : decode cX6_waysFor 12 = .ok (.iconst 1, 1) := by decide +kernel
theorem dX6_waysFor_13 : decode cX6_waysFor 13 = .ok (.invokevirtual 69, 3) := by decide +kernel
theorem dX6_waysFor_16 : decode cX6_waysFor 16 = .ok (.ireturn, 1) := by decide +kernel
theorem dX6_waysFor_17 : decode cX6_waysFor 17 = .ok (.aload_n 0, 1) := by decide +kernel
theorem dX6_waysFor_18 : decode cX6_waysFor 18 = .ok (.getfield 50, 3) := by decide +kernel
theorem dX6_waysFor_21 : decode cX6_waysFor 21 = .ok (.invokevirtual 164, 3) := by decide +kernel
theorem dX6_waysFor_24 : decode cX6_waysFor 24 = .ok (.aload_n 0, 1) := by decide +kernel
theorem dX6_waysFor_25 : decode cX6_waysFor 25 = .ok (.getfield 50, 3) := by decide +kernel
theorem dX6_waysFor_28 : decode cX6_waysFor 28 = .ok (.iload_n 1, 1) := by decide +kernel
theorem dX6_waysFor_29 : decode cX6_waysFor 29 = .ok (.iconst 0, 1) := by decide +kernel
theorem dX6_waysFor_30 : decode cX6_waysFor 30 = .ok (.iconst 0, 1) := by decide +kernel
theorem dX6_waysFor_31 : decode cX6_waysFor 31 = .ok (.invokevirtual 169, 3) := by decide +kernel
theorem dX6_waysFor_34 : decode cX6_waysFor 34 = .ok (.aload_n 0, 1) := by decide +kernel
theorem dX6_waysFor_35 : decode cX6_waysFor 35 = .ok (.aload_n 0, 1) := by decide +kernel
theorem dX6_waysFor_36 : decode cX6_waysFor 36 = .ok (.getfield 50, 3) := by decide +kernel
theorem dX6_waysFor_39 : decode cX6_waysFor 39 = .ok (.getfield 287, 3) := by decide +kernel
theorem dX6_waysFor_42 : decode cX6_waysFor 42 = .ok (.invokevirtual 106, 3) := by decide +kernel
theorem dX6_waysFor_45 : decode cX6_waysFor 45 = .ok (.ireturn, 1) := by decide +kernel
theorem dX6_keep_0 : decode cX6_keep 0 = .ok (.aload_n 0, 1) := by decide +kernel
theorem dX6_keep_1 : decode cX6_keep 1 = .ok (.getfield 96, 3) := by decide +kernel
theorem dX6_keep_4 : decode cX6_keep 4 = .ok (.ifCond .ne 11, 3) := by decide +kernel
theorem dX6_keep_7 : decode cX6_keep 7 = .ok (.aload_n 0, 1) := by decide +kernel
theorem dX6_keep_8 : decode cX6_keep 8 = .ok (.iconst 1, 1) := by decide +kernel
theorem dX6_keep_9 : decode cX6_keep 9 = .ok (.invokevirtual 69, 3) := by decide +kernel
theorem dX6_keep_12 : decode cX6_keep 12 = .ok (.pop, 1) := by decide +kernel
theorem dX6_keep_13 : decode cX6_keep 13 = .ok (.iconst 0, 1) := by decide +kernel
theorem dX6_keep_14 : decode cX6_keep 14 = .ok (.ireturn, 1) := by decide +kernel
theorem dX6_keep_15 : decode cX6_keep 15 = .ok (.aload_n 0, 1) := by decide +kernel
theorem dX6_keep_16 : decode cX6_keep 16 = .ok (.getfield 41, 3) := by decide +kernel
theorem dX6_keep_19 : decode cX6_keep 19 = .ok (.aload_n 0, 1) := by decide +kernel
theorem dX6_keep_20 : decode cX6_keep 20 = .ok (.getfield 37, 3) := by decide +kernel
theorem dX6_keep_23 : decode cX6_keep 23 = .ok (.invokevirtual 255, 3) := by decide +kernel
theorem dX6_keep_26 : decode cX6_keep 26 = .ok (.aload_n 0, 1) := by decide +kernel
theorem dX6_keep_27 : decode cX6_keep 27 = .ok (.iconst 1, 1) := by decide +kernel
theorem dX6_keep_28 : decode cX6_keep 28 = .ok (.putfield 100, 3) := by decide +kernel
theorem dX6_keep_31 : decode cX6_keep 31 = .ok (.aload_n 0, 1) := by decide +kernel
theorem dX6_keep_32 : decode cX6_keep 32 = .ok (.iconst 0, 1) := by decide +kernel
theorem dX6_keep_33 : decode cX6_keep 33 = .ok (.invokevirtual 106, 3) := by decide +kernel
theorem dX6_keep_36 : decode cX6_keep 36 = .ok (.pop, 1) := by decide +kernel
theorem dX6_keep_37 : decode cX6_keep 37 = .ok (.iconst 1, 1) := by decide +kernel
theorem dX6_keep_38 : decode cX6_keep 38 = .ok (.ireturn, 1) := by decide +kernel
theorem dX6_back_0 : decode cX6_back 0 = .ok (.aload_n 0, 1) := by decide +kernel
theorem dX6_back_1 : decode cX6_back 1 = .ok (.getfield 100, 3) := by decide +kernel
theorem dX6_back_4 : decode cX6_back 4 = .ok (.ifCond .ne 11, 3) := by decide +kernel
theorem dX6_back_7 : decode cX6_back 7 = .ok (.aload_n 0, 1) := by decide +kernel
theorem dX6_back_8 : decode cX6_back 8 = .ok (.iconst 1, 1) := by decide +kernel
theorem dX6_back_9 : decode cX6_back 9 = .ok (.invokevirtual 69, 3) := by decide +kernel
theorem dX6_back_12 : decode cX6_back 12 = .ok (.pop, 1) := by decide +kernel
theorem dX6_back_13 : decode cX6_back 13 = .ok (.iconst 0, 1) := by decide +kernel
theorem dX6_back_14 : decode cX6_back 14 = .ok (.ireturn, 1) := by decide +kernel
theorem dX6_back_15 : decode cX6_back 15 = .ok (.aload_n 0, 1) := by decide +kernel
theorem dX6_back_16 : decode cX6_back 16 = .ok (.getfield 37, 3) := by decide +kernel
theorem dX6_back_19 : decode cX6_back 19 = .ok (.aload_n 0, 1) := by decide +kernel
theorem dX6_back_20 : decode cX6_back 20 = .ok (.getfield 41, 3) := by decide +kernel
theorem dX6_back_23 : decode cX6_back 23 = .ok (.invokevirtual 255, 3) := by decide +kernel
theorem dX6_back_26 : decode cX6_back 26 = .ok (.aload_n 0, 1) := by decide +kernel
theorem dX6_back_27 : decode cX6_back 27 = .ok (.iconst 0, 1) := by decide +kernel
theorem dX6_back_28 : decode cX6_back 28 = .ok (.invokevirtual 106, 3) := by decide +kernel
theorem dX6_back_31 : decode cX6_back 31 = .ok (.pop, 1) := by decide +kernel
theorem dX6_back_32 : decode cX6_back 32 = .ok (.iconst 1, 1) := by decide +kernel
theorem dX6_back_33 : decode cX6_back 33 = .ok (.ireturn, 1) := by decide +kernel
theorem dX6_done_0 : decode cX6_done 0 = .ok (.iconst 0, 1) := by decide +kernel
theorem dX6_done_1 : decode cX6_done 1 = .ok (.istore_n 2, 1) := by decide +kernel
theorem dX6_done_2 : decode cX6_done 2 = .ok (.iconst 0, 1) := by decide +kernel
theorem dX6_done_3 : decode cX6_done 3 = .ok (.istore_n 3, 1) := by decide +kernel
theorem dX6_done_4 : decode cX6_done 4 = .ok (.iload_n 3, 1) := by decide +kernel
theorem dX6_done_5 : decode cX6_done 5 = .ok (.iconst 4, 1) := by decide +kernel
theorem dX6_done_6 : decode cX6_done 6 = .ok (.if_icmp .ge 41, 3) := by decide +kernel
theorem dX6_done_9 : decode cX6_done 9 = .ok (.aload_n 0, 1) := by decide +kernel
theorem dX6_done_10 : decode cX6_done 10 = .ok (.getfield 16, 3) := by decide +kernel
theorem dX6_done_13 : decode cX6_done 13 = .ok (.iload_n 3, 1) := by decide +kernel
theorem dX6_done_14 : decode cX6_done 14 = .ok (.invokevirtual 176, 3) := by decide +kernel
theorem dX6_done_17 : decode cX6_done 17 = .ok (.ifCond .eq 24, 3) := by decide +kernel
theorem dX6_done_20 : decode cX6_done 20 = .ok (.aload_n 0, 1) := by decide +kernel
theorem dX6_done_21 : decode cX6_done 21 = .ok (.getfield 37, 3) := by decide +kernel
theorem dX6_done_24 : decode cX6_done 24 = .ok (.iload_n 3, 1) := by decide +kernel
theorem dX6_done_25 : decode cX6_done 25 = .ok (.invokevirtual 222, 3) := by decide +kernel
theorem dX6_done_28 : decode cX6_done 28 = .ok (.ifCond .ne 13, 3) := by decide +kernel
theorem dX6_done_31 : decode cX6_done 31 = .ok (.iload_n 2, 1) := by decide +kernel
theorem dX6_done_32 : decode cX6_done 32 = .ok (.iload_n 1, 1) := by decide +kernel
theorem dX6_done_33 : decode cX6_done 33 = .ok (.if_icmp .ne 5, 3) := by decide +kernel
theorem dX6_done_36 : decode cX6_done 36 = .ok (.iload_n 3, 1) := by decide +kernel
theorem dX6_done_37 : decode cX6_done 37 = .ok (.ireturn, 1) := by decide +kernel
theorem dX6_done_38 : decode cX6_done 38 = .ok (.iinc 2 1, 3) := by decide +kernel
theorem dX6_done_41 : decode cX6_done 41 = .ok (.iinc 3 1, 3) := by decide +kernel
theorem dX6_done_44 : decode cX6_done 44 = .ok (.goto (-40), 3) := by decide +kernel
theorem dX6_done_47 : decode cX6_done 47 = .ok (.new 290, 3) := by decide +kernel
theorem dX6_done_50 : decode cX6_done 50 = .ok (.dup, 1) := by decide +kernel
theorem dX6_done_51 : decode cX6_done 51 = .ok (.invokespecial 292, 3) := by decide +kernel
theorem dX6_done_54 : decode cX6_done 54 = .ok (.athrow, 1) := by decide +kernel
theorem dX6_size_0 : decode cX6_size 0 = .ok (.iload_n 1, 1) := by decide +kernel
theorem dX6_size_1 : decode cX6_size 1 = .ok (.tableswitch 60 0 3 #[31, 36, 44, 52], 31) := by decide +kernel
theorem dX6_size_32 : decode cX6_size 32 = .ok (.aload_n 0, 1) := by decide +kernel
theorem dX6_size_33 : decode cX6_size 33 = .ok (.getfield 58, 3) := by decide +kernel
theorem dX6_size_36 : decode cX6_size 36 = .ok (.ireturn, 1) := by decide +kernel
theorem dX6_size_37 : decode cX6_size 37 = .ok (.aload_n 0, 1) := by decide +kernel
theorem dX6_size_38 : decode cX6_size 38 = .ok (.getfield 16, 3) := by decide +kernel
theorem dX6_size_41 : decode cX6_size 41 = .ok (.getfield 293, 3) := by decide +kernel
theorem dX6_size_44 : decode cX6_size 44 = .ok (.ireturn, 1) := by decide +kernel
theorem dX6_size_45 : decode cX6_size 45 = .ok (.aload_n 0, 1) := by decide +kernel
theorem dX6_size_46 : decode cX6_size 46 = .ok (.getfield 16, 3) := by decide +kernel
theorem dX6_size_49 : decode cX6_size 49 = .ok (.invokevirtual 296, 3) := by decide +kernel
theorem dX6_size_52 : decode cX6_size 52 = .ok (.ireturn, 1) := by decide +kernel
theorem dX6_size_53 : decode cX6_size 53 = .ok (.aload_n 0, 1) := by decide +kernel
theorem dX6_size_54 : decode cX6_size 54 = .ok (.getfield 100, 3) := by decide +kernel
theorem dX6_size_57 : decode cX6_size 57 = .ok (.invokestatic 145, 3) := by decide +kernel
theorem dX6_size_60 : decode cX6_size 60 = .ok (.ireturn, 1) := by decide +kernel
theorem dX6_size_61 : decode cX6_size 61 = .ok (.iconst (-1), 1) := by decide +kernel
theorem dX6_size_62 : decode cX6_size 62 = .ok (.ireturn, 1) := by decide +kernel
theorem dX6_trouble_0 : decode cX6_trouble 0 = .ok (.aload_n 0, 1) := by decide +kernel
theorem dX6_trouble_1 : decode cX6_trouble 1 = .ok (.getfield 54, 3) := by decide +kernel
theorem dX6_trouble_4 : decode cX6_trouble 4 = .ok (.ireturn, 1) := by decide +kernel
theorem dX7_init_0 : decode cX7_init 0 = .ok (.aload_n 0, 1) := by decide +kernel
theorem dX7_init_1 : decode cX7_init 1 = .ok (.invokespecial 3, 3) := by decide +kernel
theorem dX7_init_4 : decode cX7_init 4 = .ok (.aload_n 0, 1) := by decide +kernel
theorem dX7_init_5 : decode cX7_init 5 = .ok (.iconst (-1), 1) := by decide +kernel
theorem dX7_init_6 : decode cX7_init 6 = .ok (.putfield 9, 3) := by decide +kernel
theorem dX7_init_9 : decode cX7_init 9 = .ok (.aload_n 0, 1) := by decide +kernel
theorem dX7_init_10 : decode cX7_init 10 = .ok (.sipush 900, 3) := by decide +kernel
theorem dX7_init_13 : decode cX7_init 13 = .ok (.newarray .int, 2) := by decide +kernel
theorem dX7_init_15 : decode cX7_init 15 = .ok (.putfield 13, 3) := by decide +kernel
theorem dX7_init_18 : decode cX7_init 18 = .ok (.aload_n 0, 1) := by decide +kernel
theorem dX7_init_19 : decode cX7_init 19 = .ok (.bipush 6, 2) := by decide +kernel
theorem dX7_init_21 : decode cX7_init 21 = .ok (.newarray .int, 2) := by decide +kernel
theorem dX7_init_23 : decode cX7_init 23 = .ok (.putfield 17, 3) := by decide +kernel
theorem dX7_init_26 : decode cX7_init 26 = .ok (.aload_n 0, 1) := by decide +kernel
theorem dX7_init_27 : decode cX7_init 27 = .ok (.bipush 6, 2) := by decide +kernel
theorem dX7_init_29 : decode cX7_init 29 = .ok (.newarray .int, 2) := by decide +kernel
theorem dX7_init_31 : decode cX7_init 31 = .ok (.putfield 20, 3) := by decide +kernel
theorem dX7_init_34 : decode cX7_init 34 = .ok (.aload_n 0, 1) := by decide +kernel
theorem dX7_init_35 : decode cX7_init 35 = .ok (.bipush 64, 2) := by decide +kernel
theorem dX7_init_37 : decode cX7_init 37 = .ok (.newarray .int, 2) := by decide +kernel
theorem dX7_init_39 : decode cX7_init 39 = .ok (.putfield 23, 3) := by decide +kernel
theorem dX7_init_42 : decode cX7_init 42 = .ok (.aload_n 0, 1) := by decide +kernel
theorem dX7_init_43 : decode cX7_init 43 = .ok (.bipush 64, 2) := by decide +kernel
theorem dX7_init_45 : decode cX7_init 45 = .ok (.newarray .int, 2) := by decide +kernel
theorem dX7_init_47 : decode cX7_init 47 = .ok (.putfield 26, 3) := by decide +kernel
theorem dX7_init_50 : decode cX7_init 50 = .ok (.aload_n 0, 1) := by decide +kernel
theorem dX7_init_51 : decode cX7_init 51 = .ok (.iconst 4, 1) := by decide +kernel
theorem dX7_init_52 : decode cX7_init 52 = .ok (.newarray .int, 2) := by decide +kernel
theorem dX7_init_54 : decode cX7_init 54 = .ok (.putfield 29, 3) := by decide +kernel
theorem dX7_init_57 : decode cX7_init 57 = .ok (.aload_n 0, 1) := by decide +kernel
theorem dX7_init_58 : decode cX7_init 58 = .ok (.iconst 4, 1) := by decide +kernel
theorem dX7_init_59 : decode cX7_init 59 = .ok (.newarray .int, 2) := by decide +kernel
theorem dX7_init_61 : decode cX7_init 61 = .ok (.putfield 32, 3) := by decide +kernel
theorem dX7_init_64 : decode cX7_init 64 = .ok (.aload_n 0, 1) := by decide +kernel
theorem dX7_init_65 : decode cX7_init 65 = .ok (.bipush 96, 2) := by decide +kernel
theorem dX7_init_67 : decode cX7_init 67 = .ok (.newarray .int, 2) := by decide +kernel
theorem dX7_init_69 : decode cX7_init 69 = .ok (.putfield 35, 3) := by decide +kernel
theorem dX7_init_72 : decode cX7_init 72 = .ok (.aload_n 0, 1) := by decide +kernel
theorem dX7_init_73 : decode cX7_init 73 = .ok (.bipush 96, 2) := by decide +kernel
theorem dX7_init_75 : decode cX7_init 75 = .ok (.newarray .int, 2) := by decide +kernel
theorem dX7_init_77 : decode cX7_init 77 = .ok (.putfield 38, 3) := by decide +kernel
theorem dX7_init_80 : decode cX7_init 80 = .ok (.aload_n 0, 1) := by decide +kernel
theorem dX7_init_81 : decode cX7_init 81 = .ok (.bipush 96, 2) := by decide +kernel
theorem dX7_init_83 : decode cX7_init 83 = .ok (.newarray .int, 2) := by decide +kernel
theorem dX7_init_85 : decode cX7_init 85 = .ok (.putfield 41, 3) := by decide +kernel
theorem dX7_init_88 : decode cX7_init 88 = .ok (.aload_n 0, 1) := by decide +kernel
theorem dX7_init_89 : decode cX7_init 89 = .ok (.bipush 96, 2) := by decide +kernel
theorem dX7_init_91 : decode cX7_init 91 = .ok (.newarray .int, 2) := by decide +kernel
theorem dX7_init_93 : decode cX7_init 93 = .ok (.putfield 44, 3) := by decide +kernel
theorem dX7_init_96 : decode cX7_init 96 = .ok (.aload_n 0, 1) := by decide +kernel
theorem dX7_init_97 : decode cX7_init 97 = .ok (.bipush 96, 2) := by decide +kernel
theorem dX7_init_99 : decode cX7_init 99 = .ok (.newarray .int, 2) := by decide +kernel
theorem dX7_init_101 : decode cX7_init 101 = .ok (.putfield 47, 3) := by decide +kernel
theorem dX7_init_104 : decode cX7_init 104 = .ok (.aload_n 0, 1) := by decide +kernel
theorem dX7_init_105 : decode cX7_init 105 = .ok (.bipush 96, 2) := by decide +kernel
theorem dX7_init_107 : decode cX7_init 107 = .ok (.newarray .int, 2) := by decide +kernel
theorem dX7_init_109 : decode cX7_init 109 = .ok (.putfield 50, 3) := by decide +kernel
theorem dX7_init_112 : decode cX7_init 112 = .ok (.aload_n 0, 1) := by decide +kernel
theorem dX7_init_113 : decode cX7_init 113 = .ok (.sipush 2766, 3) := by decide +kernel
theorem dX7_init_116 : decode cX7_init 116 = .ok (.newarray .int, 2) := by decide +kernel
theorem dX7_init_118 : decode cX7_init 118 = .ok (.putfield 53, 3) := by decide +kernel
theorem dX7_init_121 : decode cX7_init 121 = .ok (.aload_n 0, 1) := by decide +kernel
theorem dX7_init_122 : decode cX7_init 122 = .ok (.sipush 2766, 3) := by decide +kernel
theorem dX7_init_125 : decode cX7_init 125 = .ok (.newarray .int, 2) := by decide +kernel
theorem dX7_init_127 : decode cX7_init 127 = .ok (.putfield 56, 3) := by decide +kernel
theorem dX7_init_130 : decode cX7_init 130 = .ok (.aload_n 0, 1) := by decide +kernel
theorem dX7_init_131 : decode cX7_init 131 = .ok (.sipush 2766, 3) := by decide +kernel
theorem dX7_init_134 : decode cX7_init 134 = .ok (.newarray .int, 2) := by decide +kernel
theorem dX7_init_136 : decode cX7_init 136 = .ok (.putfield 59, 3) := by decide +kernel
theorem dX7_init_139 : decode cX7_init 139 = .ok (.aload_n 0, 1) := by decide +kernel
theorem dX7_init_140 : decode cX7_init 140 = .ok (.bipush 64, 2) := by decide +kernel
theorem dX7_init_142 : decode cX7_init 142 = .ok (.newarray .int, 2) := by decide +kernel
theorem dX7_init_144 : decode cX7_init 144 = .ok (.putfield 62, 3) := by decide +kernel
theorem dX7_init_147 : decode cX7_init 147 = .ok (.return_, 1) := by decide +kernel
theorem dX7_thrown_0 : decode cX7_thrown 0 = .ok (.aload_n 0, 1) := by decide +kernel
theorem dX7_thrown_1 : decode cX7_thrown 1 = .ok (.getfield 65, 3) := by decide +kernel
theorem dX7_thrown_4 : decode cX7_thrown 4 = .ok (.ireturn, 1) := by decide +kernel
theorem dX7_in_0 : decode cX7_in 0 = .ok (.iload_n 0, 1) := by decide +kernel
theorem dX7_in_1 : decode cX7_in 1 = .ok (.iload_n 1, 1) := by decide +kernel
theorem dX7_in_2 : decode cX7_in 2 = .ok (.if_icmp .lt 12, 3) := by decide +kernel
theorem dX7_in_5 : decode cX7_in 5 = .ok (.iload_n 0, 1) := by decide +kernel
theorem dX7_in_6 : decode cX7_in 6 = .ok (.iload_n 2, 1) := by decide +kernel
theorem dX7_in_7 : decode cX7_in 7 = .ok (.if_icmp .gt 7, 3) := by decide +kernel
theorem dX7_in_10 : decode cX7_in 10 = .ok (.iconst 1, 1) := by decide +kernel
theorem dX7_in_11 : decode cX7_in 11 = .ok (.goto 4, 3) := by decide +kernel
theorem dX7_in_14 : decode cX7_in 14 = .ok (.iconst 0, 1) := by decide +kernel
theorem dX7_in_15 : decode cX7_in 15 = .ok (.ireturn, 1) := by decide +kernel
theorem dX7_anew_0 : decode cX7_anew 0 = .ok (.aload_n 0, 1) := by decide +kernel
theorem dX7_anew_1 : decode cX7_anew 1 = .ok (.iconst 0, 1) := by decide +kernel
theorem dX7_anew_2 : decode cX7_anew 2 = .ok (.putfield 65, 3) := by decide +kernel
theorem dX7_anew_5 : decode cX7_anew 5 = .ok (.aload_n 0, 1) := by decide +kernel
theorem dX7_anew_6 : decode cX7_anew 6 = .ok (.iconst 0, 1) := by decide +kernel
theorem dX7_anew_7 : decode cX7_anew 7 = .ok (.putfield 68, 3) := by decide +kernel
theorem dX7_anew_10 : decode cX7_anew 10 = .ok (.aload_n 0, 1) := by decide +kernel
theorem dX7_anew_11 : decode cX7_anew 11 = .ok (.iconst (-1), 1) := by decide +kernel
theorem dX7_anew_12 : decode cX7_anew 12 = .ok (.putfield 9, 3) := by decide +kernel
theorem dX7_anew_15 : decode cX7_anew 15 = .ok (.return_, 1) := by decide +kernel
theorem dX7_no_0 : decode cX7_no 0 = .ok (.aload_n 0, 1) := by decide +kernel
theorem dX7_no_1 : decode cX7_no 1 = .ok (.iload_n 1, 1) := by decide +kernel
theorem dX7_no_2 : decode cX7_no 2 = .ok (.putfield 68, 3) := by decide +kernel
theorem dX7_no_5 : decode cX7_no 5 = .ok (.iconst (-1), 1) := by decide +kernel
theorem dX7_no_6 : decode cX7_no 6 = .ok (.ireturn, 1) := by decide +kernel
theorem dX7_feed_0 : decode cX7_feed 0 = .ok (.aload_n 0, 1) := by decide +kernel
theorem dX7_feed_1 : decode cX7_feed 1 = .ok (.iconst 0, 1) := by decide +kernel
theorem dX7_feed_2 : decode cX7_feed 2 = .ok (.putfield 65, 3) := by decide +kernel
theorem dX7_feed_5 : decode cX7_feed 5 = .ok (.aload_n 0, 1) := by decide +kernel
theorem dX7_feed_6 : decode cX7_feed 6 = .ok (.getfield 71, 3) := by decide +kernel
theorem dX7_feed_9 : decode cX7_feed 9 = .ok (.sipush 880, 3) := by decide +kernel
theorem dX7_feed_12 : decode cX7_feed 12 = .ok (.if_icmp .le 5, 3) := by decide +kernel
theorem dX7_feed_15 : decode cX7_feed 15 = .ok (.iconst (-1), 1) := by decide +kernel
theorem dX7_feed_16 : decode cX7_feed 16 = .ok (.ireturn, 1) := by decide +kernel
theorem dX7_feed_17 : decode cX7_feed 17 = .ok (.aload_n 0, 1) := by decide +kernel
theorem dX7_feed_18 : decode cX7_feed 18 = .ok (.iload_n 1, 1) := by decide +kernel
theorem dX7_feed_19 : decode cX7_feed 19 = .ok (.invokevirtual 74, 3) := by decide +kernel
theorem dX7_feed_22 : decode cX7_feed 22 = .ok (.aload_n 0, 1) := by decide +kernel
theorem dX7_feed_23 : decode cX7_feed 23 = .ok (.iload_n 2, 1) := by decide +kernel
theorem dX7_feed_24 : decode cX7_feed 24 = .ok (.invokevirtual 74, 3) := by decide +kernel
theorem dX7_feed_27 : decode cX7_feed 27 = .ok (.aload_n 0, 1) := by decide +kernel
theorem dX7_feed_28 : decode cX7_feed 28 = .ok (.iload_n 3, 1) := by decide +kernel
theorem dX7_feed_29 : decode cX7_feed 29 = .ok (.invokevirtual 74, 3) := by decide +kernel
theorem dX7_feed_32 : decode cX7_feed 32 = .ok (.aload_n 0, 1) := by decide +kernel
theorem dX7_feed_33 : decode cX7_feed 33 = .ok (.iload 4, 2) := by decide +kernel
theorem dX7_feed_35 : decode cX7_feed 35 = .ok (.invokevirtual 74, 3) := by decide +kernel
theorem dX7_feed_38 : decode cX7_feed 38 = .ok (.aload_n 0, 1) := by decide +kernel
theorem dX7_feed_39 : decode cX7_feed 39 = .ok (.iload 5, 2) := by decide +kernel
theorem dX7_feed_41 : decode cX7_feed 41 = .ok (.invokevirtual 74, 3) := by decide +kernel
theorem dX7_feed_44 : decode cX7_feed 44 = .ok (.aload_n 0, 1) := by decide +kernel
theorem dX7_feed_45 : decode cX7_feed 45 = .ok (.getfield 71, 3) := by decide +kernel
theorem dX7_feed_48 : decode cX7_feed 48 = .ok (.ireturn, 1) := by decide +kernel
theorem dX7_lays_0 : decode cX7_lays 0 = .ok (.iconst 0, 1) := by decide +kernel
theorem dX7_lays_1 : decode cX7_lays 1 = .ok (.istore_n 2, 1) := by decide +kernel
theorem dX7_lays_2 : decode cX7_lays 2 = .ok (.iload_n 2, 1) := by decide +kernel
theorem dX7_lays_3 : decode cX7_lays 3 = .ok (.iconst 4, 1) := by decide +kernel
theorem dX7_lays_4 : decode cX7_lays 4 = .ok (.if_icmp .ge 33, 3) := by decide +kernel
theorem dX7_lays_7 : decode cX7_lays 7 = .ok (.aload_n 0, 1) := by decide +kernel
theorem dX7_lays_8 : decode cX7_lays 8 = .ok (.getfield 13, 3) := by decide +kernel
theorem dX7_lays_11 : decode cX7_lays 11 = .ok (.aload_n 0, 1) := by decide +kernel
theorem dX7_lays_12 : decode cX7_lays 12 = .ok (.getfield 71, 3) := by decide +kernel
theorem dX7_lays_15 : decode cX7_lays 15 = .ok (.iload_n 2, 1) := by decide +kernel
theorem dX7_lays_16 : decode cX7_lays 16 = .ok (.iadd, 1) := by decide +kernel
theorem dX7_lays_17 : decode cX7_lays 17 = .ok (.iload_n 1, 1) := by decide +kernel
theorem dX7_lays_18 : decode cX7_lays 18 = .ok (.bipush 24, 2) := by decide +kernel
theorem dX7_lays_20 : decode cX7_lays 20 = .ok (.bipush 8, 2) := by decide +kernel
theorem dX7_lays_22 : decode cX7_lays 22 = .ok (.iload_n 2, 1) := by decide +kernel
theorem dX7_lays_23 : decode cX7_lays 23 = .ok (.imul, 1) := by decide +kernel
theorem dX7_lays_24 : decode cX7_lays 24 = .ok (.isub, 1) := by decide +kernel
theorem dX7_lays_25 : decode cX7_lays 25 = .ok (.ishr, 1) := by decide +kernel
theorem dX7_lays_26 : decode cX7_lays 26 = .ok (.sipush 255, 3) := by decide +kernel
theorem dX7_lays_29 : decode cX7_lays 29 = .ok (.iand, 1) := by decide +kernel
theorem dX7_lays_30 : decode cX7_lays 30 = .ok (.iastore, 1) := by decide +kernel
theorem dX7_lays_31 : decode cX7_lays 31 = .ok (.iinc 2 1, 3) := by decide +kernel
theorem dX7_lays_34 : decode cX7_lays 34 = .ok (.goto (-32), 3) := by decide +kernel
theorem dX7_lays_37 : decode cX7_lays 37 = .ok (.aload_n 0, 1) := by decide +kernel
theorem dX7_lays_38 : decode cX7_lays 38 = .ok (.dup, 1) := by decide +kernel
theorem dX7_lays_39 : decode cX7_lays 39 = .ok (.getfield 71, 3) := by decide +kernel
theorem dX7_lays_42 : decode cX7_lays 42 = .ok (.iconst 4, 1) := by decide +kernel
theorem dX7_lays_43 : decode cX7_lays 43 = .ok (.iadd, 1) := by decide +kernel
theorem dX7_lays_44 : decode cX7_lays 44 = .ok (.putfield 71, 3) := by decide +kernel
theorem dX7_lays_47 : decode cX7_lays 47 = .ok (.return_, 1) := by decide +kernel
theorem dX7_see_0 : decode cX7_see 0 = .ok (.iload_n 1, 1) := by decide +kernel
theorem dX7_see_1 : decode cX7_see 1 = .ok (.aload_n 0, 1) := by decide +kernel
theorem dX7_see_2 : decode cX7_see 2 = .ok (.getfield 78, 3) := by decide +kernel
theorem dX7_see_5 : decode cX7_see 5 = .ok (.if_icmp .ge 12, 3) := by decide +kernel
theorem dX7_see_8 : decode cX7_see 8 = .ok (.aload_n 0, 1) := by decide +kernel
theorem dX7_see_9 : decode cX7_see 9 = .ok (.getfield 13, 3) := by decide +kernel
theorem dX7_see_12 : decode cX7_see 12 = .ok (.iload_n 1, 1) := by decide +kernel
theorem dX7_see_13 : decode cX7_see 13 = .ok (.iaload, 1) := by decide +kernel
theorem dX7_see_14 : decode cX7_see 14 = .ok (.goto 4, 3) := by decide +kernel
theorem dX7_see_17 : decode cX7_see 17 = .ok (.iconst (-1), 1) := by decide +kernel
theorem dX7_see_18 : decode cX7_see 18 = .ok (.ireturn, 1) := by decide +kernel
theorem dX7_nextToken_0 : decode cX7_nextToken 0 = .ok (.aload_n 0, 1) := by decide +kernel
theorem dX7_nextToken_1 : decode cX7_nextToken 1 = .ok (.aload_n 0, 1) := by decide +kernel
theorem dX7_nextToken_2 : decode cX7_nextToken 2 = .ok (.getfield 81, 3) := by decide +kernel
theorem dX7_nextToken_5 : decode cX7_nextToken 5 = .ok (.invokevirtual 84, 3) := by decide +kernel
theorem dX7_nextToken_8 : decode cX7_nextToken 8 = .ok (.bipush 32, 2) := by decide +kernel
theorem dX7_nextToken_10 : decode cX7_nextToken 10 = .ok (.if_icmp .ne 16, 3) := by decide +kernel
theorem dX7_nextToken_13 : decode cX7_nextToken 13 = .ok (.aload_n 0, 1) := by decide +kernel
theorem dX7_nextToken_14 : decode cX7_nextToken 14 = .ok (.dup, 1) := by decide +kernel
theorem dX7_nextToken_15 : decode cX7_nextToken 15 = .ok (.getfield 81, 3) := by decide +kernel
theorem dX7_nextToken_18 : decode cX7_nextToken 18 = .ok (.iconst 1, 1) := by decide +kernel
theorem dX7_nextToken_19 : decode cX7_nextToken 19 = .ok (.iadd, 1) := by decide +kernel
theorem dX7_nextToken_20 : decode cX7_nextToken 20 = .ok (.putfield 81, 3) := by decide +kernel
theorem dX7_nextToken_23 : decode cX7_nextToken 23 = .ok (.goto (-23), 3) := by decide +kernel
theorem dX7_nextToken_26 : decode cX7_nextToken 26 = .ok (.aload_n 0, 1) := by decide +kernel
theorem dX7_nextToken_27 : decode cX7_nextToken 27 = .ok (.aload_n 0, 1) := by decide +kernel
theorem dX7_nextToken_28 : decode cX7_nextToken 28 = .ok (.getfield 81, 3) := by decide +kernel
theorem dX7_nextToken_31 : decode cX7_nextToken 31 = .ok (.putfield 88, 3) := by decide +kernel
theorem dX7_nextToken_34 : decode cX7_nextToken 34 = .ok (.aload_n 0, 1) := by decide +kernel
theorem dX7_nextToken_35 : decode cX7_nextToken 35 = .ok (.aload_n 0, 1) := by decide +kernel
theorem dX7_nextToken_36 : decode cX7_nextToken 36 = .ok (.getfield 81, 3) := by decide +kernel
theorem dX7_nextToken_39 : decode cX7_nextToken 39 = .ok (.invokevirtual 84, 3) := by decide +kernel
theorem dX7_nextToken_42 : decode cX7_nextToken 42 = .ok (.istore_n 1, 1) := by decide +kernel
theorem dX7_nextToken_43 : decode cX7_nextToken 43 = .ok (.iload_n 1, 1) := by decide +kernel
theorem dX7_nextToken_44 : decode cX7_nextToken 44 = .ok (.iconst (-1), 1) := by decide +kernel
theorem dX7_nextToken_45 : decode cX7_nextToken 45 = .ok (.if_icmp .ne 9, 3) := by decide +kernel
theorem dX7_nextToken_48 : decode cX7_nextToken 48 = .ok (.aload_n 0, 1) := by decide +kernel
theorem dX7_nextToken_49 : decode cX7_nextToken 49 = .ok (.iconst 0, 1) := by decide +kernel
theorem dX7_nextToken_50 : decode cX7_nextToken 50 = .ok (.putfield 91, 3) := by decide +kernel
theorem dX7_nextToken_53 : decode cX7_nextToken 53 = .ok (.return_, 1) := by decide +kernel
theorem dX7_nextToken_54 : decode cX7_nextToken 54 = .ok (.iload_n 1, 1) := by decide +kernel
theorem dX7_nextToken_55 : decode cX7_nextToken 55 = .ok (.bipush 97, 2) := by decide +kernel
theorem dX7_nextToken_57 : decode cX7_nextToken 57 = .ok (.bipush 122, 2) := by decide +kernel
theorem dX7_nextToken_59 : decode cX7_nextToken 59 = .ok (.invokestatic 94, 3) := by decide +kernel
theorem dX7_nextToken_62 : decode cX7_nextToken 62 = .ok (.ifCond .eq 58, 3) := by decide +kernel
theorem dX7_nextToken_65 : decode cX7_nextToken 65 = .ok (.aload_n 0, 1) := by decide +kernel
theorem dX7_nextToken_66 : decode cX7_nextToken 66 = .ok (.aload_n 0, 1) := by decide +kernel
theorem dX7_nextToken_67 : decode cX7_nextToken 67 = .ok (.getfield 81, 3) := by decide +kernel
theorem dX7_nextToken_70 : decode cX7_nextToken 70 = .ok (.invokevirtual 84, 3) := by decide +kernel
theorem dX7_nextToken_73 : decode cX7_nextToken 73 = .ok (.bipush 97, 2) := by decide +kernel
theorem dX7_nextToken_75 : decode cX7_nextToken 75 = .ok (.bipush 122, 2) := by decide +kernel
theorem dX7_nextToken_77 : decode cX7_nextToken 77 = .ok (.invokestatic 94, 3) := by decide +kernel
theorem dX7_nextToken_80 : decode cX7_nextToken 80 = .ok (.ifCond .eq 16, 3) := by decide +kernel
theorem dX7_nextToken_83 : decode cX7_nextToken 83 = .ok (.aload_n 0, 1) := by decide +kernel
theorem dX7_nextToken_84 : decode cX7_nextToken 84 = .ok (.dup, 1) := by decide +kernel
theorem dX7_nextToken_85 : decode cX7_nextToken 85 = .ok (.getfield 81, 3) := by decide +kernel
theorem dX7_nextToken_88 : decode cX7_nextToken 88 = .ok (.iconst 1, 1) := by decide +kernel
theorem dX7_nextToken_89 : decode cX7_nextToken 89 = .ok (.iadd, 1) := by decide +kernel
theorem dX7_nextToken_90 : decode cX7_nextToken 90 = .ok (.putfield 81, 3) := by decide +kernel
theorem dX7_nextToken_93 : decode cX7_nextToken 93 = .ok (.goto (-28), 3) := by decide +kernel
theorem dX7_nextToken_96 : decode cX7_nextToken 96 = .ok (.aload_n 0, 1) := by decide +kernel
theorem dX7_nextToken_97 : decode cX7_nextToken 97 = .ok (.aload_n 0, 1) := by decide +kernel
theorem dX7_nextToken_98 : decode cX7_nextToken 98 = .ok (.getfield 81, 3) := by decide +kernel
theorem dX7_nextToken_101 : decode cX7_nextToken 101 = .ok (.aload_n 0, 1) := by decide +kernel
theorem dX7_nextToken_102 : decode cX7_nextToken 102 = .ok (.getfield 88, 3) := by decide +kernel
theorem dX7_nextToken_105 : decode cX7_nextToken 105 = .ok (.isub, 1) := by decide +kernel
theorem dX7_nextToken_106 : decode cX7_nextToken 106 = .ok (.bipush 7, 2) := by decide +kernel
theorem dX7_nextToken_108 : decode cX7_nextToken 108 = .ok (.if_icmp .le 7, 3) := by decide +kernel
theorem dX7_nextToken_111 : decode cX7_nextToken 111 = .ok (.iconst 1, 1) := by decide +kernel
theorem dX7_nextToken_112 : decode cX7_nextToken 112 = .ok (.goto 4, 3) := by decide +kernel
theorem dX7_nextToken_115 : decode cX7_nextToken 115 = .ok (.iconst 2, 1) := by decide +kernel
theorem dX7_nextToken_116 : decode cX7_nextToken 116 = .ok (.putfield 91, 3) := by decide +kernel
theorem dX7_nextToken_119 : decode cX7_nextToken 119 = .ok (.return_, 1) := by decide +kernel
theorem dX7_nextToken_120 : decode cX7_nextToken 120 = .ok (.iload_n 1, 1) := by decide +kernel
theorem dX7_nextToken_121 : decode cX7_nextToken 121 = .ok (.bipush 48, 2) := by decide +kernel
theorem dX7_nextToken_123 : decode cX7_nextToken 123 = .ok (.bipush 57, 2) := by decide +kernel
theorem dX7_nextToken_125 : decode cX7_nextToken 125 = .ok (.invokestatic 94, 3) := by decide +kernel
theorem dX7_nextToken_128 : decode cX7_nextToken 128 = .ok (.ifCond .eq 105, 3) := by decide +kernel
theorem dX7_nextToken_131 : decode cX7_nextToken 131 = .ok (.aload_n 0, 1) := by decide +kernel
theorem dX7_nextToken_132 : decode cX7_nextToken 132 = .ok (.iconst 0, 1) := by decide +kernel
theorem dX7_nextToken_133 : decode cX7_nextToken 133 = .ok (.putfield 98, 3) := by decide +kernel
theorem dX7_nextToken_136 : decode cX7_nextToken 136 = .ok (.aload_n 0, 1) := by decide +kernel
theorem dX7_nextToken_137 : decode cX7_nextToken 137 = .ok (.aload_n 0, 1) := by decide +kernel
theorem dX7_nextToken_138 : decode cX7_nextToken 138 = .ok (.getfield 81, 3) := by decide +kernel
theorem dX7_nextToken_141 : decode cX7_nextToken 141 = .ok (.invokevirtual 84, 3) := by decide +kernel
theorem dX7_nextToken_144 : decode cX7_nextToken 144 = .ok (.bipush 48, 2) := by decide +kernel
theorem dX7_nextToken_146 : decode cX7_nextToken 146 = .ok (.bipush 57, 2) := by decide +kernel
theorem dX7_nextToken_148 : decode cX7_nextToken 148 = .ok (.invokestatic 94, 3) := by decide +kernel
theorem dX7_nextToken_151 : decode cX7_nextToken 151 = .ok (.ifCond .eq 59, 3) := by decide +kernel
theorem dX7_nextToken_154 : decode cX7_nextToken 154 = .ok (.aload_n 0, 1) := by decide +kernel
theorem dX7_nextToken_155 : decode cX7_nextToken 155 = .ok (.aload_n 0, 1) := by decide +kernel
theorem dX7_nextToken_156 : decode cX7_nextToken 156 = .ok (.getfield 81, 3) := by decide +kernel
theorem dX7_nextToken_159 : decode cX7_nextToken 159 = .ok (.aload_n 0, 1) := by decide +kernel
theorem dX7_nextToken_160 : decode cX7_nextToken 160 = .ok (.getfield 88, 3) := by decide +kernel
theorem dX7_nextToken_163 : decode cX7_nextToken 163 = .ok (.isub, 1) := by decide +kernel
theorem dX7_nextToken_164 : decode cX7_nextToken 164 = .ok (.iconst 3, 1) := by decide +kernel
theorem dX7_nextToken_165 : decode cX7_nextToken 165 = .ok (.if_icmp .ge 25, 3) := by decide +kernel
theorem dX7_nextToken_168 : decode cX7_nextToken 168 = .ok (.bipush 10, 2) := by decide +kernel
theorem dX7_nextToken_170 : decode cX7_nextToken 170 = .ok (.aload_n 0, 1) := by decide +kernel
theorem dX7_nextToken_171 : decode cX7_nextToken 171 = .ok (.getfield 98, 3) := by decide +kernel
theorem dX7_nextToken_174 : decode cX7_nextToken 174 = .ok (.imul, 1) := by decide +kernel
theorem dX7_nextToken_175 : decode cX7_nextToken 175 = .ok (.aload_n 0, 1) := by decide +kernel
theorem dX7_nextToken_176 : decode cX7_nextToken 176 = .ok (.aload_n 0, 1) := by decide +kernel
theorem dX7_nextToken_177 : decode cX7_nextToken 177 = .ok (.getfield 81, 3) := by decide +kernel
theorem dX7_nextToken_180 : decode cX7_nextToken 180 = .ok (.invokevirtual 84, 3) := by decide +kernel
theorem dX7_nextToken_183 : decode cX7_nextToken 183 = .ok (.iadd, 1) := by decide +kernel
theorem dX7_nextToken_184 : decode cX7_nextToken 184 = .ok (.bipush 48, 2) := by decide +kernel
theorem dX7_nextToken_186 : decode cX7_nextToken 186 = .ok (.isub, 1) := by decide +kernel
theorem dX7_nextToken_187 : decode cX7_nextToken 187 = .ok (.goto 7, 3) := by decide +kernel
theorem dX7_nextToken_190 : decode cX7_nextToken 190 = .ok (.aload_n 0, 1) := by decide +kernel
theorem dX7_nextToken_191 : decode cX7_nextToken 191 = .ok (.getfield 98, 3) := by decide +kernel
theorem dX7_nextToken_194 : decode cX7_nextToken 194 = .ok (.putfield 98, 3) := by decide +kernel
theorem dX7_nextToken_197 : decode cX7_nextToken 197 = .ok (.aload_n 0, 1) := by decide +kernel
theorem dX7_nextToken_198 : decode cX7_nextToken 198 = .ok (.dup, 1) := by decide +kernel
theorem dX7_nextToken_199 : decode cX7_nextToken 199 = .ok (.getfield 81, 3) := by decide +kernel
theorem dX7_nextToken_202 : decode cX7_nextToken 202 = .ok (.iconst 1, 1) := by decide +kernel
theorem dX7_nextToken_203 : decode cX7_nextToken 203 = .ok (.iadd, 1) := by decide +kernel
theorem dX7_nextToken_204 : decode cX7_nextToken 204 = .ok (.putfield 81, 3) := by decide +kernel
theorem dX7_nextToken_207 : decode cX7_nextToken 207 = .ok (.goto (-71), 3) := by decide +kernel
theorem dX7_nextToken_210 : decode cX7_nextToken 210 = .ok (.aload_n 0, 1) := by decide +kernel
theorem dX7_nextToken_211 : decode cX7_nextToken 211 = .ok (.aload_n 0, 1) := by decide +kernel
theorem dX7_nextToken_212 : decode cX7_nextToken 212 = .ok (.getfield 81, 3) := by decide +kernel
theorem dX7_nextToken_215 : decode cX7_nextToken 215 = .ok (.aload_n 0, 1) := by decide +kernel
theorem dX7_nextToken_216 : decode cX7_nextToken 216 = .ok (.getfield 88, 3) := by decide +kernel
theorem dX7_nextToken_219 : decode cX7_nextToken 219 = .ok (.isub, 1) := by decide +kernel
theorem dX7_nextToken_220 : decode cX7_nextToken 220 = .ok (.iconst 3, 1) := by decide +kernel
theorem dX7_nextToken_221 : decode cX7_nextToken 221 = .ok (.if_icmp .le 7, 3) := by decide +kernel
theorem dX7_nextToken_224 : decode cX7_nextToken 224 = .ok (.iconst 1, 1) := by decide +kernel
theorem dX7_nextToken_225 : decode cX7_nextToken 225 = .ok (.goto 4, 3) := by decide +kernel
theorem dX7_nextToken_228 : decode cX7_nextToken 228 = .ok (.iconst 3, 1) := by decide +kernel
theorem dX7_nextToken_229 : decode cX7_nextToken 229 = .ok (.putfield 91, 3) := by decide +kernel
theorem dX7_nextToken_232 : decode cX7_nextToken 232 = .ok (.return_, 1) := by decide +kernel
theorem dX7_nextToken_233 : decode cX7_nextToken 233 = .ok (.aload_n 0, 1) := by decide +kernel
theorem dX7_nextToken_234 : decode cX7_nextToken 234 = .ok (.dup, 1) := by decide +kernel
theorem dX7_nextToken_235 : decode cX7_nextToken 235 = .ok (.getfield 81, 3) := by decide +kernel
theorem dX7_nextToken_238 : decode cX7_nextToken 238 = .ok (.iconst 1, 1) := by decide +kernel
theorem dX7_nextToken_239 : decode cX7_nextToken 239 = .ok (.iadd, 1) := by decide +kernel
theorem dX7_nextToken_240 : decode cX7_nextToken 240 = .ok (.putfield 81, 3) := by decide +kernel
theorem dX7_nextToken_243 : decode cX7_nextToken 243 = .ok (.aload_n 0, 1) := by decide +kernel
theorem dX7_nextToken_244 : decode cX7_nextToken 244 = .ok (.iload_n 1, 1) := by decide +kernel
theorem dX7_nextToken_245 : decode cX7_nextToken 245 = .ok (.bipush 59, 2) := by decide +kernel
theorem dX7_nextToken_247 : decode cX7_nextToken 247 = .ok (.if_icmp .ne 7, 3) := by decide +kernel
theorem dX7_nextToken_250 : decode cX7_nextToken 250 = .ok (.iload_n 1, 1) := by decide +kernel
theorem dX7_nextToken_251 : decode cX7_nextToken 251 = .ok (.goto 4, 3) := by decide +kernel
theorem dX7_nextToken_254 : decode cX7_nextToken 254 = .ok (.iconst 1, 1) := by decide +kernel
theorem dX7_nextToken_255 : decode cX7_nextToken 255 = .ok (.putfield 91, 3) := by decide +kernel
theorem dX7_nextToken_258 : decode cX7_nextToken 258 = .ok (.return_, 1) := by decide +kernel
theorem dX7_isWord_0 : decode cX7_isWord 0 = .ok (.aload_n 0, 1) := by decide +kernel
theorem dX7_isWord_1 : decode cX7_isWord 1 = .ok (.getfield 91, 3) := by decide +kernel
theorem dX7_isWord_4 : decode cX7_isWord 4 = .ok (.iconst 2, 1) := by decide +kernel
theorem dX7_isWord_5 : decode cX7_isWord 5 = .ok (.if_icmp .ne 19, 3) := by decide +kernel
theorem dX7_isWord_8 : decode cX7_isWord 8 = .ok (.aload_n 0, 1) := by decide +kernel
theorem dX7_isWord_9 : decode cX7_isWord 9 = .ok (.getfield 81, 3) := by decide +kernel
theorem dX7_isWord_12 : decode cX7_isWord 12 = .ok (.aload_n 0, 1) := by decide +kernel
theorem dX7_isWord_13 : decode cX7_isWord 13 = .ok (.getfield 88, 3) := by decide +kernel
theorem dX7_isWord_16 : decode cX7_isWord 16 = .ok (.isub, 1) := by decide +kernel
theorem dX7_isWord_17 : decode cX7_isWord 17 = .ok (.aload_n 1, 1) := by decide +kernel
theorem dX7_isWord_18 : decode cX7_isWord 18 = .ok (.invokevirtual 101, 3) := by decide +kernel
theorem dX7_isWord_21 : decode cX7_isWord 21 = .ok (.if_icmp .eq 5, 3) := by decide +kernel
theorem dX7_isWord_24 : decode cX7_isWord 24 = .ok (.iconst 0, 1) := by decide +kernel
theorem dX7_isWord_25 : decode cX7_isWord 25 = .ok (.ireturn, 1) := by decide +kernel
theorem dX7_isWord_26 : decode cX7_isWord 26 = .ok (.iconst 0, 1) := by decide +kernel
theorem dX7_isWord_27 : decode cX7_isWord 27 = .ok (.istore_n 2, 1) := by decide +kernel
theorem dX7_isWord_28 : decode cX7_isWord 28 = .ok (.iload_n 2, 1) := by decide +kernel
theorem dX7_isWord_29 : decode cX7_isWord 29 = .ok (.aload_n 1, 1) := by decide +kernel
theorem dX7_isWord_30 : decode cX7_isWord 30 = .ok (.invokevirtual 101, 3) := by decide +kernel
theorem dX7_isWord_33 : decode cX7_isWord 33 = .ok (.if_icmp .ge 30, 3) := by decide +kernel
theorem dX7_isWord_36 : decode cX7_isWord 36 = .ok (.aload_n 0, 1) := by decide +kernel
theorem dX7_isWord_37 : decode cX7_isWord 37 = .ok (.getfield 13, 3) := by decide +kernel
theorem dX7_isWord_40 : decode cX7_isWord 40 = .ok (.aload_n 0, 1) := by decide +kernel
theorem dX7_isWord_41 : decode cX7_isWord 41 = .ok (.getfield 88, 3) := by decide +kernel
theorem dX7_isWord_44 : decode cX7_isWord 44 = .ok (.iload_n 2, 1) := by decide +kernel
theorem dX7_isWord_45 : decode cX7_isWord 45 = .ok (.iadd, 1) := by decide +kernel
theorem dX7_isWord_46 : decode cX7_isWord 46 = .ok (.iaload, 1) := by decide +kernel
theorem dX7_isWord_47 : decode cX7_isWord 47 = .ok (.aload_n 1, 1) := by decide +kernel
theorem dX7_isWord_48 : decode cX7_isWord 48 = .ok (.iload_n 2, 1) := by decide +kernel
theorem dX7_isWord_49 : decode cX7_isWord 49 = .ok (.invokevirtual 107, 3) := by decide +kernel
theorem dX7_isWord_52 : decode cX7_isWord 52 = .ok (.if_icmp .eq 5, 3) := by decide +kernel
theorem dX7_isWord_55 : decode cX7_isWord 55 = .ok (.iconst 0, 1) := by decide +kernel
theorem dX7_isWord_56 : decode cX7_isWord 56 = .ok (.ireturn, 1) := by decide +kernel
theorem dX7_isWord_57 : decode cX7_isWord 57 = .ok (.iinc 2 1, 3) := by decide +kernel
theorem dX7_isWord_60 : decode cX7_isWord 60 = .ok (.goto (-32), 3) := by decide +kernel
theorem dX7_isWord_63 : decode cX7_isWord 63 = .ok (.iconst 1, 1) := by decide +kernel
theorem dX7_isWord_64 : decode cX7_isWord 64 = .ok (.ireturn, 1) := by decide +kernel
theorem dX7_errs_0 : decode cX7_errs 0 = .ok (.aload_n 0, 1) := by decide +kernel
theorem dX7_errs_1 : decode cX7_errs 1 = .ok (.iload_n 1, 1) := by decide +kernel
theorem dX7_errs_2 : decode cX7_errs 2 = .ok (.putfield 111, 3) := by decide +kernel
theorem dX7_errs_5 : decode cX7_errs 5 = .ok (.aload_n 0, 1) := by decide +kernel
theorem dX7_errs_6 : decode cX7_errs 6 = .ok (.aload_n 0, 1) := by decide +kernel
theorem dX7_errs_7 : decode cX7_errs 7 = .ok (.getfield 88, 3) := by decide +kernel
theorem dX7_errs_10 : decode cX7_errs 10 = .ok (.putfield 114, 3) := by decide +kernel
theorem dX7_errs_13 : decode cX7_errs 13 = .ok (.iconst (-1), 1) := by decide +kernel
theorem dX7_errs_14 : decode cX7_errs 14 = .ok (.ireturn, 1) := by decide +kernel
theorem dX7_wholeHere_0 : decode cX7_wholeHere 0 = .ok (.aload_n 0, 1) := by decide +kernel
theorem dX7_wholeHere_1 : decode cX7_wholeHere 1 = .ok (.getfield 91, 3) := by decide +kernel
theorem dX7_wholeHere_4 : decode cX7_wholeHere 4 = .ok (.iconst 3, 1) := by decide +kernel
theorem dX7_wholeHere_5 : decode cX7_wholeHere 5 = .ok (.if_icmp .eq 9, 3) := by decide +kernel
theorem dX7_wholeHere_8 : decode cX7_wholeHere 8 = .ok (.aload_n 0, 1) := by decide +kernel
theorem dX7_wholeHere_9 : decode cX7_wholeHere 9 = .ok (.iconst 1, 1) := by decide +kernel
theorem dX7_wholeHere_10 : decode cX7_wholeHere 10 = .ok (.invokevirtual 117, 3) := by decide +kernel
theorem dX7_wholeHere_13 : decode cX7_wholeHere 13 = .ok (.ireturn, 1) := by decide +kernel
theorem dX7_wholeHere_14 : decode cX7_wholeHere 14 = .ok (.aload_n 0, 1) := by decide +kernel
theorem dX7_wholeHere_15 : decode cX7_wholeHere 15 = .ok (.getfield 98, 3) := by decide +kernel
theorem dX7_wholeHere_18 : decode cX7_wholeHere 18 = .ok (.iload_n 1, 1) := by decide +kernel
theorem dX7_wholeHere_19 : decode cX7_wholeHere 19 = .ok (.iload_n 2, 1) := by decide +kernel
theorem dX7_wholeHere_20 : decode cX7_wholeHere 20 = .ok (.invokestatic 94, 3) := by decide +kernel
theorem dX7_wholeHere_23 : decode cX7_wholeHere 23 = .ok (.ifCond .eq 10, 3) := by decide +kernel
theorem dX7_wholeHere_26 : decode cX7_wholeHere 26 = .ok (.aload_n 0, 1) := by decide +kernel
theorem dX7_wholeHere_27 : decode cX7_wholeHere 27 = .ok (.getfield 98, 3) := by decide +kernel
theorem dX7_wholeHere_30 : decode cX7_wholeHere 30 = .ok (.goto 8, 3) := by decide +kernel
theorem dX7_wholeHere_33 : decode cX7_wholeHere 33 = .ok (.aload_n 0, 1) := by decide +kernel
theorem dX7_wholeHere_34 : decode cX7_wholeHere 34 = .ok (.iconst 2, 1) := by decide +kernel
theorem dX7_wholeHere_35 : decode cX7_wholeHere 35 = .ok (.invokevirtual 117, 3) := by decide +kernel
theorem dX7_wholeHere_38 : decode cX7_wholeHere 38 = .ok (.ireturn, 1) := by decide +kernel
theorem dX7_passes_0 : decode cX7_passes 0 = .ok (.aload_n 0, 1) := by decide +kernel
theorem dX7_passes_1 : decode cX7_passes 1 = .ok (.iload_n 1, 1) := by decide +kernel
theorem dX7_passes_2 : decode cX7_passes 2 = .ok (.iload_n 2, 1) := by decide +kernel
theorem dX7_passes_3 : decode cX7_passes 3 = .ok (.invokevirtual 120, 3) := by decide +kernel
theorem dX7_passes_6 : decode cX7_passes 6 = .ok (.istore_n 3, 1) := by decide +kernel
theorem dX7_passes_7 : decode cX7_passes 7 = .ok (.iload_n 3, 1) := by decide +kernel
theorem dX7_passes_8 : decode cX7_passes 8 = .ok (.iconst (-1), 1) := by decide +kernel
theorem dX7_passes_9 : decode cX7_passes 9 = .ok (.if_icmp .eq 7, 3) := by decide +kernel
theorem dX7_passes_12 : decode cX7_passes 12 = .ok (.aload_n 0, 1) := by decide +kernel
theorem dX7_passes_13 : decode cX7_passes 13 = .ok (.invokevirtual 124, 3) := by decide +kernel
theorem dX7_passes_16 : decode cX7_passes 16 = .ok (.iload_n 3, 1) := by decide +kernel
theorem dX7_passes_17 : decode cX7_passes 17 = .ok (.ireturn, 1) := by decide +kernel
theorem dX7_after_0 : decode cX7_after 0 = .ok (.aload_n 0, 1) := by decide +kernel
theorem dX7_after_1 : decode cX7_after 1 = .ok (.aload_n 1, 1) := by decide +kernel
theorem dX7_after_2 : decode cX7_after 2 = .ok (.invokevirtual 127, 3) := by decide +kernel
theorem dX7_after_5 : decode cX7_after 5 = .ok (.ifCond .ne 9, 3) := by decide +kernel
theorem dX7_after_8 : decode cX7_after 8 = .ok (.aload_n 0, 1) := by decide +kernel
theorem dX7_after_9 : decode cX7_after 9 = .ok (.iconst 1, 1) := by decide +kernel
theorem dX7_after_10 : decode cX7_after 10 = .ok (.invokevirtual 117, 3) := by decide +kernel
theorem dX7_after_13 : decode cX7_after 13 = .ok (.ireturn, 1) := by decide +kernel
theorem dX7_after_14 : decode cX7_after 14 = .ok (.aload_n 0, 1) := by decide +kernel
theorem dX7_after_15 : decode cX7_after 15 = .ok (.invokevirtual 124, 3) := by decide +kernel
theorem dX7_after_18 : decode cX7_after 18 = .ok (.aload_n 0, 1) := by decide +kernel
theorem dX7_after_19 : decode cX7_after 19 = .ok (.iload_n 2, 1) := by decide +kernel
theorem dX7_after_20 : decode cX7_after 20 = .ok (.iload_n 3, 1) := by decide +kernel
theorem dX7_after_21 : decode cX7_after 21 = .ok (.invokevirtual 131, 3) := by decide +kernel
theorem dX7_after_24 : decode cX7_after 24 = .ok (.ireturn, 1) := by decide +kernel
theorem dX7_power_0 : decode cX7_power 0 = .ok (.aload_n 0, 1) := by decide +kernel
theorem dX7_power_1 : decode cX7_power 1 = .ok (.aload_n 1, 1) := by decide +kernel
theorem dX7_power_2 : decode cX7_power 2 = .ok (.invokevirtual 127, 3) := by decide +kernel
theorem dX7_power_5 : decode cX7_power 5 = .ok (.ifCond .ne 9, 3) := by decide +kernel
theorem dX7_power_8 : decode cX7_power 8 = .ok (.aload_n 0, 1) := by decide +kernel
theorem dX7_power_9 : decode cX7_power 9 = .ok (.iconst 1, 1) := by decide +kernel
theorem dX7_power_10 : decode cX7_power 10 = .ok (.invokevirtual 117, 3) := by decide +kernel
theorem dX7_power_13 : decode cX7_power 13 = .ok (.ireturn, 1) := by decide +kernel
theorem dX7_power_14 : decode cX7_power 14 = .ok (.aload_n 0, 1) := by decide +kernel
theorem dX7_power_15 : decode cX7_power 15 = .ok (.invokevirtual 124, 3) := by decide +kernel
theorem dX7_power_18 : decode cX7_power 18 = .ok (.aload_n 0, 1) := by decide +kernel
theorem dX7_power_19 : decode cX7_power 19 = .ok (.iconst 1, 1) := by decide +kernel
theorem dX7_power_20 : decode cX7_power 20 = .ok (.iconst 4, 1) := by decide +kernel
theorem dX7_power_21 : decode cX7_power 21 = .ok (.invokevirtual 120, 3) := by decide +kernel
theorem dX7_power_24 : decode cX7_power 24 = .ok (.iconst (-1), 1) := by decide +kernel
theorem dX7_power_25 : decode cX7_power 25 = .ok (.if_icmp .ne 5, 3) := by decide +kernel
theorem dX7_power_28 : decode cX7_power 28 = .ok (.iconst (-1), 1) := by decide +kernel
theorem dX7_power_29 : decode cX7_power 29 = .ok (.ireturn, 1) := by decide +kernel
theorem dX7_power_30 : decode cX7_power 30 = .ok (.aload_n 0, 1) := by decide +kernel
theorem dX7_power_31 : decode cX7_power 31 = .ok (.getfield 98, 3) := by decide +kernel
theorem dX7_power_34 : decode cX7_power 34 = .ok (.iconst 3, 1) := by decide +kernel
theorem dX7_power_35 : decode cX7_power 35 = .ok (.if_icmp .ne 11, 3) := by decide +kernel
theorem dX7_power_38 : decode cX7_power 38 = .ok (.aload_n 0, 1) := by decide +kernel
theorem dX7_power_39 : decode cX7_power 39 = .ok (.iconst 2, 1) := by decide +kernel
theorem dX7_power_40 : decode cX7_power 40 = .ok (.invokevirtual 117, 3) := by decide +kernel
theorem dX7_power_43 : decode cX7_power 43 = .ok (.goto 9, 3) := by decide +kernel
theorem dX7_power_46 : decode cX7_power 46 = .ok (.aload_n 0, 1) := by decide +kernel
theorem dX7_power_47 : decode cX7_power 47 = .ok (.iconst 1, 1) := by decide +kernel
theorem dX7_power_48 : decode cX7_power 48 = .ok (.iconst 4, 1) := by decide +kernel
theorem dX7_power_49 : decode cX7_power 49 = .ok (.invokevirtual 131, 3) := by decide +kernel
theorem dX7_power_52 : decode cX7_power 52 = .ok (.ireturn, 1) := by decide +kernel
theorem dX7_readMachine_0 : decode cX7_readMachine 0 = .ok (.aload_n 0, 1) := by decide +kernel
theorem dX7_readMachine_1 : decode cX7_readMachine 1 = .ok (.getfield 134, 3) := by decide +kernel
theorem dX7_readMachine_4 : decode cX7_readMachine 4 = .ok (.ifCond .eq 9, 3) := by decide +kernel
theorem dX7_readMachine_7 : decode cX7_readMachine 7 = .ok (.aload_n 0, 1) := by decide +kernel
theorem dX7_readMachine_8 : decode cX7_readMachine 8 = .ok (.iconst 3, 1) := by decide +kernel
theorem dX7_readMachine_9 : decode cX7_readMachine 9 = .ok (.invokevirtual 117, 3) := by decide +kernel
theorem dX7_readMachine_12 : decode cX7_readMachine 12 = .ok (.ireturn, 1) := by decide +kernel
theorem dX7_readMachine_13 : decode cX7_readMachine 13 = .ok (.aload_n 0, 1) := by decide +kernel
theorem dX7_readMachine_14 : decode cX7_readMachine 14 = .ok (.invokevirtual 124, 3) := by decide +kernel
theorem dX7_readMachine_17 : decode cX7_readMachine 17 = .ok (.aload_n 0, 1) := by decide +kernel
theorem dX7_readMachine_18 : decode cX7_readMachine 18 = .ok (.getfield 20, 3) := by decide +kernel
theorem dX7_readMachine_21 : decode cX7_readMachine 21 = .ok (.iconst 0, 1) := by decide +kernel
theorem dX7_readMachine_22 : decode cX7_readMachine 22 = .ok (.aload_n 0, 1) := by decide +kernel
theorem dX7_readMachine_23 : decode cX7_readMachine 23 = .ok (.ldc 138, 2) := by decide +kernel
theorem dX7_readMachine_25 : decode cX7_readMachine 25 = .ok (.invokevirtual 140, 3) := by decide +kernel
theorem dX7_readMachine_28 : decode cX7_readMachine 28 = .ok (.iastore, 1) := by decide +kernel
theorem dX7_readMachine_29 : decode cX7_readMachine 29 = .ok (.aload_n 0, 1) := by decide +kernel
theorem dX7_readMachine_30 : decode cX7_readMachine 30 = .ok (.getfield 20, 3) := by decide +kernel
theorem dX7_readMachine_33 : decode cX7_readMachine 33 = .ok (.iconst 0, 1) := by decide +kernel
theorem dX7_readMachine_34 : decode cX7_readMachine 34 = .ok (.iaload, 1) := by decide +kernel
theorem dX7_readMachine_35 : decode cX7_readMachine 35 = .ok (.iconst (-1), 1) := by decide +kernel
theorem dX7_readMachine_36 : decode cX7_readMachine 36 = .ok (.if_icmp .ne 5, 3) := by decide +kernel
theorem dX7_readMachine_39 : decode cX7_readMachine 39 = .ok (.iconst (-1), 1) := by decide +kernel
theorem dX7_readMachine_40 : decode cX7_readMachine 40 = .ok (.ireturn, 1) := by decide +kernel
theorem dX7_readMachine_41 : decode cX7_readMachine 41 = .ok (.aload_n 0, 1) := by decide +kernel
theorem dX7_readMachine_42 : decode cX7_readMachine 42 = .ok (.getfield 20, 3) := by decide +kernel
theorem dX7_readMachine_45 : decode cX7_readMachine 45 = .ok (.iconst 1, 1) := by decide +kernel
theorem dX7_readMachine_46 : decode cX7_readMachine 46 = .ok (.aload_n 0, 1) := by decide +kernel
theorem dX7_readMachine_47 : decode cX7_readMachine 47 = .ok (.ldc 144, 2) := by decide +kernel
theorem dX7_readMachine_49 : decode cX7_readMachine 49 = .ok (.iconst 1, 1) := by decide +kernel
theorem dX7_readMachine_50 : decode cX7_readMachine 50 = .ok (.iconst 4, 1) := by decide +kernel
theorem dX7_readMachine_51 : decode cX7_readMachine 51 = .ok (.invokevirtual 146, 3) := by decide +kernel
theorem dX7_readMachine_54 : decode cX7_readMachine 54 = .ok (.iastore, 1) := by decide +kernel
theorem dX7_readMachine_55 : decode cX7_readMachine 55 = .ok (.aload_n 0, 1) := by decide +kernel
theorem dX7_readMachine_56 : decode cX7_readMachine 56 = .ok (.getfield 20, 3) := by decide +kernel
theorem dX7_readMachine_59 : decode cX7_readMachine 59 = .ok (.iconst 1, 1) := by decide +kernel
theorem dX7_readMachine_60 : decode cX7_readMachine 60 = .ok (.iaload, 1) := by decide +kernel
theorem dX7_readMachine_61 : decode cX7_readMachine 61 = .ok (.iconst (-1), 1) := by decide +kernel
theorem dX7_readMachine_62 : decode cX7_readMachine 62 = .ok (.if_icmp .ne 5, 3) := by decide +kernel
theorem dX7_readMachine_65 : decode cX7_readMachine 65 = .ok (.iconst (-1), 1) := by decide +kernel
theorem dX7_readMachine_66 : decode cX7_readMachine 66 = .ok (.ireturn, 1) := by decide +kernel
theorem dX7_readMachine_67 : decode cX7_readMachine 67 = .ok (.aload_n 0, 1) := by decide +kernel
theorem dX7_readMachine_68 : decode cX7_readMachine 68 = .ok (.getfield 20, 3) := by decide +kernel
theorem dX7_readMachine_71 : decode cX7_readMachine 71 = .ok (.iconst 2, 1) := by decide +kernel
theorem dX7_readMachine_72 : decode cX7_readMachine 72 = .ok (.aload_n 0, 1) := by decide +kernel
theorem dX7_readMachine_73 : decode cX7_readMachine 73 = .ok (.ldc 150, 2) := by decide +kernel
theorem dX7_readMachine_75 : decode cX7_readMachine 75 = .ok (.invokevirtual 140, 3) := by decide +kernel
theorem dX7_readMachine_78 : decode cX7_readMachine 78 = .ok (.iastore, 1) := by decide +kernel
theorem dX7_readMachine_79 : decode cX7_readMachine 79 = .ok (.aload_n 0, 1) := by decide +kernel
theorem dX7_readMachine_80 : decode cX7_readMachine 80 = .ok (.getfield 20, 3) := by decide +kernel
theorem dX7_readMachine_83 : decode cX7_readMachine 83 = .ok (.iconst 2, 1) := by decide +kernel
theorem dX7_readMachine_84 : decode cX7_readMachine 84 = .ok (.iaload, 1) := by decide +kernel
theorem dX7_readMachine_85 : decode cX7_readMachine 85 = .ok (.iconst (-1), 1) := by decide +kernel
theorem dX7_readMachine_86 : decode cX7_readMachine 86 = .ok (.if_icmp .ne 5, 3) := by decide +kernel
theorem dX7_readMachine_89 : decode cX7_readMachine 89 = .ok (.iconst (-1), 1) := by decide +kernel
theorem dX7_readMachine_90 : decode cX7_readMachine 90 = .ok (.ireturn, 1) := by decide +kernel
theorem dX7_readMachine_91 : decode cX7_readMachine 91 = .ok (.aload_n 0, 1) := by decide +kernel
theorem dX7_readMachine_92 : decode cX7_readMachine 92 = .ok (.ldc 152, 2) := by decide +kernel
theorem dX7_readMachine_94 : decode cX7_readMachine 94 = .ok (.invokevirtual 127, 3) := by decide +kernel
theorem dX7_readMachine_97 : decode cX7_readMachine 97 = .ok (.ifCond .ne 9, 3) := by decide +kernel
theorem dX7_readMachine_100 : decode cX7_readMachine 100 = .ok (.aload_n 0, 1) := by decide +kernel
theorem dX7_readMachine_101 : decode cX7_readMachine 101 = .ok (.iconst 1, 1) := by decide +kernel
theorem dX7_readMachine_102 : decode cX7_readMachine 102 = .ok (.invokevirtual 117, 3) := by decide +kernel
theorem dX7_readMachine_105 : decode cX7_readMachine 105 = .ok (.ireturn, 1) := by decide +kernel
theorem dX7_readMachine_106 : decode cX7_readMachine 106 = .ok (.aload_n 0, 1) := by decide +kernel
theorem dX7_readMachine_107 : decode cX7_readMachine 107 = .ok (.invokevirtual 124, 3) := by decide +kernel
theorem dX7_readMachine_110 : decode cX7_readMachine 110 = .ok (.aload_n 0, 1) := by decide +kernel
theorem dX7_readMachine_111 : decode cX7_readMachine 111 = .ok (.getfield 20, 3) := by decide +kernel
theorem dX7_readMachine_114 : decode cX7_readMachine 114 = .ok (.iconst 3, 1) := by decide +kernel
theorem dX7_readMachine_115 : decode cX7_readMachine 115 = .ok (.aload_n 0, 1) := by decide +kernel
theorem dX7_readMachine_116 : decode cX7_readMachine 116 = .ok (.ldc 154, 2) := by decide +kernel
theorem dX7_readMachine_118 : decode cX7_readMachine 118 = .ok (.invokevirtual 127, 3) := by decide +kernel
theorem dX7_readMachine_121 : decode cX7_readMachine 121 = .ok (.ifCond .eq 7, 3) := by decide +kernel
theorem dX7_readMachine_124 : decode cX7_readMachine 124 = .ok (.iconst 0, 1) := by decide +kernel
theorem dX7_readMachine_125 : decode cX7_readMachine 125 = .ok (.goto 30, 3) := by decide +kernel
theorem dX7_readMachine_128 : decode cX7_readMachine 128 = .ok (.aload_n 0, 1) := by decide +kernel
theorem dX7_readMachine_129 : decode cX7_readMachine 129 = .ok (.ldc 156, 2) := by decide +kernel
theorem dX7_readMachine_131 : decode cX7_readMachine 131 = .ok (.invokevirtual 127, 3) := by decide +kernel
theorem dX7_readMachine_134 : decode cX7_readMachine 134 = .ok (.ifCond .eq 7, 3) := by decide +kernel
theorem dX7_readMachine_137 : decode cX7_readMachine 137 = .ok (.iconst 1, 1) := by decide +kernel
theorem dX7_readMachine_138 : decode cX7_readMachine 138 = .ok (.goto 17, 3) := by decide +kernel
theorem dX7_readMachine_141 : decode cX7_readMachine 141 = .ok (.aload_n 0, 1) := by decide +kernel
theorem dX7_readMachine_142 : decode cX7_readMachine 142 = .ok (.ldc 158, 2) := by decide +kernel
theorem dX7_readMachine_144 : decode cX7_readMachine 144 = .ok (.invokevirtual 127, 3) := by decide +kernel
theorem dX7_readMachine_147 : decode cX7_readMachine 147 = .ok (.ifCond .eq 7, 3) := by decide +kernel
theorem dX7_readMachine_150 : decode cX7_readMachine 150 = .ok (.iconst 2, 1) := by decide +kernel
theorem dX7_readMachine_151 : decode cX7_readMachine 151 = .ok (.goto 4, 3) := by decide +kernel
theorem dX7_readMachine_154 : decode cX7_readMachine 154 = .ok (.iconst (-1), 1) := by decide +kernel
theorem dX7_readMachine_155 : decode cX7_readMachine 155 = .ok (.iastore, 1) := by decide +kernel
theorem dX7_readMachine_156 : decode cX7_readMachine 156 = .ok (.aload_n 0, 1) := by decide +kernel
theorem dX7_readMachine_157 : decode cX7_readMachine 157 = .ok (.getfield 20, 3) := by decide +kernel
theorem dX7_readMachine_160 : decode cX7_readMachine 160 = .ok (.iconst 3, 1) := by decide +kernel
theorem dX7_readMachine_161 : decode cX7_readMachine 161 = .ok (.iaload, 1) := by decide +kernel
theorem dX7_readMachine_162 : decode cX7_readMachine 162 = .ok (.iconst (-1), 1) := by decide +kernel
theorem dX7_readMachine_163 : decode cX7_readMachine 163 = .ok (.if_icmp .ne 9, 3) := by decide +kernel
theorem dX7_readMachine_166 : decode cX7_readMachine 166 = .ok (.aload_n 0, 1) := by decide +kernel
theorem dX7_readMachine_167 : decode cX7_readMachine 167 = .ok (.iconst 1, 1) := by decide +kernel
theorem dX7_readMachine_168 : decode cX7_readMachine 168 = .ok (.invokevirtual 117, 3) := by decide +kernel
theorem dX7_readMachine_171 : decode cX7_readMachine 171 = .ok (.ireturn, 1) := by decide +kernel
theorem dX7_readMachine_172 : decode cX7_readMachine 172 = .ok (.aload_n 0, 1) := by decide +kernel
theorem dX7_readMachine_173 : decode cX7_readMachine 173 = .ok (.invokevirtual 124, 3) := by decide +kernel
theorem dX7_readMachine_176 : decode cX7_readMachine 176 = .ok (.aload_n 0, 1) := by decide +kernel
theorem dX7_readMachine_177 : decode cX7_readMachine 177 = .ok (.getfield 20, 3) := by decide +kernel
theorem dX7_readMachine_180 : decode cX7_readMachine 180 = .ok (.iconst 4, 1) := by decide +kernel
theorem dX7_readMachine_181 : decode cX7_readMachine 181 = .ok (.aload_n 0, 1) := by decide +kernel
theorem dX7_readMachine_182 : decode cX7_readMachine 182 = .ok (.ldc 160, 2) := by decide +kernel
theorem dX7_readMachine_184 : decode cX7_readMachine 184 = .ok (.iconst 1, 1) := by decide +kernel
theorem dX7_readMachine_185 : decode cX7_readMachine 185 = .ok (.bipush 9, 2) := by decide +kernel
theorem dX7_readMachine_187 : decode cX7_readMachine 187 = .ok (.invokevirtual 146, 3) := by decide +kernel
theorem dX7_readMachine_190 : decode cX7_readMachine 190 = .ok (.iastore, 1) := by decide +kernel
theorem dX7_readMachine_191 : decode cX7_readMachine 191 = .ok (.aload_n 0, 1) := by decide +kernel
theorem dX7_readMachine_192 : decode cX7_readMachine 192 = .ok (.aload_n 0, 1) := by decide +kernel
theorem dX7_readMachine_193 : decode cX7_readMachine 193 = .ok (.getfield 20, 3) := by decide +kernel
theorem dX7_readMachine_196 : decode cX7_readMachine 196 = .ok (.iconst 4, 1) := by decide +kernel
theorem dX7_readMachine_197 : decode cX7_readMachine 197 = .ok (.iaload, 1) := by decide +kernel
theorem dX7_readMachine_198 : decode cX7_readMachine 198 = .ok (.iconst (-1), 1) := by decide +kernel
theorem dX7_readMachine_199 : decode cX7_readMachine 199 = .ok (.if_icmp .eq 7, 3) := by decide +kernel
theorem dX7_readMachine_202 : decode cX7_readMachine 202 = .ok (.iconst 1, 1) := by decide +kernel
theorem dX7_readMachine_203 : decode cX7_readMachine 203 = .ok (.goto 4, 3) := by decide +kernel
theorem dX7_readMachine_206 : decode cX7_readMachine 206 = .ok (.iconst 0, 1) := by decide +kernel
theorem dX7_readMachine_207 : decode cX7_readMachine 207 = .ok (.putfield 134, 3) := by decide +kernel
theorem dX7_readMachine_210 : decode cX7_readMachine 210 = .ok (.aload_n 0, 1) := by decide +kernel
theorem dX7_readMachine_211 : decode cX7_readMachine 211 = .ok (.getfield 20, 3) := by decide +kernel
theorem dX7_readMachine_214 : decode cX7_readMachine 214 = .ok (.iconst 4, 1) := by decide +kernel
theorem dX7_readMachine_215 : decode cX7_readMachine 215 = .ok (.iaload, 1) := by decide +kernel
theorem dX7_readMachine_216 : decode cX7_readMachine 216 = .ok (.ireturn, 1) := by decide +kernel
theorem dX7_addresses_0 : decode cX7_addresses 0 = .ok (.bipush 16, 2) := by decide +kernel
theorem dX7_addresses_2 : decode cX7_addresses 2 = .ok (.iload_n 1, 1) := by decide +kernel
theorem dX7_addresses_3 : decode cX7_addresses 3 = .ok (.imul, 1) := by decide +kernel
theorem dX7_addresses_4 : decode cX7_addresses 4 = .ok (.ireturn, 1) := by decide +kernel
theorem dX7_readToldWord_0 : decode cX7_readToldWord 0 = .ok (.aload_n 0, 1) := by decide +kernel
theorem dX7_readToldWord_1 : decode cX7_readToldWord 1 = .ok (.getfield 162, 3) := by decide +kernel
theorem dX7_readToldWord_4 : decode cX7_readToldWord 4 = .ok (.bipush 12, 2) := by decide +kernel
theorem dX7_readToldWord_6 : decode cX7_readToldWord 6 = .ok (.if_icmp .ne 9, 3) := by decide +kernel
theorem dX7_readToldWord_9 : decode cX7_readToldWord 9 = .ok (.aload_n 0, 1) := by decide +kernel
theorem dX7_readToldWord_10 : decode cX7_readToldWord 10 = .ok (.iconst 4, 1) := by decide +kernel
theorem dX7_readToldWord_11 : decode cX7_readToldWord 11 = .ok (.invokevirtual 117, 3) := by decide +kernel
theorem dX7_readToldWord_14 : decode cX7_readToldWord 14 = .ok (.ireturn, 1) := by decide +kernel
theorem dX7_readToldWord_15 : decode cX7_readToldWord 15 = .ok (.aload_n 0, 1) := by decide +kernel
theorem dX7_readToldWord_16 : decode cX7_readToldWord 16 = .ok (.getfield 134, 3) := by decide +kernel
theorem dX7_readToldWord_19 : decode cX7_readToldWord 19 = .ok (.ifCond .ne 9, 3) := by decide +kernel
theorem dX7_readToldWord_22 : decode cX7_readToldWord 22 = .ok (.aload_n 0, 1) := by decide +kernel
theorem dX7_readToldWord_23 : decode cX7_readToldWord 23 = .ok (.iconst 5, 1) := by decide +kernel
theorem dX7_readToldWord_24 : decode cX7_readToldWord 24 = .ok (.invokevirtual 117, 3) := by decide +kernel
theorem dX7_readToldWord_27 : decode cX7_readToldWord 27 = .ok (.ireturn, 1) := by decide +kernel
theorem dX7_readToldWord_28 : decode cX7_readToldWord 28 = .ok (.aload_n 0, 1) := by decide +kernel
theorem dX7_readToldWord_29 : decode cX7_readToldWord 29 = .ok (.invokevirtual 124, 3) := by decide +kernel
theorem dX7_readToldWord_32 : decode cX7_readToldWord 32 = .ok (.aload_n 0, 1) := by decide +kernel
theorem dX7_readToldWord_33 : decode cX7_readToldWord 33 = .ok (.iconst 0, 1) := by decide +kernel
theorem dX7_readToldWord_34 : decode cX7_readToldWord 34 = .ok (.aload_n 0, 1) := by decide +kernel
theorem dX7_readToldWord_35 : decode cX7_readToldWord 35 = .ok (.aload_n 0, 1) := by decide +kernel
theorem dX7_readToldWord_36 : decode cX7_readToldWord 36 = .ok (.getfield 20, 3) := by decide +kernel
theorem dX7_readToldWord_39 : decode cX7_readToldWord 39 = .ok (.iconst 2, 1) := by decide +kernel
theorem dX7_readToldWord_40 : decode cX7_readToldWord 40 = .ok (.iaload, 1) := by decide +kernel
theorem dX7_readToldWord_41 : decode cX7_readToldWord 41 = .ok (.invokevirtual 165, 3) := by decide +kernel
theorem dX7_readToldWord_44 : decode cX7_readToldWord 44 = .ok (.iconst 1, 1) := by decide +kernel
theorem dX7_readToldWord_45 : decode cX7_readToldWord 45 = .ok (.isub, 1) := by decide +kernel
theorem dX7_readToldWord_46 : decode cX7_readToldWord 46 = .ok (.invokevirtual 120, 3) := by decide +kernel
theorem dX7_readToldWord_49 : decode cX7_readToldWord 49 = .ok (.istore_n 1, 1) := by decide +kernel
theorem dX7_readToldWord_50 : decode cX7_readToldWord 50 = .ok (.iload_n 1, 1) := by decide +kernel
theorem dX7_readToldWord_51 : decode cX7_readToldWord 51 = .ok (.iconst (-1), 1) := by decide +kernel
theorem dX7_readToldWord_52 : decode cX7_readToldWord 52 = .ok (.if_icmp .ne 5, 3) := by decide +kernel
theorem dX7_readToldWord_55 : decode cX7_readToldWord 55 = .ok (.iconst (-1), 1) := by decide +kernel
theorem dX7_readToldWord_56 : decode cX7_readToldWord 56 = .ok (.ireturn, 1) := by decide +kernel
theorem dX7_readToldWord_57 : decode cX7_readToldWord 57 = .ok (.aload_n 0, 1) := by decide +kernel
theorem dX7_readToldWord_58 : decode cX7_readToldWord 58 = .ok (.getfield 26, 3) := by decide +kernel
theorem dX7_readToldWord_61 : decode cX7_readToldWord 61 = .ok (.iload_n 1, 1) := by decide +kernel
theorem dX7_readToldWord_62 : decode cX7_readToldWord 62 = .ok (.iaload, 1) := by decide +kernel
theorem dX7_readToldWord_63 : decode cX7_readToldWord 63 = .ok (.iconst (-1), 1) := by decide +kernel
theorem dX7_readToldWord_64 : decode cX7_readToldWord 64 = .ok (.if_icmp .eq 9, 3) := by decide +kernel
theorem dX7_readToldWord_67 : decode cX7_readToldWord 67 = .ok (.aload_n 0, 1) := by decide +kernel
theorem dX7_readToldWord_68 : decode cX7_readToldWord 68 = .ok (.iconst 3, 1) := by decide +kernel
theorem dX7_readToldWord_69 : decode cX7_readToldWord 69 = .ok (.invokevirtual 117, 3) := by decide +kernel
theorem dX7_readToldWord_72 : decode cX7_readToldWord 72 = .ok (.ireturn, 1) := by decide +kernel
theorem dX7_readToldWord_73 : decode cX7_readToldWord 73 = .ok (.aload_n 0, 1) := by decide +kernel
theorem dX7_readToldWord_74 : decode cX7_readToldWord 74 = .ok (.invokevirtual 124, 3) := by decide +kernel
theorem dX7_readToldWord_77 : decode cX7_readToldWord 77 = .ok (.aload_n 0, 1) := by decide +kernel
theorem dX7_readToldWord_78 : decode cX7_readToldWord 78 = .ok (.iconst 0, 1) := by decide +kernel
theorem dX7_readToldWord_79 : decode cX7_readToldWord 79 = .ok (.sipush 999, 3) := by decide +kernel
theorem dX7_readToldWord_82 : decode cX7_readToldWord 82 = .ok (.invokevirtual 131, 3) := by decide +kernel
theorem dX7_readToldWord_85 : decode cX7_readToldWord 85 = .ok (.istore_n 2, 1) := by decide +kernel
theorem dX7_readToldWord_86 : decode cX7_readToldWord 86 = .ok (.iload_n 2, 1) := by decide +kernel
theorem dX7_readToldWord_87 : decode cX7_readToldWord 87 = .ok (.iconst (-1), 1) := by decide +kernel
theorem dX7_readToldWord_88 : decode cX7_readToldWord 88 = .ok (.if_icmp .ne 5, 3) := by decide +kernel
theorem dX7_readToldWord_91 : decode cX7_readToldWord 91 = .ok (.iconst (-1), 1) := by decide +kernel
theorem dX7_readToldWord_92 : decode cX7_readToldWord 92 = .ok (.ireturn, 1) := by decide +kernel
theorem dX7_readToldWord_93 : decode cX7_readToldWord 93 = .ok (.aload_n 0, 1) := by decide +kernel
theorem dX7_readToldWord_94 : decode cX7_readToldWord 94 = .ok (.getfield 26, 3) := by decide +kernel
theorem dX7_readToldWord_97 : decode cX7_readToldWord 97 = .ok (.iload_n 1, 1) := by decide +kernel
theorem dX7_readToldWord_98 : decode cX7_readToldWord 98 = .ok (.iload_n 2, 1) := by decide +kernel
theorem dX7_readToldWord_99 : decode cX7_readToldWord 99 = .ok (.iastore, 1) := by decide +kernel
theorem dX7_readToldWord_100 : decode cX7_readToldWord 100 = .ok (.aload_n 0, 1) := by decide +kernel
theorem dX7_readToldWord_101 : decode cX7_readToldWord 101 = .ok (.dup, 1) := by decide +kernel
theorem dX7_readToldWord_102 : decode cX7_readToldWord 102 = .ok (.getfield 162, 3) := by decide +kernel
theorem dX7_readToldWord_105 : decode cX7_readToldWord 105 = .ok (.iconst 1, 1) := by decide +kernel
theorem dX7_readToldWord_106 : decode cX7_readToldWord 106 = .ok (.iadd, 1) := by decide +kernel
theorem dX7_readToldWord_107 : decode cX7_readToldWord 107 = .ok (.putfield 162, 3) := by decide +kernel
theorem dX7_readToldWord_110 : decode cX7_readToldWord 110 = .ok (.iconst 0, 1) := by decide +kernel
theorem dX7_readToldWord_111 : decode cX7_readToldWord 111 = .ok (.ireturn, 1) := by decide +kernel
theorem dX7_readCore_0 : decode cX7_readCore 0 = .ok (.aload_n 0, 1) := by decide +kernel
theorem dX7_readCore_1 : decode cX7_readCore 1 = .ok (.getfield 20, 3) := by decide +kernel
theorem dX7_readCore_4 : decode cX7_readCore 4 = .ok (.iconst 5, 1) := by decide +kernel
theorem dX7_readCore_5 : decode cX7_readCore 5 = .ok (.iaload, 1) := by decide +kernel
theorem dX7_readCore_6 : decode cX7_readCore 6 = .ok (.iconst 4, 1) := by decide +kernel
theorem dX7_readCore_7 : decode cX7_readCore 7 = .ok (.if_icmp .ne 9, 3) := by decide +kernel
theorem dX7_readCore_10 : decode cX7_readCore 10 = .ok (.aload_n 0, 1) := by decide +kernel
theorem dX7_readCore_11 : decode cX7_readCore 11 = .ok (.iconst 4, 1) := by decide +kernel
theorem dX7_readCore_12 : decode cX7_readCore 12 = .ok (.invokevirtual 117, 3) := by decide +kernel
theorem dX7_readCore_15 : decode cX7_readCore 15 = .ok (.ireturn, 1) := by decide +kernel
theorem dX7_readCore_16 : decode cX7_readCore 16 = .ok (.aload_n 0, 1) := by decide +kernel
theorem dX7_readCore_17 : decode cX7_readCore 17 = .ok (.getfield 134, 3) := by decide +kernel
theorem dX7_readCore_20 : decode cX7_readCore 20 = .ok (.ifCond .ne 9, 3) := by decide +kernel
theorem dX7_readCore_23 : decode cX7_readCore 23 = .ok (.aload_n 0, 1) := by decide +kernel
theorem dX7_readCore_24 : decode cX7_readCore 24 = .ok (.iconst 5, 1) := by decide +kernel
theorem dX7_readCore_25 : decode cX7_readCore 25 = .ok (.invokevirtual 117, 3) := by decide +kernel
theorem dX7_readCore_28 : decode cX7_readCore 28 = .ok (.ireturn, 1) := by decide +kernel
theorem dX7_readCore_29 : decode cX7_readCore 29 = .ok (.aload_n 0, 1) := by decide +kernel
theorem dX7_readCore_30 : decode cX7_readCore 30 = .ok (.getfield 168, 3) := by decide +kernel
theorem dX7_readCore_33 : decode cX7_readCore 33 = .ok (.ifCond .eq 10, 3) := by decide +kernel
theorem dX7_readCore_36 : decode cX7_readCore 36 = .ok (.aload_n 0, 1) := by decide +kernel
theorem dX7_readCore_37 : decode cX7_readCore 37 = .ok (.bipush 6, 2) := by decide +kernel
theorem dX7_readCore_39 : decode cX7_readCore 39 = .ok (.invokevirtual 117, 3) := by decide +kernel
theorem dX7_readCore_42 : decode cX7_readCore 42 = .ok (.ireturn, 1) := by decide +kernel
theorem dX7_readCore_43 : decode cX7_readCore 43 = .ok (.aload_n 0, 1) := by decide +kernel
theorem dX7_readCore_44 : decode cX7_readCore 44 = .ok (.getfield 32, 3) := by decide +kernel
theorem dX7_readCore_47 : decode cX7_readCore 47 = .ok (.aload_n 0, 1) := by decide +kernel
theorem dX7_readCore_48 : decode cX7_readCore 48 = .ok (.getfield 20, 3) := by decide +kernel
theorem dX7_readCore_51 : decode cX7_readCore 51 = .ok (.iconst 5, 1) := by decide +kernel
theorem dX7_readCore_52 : decode cX7_readCore 52 = .ok (.iaload, 1) := by decide +kernel
theorem dX7_readCore_53 : decode cX7_readCore 53 = .ok (.iconst 0, 1) := by decide +kernel
theorem dX7_readCore_54 : decode cX7_readCore 54 = .ok (.iastore, 1) := by decide +kernel
theorem dX7_readCore_55 : decode cX7_readCore 55 = .ok (.aload_n 0, 1) := by decide +kernel
theorem dX7_readCore_56 : decode cX7_readCore 56 = .ok (.getfield 20, 3) := by decide +kernel
theorem dX7_readCore_59 : decode cX7_readCore 59 = .ok (.iconst 5, 1) := by decide +kernel
theorem dX7_readCore_60 : decode cX7_readCore 60 = .ok (.dup2, 1) := by decide +kernel
theorem dX7_readCore_61 : decode cX7_readCore 61 = .ok (.iaload, 1) := by decide +kernel
theorem dX7_readCore_62 : decode cX7_readCore 62 = .ok (.iconst 1, 1) := by decide +kernel
theorem dX7_readCore_63 : decode cX7_readCore 63 = .ok (.iadd, 1) := by decide +kernel
theorem dX7_readCore_64 : decode cX7_readCore 64 = .ok (.iastore, 1) := by decide +kernel
theorem dX7_readCore_65 : decode cX7_readCore 65 = .ok (.aload_n 0, 1) := by decide +kernel
theorem dX7_readCore_66 : decode cX7_readCore 66 = .ok (.invokevirtual 124, 3) := by decide +kernel
theorem dX7_readCore_69 : decode cX7_readCore 69 = .ok (.iconst 0, 1) := by decide +kernel
theorem dX7_readCore_70 : decode cX7_readCore 70 = .ok (.ireturn, 1) := by decide +kernel
theorem dX7_sortHere_0 : decode cX7_sortHere 0 = .ok (.aload_n 0, 1) := by decide +kernel
theorem dX7_sortHere_1 : decode cX7_sortHere 1 = .ok (.ldc 171, 2) := by decide +kernel
theorem dX7_sortHere_3 : decode cX7_sortHere 3 = .ok (.invokevirtual 127, 3) := by decide +kernel
theorem dX7_sortHere_6 : decode cX7_sortHere 6 = .ok (.ifCond .eq 5, 3) := by decide +kernel
theorem dX7_sortHere_9 : decode cX7_sortHere 9 = .ok (.iconst 0, 1) := by decide +kernel
theorem dX7_sortHere_10 : decode cX7_sortHere 10 = .ok (.ireturn, 1) := by decide +kernel
theorem dX7_sortHere_11 : decode cX7_sortHere 11 = .ok (.aload_n 0, 1) := by decide +kernel
theorem dX7_sortHere_12 : decode cX7_sortHere 12 = .ok (.ldc 173, 2) := by decide +kernel
theorem dX7_sortHere_14 : decode cX7_sortHere 14 = .ok (.invokevirtual 127, 3) := by decide +kernel
theorem dX7_sortHere_17 : decode cX7_sortHere 17 = .ok (.ifCond .eq 5, 3) := by decide +kernel
theorem dX7_sortHere_20 : decode cX7_sortHere 20 = .ok (.iconst 1, 1) := by decide +kernel
theorem dX7_sortHere_21 : decode cX7_sortHere 21 = .ok (.ireturn, 1) := by decide +kernel
theorem dX7_sortHere_22 : decode cX7_sortHere 22 = .ok (.aload_n 0, 1) := by decide +kernel
theorem dX7_sortHere_23 : decode cX7_sortHere 23 = .ok (.ldc 175, 2) := by decide +kernel
theorem dX7_sortHere_25 : decode cX7_sortHere 25 = .ok (.invokevirtual 127, 3) := by decide +kernel
theorem dX7_sortHere_28 : decode cX7_sortHere 28 = .ok (.ifCond .eq 5, 3) := by decide +kernel
theorem dX7_sortHere_31 : decode cX7_sortHere 31 = .ok (.iconst 2, 1) := by decide +kernel
theorem dX7_sortHere_32 : decode cX7_sortHere 32 = .ok (.ireturn, 1) := by decide +kernel
theorem dX7_sortHere_33 : decode cX7_sortHere 33 = .ok (.aload_n 0, 1) := by decide +kernel
theorem dX7_sortHere_34 : decode cX7_sortHere 34 = .ok (.ldc 177, 2) := by decide +kernel
theorem dX7_sortHere_36 : decode cX7_sortHere 36 = .ok (.invokevirtual 127, 3) := by decide +kernel
theorem dX7_sortHere_39 : decode cX7_sortHere 39 = .ok (.ifCond .eq 5, 3) := by decide +kernel
theorem dX7_sortHere_42 : decode cX7_sortHere 42 = .ok (.iconst 3, 1) := by decide +kernel
theorem dX7_sortHere_43 : decode cX7_sortHere 43 = .ok (.ireturn, 1) := by decide +kernel
theorem dX7_sortHere_44 : decode cX7_sortHere 44 = .ok (.aload_n 0, 1) := by decide +kernel
theorem dX7_sortHere_45 : decode cX7_sortHere 45 = .ok (.ldc 179, 2) := by decide +kernel
theorem dX7_sortHere_47 : decode cX7_sortHere 47 = .ok (.invokevirtual 127, 3) := by decide +kernel
theorem dX7_sortHere_50 : decode cX7_sortHere 50 = .ok (.ifCond .eq 5, 3) := by decide +kernel
theorem dX7_sortHere_53 : decode cX7_sortHere 53 = .ok (.iconst 4, 1) := by decide +kernel
theorem dX7_sortHere_54 : decode cX7_sortHere 54 = .ok (.ireturn, 1) := by decide +kernel
theorem dX7_sortHere_55 : decode cX7_sortHere 55 = .ok (.aload_n 0, 1) := by decide +kernel
theorem dX7_sortHere_56 : decode cX7_sortHere 56 = .ok (.ldc 181, 2) := by decide +kernel
theorem dX7_sortHere_58 : decode cX7_sortHere 58 = .ok (.invokevirtual 127, 3) := by decide +kernel
theorem dX7_sortHere_61 : decode cX7_sortHere 61 = .ok (.ifCond .eq 7, 3) := by decide +kernel
theorem dX7_sortHere_64 : decode cX7_sortHere 64 = .ok (.iconst 5, 1) := by decide +kernel
theorem dX7_sortHere_65 : decode cX7_sortHere 65 = .ok (.goto 18, 3) := by decide +kernel
theorem dX7_sortHere_68 : decode cX7_sortHere 68 = .ok (.aload_n 0, 1) := by decide +kernel
theorem dX7_sortHere_69 : decode cX7_sortHere 69 = .ok (.ldc 183, 2) := by decide +kernel
theorem dX7_sortHere_71 : decode cX7_sortHere 71 = .ok (.invokevirtual 127, 3) := by decide +kernel
theorem dX7_sortHere_74 : decode cX7_sortHere 74 = .ok (.ifCond .eq 8, 3) := by decide +kernel
theorem dX7_sortHere_77 : decode cX7_sortHere 77 = .ok (.bipush 6, 2) := by decide +kernel
theorem dX7_sortHere_79 : decode cX7_sortHere 79 = .ok (.goto 4, 3) := by decide +kernel
theorem dX7_sortHere_82 : decode cX7_sortHere 82 = .ok (.iconst (-1), 1) := by decide +kernel
theorem dX7_sortHere_83 : decode cX7_sortHere 83 = .ok (.ireturn, 1) := by decide +kernel
theorem dX7_readDeed_0 : decode cX7_readDeed 0 = .ok (.aload_n 0, 1) := by decide +kernel
theorem dX7_readDeed_1 : decode cX7_readDeed 1 = .ok (.getfield 20, 3) := by decide +kernel
theorem dX7_readDeed_4 : decode cX7_readDeed 4 = .ok (.iconst 5, 1) := by decide +kernel
theorem dX7_readDeed_5 : decode cX7_readDeed 5 = .ok (.iaload, 1) := by decide +kernel
theorem dX7_readDeed_6 : decode cX7_readDeed 6 = .ok (.iconst 1, 1) := by decide +kernel
theorem dX7_readDeed_7 : decode cX7_readDeed 7 = .ok (.isub, 1) := by decide +kernel
theorem dX7_readDeed_8 : decode cX7_readDeed 8 = .ok (.istore_n 2, 1) := by decide +kernel
theorem dX7_readDeed_9 : decode cX7_readDeed 9 = .ok (.iload_n 2, 1) := by decide +kernel
theorem dX7_readDeed_10 : decode cX7_readDeed 10 = .ok (.ifCond .lt 20, 3) := by decide +kernel
theorem dX7_readDeed_13 : decode cX7_readDeed 13 = .ok (.aload_n 0, 1) := by decide +kernel
theorem dX7_readDeed_14 : decode cX7_readDeed 14 = .ok (.getfield 32, 3) := by decide +kernel
theorem dX7_readDeed_17 : decode cX7_readDeed 17 = .ok (.iload_n 2, 1) := by decide +kernel
theorem dX7_readDeed_18 : decode cX7_readDeed 18 = .ok (.iaload, 1) := by decide +kernel
theorem dX7_readDeed_19 : decode cX7_readDeed 19 = .ok (.bipush 24, 2) := by decide +kernel
theorem dX7_readDeed_21 : decode cX7_readDeed 21 = .ok (.if_icmp .ne 9, 3) := by decide +kernel
theorem dX7_readDeed_24 : decode cX7_readDeed 24 = .ok (.aload_n 0, 1) := by decide +kernel
theorem dX7_readDeed_25 : decode cX7_readDeed 25 = .ok (.iconst 4, 1) := by decide +kernel
theorem dX7_readDeed_26 : decode cX7_readDeed 26 = .ok (.invokevirtual 117, 3) := by decide +kernel
theorem dX7_readDeed_29 : decode cX7_readDeed 29 = .ok (.ireturn, 1) := by decide +kernel
theorem dX7_readDeed_30 : decode cX7_readDeed 30 = .ok (.aload_n 0, 1) := by decide +kernel
theorem dX7_readDeed_31 : decode cX7_readDeed 31 = .ok (.getfield 134, 3) := by decide +kernel
theorem dX7_readDeed_34 : decode cX7_readDeed 34 = .ok (.ifCond .eq 7, 3) := by decide +kernel
theorem dX7_readDeed_37 : decode cX7_readDeed 37 = .ok (.iload_n 2, 1) := by decide +kernel
theorem dX7_readDeed_38 : decode cX7_readDeed 38 = .ok (.ifCond .ge 9, 3) := by decide +kernel
theorem dX7_readDeed_41 : decode cX7_readDeed 41 = .ok (.aload_n 0, 1) := by decide +kernel
theorem dX7_readDeed_42 : decode cX7_readDeed 42 = .ok (.iconst 5, 1) := by decide +kernel
theorem dX7_readDeed_43 : decode cX7_readDeed 43 = .ok (.invokevirtual 117, 3) := by decide +kernel
theorem dX7_readDeed_46 : decode cX7_readDeed 46 = .ok (.ireturn, 1) := by decide +kernel
theorem dX7_readDeed_47 : decode cX7_readDeed 47 = .ok (.iload_n 1, 1) := by decide +kernel
theorem dX7_readDeed_48 : decode cX7_readDeed 48 = .ok (.ifCond .ne 10, 3) := by decide +kernel
theorem dX7_readDeed_51 : decode cX7_readDeed 51 = .ok (.aload_n 0, 1) := by decide +kernel
theorem dX7_readDeed_52 : decode cX7_readDeed 52 = .ok (.getfield 168, 3) := by decide +kernel
theorem dX7_readDeed_55 : decode cX7_readDeed 55 = .ok (.ifCond .ne 25, 3) := by decide +kernel
theorem dX7_readDeed_58 : decode cX7_readDeed 58 = .ok (.iload_n 1, 1) := by decide +kernel
theorem dX7_readDeed_59 : decode cX7_readDeed 59 = .ok (.iconst 1, 1) := by decide +kernel
theorem dX7_readDeed_60 : decode cX7_readDeed 60 = .ok (.if_icmp .eq 13, 3) := by decide +kernel
theorem dX7_readDeed_63 : decode cX7_readDeed 63 = .ok (.iload_n 1, 1) := by decide +kernel
theorem dX7_readDeed_64 : decode cX7_readDeed 64 = .ok (.iconst 3, 1) := by decide +kernel
theorem dX7_readDeed_65 : decode cX7_readDeed 65 = .ok (.if_icmp .eq 8, 3) := by decide +kernel
theorem dX7_readDeed_68 : decode cX7_readDeed 68 = .ok (.iload_n 1, 1) := by decide +kernel
theorem dX7_readDeed_69 : decode cX7_readDeed 69 = .ok (.iconst 4, 1) := by decide +kernel
theorem dX7_readDeed_70 : decode cX7_readDeed 70 = .ok (.if_icmp .ne 17, 3) := by decide +kernel
theorem dX7_readDeed_73 : decode cX7_readDeed 73 = .ok (.aload_n 0, 1) := by decide +kernel
theorem dX7_readDeed_74 : decode cX7_readDeed 74 = .ok (.getfield 168, 3) := by decide +kernel
theorem dX7_readDeed_77 : decode cX7_readDeed 77 = .ok (.ifCond .ne 10, 3) := by decide +kernel
theorem dX7_readDeed_80 : decode cX7_readDeed 80 = .ok (.aload_n 0, 1) := by decide +kernel
theorem dX7_readDeed_81 : decode cX7_readDeed 81 = .ok (.bipush 6, 2) := by decide +kernel
theorem dX7_readDeed_83 : decode cX7_readDeed 83 = .ok (.invokevirtual 117, 3) := by decide +kernel
theorem dX7_readDeed_86 : decode cX7_readDeed 86 = .ok (.ireturn, 1) := by decide +kernel
theorem dX7_readDeed_87 : decode cX7_readDeed 87 = .ok (.aload_n 0, 1) := by decide +kernel
theorem dX7_readDeed_88 : decode cX7_readDeed 88 = .ok (.invokevirtual 124, 3) := by decide +kernel
theorem dX7_readDeed_91 : decode cX7_readDeed 91 = .ok (.bipush 24, 2) := by decide +kernel
theorem dX7_readDeed_93 : decode cX7_readDeed 93 = .ok (.iload_n 2, 1) := by decide +kernel
theorem dX7_readDeed_94 : decode cX7_readDeed 94 = .ok (.imul, 1) := by decide +kernel
theorem dX7_readDeed_95 : decode cX7_readDeed 95 = .ok (.aload_n 0, 1) := by decide +kernel
theorem dX7_readDeed_96 : decode cX7_readDeed 96 = .ok (.getfield 32, 3) := by decide +kernel
theorem dX7_readDeed_99 : decode cX7_readDeed 99 = .ok (.iload_n 2, 1) := by decide +kernel
theorem dX7_readDeed_100 : decode cX7_readDeed 100 = .ok (.iaload, 1) := by decide +kernel
theorem dX7_readDeed_101 : decode cX7_readDeed 101 = .ok (.iadd, 1) := by decide +kernel
theorem dX7_readDeed_102 : decode cX7_readDeed 102 = .ok (.istore_n 3, 1) := by decide +kernel
theorem dX7_readDeed_103 : decode cX7_readDeed 103 = .ok (.aload_n 0, 1) := by decide +kernel
theorem dX7_readDeed_104 : decode cX7_readDeed 104 = .ok (.getfield 38, 3) := by decide +kernel
theorem dX7_readDeed_107 : decode cX7_readDeed 107 = .ok (.iload_n 3, 1) := by decide +kernel
theorem dX7_readDeed_108 : decode cX7_readDeed 108 = .ok (.iload_n 1, 1) := by decide +kernel
theorem dX7_readDeed_109 : decode cX7_readDeed 109 = .ok (.iastore, 1) := by decide +kernel
theorem dX7_readDeed_110 : decode cX7_readDeed 110 = .ok (.aload_n 0, 1) := by decide +kernel
theorem dX7_readDeed_111 : decode cX7_readDeed 111 = .ok (.getfield 44, 3) := by decide +kernel
theorem dX7_readDeed_114 : decode cX7_readDeed 114 = .ok (.iload_n 3, 1) := by decide +kernel
theorem dX7_readDeed_115 : decode cX7_readDeed 115 = .ok (.bipush (-2), 2) := by decide +kernel
theorem dX7_readDeed_117 : decode cX7_readDeed 117 = .ok (.iastore, 1) := by decide +kernel
theorem dX7_readDeed_118 : decode cX7_readDeed 118 = .ok (.aload_n 0, 1) := by decide +kernel
theorem dX7_readDeed_119 : decode cX7_readDeed 119 = .ok (.getfield 50, 3) := by decide +kernel
theorem dX7_readDeed_122 : decode cX7_readDeed 122 = .ok (.iload_n 3, 1) := by decide +kernel
theorem dX7_readDeed_123 : decode cX7_readDeed 123 = .ok (.iconst 0, 1) := by decide +kernel
theorem dX7_readDeed_124 : decode cX7_readDeed 124 = .ok (.iastore, 1) := by decide +kernel
theorem dX7_readDeed_125 : decode cX7_readDeed 125 = .ok (.iload_n 1, 1) := by decide +kernel
theorem dX7_readDeed_126 : decode cX7_readDeed 126 = .ok (.iconst 3, 1) := by decide +kernel
theorem dX7_readDeed_127 : decode cX7_readDeed 127 = .ok (.if_icmp .lt 74, 3) := by decide +kernel
theorem dX7_readDeed_130 : decode cX7_readDeed 130 = .ok (.aload_n 0, 1) := by decide +kernel
theorem dX7_readDeed_131 : decode cX7_readDeed 131 = .ok (.getfield 44, 3) := by decide +kernel
theorem dX7_readDeed_134 : decode cX7_readDeed 134 = .ok (.iload_n 3, 1) := by decide +kernel
theorem dX7_readDeed_135 : decode cX7_readDeed 135 = .ok (.aload_n 0, 1) := by decide +kernel
theorem dX7_readDeed_136 : decode cX7_readDeed 136 = .ok (.iconst 0, 1) := by decide +kernel
theorem dX7_readDeed_137 : decode cX7_readDeed 137 = .ok (.iload_n 1, 1) := by decide +kernel
theorem dX7_readDeed_138 : decode cX7_readDeed 138 = .ok (.iconst 5, 1) := by decide +kernel
theorem dX7_readDeed_139 : decode cX7_readDeed 139 = .ok (.if_icmp .ge 18, 3) := by decide +kernel
theorem dX7_readDeed_142 : decode cX7_readDeed 142 = .ok (.aload_n 0, 1) := by decide +kernel
theorem dX7_readDeed_143 : decode cX7_readDeed 143 = .ok (.aload_n 0, 1) := by decide +kernel
theorem dX7_readDeed_144 : decode cX7_readDeed 144 = .ok (.getfield 20, 3) := by decide +kernel
theorem dX7_readDeed_147 : decode cX7_readDeed 147 = .ok (.iconst 2, 1) := by decide +kernel
theorem dX7_readDeed_148 : decode cX7_readDeed 148 = .ok (.iaload, 1) := by decide +kernel
theorem dX7_readDeed_149 : decode cX7_readDeed 149 = .ok (.invokevirtual 165, 3) := by decide +kernel
theorem dX7_readDeed_152 : decode cX7_readDeed 152 = .ok (.iconst 1, 1) := by decide +kernel
theorem dX7_readDeed_153 : decode cX7_readDeed 153 = .ok (.isub, 1) := by decide +kernel
theorem dX7_readDeed_154 : decode cX7_readDeed 154 = .ok (.goto 6, 3) := by decide +kernel
theorem dX7_readDeed_157 : decode cX7_readDeed 157 = .ok (.sipush 999, 3) := by decide +kernel
theorem dX7_readDeed_160 : decode cX7_readDeed 160 = .ok (.invokevirtual 131, 3) := by decide +kernel
theorem dX7_readDeed_163 : decode cX7_readDeed 163 = .ok (.iastore, 1) := by decide +kernel
theorem dX7_readDeed_164 : decode cX7_readDeed 164 = .ok (.aload_n 0, 1) := by decide +kernel
theorem dX7_readDeed_165 : decode cX7_readDeed 165 = .ok (.getfield 44, 3) := by decide +kernel
theorem dX7_readDeed_168 : decode cX7_readDeed 168 = .ok (.iload_n 3, 1) := by decide +kernel
theorem dX7_readDeed_169 : decode cX7_readDeed 169 = .ok (.iaload, 1) := by decide +kernel
theorem dX7_readDeed_170 : decode cX7_readDeed 170 = .ok (.iconst (-1), 1) := by decide +kernel
theorem dX7_readDeed_171 : decode cX7_readDeed 171 = .ok (.if_icmp .ne 5, 3) := by decide +kernel
theorem dX7_readDeed_174 : decode cX7_readDeed 174 = .ok (.iconst (-1), 1) := by decide +kernel
theorem dX7_readDeed_175 : decode cX7_readDeed 175 = .ok (.ireturn, 1) := by decide +kernel
theorem dX7_readDeed_176 : decode cX7_readDeed 176 = .ok (.iload_n 1, 1) := by decide +kernel
theorem dX7_readDeed_177 : decode cX7_readDeed 177 = .ok (.iconst 5, 1) := by decide +kernel
theorem dX7_readDeed_178 : decode cX7_readDeed 178 = .ok (.if_icmp .ge 23, 3) := by decide +kernel
theorem dX7_readDeed_181 : decode cX7_readDeed 181 = .ok (.aload_n 0, 1) := by decide +kernel
theorem dX7_readDeed_182 : decode cX7_readDeed 182 = .ok (.ldc 185, 2) := by decide +kernel
theorem dX7_readDeed_184 : decode cX7_readDeed 184 = .ok (.invokevirtual 127, 3) := by decide +kernel
theorem dX7_readDeed_187 : decode cX7_readDeed 187 = .ok (.ifCond .eq 14, 3) := by decide +kernel
theorem dX7_readDeed_190 : decode cX7_readDeed 190 = .ok (.aload_n 0, 1) := by decide +kernel
theorem dX7_readDeed_191 : decode cX7_readDeed 191 = .ok (.getfield 50, 3) := by decide +kernel
theorem dX7_readDeed_194 : decode cX7_readDeed 194 = .ok (.iload_n 3, 1) := by decide +kernel
theorem dX7_readDeed_195 : decode cX7_readDeed 195 = .ok (.iconst 1, 1) := by decide +kernel
theorem dX7_readDeed_196 : decode cX7_readDeed 196 = .ok (.iastore, 1) := by decide +kernel
theorem dX7_readDeed_197 : decode cX7_readDeed 197 = .ok (.aload_n 0, 1) := by decide +kernel
theorem dX7_readDeed_198 : decode cX7_readDeed 198 = .ok (.invokevirtual 124, 3) := by decide +kernel
theorem dX7_readDeed_201 : decode cX7_readDeed 201 = .ok (.aload_n 0, 1) := by decide +kernel
theorem dX7_readDeed_202 : decode cX7_readDeed 202 = .ok (.iload_n 1, 1) := by decide +kernel
theorem dX7_readDeed_203 : decode cX7_readDeed 203 = .ok (.ifCond .eq 15, 3) := by decide +kernel
theorem dX7_readDeed_206 : decode cX7_readDeed 206 = .ok (.iload_n 1, 1) := by decide +kernel
theorem dX7_readDeed_207 : decode cX7_readDeed 207 = .ok (.iconst 1, 1) := by decide +kernel
theorem dX7_readDeed_208 : decode cX7_readDeed 208 = .ok (.if_icmp .eq 14, 3) := by decide +kernel
theorem dX7_readDeed_211 : decode cX7_readDeed 211 = .ok (.aload_n 0, 1) := by decide +kernel
theorem dX7_readDeed_212 : decode cX7_readDeed 212 = .ok (.getfield 168, 3) := by decide +kernel
theorem dX7_readDeed_215 : decode cX7_readDeed 215 = .ok (.ifCond .eq 7, 3) := by decide +kernel
theorem dX7_readDeed_218 : decode cX7_readDeed 218 = .ok (.iconst 1, 1) := by decide +kernel
theorem dX7_readDeed_219 : decode cX7_readDeed 219 = .ok (.goto 4, 3) := by decide +kernel
theorem dX7_readDeed_222 : decode cX7_readDeed 222 = .ok (.iconst 0, 1) := by decide +kernel
theorem dX7_readDeed_223 : decode cX7_readDeed 223 = .ok (.putfield 168, 3) := by decide +kernel
theorem dX7_readDeed_226 : decode cX7_readDeed 226 = .ok (.aload_n 0, 1) := by decide +kernel
theorem dX7_readDeed_227 : decode cX7_readDeed 227 = .ok (.getfield 32, 3) := by decide +kernel
theorem dX7_readDeed_230 : decode cX7_readDeed 230 = .ok (.iload_n 2, 1) := by decide +kernel
theorem dX7_readDeed_231 : decode cX7_readDeed 231 = .ok (.dup2, 1) := by decide +kernel
theorem dX7_readDeed_232 : decode cX7_readDeed 232 = .ok (.iaload, 1) := by decide +kernel
theorem dX7_readDeed_233 : decode cX7_readDeed 233 = .ok (.iconst 1, 1) := by decide +kernel
theorem dX7_readDeed_234 : decode cX7_readDeed 234 = .ok (.iadd, 1) := by decide +kernel
theorem dX7_readDeed_235 : decode cX7_readDeed 235 = .ok (.iastore, 1) := by decide +kernel
theorem dX7_readDeed_236 : decode cX7_readDeed 236 = .ok (.iconst 0, 1) := by decide +kernel
theorem dX7_readDeed_237 : decode cX7_readDeed 237 = .ok (.ireturn, 1) := by decide +kernel
theorem dX7_readLine_0 : decode cX7_readLine 0 = .ok (.aload_n 0, 1) := by decide +kernel
theorem dX7_readLine_1 : decode cX7_readLine 1 = .ok (.ldc 187, 2) := by decide +kernel
theorem dX7_readLine_3 : decode cX7_readLine 3 = .ok (.invokevirtual 127, 3) := by decide +kernel
theorem dX7_readLine_6 : decode cX7_readLine 6 = .ok (.ifCond .eq 8, 3) := by decide +kernel
theorem dX7_readLine_9 : decode cX7_readLine 9 = .ok (.aload_n 0, 1) := by decide +kernel
theorem dX7_readLine_10 : decode cX7_readLine 10 = .ok (.invokevirtual 189, 3) := by decide +kernel
theorem dX7_readLine_13 : decode cX7_readLine 13 = .ok (.ireturn, 1) := by decide +kernel
theorem dX7_readLine_14 : decode cX7_readLine 14 = .ok (.aload_n 0, 1) := by decide +kernel
theorem dX7_readLine_15 : decode cX7_readLine 15 = .ok (.ldc 192, 2) := by decide +kernel
theorem dX7_readLine_17 : decode cX7_readLine 17 = .ok (.invokevirtual 127, 3) := by decide +kernel
theorem dX7_readLine_20 : decode cX7_readLine 20 = .ok (.ifCond .eq 8, 3) := by decide +kernel
theorem dX7_readLine_23 : decode cX7_readLine 23 = .ok (.aload_n 0, 1) := by decide +kernel
theorem dX7_readLine_24 : decode cX7_readLine 24 = .ok (.invokevirtual 194, 3) := by decide +kernel
theorem dX7_readLine_27 : decode cX7_readLine 27 = .ok (.ireturn, 1) := by decide +kernel
theorem dX7_readLine_28 : decode cX7_readLine 28 = .ok (.aload_n 0, 1) := by decide +kernel
theorem dX7_readLine_29 : decode cX7_readLine 29 = .ok (.ldc 197, 2) := by decide +kernel
theorem dX7_readLine_31 : decode cX7_readLine 31 = .ok (.invokevirtual 127, 3) := by decide +kernel
theorem dX7_readLine_34 : decode cX7_readLine 34 = .ok (.ifCond .eq 8, 3) := by decide +kernel
theorem dX7_readLine_37 : decode cX7_readLine 37 = .ok (.aload_n 0, 1) := by decide +kernel
theorem dX7_readLine_38 : decode cX7_readLine 38 = .ok (.invokevirtual 199, 3) := by decide +kernel
theorem dX7_readLine_41 : decode cX7_readLine 41 = .ok (.ireturn, 1) := by decide +kernel
theorem dX7_readLine_42 : decode cX7_readLine 42 = .ok (.aload_n 0, 1) := by decide +kernel
theorem dX7_readLine_43 : decode cX7_readLine 43 = .ok (.invokevirtual 202, 3) := by decide +kernel
theorem dX7_readLine_46 : decode cX7_readLine 46 = .ok (.istore_n 1, 1) := by decide +kernel
theorem dX7_readLine_47 : decode cX7_readLine 47 = .ok (.iload_n 1, 1) := by decide +kernel
theorem dX7_readLine_48 : decode cX7_readLine 48 = .ok (.iconst (-1), 1) := by decide +kernel
theorem dX7_readLine_49 : decode cX7_readLine 49 = .ok (.if_icmp .ne 11, 3) := by decide +kernel
theorem dX7_readLine_52 : decode cX7_readLine 52 = .ok (.aload_n 0, 1) := by decide +kernel
theorem dX7_readLine_53 : decode cX7_readLine 53 = .ok (.iconst 1, 1) := by decide +kernel
theorem dX7_readLine_54 : decode cX7_readLine 54 = .ok (.invokevirtual 117, 3) := by decide +kernel
theorem dX7_readLine_57 : decode cX7_readLine 57 = .ok (.goto 8, 3) := by decide +kernel
theorem dX7_readLine_60 : decode cX7_readLine 60 = .ok (.aload_n 0, 1) := by decide +kernel
theorem dX7_readLine_61 : decode cX7_readLine 61 = .ok (.iload_n 1, 1) := by decide +kernel
theorem dX7_readLine_62 : decode cX7_readLine 62 = .ok (.invokevirtual 205, 3) := by decide +kernel
theorem dX7_readLine_65 : decode cX7_readLine 65 = .ok (.ireturn, 1) := by decide +kernel
theorem dX7_readText_0 : decode cX7_readText 0 = .ok (.aload_n 0, 1) := by decide +kernel
theorem dX7_readText_1 : decode cX7_readText 1 = .ok (.iload_n 1, 1) := by decide +kernel
theorem dX7_readText_2 : decode cX7_readText 2 = .ok (.putfield 78, 3) := by decide +kernel
theorem dX7_readText_5 : decode cX7_readText 5 = .ok (.aload_n 0, 1) := by decide +kernel
theorem dX7_readText_6 : decode cX7_readText 6 = .ok (.iconst 0, 1) := by decide +kernel
theorem dX7_readText_7 : decode cX7_readText 7 = .ok (.putfield 81, 3) := by decide +kernel
theorem dX7_readText_10 : decode cX7_readText 10 = .ok (.aload_n 0, 1) := by decide +kernel
theorem dX7_readText_11 : decode cX7_readText 11 = .ok (.iconst 0, 1) := by decide +kernel
theorem dX7_readText_12 : decode cX7_readText 12 = .ok (.putfield 134, 3) := by decide +kernel
theorem dX7_readText_15 : decode cX7_readText 15 = .ok (.aload_n 0, 1) := by decide +kernel
theorem dX7_readText_16 : decode cX7_readText 16 = .ok (.iconst 0, 1) := by decide +kernel
theorem dX7_readText_17 : decode cX7_readText 17 = .ok (.putfield 168, 3) := by decide +kernel
theorem dX7_readText_20 : decode cX7_readText 20 = .ok (.aload_n 0, 1) := by decide +kernel
theorem dX7_readText_21 : decode cX7_readText 21 = .ok (.iconst 0, 1) := by decide +kernel
theorem dX7_readText_22 : decode cX7_readText 22 = .ok (.putfield 162, 3) := by decide +kernel
theorem dX7_readText_25 : decode cX7_readText 25 = .ok (.aload_n 0, 1) := by decide +kernel
theorem dX7_readText_26 : decode cX7_readText 26 = .ok (.getfield 20, 3) := by decide +kernel
theorem dX7_readText_29 : decode cX7_readText 29 = .ok (.iconst 5, 1) := by decide +kernel
theorem dX7_readText_30 : decode cX7_readText 30 = .ok (.iconst 0, 1) := by decide +kernel
theorem dX7_readText_31 : decode cX7_readText 31 = .ok (.iastore, 1) := by decide +kernel
theorem dX7_readText_32 : decode cX7_readText 32 = .ok (.iconst 0, 1) := by decide +kernel
theorem dX7_readText_33 : decode cX7_readText 33 = .ok (.istore_n 2, 1) := by decide +kernel
theorem dX7_readText_34 : decode cX7_readText 34 = .ok (.iload_n 2, 1) := by decide +kernel
theorem dX7_readText_35 : decode cX7_readText 35 = .ok (.bipush 64, 2) := by decide +kernel
theorem dX7_readText_37 : decode cX7_readText 37 = .ok (.if_icmp .ge 16, 3) := by decide +kernel
theorem dX7_readText_40 : decode cX7_readText 40 = .ok (.aload_n 0, 1) := by decide +kernel
theorem dX7_readText_41 : decode cX7_readText 41 = .ok (.getfield 26, 3) := by decide +kernel
theorem dX7_readText_44 : decode cX7_readText 44 = .ok (.iload_n 2, 1) := by decide +kernel
theorem dX7_readText_45 : decode cX7_readText 45 = .ok (.iconst (-1), 1) := by decide +kernel
theorem dX7_readText_46 : decode cX7_readText 46 = .ok (.iastore, 1) := by decide +kernel
theorem dX7_readText_47 : decode cX7_readText 47 = .ok (.iinc 2 1, 3) := by decide +kernel
theorem dX7_readText_50 : decode cX7_readText 50 = .ok (.goto (-16), 3) := by decide +kernel
theorem dX7_readText_53 : decode cX7_readText 53 = .ok (.aload_n 0, 1) := by decide +kernel
theorem dX7_readText_54 : decode cX7_readText 54 = .ok (.invokevirtual 124, 3) := by decide +kernel
theorem dX7_readText_57 : decode cX7_readText 57 = .ok (.aload_n 0, 1) := by decide +kernel
theorem dX7_readText_58 : decode cX7_readText 58 = .ok (.invokevirtual 208, 3) := by decide +kernel
theorem dX7_readText_61 : decode cX7_readText 61 = .ok (.iconst (-1), 1) := by decide +kernel
theorem dX7_readText_62 : decode cX7_readText 62 = .ok (.if_icmp .ne 5, 3) := by decide +kernel
theorem dX7_readText_65 : decode cX7_readText 65 = .ok (.iconst (-1), 1) := by decide +kernel
theorem dX7_readText_66 : decode cX7_readText 66 = .ok (.ireturn, 1) := by decide +kernel
theorem dX7_readText_67 : decode cX7_readText 67 = .ok (.aload_n 0, 1) := by decide +kernel
theorem dX7_readText_68 : decode cX7_readText 68 = .ok (.getfield 91, 3) := by decide +kernel
theorem dX7_readText_71 : decode cX7_readText 71 = .ok (.bipush 59, 2) := by decide +kernel
theorem dX7_readText_73 : decode cX7_readText 73 = .ok (.if_icmp .ne 17, 3) := by decide +kernel
theorem dX7_readText_76 : decode cX7_readText 76 = .ok (.aload_n 0, 1) := by decide +kernel
theorem dX7_readText_77 : decode cX7_readText 77 = .ok (.invokevirtual 124, 3) := by decide +kernel
theorem dX7_readText_80 : decode cX7_readText 80 = .ok (.aload_n 0, 1) := by decide +kernel
theorem dX7_readText_81 : decode cX7_readText 81 = .ok (.invokevirtual 208, 3) := by decide +kernel
theorem dX7_readText_84 : decode cX7_readText 84 = .ok (.iconst (-1), 1) := by decide +kernel
theorem dX7_readText_85 : decode cX7_readText 85 = .ok (.if_icmp .ne (-18), 3) := by decide +kernel
theorem dX7_readText_88 : decode cX7_readText 88 = .ok (.iconst (-1), 1) := by decide +kernel
theorem dX7_readText_89 : decode cX7_readText 89 = .ok (.ireturn, 1) := by decide +kernel
theorem dX7_readText_90 : decode cX7_readText 90 = .ok (.aload_n 0, 1) := by decide +kernel
theorem dX7_readText_91 : decode cX7_readText 91 = .ok (.getfield 91, 3) := by decide +kernel
theorem dX7_readText_94 : decode cX7_readText 94 = .ok (.ifCond .eq 9, 3) := by decide +kernel
theorem dX7_readText_97 : decode cX7_readText 97 = .ok (.aload_n 0, 1) := by decide +kernel
theorem dX7_readText_98 : decode cX7_readText 98 = .ok (.iconst 1, 1) := by decide +kernel
theorem dX7_readText_99 : decode cX7_readText 99 = .ok (.invokevirtual 117, 3) := by decide +kernel
theorem dX7_readText_102 : decode cX7_readText 102 = .ok (.ireturn, 1) := by decide +kernel
theorem dX7_readText_103 : decode cX7_readText 103 = .ok (.aload_n 0, 1) := by decide +kernel
theorem dX7_readText_104 : decode cX7_readText 104 = .ok (.getfield 20, 3) := by decide +kernel
theorem dX7_readText_107 : decode cX7_readText 107 = .ok (.iconst 5, 1) := by decide +kernel
theorem dX7_readText_108 : decode cX7_readText 108 = .ok (.iaload, 1) := by decide +kernel
theorem dX7_readText_109 : decode cX7_readText 109 = .ok (.ifCond .ne 9, 3) := by decide +kernel
theorem dX7_readText_112 : decode cX7_readText 112 = .ok (.aload_n 0, 1) := by decide +kernel
theorem dX7_readText_113 : decode cX7_readText 113 = .ok (.iconst 5, 1) := by decide +kernel
theorem dX7_readText_114 : decode cX7_readText 114 = .ok (.invokevirtual 117, 3) := by decide +kernel
theorem dX7_readText_117 : decode cX7_readText 117 = .ok (.ireturn, 1) := by decide +kernel
theorem dX7_readText_118 : decode cX7_readText 118 = .ok (.aload_n 0, 1) := by decide +kernel
theorem dX7_readText_119 : decode cX7_readText 119 = .ok (.getfield 168, 3) := by decide +kernel
theorem dX7_readText_122 : decode cX7_readText 122 = .ok (.ifCond .eq 12, 3) := by decide +kernel
theorem dX7_readText_125 : decode cX7_readText 125 = .ok (.aload_n 0, 1) := by decide +kernel
theorem dX7_readText_126 : decode cX7_readText 126 = .ok (.bipush 6, 2) := by decide +kernel
theorem dX7_readText_128 : decode cX7_readText 128 = .ok (.invokevirtual 117, 3) := by decide +kernel
theorem dX7_readText_131 : decode cX7_readText 131 = .ok (.goto 9, 3) := by decide +kernel
theorem dX7_readText_134 : decode cX7_readText 134 = .ok (.aload_n 0, 1) := by decide +kernel
theorem dX7_readText_135 : decode cX7_readText 135 = .ok (.getfield 20, 3) := by decide +kernel
theorem dX7_readText_138 : decode cX7_readText 138 = .ok (.iconst 5, 1) := by decide +kernel
theorem dX7_readText_139 : decode cX7_readText 139 = .ok (.iaload, 1) := by decide +kernel
theorem dX7_readText_140 : decode cX7_readText 140 = .ok (.ireturn, 1) := by decide +kernel
theorem dX7_machine_0 : decode cX7_machine 0 = .ok (.aload_n 0, 1) := by decide +kernel
theorem dX7_machine_1 : decode cX7_machine 1 = .ok (.invokevirtual 211, 3) := by decide +kernel
theorem dX7_machine_4 : decode cX7_machine 4 = .ok (.iload_n 1, 1) := by decide +kernel
theorem dX7_machine_5 : decode cX7_machine 5 = .ok (.iconst 0, 1) := by decide +kernel
theorem dX7_machine_6 : decode cX7_machine 6 = .ok (.aload_n 0, 1) := by decide +kernel
theorem dX7_machine_7 : decode cX7_machine 7 = .ok (.getfield 71, 3) := by decide +kernel
theorem dX7_machine_10 : decode cX7_machine 10 = .ok (.invokestatic 94, 3) := by decide +kernel
theorem dX7_machine_13 : decode cX7_machine 13 = .ok (.ifCond .ne 9, 3) := by decide +kernel
theorem dX7_machine_16 : decode cX7_machine 16 = .ok (.aload_n 0, 1) := by decide +kernel
theorem dX7_machine_17 : decode cX7_machine 17 = .ok (.iconst 2, 1) := by decide +kernel
theorem dX7_machine_18 : decode cX7_machine 18 = .ok (.invokevirtual 214, 3) := by decide +kernel
theorem dX7_machine_21 : decode cX7_machine 21 = .ok (.ireturn, 1) := by decide +kernel
theorem dX7_machine_22 : decode cX7_machine 22 = .ok (.aload_n 0, 1) := by decide +kernel
theorem dX7_machine_23 : decode cX7_machine 23 = .ok (.iconst 0, 1) := by decide +kernel
theorem dX7_machine_24 : decode cX7_machine 24 = .ok (.putfield 71, 3) := by decide +kernel
theorem dX7_machine_27 : decode cX7_machine 27 = .ok (.aload_n 0, 1) := by decide +kernel
theorem dX7_machine_28 : decode cX7_machine 28 = .ok (.iconst 0, 1) := by decide +kernel
theorem dX7_machine_29 : decode cX7_machine 29 = .ok (.putfield 217, 3) := by decide +kernel
theorem dX7_machine_32 : decode cX7_machine 32 = .ok (.aload_n 0, 1) := by decide +kernel
theorem dX7_machine_33 : decode cX7_machine 33 = .ok (.iload_n 1, 1) := by decide +kernel
theorem dX7_machine_34 : decode cX7_machine 34 = .ok (.invokevirtual 220, 3) := by decide +kernel
theorem dX7_machine_37 : decode cX7_machine 37 = .ok (.iconst (-1), 1) := by decide +kernel
theorem dX7_machine_38 : decode cX7_machine 38 = .ok (.if_icmp .ne 25, 3) := by decide +kernel
theorem dX7_machine_41 : decode cX7_machine 41 = .ok (.aload_n 0, 1) := by decide +kernel
theorem dX7_machine_42 : decode cX7_machine 42 = .ok (.aload_n 0, 1) := by decide +kernel
theorem dX7_machine_43 : decode cX7_machine 43 = .ok (.getfield 111, 3) := by decide +kernel
theorem dX7_machine_46 : decode cX7_machine 46 = .ok (.putfield 217, 3) := by decide +kernel
theorem dX7_machine_49 : decode cX7_machine 49 = .ok (.aload_n 0, 1) := by decide +kernel
theorem dX7_machine_50 : decode cX7_machine 50 = .ok (.aload_n 0, 1) := by decide +kernel
theorem dX7_machine_51 : decode cX7_machine 51 = .ok (.getfield 114, 3) := by decide +kernel
theorem dX7_machine_54 : decode cX7_machine 54 = .ok (.putfield 9, 3) := by decide +kernel
theorem dX7_machine_57 : decode cX7_machine 57 = .ok (.aload_n 0, 1) := by decide +kernel
theorem dX7_machine_58 : decode cX7_machine 58 = .ok (.iconst 4, 1) := by decide +kernel
theorem dX7_machine_59 : decode cX7_machine 59 = .ok (.invokevirtual 214, 3) := by decide +kernel
theorem dX7_machine_62 : decode cX7_machine 62 = .ok (.ireturn, 1) := by decide +kernel
theorem dX7_machine_63 : decode cX7_machine 63 = .ok (.iconst 0, 1) := by decide +kernel
theorem dX7_machine_64 : decode cX7_machine 64 = .ok (.istore_n 2, 1) := by decide +kernel
theorem dX7_machine_65 : decode cX7_machine 65 = .ok (.iload_n 2, 1) := by decide +kernel
theorem dX7_machine_66 : decode cX7_machine 66 = .ok (.bipush 6, 2) := by decide +kernel
theorem dX7_machine_68 : decode cX7_machine 68 = .ok (.if_icmp .ge 21, 3) := by decide +kernel
theorem dX7_machine_71 : decode cX7_machine 71 = .ok (.aload_n 0, 1) := by decide +kernel
theorem dX7_machine_72 : decode cX7_machine 72 = .ok (.getfield 17, 3) := by decide +kernel
theorem dX7_machine_75 : decode cX7_machine 75 = .ok (.iload_n 2, 1) := by decide +kernel
theorem dX7_machine_76 : decode cX7_machine 76 = .ok (.aload_n 0, 1) := by decide +kernel
theorem dX7_machine_77 : decode cX7_machine 77 = .ok (.getfield 20, 3) := by decide +kernel
theorem dX7_machine_80 : decode cX7_machine 80 = .ok (.iload_n 2, 1) := by decide +kernel
theorem dX7_machine_81 : decode cX7_machine 81 = .ok (.iaload, 1) := by decide +kernel
theorem dX7_machine_82 : decode cX7_machine 82 = .ok (.iastore, 1) := by decide +kernel
theorem dX7_machine_83 : decode cX7_machine 83 = .ok (.iinc 2 1, 3) := by decide +kernel
theorem dX7_machine_86 : decode cX7_machine 86 = .ok (.goto (-21), 3) := by decide +kernel
theorem dX7_machine_89 : decode cX7_machine 89 = .ok (.aload_n 0, 1) := by decide +kernel
theorem dX7_machine_90 : decode cX7_machine 90 = .ok (.aload_n 0, 1) := by decide +kernel
theorem dX7_machine_91 : decode cX7_machine 91 = .ok (.getfield 162, 3) := by decide +kernel
theorem dX7_machine_94 : decode cX7_machine 94 = .ok (.putfield 223, 3) := by decide +kernel
theorem dX7_machine_97 : decode cX7_machine 97 = .ok (.iconst 0, 1) := by decide +kernel
theorem dX7_machine_98 : decode cX7_machine 98 = .ok (.istore_n 2, 1) := by decide +kernel
theorem dX7_machine_99 : decode cX7_machine 99 = .ok (.iload_n 2, 1) := by decide +kernel
theorem dX7_machine_100 : decode cX7_machine 100 = .ok (.bipush 64, 2) := by decide +kernel
theorem dX7_machine_102 : decode cX7_machine 102 = .ok (.if_icmp .ge 35, 3) := by decide +kernel
theorem dX7_machine_105 : decode cX7_machine 105 = .ok (.aload_n 0, 1) := by decide +kernel
theorem dX7_machine_106 : decode cX7_machine 106 = .ok (.getfield 23, 3) := by decide +kernel
theorem dX7_machine_109 : decode cX7_machine 109 = .ok (.iload_n 2, 1) := by decide +kernel
theorem dX7_machine_110 : decode cX7_machine 110 = .ok (.aload_n 0, 1) := by decide +kernel
theorem dX7_machine_111 : decode cX7_machine 111 = .ok (.getfield 26, 3) := by decide +kernel
theorem dX7_machine_114 : decode cX7_machine 114 = .ok (.iload_n 2, 1) := by decide +kernel
theorem dX7_machine_115 : decode cX7_machine 115 = .ok (.iaload, 1) := by decide +kernel
theorem dX7_machine_116 : decode cX7_machine 116 = .ok (.iconst (-1), 1) := by decide +kernel
theorem dX7_machine_117 : decode cX7_machine 117 = .ok (.if_icmp .ne 7, 3) := by decide +kernel
theorem dX7_machine_120 : decode cX7_machine 120 = .ok (.iconst 0, 1) := by decide +kernel
theorem dX7_machine_121 : decode cX7_machine 121 = .ok (.goto 9, 3) := by decide +kernel
theorem dX7_machine_124 : decode cX7_machine 124 = .ok (.aload_n 0, 1) := by decide +kernel
theorem dX7_machine_125 : decode cX7_machine 125 = .ok (.getfield 26, 3) := by decide +kernel
theorem dX7_machine_128 : decode cX7_machine 128 = .ok (.iload_n 2, 1) := by decide +kernel
theorem dX7_machine_129 : decode cX7_machine 129 = .ok (.iaload, 1) := by decide +kernel
theorem dX7_machine_130 : decode cX7_machine 130 = .ok (.iastore, 1) := by decide +kernel
theorem dX7_machine_131 : decode cX7_machine 131 = .ok (.iinc 2 1, 3) := by decide +kernel
theorem dX7_machine_134 : decode cX7_machine 134 = .ok (.goto (-35), 3) := by decide +kernel
theorem dX7_machine_137 : decode cX7_machine 137 = .ok (.iconst 0, 1) := by decide +kernel
theorem dX7_machine_138 : decode cX7_machine 138 = .ok (.istore_n 2, 1) := by decide +kernel
theorem dX7_machine_139 : decode cX7_machine 139 = .ok (.iload_n 2, 1) := by decide +kernel
theorem dX7_machine_140 : decode cX7_machine 140 = .ok (.iconst 4, 1) := by decide +kernel
theorem dX7_machine_141 : decode cX7_machine 141 = .ok (.if_icmp .ge 35, 3) := by decide +kernel
theorem dX7_machine_144 : decode cX7_machine 144 = .ok (.aload_n 0, 1) := by decide +kernel
theorem dX7_machine_145 : decode cX7_machine 145 = .ok (.getfield 29, 3) := by decide +kernel
theorem dX7_machine_148 : decode cX7_machine 148 = .ok (.iload_n 2, 1) := by decide +kernel
theorem dX7_machine_149 : decode cX7_machine 149 = .ok (.iload_n 2, 1) := by decide +kernel
theorem dX7_machine_150 : decode cX7_machine 150 = .ok (.aload_n 0, 1) := by decide +kernel
theorem dX7_machine_151 : decode cX7_machine 151 = .ok (.getfield 17, 3) := by decide +kernel
theorem dX7_machine_154 : decode cX7_machine 154 = .ok (.iconst 5, 1) := by decide +kernel
theorem dX7_machine_155 : decode cX7_machine 155 = .ok (.iaload, 1) := by decide +kernel
theorem dX7_machine_156 : decode cX7_machine 156 = .ok (.if_icmp .ge 12, 3) := by decide +kernel
theorem dX7_machine_159 : decode cX7_machine 159 = .ok (.aload_n 0, 1) := by decide +kernel
theorem dX7_machine_160 : decode cX7_machine 160 = .ok (.getfield 32, 3) := by decide +kernel
theorem dX7_machine_163 : decode cX7_machine 163 = .ok (.iload_n 2, 1) := by decide +kernel
theorem dX7_machine_164 : decode cX7_machine 164 = .ok (.iaload, 1) := by decide +kernel
theorem dX7_machine_165 : decode cX7_machine 165 = .ok (.goto 4, 3) := by decide +kernel
theorem dX7_machine_168 : decode cX7_machine 168 = .ok (.iconst 0, 1) := by decide +kernel
theorem dX7_machine_169 : decode cX7_machine 169 = .ok (.iastore, 1) := by decide +kernel
theorem dX7_machine_170 : decode cX7_machine 170 = .ok (.iinc 2 1, 3) := by decide +kernel
theorem dX7_machine_173 : decode cX7_machine 173 = .ok (.goto (-34), 3) := by decide +kernel
theorem dX7_machine_176 : decode cX7_machine 176 = .ok (.iconst 0, 1) := by decide +kernel
theorem dX7_machine_177 : decode cX7_machine 177 = .ok (.istore_n 2, 1) := by decide +kernel
theorem dX7_machine_178 : decode cX7_machine 178 = .ok (.iload_n 2, 1) := by decide +kernel
theorem dX7_machine_179 : decode cX7_machine 179 = .ok (.bipush 96, 2) := by decide +kernel
theorem dX7_machine_181 : decode cX7_machine 181 = .ok (.if_icmp .ge 45, 3) := by decide +kernel
theorem dX7_machine_184 : decode cX7_machine 184 = .ok (.aload_n 0, 1) := by decide +kernel
theorem dX7_machine_185 : decode cX7_machine 185 = .ok (.getfield 35, 3) := by decide +kernel
theorem dX7_machine_188 : decode cX7_machine 188 = .ok (.iload_n 2, 1) := by decide +kernel
theorem dX7_machine_189 : decode cX7_machine 189 = .ok (.aload_n 0, 1) := by decide +kernel
theorem dX7_machine_190 : decode cX7_machine 190 = .ok (.getfield 38, 3) := by decide +kernel
theorem dX7_machine_193 : decode cX7_machine 193 = .ok (.iload_n 2, 1) := by decide +kernel
theorem dX7_machine_194 : decode cX7_machine 194 = .ok (.iaload, 1) := by decide +kernel
theorem dX7_machine_195 : decode cX7_machine 195 = .ok (.iastore, 1) := by decide +kernel
theorem dX7_machine_196 : decode cX7_machine 196 = .ok (.aload_n 0, 1) := by decide +kernel
theorem dX7_machine_197 : decode cX7_machine 197 = .ok (.getfield 41, 3) := by decide +kernel
theorem dX7_machine_200 : decode cX7_machine 200 = .ok (.iload_n 2, 1) := by decide +kernel
theorem dX7_machine_201 : decode cX7_machine 201 = .ok (.aload_n 0, 1) := by decide +kernel
theorem dX7_machine_202 : decode cX7_machine 202 = .ok (.getfield 44, 3) := by decide +kernel
theorem dX7_machine_205 : decode cX7_machine 205 = .ok (.iload_n 2, 1) := by decide +kernel
theorem dX7_machine_206 : decode cX7_machine 206 = .ok (.iaload, 1) := by decide +kernel
theorem dX7_machine_207 : decode cX7_machine 207 = .ok (.iastore, 1) := by decide +kernel
theorem dX7_machine_208 : decode cX7_machine 208 = .ok (.aload_n 0, 1) := by decide +kernel
theorem dX7_machine_209 : decode cX7_machine 209 = .ok (.getfield 47, 3) := by decide +kernel
theorem dX7_machine_212 : decode cX7_machine 212 = .ok (.iload_n 2, 1) := by decide +kernel
theorem dX7_machine_213 : decode cX7_machine 213 = .ok (.aload_n 0, 1) := by decide +kernel
theorem dX7_machine_214 : decode cX7_machine 214 = .ok (.getfield 50, 3) := by decide +kernel
theorem dX7_machine_217 : decode cX7_machine 217 = .ok (.iload_n 2, 1) := by decide +kernel
theorem dX7_machine_218 : decode cX7_machine 218 = .ok (.iaload, 1) := by decide +kernel
theorem dX7_machine_219 : decode cX7_machine 219 = .ok (.iastore, 1) := by decide +kernel
theorem dX7_machine_220 : decode cX7_machine 220 = .ok (.iinc 2 1, 3) := by decide +kernel
theorem dX7_machine_223 : decode cX7_machine 223 = .ok (.goto (-45), 3) := by decide +kernel
theorem dX7_machine_226 : decode cX7_machine 226 = .ok (.aload_n 0, 1) := by decide +kernel
theorem dX7_machine_227 : decode cX7_machine 227 = .ok (.iconst 1, 1) := by decide +kernel
theorem dX7_machine_228 : decode cX7_machine 228 = .ok (.putfield 226, 3) := by decide +kernel
theorem dX7_machine_231 : decode cX7_machine 231 = .ok (.aload_n 0, 1) := by decide +kernel
theorem dX7_machine_232 : decode cX7_machine 232 = .ok (.iconst 0, 1) := by decide +kernel
theorem dX7_machine_233 : decode cX7_machine 233 = .ok (.putfield 229, 3) := by decide +kernel
theorem dX7_machine_236 : decode cX7_machine 236 = .ok (.aload_n 0, 1) := by decide +kernel
theorem dX7_machine_237 : decode cX7_machine 237 = .ok (.invokevirtual 232, 3) := by decide +kernel
theorem dX7_machine_240 : decode cX7_machine 240 = .ok (.aload_n 0, 1) := by decide +kernel
theorem dX7_machine_241 : decode cX7_machine 241 = .ok (.invokevirtual 235, 3) := by decide +kernel
theorem dX7_machine_244 : decode cX7_machine 244 = .ok (.aload_n 0, 1) := by decide +kernel
theorem dX7_machine_245 : decode cX7_machine 245 = .ok (.getfield 17, 3) := by decide +kernel
theorem dX7_machine_248 : decode cX7_machine 248 = .ok (.iconst 5, 1) := by decide +kernel
theorem dX7_machine_249 : decode cX7_machine 249 = .ok (.iaload, 1) := by decide +kernel
theorem dX7_machine_250 : decode cX7_machine 250 = .ok (.ireturn, 1) := by decide +kernel
theorem dX7_fault_0 : decode cX7_fault 0 = .ok (.aload_n 0, 1) := by decide +kernel
theorem dX7_fault_1 : decode cX7_fault 1 = .ok (.iconst 0, 1) := by decide +kernel
theorem dX7_fault_2 : decode cX7_fault 2 = .ok (.putfield 65, 3) := by decide +kernel
theorem dX7_fault_5 : decode cX7_fault 5 = .ok (.aload_n 0, 1) := by decide +kernel
theorem dX7_fault_6 : decode cX7_fault 6 = .ok (.getfield 217, 3) := by decide +kernel
theorem dX7_fault_9 : decode cX7_fault 9 = .ok (.ireturn, 1) := by decide +kernel
theorem dX7_where_0 : decode cX7_where 0 = .ok (.aload_n 0, 1) := by decide +kernel
theorem dX7_where_1 : decode cX7_where 1 = .ok (.iconst 0, 1) := by decide +kernel
theorem dX7_where_2 : decode cX7_where 2 = .ok (.putfield 65, 3) := by decide +kernel
theorem dX7_where_5 : decode cX7_where 5 = .ok (.aload_n 0, 1) := by decide +kernel
theorem dX7_where_6 : decode cX7_where 6 = .ok (.getfield 68, 3) := by decide +kernel
theorem dX7_where_9 : decode cX7_where 9 = .ok (.iconst 4, 1) := by decide +kernel
theorem dX7_where_10 : decode cX7_where 10 = .ok (.if_icmp .ne 10, 3) := by decide +kernel
theorem dX7_where_13 : decode cX7_where 13 = .ok (.aload_n 0, 1) := by decide +kernel
theorem dX7_where_14 : decode cX7_where 14 = .ok (.getfield 9, 3) := by decide +kernel
theorem dX7_where_17 : decode cX7_where 17 = .ok (.goto 4, 3) := by decide +kernel
theorem dX7_where_20 : decode cX7_where 20 = .ok (.iconst (-1), 1) := by decide +kernel
theorem dX7_where_21 : decode cX7_where 21 = .ok (.ireturn, 1) := by decide +kernel
theorem dX7_asTold_0 : decode cX7_asTold 0 = .ok (.aload_n 0, 1) := by decide +kernel
theorem dX7_asTold_1 : decode cX7_asTold 1 = .ok (.aload_n 0, 1) := by decide +kernel
theorem dX7_asTold_2 : decode cX7_asTold 2 = .ok (.getfield 17, 3) := by decide +kernel
theorem dX7_asTold_5 : decode cX7_asTold 5 = .ok (.iconst 3, 1) := by decide +kernel
theorem dX7_asTold_6 : decode cX7_asTold 6 = .ok (.iaload, 1) := by decide +kernel
theorem dX7_asTold_7 : decode cX7_asTold 7 = .ok (.putfield 238, 3) := by decide +kernel
theorem dX7_asTold_10 : decode cX7_asTold 10 = .ok (.aload_n 0, 1) := by decide +kernel
theorem dX7_asTold_11 : decode cX7_asTold 11 = .ok (.aload_n 0, 1) := by decide +kernel
theorem dX7_asTold_12 : decode cX7_asTold 12 = .ok (.getfield 17, 3) := by decide +kernel
theorem dX7_asTold_15 : decode cX7_asTold 15 = .ok (.iconst 4, 1) := by decide +kernel
theorem dX7_asTold_16 : decode cX7_asTold 16 = .ok (.iaload, 1) := by decide +kernel
theorem dX7_asTold_17 : decode cX7_asTold 17 = .ok (.putfield 240, 3) := by decide +kernel
theorem dX7_asTold_20 : decode cX7_asTold 20 = .ok (.aload_n 0, 1) := by decide +kernel
theorem dX7_asTold_21 : decode cX7_asTold 21 = .ok (.aload_n 0, 1) := by decide +kernel
theorem dX7_asTold_22 : decode cX7_asTold 22 = .ok (.getfield 17, 3) := by decide +kernel
theorem dX7_asTold_25 : decode cX7_asTold 25 = .ok (.iconst 1, 1) := by decide +kernel
theorem dX7_asTold_26 : decode cX7_asTold 26 = .ok (.iaload, 1) := by decide +kernel
theorem dX7_asTold_27 : decode cX7_asTold 27 = .ok (.putfield 242, 3) := by decide +kernel
theorem dX7_asTold_30 : decode cX7_asTold 30 = .ok (.return_, 1) := by decide +kernel
theorem dX7_coreAt_0 : decode cX7_coreAt 0 = .ok (.bipush 6, 2) := by decide +kernel
theorem dX7_coreAt_2 : decode cX7_coreAt 2 = .ok (.bipush 14, 2) := by decide +kernel
theorem dX7_coreAt_4 : decode cX7_coreAt 4 = .ok (.iload_n 0, 1) := by decide +kernel
theorem dX7_coreAt_5 : decode cX7_coreAt 5 = .ok (.imul, 1) := by decide +kernel
theorem dX7_coreAt_6 : decode cX7_coreAt 6 = .ok (.iadd, 1) := by decide +kernel
theorem dX7_coreAt_7 : decode cX7_coreAt 7 = .ok (.iload_n 1, 1) := by decide +kernel
theorem dX7_coreAt_8 : decode cX7_coreAt 8 = .ok (.iadd, 1) := by decide +kernel
theorem dX7_coreAt_9 : decode cX7_coreAt 9 = .ok (.ireturn, 1) := by decide +kernel
theorem dX7_placeAt_0 : decode cX7_placeAt 0 = .ok (.sipush 318, 3) := by decide +kernel
theorem dX7_placeAt_3 : decode cX7_placeAt 3 = .ok (.bipush 9, 2) := by decide +kernel
theorem dX7_placeAt_5 : decode cX7_placeAt 5 = .ok (.bipush 68, 2) := by decide +kernel
theorem dX7_placeAt_7 : decode cX7_placeAt 7 = .ok (.iload_n 0, 1) := by decide +kernel
theorem dX7_placeAt_8 : decode cX7_placeAt 8 = .ok (.imul, 1) := by decide +kernel
theorem dX7_placeAt_9 : decode cX7_placeAt 9 = .ok (.bipush 17, 2) := by decide +kernel
theorem dX7_placeAt_11 : decode cX7_placeAt 11 = .ok (.iload_n 1, 1) := by decide +kernel
theorem dX7_placeAt_12 : decode cX7_placeAt 12 = .ok (.imul, 1) := by decide +kernel
theorem dX7_placeAt_13 : decode cX7_placeAt 13 = .ok (.iadd, 1) := by decide +kernel
theorem dX7_placeAt_14 : decode cX7_placeAt 14 = .ok (.iload_n 2, 1) := by decide +kernel
theorem dX7_placeAt_15 : decode cX7_placeAt 15 = .ok (.iadd, 1) := by decide +kernel
theorem dX7_placeAt_16 : decode cX7_placeAt 16 = .ok (.imul, 1) := by decide +kernel
theorem dX7_placeAt_17 : decode cX7_placeAt 17 = .ok (.iadd, 1) := by decide +kernel
theorem dX7_placeAt_18 : decode cX7_placeAt 18 = .ok (.ireturn, 1) := by decide +kernel
theorem dX7_begins_0 : decode cX7_begins 0 = .ok (.iconst 0, 1) := by decide +kernel
theorem dX7_begins_1 : decode cX7_begins 1 = .ok (.istore_n 1, 1) := by decide +kernel
theorem dX7_begins_2 : decode cX7_begins 2 = .ok (.iload_n 1, 1) := by decide +kernel
theorem dX7_begins_3 : decode cX7_begins 3 = .ok (.sipush 2766, 3) := by decide +kernel
theorem dX7_begins_6 : decode cX7_begins 6 = .ok (.if_icmp .ge 16, 3) := by decide +kernel
theorem dX7_begins_9 : decode cX7_begins 9 = .ok (.aload_n 0, 1) := by decide +kernel
theorem dX7_begins_10 : decode cX7_begins 10 = .ok (.getfield 53, 3) := by decide +kernel
theorem dX7_begins_13 : decode cX7_begins 13 = .ok (.iload_n 1, 1) := by decide +kernel
theorem dX7_begins_14 : decode cX7_begins 14 = .ok (.iconst 0, 1) := by decide +kernel
theorem dX7_begins_15 : decode cX7_begins 15 = .ok (.iastore, 1) := by decide +kernel
theorem dX7_begins_16 : decode cX7_begins 16 = .ok (.iinc 1 1, 3) := by decide +kernel
theorem dX7_begins_19 : decode cX7_begins 19 = .ok (.goto (-17), 3) := by decide +kernel
theorem dX7_begins_22 : decode cX7_begins 22 = .ok (.aload_n 0, 1) := by decide +kernel
theorem dX7_begins_23 : decode cX7_begins 23 = .ok (.getfield 53, 3) := by decide +kernel
theorem dX7_begins_26 : decode cX7_begins 26 = .ok (.iconst 5, 1) := by decide +kernel
theorem dX7_begins_27 : decode cX7_begins 27 = .ok (.bipush (-2), 2) := by decide +kernel
theorem dX7_begins_29 : decode cX7_begins 29 = .ok (.iastore, 1) := by decide +kernel
theorem dX7_begins_30 : decode cX7_begins 30 = .ok (.iconst 0, 1) := by decide +kernel
theorem dX7_begins_31 : decode cX7_begins 31 = .ok (.istore_n 1, 1) := by decide +kernel
theorem dX7_begins_32 : decode cX7_begins 32 = .ok (.iload_n 1, 1) := by decide +kernel
theorem dX7_begins_33 : decode cX7_begins 33 = .ok (.iconst 4, 1) := by decide +kernel
theorem dX7_begins_34 : decode cX7_begins 34 = .ok (.if_icmp .ge 21, 3) := by decide +kernel
theorem dX7_begins_37 : decode cX7_begins 37 = .ok (.aload_n 0, 1) := by decide +kernel
theorem dX7_begins_38 : decode cX7_begins 38 = .ok (.getfield 53, 3) := by decide +kernel
theorem dX7_begins_41 : decode cX7_begins 41 = .ok (.iload_n 1, 1) := by decide +kernel
theorem dX7_begins_42 : decode cX7_begins 42 = .ok (.iconst 5, 1) := by decide +kernel
theorem dX7_begins_43 : decode cX7_begins 43 = .ok (.invokestatic 244, 3) := by decide +kernel
theorem dX7_begins_46 : decode cX7_begins 46 = .ok (.bipush (-2), 2) := by decide +kernel
theorem dX7_begins_48 : decode cX7_begins 48 = .ok (.iastore, 1) := by decide +kernel
theorem dX7_begins_49 : decode cX7_begins 49 = .ok (.iinc 1 1, 3) := by decide +kernel
theorem dX7_begins_52 : decode cX7_begins 52 = .ok (.goto (-20), 3) := by decide +kernel
theorem dX7_begins_55 : decode cX7_begins 55 = .ok (.iconst 0, 1) := by decide +kernel
theorem dX7_begins_56 : decode cX7_begins 56 = .ok (.istore_n 1, 1) := by decide +kernel
theorem dX7_begins_57 : decode cX7_begins 57 = .ok (.iload_n 1, 1) := by decide +kernel
theorem dX7_begins_58 : decode cX7_begins 58 = .ok (.bipush 64, 2) := by decide +kernel
theorem dX7_begins_60 : decode cX7_begins 60 = .ok (.if_icmp .ge 25, 3) := by decide +kernel
theorem dX7_begins_63 : decode cX7_begins 63 = .ok (.aload_n 0, 1) := by decide +kernel
theorem dX7_begins_64 : decode cX7_begins 64 = .ok (.getfield 53, 3) := by decide +kernel
theorem dX7_begins_67 : decode cX7_begins 67 = .ok (.sipush 254, 3) := by decide +kernel
theorem dX7_begins_70 : decode cX7_begins 70 = .ok (.iload_n 1, 1) := by decide +kernel
theorem dX7_begins_71 : decode cX7_begins 71 = .ok (.iadd, 1) := by decide +kernel
theorem dX7_begins_72 : decode cX7_begins 72 = .ok (.aload_n 0, 1) := by decide +kernel
theorem dX7_begins_73 : decode cX7_begins 73 = .ok (.getfield 23, 3) := by decide +kernel
theorem dX7_begins_76 : decode cX7_begins 76 = .ok (.iload_n 1, 1) := by decide +kernel
theorem dX7_begins_77 : decode cX7_begins 77 = .ok (.iaload, 1) := by decide +kernel
theorem dX7_begins_78 : decode cX7_begins 78 = .ok (.iastore, 1) := by decide +kernel
theorem dX7_begins_79 : decode cX7_begins 79 = .ok (.iinc 1 1, 3) := by decide +kernel
theorem dX7_begins_82 : decode cX7_begins 82 = .ok (.goto (-25), 3) := by decide +kernel
theorem dX7_begins_85 : decode cX7_begins 85 = .ok (.sipush 318, 3) := by decide +kernel
theorem dX7_begins_88 : decode cX7_begins 88 = .ok (.istore_n 1, 1) := by decide +kernel
theorem dX7_begins_89 : decode cX7_begins 89 = .ok (.iload_n 1, 1) := by decide +kernel
theorem dX7_begins_90 : decode cX7_begins 90 = .ok (.sipush 2766, 3) := by decide +kernel
theorem dX7_begins_93 : decode cX7_begins 93 = .ok (.if_icmp .ge 19, 3) := by decide +kernel
theorem dX7_begins_96 : decode cX7_begins 96 = .ok (.aload_n 0, 1) := by decide +kernel
theorem dX7_begins_97 : decode cX7_begins 97 = .ok (.getfield 53, 3) := by decide +kernel
theorem dX7_begins_100 : decode cX7_begins 100 = .ok (.iload_n 1, 1) := by decide +kernel
theorem dX7_begins_101 : decode cX7_begins 101 = .ok (.iconst 0, 1) := by decide +kernel
theorem dX7_begins_102 : decode cX7_begins 102 = .ok (.iadd, 1) := by decide +kernel
theorem dX7_begins_103 : decode cX7_begins 103 = .ok (.bipush (-2), 2) := by decide +kernel
theorem dX7_begins_105 : decode cX7_begins 105 = .ok (.iastore, 1) := by decide +kernel
theorem dX7_begins_106 : decode cX7_begins 106 = .ok (.iinc 1 9, 3) := by decide +kernel
theorem dX7_begins_109 : decode cX7_begins 109 = .ok (.goto (-20), 3) := by decide +kernel
theorem dX7_begins_112 : decode cX7_begins 112 = .ok (.return_, 1) := by decide +kernel
theorem dX7_laysAside_0 : decode cX7_laysAside 0 = .ok (.iconst 0, 1) := by decide +kernel
theorem dX7_laysAside_1 : decode cX7_laysAside 1 = .ok (.istore_n 1, 1) := by decide +kernel
theorem dX7_laysAside_2 : decode cX7_laysAside 2 = .ok (.iload_n 1, 1) := by decide +kernel
theorem dX7_laysAside_3 : decode cX7_laysAside 3 = .ok (.sipush 2766, 3) := by decide +kernel
theorem dX7_laysAside_6 : decode cX7_laysAside 6 = .ok (.if_icmp .ge 21, 3) := by decide +kernel
theorem dX7_laysAside_9 : decode cX7_laysAside 9 = .ok (.aload_n 0, 1) := by decide +kernel
theorem dX7_laysAside_10 : decode cX7_laysAside 10 = .ok (.getfield 56, 3) := by decide +kernel
theorem dX7_laysAside_13 : decode cX7_laysAside 13 = .ok (.iload_n 1, 1) := by decide +kernel
theorem dX7_laysAside_14 : decode cX7_laysAside 14 = .ok (.aload_n 0, 1) := by decide +kernel
theorem dX7_laysAside_15 : decode cX7_laysAside 15 = .ok (.getfield 53, 3) := by decide +kernel
theorem dX7_laysAside_18 : decode cX7_laysAside 18 = .ok (.iload_n 1, 1) := by decide +kernel
theorem dX7_laysAside_19 : decode cX7_laysAside 19 = .ok (.iaload, 1) := by decide +kernel
theorem dX7_laysAside_20 : decode cX7_laysAside 20 = .ok (.iastore, 1) := by decide +kernel
theorem dX7_laysAside_21 : decode cX7_laysAside 21 = .ok (.iinc 1 1, 3) := by decide +kernel
theorem dX7_laysAside_24 : decode cX7_laysAside 24 = .ok (.goto (-22), 3) := by decide +kernel
theorem dX7_laysAside_27 : decode cX7_laysAside 27 = .ok (.return_, 1) := by decide +kernel
theorem dX7_takesBack_0 : decode cX7_takesBack 0 = .ok (.iconst 0, 1) := by decide +kernel
theorem dX7_takesBack_1 : decode cX7_takesBack 1 = .ok (.istore_n 1, 1) := by decide +kernel
theorem dX7_takesBack_2 : decode cX7_takesBack 2 = .ok (.iload_n 1, 1) := by decide +kernel
theorem dX7_takesBack_3 : decode cX7_takesBack 3 = .ok (.sipush 2766, 3) := by decide +kernel
theorem dX7_takesBack_6 : decode cX7_takesBack 6 = .ok (.if_icmp .ge 21, 3) := by decide +kernel
theorem dX7_takesBack_9 : decode cX7_takesBack 9 = .ok (.aload_n 0, 1) := by decide +kernel
theorem dX7_takesBack_10 : decode cX7_takesBack 10 = .ok (.getfield 53, 3) := by decide +kernel
theorem dX7_takesBack_13 : decode cX7_takesBack 13 = .ok (.iload_n 1, 1) := by decide +kernel
theorem dX7_takesBack_14 : decode cX7_takesBack 14 = .ok (.aload_n 0, 1) := by decide +kernel
theorem dX7_takesBack_15 : decode cX7_takesBack 15 = .ok (.getfield 56, 3) := by decide +kernel
theorem dX7_takesBack_18 : decode cX7_takesBack 18 = .ok (.iload_n 1, 1) := by decide +kernel
theorem dX7_takesBack_19 : decode cX7_takesBack 19 = .ok (.iaload, 1) := by decide +kernel
theorem dX7_takesBack_20 : decode cX7_takesBack 20 = .ok (.iastore, 1) := by decide +kernel
theorem dX7_takesBack_21 : decode cX7_takesBack 21 = .ok (.iinc 1 1, 3) := by decide +kernel
theorem dX7_takesBack_24 : decode cX7_takesBack 24 = .ok (.goto (-22), 3) := by decide +kernel
theorem dX7_takesBack_27 : decode cX7_takesBack 27 = .ok (.aload_n 0, 1) := by decide +kernel
theorem dX7_takesBack_28 : decode cX7_takesBack 28 = .ok (.invokevirtual 232, 3) := by decide +kernel
theorem dX7_takesBack_31 : decode cX7_takesBack 31 = .ok (.return_, 1) := by decide +kernel
theorem dX7_find_0 : decode cX7_find 0 = .ok (.iconst 0, 1) := by decide +kernel
theorem dX7_find_1 : decode cX7_find 1 = .ok (.istore_n 3, 1) := by decide +kernel
theorem dX7_find_2 : decode cX7_find 2 = .ok (.iload_n 3, 1) := by decide +kernel
theorem dX7_find_3 : decode cX7_find 3 = .ok (.aload_n 0, 1) := by decide +kernel
theorem dX7_find_4 : decode cX7_find 4 = .ok (.getfield 242, 3) := by decide +kernel
theorem dX7_find_7 : decode cX7_find 7 = .ok (.if_icmp .ge 40, 3) := by decide +kernel
theorem dX7_find_10 : decode cX7_find 10 = .ok (.iload_n 1, 1) := by decide +kernel
theorem dX7_find_11 : decode cX7_find 11 = .ok (.iload_n 2, 1) := by decide +kernel
theorem dX7_find_12 : decode cX7_find 12 = .ok (.aload_n 0, 1) := by decide +kernel
theorem dX7_find_13 : decode cX7_find 13 = .ok (.getfield 17, 3) := by decide +kernel
theorem dX7_find_16 : decode cX7_find 16 = .ok (.iconst 0, 1) := by decide +kernel
theorem dX7_find_17 : decode cX7_find 17 = .ok (.iaload, 1) := by decide +kernel
theorem dX7_find_18 : decode cX7_find 18 = .ok (.irem, 1) := by decide +kernel
theorem dX7_find_19 : decode cX7_find 19 = .ok (.iload_n 3, 1) := by decide +kernel
theorem dX7_find_20 : decode cX7_find 20 = .ok (.invokestatic 247, 3) := by decide +kernel
theorem dX7_find_23 : decode cX7_find 23 = .ok (.istore 4, 2) := by decide +kernel
theorem dX7_find_25 : decode cX7_find 25 = .ok (.aload_n 0, 1) := by decide +kernel
theorem dX7_find_26 : decode cX7_find 26 = .ok (.getfield 53, 3) := by decide +kernel
theorem dX7_find_29 : decode cX7_find 29 = .ok (.iload 4, 2) := by decide +kernel
theorem dX7_find_31 : decode cX7_find 31 = .ok (.iconst 0, 1) := by decide +kernel
theorem dX7_find_32 : decode cX7_find 32 = .ok (.iadd, 1) := by decide +kernel
theorem dX7_find_33 : decode cX7_find 33 = .ok (.iaload, 1) := by decide +kernel
theorem dX7_find_34 : decode cX7_find 34 = .ok (.iload_n 2, 1) := by decide +kernel
theorem dX7_find_35 : decode cX7_find 35 = .ok (.if_icmp .ne 6, 3) := by decide +kernel
theorem dX7_find_38 : decode cX7_find 38 = .ok (.iload 4, 2) := by decide +kernel
theorem dX7_find_40 : decode cX7_find 40 = .ok (.ireturn, 1) := by decide +kernel
theorem dX7_find_41 : decode cX7_find 41 = .ok (.iinc 3 1, 3) := by decide +kernel
theorem dX7_find_44 : decode cX7_find 44 = .ok (.goto (-42), 3) := by decide +kernel
theorem dX7_find_47 : decode cX7_find 47 = .ok (.iconst (-1), 1) := by decide +kernel
theorem dX7_find_48 : decode cX7_find 48 = .ok (.ireturn, 1) := by decide +kernel
theorem dX7_empties_0 : decode cX7_empties 0 = .ok (.aload_n 0, 1) := by decide +kernel
theorem dX7_empties_1 : decode cX7_empties 1 = .ok (.getfield 53, 3) := by decide +kernel
theorem dX7_empties_4 : decode cX7_empties 4 = .ok (.iload_n 1, 1) := by decide +kernel
theorem dX7_empties_5 : decode cX7_empties 5 = .ok (.iconst 0, 1) := by decide +kernel
theorem dX7_empties_6 : decode cX7_empties 6 = .ok (.iadd, 1) := by decide +kernel
theorem dX7_empties_7 : decode cX7_empties 7 = .ok (.bipush (-2), 2) := by decide +kernel
theorem dX7_empties_9 : decode cX7_empties 9 = .ok (.iastore, 1) := by decide +kernel
theorem dX7_empties_10 : decode cX7_empties 10 = .ok (.aload_n 0, 1) := by decide +kernel
theorem dX7_empties_11 : decode cX7_empties 11 = .ok (.getfield 53, 3) := by decide +kernel
theorem dX7_empties_14 : decode cX7_empties 14 = .ok (.iload_n 1, 1) := by decide +kernel
theorem dX7_empties_15 : decode cX7_empties 15 = .ok (.iconst 1, 1) := by decide +kernel
theorem dX7_empties_16 : decode cX7_empties 16 = .ok (.iadd, 1) := by decide +kernel
theorem dX7_empties_17 : decode cX7_empties 17 = .ok (.iconst 0, 1) := by decide +kernel
theorem dX7_empties_18 : decode cX7_empties 18 = .ok (.iastore, 1) := by decide +kernel
theorem dX7_empties_19 : decode cX7_empties 19 = .ok (.aload_n 0, 1) := by decide +kernel
theorem dX7_empties_20 : decode cX7_empties 20 = .ok (.getfield 53, 3) := by decide +kernel
theorem dX7_empties_23 : decode cX7_empties 23 = .ok (.iload_n 1, 1) := by decide +kernel
theorem dX7_empties_24 : decode cX7_empties 24 = .ok (.iconst 2, 1) := by decide +kernel
theorem dX7_empties_25 : decode cX7_empties 25 = .ok (.iadd, 1) := by decide +kernel
theorem dX7_empties_26 : decode cX7_empties 26 = .ok (.iconst 0, 1) := by decide +kernel
theorem dX7_empties_27 : decode cX7_empties 27 = .ok (.iastore, 1) := by decide +kernel
theorem dX7_empties_28 : decode cX7_empties 28 = .ok (.aload_n 0, 1) := by decide +kernel
theorem dX7_empties_29 : decode cX7_empties 29 = .ok (.getfield 53, 3) := by decide +kernel
theorem dX7_empties_32 : decode cX7_empties 32 = .ok (.iload_n 1, 1) := by decide +kernel
theorem dX7_empties_33 : decode cX7_empties 33 = .ok (.iconst 3, 1) := by decide +kernel
theorem dX7_empties_34 : decode cX7_empties 34 = .ok (.iadd, 1) := by decide +kernel
theorem dX7_empties_35 : decode cX7_empties 35 = .ok (.iconst 0, 1) := by decide +kernel
theorem dX7_empties_36 : decode cX7_empties 36 = .ok (.iastore, 1) := by decide +kernel
theorem dX7_empties_37 : decode cX7_empties 37 = .ok (.aload_n 0, 1) := by decide +kernel
theorem dX7_empties_38 : decode cX7_empties 38 = .ok (.getfield 53, 3) := by decide +kernel
theorem dX7_empties_41 : decode cX7_empties 41 = .ok (.iload_n 1, 1) := by decide +kernel
theorem dX7_empties_42 : decode cX7_empties 42 = .ok (.iconst 4, 1) := by decide +kernel
theorem dX7_empties_43 : decode cX7_empties 43 = .ok (.iadd, 1) := by decide +kernel
theorem dX7_empties_44 : decode cX7_empties 44 = .ok (.iconst 0, 1) := by decide +kernel
theorem dX7_empties_45 : decode cX7_empties 45 = .ok (.iastore, 1) := by decide +kernel
theorem dX7_empties_46 : decode cX7_empties 46 = .ok (.return_, 1) := by decide +kernel
theorem dX7_writesBack_0 : decode cX7_writesBack 0 = .ok (.aload_n 0, 1) := by decide +kernel
theorem dX7_writesBack_1 : decode cX7_writesBack 1 = .ok (.getfield 53, 3) := by decide +kernel
theorem dX7_writesBack_4 : decode cX7_writesBack 4 = .ok (.iconst 2, 1) := by decide +kernel
theorem dX7_writesBack_5 : decode cX7_writesBack 5 = .ok (.dup2, 1) := by decide +kernel
theorem dX7_writesBack_6 : decode cX7_writesBack 6 = .ok (.iaload, 1) := by decide +kernel
theorem dX7_writesBack_7 : decode cX7_writesBack 7 = .ok (.iconst 1, 1) := by decide +kernel
theorem dX7_writesBack_8 : decode cX7_writesBack 8 = .ok (.iadd, 1) := by decide +kernel
theorem dX7_writesBack_9 : decode cX7_writesBack 9 = .ok (.iastore, 1) := by decide +kernel
theorem dX7_writesBack_10 : decode cX7_writesBack 10 = .ok (.aload_n 0, 1) := by decide +kernel
theorem dX7_writesBack_11 : decode cX7_writesBack 11 = .ok (.getfield 53, 3) := by decide +kernel
theorem dX7_writesBack_14 : decode cX7_writesBack 14 = .ok (.iload_n 1, 1) := by decide +kernel
theorem dX7_writesBack_15 : decode cX7_writesBack 15 = .ok (.iconst 0, 1) := by decide +kernel
theorem dX7_writesBack_16 : decode cX7_writesBack 16 = .ok (.iadd, 1) := by decide +kernel
theorem dX7_writesBack_17 : decode cX7_writesBack 17 = .ok (.iaload, 1) := by decide +kernel
theorem dX7_writesBack_18 : decode cX7_writesBack 18 = .ok (.bipush 16, 2) := by decide +kernel
theorem dX7_writesBack_20 : decode cX7_writesBack 20 = .ok (.if_icmp .ne 4, 3) := by decide +kernel
theorem dX7_writesBack_23 : decode cX7_writesBack 23 = .ok (.return_, 1) := by decide +kernel
theorem dX7_writesBack_24 : decode cX7_writesBack 24 = .ok (.iconst 0, 1) := by decide +kernel
theorem dX7_writesBack_25 : decode cX7_writesBack 25 = .ok (.istore_n 2, 1) := by decide +kernel
theorem dX7_writesBack_26 : decode cX7_writesBack 26 = .ok (.iload_n 2, 1) := by decide +kernel
theorem dX7_writesBack_27 : decode cX7_writesBack 27 = .ok (.aload_n 0, 1) := by decide +kernel
theorem dX7_writesBack_28 : decode cX7_writesBack 28 = .ok (.getfield 17, 3) := by decide +kernel
theorem dX7_writesBack_31 : decode cX7_writesBack 31 = .ok (.iconst 2, 1) := by decide +kernel
theorem dX7_writesBack_32 : decode cX7_writesBack 32 = .ok (.iaload, 1) := by decide +kernel
theorem dX7_writesBack_33 : decode cX7_writesBack 33 = .ok (.if_icmp .ge 45, 3) := by decide +kernel
theorem dX7_writesBack_36 : decode cX7_writesBack 36 = .ok (.aload_n 0, 1) := by decide +kernel
theorem dX7_writesBack_37 : decode cX7_writesBack 37 = .ok (.getfield 53, 3) := by decide +kernel
theorem dX7_writesBack_40 : decode cX7_writesBack 40 = .ok (.sipush 254, 3) := by decide +kernel
theorem dX7_writesBack_43 : decode cX7_writesBack 43 = .ok (.aload_n 0, 1) := by decide +kernel
theorem dX7_writesBack_44 : decode cX7_writesBack 44 = .ok (.getfield 17, 3) := by decide +kernel
theorem dX7_writesBack_47 : decode cX7_writesBack 47 = .ok (.iconst 2, 1) := by decide +kernel
theorem dX7_writesBack_48 : decode cX7_writesBack 48 = .ok (.iaload, 1) := by decide +kernel
theorem dX7_writesBack_49 : decode cX7_writesBack 49 = .ok (.aload_n 0, 1) := by decide +kernel
theorem dX7_writesBack_50 : decode cX7_writesBack 50 = .ok (.getfield 53, 3) := by decide +kernel
theorem dX7_writesBack_53 : decode cX7_writesBack 53 = .ok (.iload_n 1, 1) := by decide +kernel
theorem dX7_writesBack_54 : decode cX7_writesBack 54 = .ok (.iconst 0, 1) := by decide +kernel
theorem dX7_writesBack_55 : decode cX7_writesBack 55 = .ok (.iadd, 1) := by decide +kernel
theorem dX7_writesBack_56 : decode cX7_writesBack 56 = .ok (.iaload, 1) := by decide +kernel
theorem dX7_writesBack_57 : decode cX7_writesBack 57 = .ok (.imul, 1) := by decide +kernel
theorem dX7_writesBack_58 : decode cX7_writesBack 58 = .ok (.iadd, 1) := by decide +kernel
theorem dX7_writesBack_59 : decode cX7_writesBack 59 = .ok (.iload_n 2, 1) := by decide +kernel
theorem dX7_writesBack_60 : decode cX7_writesBack 60 = .ok (.iadd, 1) := by decide +kernel
theorem dX7_writesBack_61 : decode cX7_writesBack 61 = .ok (.aload_n 0, 1) := by decide +kernel
theorem dX7_writesBack_62 : decode cX7_writesBack 62 = .ok (.getfield 53, 3) := by decide +kernel
theorem dX7_writesBack_65 : decode cX7_writesBack 65 = .ok (.iload_n 1, 1) := by decide +kernel
theorem dX7_writesBack_66 : decode cX7_writesBack 66 = .ok (.iconst 5, 1) := by decide +kernel
theorem dX7_writesBack_67 : decode cX7_writesBack 67 = .ok (.iadd, 1) := by decide +kernel
theorem dX7_writesBack_68 : decode cX7_writesBack 68 = .ok (.iload_n 2, 1) := by decide +kernel
theorem dX7_writesBack_69 : decode cX7_writesBack 69 = .ok (.iadd, 1) := by decide +kernel
theorem dX7_writesBack_70 : decode cX7_writesBack 70 = .ok (.iaload, 1) := by decide +kernel
theorem dX7_writesBack_71 : decode cX7_writesBack 71 = .ok (.iastore, 1) := by decide +kernel
theorem dX7_writesBack_72 : decode cX7_writesBack 72 = .ok (.iinc 2 1, 3) := by decide +kernel
theorem dX7_writesBack_75 : decode cX7_writesBack 75 = .ok (.goto (-49), 3) := by decide +kernel
theorem dX7_writesBack_78 : decode cX7_writesBack 78 = .ok (.return_, 1) := by decide +kernel
theorem dX7_ends_0 : decode cX7_ends 0 = .ok (.iconst 0, 1) := by decide +kernel
theorem dX7_ends_1 : decode cX7_ends 1 = .ok (.istore_n 3, 1) := by decide +kernel
theorem dX7_ends_2 : decode cX7_ends 2 = .ok (.iload_n 3, 1) := by decide +kernel
theorem dX7_ends_3 : decode cX7_ends 3 = .ok (.aload_n 0, 1) := by decide +kernel
theorem dX7_ends_4 : decode cX7_ends 4 = .ok (.getfield 17, 3) := by decide +kernel
theorem dX7_ends_7 : decode cX7_ends 7 = .ok (.iconst 0, 1) := by decide +kernel
theorem dX7_ends_8 : decode cX7_ends 8 = .ok (.iaload, 1) := by decide +kernel
theorem dX7_ends_9 : decode cX7_ends 9 = .ok (.if_icmp .ge 65, 3) := by decide +kernel
theorem dX7_ends_12 : decode cX7_ends 12 = .ok (.iconst 0, 1) := by decide +kernel
theorem dX7_ends_13 : decode cX7_ends 13 = .ok (.istore 4, 2) := by decide +kernel
theorem dX7_ends_15 : decode cX7_ends 15 = .ok (.iload 4, 2) := by decide +kernel
theorem dX7_ends_17 : decode cX7_ends 17 = .ok (.aload_n 0, 1) := by decide +kernel
theorem dX7_ends_18 : decode cX7_ends 18 = .ok (.getfield 242, 3) := by decide +kernel
theorem dX7_ends_21 : decode cX7_ends 21 = .ok (.if_icmp .ge 47, 3) := by decide +kernel
theorem dX7_ends_24 : decode cX7_ends 24 = .ok (.iload_n 1, 1) := by decide +kernel
theorem dX7_ends_25 : decode cX7_ends 25 = .ok (.iload_n 3, 1) := by decide +kernel
theorem dX7_ends_26 : decode cX7_ends 26 = .ok (.iload 4, 2) := by decide +kernel
theorem dX7_ends_28 : decode cX7_ends 28 = .ok (.invokestatic 247, 3) := by decide +kernel
theorem dX7_ends_31 : decode cX7_ends 31 = .ok (.istore 5, 2) := by decide +kernel
theorem dX7_ends_33 : decode cX7_ends 33 = .ok (.aload_n 0, 1) := by decide +kernel
theorem dX7_ends_34 : decode cX7_ends 34 = .ok (.getfield 53, 3) := by decide +kernel
theorem dX7_ends_37 : decode cX7_ends 37 = .ok (.iload 5, 2) := by decide +kernel
theorem dX7_ends_39 : decode cX7_ends 39 = .ok (.iconst 3, 1) := by decide +kernel
theorem dX7_ends_40 : decode cX7_ends 40 = .ok (.iadd, 1) := by decide +kernel
theorem dX7_ends_41 : decode cX7_ends 41 = .ok (.iaload, 1) := by decide +kernel
theorem dX7_ends_42 : decode cX7_ends 42 = .ok (.iconst 1, 1) := by decide +kernel
theorem dX7_ends_43 : decode cX7_ends 43 = .ok (.if_icmp .ne 9, 3) := by decide +kernel
theorem dX7_ends_46 : decode cX7_ends 46 = .ok (.aload_n 0, 1) := by decide +kernel
theorem dX7_ends_47 : decode cX7_ends 47 = .ok (.iload 5, 2) := by decide +kernel
theorem dX7_ends_49 : decode cX7_ends 49 = .ok (.invokevirtual 251, 3) := by decide +kernel
theorem dX7_ends_52 : decode cX7_ends 52 = .ok (.aload_n 0, 1) := by decide +kernel
theorem dX7_ends_53 : decode cX7_ends 53 = .ok (.getfield 53, 3) := by decide +kernel
theorem dX7_ends_56 : decode cX7_ends 56 = .ok (.iload 5, 2) := by decide +kernel
theorem dX7_ends_58 : decode cX7_ends 58 = .ok (.iconst 2, 1) := by decide +kernel
theorem dX7_ends_59 : decode cX7_ends 59 = .ok (.iadd, 1) := by decide +kernel
theorem dX7_ends_60 : decode cX7_ends 60 = .ok (.iconst 0, 1) := by decide +kernel
theorem dX7_ends_61 : decode cX7_ends 61 = .ok (.iastore, 1) := by decide +kernel
theorem dX7_ends_62 : decode cX7_ends 62 = .ok (.iinc 4 1, 3) := by decide +kernel
theorem dX7_ends_65 : decode cX7_ends 65 = .ok (.goto (-50), 3) := by decide +kernel
theorem dX7_ends_68 : decode cX7_ends 68 = .ok (.iinc 3 1, 3) := by decide +kernel
theorem dX7_ends_71 : decode cX7_ends 71 = .ok (.goto (-69), 3) := by decide +kernel
theorem dX7_ends_74 : decode cX7_ends 74 = .ok (.aload_n 0, 1) := by decide +kernel
theorem dX7_ends_75 : decode cX7_ends 75 = .ok (.getfield 53, 3) := by decide +kernel
theorem dX7_ends_78 : decode cX7_ends 78 = .ok (.iload_n 1, 1) := by decide +kernel
theorem dX7_ends_79 : decode cX7_ends 79 = .ok (.iconst 1, 1) := by decide +kernel
theorem dX7_ends_80 : decode cX7_ends 80 = .ok (.invokestatic 244, 3) := by decide +kernel
theorem dX7_ends_83 : decode cX7_ends 83 = .ok (.iconst 0, 1) := by decide +kernel
theorem dX7_ends_84 : decode cX7_ends 84 = .ok (.iastore, 1) := by decide +kernel
theorem dX7_ends_85 : decode cX7_ends 85 = .ok (.aload_n 0, 1) := by decide +kernel
theorem dX7_ends_86 : decode cX7_ends 86 = .ok (.getfield 53, 3) := by decide +kernel
theorem dX7_ends_89 : decode cX7_ends 89 = .ok (.iload_n 1, 1) := by decide +kernel
theorem dX7_ends_90 : decode cX7_ends 90 = .ok (.iconst 2, 1) := by decide +kernel
theorem dX7_ends_91 : decode cX7_ends 91 = .ok (.invokestatic 244, 3) := by decide +kernel
theorem dX7_ends_94 : decode cX7_ends 94 = .ok (.iconst 0, 1) := by decide +kernel
theorem dX7_ends_95 : decode cX7_ends 95 = .ok (.iastore, 1) := by decide +kernel
theorem dX7_ends_96 : decode cX7_ends 96 = .ok (.aload_n 0, 1) := by decide +kernel
theorem dX7_ends_97 : decode cX7_ends 97 = .ok (.getfield 53, 3) := by decide +kernel
theorem dX7_ends_100 : decode cX7_ends 100 = .ok (.iload_n 1, 1) := by decide +kernel
theorem dX7_ends_101 : decode cX7_ends 101 = .ok (.iconst 0, 1) := by decide +kernel
theorem dX7_ends_102 : decode cX7_ends 102 = .ok (.invokestatic 244, 3) := by decide +kernel
theorem dX7_ends_105 : decode cX7_ends 105 = .ok (.aload_n 0, 1) := by decide +kernel
theorem dX7_ends_106 : decode cX7_ends 106 = .ok (.getfield 53, 3) := by decide +kernel
theorem dX7_ends_109 : decode cX7_ends 109 = .ok (.iload_n 1, 1) := by decide +kernel
theorem dX7_ends_110 : decode cX7_ends 110 = .ok (.bipush 6, 2) := by decide +kernel
theorem dX7_ends_112 : decode cX7_ends 112 = .ok (.invokestatic 244, 3) := by decide +kernel
theorem dX7_ends_115 : decode cX7_ends 115 = .ok (.iaload, 1) := by decide +kernel
theorem dX7_ends_116 : decode cX7_ends 116 = .ok (.iastore, 1) := by decide +kernel
theorem dX7_ends_117 : decode cX7_ends 117 = .ok (.aload_n 0, 1) := by decide +kernel
theorem dX7_ends_118 : decode cX7_ends 118 = .ok (.getfield 53, 3) := by decide +kernel
theorem dX7_ends_121 : decode cX7_ends 121 = .ok (.iload_n 1, 1) := by decide +kernel
theorem dX7_ends_122 : decode cX7_ends 122 = .ok (.iconst 3, 1) := by decide +kernel
theorem dX7_ends_123 : decode cX7_ends 123 = .ok (.invokestatic 244, 3) := by decide +kernel
theorem dX7_ends_126 : decode cX7_ends 126 = .ok (.iconst 0, 1) := by decide +kernel
theorem dX7_ends_127 : decode cX7_ends 127 = .ok (.iastore, 1) := by decide +kernel
theorem dX7_ends_128 : decode cX7_ends 128 = .ok (.aload_n 0, 1) := by decide +kernel
theorem dX7_ends_129 : decode cX7_ends 129 = .ok (.getfield 53, 3) := by decide +kernel
theorem dX7_ends_132 : decode cX7_ends 132 = .ok (.iload_n 1, 1) := by decide +kernel
theorem dX7_ends_133 : decode cX7_ends 133 = .ok (.bipush 7, 2) := by decide +kernel
theorem dX7_ends_135 : decode cX7_ends 135 = .ok (.iload_n 2, 1) := by decide +kernel
theorem dX7_ends_136 : decode cX7_ends 136 = .ok (.iadd, 1) := by decide +kernel
theorem dX7_ends_137 : decode cX7_ends 137 = .ok (.invokestatic 244, 3) := by decide +kernel
theorem dX7_ends_140 : decode cX7_ends 140 = .ok (.dup2, 1) := by decide +kernel
theorem dX7_ends_141 : decode cX7_ends 141 = .ok (.iaload, 1) := by decide +kernel
theorem dX7_ends_142 : decode cX7_ends 142 = .ok (.iconst 1, 1) := by decide +kernel
theorem dX7_ends_143 : decode cX7_ends 143 = .ok (.iadd, 1) := by decide +kernel
theorem dX7_ends_144 : decode cX7_ends 144 = .ok (.iastore, 1) := by decide +kernel
theorem dX7_ends_145 : decode cX7_ends 145 = .ok (.iload_n 2, 1) := by decide +kernel
theorem dX7_ends_146 : decode cX7_ends 146 = .ok (.ifCond .ne 17, 3) := by decide +kernel
theorem dX7_ends_149 : decode cX7_ends 149 = .ok (.aload_n 0, 1) := by decide +kernel
theorem dX7_ends_150 : decode cX7_ends 150 = .ok (.getfield 53, 3) := by decide +kernel
theorem dX7_ends_153 : decode cX7_ends 153 = .ok (.iload_n 1, 1) := by decide +kernel
theorem dX7_ends_154 : decode cX7_ends 154 = .ok (.iconst 4, 1) := by decide +kernel
theorem dX7_ends_155 : decode cX7_ends 155 = .ok (.invokestatic 244, 3) := by decide +kernel
theorem dX7_ends_158 : decode cX7_ends 158 = .ok (.dup2, 1) := by decide +kernel
theorem dX7_ends_159 : decode cX7_ends 159 = .ok (.iaload, 1) := by decide +kernel
theorem dX7_ends_160 : decode cX7_ends 160 = .ok (.iconst 1, 1) := by decide +kernel
theorem dX7_ends_161 : decode cX7_ends 161 = .ok (.iadd, 1) := by decide +kernel
theorem dX7_ends_162 : decode cX7_ends 162 = .ok (.iastore, 1) := by decide +kernel
theorem dX7_ends_163 : decode cX7_ends 163 = .ok (.iload_n 2, 1) := by decide +kernel
theorem dX7_ends_164 : decode cX7_ends 164 = .ok (.iconst 1, 1) := by decide +kernel
theorem dX7_ends_165 : decode cX7_ends 165 = .ok (.if_icmp .ne 17, 3) := by decide +kernel
theorem dX7_ends_168 : decode cX7_ends 168 = .ok (.aload_n 0, 1) := by decide +kernel
theorem dX7_ends_169 : decode cX7_ends 169 = .ok (.getfield 53, 3) := by decide +kernel
theorem dX7_ends_172 : decode cX7_ends 172 = .ok (.iload_n 1, 1) := by decide +kernel
theorem dX7_ends_173 : decode cX7_ends 173 = .ok (.iconst 4, 1) := by decide +kernel
theorem dX7_ends_174 : decode cX7_ends 174 = .ok (.invokestatic 244, 3) := by decide +kernel
theorem dX7_ends_177 : decode cX7_ends 177 = .ok (.aload_n 0, 1) := by decide +kernel
theorem dX7_ends_178 : decode cX7_ends 178 = .ok (.getfield 240, 3) := by decide +kernel
theorem dX7_ends_181 : decode cX7_ends 181 = .ok (.iastore, 1) := by decide +kernel
theorem dX7_ends_182 : decode cX7_ends 182 = .ok (.aload_n 0, 1) := by decide +kernel
theorem dX7_ends_183 : decode cX7_ends 183 = .ok (.dup, 1) := by decide +kernel
theorem dX7_ends_184 : decode cX7_ends 184 = .ok (.getfield 254, 3) := by decide +kernel
theorem dX7_ends_187 : decode cX7_ends 187 = .ok (.iconst 1, 1) := by decide +kernel
theorem dX7_ends_188 : decode cX7_ends 188 = .ok (.iload_n 1, 1) := by decide +kernel
theorem dX7_ends_189 : decode cX7_ends 189 = .ok (.ishl, 1) := by decide +kernel
theorem dX7_ends_190 : decode cX7_ends 190 = .ok (.ior, 1) := by decide +kernel
theorem dX7_ends_191 : decode cX7_ends 191 = .ok (.putfield 254, 3) := by decide +kernel
theorem dX7_ends_194 : decode cX7_ends 194 = .ok (.return_, 1) := by decide +kernel
theorem dX7_isRival_0 : decode cX7_isRival 0 = .ok (.iload_n 2, 1) := by decide +kernel
theorem dX7_isRival_1 : decode cX7_isRival 1 = .ok (.iload_n 1, 1) := by decide +kernel
theorem dX7_isRival_2 : decode cX7_isRival 2 = .ok (.if_icmp .ne 7, 3) := by decide +kernel
theorem dX7_isRival_5 : decode cX7_isRival 5 = .ok (.iconst (-1), 1) := by decide +kernel
theorem dX7_isRival_6 : decode cX7_isRival 6 = .ok (.goto 9, 3) := by decide +kernel
theorem dX7_isRival_9 : decode cX7_isRival 9 = .ok (.aload_n 0, 1) := by decide +kernel
theorem dX7_isRival_10 : decode cX7_isRival 10 = .ok (.iload_n 2, 1) := by decide +kernel
theorem dX7_isRival_11 : decode cX7_isRival 11 = .ok (.iload_n 3, 1) := by decide +kernel
theorem dX7_isRival_12 : decode cX7_isRival 12 = .ok (.invokevirtual 257, 3) := by decide +kernel
theorem dX7_isRival_15 : decode cX7_isRival 15 = .ok (.istore 5, 2) := by decide +kernel
theorem dX7_isRival_17 : decode cX7_isRival 17 = .ok (.iload 5, 2) := by decide +kernel
theorem dX7_isRival_19 : decode cX7_isRival 19 = .ok (.iconst (-1), 1) := by decide +kernel
theorem dX7_isRival_20 : decode cX7_isRival 20 = .ok (.if_icmp .eq 38, 3) := by decide +kernel
theorem dX7_isRival_23 : decode cX7_isRival 23 = .ok (.aload_n 0, 1) := by decide +kernel
theorem dX7_isRival_24 : decode cX7_isRival 24 = .ok (.getfield 53, 3) := by decide +kernel
theorem dX7_isRival_27 : decode cX7_isRival 27 = .ok (.iload 5, 2) := by decide +kernel
theorem dX7_isRival_29 : decode cX7_isRival 29 = .ok (.iconst 3, 1) := by decide +kernel
theorem dX7_isRival_30 : decode cX7_isRival 30 = .ok (.iadd, 1) := by decide +kernel
theorem dX7_isRival_31 : decode cX7_isRival 31 = .ok (.iaload, 1) := by decide +kernel
theorem dX7_isRival_32 : decode cX7_isRival 32 = .ok (.iconst 1, 1) := by decide +kernel
theorem dX7_isRival_33 : decode cX7_isRival 33 = .ok (.if_icmp .eq 21, 3) := by decide +kernel
theorem dX7_isRival_36 : decode cX7_isRival 36 = .ok (.iload 4, 2) := by decide +kernel
theorem dX7_isRival_38 : decode cX7_isRival 38 = .ok (.ifCond .eq 20, 3) := by decide +kernel
theorem dX7_isRival_41 : decode cX7_isRival 41 = .ok (.aload_n 0, 1) := by decide +kernel
theorem dX7_isRival_42 : decode cX7_isRival 42 = .ok (.getfield 53, 3) := by decide +kernel
theorem dX7_isRival_45 : decode cX7_isRival 45 = .ok (.iload 5, 2) := by decide +kernel
theorem dX7_isRival_47 : decode cX7_isRival 47 = .ok (.iconst 2, 1) := by decide +kernel
theorem dX7_isRival_48 : decode cX7_isRival 48 = .ok (.iadd, 1) := by decide +kernel
theorem dX7_isRival_49 : decode cX7_isRival 49 = .ok (.iaload, 1) := by decide +kernel
theorem dX7_isRival_50 : decode cX7_isRival 50 = .ok (.iconst 1, 1) := by decide +kernel
theorem dX7_isRival_51 : decode cX7_isRival 51 = .ok (.if_icmp .ne 7, 3) := by decide +kernel
theorem dX7_isRival_54 : decode cX7_isRival 54 = .ok (.iconst 1, 1) := by decide +kernel
theorem dX7_isRival_55 : decode cX7_isRival 55 = .ok (.goto 4, 3) := by decide +kernel
theorem dX7_isRival_58 : decode cX7_isRival 58 = .ok (.iconst 0, 1) := by decide +kernel
theorem dX7_isRival_59 : decode cX7_isRival 59 = .ok (.ireturn, 1) := by decide +kernel
theorem dX7_isSomeElder_0 : decode cX7_isSomeElder 0 = .ok (.iconst 0, 1) := by decide +kernel
theorem dX7_isSomeElder_1 : decode cX7_isSomeElder 1 = .ok (.istore 4, 2) := by decide +kernel
theorem dX7_isSomeElder_3 : decode cX7_isSomeElder 3 = .ok (.iload 4, 2) := by decide +kernel
theorem dX7_isSomeElder_5 : decode cX7_isSomeElder 5 = .ok (.aload_n 0, 1) := by decide +kernel
theorem dX7_isSomeElder_6 : decode cX7_isSomeElder 6 = .ok (.getfield 17, 3) := by decide +kernel
theorem dX7_isSomeElder_9 : decode cX7_isSomeElder 9 = .ok (.iconst 5, 1) := by decide +kernel
theorem dX7_isSomeElder_10 : decode cX7_isSomeElder 10 = .ok (.iaload, 1) := by decide +kernel
theorem dX7_isSomeElder_11 : decode cX7_isSomeElder 11 = .ok (.if_icmp .ge 47, 3) := by decide +kernel
theorem dX7_isSomeElder_14 : decode cX7_isSomeElder 14 = .ok (.aload_n 0, 1) := by decide +kernel
theorem dX7_isSomeElder_15 : decode cX7_isSomeElder 15 = .ok (.iload_n 1, 1) := by decide +kernel
theorem dX7_isSomeElder_16 : decode cX7_isSomeElder 16 = .ok (.iload 4, 2) := by decide +kernel
theorem dX7_isSomeElder_18 : decode cX7_isSomeElder 18 = .ok (.iload_n 2, 1) := by decide +kernel
theorem dX7_isSomeElder_19 : decode cX7_isSomeElder 19 = .ok (.iload_n 3, 1) := by decide +kernel
theorem dX7_isSomeElder_20 : decode cX7_isSomeElder 20 = .ok (.invokevirtual 260, 3) := by decide +kernel
theorem dX7_isSomeElder_23 : decode cX7_isSomeElder 23 = .ok (.ifCond .eq 29, 3) := by decide +kernel
theorem dX7_isSomeElder_26 : decode cX7_isSomeElder 26 = .ok (.aload_n 0, 1) := by decide +kernel
theorem dX7_isSomeElder_27 : decode cX7_isSomeElder 27 = .ok (.getfield 53, 3) := by decide +kernel
theorem dX7_isSomeElder_30 : decode cX7_isSomeElder 30 = .ok (.iload 4, 2) := by decide +kernel
theorem dX7_isSomeElder_32 : decode cX7_isSomeElder 32 = .ok (.iconst 5, 1) := by decide +kernel
theorem dX7_isSomeElder_33 : decode cX7_isSomeElder 33 = .ok (.invokestatic 244, 3) := by decide +kernel
theorem dX7_isSomeElder_36 : decode cX7_isSomeElder 36 = .ok (.iaload, 1) := by decide +kernel
theorem dX7_isSomeElder_37 : decode cX7_isSomeElder 37 = .ok (.aload_n 0, 1) := by decide +kernel
theorem dX7_isSomeElder_38 : decode cX7_isSomeElder 38 = .ok (.getfield 53, 3) := by decide +kernel
theorem dX7_isSomeElder_41 : decode cX7_isSomeElder 41 = .ok (.iload_n 1, 1) := by decide +kernel
theorem dX7_isSomeElder_42 : decode cX7_isSomeElder 42 = .ok (.iconst 5, 1) := by decide +kernel
theorem dX7_isSomeElder_43 : decode cX7_isSomeElder 43 = .ok (.invokestatic 244, 3) := by decide +kernel
theorem dX7_isSomeElder_46 : decode cX7_isSomeElder 46 = .ok (.iaload, 1) := by decide +kernel
theorem dX7_isSomeElder_47 : decode cX7_isSomeElder 47 = .ok (.if_icmp .gt 5, 3) := by decide +kernel
theorem dX7_isSomeElder_50 : decode cX7_isSomeElder 50 = .ok (.iconst 1, 1) := by decide +kernel
theorem dX7_isSomeElder_51 : decode cX7_isSomeElder 51 = .ok (.ireturn, 1) := by decide +kernel
theorem dX7_isSomeElder_52 : decode cX7_isSomeElder 52 = .ok (.iinc 4 1, 3) := by decide +kernel
theorem dX7_isSomeElder_55 : decode cX7_isSomeElder 55 = .ok (.goto (-52), 3) := by decide +kernel
theorem dX7_isSomeElder_58 : decode cX7_isSomeElder 58 = .ok (.iconst 0, 1) := by decide +kernel
theorem dX7_isSomeElder_59 : decode cX7_isSomeElder 59 = .ok (.ireturn, 1) := by decide +kernel
theorem dX7_decides_0 : decode cX7_decides 0 = .ok (.iconst 0, 1) := by decide +kernel
theorem dX7_decides_1 : decode cX7_decides 1 = .ok (.istore 4, 2) := by decide +kernel
theorem dX7_decides_3 : decode cX7_decides 3 = .ok (.iconst 0, 1) := by decide +kernel
theorem dX7_decides_4 : decode cX7_decides 4 = .ok (.istore 5, 2) := by decide +kernel
theorem dX7_decides_6 : decode cX7_decides 6 = .ok (.iload 5, 2) := by decide +kernel
theorem dX7_decides_8 : decode cX7_decides 8 = .ok (.aload_n 0, 1) := by decide +kernel
theorem dX7_decides_9 : decode cX7_decides 9 = .ok (.getfield 17, 3) := by decide +kernel
theorem dX7_decides_12 : decode cX7_decides 12 = .ok (.iconst 5, 1) := by decide +kernel
theorem dX7_decides_13 : decode cX7_decides 13 = .ok (.iaload, 1) := by decide +kernel
theorem dX7_decides_14 : decode cX7_decides 14 = .ok (.if_icmp .ge 34, 3) := by decide +kernel
theorem dX7_decides_17 : decode cX7_decides 17 = .ok (.iload 4, 2) := by decide +kernel
theorem dX7_decides_19 : decode cX7_decides 19 = .ok (.aload_n 0, 1) := by decide +kernel
theorem dX7_decides_20 : decode cX7_decides 20 = .ok (.iload_n 1, 1) := by decide +kernel
theorem dX7_decides_21 : decode cX7_decides 21 = .ok (.iload 5, 2) := by decide +kernel
theorem dX7_decides_23 : decode cX7_decides 23 = .ok (.iload_n 2, 1) := by decide +kernel
theorem dX7_decides_24 : decode cX7_decides 24 = .ok (.iload_n 3, 1) := by decide +kernel
theorem dX7_decides_25 : decode cX7_decides 25 = .ok (.invokevirtual 260, 3) := by decide +kernel
theorem dX7_decides_28 : decode cX7_decides 28 = .ok (.ifCond .eq 10, 3) := by decide +kernel
theorem dX7_decides_31 : decode cX7_decides 31 = .ok (.iconst 1, 1) := by decide +kernel
theorem dX7_decides_32 : decode cX7_decides 32 = .ok (.iload 5, 2) := by decide +kernel
theorem dX7_decides_34 : decode cX7_decides 34 = .ok (.ishl, 1) := by decide +kernel
theorem dX7_decides_35 : decode cX7_decides 35 = .ok (.goto 4, 3) := by decide +kernel
theorem dX7_decides_38 : decode cX7_decides 38 = .ok (.iconst 0, 1) := by decide +kernel
theorem dX7_decides_39 : decode cX7_decides 39 = .ok (.ior, 1) := by decide +kernel
theorem dX7_decides_40 : decode cX7_decides 40 = .ok (.istore 4, 2) := by decide +kernel
theorem dX7_decides_42 : decode cX7_decides 42 = .ok (.iinc 5 1, 3) := by decide +kernel
theorem dX7_decides_45 : decode cX7_decides 45 = .ok (.goto (-39), 3) := by decide +kernel
theorem dX7_decides_48 : decode cX7_decides 48 = .ok (.iload 4, 2) := by decide +kernel
theorem dX7_decides_50 : decode cX7_decides 50 = .ok (.ifCond .ne 5, 3) := by decide +kernel
theorem dX7_decides_53 : decode cX7_decides 53 = .ok (.iconst 1, 1) := by decide +kernel
theorem dX7_decides_54 : decode cX7_decides 54 = .ok (.ireturn, 1) := by decide +kernel
theorem dX7_decides_55 : decode cX7_decides 55 = .ok (.aload_n 0, 1) := by decide +kernel
theorem dX7_decides_56 : decode cX7_decides 56 = .ok (.getfield 238, 3) := by decide +kernel
theorem dX7_decides_59 : decode cX7_decides 59 = .ok (.iconst 1, 1) := by decide +kernel
theorem dX7_decides_60 : decode cX7_decides 60 = .ok (.if_icmp .ne 15, 3) := by decide +kernel
theorem dX7_decides_63 : decode cX7_decides 63 = .ok (.aload_n 0, 1) := by decide +kernel
theorem dX7_decides_64 : decode cX7_decides 64 = .ok (.iload_n 1, 1) := by decide +kernel
theorem dX7_decides_65 : decode cX7_decides 65 = .ok (.iload_n 2, 1) := by decide +kernel
theorem dX7_decides_66 : decode cX7_decides 66 = .ok (.iload_n 3, 1) := by decide +kernel
theorem dX7_decides_67 : decode cX7_decides 67 = .ok (.invokevirtual 264, 3) := by decide +kernel
theorem dX7_decides_70 : decode cX7_decides 70 = .ok (.ifCond .eq 5, 3) := by decide +kernel
theorem dX7_decides_73 : decode cX7_decides 73 = .ok (.iconst 2, 1) := by decide +kernel
theorem dX7_decides_74 : decode cX7_decides 74 = .ok (.ireturn, 1) := by decide +kernel
theorem dX7_decides_75 : decode cX7_decides 75 = .ok (.aload_n 0, 1) := by decide +kernel
theorem dX7_decides_76 : decode cX7_decides 76 = .ok (.getfield 238, 3) := by decide +kernel
theorem dX7_decides_79 : decode cX7_decides 79 = .ok (.iconst 1, 1) := by decide +kernel
theorem dX7_decides_80 : decode cX7_decides 80 = .ok (.if_icmp .le 11, 3) := by decide +kernel
theorem dX7_decides_83 : decode cX7_decides 83 = .ok (.aload_n 0, 1) := by decide +kernel
theorem dX7_decides_84 : decode cX7_decides 84 = .ok (.iload_n 1, 1) := by decide +kernel
theorem dX7_decides_85 : decode cX7_decides 85 = .ok (.iconst 0, 1) := by decide +kernel
theorem dX7_decides_86 : decode cX7_decides 86 = .ok (.invokevirtual 268, 3) := by decide +kernel
theorem dX7_decides_89 : decode cX7_decides 89 = .ok (.iconst 3, 1) := by decide +kernel
theorem dX7_decides_90 : decode cX7_decides 90 = .ok (.ireturn, 1) := by decide +kernel
theorem dX7_decides_91 : decode cX7_decides 91 = .ok (.iconst 0, 1) := by decide +kernel
theorem dX7_decides_92 : decode cX7_decides 92 = .ok (.istore 5, 2) := by decide +kernel
theorem dX7_decides_94 : decode cX7_decides 94 = .ok (.iload 5, 2) := by decide +kernel
theorem dX7_decides_96 : decode cX7_decides 96 = .ok (.aload_n 0, 1) := by decide +kernel
theorem dX7_decides_97 : decode cX7_decides 97 = .ok (.getfield 17, 3) := by decide +kernel
theorem dX7_decides_100 : decode cX7_decides 100 = .ok (.iconst 5, 1) := by decide +kernel
theorem dX7_decides_101 : decode cX7_decides 101 = .ok (.iaload, 1) := by decide +kernel
theorem dX7_decides_102 : decode cX7_decides 102 = .ok (.if_icmp .ge 27, 3) := by decide +kernel
theorem dX7_decides_105 : decode cX7_decides 105 = .ok (.iload 4, 2) := by decide +kernel
theorem dX7_decides_107 : decode cX7_decides 107 = .ok (.iload 5, 2) := by decide +kernel
theorem dX7_decides_109 : decode cX7_decides 109 = .ok (.ishr, 1) := by decide +kernel
theorem dX7_decides_110 : decode cX7_decides 110 = .ok (.iconst 1, 1) := by decide +kernel
theorem dX7_decides_111 : decode cX7_decides 111 = .ok (.iand, 1) := by decide +kernel
theorem dX7_decides_112 : decode cX7_decides 112 = .ok (.iconst 1, 1) := by decide +kernel
theorem dX7_decides_113 : decode cX7_decides 113 = .ok (.if_icmp .ne 10, 3) := by decide +kernel
theorem dX7_decides_116 : decode cX7_decides 116 = .ok (.aload_n 0, 1) := by decide +kernel
theorem dX7_decides_117 : decode cX7_decides 117 = .ok (.iload 5, 2) := by decide +kernel
theorem dX7_decides_119 : decode cX7_decides 119 = .ok (.iconst 0, 1) := by decide +kernel
theorem dX7_decides_120 : decode cX7_decides 120 = .ok (.invokevirtual 268, 3) := by decide +kernel
theorem dX7_decides_123 : decode cX7_decides 123 = .ok (.iinc 5 1, 3) := by decide +kernel
theorem dX7_decides_126 : decode cX7_decides 126 = .ok (.goto (-32), 3) := by decide +kernel
theorem dX7_decides_129 : decode cX7_decides 129 = .ok (.iconst 1, 1) := by decide +kernel
theorem dX7_decides_130 : decode cX7_decides 130 = .ok (.ireturn, 1) := by decide +kernel
theorem dX7_room_0 : decode cX7_room 0 = .ok (.iconst (-1), 1) := by decide +kernel
theorem dX7_room_1 : decode cX7_room 1 = .ok (.istore_n 3, 1) := by decide +kernel
theorem dX7_room_2 : decode cX7_room 2 = .ok (.iconst 0, 1) := by decide +kernel
theorem dX7_room_3 : decode cX7_room 3 = .ok (.istore 4, 2) := by decide +kernel
theorem dX7_room_5 : decode cX7_room 5 = .ok (.iload 4, 2) := by decide +kernel
theorem dX7_room_7 : decode cX7_room 7 = .ok (.aload_n 0, 1) := by decide +kernel
theorem dX7_room_8 : decode cX7_room 8 = .ok (.getfield 242, 3) := by decide +kernel
theorem dX7_room_11 : decode cX7_room 11 = .ok (.if_icmp .ge 94, 3) := by decide +kernel
theorem dX7_room_14 : decode cX7_room 14 = .ok (.iload_n 1, 1) := by decide +kernel
theorem dX7_room_15 : decode cX7_room 15 = .ok (.iload_n 2, 1) := by decide +kernel
theorem dX7_room_16 : decode cX7_room 16 = .ok (.aload_n 0, 1) := by decide +kernel
theorem dX7_room_17 : decode cX7_room 17 = .ok (.getfield 17, 3) := by decide +kernel
theorem dX7_room_20 : decode cX7_room 20 = .ok (.iconst 0, 1) := by decide +kernel
theorem dX7_room_21 : decode cX7_room 21 = .ok (.iaload, 1) := by decide +kernel
theorem dX7_room_22 : decode cX7_room 22 = .ok (.irem, 1) := by decide +kernel
theorem dX7_room_23 : decode cX7_room 23 = .ok (.iload 4, 2) := by decide +kernel
theorem dX7_room_25 : decode cX7_room 25 = .ok (.invokestatic 247, 3) := by decide +kernel
theorem dX7_room_28 : decode cX7_room 28 = .ok (.istore 5, 2) := by decide +kernel
theorem dX7_room_30 : decode cX7_room 30 = .ok (.aload_n 0, 1) := by decide +kernel
theorem dX7_room_31 : decode cX7_room 31 = .ok (.getfield 53, 3) := by decide +kernel
theorem dX7_room_34 : decode cX7_room 34 = .ok (.iload 5, 2) := by decide +kernel
theorem dX7_room_36 : decode cX7_room 36 = .ok (.iconst 0, 1) := by decide +kernel
theorem dX7_room_37 : decode cX7_room 37 = .ok (.iadd, 1) := by decide +kernel
theorem dX7_room_38 : decode cX7_room 38 = .ok (.iaload, 1) := by decide +kernel
theorem dX7_room_39 : decode cX7_room 39 = .ok (.bipush (-2), 2) := by decide +kernel
theorem dX7_room_41 : decode cX7_room 41 = .ok (.if_icmp .ne 6, 3) := by decide +kernel
theorem dX7_room_44 : decode cX7_room 44 = .ok (.iload 5, 2) := by decide +kernel
theorem dX7_room_46 : decode cX7_room 46 = .ok (.ireturn, 1) := by decide +kernel
theorem dX7_room_47 : decode cX7_room 47 = .ok (.aload_n 0, 1) := by decide +kernel
theorem dX7_room_48 : decode cX7_room 48 = .ok (.getfield 53, 3) := by decide +kernel
theorem dX7_room_51 : decode cX7_room 51 = .ok (.iload 5, 2) := by decide +kernel
theorem dX7_room_53 : decode cX7_room 53 = .ok (.iconst 2, 1) := by decide +kernel
theorem dX7_room_54 : decode cX7_room 54 = .ok (.iadd, 1) := by decide +kernel
theorem dX7_room_55 : decode cX7_room 55 = .ok (.iaload, 1) := by decide +kernel
theorem dX7_room_56 : decode cX7_room 56 = .ok (.ifCond .ne 43, 3) := by decide +kernel
theorem dX7_room_59 : decode cX7_room 59 = .ok (.aload_n 0, 1) := by decide +kernel
theorem dX7_room_60 : decode cX7_room 60 = .ok (.getfield 53, 3) := by decide +kernel
theorem dX7_room_63 : decode cX7_room 63 = .ok (.iload 5, 2) := by decide +kernel
theorem dX7_room_65 : decode cX7_room 65 = .ok (.iconst 3, 1) := by decide +kernel
theorem dX7_room_66 : decode cX7_room 66 = .ok (.iadd, 1) := by decide +kernel
theorem dX7_room_67 : decode cX7_room 67 = .ok (.iaload, 1) := by decide +kernel
theorem dX7_room_68 : decode cX7_room 68 = .ok (.ifCond .ne 31, 3) := by decide +kernel
theorem dX7_room_71 : decode cX7_room 71 = .ok (.iload_n 3, 1) := by decide +kernel
theorem dX7_room_72 : decode cX7_room 72 = .ok (.iconst (-1), 1) := by decide +kernel
theorem dX7_room_73 : decode cX7_room 73 = .ok (.if_icmp .eq 23, 3) := by decide +kernel
theorem dX7_room_76 : decode cX7_room 76 = .ok (.aload_n 0, 1) := by decide +kernel
theorem dX7_room_77 : decode cX7_room 77 = .ok (.getfield 53, 3) := by decide +kernel
theorem dX7_room_80 : decode cX7_room 80 = .ok (.iload 5, 2) := by decide +kernel
theorem dX7_room_82 : decode cX7_room 82 = .ok (.iconst 4, 1) := by decide +kernel
theorem dX7_room_83 : decode cX7_room 83 = .ok (.iadd, 1) := by decide +kernel
theorem dX7_room_84 : decode cX7_room 84 = .ok (.iaload, 1) := by decide +kernel
theorem dX7_room_85 : decode cX7_room 85 = .ok (.aload_n 0, 1) := by decide +kernel
theorem dX7_room_86 : decode cX7_room 86 = .ok (.getfield 53, 3) := by decide +kernel
theorem dX7_room_89 : decode cX7_room 89 = .ok (.iload_n 3, 1) := by decide +kernel
theorem dX7_room_90 : decode cX7_room 90 = .ok (.iconst 4, 1) := by decide +kernel
theorem dX7_room_91 : decode cX7_room 91 = .ok (.iadd, 1) := by decide +kernel
theorem dX7_room_92 : decode cX7_room 92 = .ok (.iaload, 1) := by decide +kernel
theorem dX7_room_93 : decode cX7_room 93 = .ok (.if_icmp .ge 6, 3) := by decide +kernel
theorem dX7_room_96 : decode cX7_room 96 = .ok (.iload 5, 2) := by decide +kernel
theorem dX7_room_98 : decode cX7_room 98 = .ok (.istore_n 3, 1) := by decide +kernel
theorem dX7_room_99 : decode cX7_room 99 = .ok (.iinc 4 1, 3) := by decide +kernel
theorem dX7_room_102 : decode cX7_room 102 = .ok (.goto (-97), 3) := by decide +kernel
theorem dX7_room_105 : decode cX7_room 105 = .ok (.iload_n 3, 1) := by decide +kernel
theorem dX7_room_106 : decode cX7_room 106 = .ok (.ireturn, 1) := by decide +kernel
theorem dX7_othersHave_0 : decode cX7_othersHave 0 = .ok (.iconst 0, 1) := by decide +kernel
theorem dX7_othersHave_1 : decode cX7_othersHave 1 = .ok (.istore 4, 2) := by decide +kernel
theorem dX7_othersHave_3 : decode cX7_othersHave 3 = .ok (.iconst 0, 1) := by decide +kernel
theorem dX7_othersHave_4 : decode cX7_othersHave 4 = .ok (.istore 5, 2) := by decide +kernel
theorem dX7_othersHave_6 : decode cX7_othersHave 6 = .ok (.iload 5, 2) := by decide +kernel
theorem dX7_othersHave_8 : decode cX7_othersHave 8 = .ok (.aload_n 0, 1) := by decide +kernel
theorem dX7_othersHave_9 : decode cX7_othersHave 9 = .ok (.getfield 17, 3) := by decide +kernel
theorem dX7_othersHave_12 : decode cX7_othersHave 12 = .ok (.iconst 5, 1) := by decide +kernel
theorem dX7_othersHave_13 : decode cX7_othersHave 13 = .ok (.iaload, 1) := by decide +kernel
theorem dX7_othersHave_14 : decode cX7_othersHave 14 = .ok (.if_icmp .ge 92, 3) := by decide +kernel
theorem dX7_othersHave_17 : decode cX7_othersHave 17 = .ok (.iload 5, 2) := by decide +kernel
theorem dX7_othersHave_19 : decode cX7_othersHave 19 = .ok (.iload_n 1, 1) := by decide +kernel
theorem dX7_othersHave_20 : decode cX7_othersHave 20 = .ok (.if_icmp .ne 7, 3) := by decide +kernel
theorem dX7_othersHave_23 : decode cX7_othersHave 23 = .ok (.iconst (-1), 1) := by decide +kernel
theorem dX7_othersHave_24 : decode cX7_othersHave 24 = .ok (.goto 10, 3) := by decide +kernel
theorem dX7_othersHave_27 : decode cX7_othersHave 27 = .ok (.aload_n 0, 1) := by decide +kernel
theorem dX7_othersHave_28 : decode cX7_othersHave 28 = .ok (.iload 5, 2) := by decide +kernel
theorem dX7_othersHave_30 : decode cX7_othersHave 30 = .ok (.iload_n 2, 1) := by decide +kernel
theorem dX7_othersHave_31 : decode cX7_othersHave 31 = .ok (.invokevirtual 257, 3) := by decide +kernel
theorem dX7_othersHave_34 : decode cX7_othersHave 34 = .ok (.istore 6, 2) := by decide +kernel
theorem dX7_othersHave_36 : decode cX7_othersHave 36 = .ok (.iload 6, 2) := by decide +kernel
theorem dX7_othersHave_38 : decode cX7_othersHave 38 = .ok (.iconst (-1), 1) := by decide +kernel
theorem dX7_othersHave_39 : decode cX7_othersHave 39 = .ok (.if_icmp .ne 6, 3) := by decide +kernel
theorem dX7_othersHave_42 : decode cX7_othersHave 42 = .ok (.goto 58, 3) := by decide +kernel
theorem dX7_othersHave_45 : decode cX7_othersHave 45 = .ok (.aload_n 0, 1) := by decide +kernel
theorem dX7_othersHave_46 : decode cX7_othersHave 46 = .ok (.getfield 53, 3) := by decide +kernel
theorem dX7_othersHave_49 : decode cX7_othersHave 49 = .ok (.iload 6, 2) := by decide +kernel
theorem dX7_othersHave_51 : decode cX7_othersHave 51 = .ok (.iconst 1, 1) := by decide +kernel
theorem dX7_othersHave_52 : decode cX7_othersHave 52 = .ok (.iadd, 1) := by decide +kernel
theorem dX7_othersHave_53 : decode cX7_othersHave 53 = .ok (.iaload, 1) := by decide +kernel
theorem dX7_othersHave_54 : decode cX7_othersHave 54 = .ok (.iconst 3, 1) := by decide +kernel
theorem dX7_othersHave_55 : decode cX7_othersHave 55 = .ok (.if_icmp .ne 9, 3) := by decide +kernel
theorem dX7_othersHave_58 : decode cX7_othersHave 58 = .ok (.aload_n 0, 1) := by decide +kernel
theorem dX7_othersHave_59 : decode cX7_othersHave 59 = .ok (.iload 6, 2) := by decide +kernel
theorem dX7_othersHave_61 : decode cX7_othersHave 61 = .ok (.invokevirtual 272, 3) := by decide +kernel
theorem dX7_othersHave_64 : decode cX7_othersHave 64 = .ok (.iload_n 3, 1) := by decide +kernel
theorem dX7_othersHave_65 : decode cX7_othersHave 65 = .ok (.ifCond .eq 22, 3) := by decide +kernel
theorem dX7_othersHave_68 : decode cX7_othersHave 68 = .ok (.aload_n 0, 1) := by decide +kernel
theorem dX7_othersHave_69 : decode cX7_othersHave 69 = .ok (.iload 6, 2) := by decide +kernel
theorem dX7_othersHave_71 : decode cX7_othersHave 71 = .ok (.invokevirtual 251, 3) := by decide +kernel
theorem dX7_othersHave_74 : decode cX7_othersHave 74 = .ok (.aload_n 0, 1) := by decide +kernel
theorem dX7_othersHave_75 : decode cX7_othersHave 75 = .ok (.getfield 53, 3) := by decide +kernel
theorem dX7_othersHave_78 : decode cX7_othersHave 78 = .ok (.iconst 3, 1) := by decide +kernel
theorem dX7_othersHave_79 : decode cX7_othersHave 79 = .ok (.dup2, 1) := by decide +kernel
theorem dX7_othersHave_80 : decode cX7_othersHave 80 = .ok (.iaload, 1) := by decide +kernel
theorem dX7_othersHave_81 : decode cX7_othersHave 81 = .ok (.iconst 1, 1) := by decide +kernel
theorem dX7_othersHave_82 : decode cX7_othersHave 82 = .ok (.iadd, 1) := by decide +kernel
theorem dX7_othersHave_83 : decode cX7_othersHave 83 = .ok (.iastore, 1) := by decide +kernel
theorem dX7_othersHave_84 : decode cX7_othersHave 84 = .ok (.goto 16, 3) := by decide +kernel
theorem dX7_othersHave_87 : decode cX7_othersHave 87 = .ok (.aload_n 0, 1) := by decide +kernel
theorem dX7_othersHave_88 : decode cX7_othersHave 88 = .ok (.getfield 53, 3) := by decide +kernel
theorem dX7_othersHave_91 : decode cX7_othersHave 91 = .ok (.iload 6, 2) := by decide +kernel
theorem dX7_othersHave_93 : decode cX7_othersHave 93 = .ok (.iconst 1, 1) := by decide +kernel
theorem dX7_othersHave_94 : decode cX7_othersHave 94 = .ok (.iadd, 1) := by decide +kernel
theorem dX7_othersHave_95 : decode cX7_othersHave 95 = .ok (.iconst 1, 1) := by decide +kernel
theorem dX7_othersHave_96 : decode cX7_othersHave 96 = .ok (.iastore, 1) := by decide +kernel
theorem dX7_othersHave_97 : decode cX7_othersHave 97 = .ok (.iconst 1, 1) := by decide +kernel
theorem dX7_othersHave_98 : decode cX7_othersHave 98 = .ok (.istore 4, 2) := by decide +kernel
theorem dX7_othersHave_100 : decode cX7_othersHave 100 = .ok (.iinc 5 1, 3) := by decide +kernel
theorem dX7_othersHave_103 : decode cX7_othersHave 103 = .ok (.goto (-97), 3) := by decide +kernel
theorem dX7_othersHave_106 : decode cX7_othersHave 106 = .ok (.iload 4, 2) := by decide +kernel
theorem dX7_othersHave_108 : decode cX7_othersHave 108 = .ok (.ireturn, 1) := by decide +kernel
theorem dX7_brings_0 : decode cX7_brings 0 = .ok (.aload_n 0, 1) := by decide +kernel
theorem dX7_brings_1 : decode cX7_brings 1 = .ok (.iload_n 1, 1) := by decide +kernel
theorem dX7_brings_2 : decode cX7_brings 2 = .ok (.iload_n 2, 1) := by decide +kernel
theorem dX7_brings_3 : decode cX7_brings 3 = .ok (.invokevirtual 257, 3) := by decide +kernel
theorem dX7_brings_6 : decode cX7_brings 6 = .ok (.istore 4, 2) := by decide +kernel
theorem dX7_brings_8 : decode cX7_brings 8 = .ok (.iload 4, 2) := by decide +kernel
theorem dX7_brings_10 : decode cX7_brings 10 = .ok (.iconst (-1), 1) := by decide +kernel
theorem dX7_brings_11 : decode cX7_brings 11 = .ok (.if_icmp .ne 12, 3) := by decide +kernel
theorem dX7_brings_14 : decode cX7_brings 14 = .ok (.aload_n 0, 1) := by decide +kernel
theorem dX7_brings_15 : decode cX7_brings 15 = .ok (.iload_n 1, 1) := by decide +kernel
theorem dX7_brings_16 : decode cX7_brings 16 = .ok (.iload_n 2, 1) := by decide +kernel
theorem dX7_brings_17 : decode cX7_brings 17 = .ok (.invokevirtual 275, 3) := by decide +kernel
theorem dX7_brings_20 : decode cX7_brings 20 = .ok (.goto 5, 3) := by decide +kernel
theorem dX7_brings_23 : decode cX7_brings 23 = .ok (.iload 4, 2) := by decide +kernel
theorem dX7_brings_25 : decode cX7_brings 25 = .ok (.istore 5, 2) := by decide +kernel
theorem dX7_brings_27 : decode cX7_brings 27 = .ok (.iload 5, 2) := by decide +kernel
theorem dX7_brings_29 : decode cX7_brings 29 = .ok (.iconst (-1), 1) := by decide +kernel
theorem dX7_brings_30 : decode cX7_brings 30 = .ok (.if_icmp .ne 11, 3) := by decide +kernel
theorem dX7_brings_33 : decode cX7_brings 33 = .ok (.aload_n 0, 1) := by decide +kernel
theorem dX7_brings_34 : decode cX7_brings 34 = .ok (.iload_n 1, 1) := by decide +kernel
theorem dX7_brings_35 : decode cX7_brings 35 = .ok (.iconst 1, 1) := by decide +kernel
theorem dX7_brings_36 : decode cX7_brings 36 = .ok (.invokevirtual 268, 3) := by decide +kernel
theorem dX7_brings_39 : decode cX7_brings 39 = .ok (.iconst (-1), 1) := by decide +kernel
theorem dX7_brings_40 : decode cX7_brings 40 = .ok (.ireturn, 1) := by decide +kernel
theorem dX7_brings_41 : decode cX7_brings 41 = .ok (.iload 4, 2) := by decide +kernel
theorem dX7_brings_43 : decode cX7_brings 43 = .ok (.iconst (-1), 1) := by decide +kernel
theorem dX7_brings_44 : decode cX7_brings 44 = .ok (.if_icmp .ne 36, 3) := by decide +kernel
theorem dX7_brings_47 : decode cX7_brings 47 = .ok (.aload_n 0, 1) := by decide +kernel
theorem dX7_brings_48 : decode cX7_brings 48 = .ok (.getfield 53, 3) := by decide +kernel
theorem dX7_brings_51 : decode cX7_brings 51 = .ok (.iload 5, 2) := by decide +kernel
theorem dX7_brings_53 : decode cX7_brings 53 = .ok (.iconst 0, 1) := by decide +kernel
theorem dX7_brings_54 : decode cX7_brings 54 = .ok (.iadd, 1) := by decide +kernel
theorem dX7_brings_55 : decode cX7_brings 55 = .ok (.iaload, 1) := by decide +kernel
theorem dX7_brings_56 : decode cX7_brings 56 = .ok (.bipush (-2), 2) := by decide +kernel
theorem dX7_brings_58 : decode cX7_brings 58 = .ok (.if_icmp .eq 22, 3) := by decide +kernel
theorem dX7_brings_61 : decode cX7_brings 61 = .ok (.aload_n 0, 1) := by decide +kernel
theorem dX7_brings_62 : decode cX7_brings 62 = .ok (.getfield 53, 3) := by decide +kernel
theorem dX7_brings_65 : decode cX7_brings 65 = .ok (.iload 5, 2) := by decide +kernel
theorem dX7_brings_67 : decode cX7_brings 67 = .ok (.iconst 1, 1) := by decide +kernel
theorem dX7_brings_68 : decode cX7_brings 68 = .ok (.iadd, 1) := by decide +kernel
theorem dX7_brings_69 : decode cX7_brings 69 = .ok (.iaload, 1) := by decide +kernel
theorem dX7_brings_70 : decode cX7_brings 70 = .ok (.iconst 3, 1) := by decide +kernel
theorem dX7_brings_71 : decode cX7_brings 71 = .ok (.if_icmp .ne 9, 3) := by decide +kernel
theorem dX7_brings_74 : decode cX7_brings 74 = .ok (.aload_n 0, 1) := by decide +kernel
theorem dX7_brings_75 : decode cX7_brings 75 = .ok (.iload 5, 2) := by decide +kernel
theorem dX7_brings_77 : decode cX7_brings 77 = .ok (.invokevirtual 272, 3) := by decide +kernel
theorem dX7_brings_80 : decode cX7_brings 80 = .ok (.aload_n 0, 1) := by decide +kernel
theorem dX7_brings_81 : decode cX7_brings 81 = .ok (.iload_n 1, 1) := by decide +kernel
theorem dX7_brings_82 : decode cX7_brings 82 = .ok (.iload_n 2, 1) := by decide +kernel
theorem dX7_brings_83 : decode cX7_brings 83 = .ok (.iload_n 3, 1) := by decide +kernel
theorem dX7_brings_84 : decode cX7_brings 84 = .ok (.invokevirtual 278, 3) := by decide +kernel
theorem dX7_brings_87 : decode cX7_brings 87 = .ok (.istore 6, 2) := by decide +kernel
theorem dX7_brings_89 : decode cX7_brings 89 = .ok (.iload 4, 2) := by decide +kernel
theorem dX7_brings_91 : decode cX7_brings 91 = .ok (.iconst (-1), 1) := by decide +kernel
theorem dX7_brings_92 : decode cX7_brings 92 = .ok (.if_icmp .ne 120, 3) := by decide +kernel
theorem dX7_brings_95 : decode cX7_brings 95 = .ok (.aload_n 0, 1) := by decide +kernel
theorem dX7_brings_96 : decode cX7_brings 96 = .ok (.getfield 53, 3) := by decide +kernel
theorem dX7_brings_99 : decode cX7_brings 99 = .ok (.iload 5, 2) := by decide +kernel
theorem dX7_brings_101 : decode cX7_brings 101 = .ok (.iconst 0, 1) := by decide +kernel
theorem dX7_brings_102 : decode cX7_brings 102 = .ok (.iadd, 1) := by decide +kernel
theorem dX7_brings_103 : decode cX7_brings 103 = .ok (.iload_n 2, 1) := by decide +kernel
theorem dX7_brings_104 : decode cX7_brings 104 = .ok (.iastore, 1) := by decide +kernel
theorem dX7_brings_105 : decode cX7_brings 105 = .ok (.aload_n 0, 1) := by decide +kernel
theorem dX7_brings_106 : decode cX7_brings 106 = .ok (.getfield 53, 3) := by decide +kernel
theorem dX7_brings_109 : decode cX7_brings 109 = .ok (.iload 5, 2) := by decide +kernel
theorem dX7_brings_111 : decode cX7_brings 111 = .ok (.iconst 1, 1) := by decide +kernel
theorem dX7_brings_112 : decode cX7_brings 112 = .ok (.iadd, 1) := by decide +kernel
theorem dX7_brings_113 : decode cX7_brings 113 = .ok (.iload 6, 2) := by decide +kernel
theorem dX7_brings_115 : decode cX7_brings 115 = .ok (.ifCond .eq 7, 3) := by decide +kernel
theorem dX7_brings_118 : decode cX7_brings 118 = .ok (.iconst 1, 1) := by decide +kernel
theorem dX7_brings_119 : decode cX7_brings 119 = .ok (.goto 4, 3) := by decide +kernel
theorem dX7_brings_122 : decode cX7_brings 122 = .ok (.iconst 2, 1) := by decide +kernel
theorem dX7_brings_123 : decode cX7_brings 123 = .ok (.iastore, 1) := by decide +kernel
theorem dX7_brings_124 : decode cX7_brings 124 = .ok (.aload_n 0, 1) := by decide +kernel
theorem dX7_brings_125 : decode cX7_brings 125 = .ok (.getfield 53, 3) := by decide +kernel
theorem dX7_brings_128 : decode cX7_brings 128 = .ok (.iload 5, 2) := by decide +kernel
theorem dX7_brings_130 : decode cX7_brings 130 = .ok (.iconst 2, 1) := by decide +kernel
theorem dX7_brings_131 : decode cX7_brings 131 = .ok (.iadd, 1) := by decide +kernel
theorem dX7_brings_132 : decode cX7_brings 132 = .ok (.iconst 0, 1) := by decide +kernel
theorem dX7_brings_133 : decode cX7_brings 133 = .ok (.iastore, 1) := by decide +kernel
theorem dX7_brings_134 : decode cX7_brings 134 = .ok (.aload_n 0, 1) := by decide +kernel
theorem dX7_brings_135 : decode cX7_brings 135 = .ok (.getfield 53, 3) := by decide +kernel
theorem dX7_brings_138 : decode cX7_brings 138 = .ok (.iload 5, 2) := by decide +kernel
theorem dX7_brings_140 : decode cX7_brings 140 = .ok (.iconst 3, 1) := by decide +kernel
theorem dX7_brings_141 : decode cX7_brings 141 = .ok (.iadd, 1) := by decide +kernel
