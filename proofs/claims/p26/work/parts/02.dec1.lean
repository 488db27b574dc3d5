theorem dX6_next_37 : decode cX6_next 37 = .ok (.bipush (-5), 2) := by decide +kernel
theorem dX6_next_39 : decode cX6_next 39 = .ok (.ireturn, 1) := by decide +kernel
theorem dX6_next_40 : decode cX6_next 40 = .ok (.iload_n 1, 1) := by decide +kernel
theorem dX6_next_41 : decode cX6_next 41 = .ok (.ifCond .ne 7, 3) := by decide +kernel
theorem dX6_next_44 : decode cX6_next 44 = .ok (.iload_n 2, 1) := by decide +kernel
theorem dX6_next_45 : decode cX6_next 45 = .ok (.goto 10, 3) := by decide +kernel
theorem dX6_next_48 : decode cX6_next 48 = .ok (.aload_n 0, 1) := by decide +kernel
theorem dX6_next_49 : decode cX6_next 49 = .ok (.getfield 16, 3) := by decide +kernel
theorem dX6_next_52 : decode cX6_next 52 = .ok (.getfield 215, 3) := by decide +kernel
theorem dX6_next_55 : decode cX6_next 55 = .ok (.ireturn, 1) := by decide +kernel
theorem dX6_answeredIn_0 : decode cX6_answeredIn 0 = .ok (.aload_n 0, 1) := by decide +kernel
theorem dX6_answeredIn_1 : decode cX6_answeredIn 1 = .ok (.getfield 10, 3) := by decide +kernel
theorem dX6_answeredIn_4 : decode cX6_answeredIn 4 = .ok (.iload_n 1, 1) := by decide +kernel
theorem dX6_answeredIn_5 : decode cX6_answeredIn 5 = .ok (.invokevirtual 156, 3) := by decide +kernel
theorem dX6_answeredIn_8 : decode cX6_answeredIn 8 = .ok (.astore_n 2, 1) := by decide +kernel
theorem dX6_answeredIn_9 : decode cX6_answeredIn 9 = .ok (.aload_n 2, 1) := by decide +kernel
theorem dX6_answeredIn_10 : decode cX6_answeredIn 10 = .ok (.ifnonnull 5, 3) := by decide +kernel
theorem dX6_answeredIn_13 : decode cX6_answeredIn 13 = .ok (.iconst (-1), 1) := by decide +kernel
theorem dX6_answeredIn_14 : decode cX6_answeredIn 14 = .ok (.ireturn, 1) := by decide +kernel
theorem dX6_answeredIn_15 : decode cX6_answeredIn 15 = .ok (.aload_n 2, 1) := by decide +kernel
theorem dX6_answeredIn_16 : decode cX6_answeredIn 16 = .ok (.getfield 157, 3) := by decide +kernel
theorem dX6_answeredIn_19 : decode cX6_answeredIn 19 = .ok (.iconst 3, 1) := by decide +kernel
theorem dX6_answeredIn_20 : decode cX6_answeredIn 20 = .ok (.if_icmp .eq 11, 3) := by decide +kernel
theorem dX6_answeredIn_23 : decode cX6_answeredIn 23 = .ok (.aload_n 2, 1) := by decide +kernel
theorem dX6_answeredIn_24 : decode cX6_answeredIn 24 = .ok (.getfield 157, 3) := by decide +kernel
theorem dX6_answeredIn_27 : decode cX6_answeredIn 27 = .ok (.iconst 4, 1) := by decide +kernel
theorem dX6_answeredIn_28 : decode cX6_answeredIn 28 = .ok (.if_icmp .ne 6, 3) := by decide +kernel
theorem dX6_answeredIn_31 : decode cX6_answeredIn 31 = .ok (.bipush (-4), 2) := by decide +kernel
theorem dX6_answeredIn_33 : decode cX6_answeredIn 33 = .ok (.ireturn, 1) := by decide +kernel
theorem dX6_answeredIn_34 : decode cX6_answeredIn 34 = .ok (.aload_n 0, 1) := by decide +kernel
theorem dX6_answeredIn_35 : decode cX6_answeredIn 35 = .ok (.getfield 16, 3) := by decide +kernel
theorem dX6_answeredIn_38 : decode cX6_answeredIn 38 = .ok (.aload_n 0, 1) := by decide +kernel
theorem dX6_answeredIn_39 : decode cX6_answeredIn 39 = .ok (.getfield 10, 3) := by decide +kernel
theorem dX6_answeredIn_42 : decode cX6_answeredIn 42 = .ok (.invokevirtual 148, 3) := by decide +kernel
theorem dX6_answeredIn_45 : decode cX6_answeredIn 45 = .ok (.iconst 1, 1) := by decide +kernel
theorem dX6_answeredIn_46 : decode cX6_answeredIn 46 = .ok (.istore_n 3, 1) := by decide +kernel
theorem dX6_answeredIn_47 : decode cX6_answeredIn 47 = .ok (.iload_n 3, 1) := by decide +kernel
theorem dX6_answeredIn_48 : decode cX6_answeredIn 48 = .ok (.sipush 999, 3) := by decide +kernel
theorem dX6_answeredIn_51 : decode cX6_answeredIn 51 = .ok (.if_icmp .gt 33, 3) := by decide +kernel
theorem dX6_answeredIn_54 : decode cX6_answeredIn 54 = .ok (.aload_n 0, 1) := by decide +kernel
theorem dX6_answeredIn_55 : decode cX6_answeredIn 55 = .ok (.getfield 16, 3) := by decide +kernel
theorem dX6_answeredIn_58 : decode cX6_answeredIn 58 = .ok (.invokevirtual 137, 3) := by decide +kernel
theorem dX6_answeredIn_61 : decode cX6_answeredIn 61 = .ok (.iload_n 1, 1) := by decide +kernel
theorem dX6_answeredIn_62 : decode cX6_answeredIn 62 = .ok (.if_icmp .ne 16, 3) := by decide +kernel
theorem dX6_answeredIn_65 : decode cX6_answeredIn 65 = .ok (.aload_n 0, 1) := by decide +kernel
theorem dX6_answeredIn_66 : decode cX6_answeredIn 66 = .ok (.getfield 16, 3) := by decide +kernel
theorem dX6_answeredIn_69 : decode cX6_answeredIn 69 = .ok (.getfield 215, 3) := by decide +kernel
theorem dX6_answeredIn_72 : decode cX6_answeredIn 72 = .ok (.iconst 1, 1) := by decide +kernel
theorem dX6_answeredIn_73 : decode cX6_answeredIn 73 = .ok (.if_icmp .ne 5, 3) := by decide +kernel
theorem dX6_answeredIn_76 : decode cX6_answeredIn 76 = .ok (.iload_n 3, 1) := by decide +kernel
theorem dX6_answeredIn_77 : decode cX6_answeredIn 77 = .ok (.ireturn, 1) := by decide +kernel
theorem dX6_answeredIn_78 : decode cX6_answeredIn 78 = .ok (.iinc 3 1, 3) := by decide +kernel
theorem dX6_answeredIn_81 : decode cX6_answeredIn 81 = .ok (.goto (-34), 3) := by decide +kernel
theorem dX6_answeredIn_84 : decode cX6_answeredIn 84 = .ok (.bipush (-5), 2) := by decide +kernel
theorem dX6_answeredIn_86 : decode cX6_answeredIn 86 = .ok (.ireturn, 1) := by decide +kernel
theorem dX6_count_0 : decode cX6_count 0 = .ok (.iload_n 1, 1) := by decide +kernel
theorem dX6_count_1 : decode cX6_count 1 = .ok (.tableswitch 174 0 12 #[67, 75, 85, 95, 105, 113, 121, 129, 137, 145, 153, 161, 166], 67) := by decide +kernel
theorem dX6_count_68 : decode cX6_count 68 = .ok (.aload_n 0, 1) := by decide +kernel
theorem dX6_count_69 : decode cX6_count 69 = .ok (.getfield 10, 3) := by decide +kernel
theorem dX6_count_72 : decode cX6_count 72 = .ok (.getfield 134, 3) := by decide +kernel
theorem dX6_count_75 : decode cX6_count 75 = .ok (.ireturn, 1) := by decide +kernel
theorem dX6_count_76 : decode cX6_count 76 = .ok (.aload_n 0, 1) := by decide +kernel
theorem dX6_count_77 : decode cX6_count 77 = .ok (.getfield 10, 3) := by decide +kernel
theorem dX6_count_80 : decode cX6_count 80 = .ok (.getfield 52, 3) := by decide +kernel
theorem dX6_count_83 : decode cX6_count 83 = .ok (.iconst 0, 1) := by decide +kernel
theorem dX6_count_84 : decode cX6_count 84 = .ok (.iaload, 1) := by decide +kernel
theorem dX6_count_85 : decode cX6_count 85 = .ok (.ireturn, 1) := by decide +kernel
theorem dX6_count_86 : decode cX6_count 86 = .ok (.aload_n 0, 1) := by decide +kernel
theorem dX6_count_87 : decode cX6_count 87 = .ok (.getfield 10, 3) := by decide +kernel
theorem dX6_count_90 : decode cX6_count 90 = .ok (.getfield 52, 3) := by decide +kernel
theorem dX6_count_93 : decode cX6_count 93 = .ok (.iconst 1, 1) := by decide +kernel
theorem dX6_count_94 : decode cX6_count 94 = .ok (.iaload, 1) := by decide +kernel
theorem dX6_count_95 : decode cX6_count 95 = .ok (.ireturn, 1) := by decide +kernel
theorem dX6_count_96 : decode cX6_count 96 = .ok (.aload_n 0, 1) := by decide +kernel
theorem dX6_count_97 : decode cX6_count 97 = .ok (.getfield 10, 3) := by decide +kernel
theorem dX6_count_100 : decode cX6_count 100 = .ok (.getfield 52, 3) := by decide +kernel
theorem dX6_count_103 : decode cX6_count 103 = .ok (.iconst 2, 1) := by decide +kernel
theorem dX6_count_104 : decode cX6_count 104 = .ok (.iaload, 1) := by decide +kernel
theorem dX6_count_105 : decode cX6_count 105 = .ok (.ireturn, 1) := by decide +kernel
theorem dX6_count_106 : decode cX6_count 106 = .ok (.aload_n 0, 1) := by decide +kernel
theorem dX6_count_107 : decode cX6_count 107 = .ok (.getfield 10, 3) := by decide +kernel
theorem dX6_count_110 : decode cX6_count 110 = .ok (.getfield 218, 3) := by decide +kernel
theorem dX6_count_113 : decode cX6_count 113 = .ok (.ireturn, 1) := by decide +kernel
theorem dX6_count_114 : decode cX6_count 114 = .ok (.aload_n 0, 1) := by decide +kernel
theorem dX6_count_115 : decode cX6_count 115 = .ok (.getfield 10, 3) := by decide +kernel
theorem dX6_count_118 : decode cX6_count 118 = .ok (.invokevirtual 221, 3) := by decide +kernel
theorem dX6_count_121 : decode cX6_count 121 = .ok (.ireturn, 1) := by decide +kernel
theorem dX6_count_122 : decode cX6_count 122 = .ok (.aload_n 0, 1) := by decide +kernel
theorem dX6_count_123 : decode cX6_count 123 = .ok (.getfield 10, 3) := by decide +kernel
theorem dX6_count_126 : decode cX6_count 126 = .ok (.getfield 224, 3) := by decide +kernel
theorem dX6_count_129 : decode cX6_count 129 = .ok (.ireturn, 1) := by decide +kernel
theorem dX6_count_130 : decode cX6_count 130 = .ok (.aload_n 0, 1) := by decide +kernel
theorem dX6_count_131 : decode cX6_count 131 = .ok (.getfield 10, 3) := by decide +kernel
theorem dX6_count_134 : decode cX6_count 134 = .ok (.getfield 227, 3) := by decide +kernel
theorem dX6_count_137 : decode cX6_count 137 = .ok (.ireturn, 1) := by decide +kernel
theorem dX6_count_138 : decode cX6_count 138 = .ok (.aload_n 0, 1) := by decide +kernel
theorem dX6_count_139 : decode cX6_count 139 = .ok (.getfield 10, 3) := by decide +kernel
theorem dX6_count_142 : decode cX6_count 142 = .ok (.getfield 230, 3) := by decide +kernel
theorem dX6_count_145 : decode cX6_count 145 = .ok (.ireturn, 1) := by decide +kernel
theorem dX6_count_146 : decode cX6_count 146 = .ok (.aload_n 0, 1) := by decide +kernel
theorem dX6_count_147 : decode cX6_count 147 = .ok (.getfield 10, 3) := by decide +kernel
theorem dX6_count_150 : decode cX6_count 150 = .ok (.getfield 233, 3) := by decide +kernel
theorem dX6_count_153 : decode cX6_count 153 = .ok (.ireturn, 1) := by decide +kernel
theorem dX6_count_154 : decode cX6_count 154 = .ok (.aload_n 0, 1) := by decide +kernel
theorem dX6_count_155 : decode cX6_count 155 = .ok (.getfield 10, 3) := by decide +kernel
theorem dX6_count_158 : decode cX6_count 158 = .ok (.getfield 236, 3) := by decide +kernel
theorem dX6_count_161 : decode cX6_count 161 = .ok (.ireturn, 1) := by decide +kernel
theorem dX6_count_162 : decode cX6_count 162 = .ok (.aload_n 0, 1) := by decide +kernel
theorem dX6_count_163 : decode cX6_count 163 = .ok (.getfield 145, 3) := by decide +kernel
theorem dX6_count_166 : decode cX6_count 166 = .ok (.ireturn, 1) := by decide +kernel
theorem dX6_count_167 : decode cX6_count 167 = .ok (.aload_n 0, 1) := by decide +kernel
theorem dX6_count_168 : decode cX6_count 168 = .ok (.getfield 29, 3) := by decide +kernel
theorem dX6_count_171 : decode cX6_count 171 = .ok (.getfield 144, 3) := by decide +kernel
theorem dX6_count_174 : decode cX6_count 174 = .ok (.ireturn, 1) := by decide +kernel
theorem dX6_count_175 : decode cX6_count 175 = .ok (.bipush (-2), 2) := by decide +kernel
theorem dX6_count_177 : decode cX6_count 177 = .ok (.ireturn, 1) := by decide +kernel
theorem dX6_isIndex_0 : decode cX6_isIndex 0 = .ok (.iload_n 0, 1) := by decide +kernel
theorem dX6_isIndex_1 : decode cX6_isIndex 1 = .ok (.ifCond .lt 12, 3) := by decide +kernel
theorem dX6_isIndex_4 : decode cX6_isIndex 4 = .ok (.iload_n 0, 1) := by decide +kernel
theorem dX6_isIndex_5 : decode cX6_isIndex 5 = .ok (.iload_n 1, 1) := by decide +kernel
theorem dX6_isIndex_6 : decode cX6_isIndex 6 = .ok (.if_icmp .ge 7, 3) := by decide +kernel
theorem dX6_isIndex_9 : decode cX6_isIndex 9 = .ok (.iconst 1, 1) := by decide +kernel
theorem dX6_isIndex_10 : decode cX6_isIndex 10 = .ok (.goto 4, 3) := by decide +kernel
theorem dX6_isIndex_13 : decode cX6_isIndex 13 = .ok (.iconst 0, 1) := by decide +kernel
theorem dX6_isIndex_14 : decode cX6_isIndex 14 = .ok (.ireturn, 1) := by decide +kernel
theorem dX6_isBetween_0 : decode cX6_isBetween 0 = .ok (.iload_n 0, 1) := by decide +kernel
theorem dX6_isBetween_1 : decode cX6_isBetween 1 = .ok (.iload_n 1, 1) := by decide +kernel
theorem dX6_isBetween_2 : decode cX6_isBetween 2 = .ok (.if_icmp .lt 12, 3) := by decide +kernel
theorem dX6_isBetween_5 : decode cX6_isBetween 5 = .ok (.iload_n 0, 1) := by decide +kernel
theorem dX6_isBetween_6 : decode cX6_isBetween 6 = .ok (.iload_n 2, 1) := by decide +kernel
theorem dX6_isBetween_7 : decode cX6_isBetween 7 = .ok (.if_icmp .gt 7, 3) := by decide +kernel
theorem dX6_isBetween_10 : decode cX6_isBetween 10 = .ok (.iconst 1, 1) := by decide +kernel
theorem dX6_isBetween_11 : decode cX6_isBetween 11 = .ok (.goto 4, 3) := by decide +kernel
theorem dX6_isBetween_14 : decode cX6_isBetween 14 = .ok (.iconst 0, 1) := by decide +kernel
theorem dX6_isBetween_15 : decode cX6_isBetween 15 = .ok (.ireturn, 1) := by decide +kernel
theorem dX6_putOne_0 : decode cX6_putOne 0 = .ok (.aload_n 0, 1) := by decide +kernel
theorem dX6_putOne_1 : decode cX6_putOne 1 = .ok (.getfield 10, 3) := by decide +kernel
theorem dX6_putOne_4 : decode cX6_putOne 4 = .ok (.iload_n 1, 1) := by decide +kernel
theorem dX6_putOne_5 : decode cX6_putOne 5 = .ok (.invokevirtual 58, 3) := by decide +kernel
theorem dX6_putOne_8 : decode cX6_putOne 8 = .ok (.astore 5, 2) := by decide +kernel
theorem dX6_putOne_10 : decode cX6_putOne 10 = .ok (.aload 5, 2) := by decide +kernel
theorem dX6_putOne_12 : decode cX6_putOne 12 = .ok (.ifnull 14, 3) := by decide +kernel
theorem dX6_putOne_15 : decode cX6_putOne 15 = .ok (.aload_n 0, 1) := by decide +kernel
theorem dX6_putOne_16 : decode cX6_putOne 16 = .ok (.getfield 10, 3) := by decide +kernel
theorem dX6_putOne_19 : decode cX6_putOne 19 = .ok (.iload_n 2, 1) := by decide +kernel
theorem dX6_putOne_20 : decode cX6_putOne 20 = .ok (.invokevirtual 68, 3) := by decide +kernel
theorem dX6_putOne_23 : decode cX6_putOne 23 = .ok (.ifnonnull 5, 3) := by decide +kernel
theorem dX6_putOne_26 : decode cX6_putOne 26 = .ok (.iconst (-1), 1) := by decide +kernel
theorem dX6_putOne_27 : decode cX6_putOne 27 = .ok (.ireturn, 1) := by decide +kernel
theorem dX6_putOne_28 : decode cX6_putOne 28 = .ok (.iload_n 3, 1) := by decide +kernel
theorem dX6_putOne_29 : decode cX6_putOne 29 = .ok (.bipush 16, 2) := by decide +kernel
theorem dX6_putOne_31 : decode cX6_putOne 31 = .ok (.invokestatic 37, 3) := by decide +kernel
theorem dX6_putOne_34 : decode cX6_putOne 34 = .ok (.ifCond .ne 6, 3) := by decide +kernel
theorem dX6_putOne_37 : decode cX6_putOne 37 = .ok (.bipush (-2), 2) := by decide +kernel
theorem dX6_putOne_39 : decode cX6_putOne 39 = .ok (.ireturn, 1) := by decide +kernel
theorem dX6_putOne_40 : decode cX6_putOne 40 = .ok (.aload 5, 2) := by decide +kernel
theorem dX6_putOne_42 : decode cX6_putOne 42 = .ok (.getfield 121, 3) := by decide +kernel
theorem dX6_putOne_45 : decode cX6_putOne 45 = .ok (.getfield 125, 3) := by decide +kernel
theorem dX6_putOne_48 : decode cX6_putOne 48 = .ok (.bipush 6, 2) := by decide +kernel
theorem dX6_putOne_50 : decode cX6_putOne 50 = .ok (.if_icmp .ge 16, 3) := by decide +kernel
theorem dX6_putOne_53 : decode cX6_putOne 53 = .ok (.aload_n 0, 1) := by decide +kernel
theorem dX6_putOne_54 : decode cX6_putOne 54 = .ok (.getfield 10, 3) := by decide +kernel
theorem dX6_putOne_57 : decode cX6_putOne 57 = .ok (.getfield 218, 3) := by decide +kernel
theorem dX6_putOne_60 : decode cX6_putOne 60 = .ok (.sipush 200, 3) := by decide +kernel
theorem dX6_putOne_63 : decode cX6_putOne 63 = .ok (.if_icmp .lt 6, 3) := by decide +kernel
theorem dX6_putOne_66 : decode cX6_putOne 66 = .ok (.bipush (-3), 2) := by decide +kernel
theorem dX6_putOne_68 : decode cX6_putOne 68 = .ok (.ireturn, 1) := by decide +kernel
theorem dX6_putOne_69 : decode cX6_putOne 69 = .ok (.aload_n 0, 1) := by decide +kernel
theorem dX6_putOne_70 : decode cX6_putOne 70 = .ok (.invokevirtual 55, 3) := by decide +kernel
theorem dX6_putOne_73 : decode cX6_putOne 73 = .ok (.aload_n 0, 1) := by decide +kernel
theorem dX6_putOne_74 : decode cX6_putOne 74 = .ok (.getfield 10, 3) := by decide +kernel
theorem dX6_putOne_77 : decode cX6_putOne 77 = .ok (.iload_n 1, 1) := by decide +kernel
theorem dX6_putOne_78 : decode cX6_putOne 78 = .ok (.iload_n 2, 1) := by decide +kernel
theorem dX6_putOne_79 : decode cX6_putOne 79 = .ok (.iload_n 3, 1) := by decide +kernel
theorem dX6_putOne_80 : decode cX6_putOne 80 = .ok (.iload 4, 2) := by decide +kernel
theorem dX6_putOne_82 : decode cX6_putOne 82 = .ok (.invokevirtual 118, 3) := by decide +kernel
theorem dX6_putOne_85 : decode cX6_putOne 85 = .ok (.ireturn, 1) := by decide +kernel
theorem dX6_record_0 : decode cX6_record 0 = .ok (.aload_n 0, 1) := by decide +kernel
theorem dX6_record_1 : decode cX6_record 1 = .ok (.getfield 145, 3) := by decide +kernel
theorem dX6_record_4 : decode cX6_record 4 = .ok (.iconst 4, 1) := by decide +kernel
theorem dX6_record_5 : decode cX6_record 5 = .ok (.if_icmp .lt 49, 3) := by decide +kernel
theorem dX6_record_8 : decode cX6_record 8 = .ok (.aload_n 0, 1) := by decide +kernel
theorem dX6_record_9 : decode cX6_record 9 = .ok (.getfield 22, 3) := by decide +kernel
theorem dX6_record_12 : decode cX6_record 12 = .ok (.iconst 0, 1) := by decide +kernel
theorem dX6_record_13 : decode cX6_record 13 = .ok (.aaload, 1) := by decide +kernel
theorem dX6_record_14 : decode cX6_record 14 = .ok (.astore_n 1, 1) := by decide +kernel
theorem dX6_record_15 : decode cX6_record 15 = .ok (.iconst 1, 1) := by decide +kernel
theorem dX6_record_16 : decode cX6_record 16 = .ok (.istore_n 2, 1) := by decide +kernel
theorem dX6_record_17 : decode cX6_record 17 = .ok (.iload_n 2, 1) := by decide +kernel
theorem dX6_record_18 : decode cX6_record 18 = .ok (.iconst 4, 1) := by decide +kernel
theorem dX6_record_19 : decode cX6_record 19 = .ok (.if_icmp .ge 23, 3) := by decide +kernel
theorem dX6_record_22 : decode cX6_record 22 = .ok (.aload_n 0, 1) := by decide +kernel
theorem dX6_record_23 : decode cX6_record 23 = .ok (.getfield 22, 3) := by decide +kernel
theorem dX6_record_26 : decode cX6_record 26 = .ok (.iload_n 2, 1) := by decide +kernel
theorem dX6_record_27 : decode cX6_record 27 = .ok (.iconst 1, 1) := by decide +kernel
theorem dX6_record_28 : decode cX6_record 28 = .ok (.isub, 1) := by decide +kernel
theorem dX6_record_29 : decode cX6_record 29 = .ok (.aload_n 0, 1) := by decide +kernel
theorem dX6_record_30 : decode cX6_record 30 = .ok (.getfield 22, 3) := by decide +kernel
theorem dX6_record_33 : decode cX6_record 33 = .ok (.iload_n 2, 1) := by decide +kernel
theorem dX6_record_34 : decode cX6_record 34 = .ok (.aaload, 1) := by decide +kernel
theorem dX6_record_35 : decode cX6_record 35 = .ok (.aastore, 1) := by decide +kernel
theorem dX6_record_36 : decode cX6_record 36 = .ok (.iinc 2 1, 3) := by decide +kernel
theorem dX6_record_39 : decode cX6_record 39 = .ok (.goto (-22), 3) := by decide +kernel
theorem dX6_record_42 : decode cX6_record 42 = .ok (.aload_n 0, 1) := by decide +kernel
theorem dX6_record_43 : decode cX6_record 43 = .ok (.getfield 22, 3) := by decide +kernel
theorem dX6_record_46 : decode cX6_record 46 = .ok (.iconst 3, 1) := by decide +kernel
theorem dX6_record_47 : decode cX6_record 47 = .ok (.aload_n 1, 1) := by decide +kernel
theorem dX6_record_48 : decode cX6_record 48 = .ok (.aastore, 1) := by decide +kernel
theorem dX6_record_49 : decode cX6_record 49 = .ok (.aload_n 0, 1) := by decide +kernel
theorem dX6_record_50 : decode cX6_record 50 = .ok (.iconst 3, 1) := by decide +kernel
theorem dX6_record_51 : decode cX6_record 51 = .ok (.putfield 145, 3) := by decide +kernel
theorem dX6_record_54 : decode cX6_record 54 = .ok (.aload_n 0, 1) := by decide +kernel
theorem dX6_record_55 : decode cX6_record 55 = .ok (.getfield 145, 3) := by decide +kernel
theorem dX6_record_58 : decode cX6_record 58 = .ok (.iconst 4, 1) := by decide +kernel
theorem dX6_record_59 : decode cX6_record 59 = .ok (.invokestatic 37, 3) := by decide +kernel
theorem dX6_record_62 : decode cX6_record 62 = .ok (.ifCond .eq 29, 3) := by decide +kernel
theorem dX6_record_65 : decode cX6_record 65 = .ok (.aload_n 0, 1) := by decide +kernel
theorem dX6_record_66 : decode cX6_record 66 = .ok (.getfield 22, 3) := by decide +kernel
theorem dX6_record_69 : decode cX6_record 69 = .ok (.aload_n 0, 1) := by decide +kernel
theorem dX6_record_70 : decode cX6_record 70 = .ok (.getfield 145, 3) := by decide +kernel
theorem dX6_record_73 : decode cX6_record 73 = .ok (.aaload, 1) := by decide +kernel
theorem dX6_record_74 : decode cX6_record 74 = .ok (.aload_n 0, 1) := by decide +kernel
theorem dX6_record_75 : decode cX6_record 75 = .ok (.getfield 10, 3) := by decide +kernel
theorem dX6_record_78 : decode cX6_record 78 = .ok (.invokevirtual 148, 3) := by decide +kernel
theorem dX6_record_81 : decode cX6_record 81 = .ok (.aload_n 0, 1) := by decide +kernel
theorem dX6_record_82 : decode cX6_record 82 = .ok (.dup, 1) := by decide +kernel
theorem dX6_record_83 : decode cX6_record 83 = .ok (.getfield 145, 3) := by decide +kernel
theorem dX6_record_86 : decode cX6_record 86 = .ok (.iconst 1, 1) := by decide +kernel
theorem dX6_record_87 : decode cX6_record 87 = .ok (.iadd, 1) := by decide +kernel
theorem dX6_record_88 : decode cX6_record 88 = .ok (.putfield 145, 3) := by decide +kernel
theorem dX6_record_91 : decode cX6_record 91 = .ok (.return_, 1) := by decide +kernel
theorem dL_cell_0 : decode cL_cell 0 = .ok (.iload_n 1, 1) := by decide +kernel
theorem dL_cell_1 : decode cL_cell 1 = .ok (.aload_n 0, 1) := by decide +kernel
theorem dL_cell_2 : decode cL_cell 2 = .ok (.arraylength, 1) := by decide +kernel
theorem dL_cell_3 : decode cL_cell 3 = .ok (.if_icmp .ge 9, 3) := by decide +kernel
theorem dL_cell_6 : decode cL_cell 6 = .ok (.aload_n 0, 1) := by decide +kernel
theorem dL_cell_7 : decode cL_cell 7 = .ok (.iload_n 1, 1) := by decide +kernel
theorem dL_cell_8 : decode cL_cell 8 = .ok (.iaload, 1) := by decide +kernel
theorem dL_cell_9 : decode cL_cell 9 = .ok (.goto 15, 3) := by decide +kernel
theorem dL_cell_12 : decode cL_cell 12 = .ok (.sipush 7919, 3) := by decide +kernel
theorem dL_cell_15 : decode cL_cell 15 = .ok (.iload_n 1, 1) := by decide +kernel
theorem dL_cell_16 : decode cL_cell 16 = .ok (.iconst 3, 1) := by decide +kernel
theorem dL_cell_17 : decode cL_cell 17 = .ok (.iadd, 1) := by decide +kernel
theorem dL_cell_18 : decode cL_cell 18 = .ok (.imul, 1) := by decide +kernel
theorem dL_cell_19 : decode cL_cell 19 = .ok (.iload_n 1, 1) := by decide +kernel
theorem dL_cell_20 : decode cL_cell 20 = .ok (.bipush 11, 2) := by decide +kernel
theorem dL_cell_22 : decode cL_cell 22 = .ok (.iadd, 1) := by decide +kernel
theorem dL_cell_23 : decode cL_cell 23 = .ok (.imul, 1) := by decide +kernel
theorem dL_cell_24 : decode cL_cell 24 = .ok (.ireturn, 1) := by decide +kernel
theorem dL_low_0 : decode cL_low 0 = .ok (.iload_n 0, 1) := by decide +kernel
theorem dL_low_1 : decode cL_low 1 = .ok (.ldc 7, 2) := by decide +kernel
theorem dL_low_3 : decode cL_low 3 = .ok (.iand, 1) := by decide +kernel
theorem dL_low_4 : decode cL_low 4 = .ok (.iload_n 1, 1) := by decide +kernel
theorem dL_low_5 : decode cL_low 5 = .ok (.irem, 1) := by decide +kernel
theorem dL_low_6 : decode cL_low 6 = .ok (.ireturn, 1) := by decide +kernel
theorem dL_does_0 : decode cL_does 0 = .ok (.iload_n 1, 1) := by decide +kernel
theorem dL_does_1 : decode cL_does 1 = .ok (.iconst 4, 1) := by decide +kernel
theorem dL_does_2 : decode cL_does 2 = .ok (.ishr, 1) := by decide +kernel
theorem dL_does_3 : decode cL_does 3 = .ok (.iconst 3, 1) := by decide +kernel
theorem dL_does_4 : decode cL_does 4 = .ok (.iand, 1) := by decide +kernel
theorem dL_does_5 : decode cL_does 5 = .ok (.istore_n 2, 1) := by decide +kernel
theorem dL_does_6 : decode cL_does 6 = .ok (.iload_n 1, 1) := by decide +kernel
theorem dL_does_7 : decode cL_does 7 = .ok (.bipush 6, 2) := by decide +kernel
theorem dL_does_9 : decode cL_does 9 = .ok (.ishr, 1) := by decide +kernel
theorem dL_does_10 : decode cL_does 10 = .ok (.iconst 3, 1) := by decide +kernel
theorem dL_does_11 : decode cL_does 11 = .ok (.iand, 1) := by decide +kernel
theorem dL_does_12 : decode cL_does 12 = .ok (.istore_n 3, 1) := by decide +kernel
theorem dL_does_13 : decode cL_does 13 = .ok (.iload_n 1, 1) := by decide +kernel
theorem dL_does_14 : decode cL_does 14 = .ok (.bipush 15, 2) := by decide +kernel
theorem dL_does_16 : decode cL_does 16 = .ok (.iand, 1) := by decide +kernel
theorem dL_does_17 : decode cL_does 17 = .ok (.tableswitch 262 0 12 #[67, 67, 67, 67, 81, 81, 81, 104, 110, 125, 166, 181, 240], 67) := by decide +kernel
theorem dL_does_84 : decode cL_does 84 = .ok (.aload_n 0, 1) := by decide +kernel
theorem dL_does_85 : decode cL_does 85 = .ok (.iload_n 2, 1) := by decide +kernel
theorem dL_does_86 : decode cL_does 86 = .ok (.iload_n 3, 1) := by decide +kernel
theorem dL_does_87 : decode cL_does 87 = .ok (.iload_n 1, 1) := by decide +kernel
theorem dL_does_88 : decode cL_does 88 = .ok (.bipush 8, 2) := by decide +kernel
theorem dL_does_90 : decode cL_does 90 = .ok (.ishr, 1) := by decide +kernel
theorem dL_does_91 : decode cL_does 91 = .ok (.bipush 15, 2) := by decide +kernel
theorem dL_does_93 : decode cL_does 93 = .ok (.iand, 1) := by decide +kernel
theorem dL_does_94 : decode cL_does 94 = .ok (.invokevirtual 8, 3) := by decide +kernel
theorem dL_does_97 : decode cL_does 97 = .ok (.ireturn, 1) := by decide +kernel
theorem dL_does_98 : decode cL_does 98 = .ok (.aload_n 0, 1) := by decide +kernel
theorem dL_does_99 : decode cL_does 99 = .ok (.iload_n 2, 1) := by decide +kernel
theorem dL_does_100 : decode cL_does 100 = .ok (.iload_n 3, 1) := by decide +kernel
theorem dL_does_101 : decode cL_does 101 = .ok (.iload_n 1, 1) := by decide +kernel
theorem dL_does_102 : decode cL_does 102 = .ok (.bipush 8, 2) := by decide +kernel
theorem dL_does_104 : decode cL_does 104 = .ok (.ishr, 1) := by decide +kernel
theorem dL_does_105 : decode cL_does 105 = .ok (.bipush 15, 2) := by decide +kernel
theorem dL_does_107 : decode cL_does 107 = .ok (.iand, 1) := by decide +kernel
theorem dL_does_108 : decode cL_does 108 = .ok (.iload_n 1, 1) := by decide +kernel
theorem dL_does_109 : decode cL_does 109 = .ok (.bipush 12, 2) := by decide +kernel
theorem dL_does_111 : decode cL_does 111 = .ok (.ishr, 1) := by decide +kernel
theorem dL_does_112 : decode cL_does 112 = .ok (.bipush 100, 2) := by decide +kernel
theorem dL_does_114 : decode cL_does 114 = .ok (.invokestatic 14, 3) := by decide +kernel
theorem dL_does_117 : decode cL_does 117 = .ok (.invokevirtual 20, 3) := by decide +kernel
theorem dL_does_120 : decode cL_does 120 = .ok (.ireturn, 1) := by decide +kernel
theorem dL_does_121 : decode cL_does 121 = .ok (.aload_n 0, 1) := by decide +kernel
theorem dL_does_122 : decode cL_does 122 = .ok (.iload_n 2, 1) := by decide +kernel
theorem dL_does_123 : decode cL_does 123 = .ok (.invokevirtual 24, 3) := by decide +kernel
theorem dL_does_126 : decode cL_does 126 = .ok (.ireturn, 1) := by decide +kernel
theorem dL_does_127 : decode cL_does 127 = .ok (.aload_n 0, 1) := by decide +kernel
theorem dL_does_128 : decode cL_does 128 = .ok (.iconst 0, 1) := by decide +kernel
theorem dL_does_129 : decode cL_does 129 = .ok (.iconst 1, 1) := by decide +kernel
theorem dL_does_130 : decode cL_does 130 = .ok (.iload_n 1, 1) := by decide +kernel
theorem dL_does_131 : decode cL_does 131 = .ok (.bipush 8, 2) := by decide +kernel
theorem dL_does_133 : decode cL_does 133 = .ok (.ishr, 1) := by decide +kernel
theorem dL_does_134 : decode cL_does 134 = .ok (.bipush 7, 2) := by decide +kernel
theorem dL_does_136 : decode cL_does 136 = .ok (.iand, 1) := by decide +kernel
theorem dL_does_137 : decode cL_does 137 = .ok (.iadd, 1) := by decide +kernel
theorem dL_does_138 : decode cL_does 138 = .ok (.invokevirtual 28, 3) := by decide +kernel
theorem dL_does_141 : decode cL_does 141 = .ok (.ireturn, 1) := by decide +kernel
theorem dL_does_142 : decode cL_does 142 = .ok (.iload_n 1, 1) := by decide +kernel
theorem dL_does_143 : decode cL_does 143 = .ok (.iconst 4, 1) := by decide +kernel
theorem dL_does_144 : decode cL_does 144 = .ok (.ishr, 1) := by decide +kernel
theorem dL_does_145 : decode cL_does 145 = .ok (.iconst 1, 1) := by decide +kernel
theorem dL_does_146 : decode cL_does 146 = .ok (.iand, 1) := by decide +kernel
theorem dL_does_147 : decode cL_does 147 = .ok (.ifCond .ne 19, 3) := by decide +kernel
theorem dL_does_150 : decode cL_does 150 = .ok (.aload_n 0, 1) := by decide +kernel
theorem dL_does_151 : decode cL_does 151 = .ok (.iconst 1, 1) := by decide +kernel
theorem dL_does_152 : decode cL_does 152 = .ok (.iload_n 1, 1) := by decide +kernel
theorem dL_does_153 : decode cL_does 153 = .ok (.bipush 8, 2) := by decide +kernel
theorem dL_does_155 : decode cL_does 155 = .ok (.ishr, 1) := by decide +kernel
theorem dL_does_156 : decode cL_does 156 = .ok (.iconst 3, 1) := by decide +kernel
theorem dL_does_157 : decode cL_does 157 = .ok (.invokestatic 14, 3) := by decide +kernel
theorem dL_does_160 : decode cL_does 160 = .ok (.invokevirtual 28, 3) := by decide +kernel
theorem dL_does_163 : decode cL_does 163 = .ok (.goto 19, 3) := by decide +kernel
theorem dL_does_166 : decode cL_does 166 = .ok (.aload_n 0, 1) := by decide +kernel
theorem dL_does_167 : decode cL_does 167 = .ok (.iconst 2, 1) := by decide +kernel
theorem dL_does_168 : decode cL_does 168 = .ok (.iconst 1, 1) := by decide +kernel
theorem dL_does_169 : decode cL_does 169 = .ok (.iload_n 1, 1) := by decide +kernel
theorem dL_does_170 : decode cL_does 170 = .ok (.bipush 8, 2) := by decide +kernel
theorem dL_does_172 : decode cL_does 172 = .ok (.ishr, 1) := by decide +kernel
theorem dL_does_173 : decode cL_does 173 = .ok (.bipush 20, 2) := by decide +kernel
theorem dL_does_175 : decode cL_does 175 = .ok (.invokestatic 14, 3) := by decide +kernel
theorem dL_does_178 : decode cL_does 178 = .ok (.iadd, 1) := by decide +kernel
theorem dL_does_179 : decode cL_does 179 = .ok (.invokevirtual 28, 3) := by decide +kernel
theorem dL_does_182 : decode cL_does 182 = .ok (.ireturn, 1) := by decide +kernel
theorem dL_does_183 : decode cL_does 183 = .ok (.aload_n 0, 1) := by decide +kernel
theorem dL_does_184 : decode cL_does 184 = .ok (.iload_n 2, 1) := by decide +kernel
theorem dL_does_185 : decode cL_does 185 = .ok (.iconst 1, 1) := by decide +kernel
theorem dL_does_186 : decode cL_does 186 = .ok (.iload_n 1, 1) := by decide +kernel
theorem dL_does_187 : decode cL_does 187 = .ok (.bipush 8, 2) := by decide +kernel
theorem dL_does_189 : decode cL_does 189 = .ok (.ishr, 1) := by decide +kernel
theorem dL_does_190 : decode cL_does 190 = .ok (.bipush 7, 2) := by decide +kernel
theorem dL_does_192 : decode cL_does 192 = .ok (.iand, 1) := by decide +kernel
theorem dL_does_193 : decode cL_does 193 = .ok (.iadd, 1) := by decide +kernel
theorem dL_does_194 : decode cL_does 194 = .ok (.invokevirtual 31, 3) := by decide +kernel
theorem dL_does_197 : decode cL_does 197 = .ok (.ireturn, 1) := by decide +kernel
theorem dL_does_198 : decode cL_does 198 = .ok (.iload_n 3, 1) := by decide +kernel
theorem dL_does_199 : decode cL_does 199 = .ok (.ifCond .ne 20, 3) := by decide +kernel
theorem dL_does_202 : decode cL_does 202 = .ok (.aload_n 0, 1) := by decide +kernel
theorem dL_does_203 : decode cL_does 203 = .ok (.iload_n 2, 1) := by decide +kernel
theorem dL_does_204 : decode cL_does 204 = .ok (.iconst 0, 1) := by decide +kernel
theorem dL_does_205 : decode cL_does 205 = .ok (.iconst 1, 1) := by decide +kernel
theorem dL_does_206 : decode cL_does 206 = .ok (.iload_n 1, 1) := by decide +kernel
theorem dL_does_207 : decode cL_does 207 = .ok (.bipush 8, 2) := by decide +kernel
theorem dL_does_209 : decode cL_does 209 = .ok (.ishr, 1) := by decide +kernel
theorem dL_does_210 : decode cL_does 210 = .ok (.iconst 3, 1) := by decide +kernel
theorem dL_does_211 : decode cL_does 211 = .ok (.iand, 1) := by decide +kernel
theorem dL_does_212 : decode cL_does 212 = .ok (.iadd, 1) := by decide +kernel
theorem dL_does_213 : decode cL_does 213 = .ok (.invokevirtual 34, 3) := by decide +kernel
theorem dL_does_216 : decode cL_does 216 = .ok (.goto 40, 3) := by decide +kernel
theorem dL_does_219 : decode cL_does 219 = .ok (.iload_n 3, 1) := by decide +kernel
theorem dL_does_220 : decode cL_does 220 = .ok (.iconst 1, 1) := by decide +kernel
theorem dL_does_221 : decode cL_does 221 = .ok (.if_icmp .ne 23, 3) := by decide +kernel
theorem dL_does_224 : decode cL_does 224 = .ok (.aload_n 0, 1) := by decide +kernel
theorem dL_does_225 : decode cL_does 225 = .ok (.iload_n 2, 1) := by decide +kernel
theorem dL_does_226 : decode cL_does 226 = .ok (.iconst 1, 1) := by decide +kernel
theorem dL_does_227 : decode cL_does 227 = .ok (.iconst 1, 1) := by decide +kernel
theorem dL_does_228 : decode cL_does 228 = .ok (.iload_n 1, 1) := by decide +kernel
theorem dL_does_229 : decode cL_does 229 = .ok (.bipush 8, 2) := by decide +kernel
theorem dL_does_231 : decode cL_does 231 = .ok (.ishr, 1) := by decide +kernel
theorem dL_does_232 : decode cL_does 232 = .ok (.bipush 9, 2) := by decide +kernel
theorem dL_does_234 : decode cL_does 234 = .ok (.invokestatic 14, 3) := by decide +kernel
theorem dL_does_237 : decode cL_does 237 = .ok (.iadd, 1) := by decide +kernel
theorem dL_does_238 : decode cL_does 238 = .ok (.invokevirtual 34, 3) := by decide +kernel
theorem dL_does_241 : decode cL_does 241 = .ok (.goto 15, 3) := by decide +kernel
theorem dL_does_244 : decode cL_does 244 = .ok (.aload_n 0, 1) := by decide +kernel
theorem dL_does_245 : decode cL_does 245 = .ok (.iload_n 2, 1) := by decide +kernel
theorem dL_does_246 : decode cL_does 246 = .ok (.iconst 2, 1) := by decide +kernel
theorem dL_does_247 : decode cL_does 247 = .ok (.iload_n 1, 1) := by decide +kernel
theorem dL_does_248 : decode cL_does 248 = .ok (.bipush 8, 2) := by decide +kernel
theorem dL_does_250 : decode cL_does 250 = .ok (.ishr, 1) := by decide +kernel
theorem dL_does_251 : decode cL_does 251 = .ok (.iconst 1, 1) := by decide +kernel
theorem dL_does_252 : decode cL_does 252 = .ok (.iand, 1) := by decide +kernel
theorem dL_does_253 : decode cL_does 253 = .ok (.invokevirtual 34, 3) := by decide +kernel
theorem dL_does_256 : decode cL_does 256 = .ok (.ireturn, 1) := by decide +kernel
theorem dL_does_257 : decode cL_does 257 = .ok (.aload_n 0, 1) := by decide +kernel
theorem dL_does_258 : decode cL_does 258 = .ok (.iload_n 2, 1) := by decide +kernel
theorem dL_does_259 : decode cL_does 259 = .ok (.iload_n 1, 1) := by decide +kernel
theorem dL_does_260 : decode cL_does 260 = .ok (.bipush 8, 2) := by decide +kernel
theorem dL_does_262 : decode cL_does 262 = .ok (.ishr, 1) := by decide +kernel
theorem dL_does_263 : decode cL_does 263 = .ok (.bipush 15, 2) := by decide +kernel
theorem dL_does_265 : decode cL_does 265 = .ok (.iand, 1) := by decide +kernel
theorem dL_does_266 : decode cL_does 266 = .ok (.iload_n 1, 1) := by decide +kernel
theorem dL_does_267 : decode cL_does 267 = .ok (.bipush 12, 2) := by decide +kernel
theorem dL_does_269 : decode cL_does 269 = .ok (.ishr, 1) := by decide +kernel
theorem dL_does_270 : decode cL_does 270 = .ok (.bipush 100, 2) := by decide +kernel
theorem dL_does_272 : decode cL_does 272 = .ok (.invokestatic 14, 3) := by decide +kernel
theorem dL_does_275 : decode cL_does 275 = .ok (.invokevirtual 37, 3) := by decide +kernel
theorem dL_does_278 : decode cL_does 278 = .ok (.ireturn, 1) := by decide +kernel
theorem dL_does_279 : decode cL_does 279 = .ok (.aload_n 0, 1) := by decide +kernel
theorem dL_does_280 : decode cL_does 280 = .ok (.iconst 1, 1) := by decide +kernel
theorem dL_does_281 : decode cL_does 281 = .ok (.iload_n 1, 1) := by decide +kernel
theorem dL_does_282 : decode cL_does 282 = .ok (.iconst 4, 1) := by decide +kernel
theorem dL_does_283 : decode cL_does 283 = .ok (.ishr, 1) := by decide +kernel
theorem dL_does_284 : decode cL_does 284 = .ok (.bipush 6, 2) := by decide +kernel
theorem dL_does_286 : decode cL_does 286 = .ok (.invokestatic 14, 3) := by decide +kernel
theorem dL_does_289 : decode cL_does 289 = .ok (.iadd, 1) := by decide +kernel
theorem dL_does_290 : decode cL_does 290 = .ok (.invokevirtual 40, 3) := by decide +kernel
theorem dL_does_293 : decode cL_does 293 = .ok (.ireturn, 1) := by decide +kernel
theorem dL_areTagsSo_0 : decode cL_areTagsSo 0 = .ok (.iconst 0, 1) := by decide +kernel
theorem dL_areTagsSo_1 : decode cL_areTagsSo 1 = .ok (.istore_n 1, 1) := by decide +kernel
theorem dL_areTagsSo_2 : decode cL_areTagsSo 2 = .ok (.iconst 0, 1) := by decide +kernel
theorem dL_areTagsSo_3 : decode cL_areTagsSo 3 = .ok (.istore_n 2, 1) := by decide +kernel
theorem dL_areTagsSo_4 : decode cL_areTagsSo 4 = .ok (.iconst 0, 1) := by decide +kernel
theorem dL_areTagsSo_5 : decode cL_areTagsSo 5 = .ok (.istore_n 3, 1) := by decide +kernel
theorem dL_areTagsSo_6 : decode cL_areTagsSo 6 = .ok (.iconst 0, 1) := by decide +kernel
theorem dL_areTagsSo_7 : decode cL_areTagsSo 7 = .ok (.istore 4, 2) := by decide +kernel
theorem dL_areTagsSo_9 : decode cL_areTagsSo 9 = .ok (.iload 4, 2) := by decide +kernel
theorem dL_areTagsSo_11 : decode cL_areTagsSo 11 = .ok (.aload_n 0, 1) := by decide +kernel
theorem dL_areTagsSo_12 : decode cL_areTagsSo 12 = .ok (.iconst 1, 1) := by decide +kernel
theorem dL_areTagsSo_13 : decode cL_areTagsSo 13 = .ok (.invokevirtual 43, 3) := by decide +kernel
theorem dL_areTagsSo_16 : decode cL_areTagsSo 16 = .ok (.if_icmp .ge 75, 3) := by decide +kernel
theorem dL_areTagsSo_19 : decode cL_areTagsSo 19 = .ok (.aload_n 0, 1) := by decide +kernel
theorem dL_areTagsSo_20 : decode cL_areTagsSo 20 = .ok (.iload 4, 2) := by decide +kernel
theorem dL_areTagsSo_22 : decode cL_areTagsSo 22 = .ok (.invokevirtual 46, 3) := by decide +kernel
theorem dL_areTagsSo_25 : decode cL_areTagsSo 25 = .ok (.istore 5, 2) := by decide +kernel
theorem dL_areTagsSo_27 : decode cL_areTagsSo 27 = .ok (.iload_n 1, 1) := by decide +kernel
theorem dL_areTagsSo_28 : decode cL_areTagsSo 28 = .ok (.iload 5, 2) := by decide +kernel
theorem dL_areTagsSo_30 : decode cL_areTagsSo 30 = .ok (.bipush (-5), 2) := by decide +kernel
theorem dL_areTagsSo_32 : decode cL_areTagsSo 32 = .ok (.if_icmp .ne 7, 3) := by decide +kernel
theorem dL_areTagsSo_35 : decode cL_areTagsSo 35 = .ok (.iconst 0, 1) := by decide +kernel
theorem dL_areTagsSo_36 : decode cL_areTagsSo 36 = .ok (.goto 4, 3) := by decide +kernel
theorem dL_areTagsSo_39 : decode cL_areTagsSo 39 = .ok (.iconst 1, 1) := by decide +kernel
theorem dL_areTagsSo_40 : decode cL_areTagsSo 40 = .ok (.iadd, 1) := by decide +kernel
theorem dL_areTagsSo_41 : decode cL_areTagsSo 41 = .ok (.istore_n 1, 1) := by decide +kernel
theorem dL_areTagsSo_42 : decode cL_areTagsSo 42 = .ok (.iload 5, 2) := by decide +kernel
theorem dL_areTagsSo_44 : decode cL_areTagsSo 44 = .ok (.bipush (-5), 2) := by decide +kernel
theorem dL_areTagsSo_46 : decode cL_areTagsSo 46 = .ok (.if_icmp .eq 39, 3) := by decide +kernel
theorem dL_areTagsSo_49 : decode cL_areTagsSo 49 = .ok (.aload_n 0, 1) := by decide +kernel
theorem dL_areTagsSo_50 : decode cL_areTagsSo 50 = .ok (.iload 5, 2) := by decide +kernel
theorem dL_areTagsSo_52 : decode cL_areTagsSo 52 = .ok (.iconst 5, 1) := by decide +kernel
theorem dL_areTagsSo_53 : decode cL_areTagsSo 53 = .ok (.invokevirtual 49, 3) := by decide +kernel
theorem dL_areTagsSo_56 : decode cL_areTagsSo 56 = .ok (.iload 4, 2) := by decide +kernel
theorem dL_areTagsSo_58 : decode cL_areTagsSo 58 = .ok (.if_icmp .ne 25, 3) := by decide +kernel
theorem dL_areTagsSo_61 : decode cL_areTagsSo 61 = .ok (.aload_n 0, 1) := by decide +kernel
theorem dL_areTagsSo_62 : decode cL_areTagsSo 62 = .ok (.iload 5, 2) := by decide +kernel
theorem dL_areTagsSo_64 : decode cL_areTagsSo 64 = .ok (.iconst 4, 1) := by decide +kernel
theorem dL_areTagsSo_65 : decode cL_areTagsSo 65 = .ok (.invokevirtual 49, 3) := by decide +kernel
theorem dL_areTagsSo_68 : decode cL_areTagsSo 68 = .ok (.iconst 1, 1) := by decide +kernel
theorem dL_areTagsSo_69 : decode cL_areTagsSo 69 = .ok (.if_icmp .lt 14, 3) := by decide +kernel
theorem dL_areTagsSo_72 : decode cL_areTagsSo 72 = .ok (.aload_n 0, 1) := by decide +kernel
theorem dL_areTagsSo_73 : decode cL_areTagsSo 73 = .ok (.iload 5, 2) := by decide +kernel
theorem dL_areTagsSo_75 : decode cL_areTagsSo 75 = .ok (.iconst 4, 1) := by decide +kernel
theorem dL_areTagsSo_76 : decode cL_areTagsSo 76 = .ok (.invokevirtual 49, 3) := by decide +kernel
theorem dL_areTagsSo_79 : decode cL_areTagsSo 79 = .ok (.iconst 2, 1) := by decide +kernel
theorem dL_areTagsSo_80 : decode cL_areTagsSo 80 = .ok (.if_icmp .le 5, 3) := by decide +kernel
theorem dL_areTagsSo_83 : decode cL_areTagsSo 83 = .ok (.iconst 0, 1) := by decide +kernel
theorem dL_areTagsSo_84 : decode cL_areTagsSo 84 = .ok (.ireturn, 1) := by decide +kernel
theorem dL_areTagsSo_85 : decode cL_areTagsSo 85 = .ok (.iinc 4 1, 3) := by decide +kernel
theorem dL_areTagsSo_88 : decode cL_areTagsSo 88 = .ok (.goto (-79), 3) := by decide +kernel
theorem dL_areTagsSo_91 : decode cL_areTagsSo 91 = .ok (.iconst 0, 1) := by decide +kernel
theorem dL_areTagsSo_92 : decode cL_areTagsSo 92 = .ok (.istore 4, 2) := by decide +kernel
theorem dL_areTagsSo_94 : decode cL_areTagsSo 94 = .ok (.iload 4, 2) := by decide +kernel
theorem dL_areTagsSo_96 : decode cL_areTagsSo 96 = .ok (.iconst 4, 1) := by decide +kernel
theorem dL_areTagsSo_97 : decode cL_areTagsSo 97 = .ok (.if_icmp .ge 59, 3) := by decide +kernel
theorem dL_areTagsSo_100 : decode cL_areTagsSo 100 = .ok (.iload_n 2, 1) := by decide +kernel
theorem dL_areTagsSo_101 : decode cL_areTagsSo 101 = .ok (.aload_n 0, 1) := by decide +kernel
theorem dL_areTagsSo_102 : decode cL_areTagsSo 102 = .ok (.iload 4, 2) := by decide +kernel
theorem dL_areTagsSo_104 : decode cL_areTagsSo 104 = .ok (.iconst 3, 1) := by decide +kernel
theorem dL_areTagsSo_105 : decode cL_areTagsSo 105 = .ok (.invokevirtual 52, 3) := by decide +kernel
theorem dL_areTagsSo_108 : decode cL_areTagsSo 108 = .ok (.iadd, 1) := by decide +kernel
theorem dL_areTagsSo_109 : decode cL_areTagsSo 109 = .ok (.istore_n 2, 1) := by decide +kernel
theorem dL_areTagsSo_110 : decode cL_areTagsSo 110 = .ok (.iload_n 3, 1) := by decide +kernel
theorem dL_areTagsSo_111 : decode cL_areTagsSo 111 = .ok (.aload_n 0, 1) := by decide +kernel
theorem dL_areTagsSo_112 : decode cL_areTagsSo 112 = .ok (.iload 4, 2) := by decide +kernel
theorem dL_areTagsSo_114 : decode cL_areTagsSo 114 = .ok (.iconst 2, 1) := by decide +kernel
theorem dL_areTagsSo_115 : decode cL_areTagsSo 115 = .ok (.invokevirtual 55, 3) := by decide +kernel
theorem dL_areTagsSo_118 : decode cL_areTagsSo 118 = .ok (.iadd, 1) := by decide +kernel
theorem dL_areTagsSo_119 : decode cL_areTagsSo 119 = .ok (.istore_n 3, 1) := by decide +kernel
theorem dL_areTagsSo_120 : decode cL_areTagsSo 120 = .ok (.aload_n 0, 1) := by decide +kernel
theorem dL_areTagsSo_121 : decode cL_areTagsSo 121 = .ok (.iload 4, 2) := by decide +kernel
theorem dL_areTagsSo_123 : decode cL_areTagsSo 123 = .ok (.iconst 3, 1) := by decide +kernel
theorem dL_areTagsSo_124 : decode cL_areTagsSo 124 = .ok (.invokevirtual 52, 3) := by decide +kernel
theorem dL_areTagsSo_127 : decode cL_areTagsSo 127 = .ok (.iconst 4, 1) := by decide +kernel
theorem dL_areTagsSo_128 : decode cL_areTagsSo 128 = .ok (.if_icmp .gt 20, 3) := by decide +kernel
theorem dL_areTagsSo_131 : decode cL_areTagsSo 131 = .ok (.aload_n 0, 1) := by decide +kernel
theorem dL_areTagsSo_132 : decode cL_areTagsSo 132 = .ok (.iload 4, 2) := by decide +kernel
theorem dL_areTagsSo_134 : decode cL_areTagsSo 134 = .ok (.iconst 4, 1) := by decide +kernel
theorem dL_areTagsSo_135 : decode cL_areTagsSo 135 = .ok (.invokevirtual 52, 3) := by decide +kernel
theorem dL_areTagsSo_138 : decode cL_areTagsSo 138 = .ok (.aload_n 0, 1) := by decide +kernel
theorem dL_areTagsSo_139 : decode cL_areTagsSo 139 = .ok (.iload 4, 2) := by decide +kernel
theorem dL_areTagsSo_141 : decode cL_areTagsSo 141 = .ok (.iconst 3, 1) := by decide +kernel
theorem dL_areTagsSo_142 : decode cL_areTagsSo 142 = .ok (.invokevirtual 52, 3) := by decide +kernel
theorem dL_areTagsSo_145 : decode cL_areTagsSo 145 = .ok (.if_icmp .le 5, 3) := by decide +kernel
theorem dL_areTagsSo_148 : decode cL_areTagsSo 148 = .ok (.iconst 0, 1) := by decide +kernel
theorem dL_areTagsSo_149 : decode cL_areTagsSo 149 = .ok (.ireturn, 1) := by decide +kernel
theorem dL_areTagsSo_150 : decode cL_areTagsSo 150 = .ok (.iinc 4 1, 3) := by decide +kernel
theorem dL_areTagsSo_153 : decode cL_areTagsSo 153 = .ok (.goto (-59), 3) := by decide +kernel
theorem dL_areTagsSo_156 : decode cL_areTagsSo 156 = .ok (.iload_n 1, 1) := by decide +kernel
theorem dL_areTagsSo_157 : decode cL_areTagsSo 157 = .ok (.iload_n 2, 1) := by decide +kernel
theorem dL_areTagsSo_158 : decode cL_areTagsSo 158 = .ok (.if_icmp .ne 40, 3) := by decide +kernel
theorem dL_areTagsSo_161 : decode cL_areTagsSo 161 = .ok (.iload_n 3, 1) := by decide +kernel
theorem dL_areTagsSo_162 : decode cL_areTagsSo 162 = .ok (.iload_n 1, 1) := by decide +kernel
theorem dL_areTagsSo_163 : decode cL_areTagsSo 163 = .ok (.if_icmp .ne 35, 3) := by decide +kernel
theorem dL_areTagsSo_166 : decode cL_areTagsSo 166 = .ok (.aload_n 0, 1) := by decide +kernel
theorem dL_areTagsSo_167 : decode cL_areTagsSo 167 = .ok (.iconst 5, 1) := by decide +kernel
theorem dL_areTagsSo_168 : decode cL_areTagsSo 168 = .ok (.invokevirtual 43, 3) := by decide +kernel
theorem dL_areTagsSo_171 : decode cL_areTagsSo 171 = .ok (.iload_n 1, 1) := by decide +kernel
theorem dL_areTagsSo_172 : decode cL_areTagsSo 172 = .ok (.iadd, 1) := by decide +kernel
theorem dL_areTagsSo_173 : decode cL_areTagsSo 173 = .ok (.aload_n 0, 1) := by decide +kernel
theorem dL_areTagsSo_174 : decode cL_areTagsSo 174 = .ok (.iconst 1, 1) := by decide +kernel
theorem dL_areTagsSo_175 : decode cL_areTagsSo 175 = .ok (.invokevirtual 43, 3) := by decide +kernel
theorem dL_areTagsSo_178 : decode cL_areTagsSo 178 = .ok (.if_icmp .ne 20, 3) := by decide +kernel
theorem dL_areTagsSo_181 : decode cL_areTagsSo 181 = .ok (.aload_n 0, 1) := by decide +kernel
theorem dL_areTagsSo_182 : decode cL_areTagsSo 182 = .ok (.aload_n 0, 1) := by decide +kernel
theorem dL_areTagsSo_183 : decode cL_areTagsSo 183 = .ok (.iconst 1, 1) := by decide +kernel
theorem dL_areTagsSo_184 : decode cL_areTagsSo 184 = .ok (.invokevirtual 43, 3) := by decide +kernel
theorem dL_areTagsSo_187 : decode cL_areTagsSo 187 = .ok (.invokevirtual 46, 3) := by decide +kernel
theorem dL_areTagsSo_190 : decode cL_areTagsSo 190 = .ok (.iconst (-1), 1) := by decide +kernel
theorem dL_areTagsSo_191 : decode cL_areTagsSo 191 = .ok (.if_icmp .ne 7, 3) := by decide +kernel
theorem dL_areTagsSo_194 : decode cL_areTagsSo 194 = .ok (.iconst 1, 1) := by decide +kernel
theorem dL_areTagsSo_195 : decode cL_areTagsSo 195 = .ok (.goto 4, 3) := by decide +kernel
theorem dL_areTagsSo_198 : decode cL_areTagsSo 198 = .ok (.iconst 0, 1) := by decide +kernel
theorem dL_areTagsSo_199 : decode cL_areTagsSo 199 = .ok (.ireturn, 1) := by decide +kernel
theorem dL_areRowsSo_0 : decode cL_areRowsSo 0 = .ok (.iconst 0, 1) := by decide +kernel
theorem dL_areRowsSo_1 : decode cL_areRowsSo 1 = .ok (.istore_n 1, 1) := by decide +kernel
theorem dL_areRowsSo_2 : decode cL_areRowsSo 2 = .ok (.iconst 0, 1) := by decide +kernel
theorem dL_areRowsSo_3 : decode cL_areRowsSo 3 = .ok (.istore_n 2, 1) := by decide +kernel
theorem dL_areRowsSo_4 : decode cL_areRowsSo 4 = .ok (.iconst 0, 1) := by decide +kernel
theorem dL_areRowsSo_5 : decode cL_areRowsSo 5 = .ok (.istore_n 3, 1) := by decide +kernel
theorem dL_areRowsSo_6 : decode cL_areRowsSo 6 = .ok (.iconst 0, 1) := by decide +kernel
theorem dL_areRowsSo_7 : decode cL_areRowsSo 7 = .ok (.istore 4, 2) := by decide +kernel
theorem dL_areRowsSo_9 : decode cL_areRowsSo 9 = .ok (.iload 4, 2) := by decide +kernel
theorem dL_areRowsSo_11 : decode cL_areRowsSo 11 = .ok (.iconst 4, 1) := by decide +kernel
theorem dL_areRowsSo_12 : decode cL_areRowsSo 12 = .ok (.if_icmp .ge 126, 3) := by decide +kernel
theorem dL_areRowsSo_15 : decode cL_areRowsSo 15 = .ok (.aload_n 0, 1) := by decide +kernel
theorem dL_areRowsSo_16 : decode cL_areRowsSo 16 = .ok (.iload 4, 2) := by decide +kernel
theorem dL_areRowsSo_18 : decode cL_areRowsSo 18 = .ok (.iconst 0, 1) := by decide +kernel
theorem dL_areRowsSo_19 : decode cL_areRowsSo 19 = .ok (.invokevirtual 55, 3) := by decide +kernel
theorem dL_areRowsSo_22 : decode cL_areRowsSo 22 = .ok (.istore 5, 2) := by decide +kernel
theorem dL_areRowsSo_24 : decode cL_areRowsSo 24 = .ok (.iload_n 1, 1) := by decide +kernel
theorem dL_areRowsSo_25 : decode cL_areRowsSo 25 = .ok (.iload 5, 2) := by decide +kernel
theorem dL_areRowsSo_27 : decode cL_areRowsSo 27 = .ok (.iadd, 1) := by decide +kernel
theorem dL_areRowsSo_28 : decode cL_areRowsSo 28 = .ok (.istore_n 1, 1) := by decide +kernel
theorem dL_areRowsSo_29 : decode cL_areRowsSo 29 = .ok (.iload_n 3, 1) := by decide +kernel
theorem dL_areRowsSo_30 : decode cL_areRowsSo 30 = .ok (.aload_n 0, 1) := by decide +kernel
theorem dL_areRowsSo_31 : decode cL_areRowsSo 31 = .ok (.iload 4, 2) := by decide +kernel
theorem dL_areRowsSo_33 : decode cL_areRowsSo 33 = .ok (.bipush 6, 2) := by decide +kernel
theorem dL_areRowsSo_35 : decode cL_areRowsSo 35 = .ok (.invokevirtual 55, 3) := by decide +kernel
theorem dL_areRowsSo_38 : decode cL_areRowsSo 38 = .ok (.iadd, 1) := by decide +kernel
theorem dL_areRowsSo_39 : decode cL_areRowsSo 39 = .ok (.istore_n 3, 1) := by decide +kernel
theorem dL_areRowsSo_40 : decode cL_areRowsSo 40 = .ok (.iconst 0, 1) := by decide +kernel
theorem dL_areRowsSo_41 : decode cL_areRowsSo 41 = .ok (.istore 6, 2) := by decide +kernel
theorem dL_areRowsSo_43 : decode cL_areRowsSo 43 = .ok (.iload 6, 2) := by decide +kernel
theorem dL_areRowsSo_45 : decode cL_areRowsSo 45 = .ok (.iload 5, 2) := by decide +kernel
theorem dL_areRowsSo_47 : decode cL_areRowsSo 47 = .ok (.if_icmp .ge 63, 3) := by decide +kernel
theorem dL_areRowsSo_50 : decode cL_areRowsSo 50 = .ok (.aload_n 0, 1) := by decide +kernel
theorem dL_areRowsSo_51 : decode cL_areRowsSo 51 = .ok (.iload 4, 2) := by decide +kernel
theorem dL_areRowsSo_53 : decode cL_areRowsSo 53 = .ok (.iload 6, 2) := by decide +kernel
theorem dL_areRowsSo_55 : decode cL_areRowsSo 55 = .ok (.invokevirtual 58, 3) := by decide +kernel
theorem dL_areRowsSo_58 : decode cL_areRowsSo 58 = .ok (.istore 7, 2) := by decide +kernel
theorem dL_areRowsSo_60 : decode cL_areRowsSo 60 = .ok (.aload_n 0, 1) := by decide +kernel
theorem dL_areRowsSo_61 : decode cL_areRowsSo 61 = .ok (.iload 7, 2) := by decide +kernel
theorem dL_areRowsSo_63 : decode cL_areRowsSo 63 = .ok (.iconst 4, 1) := by decide +kernel
theorem dL_areRowsSo_64 : decode cL_areRowsSo 64 = .ok (.invokevirtual 49, 3) := by decide +kernel
theorem dL_areRowsSo_67 : decode cL_areRowsSo 67 = .ok (.ifCond .ne 35, 3) := by decide +kernel
theorem dL_areRowsSo_70 : decode cL_areRowsSo 70 = .ok (.aload_n 0, 1) := by decide +kernel
theorem dL_areRowsSo_71 : decode cL_areRowsSo 71 = .ok (.iload 7, 2) := by decide +kernel
theorem dL_areRowsSo_73 : decode cL_areRowsSo 73 = .ok (.iconst 0, 1) := by decide +kernel
theorem dL_areRowsSo_74 : decode cL_areRowsSo 74 = .ok (.invokevirtual 49, 3) := by decide +kernel
theorem dL_areRowsSo_77 : decode cL_areRowsSo 77 = .ok (.iload 4, 2) := by decide +kernel
theorem dL_areRowsSo_79 : decode cL_areRowsSo 79 = .ok (.if_icmp .ne 23, 3) := by decide +kernel
theorem dL_areRowsSo_82 : decode cL_areRowsSo 82 = .ok (.iload 6, 2) := by decide +kernel
theorem dL_areRowsSo_84 : decode cL_areRowsSo 84 = .ok (.ifCond .le 20, 3) := by decide +kernel
theorem dL_areRowsSo_87 : decode cL_areRowsSo 87 = .ok (.iload 7, 2) := by decide +kernel
theorem dL_areRowsSo_89 : decode cL_areRowsSo 89 = .ok (.aload_n 0, 1) := by decide +kernel
theorem dL_areRowsSo_90 : decode cL_areRowsSo 90 = .ok (.iload 4, 2) := by decide +kernel
theorem dL_areRowsSo_92 : decode cL_areRowsSo 92 = .ok (.iload 6, 2) := by decide +kernel
theorem dL_areRowsSo_94 : decode cL_areRowsSo 94 = .ok (.iconst 1, 1) := by decide +kernel
theorem dL_areRowsSo_95 : decode cL_areRowsSo 95 = .ok (.isub, 1) := by decide +kernel
theorem dL_areRowsSo_96 : decode cL_areRowsSo 96 = .ok (.invokevirtual 58, 3) := by decide +kernel
theorem dL_areRowsSo_99 : decode cL_areRowsSo 99 = .ok (.if_icmp .gt 5, 3) := by decide +kernel
theorem dL_areRowsSo_102 : decode cL_areRowsSo 102 = .ok (.iconst 0, 1) := by decide +kernel
theorem dL_areRowsSo_103 : decode cL_areRowsSo 103 = .ok (.ireturn, 1) := by decide +kernel
theorem dL_areRowsSo_104 : decode cL_areRowsSo 104 = .ok (.iinc 6 1, 3) := by decide +kernel
theorem dL_areRowsSo_107 : decode cL_areRowsSo 107 = .ok (.goto (-64), 3) := by decide +kernel
theorem dL_areRowsSo_110 : decode cL_areRowsSo 110 = .ok (.iload 5, 2) := by decide +kernel
theorem dL_areRowsSo_112 : decode cL_areRowsSo 112 = .ok (.bipush 6, 2) := by decide +kernel
theorem dL_areRowsSo_114 : decode cL_areRowsSo 114 = .ok (.if_icmp .gt 16, 3) := by decide +kernel
theorem dL_areRowsSo_117 : decode cL_areRowsSo 117 = .ok (.aload_n 0, 1) := by decide +kernel
theorem dL_areRowsSo_118 : decode cL_areRowsSo 118 = .ok (.iload 4, 2) := by decide +kernel
theorem dL_areRowsSo_120 : decode cL_areRowsSo 120 = .ok (.iload 5, 2) := by decide +kernel
theorem dL_areRowsSo_122 : decode cL_areRowsSo 122 = .ok (.invokevirtual 58, 3) := by decide +kernel
theorem dL_areRowsSo_125 : decode cL_areRowsSo 125 = .ok (.bipush (-5), 2) := by decide +kernel
theorem dL_areRowsSo_127 : decode cL_areRowsSo 127 = .ok (.if_icmp .eq 5, 3) := by decide +kernel
theorem dL_areRowsSo_130 : decode cL_areRowsSo 130 = .ok (.iconst 0, 1) := by decide +kernel
theorem dL_areRowsSo_131 : decode cL_areRowsSo 131 = .ok (.ireturn, 1) := by decide +kernel
theorem dL_areRowsSo_132 : decode cL_areRowsSo 132 = .ok (.iinc 4 1, 3) := by decide +kernel
theorem dL_areRowsSo_135 : decode cL_areRowsSo 135 = .ok (.goto (-126), 3) := by decide +kernel
theorem dL_areRowsSo_138 : decode cL_areRowsSo 138 = .ok (.iconst 0, 1) := by decide +kernel
theorem dL_areRowsSo_139 : decode cL_areRowsSo 139 = .ok (.istore 4, 2) := by decide +kernel
theorem dL_areRowsSo_141 : decode cL_areRowsSo 141 = .ok (.iconst 0, 1) := by decide +kernel
theorem dL_areRowsSo_142 : decode cL_areRowsSo 142 = .ok (.istore 5, 2) := by decide +kernel
theorem dL_areRowsSo_144 : decode cL_areRowsSo 144 = .ok (.iconst 0, 1) := by decide +kernel
theorem dL_areRowsSo_145 : decode cL_areRowsSo 145 = .ok (.istore 6, 2) := by decide +kernel
theorem dL_areRowsSo_147 : decode cL_areRowsSo 147 = .ok (.iload 6, 2) := by decide +kernel
theorem dL_areRowsSo_149 : decode cL_areRowsSo 149 = .ok (.aload_n 0, 1) := by decide +kernel
theorem dL_areRowsSo_150 : decode cL_areRowsSo 150 = .ok (.iconst 4, 1) := by decide +kernel
theorem dL_areRowsSo_151 : decode cL_areRowsSo 151 = .ok (.invokevirtual 43, 3) := by decide +kernel
theorem dL_areRowsSo_154 : decode cL_areRowsSo 154 = .ok (.if_icmp .ge 67, 3) := by decide +kernel
theorem dL_areRowsSo_157 : decode cL_areRowsSo 157 = .ok (.aload_n 0, 1) := by decide +kernel
theorem dL_areRowsSo_158 : decode cL_areRowsSo 158 = .ok (.iload 6, 2) := by decide +kernel
theorem dL_areRowsSo_160 : decode cL_areRowsSo 160 = .ok (.iconst 4, 1) := by decide +kernel
theorem dL_areRowsSo_161 : decode cL_areRowsSo 161 = .ok (.invokevirtual 49, 3) := by decide +kernel
theorem dL_areRowsSo_164 : decode cL_areRowsSo 164 = .ok (.istore 7, 2) := by decide +kernel
theorem dL_areRowsSo_166 : decode cL_areRowsSo 166 = .ok (.iload 4, 2) := by decide +kernel
theorem dL_areRowsSo_168 : decode cL_areRowsSo 168 = .ok (.aload_n 0, 1) := by decide +kernel
theorem dL_areRowsSo_169 : decode cL_areRowsSo 169 = .ok (.iload 6, 2) := by decide +kernel
theorem dL_areRowsSo_171 : decode cL_areRowsSo 171 = .ok (.bipush 8, 2) := by decide +kernel
theorem dL_areRowsSo_173 : decode cL_areRowsSo 173 = .ok (.invokevirtual 49, 3) := by decide +kernel
theorem dL_areRowsSo_176 : decode cL_areRowsSo 176 = .ok (.iadd, 1) := by decide +kernel
theorem dL_areRowsSo_177 : decode cL_areRowsSo 177 = .ok (.istore 4, 2) := by decide +kernel
theorem dL_areRowsSo_179 : decode cL_areRowsSo 179 = .ok (.iload 5, 2) := by decide +kernel
theorem dL_areRowsSo_181 : decode cL_areRowsSo 181 = .ok (.iload 7, 2) := by decide +kernel
theorem dL_areRowsSo_183 : decode cL_areRowsSo 183 = .ok (.iconst 4, 1) := by decide +kernel
theorem dL_areRowsSo_184 : decode cL_areRowsSo 184 = .ok (.if_icmp .ne 7, 3) := by decide +kernel
theorem dL_areRowsSo_187 : decode cL_areRowsSo 187 = .ok (.iconst 1, 1) := by decide +kernel
theorem dL_areRowsSo_188 : decode cL_areRowsSo 188 = .ok (.goto 4, 3) := by decide +kernel
theorem dL_areRowsSo_191 : decode cL_areRowsSo 191 = .ok (.iconst 0, 1) := by decide +kernel
theorem dL_areRowsSo_192 : decode cL_areRowsSo 192 = .ok (.iadd, 1) := by decide +kernel
theorem dL_areRowsSo_193 : decode cL_areRowsSo 193 = .ok (.istore 5, 2) := by decide +kernel
theorem dL_areRowsSo_195 : decode cL_areRowsSo 195 = .ok (.iload_n 2, 1) := by decide +kernel
theorem dL_areRowsSo_196 : decode cL_areRowsSo 196 = .ok (.iload 7, 2) := by decide +kernel
theorem dL_areRowsSo_198 : decode cL_areRowsSo 198 = .ok (.iconst 1, 1) := by decide +kernel
theorem dL_areRowsSo_199 : decode cL_areRowsSo 199 = .ok (.if_icmp .eq 9, 3) := by decide +kernel
theorem dL_areRowsSo_202 : decode cL_areRowsSo 202 = .ok (.iload 7, 2) := by decide +kernel
theorem dL_areRowsSo_204 : decode cL_areRowsSo 204 = .ok (.iconst 2, 1) := by decide +kernel
theorem dL_areRowsSo_205 : decode cL_areRowsSo 205 = .ok (.if_icmp .ne 7, 3) := by decide +kernel
theorem dL_areRowsSo_208 : decode cL_areRowsSo 208 = .ok (.iconst 1, 1) := by decide +kernel
theorem dL_areRowsSo_209 : decode cL_areRowsSo 209 = .ok (.goto 4, 3) := by decide +kernel
theorem dL_areRowsSo_212 : decode cL_areRowsSo 212 = .ok (.iconst 0, 1) := by decide +kernel
theorem dL_areRowsSo_213 : decode cL_areRowsSo 213 = .ok (.iadd, 1) := by decide +kernel
theorem dL_areRowsSo_214 : decode cL_areRowsSo 214 = .ok (.istore_n 2, 1) := by decide +kernel
theorem dL_areRowsSo_215 : decode cL_areRowsSo 215 = .ok (.iinc 6 1, 3) := by decide +kernel
theorem dL_areRowsSo_218 : decode cL_areRowsSo 218 = .ok (.goto (-71), 3) := by decide +kernel
theorem dL_areRowsSo_221 : decode cL_areRowsSo 221 = .ok (.iload_n 3, 1) := by decide +kernel
theorem dL_areRowsSo_222 : decode cL_areRowsSo 222 = .ok (.aload_n 0, 1) := by decide +kernel
theorem dL_areRowsSo_223 : decode cL_areRowsSo 223 = .ok (.bipush 6, 2) := by decide +kernel
theorem dL_areRowsSo_225 : decode cL_areRowsSo 225 = .ok (.invokevirtual 43, 3) := by decide +kernel
theorem dL_areRowsSo_228 : decode cL_areRowsSo 228 = .ok (.if_icmp .ne 35, 3) := by decide +kernel
theorem dL_areRowsSo_231 : decode cL_areRowsSo 231 = .ok (.iload 4, 2) := by decide +kernel
theorem dL_areRowsSo_233 : decode cL_areRowsSo 233 = .ok (.aload_n 0, 1) := by decide +kernel
theorem dL_areRowsSo_234 : decode cL_areRowsSo 234 = .ok (.bipush 8, 2) := by decide +kernel
theorem dL_areRowsSo_236 : decode cL_areRowsSo 236 = .ok (.invokevirtual 43, 3) := by decide +kernel
theorem dL_areRowsSo_239 : decode cL_areRowsSo 239 = .ok (.if_icmp .ne 24, 3) := by decide +kernel
theorem dL_areRowsSo_242 : decode cL_areRowsSo 242 = .ok (.aload_n 0, 1) := by decide +kernel
theorem dL_areRowsSo_243 : decode cL_areRowsSo 243 = .ok (.bipush 7, 2) := by decide +kernel
theorem dL_areRowsSo_245 : decode cL_areRowsSo 245 = .ok (.invokevirtual 43, 3) := by decide +kernel
theorem dL_areRowsSo_248 : decode cL_areRowsSo 248 = .ok (.aload_n 0, 1) := by decide +kernel
theorem dL_areRowsSo_249 : decode cL_areRowsSo 249 = .ok (.bipush 6, 2) := by decide +kernel
theorem dL_areRowsSo_251 : decode cL_areRowsSo 251 = .ok (.invokevirtual 43, 3) := by decide +kernel
theorem dL_areRowsSo_254 : decode cL_areRowsSo 254 = .ok (.iload_n 2, 1) := by decide +kernel
theorem dL_areRowsSo_255 : decode cL_areRowsSo 255 = .ok (.iadd, 1) := by decide +kernel
theorem dL_areRowsSo_256 : decode cL_areRowsSo 256 = .ok (.if_icmp .ne 7, 3) := by decide +kernel
theorem dL_areRowsSo_259 : decode cL_areRowsSo 259 = .ok (.iconst 1, 1) := by decide +kernel
theorem dL_areRowsSo_260 : decode cL_areRowsSo 260 = .ok (.goto 4, 3) := by decide +kernel
theorem dL_areRowsSo_263 : decode cL_areRowsSo 263 = .ok (.iconst 0, 1) := by decide +kernel
theorem dL_areRowsSo_264 : decode cL_areRowsSo 264 = .ok (.istore 6, 2) := by decide +kernel
theorem dL_areRowsSo_266 : decode cL_areRowsSo 266 = .ok (.iload 6, 2) := by decide +kernel
theorem dL_areRowsSo_268 : decode cL_areRowsSo 268 = .ok (.ifCond .eq 58, 3) := by decide +kernel
theorem dL_areRowsSo_271 : decode cL_areRowsSo 271 = .ok (.iload_n 1, 1) := by decide +kernel
theorem dL_areRowsSo_272 : decode cL_areRowsSo 272 = .ok (.iload_n 2, 1) := by decide +kernel
theorem dL_areRowsSo_273 : decode cL_areRowsSo 273 = .ok (.iadd, 1) := by decide +kernel
theorem dL_areRowsSo_274 : decode cL_areRowsSo 274 = .ok (.iload_n 3, 1) := by decide +kernel
theorem dL_areRowsSo_275 : decode cL_areRowsSo 275 = .ok (.iadd, 1) := by decide +kernel
theorem dL_areRowsSo_276 : decode cL_areRowsSo 276 = .ok (.iload 5, 2) := by decide +kernel
theorem dL_areRowsSo_278 : decode cL_areRowsSo 278 = .ok (.iadd, 1) := by decide +kernel
theorem dL_areRowsSo_279 : decode cL_areRowsSo 279 = .ok (.aload_n 0, 1) := by decide +kernel
theorem dL_areRowsSo_280 : decode cL_areRowsSo 280 = .ok (.iconst 4, 1) := by decide +kernel
theorem dL_areRowsSo_281 : decode cL_areRowsSo 281 = .ok (.invokevirtual 43, 3) := by decide +kernel
theorem dL_areRowsSo_284 : decode cL_areRowsSo 284 = .ok (.if_icmp .ne 42, 3) := by decide +kernel
theorem dL_areRowsSo_287 : decode cL_areRowsSo 287 = .ok (.aload_n 0, 1) := by decide +kernel
theorem dL_areRowsSo_288 : decode cL_areRowsSo 288 = .ok (.iconst 0, 1) := by decide +kernel
theorem dL_areRowsSo_289 : decode cL_areRowsSo 289 = .ok (.invokevirtual 43, 3) := by decide +kernel
theorem dL_areRowsSo_292 : decode cL_areRowsSo 292 = .ok (.aload_n 0, 1) := by decide +kernel
theorem dL_areRowsSo_293 : decode cL_areRowsSo 293 = .ok (.bipush 6, 2) := by decide +kernel
theorem dL_areRowsSo_295 : decode cL_areRowsSo 295 = .ok (.invokevirtual 43, 3) := by decide +kernel
theorem dL_areRowsSo_298 : decode cL_areRowsSo 298 = .ok (.aload_n 0, 1) := by decide +kernel
theorem dL_areRowsSo_299 : decode cL_areRowsSo 299 = .ok (.bipush 7, 2) := by decide +kernel
theorem dL_areRowsSo_301 : decode cL_areRowsSo 301 = .ok (.invokevirtual 43, 3) := by decide +kernel
theorem dL_areRowsSo_304 : decode cL_areRowsSo 304 = .ok (.iadd, 1) := by decide +kernel
theorem dL_areRowsSo_305 : decode cL_areRowsSo 305 = .ok (.aload_n 0, 1) := by decide +kernel
theorem dL_areRowsSo_306 : decode cL_areRowsSo 306 = .ok (.bipush 8, 2) := by decide +kernel
theorem dL_areRowsSo_308 : decode cL_areRowsSo 308 = .ok (.invokevirtual 43, 3) := by decide +kernel
theorem dL_areRowsSo_311 : decode cL_areRowsSo 311 = .ok (.iadd, 1) := by decide +kernel
theorem dL_areRowsSo_312 : decode cL_areRowsSo 312 = .ok (.aload_n 0, 1) := by decide +kernel
theorem dL_areRowsSo_313 : decode cL_areRowsSo 313 = .ok (.bipush 9, 2) := by decide +kernel
theorem dL_areRowsSo_315 : decode cL_areRowsSo 315 = .ok (.invokevirtual 43, 3) := by decide +kernel
theorem dL_areRowsSo_318 : decode cL_areRowsSo 318 = .ok (.iadd, 1) := by decide +kernel
theorem dL_areRowsSo_319 : decode cL_areRowsSo 319 = .ok (.if_icmp .ne 7, 3) := by decide +kernel
theorem dL_areRowsSo_322 : decode cL_areRowsSo 322 = .ok (.iconst 1, 1) := by decide +kernel
theorem dL_areRowsSo_323 : decode cL_areRowsSo 323 = .ok (.goto 4, 3) := by decide +kernel
theorem dL_areRowsSo_326 : decode cL_areRowsSo 326 = .ok (.iconst 0, 1) := by decide +kernel
theorem dL_areRowsSo_327 : decode cL_areRowsSo 327 = .ok (.ireturn, 1) := by decide +kernel
theorem dL_isNextSo_0 : decode cL_isNextSo 0 = .ok (.aload_n 0, 1) := by decide +kernel
theorem dL_isNextSo_1 : decode cL_isNextSo 1 = .ok (.iconst 0, 1) := by decide +kernel
theorem dL_isNextSo_2 : decode cL_isNextSo 2 = .ok (.invokevirtual 61, 3) := by decide +kernel
theorem dL_isNextSo_5 : decode cL_isNextSo 5 = .ok (.istore_n 1, 1) := by decide +kernel
theorem dL_isNextSo_6 : decode cL_isNextSo 6 = .ok (.aload_n 0, 1) := by decide +kernel
theorem dL_isNextSo_7 : decode cL_isNextSo 7 = .ok (.iconst 1, 1) := by decide +kernel
theorem dL_isNextSo_8 : decode cL_isNextSo 8 = .ok (.invokevirtual 61, 3) := by decide +kernel
theorem dL_isNextSo_11 : decode cL_isNextSo 11 = .ok (.istore_n 2, 1) := by decide +kernel
theorem dL_isNextSo_12 : decode cL_isNextSo 12 = .ok (.iload_n 2, 1) := by decide +kernel
theorem dL_isNextSo_13 : decode cL_isNextSo 13 = .ok (.bipush (-5), 2) := by decide +kernel
theorem dL_isNextSo_15 : decode cL_isNextSo 15 = .ok (.if_icmp .ne 51, 3) := by decide +kernel
theorem dL_isNextSo_18 : decode cL_isNextSo 18 = .ok (.aload_n 0, 1) := by decide +kernel
theorem dL_isNextSo_19 : decode cL_isNextSo 19 = .ok (.bipush 9, 2) := by decide +kernel
theorem dL_isNextSo_21 : decode cL_isNextSo 21 = .ok (.invokevirtual 43, 3) := by decide +kernel
theorem dL_isNextSo_24 : decode cL_isNextSo 24 = .ok (.istore_n 3, 1) := by decide +kernel
theorem dL_isNextSo_25 : decode cL_isNextSo 25 = .ok (.iload_n 1, 1) := by decide +kernel
theorem dL_isNextSo_26 : decode cL_isNextSo 26 = .ok (.bipush (-5), 2) := by decide +kernel
theorem dL_isNextSo_28 : decode cL_isNextSo 28 = .ok (.if_icmp .ne 27, 3) := by decide +kernel
theorem dL_isNextSo_31 : decode cL_isNextSo 31 = .ok (.aload_n 0, 1) := by decide +kernel
theorem dL_isNextSo_32 : decode cL_isNextSo 32 = .ok (.iconst 1, 1) := by decide +kernel
theorem dL_isNextSo_33 : decode cL_isNextSo 33 = .ok (.invokevirtual 40, 3) := by decide +kernel
theorem dL_isNextSo_36 : decode cL_isNextSo 36 = .ok (.ifCond .ne 19, 3) := by decide +kernel
theorem dL_isNextSo_39 : decode cL_isNextSo 39 = .ok (.aload_n 0, 1) := by decide +kernel
theorem dL_isNextSo_40 : decode cL_isNextSo 40 = .ok (.bipush 9, 2) := by decide +kernel
theorem dL_isNextSo_42 : decode cL_isNextSo 42 = .ok (.invokevirtual 43, 3) := by decide +kernel
theorem dL_isNextSo_45 : decode cL_isNextSo 45 = .ok (.iload_n 3, 1) := by decide +kernel
theorem dL_isNextSo_46 : decode cL_isNextSo 46 = .ok (.iconst 1, 1) := by decide +kernel
theorem dL_isNextSo_47 : decode cL_isNextSo 47 = .ok (.iadd, 1) := by decide +kernel
theorem dL_isNextSo_48 : decode cL_isNextSo 48 = .ok (.if_icmp .ne 7, 3) := by decide +kernel
theorem dL_isNextSo_51 : decode cL_isNextSo 51 = .ok (.iconst 1, 1) := by decide +kernel
theorem dL_isNextSo_52 : decode cL_isNextSo 52 = .ok (.goto 4, 3) := by decide +kernel
theorem dL_isNextSo_55 : decode cL_isNextSo 55 = .ok (.iconst 0, 1) := by decide +kernel
theorem dL_isNextSo_56 : decode cL_isNextSo 56 = .ok (.istore 4, 2) := by decide +kernel
theorem dL_isNextSo_58 : decode cL_isNextSo 58 = .ok (.aload_n 0, 1) := by decide +kernel
theorem dL_isNextSo_59 : decode cL_isNextSo 59 = .ok (.invokevirtual 64, 3) := by decide +kernel
theorem dL_isNextSo_62 : decode cL_isNextSo 62 = .ok (.pop, 1) := by decide +kernel
theorem dL_isNextSo_63 : decode cL_isNextSo 63 = .ok (.iload 4, 2) := by decide +kernel
theorem dL_isNextSo_65 : decode cL_isNextSo 65 = .ok (.ireturn, 1) := by decide +kernel
theorem dL_isNextSo_66 : decode cL_isNextSo 66 = .ok (.aload_n 0, 1) := by decide +kernel
theorem dL_isNextSo_67 : decode cL_isNextSo 67 = .ok (.iload_n 1, 1) := by decide +kernel
theorem dL_isNextSo_68 : decode cL_isNextSo 68 = .ok (.bipush 8, 2) := by decide +kernel
theorem dL_isNextSo_70 : decode cL_isNextSo 70 = .ok (.invokevirtual 49, 3) := by decide +kernel
theorem dL_isNextSo_73 : decode cL_isNextSo 73 = .ok (.istore_n 3, 1) := by decide +kernel
theorem dL_isNextSo_74 : decode cL_isNextSo 74 = .ok (.aload_n 0, 1) := by decide +kernel
theorem dL_isNextSo_75 : decode cL_isNextSo 75 = .ok (.iconst 1, 1) := by decide +kernel
theorem dL_isNextSo_76 : decode cL_isNextSo 76 = .ok (.invokevirtual 40, 3) := by decide +kernel
theorem dL_isNextSo_79 : decode cL_isNextSo 79 = .ok (.iconst 1, 1) := by decide +kernel
theorem dL_isNextSo_80 : decode cL_isNextSo 80 = .ok (.if_icmp .ne 56, 3) := by decide +kernel
theorem dL_isNextSo_83 : decode cL_isNextSo 83 = .ok (.aload_n 0, 1) := by decide +kernel
theorem dL_isNextSo_84 : decode cL_isNextSo 84 = .ok (.iload_n 1, 1) := by decide +kernel
theorem dL_isNextSo_85 : decode cL_isNextSo 85 = .ok (.iconst 4, 1) := by decide +kernel
theorem dL_isNextSo_86 : decode cL_isNextSo 86 = .ok (.invokevirtual 49, 3) := by decide +kernel
theorem dL_isNextSo_89 : decode cL_isNextSo 89 = .ok (.iload_n 2, 1) := by decide +kernel
theorem dL_isNextSo_90 : decode cL_isNextSo 90 = .ok (.iconst 1, 1) := by decide +kernel
theorem dL_isNextSo_91 : decode cL_isNextSo 91 = .ok (.if_icmp .ne 7, 3) := by decide +kernel
theorem dL_isNextSo_94 : decode cL_isNextSo 94 = .ok (.iconst 3, 1) := by decide +kernel
theorem dL_isNextSo_95 : decode cL_isNextSo 95 = .ok (.goto 12, 3) := by decide +kernel
theorem dL_isNextSo_98 : decode cL_isNextSo 98 = .ok (.iload_n 2, 1) := by decide +kernel
theorem dL_isNextSo_99 : decode cL_isNextSo 99 = .ok (.ifCond .ne 7, 3) := by decide +kernel
theorem dL_isNextSo_102 : decode cL_isNextSo 102 = .ok (.iconst 1, 1) := by decide +kernel
theorem dL_isNextSo_103 : decode cL_isNextSo 103 = .ok (.goto 4, 3) := by decide +kernel
theorem dL_isNextSo_106 : decode cL_isNextSo 106 = .ok (.iconst 0, 1) := by decide +kernel
theorem dL_isNextSo_107 : decode cL_isNextSo 107 = .ok (.if_icmp .ne 29, 3) := by decide +kernel
theorem dL_isNextSo_110 : decode cL_isNextSo 110 = .ok (.aload_n 0, 1) := by decide +kernel
theorem dL_isNextSo_111 : decode cL_isNextSo 111 = .ok (.iload_n 1, 1) := by decide +kernel
theorem dL_isNextSo_112 : decode cL_isNextSo 112 = .ok (.bipush 8, 2) := by decide +kernel
theorem dL_isNextSo_114 : decode cL_isNextSo 114 = .ok (.invokevirtual 49, 3) := by decide +kernel
theorem dL_isNextSo_117 : decode cL_isNextSo 117 = .ok (.iload_n 3, 1) := by decide +kernel
theorem dL_isNextSo_118 : decode cL_isNextSo 118 = .ok (.iload_n 2, 1) := by decide +kernel
theorem dL_isNextSo_119 : decode cL_isNextSo 119 = .ok (.iconst 2, 1) := by decide +kernel
theorem dL_isNextSo_120 : decode cL_isNextSo 120 = .ok (.if_icmp .ne 7, 3) := by decide +kernel
theorem dL_isNextSo_123 : decode cL_isNextSo 123 = .ok (.iconst 1, 1) := by decide +kernel
theorem dL_isNextSo_124 : decode cL_isNextSo 124 = .ok (.goto 4, 3) := by decide +kernel
theorem dL_isNextSo_127 : decode cL_isNextSo 127 = .ok (.iconst 0, 1) := by decide +kernel
theorem dL_isNextSo_128 : decode cL_isNextSo 128 = .ok (.iadd, 1) := by decide +kernel
theorem dL_isNextSo_129 : decode cL_isNextSo 129 = .ok (.if_icmp .ne 7, 3) := by decide +kernel
theorem dL_isNextSo_132 : decode cL_isNextSo 132 = .ok (.iconst 1, 1) := by decide +kernel
theorem dL_isNextSo_133 : decode cL_isNextSo 133 = .ok (.goto 4, 3) := by decide +kernel
theorem dL_isNextSo_136 : decode cL_isNextSo 136 = .ok (.iconst 0, 1) := by decide +kernel
theorem dL_isNextSo_137 : decode cL_isNextSo 137 = .ok (.istore 4, 2) := by decide +kernel
theorem dL_isNextSo_139 : decode cL_isNextSo 139 = .ok (.aload_n 0, 1) := by decide +kernel
theorem dL_isNextSo_140 : decode cL_isNextSo 140 = .ok (.invokevirtual 64, 3) := by decide +kernel
theorem dL_isNextSo_143 : decode cL_isNextSo 143 = .ok (.pop, 1) := by decide +kernel
theorem dL_isNextSo_144 : decode cL_isNextSo 144 = .ok (.iload 4, 2) := by decide +kernel
theorem dL_isNextSo_146 : decode cL_isNextSo 146 = .ok (.ireturn, 1) := by decide +kernel
theorem dL_isAnsweredSo_0 : decode cL_isAnsweredSo 0 = .ok (.aload_n 0, 1) := by decide +kernel
theorem dL_isAnsweredSo_1 : decode cL_isAnsweredSo 1 = .ok (.iload_n 1, 1) := by decide +kernel
theorem dL_isAnsweredSo_2 : decode cL_isAnsweredSo 2 = .ok (.invokevirtual 68, 3) := by decide +kernel
theorem dL_isAnsweredSo_5 : decode cL_isAnsweredSo 5 = .ok (.istore_n 2, 1) := by decide +kernel
theorem dL_isAnsweredSo_6 : decode cL_isAnsweredSo 6 = .ok (.aload_n 0, 1) := by decide +kernel
theorem dL_isAnsweredSo_7 : decode cL_isAnsweredSo 7 = .ok (.iload_n 1, 1) := by decide +kernel
theorem dL_isAnsweredSo_8 : decode cL_isAnsweredSo 8 = .ok (.iconst 4, 1) := by decide +kernel
theorem dL_isAnsweredSo_9 : decode cL_isAnsweredSo 9 = .ok (.invokevirtual 49, 3) := by decide +kernel
theorem dL_isAnsweredSo_12 : decode cL_isAnsweredSo 12 = .ok (.iconst 2, 1) := by decide +kernel
theorem dL_isAnsweredSo_13 : decode cL_isAnsweredSo 13 = .ok (.if_icmp .le 15, 3) := by decide +kernel
theorem dL_isAnsweredSo_16 : decode cL_isAnsweredSo 16 = .ok (.iload_n 2, 1) := by decide +kernel
theorem dL_isAnsweredSo_17 : decode cL_isAnsweredSo 17 = .ok (.bipush (-4), 2) := by decide +kernel
theorem dL_isAnsweredSo_19 : decode cL_isAnsweredSo 19 = .ok (.if_icmp .ne 7, 3) := by decide +kernel
theorem dL_isAnsweredSo_22 : decode cL_isAnsweredSo 22 = .ok (.iconst 1, 1) := by decide +kernel
theorem dL_isAnsweredSo_23 : decode cL_isAnsweredSo 23 = .ok (.goto 4, 3) := by decide +kernel
theorem dL_isAnsweredSo_26 : decode cL_isAnsweredSo 26 = .ok (.iconst 0, 1) := by decide +kernel
theorem dL_isAnsweredSo_27 : decode cL_isAnsweredSo 27 = .ok (.ireturn, 1) := by decide +kernel
theorem dL_isAnsweredSo_28 : decode cL_isAnsweredSo 28 = .ok (.iload_n 2, 1) := by decide +kernel
theorem dL_isAnsweredSo_29 : decode cL_isAnsweredSo 29 = .ok (.iconst 1, 1) := by decide +kernel
theorem dL_isAnsweredSo_30 : decode cL_isAnsweredSo 30 = .ok (.if_icmp .lt 9, 3) := by decide +kernel
theorem dL_isAnsweredSo_33 : decode cL_isAnsweredSo 33 = .ok (.iload_n 2, 1) := by decide +kernel
theorem dL_isAnsweredSo_34 : decode cL_isAnsweredSo 34 = .ok (.bipush 99, 2) := by decide +kernel
theorem dL_isAnsweredSo_36 : decode cL_isAnsweredSo 36 = .ok (.if_icmp .le 21, 3) := by decide +kernel
theorem dL_isAnsweredSo_39 : decode cL_isAnsweredSo 39 = .ok (.iload_n 2, 1) := by decide +kernel
theorem dL_isAnsweredSo_40 : decode cL_isAnsweredSo 40 = .ok (.bipush 99, 2) := by decide +kernel
theorem dL_isAnsweredSo_42 : decode cL_isAnsweredSo 42 = .ok (.if_icmp .gt 9, 3) := by decide +kernel
theorem dL_isAnsweredSo_45 : decode cL_isAnsweredSo 45 = .ok (.iload_n 2, 1) := by decide +kernel
theorem dL_isAnsweredSo_46 : decode cL_isAnsweredSo 46 = .ok (.bipush (-5), 2) := by decide +kernel
theorem dL_isAnsweredSo_48 : decode cL_isAnsweredSo 48 = .ok (.if_icmp .ne 7, 3) := by decide +kernel
theorem dL_isAnsweredSo_51 : decode cL_isAnsweredSo 51 = .ok (.iconst 1, 1) := by decide +kernel
theorem dL_isAnsweredSo_52 : decode cL_isAnsweredSo 52 = .ok (.goto 4, 3) := by decide +kernel
theorem dL_isAnsweredSo_55 : decode cL_isAnsweredSo 55 = .ok (.iconst 0, 1) := by decide +kernel
theorem dL_isAnsweredSo_56 : decode cL_isAnsweredSo 56 = .ok (.ireturn, 1) := by decide +kernel
theorem dL_isAnsweredSo_57 : decode cL_isAnsweredSo 57 = .ok (.aload_n 0, 1) := by decide +kernel
theorem dL_isAnsweredSo_58 : decode cL_isAnsweredSo 58 = .ok (.iload_n 2, 1) := by decide +kernel
theorem dL_isAnsweredSo_59 : decode cL_isAnsweredSo 59 = .ok (.invokevirtual 40, 3) := by decide +kernel
theorem dL_isAnsweredSo_62 : decode cL_isAnsweredSo 62 = .ok (.pop, 1) := by decide +kernel
theorem dL_isAnsweredSo_63 : decode cL_isAnsweredSo 63 = .ok (.aload_n 0, 1) := by decide +kernel
theorem dL_isAnsweredSo_64 : decode cL_isAnsweredSo 64 = .ok (.iload_n 1, 1) := by decide +kernel
theorem dL_isAnsweredSo_65 : decode cL_isAnsweredSo 65 = .ok (.iconst 4, 1) := by decide +kernel
theorem dL_isAnsweredSo_66 : decode cL_isAnsweredSo 66 = .ok (.invokevirtual 49, 3) := by decide +kernel
theorem dL_isAnsweredSo_69 : decode cL_isAnsweredSo 69 = .ok (.iconst 3, 1) := by decide +kernel
theorem dL_isAnsweredSo_70 : decode cL_isAnsweredSo 70 = .ok (.if_icmp .ne 7, 3) := by decide +kernel
theorem dL_isAnsweredSo_73 : decode cL_isAnsweredSo 73 = .ok (.iconst 1, 1) := by decide +kernel
theorem dL_isAnsweredSo_74 : decode cL_isAnsweredSo 74 = .ok (.goto 4, 3) := by decide +kernel
theorem dL_isAnsweredSo_77 : decode cL_isAnsweredSo 77 = .ok (.iconst 0, 1) := by decide +kernel
theorem dL_isAnsweredSo_78 : decode cL_isAnsweredSo 78 = .ok (.istore_n 3, 1) := by decide +kernel
theorem dL_isAnsweredSo_79 : decode cL_isAnsweredSo 79 = .ok (.aload_n 0, 1) := by decide +kernel
theorem dL_isAnsweredSo_80 : decode cL_isAnsweredSo 80 = .ok (.invokevirtual 64, 3) := by decide +kernel
theorem dL_isAnsweredSo_83 : decode cL_isAnsweredSo 83 = .ok (.pop, 1) := by decide +kernel
theorem dL_isAnsweredSo_84 : decode cL_isAnsweredSo 84 = .ok (.iload_n 2, 1) := by decide +kernel
theorem dL_isAnsweredSo_85 : decode cL_isAnsweredSo 85 = .ok (.iconst 1, 1) := by decide +kernel
theorem dL_isAnsweredSo_86 : decode cL_isAnsweredSo 86 = .ok (.if_icmp .le 36, 3) := by decide +kernel
theorem dL_isAnsweredSo_89 : decode cL_isAnsweredSo 89 = .ok (.aload_n 0, 1) := by decide +kernel
theorem dL_isAnsweredSo_90 : decode cL_isAnsweredSo 90 = .ok (.iload_n 2, 1) := by decide +kernel
theorem dL_isAnsweredSo_91 : decode cL_isAnsweredSo 91 = .ok (.iconst 1, 1) := by decide +kernel
theorem dL_isAnsweredSo_92 : decode cL_isAnsweredSo 92 = .ok (.isub, 1) := by decide +kernel
theorem dL_isAnsweredSo_93 : decode cL_isAnsweredSo 93 = .ok (.invokevirtual 40, 3) := by decide +kernel
theorem dL_isAnsweredSo_96 : decode cL_isAnsweredSo 96 = .ok (.pop, 1) := by decide +kernel
theorem dL_isAnsweredSo_97 : decode cL_isAnsweredSo 97 = .ok (.iload_n 3, 1) := by decide +kernel
theorem dL_isAnsweredSo_98 : decode cL_isAnsweredSo 98 = .ok (.ifCond .eq 17, 3) := by decide +kernel
theorem dL_isAnsweredSo_101 : decode cL_isAnsweredSo 101 = .ok (.aload_n 0, 1) := by decide +kernel
theorem dL_isAnsweredSo_102 : decode cL_isAnsweredSo 102 = .ok (.iload_n 1, 1) := by decide +kernel
theorem dL_isAnsweredSo_103 : decode cL_isAnsweredSo 103 = .ok (.iconst 4, 1) := by decide +kernel
theorem dL_isAnsweredSo_104 : decode cL_isAnsweredSo 104 = .ok (.invokevirtual 49, 3) := by decide +kernel
theorem dL_isAnsweredSo_107 : decode cL_isAnsweredSo 107 = .ok (.iconst 3, 1) := by decide +kernel
theorem dL_isAnsweredSo_108 : decode cL_isAnsweredSo 108 = .ok (.if_icmp .eq 7, 3) := by decide +kernel
theorem dL_isAnsweredSo_111 : decode cL_isAnsweredSo 111 = .ok (.iconst 1, 1) := by decide +kernel
theorem dL_isAnsweredSo_112 : decode cL_isAnsweredSo 112 = .ok (.goto 4, 3) := by decide +kernel
theorem dL_isAnsweredSo_115 : decode cL_isAnsweredSo 115 = .ok (.iconst 0, 1) := by decide +kernel
theorem dL_isAnsweredSo_116 : decode cL_isAnsweredSo 116 = .ok (.istore_n 3, 1) := by decide +kernel
theorem dL_isAnsweredSo_117 : decode cL_isAnsweredSo 117 = .ok (.aload_n 0, 1) := by decide +kernel
theorem dL_isAnsweredSo_118 : decode cL_isAnsweredSo 118 = .ok (.invokevirtual 64, 3) := by decide +kernel
theorem dL_isAnsweredSo_121 : decode cL_isAnsweredSo 121 = .ok (.pop, 1) := by decide +kernel
theorem dL_isAnsweredSo_122 : decode cL_isAnsweredSo 122 = .ok (.iload_n 3, 1) := by decide +kernel
theorem dL_isAnsweredSo_123 : decode cL_isAnsweredSo 123 = .ok (.ireturn, 1) := by decide +kernel
theorem dL_law_0 : decode cL_law 0 = .ok (.new 9, 3) := by decide +kernel
theorem dL_law_3 : decode cL_law 3 = .ok (.dup, 1) := by decide +kernel
theorem dL_law_4 : decode cL_law 4 = .ok (.invokespecial 71, 3) := by decide +kernel
theorem dL_law_7 : decode cL_law 7 = .ok (.astore_n 1, 1) := by decide +kernel
theorem dL_law_8 : decode cL_law 8 = .ok (.iconst 0, 1) := by decide +kernel
theorem dL_law_9 : decode cL_law 9 = .ok (.istore_n 2, 1) := by decide +kernel
theorem dL_law_10 : decode cL_law 10 = .ok (.iload_n 2, 1) := by decide +kernel
theorem dL_law_11 : decode cL_law 11 = .ok (.bipush 48, 2) := by decide +kernel
theorem dL_law_13 : decode cL_law 13 = .ok (.if_icmp .ge 94, 3) := by decide +kernel
theorem dL_law_16 : decode cL_law 16 = .ok (.aload_n 0, 1) := by decide +kernel
theorem dL_law_17 : decode cL_law 17 = .ok (.iload_n 2, 1) := by decide +kernel
theorem dL_law_18 : decode cL_law 18 = .ok (.invokestatic 72, 3) := by decide +kernel
theorem dL_law_21 : decode cL_law 21 = .ok (.istore_n 3, 1) := by decide +kernel
theorem dL_law_22 : decode cL_law 22 = .ok (.aload_n 1, 1) := by decide +kernel
theorem dL_law_23 : decode cL_law 23 = .ok (.iload_n 3, 1) := by decide +kernel
theorem dL_law_24 : decode cL_law 24 = .ok (.invokestatic 76, 3) := by decide +kernel
theorem dL_law_27 : decode cL_law 27 = .ok (.istore 4, 2) := by decide +kernel
theorem dL_law_29 : decode cL_law 29 = .ok (.iload 4, 2) := by decide +kernel
theorem dL_law_31 : decode cL_law 31 = .ok (.bipush (-5), 2) := by decide +kernel
theorem dL_law_33 : decode cL_law 33 = .ok (.if_icmp .lt 31, 3) := by decide +kernel
theorem dL_law_36 : decode cL_law 36 = .ok (.aload_n 1, 1) := by decide +kernel
theorem dL_law_37 : decode cL_law 37 = .ok (.invokestatic 80, 3) := by decide +kernel
theorem dL_law_40 : decode cL_law 40 = .ok (.ifCond .eq 24, 3) := by decide +kernel
theorem dL_law_43 : decode cL_law 43 = .ok (.aload_n 1, 1) := by decide +kernel
theorem dL_law_44 : decode cL_law 44 = .ok (.invokestatic 84, 3) := by decide +kernel
theorem dL_law_47 : decode cL_law 47 = .ok (.ifCond .eq 17, 3) := by decide +kernel
theorem dL_law_50 : decode cL_law 50 = .ok (.iload_n 2, 1) := by decide +kernel
theorem dL_law_51 : decode cL_law 51 = .ok (.iconst 3, 1) := by decide +kernel
theorem dL_law_52 : decode cL_law 52 = .ok (.irem, 1) := by decide +kernel
theorem dL_law_53 : decode cL_law 53 = .ok (.iconst 2, 1) := by decide +kernel
theorem dL_law_54 : decode cL_law 54 = .ok (.if_icmp .ne 12, 3) := by decide +kernel
theorem dL_law_57 : decode cL_law 57 = .ok (.aload_n 1, 1) := by decide +kernel
theorem dL_law_58 : decode cL_law 58 = .ok (.invokestatic 87, 3) := by decide +kernel
theorem dL_law_61 : decode cL_law 61 = .ok (.ifCond .ne 5, 3) := by decide +kernel
theorem dL_law_64 : decode cL_law 64 = .ok (.iconst 0, 1) := by decide +kernel
theorem dL_law_65 : decode cL_law 65 = .ok (.ireturn, 1) := by decide +kernel
theorem dL_law_66 : decode cL_law 66 = .ok (.iload_n 2, 1) := by decide +kernel
theorem dL_law_67 : decode cL_law 67 = .ok (.iconst 4, 1) := by decide +kernel
theorem dL_law_68 : decode cL_law 68 = .ok (.irem, 1) := by decide +kernel
theorem dL_law_69 : decode cL_law 69 = .ok (.iconst 3, 1) := by decide +kernel
theorem dL_law_70 : decode cL_law 70 = .ok (.if_icmp .ne 31, 3) := by decide +kernel
theorem dL_law_73 : decode cL_law 73 = .ok (.aload_n 1, 1) := by decide +kernel
theorem dL_law_74 : decode cL_law 74 = .ok (.iconst 4, 1) := by decide +kernel
theorem dL_law_75 : decode cL_law 75 = .ok (.invokevirtual 43, 3) := by decide +kernel
theorem dL_law_78 : decode cL_law 78 = .ok (.ifCond .le 23, 3) := by decide +kernel
theorem dL_law_81 : decode cL_law 81 = .ok (.aload_n 1, 1) := by decide +kernel
theorem dL_law_82 : decode cL_law 82 = .ok (.iload_n 3, 1) := by decide +kernel
theorem dL_law_83 : decode cL_law 83 = .ok (.iconst 5, 1) := by decide +kernel
theorem dL_law_84 : decode cL_law 84 = .ok (.ishr, 1) := by decide +kernel
theorem dL_law_85 : decode cL_law 85 = .ok (.aload_n 1, 1) := by decide +kernel
theorem dL_law_86 : decode cL_law 86 = .ok (.iconst 4, 1) := by decide +kernel
theorem dL_law_87 : decode cL_law 87 = .ok (.invokevirtual 43, 3) := by decide +kernel
theorem dL_law_90 : decode cL_law 90 = .ok (.invokestatic 14, 3) := by decide +kernel
theorem dL_law_93 : decode cL_law 93 = .ok (.invokestatic 90, 3) := by decide +kernel
theorem dL_law_96 : decode cL_law 96 = .ok (.ifCond .ne 5, 3) := by decide +kernel
theorem dL_law_99 : decode cL_law 99 = .ok (.iconst 0, 1) := by decide +kernel
theorem dL_law_100 : decode cL_law 100 = .ok (.ireturn, 1) := by decide +kernel
theorem dL_law_101 : decode cL_law 101 = .ok (.iinc 2 1, 3) := by decide +kernel
theorem dL_law_104 : decode cL_law 104 = .ok (.goto (-94), 3) := by decide +kernel
theorem dL_law_107 : decode cL_law 107 = .ok (.iconst 1, 1) := by decide +kernel
theorem dL_law_108 : decode cL_law 108 = .ok (.ireturn, 1) := by decide +kernel
