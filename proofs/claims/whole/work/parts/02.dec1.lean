theorem dX6_write_38 : decode cX6_write 38 = .ok (.aload_n 0, 1) := by decide +kernel
theorem dX6_write_39 : decode cX6_write 39 = .ok (.iload_n 1, 1) := by decide +kernel
theorem dX6_write_40 : decode cX6_write 40 = .ok (.iload_n 2, 1) := by decide +kernel
theorem dX6_write_41 : decode cX6_write 41 = .ok (.iload_n 3, 1) := by decide +kernel
theorem dX6_write_42 : decode cX6_write 42 = .ok (.iload 4, 2) := by decide +kernel
theorem dX6_write_44 : decode cX6_write 44 = .ok (.invokevirtual 86, 3) := by decide +kernel
theorem dX6_write_47 : decode cX6_write 47 = .ok (.ireturn, 1) := by decide +kernel
theorem dX6_ask_0 : decode cX6_ask 0 = .ok (.aload_n 0, 1) := by decide +kernel
theorem dX6_ask_1 : decode cX6_ask 1 = .ok (.getfield 29, 3) := by decide +kernel
theorem dX6_ask_4 : decode cX6_ask 4 = .ok (.invokevirtual 90, 3) := by decide +kernel
theorem dX6_ask_7 : decode cX6_ask 7 = .ok (.istore_n 1, 1) := by decide +kernel
theorem dX6_ask_8 : decode cX6_ask 8 = .ok (.iload_n 1, 1) := by decide +kernel
theorem dX6_ask_9 : decode cX6_ask 9 = .ok (.bipush (-5), 2) := by decide +kernel
theorem dX6_ask_11 : decode cX6_ask 11 = .ok (.if_icmp .eq 8, 3) := by decide +kernel
theorem dX6_ask_14 : decode cX6_ask 14 = .ok (.bipush (-100), 2) := by decide +kernel
theorem dX6_ask_16 : decode cX6_ask 16 = .ok (.iload_n 1, 1) := by decide +kernel
theorem dX6_ask_17 : decode cX6_ask 17 = .ok (.isub, 1) := by decide +kernel
theorem dX6_ask_18 : decode cX6_ask 18 = .ok (.ireturn, 1) := by decide +kernel
theorem dX6_ask_19 : decode cX6_ask 19 = .ok (.aload_n 0, 1) := by decide +kernel
theorem dX6_ask_20 : decode cX6_ask 20 = .ok (.invokevirtual 93, 3) := by decide +kernel
theorem dX6_ask_23 : decode cX6_ask 23 = .ok (.ifCond .ne 6, 3) := by decide +kernel
theorem dX6_ask_26 : decode cX6_ask 26 = .ok (.bipush (-3), 2) := by decide +kernel
theorem dX6_ask_28 : decode cX6_ask 28 = .ok (.ireturn, 1) := by decide +kernel
theorem dX6_ask_29 : decode cX6_ask 29 = .ok (.aload_n 0, 1) := by decide +kernel
theorem dX6_ask_30 : decode cX6_ask 30 = .ok (.invokevirtual 55, 3) := by decide +kernel
theorem dX6_ask_33 : decode cX6_ask 33 = .ok (.iconst 0, 1) := by decide +kernel
theorem dX6_ask_34 : decode cX6_ask 34 = .ok (.istore_n 2, 1) := by decide +kernel
theorem dX6_ask_35 : decode cX6_ask 35 = .ok (.iload_n 2, 1) := by decide +kernel
theorem dX6_ask_36 : decode cX6_ask 36 = .ok (.aload_n 0, 1) := by decide +kernel
theorem dX6_ask_37 : decode cX6_ask 37 = .ok (.getfield 29, 3) := by decide +kernel
theorem dX6_ask_40 : decode cX6_ask 40 = .ok (.getfield 97, 3) := by decide +kernel
theorem dX6_ask_43 : decode cX6_ask 43 = .ok (.if_icmp .ge 46, 3) := by decide +kernel
theorem dX6_ask_46 : decode cX6_ask 46 = .ok (.aload_n 0, 1) := by decide +kernel
theorem dX6_ask_47 : decode cX6_ask 47 = .ok (.getfield 29, 3) := by decide +kernel
theorem dX6_ask_50 : decode cX6_ask 50 = .ok (.iload_n 2, 1) := by decide +kernel
theorem dX6_ask_51 : decode cX6_ask 51 = .ok (.invokevirtual 100, 3) := by decide +kernel
theorem dX6_ask_54 : decode cX6_ask 54 = .ok (.astore_n 3, 1) := by decide +kernel
theorem dX6_ask_55 : decode cX6_ask 55 = .ok (.aload_n 3, 1) := by decide +kernel
theorem dX6_ask_56 : decode cX6_ask 56 = .ok (.ifnull 27, 3) := by decide +kernel
theorem dX6_ask_59 : decode cX6_ask 59 = .ok (.aload_n 0, 1) := by decide +kernel
theorem dX6_ask_60 : decode cX6_ask 60 = .ok (.getfield 10, 3) := by decide +kernel
theorem dX6_ask_63 : decode cX6_ask 63 = .ok (.aload_n 3, 1) := by decide +kernel
theorem dX6_ask_64 : decode cX6_ask 64 = .ok (.getfield 104, 3) := by decide +kernel
theorem dX6_ask_67 : decode cX6_ask 67 = .ok (.aload_n 3, 1) := by decide +kernel
theorem dX6_ask_68 : decode cX6_ask 68 = .ok (.getfield 109, 3) := by decide +kernel
theorem dX6_ask_71 : decode cX6_ask 71 = .ok (.aload_n 3, 1) := by decide +kernel
theorem dX6_ask_72 : decode cX6_ask 72 = .ok (.getfield 112, 3) := by decide +kernel
theorem dX6_ask_75 : decode cX6_ask 75 = .ok (.aload_n 3, 1) := by decide +kernel
theorem dX6_ask_76 : decode cX6_ask 76 = .ok (.getfield 115, 3) := by decide +kernel
theorem dX6_ask_79 : decode cX6_ask 79 = .ok (.invokevirtual 118, 3) := by decide +kernel
theorem dX6_ask_82 : decode cX6_ask 82 = .ok (.pop, 1) := by decide +kernel
theorem dX6_ask_83 : decode cX6_ask 83 = .ok (.iinc 2 1, 3) := by decide +kernel
theorem dX6_ask_86 : decode cX6_ask 86 = .ok (.goto (-51), 3) := by decide +kernel
theorem dX6_ask_89 : decode cX6_ask 89 = .ok (.aload_n 0, 1) := by decide +kernel
theorem dX6_ask_90 : decode cX6_ask 90 = .ok (.getfield 29, 3) := by decide +kernel
theorem dX6_ask_93 : decode cX6_ask 93 = .ok (.getfield 97, 3) := by decide +kernel
theorem dX6_ask_96 : decode cX6_ask 96 = .ok (.ireturn, 1) := by decide +kernel
theorem dX6_withdraw_0 : decode cX6_withdraw 0 = .ok (.aload_n 0, 1) := by decide +kernel
theorem dX6_withdraw_1 : decode cX6_withdraw 1 = .ok (.getfield 10, 3) := by decide +kernel
theorem dX6_withdraw_4 : decode cX6_withdraw 4 = .ok (.iload_n 1, 1) := by decide +kernel
theorem dX6_withdraw_5 : decode cX6_withdraw 5 = .ok (.invokevirtual 58, 3) := by decide +kernel
theorem dX6_withdraw_8 : decode cX6_withdraw 8 = .ok (.astore_n 2, 1) := by decide +kernel
theorem dX6_withdraw_9 : decode cX6_withdraw 9 = .ok (.aload_n 2, 1) := by decide +kernel
theorem dX6_withdraw_10 : decode cX6_withdraw 10 = .ok (.ifnonnull 5, 3) := by decide +kernel
theorem dX6_withdraw_13 : decode cX6_withdraw 13 = .ok (.iconst (-1), 1) := by decide +kernel
theorem dX6_withdraw_14 : decode cX6_withdraw 14 = .ok (.ireturn, 1) := by decide +kernel
theorem dX6_withdraw_15 : decode cX6_withdraw 15 = .ok (.aload_n 2, 1) := by decide +kernel
theorem dX6_withdraw_16 : decode cX6_withdraw 16 = .ok (.getfield 121, 3) := by decide +kernel
theorem dX6_withdraw_19 : decode cX6_withdraw 19 = .ok (.getfield 125, 3) := by decide +kernel
theorem dX6_withdraw_22 : decode cX6_withdraw 22 = .ok (.ifCond .ne 6, 3) := by decide +kernel
theorem dX6_withdraw_25 : decode cX6_withdraw 25 = .ok (.bipush (-5), 2) := by decide +kernel
theorem dX6_withdraw_27 : decode cX6_withdraw 27 = .ok (.ireturn, 1) := by decide +kernel
theorem dX6_withdraw_28 : decode cX6_withdraw 28 = .ok (.aload_n 0, 1) := by decide +kernel
theorem dX6_withdraw_29 : decode cX6_withdraw 29 = .ok (.invokevirtual 55, 3) := by decide +kernel
theorem dX6_withdraw_32 : decode cX6_withdraw 32 = .ok (.aload_n 0, 1) := by decide +kernel
theorem dX6_withdraw_33 : decode cX6_withdraw 33 = .ok (.getfield 10, 3) := by decide +kernel
theorem dX6_withdraw_36 : decode cX6_withdraw 36 = .ok (.aload_n 2, 1) := by decide +kernel
theorem dX6_withdraw_37 : decode cX6_withdraw 37 = .ok (.invokevirtual 130, 3) := by decide +kernel
theorem dX6_withdraw_40 : decode cX6_withdraw 40 = .ok (.ireturn, 1) := by decide +kernel
theorem dX6_pass_0 : decode cX6_pass 0 = .ok (.iload_n 1, 1) := by decide +kernel
theorem dX6_pass_1 : decode cX6_pass 1 = .ok (.iconst 1, 1) := by decide +kernel
theorem dX6_pass_2 : decode cX6_pass 2 = .ok (.bipush 99, 2) := by decide +kernel
theorem dX6_pass_4 : decode cX6_pass 4 = .ok (.invokestatic 44, 3) := by decide +kernel
theorem dX6_pass_7 : decode cX6_pass 7 = .ok (.ifCond .ne 6, 3) := by decide +kernel
theorem dX6_pass_10 : decode cX6_pass 10 = .ok (.bipush (-2), 2) := by decide +kernel
theorem dX6_pass_12 : decode cX6_pass 12 = .ok (.ireturn, 1) := by decide +kernel
theorem dX6_pass_13 : decode cX6_pass 13 = .ok (.aload_n 0, 1) := by decide +kernel
theorem dX6_pass_14 : decode cX6_pass 14 = .ok (.getfield 10, 3) := by decide +kernel
theorem dX6_pass_17 : decode cX6_pass 17 = .ok (.getfield 134, 3) := by decide +kernel
theorem dX6_pass_20 : decode cX6_pass 20 = .ok (.iload_n 1, 1) := by decide +kernel
theorem dX6_pass_21 : decode cX6_pass 21 = .ok (.iadd, 1) := by decide +kernel
theorem dX6_pass_22 : decode cX6_pass 22 = .ok (.sipush 9999, 3) := by decide +kernel
theorem dX6_pass_25 : decode cX6_pass 25 = .ok (.if_icmp .le 6, 3) := by decide +kernel
theorem dX6_pass_28 : decode cX6_pass 28 = .ok (.bipush (-3), 2) := by decide +kernel
theorem dX6_pass_30 : decode cX6_pass 30 = .ok (.ireturn, 1) := by decide +kernel
theorem dX6_pass_31 : decode cX6_pass 31 = .ok (.aload_n 0, 1) := by decide +kernel
theorem dX6_pass_32 : decode cX6_pass 32 = .ok (.invokevirtual 55, 3) := by decide +kernel
theorem dX6_pass_35 : decode cX6_pass 35 = .ok (.iconst 0, 1) := by decide +kernel
theorem dX6_pass_36 : decode cX6_pass 36 = .ok (.istore_n 2, 1) := by decide +kernel
theorem dX6_pass_37 : decode cX6_pass 37 = .ok (.iconst 0, 1) := by decide +kernel
theorem dX6_pass_38 : decode cX6_pass 38 = .ok (.istore_n 3, 1) := by decide +kernel
theorem dX6_pass_39 : decode cX6_pass 39 = .ok (.iload_n 3, 1) := by decide +kernel
theorem dX6_pass_40 : decode cX6_pass 40 = .ok (.iload_n 1, 1) := by decide +kernel
theorem dX6_pass_41 : decode cX6_pass 41 = .ok (.if_icmp .ge 24, 3) := by decide +kernel
theorem dX6_pass_44 : decode cX6_pass 44 = .ok (.aload_n 0, 1) := by decide +kernel
theorem dX6_pass_45 : decode cX6_pass 45 = .ok (.getfield 10, 3) := by decide +kernel
theorem dX6_pass_48 : decode cX6_pass 48 = .ok (.invokevirtual 137, 3) := by decide +kernel
theorem dX6_pass_51 : decode cX6_pass 51 = .ok (.bipush (-5), 2) := by decide +kernel
theorem dX6_pass_53 : decode cX6_pass 53 = .ok (.if_icmp .eq 6, 3) := by decide +kernel
theorem dX6_pass_56 : decode cX6_pass 56 = .ok (.iinc 2 1, 3) := by decide +kernel
theorem dX6_pass_59 : decode cX6_pass 59 = .ok (.iinc 3 1, 3) := by decide +kernel
theorem dX6_pass_62 : decode cX6_pass 62 = .ok (.goto (-23), 3) := by decide +kernel
theorem dX6_pass_65 : decode cX6_pass 65 = .ok (.iload_n 2, 1) := by decide +kernel
theorem dX6_pass_66 : decode cX6_pass 66 = .ok (.ireturn, 1) := by decide +kernel
theorem dX6_type_0 : decode cX6_type 0 = .ok (.aload_n 0, 1) := by decide +kernel
theorem dX6_type_1 : decode cX6_type 1 = .ok (.getfield 29, 3) := by decide +kernel
theorem dX6_type_4 : decode cX6_type 4 = .ok (.iload_n 1, 1) := by decide +kernel
theorem dX6_type_5 : decode cX6_type 5 = .ok (.invokevirtual 140, 3) := by decide +kernel
theorem dX6_type_8 : decode cX6_type 8 = .ok (.ifCond .eq 13, 3) := by decide +kernel
theorem dX6_type_11 : decode cX6_type 11 = .ok (.aload_n 0, 1) := by decide +kernel
theorem dX6_type_12 : decode cX6_type 12 = .ok (.getfield 29, 3) := by decide +kernel
theorem dX6_type_15 : decode cX6_type 15 = .ok (.getfield 144, 3) := by decide +kernel
theorem dX6_type_18 : decode cX6_type 18 = .ok (.goto 5, 3) := by decide +kernel
theorem dX6_type_21 : decode cX6_type 21 = .ok (.bipush (-3), 2) := by decide +kernel
theorem dX6_type_23 : decode cX6_type 23 = .ok (.ireturn, 1) := by decide +kernel
theorem dX6_clearText_0 : decode cX6_clearText 0 = .ok (.aload_n 0, 1) := by decide +kernel
theorem dX6_clearText_1 : decode cX6_clearText 1 = .ok (.getfield 29, 3) := by decide +kernel
theorem dX6_clearText_4 : decode cX6_clearText 4 = .ok (.getfield 144, 3) := by decide +kernel
theorem dX6_clearText_7 : decode cX6_clearText 7 = .ok (.istore_n 1, 1) := by decide +kernel
theorem dX6_clearText_8 : decode cX6_clearText 8 = .ok (.aload_n 0, 1) := by decide +kernel
theorem dX6_clearText_9 : decode cX6_clearText 9 = .ok (.getfield 29, 3) := by decide +kernel
theorem dX6_clearText_12 : decode cX6_clearText 12 = .ok (.iconst 0, 1) := by decide +kernel
theorem dX6_clearText_13 : decode cX6_clearText 13 = .ok (.putfield 144, 3) := by decide +kernel
theorem dX6_clearText_16 : decode cX6_clearText 16 = .ok (.iload_n 1, 1) := by decide +kernel
theorem dX6_clearText_17 : decode cX6_clearText 17 = .ok (.ireturn, 1) := by decide +kernel
theorem dX6_undo_0 : decode cX6_undo 0 = .ok (.aload_n 0, 1) := by decide +kernel
theorem dX6_undo_1 : decode cX6_undo 1 = .ok (.getfield 145, 3) := by decide +kernel
theorem dX6_undo_4 : decode cX6_undo 4 = .ok (.iconst 1, 1) := by decide +kernel
theorem dX6_undo_5 : decode cX6_undo 5 = .ok (.isub, 1) := by decide +kernel
theorem dX6_undo_6 : decode cX6_undo 6 = .ok (.istore_n 1, 1) := by decide +kernel
theorem dX6_undo_7 : decode cX6_undo 7 = .ok (.iload_n 1, 1) := by decide +kernel
theorem dX6_undo_8 : decode cX6_undo 8 = .ok (.iconst 4, 1) := by decide +kernel
theorem dX6_undo_9 : decode cX6_undo 9 = .ok (.invokestatic 37, 3) := by decide +kernel
theorem dX6_undo_12 : decode cX6_undo 12 = .ok (.ifCond .ne 6, 3) := by decide +kernel
theorem dX6_undo_15 : decode cX6_undo 15 = .ok (.bipush (-5), 2) := by decide +kernel
theorem dX6_undo_17 : decode cX6_undo 17 = .ok (.ireturn, 1) := by decide +kernel
theorem dX6_undo_18 : decode cX6_undo 18 = .ok (.aload_n 0, 1) := by decide +kernel
theorem dX6_undo_19 : decode cX6_undo 19 = .ok (.getfield 10, 3) := by decide +kernel
theorem dX6_undo_22 : decode cX6_undo 22 = .ok (.aload_n 0, 1) := by decide +kernel
theorem dX6_undo_23 : decode cX6_undo 23 = .ok (.getfield 22, 3) := by decide +kernel
theorem dX6_undo_26 : decode cX6_undo 26 = .ok (.iload_n 1, 1) := by decide +kernel
theorem dX6_undo_27 : decode cX6_undo 27 = .ok (.aaload, 1) := by decide +kernel
theorem dX6_undo_28 : decode cX6_undo 28 = .ok (.invokevirtual 148, 3) := by decide +kernel
theorem dX6_undo_31 : decode cX6_undo 31 = .ok (.aload_n 0, 1) := by decide +kernel
theorem dX6_undo_32 : decode cX6_undo 32 = .ok (.iload_n 1, 1) := by decide +kernel
theorem dX6_undo_33 : decode cX6_undo 33 = .ok (.putfield 145, 3) := by decide +kernel
theorem dX6_undo_36 : decode cX6_undo 36 = .ok (.aload_n 0, 1) := by decide +kernel
theorem dX6_undo_37 : decode cX6_undo 37 = .ok (.getfield 145, 3) := by decide +kernel
theorem dX6_undo_40 : decode cX6_undo 40 = .ok (.ireturn, 1) := by decide +kernel
theorem dX6_keep_0 : decode cX6_keep 0 = .ok (.aload_n 0, 1) := by decide +kernel
theorem dX6_keep_1 : decode cX6_keep 1 = .ok (.getfield 19, 3) := by decide +kernel
theorem dX6_keep_4 : decode cX6_keep 4 = .ok (.aload_n 0, 1) := by decide +kernel
theorem dX6_keep_5 : decode cX6_keep 5 = .ok (.getfield 10, 3) := by decide +kernel
theorem dX6_keep_8 : decode cX6_keep 8 = .ok (.invokevirtual 148, 3) := by decide +kernel
theorem dX6_keep_11 : decode cX6_keep 11 = .ok (.aload_n 0, 1) := by decide +kernel
theorem dX6_keep_12 : decode cX6_keep 12 = .ok (.iconst 1, 1) := by decide +kernel
theorem dX6_keep_13 : decode cX6_keep 13 = .ok (.putfield 152, 3) := by decide +kernel
theorem dX6_keep_16 : decode cX6_keep 16 = .ok (.aload_n 0, 1) := by decide +kernel
theorem dX6_keep_17 : decode cX6_keep 17 = .ok (.getfield 10, 3) := by decide +kernel
theorem dX6_keep_20 : decode cX6_keep 20 = .ok (.getfield 134, 3) := by decide +kernel
theorem dX6_keep_23 : decode cX6_keep 23 = .ok (.ireturn, 1) := by decide +kernel
theorem dX6_restore_0 : decode cX6_restore 0 = .ok (.aload_n 0, 1) := by decide +kernel
theorem dX6_restore_1 : decode cX6_restore 1 = .ok (.getfield 152, 3) := by decide +kernel
theorem dX6_restore_4 : decode cX6_restore 4 = .ok (.ifCond .ne 6, 3) := by decide +kernel
theorem dX6_restore_7 : decode cX6_restore 7 = .ok (.bipush (-5), 2) := by decide +kernel
theorem dX6_restore_9 : decode cX6_restore 9 = .ok (.ireturn, 1) := by decide +kernel
theorem dX6_restore_10 : decode cX6_restore 10 = .ok (.aload_n 0, 1) := by decide +kernel
theorem dX6_restore_11 : decode cX6_restore 11 = .ok (.invokevirtual 55, 3) := by decide +kernel
theorem dX6_restore_14 : decode cX6_restore 14 = .ok (.aload_n 0, 1) := by decide +kernel
theorem dX6_restore_15 : decode cX6_restore 15 = .ok (.getfield 10, 3) := by decide +kernel
theorem dX6_restore_18 : decode cX6_restore 18 = .ok (.aload_n 0, 1) := by decide +kernel
theorem dX6_restore_19 : decode cX6_restore 19 = .ok (.getfield 19, 3) := by decide +kernel
theorem dX6_restore_22 : decode cX6_restore 22 = .ok (.invokevirtual 148, 3) := by decide +kernel
theorem dX6_restore_25 : decode cX6_restore 25 = .ok (.aload_n 0, 1) := by decide +kernel
theorem dX6_restore_26 : decode cX6_restore 26 = .ok (.getfield 10, 3) := by decide +kernel
theorem dX6_restore_29 : decode cX6_restore 29 = .ok (.getfield 134, 3) := by decide +kernel
theorem dX6_restore_32 : decode cX6_restore 32 = .ok (.ireturn, 1) := by decide +kernel
theorem dX6_question_0 : decode cX6_question 0 = .ok (.aload_n 0, 1) := by decide +kernel
theorem dX6_question_1 : decode cX6_question 1 = .ok (.getfield 10, 3) := by decide +kernel
theorem dX6_question_4 : decode cX6_question 4 = .ok (.iload_n 1, 1) := by decide +kernel
theorem dX6_question_5 : decode cX6_question 5 = .ok (.invokevirtual 156, 3) := by decide +kernel
theorem dX6_question_8 : decode cX6_question 8 = .ok (.astore_n 3, 1) := by decide +kernel
theorem dX6_question_9 : decode cX6_question 9 = .ok (.aload_n 3, 1) := by decide +kernel
theorem dX6_question_10 : decode cX6_question 10 = .ok (.ifnonnull 5, 3) := by decide +kernel
theorem dX6_question_13 : decode cX6_question 13 = .ok (.iconst (-1), 1) := by decide +kernel
theorem dX6_question_14 : decode cX6_question 14 = .ok (.ireturn, 1) := by decide +kernel
theorem dX6_question_15 : decode cX6_question 15 = .ok (.iload_n 2, 1) := by decide +kernel
theorem dX6_question_16 : decode cX6_question 16 = .ok (.tableswitch 97 0 8 #[52, 57, 62, 67, 72, 77, 82, 87, 92], 52) := by decide +kernel
theorem dX6_question_68 : decode cX6_question 68 = .ok (.aload_n 3, 1) := by decide +kernel
theorem dX6_question_69 : decode cX6_question 69 = .ok (.getfield 104, 3) := by decide +kernel
theorem dX6_question_72 : decode cX6_question 72 = .ok (.ireturn, 1) := by decide +kernel
theorem dX6_question_73 : decode cX6_question 73 = .ok (.aload_n 3, 1) := by decide +kernel
theorem dX6_question_74 : decode cX6_question 74 = .ok (.getfield 109, 3) := by decide +kernel
theorem dX6_question_77 : decode cX6_question 77 = .ok (.ireturn, 1) := by decide +kernel
theorem dX6_question_78 : decode cX6_question 78 = .ok (.aload_n 3, 1) := by decide +kernel
theorem dX6_question_79 : decode cX6_question 79 = .ok (.getfield 112, 3) := by decide +kernel
theorem dX6_question_82 : decode cX6_question 82 = .ok (.ireturn, 1) := by decide +kernel
theorem dX6_question_83 : decode cX6_question 83 = .ok (.aload_n 3, 1) := by decide +kernel
theorem dX6_question_84 : decode cX6_question 84 = .ok (.getfield 115, 3) := by decide +kernel
theorem dX6_question_87 : decode cX6_question 87 = .ok (.ireturn, 1) := by decide +kernel
theorem dX6_question_88 : decode cX6_question 88 = .ok (.aload_n 3, 1) := by decide +kernel
theorem dX6_question_89 : decode cX6_question 89 = .ok (.getfield 157, 3) := by decide +kernel
theorem dX6_question_92 : decode cX6_question 92 = .ok (.ireturn, 1) := by decide +kernel
theorem dX6_question_93 : decode cX6_question 93 = .ok (.aload_n 3, 1) := by decide +kernel
theorem dX6_question_94 : decode cX6_question 94 = .ok (.getfield 160, 3) := by decide +kernel
theorem dX6_question_97 : decode cX6_question 97 = .ok (.ireturn, 1) := by decide +kernel
theorem dX6_question_98 : decode cX6_question 98 = .ok (.aload_n 3, 1) := by decide +kernel
theorem dX6_question_99 : decode cX6_question 99 = .ok (.getfield 163, 3) := by decide +kernel
theorem dX6_question_102 : decode cX6_question 102 = .ok (.ireturn, 1) := by decide +kernel
theorem dX6_question_103 : decode cX6_question 103 = .ok (.aload_n 3, 1) := by decide +kernel
theorem dX6_question_104 : decode cX6_question 104 = .ok (.getfield 166, 3) := by decide +kernel
theorem dX6_question_107 : decode cX6_question 107 = .ok (.ireturn, 1) := by decide +kernel
theorem dX6_question_108 : decode cX6_question 108 = .ok (.aload_n 3, 1) := by decide +kernel
theorem dX6_question_109 : decode cX6_question 109 = .ok (.getfield 169, 3) := by decide +kernel
theorem dX6_question_112 : decode cX6_question 112 = .ok (.ireturn, 1) := by decide +kernel
theorem dX6_question_113 : decode cX6_question 113 = .ok (.bipush (-2), 2) := by decide +kernel
theorem dX6_question_115 : decode cX6_question 115 = .ok (.ireturn, 1) := by decide +kernel
theorem dX6_tag_0 : decode cX6_tag 0 = .ok (.iload_n 1, 1) := by decide +kernel
theorem dX6_tag_1 : decode cX6_tag 1 = .ok (.aload_n 0, 1) := by decide +kernel
theorem dX6_tag_2 : decode cX6_tag 2 = .ok (.getfield 10, 3) := by decide +kernel
theorem dX6_tag_5 : decode cX6_tag 5 = .ok (.getfield 52, 3) := by decide +kernel
theorem dX6_tag_8 : decode cX6_tag 8 = .ok (.iconst 0, 1) := by decide +kernel
theorem dX6_tag_9 : decode cX6_tag 9 = .ok (.iaload, 1) := by decide +kernel
theorem dX6_tag_10 : decode cX6_tag 10 = .ok (.invokestatic 37, 3) := by decide +kernel
theorem dX6_tag_13 : decode cX6_tag 13 = .ok (.ifCond .eq 12, 3) := by decide +kernel
theorem dX6_tag_16 : decode cX6_tag 16 = .ok (.iload_n 1, 1) := by decide +kernel
theorem dX6_tag_17 : decode cX6_tag 17 = .ok (.bipush 8, 2) := by decide +kernel
theorem dX6_tag_19 : decode cX6_tag 19 = .ok (.invokestatic 37, 3) := by decide +kernel
theorem dX6_tag_22 : decode cX6_tag 22 = .ok (.ifCond .ne 5, 3) := by decide +kernel
theorem dX6_tag_25 : decode cX6_tag 25 = .ok (.iconst (-1), 1) := by decide +kernel
theorem dX6_tag_26 : decode cX6_tag 26 = .ok (.ireturn, 1) := by decide +kernel
theorem dX6_tag_27 : decode cX6_tag 27 = .ok (.aload_n 0, 1) := by decide +kernel
theorem dX6_tag_28 : decode cX6_tag 28 = .ok (.getfield 10, 3) := by decide +kernel
theorem dX6_tag_31 : decode cX6_tag 31 = .ok (.getfield 172, 3) := by decide +kernel
theorem dX6_tag_34 : decode cX6_tag 34 = .ok (.iload_n 1, 1) := by decide +kernel
theorem dX6_tag_35 : decode cX6_tag 35 = .ok (.iaload, 1) := by decide +kernel
theorem dX6_tag_36 : decode cX6_tag 36 = .ok (.ireturn, 1) := by decide +kernel
theorem dX6_master_0 : decode cX6_master 0 = .ok (.aload_n 0, 1) := by decide +kernel
theorem dX6_master_1 : decode cX6_master 1 = .ok (.getfield 10, 3) := by decide +kernel
theorem dX6_master_4 : decode cX6_master 4 = .ok (.iload_n 1, 1) := by decide +kernel
theorem dX6_master_5 : decode cX6_master 5 = .ok (.invokevirtual 58, 3) := by decide +kernel
theorem dX6_master_8 : decode cX6_master 8 = .ok (.astore_n 3, 1) := by decide +kernel
theorem dX6_master_9 : decode cX6_master 9 = .ok (.aload_n 3, 1) := by decide +kernel
theorem dX6_master_10 : decode cX6_master 10 = .ok (.ifnonnull 5, 3) := by decide +kernel
theorem dX6_master_13 : decode cX6_master 13 = .ok (.iconst (-1), 1) := by decide +kernel
theorem dX6_master_14 : decode cX6_master 14 = .ok (.ireturn, 1) := by decide +kernel
theorem dX6_master_15 : decode cX6_master 15 = .ok (.iload_n 2, 1) := by decide +kernel
theorem dX6_master_16 : decode cX6_master 16 = .ok (.tableswitch 124 0 8 #[52, 60, 65, 70, 75, 92, 97, 102, 107], 52) := by decide +kernel
theorem dX6_master_68 : decode cX6_master 68 = .ok (.aload_n 3, 1) := by decide +kernel
theorem dX6_master_69 : decode cX6_master 69 = .ok (.getfield 121, 3) := by decide +kernel
theorem dX6_master_72 : decode cX6_master 72 = .ok (.getfield 125, 3) := by decide +kernel
theorem dX6_master_75 : decode cX6_master 75 = .ok (.ireturn, 1) := by decide +kernel
theorem dX6_master_76 : decode cX6_master 76 = .ok (.aload_n 3, 1) := by decide +kernel
theorem dX6_master_77 : decode cX6_master 77 = .ok (.getfield 62, 3) := by decide +kernel
theorem dX6_master_80 : decode cX6_master 80 = .ok (.ireturn, 1) := by decide +kernel
theorem dX6_master_81 : decode cX6_master 81 = .ok (.aload_n 3, 1) := by decide +kernel
theorem dX6_master_82 : decode cX6_master 82 = .ok (.getfield 175, 3) := by decide +kernel
theorem dX6_master_85 : decode cX6_master 85 = .ok (.ireturn, 1) := by decide +kernel
theorem dX6_master_86 : decode cX6_master 86 = .ok (.aload_n 3, 1) := by decide +kernel
theorem dX6_master_87 : decode cX6_master 87 = .ok (.getfield 178, 3) := by decide +kernel
theorem dX6_master_90 : decode cX6_master 90 = .ok (.ireturn, 1) := by decide +kernel
theorem dX6_master_91 : decode cX6_master 91 = .ok (.iconst 0, 1) := by decide +kernel
theorem dX6_master_92 : decode cX6_master 92 = .ok (.aload_n 3, 1) := by decide +kernel
theorem dX6_master_93 : decode cX6_master 93 = .ok (.getfield 179, 3) := by decide +kernel
theorem dX6_master_96 : decode cX6_master 96 = .ok (.aload_n 0, 1) := by decide +kernel
theorem dX6_master_97 : decode cX6_master 97 = .ok (.getfield 10, 3) := by decide +kernel
theorem dX6_master_100 : decode cX6_master 100 = .ok (.getfield 134, 3) := by decide +kernel
theorem dX6_master_103 : decode cX6_master 103 = .ok (.isub, 1) := by decide +kernel
theorem dX6_master_104 : decode cX6_master 104 = .ok (.invokestatic 182, 3) := by decide +kernel
theorem dX6_master_107 : decode cX6_master 107 = .ok (.ireturn, 1) := by decide +kernel
theorem dX6_master_108 : decode cX6_master 108 = .ok (.aload_n 3, 1) := by decide +kernel
theorem dX6_master_109 : decode cX6_master 109 = .ok (.getfield 188, 3) := by decide +kernel
theorem dX6_master_112 : decode cX6_master 112 = .ok (.ireturn, 1) := by decide +kernel
theorem dX6_master_113 : decode cX6_master 113 = .ok (.aload_n 3, 1) := by decide +kernel
theorem dX6_master_114 : decode cX6_master 114 = .ok (.getfield 191, 3) := by decide +kernel
theorem dX6_master_117 : decode cX6_master 117 = .ok (.ireturn, 1) := by decide +kernel
theorem dX6_master_118 : decode cX6_master 118 = .ok (.aload_n 3, 1) := by decide +kernel
theorem dX6_master_119 : decode cX6_master 119 = .ok (.getfield 194, 3) := by decide +kernel
theorem dX6_master_122 : decode cX6_master 122 = .ok (.ireturn, 1) := by decide +kernel
theorem dX6_master_123 : decode cX6_master 123 = .ok (.aload_n 0, 1) := by decide +kernel
theorem dX6_master_124 : decode cX6_master 124 = .ok (.getfield 10, 3) := by decide +kernel
theorem dX6_master_127 : decode cX6_master 127 = .ok (.aload_n 3, 1) := by decide +kernel
theorem dX6_master_128 : decode cX6_master 128 = .ok (.invokevirtual 197, 3) := by decide +kernel
theorem dX6_master_131 : decode cX6_master 131 = .ok (.ifCond .eq 7, 3) := by decide +kernel
theorem dX6_master_134 : decode cX6_master 134 = .ok (.iconst 1, 1) := by decide +kernel
theorem dX6_master_135 : decode cX6_master 135 = .ok (.goto 4, 3) := by decide +kernel
theorem dX6_master_138 : decode cX6_master 138 = .ok (.iconst 0, 1) := by decide +kernel
theorem dX6_master_139 : decode cX6_master 139 = .ok (.ireturn, 1) := by decide +kernel
theorem dX6_master_140 : decode cX6_master 140 = .ok (.bipush (-2), 2) := by decide +kernel
theorem dX6_master_142 : decode cX6_master 142 = .ok (.ireturn, 1) := by decide +kernel
theorem dX6_row_0 : decode cX6_row 0 = .ok (.aload_n 0, 1) := by decide +kernel
theorem dX6_row_1 : decode cX6_row 1 = .ok (.getfield 10, 3) := by decide +kernel
theorem dX6_row_4 : decode cX6_row 4 = .ok (.iload_n 1, 1) := by decide +kernel
theorem dX6_row_5 : decode cX6_row 5 = .ok (.invokevirtual 58, 3) := by decide +kernel
theorem dX6_row_8 : decode cX6_row 8 = .ok (.astore_n 3, 1) := by decide +kernel
theorem dX6_row_9 : decode cX6_row 9 = .ok (.aload_n 3, 1) := by decide +kernel
theorem dX6_row_10 : decode cX6_row 10 = .ok (.ifnonnull 5, 3) := by decide +kernel
theorem dX6_row_13 : decode cX6_row 13 = .ok (.iconst (-1), 1) := by decide +kernel
theorem dX6_row_14 : decode cX6_row 14 = .ok (.ireturn, 1) := by decide +kernel
theorem dX6_row_15 : decode cX6_row 15 = .ok (.iload_n 2, 1) := by decide +kernel
theorem dX6_row_16 : decode cX6_row 16 = .ok (.ifCond .ge 6, 3) := by decide +kernel
theorem dX6_row_19 : decode cX6_row 19 = .ok (.bipush (-2), 2) := by decide +kernel
theorem dX6_row_21 : decode cX6_row 21 = .ok (.ireturn, 1) := by decide +kernel
theorem dX6_row_22 : decode cX6_row 22 = .ok (.aload_n 3, 1) := by decide +kernel
theorem dX6_row_23 : decode cX6_row 23 = .ok (.getfield 121, 3) := by decide +kernel
theorem dX6_row_26 : decode cX6_row 26 = .ok (.iload_n 2, 1) := by decide +kernel
theorem dX6_row_27 : decode cX6_row 27 = .ok (.invokevirtual 201, 3) := by decide +kernel
theorem dX6_row_30 : decode cX6_row 30 = .ok (.ireturn, 1) := by decide +kernel
theorem dX6_target_0 : decode cX6_target 0 = .ok (.aload_n 0, 1) := by decide +kernel
theorem dX6_target_1 : decode cX6_target 1 = .ok (.getfield 10, 3) := by decide +kernel
theorem dX6_target_4 : decode cX6_target 4 = .ok (.iload_n 1, 1) := by decide +kernel
theorem dX6_target_5 : decode cX6_target 5 = .ok (.invokevirtual 68, 3) := by decide +kernel
theorem dX6_target_8 : decode cX6_target 8 = .ok (.astore_n 3, 1) := by decide +kernel
theorem dX6_target_9 : decode cX6_target 9 = .ok (.aload_n 3, 1) := by decide +kernel
theorem dX6_target_10 : decode cX6_target 10 = .ok (.ifnonnull 5, 3) := by decide +kernel
theorem dX6_target_13 : decode cX6_target 13 = .ok (.iconst (-1), 1) := by decide +kernel
theorem dX6_target_14 : decode cX6_target 14 = .ok (.ireturn, 1) := by decide +kernel
theorem dX6_target_15 : decode cX6_target 15 = .ok (.iload_n 2, 1) := by decide +kernel
theorem dX6_target_16 : decode cX6_target 16 = .ok (.tableswitch 94 0 5 #[40, 47, 54, 61, 69, 78], 40) := by decide +kernel
theorem dX6_target_56 : decode cX6_target 56 = .ok (.aload_n 3, 1) := by decide +kernel
theorem dX6_target_57 : decode cX6_target 57 = .ok (.getfield 78, 3) := by decide +kernel
theorem dX6_target_60 : decode cX6_target 60 = .ok (.iconst 0, 1) := by decide +kernel
theorem dX6_target_61 : decode cX6_target 61 = .ok (.iaload, 1) := by decide +kernel
theorem dX6_target_62 : decode cX6_target 62 = .ok (.ireturn, 1) := by decide +kernel
theorem dX6_target_63 : decode cX6_target 63 = .ok (.aload_n 3, 1) := by decide +kernel
theorem dX6_target_64 : decode cX6_target 64 = .ok (.getfield 78, 3) := by decide +kernel
theorem dX6_target_67 : decode cX6_target 67 = .ok (.iconst 1, 1) := by decide +kernel
theorem dX6_target_68 : decode cX6_target 68 = .ok (.iaload, 1) := by decide +kernel
theorem dX6_target_69 : decode cX6_target 69 = .ok (.ireturn, 1) := by decide +kernel
theorem dX6_target_70 : decode cX6_target 70 = .ok (.aload_n 3, 1) := by decide +kernel
theorem dX6_target_71 : decode cX6_target 71 = .ok (.getfield 78, 3) := by decide +kernel
theorem dX6_target_74 : decode cX6_target 74 = .ok (.iconst 2, 1) := by decide +kernel
theorem dX6_target_75 : decode cX6_target 75 = .ok (.iaload, 1) := by decide +kernel
theorem dX6_target_76 : decode cX6_target 76 = .ok (.ireturn, 1) := by decide +kernel
theorem dX6_target_77 : decode cX6_target 77 = .ok (.aload_n 3, 1) := by decide +kernel
theorem dX6_target_78 : decode cX6_target 78 = .ok (.getfield 205, 3) := by decide +kernel
theorem dX6_target_81 : decode cX6_target 81 = .ok (.getfield 125, 3) := by decide +kernel
theorem dX6_target_84 : decode cX6_target 84 = .ok (.ireturn, 1) := by decide +kernel
theorem dX6_target_85 : decode cX6_target 85 = .ok (.aload_n 0, 1) := by decide +kernel
theorem dX6_target_86 : decode cX6_target 86 = .ok (.getfield 10, 3) := by decide +kernel
theorem dX6_target_89 : decode cX6_target 89 = .ok (.aload_n 3, 1) := by decide +kernel
theorem dX6_target_90 : decode cX6_target 90 = .ok (.invokevirtual 208, 3) := by decide +kernel
theorem dX6_target_93 : decode cX6_target 93 = .ok (.ireturn, 1) := by decide +kernel
theorem dX6_target_94 : decode cX6_target 94 = .ok (.aload_n 3, 1) := by decide +kernel
theorem dX6_target_95 : decode cX6_target 95 = .ok (.getfield 205, 3) := by decide +kernel
theorem dX6_target_98 : decode cX6_target 98 = .ok (.aload_n 0, 1) := by decide +kernel
theorem dX6_target_99 : decode cX6_target 99 = .ok (.getfield 10, 3) := by decide +kernel
theorem dX6_target_102 : decode cX6_target 102 = .ok (.aload_n 3, 1) := by decide +kernel
theorem dX6_target_103 : decode cX6_target 103 = .ok (.invokevirtual 212, 3) := by decide +kernel
theorem dX6_target_106 : decode cX6_target 106 = .ok (.invokevirtual 201, 3) := by decide +kernel
theorem dX6_target_109 : decode cX6_target 109 = .ok (.ireturn, 1) := by decide +kernel
theorem dX6_target_110 : decode cX6_target 110 = .ok (.bipush (-2), 2) := by decide +kernel
theorem dX6_target_112 : decode cX6_target 112 = .ok (.ireturn, 1) := by decide +kernel
theorem dX6_cell_0 : decode cX6_cell 0 = .ok (.aload_n 0, 1) := by decide +kernel
theorem dX6_cell_1 : decode cX6_cell 1 = .ok (.getfield 10, 3) := by decide +kernel
theorem dX6_cell_4 : decode cX6_cell 4 = .ok (.iload_n 1, 1) := by decide +kernel
theorem dX6_cell_5 : decode cX6_cell 5 = .ok (.invokevirtual 68, 3) := by decide +kernel
theorem dX6_cell_8 : decode cX6_cell 8 = .ok (.astore_n 3, 1) := by decide +kernel
theorem dX6_cell_9 : decode cX6_cell 9 = .ok (.aload_n 3, 1) := by decide +kernel
theorem dX6_cell_10 : decode cX6_cell 10 = .ok (.ifnonnull 5, 3) := by decide +kernel
theorem dX6_cell_13 : decode cX6_cell 13 = .ok (.iconst (-1), 1) := by decide +kernel
theorem dX6_cell_14 : decode cX6_cell 14 = .ok (.ireturn, 1) := by decide +kernel
theorem dX6_cell_15 : decode cX6_cell 15 = .ok (.iload_n 2, 1) := by decide +kernel
theorem dX6_cell_16 : decode cX6_cell 16 = .ok (.bipush 16, 2) := by decide +kernel
theorem dX6_cell_18 : decode cX6_cell 18 = .ok (.invokestatic 37, 3) := by decide +kernel
theorem dX6_cell_21 : decode cX6_cell 21 = .ok (.ifCond .eq 12, 3) := by decide +kernel
theorem dX6_cell_24 : decode cX6_cell 24 = .ok (.aload_n 3, 1) := by decide +kernel
theorem dX6_cell_25 : decode cX6_cell 25 = .ok (.getfield 83, 3) := by decide +kernel
theorem dX6_cell_28 : decode cX6_cell 28 = .ok (.iload_n 2, 1) := by decide +kernel
theorem dX6_cell_29 : decode cX6_cell 29 = .ok (.iaload, 1) := by decide +kernel
theorem dX6_cell_30 : decode cX6_cell 30 = .ok (.goto 5, 3) := by decide +kernel
theorem dX6_cell_33 : decode cX6_cell 33 = .ok (.bipush (-2), 2) := by decide +kernel
theorem dX6_cell_35 : decode cX6_cell 35 = .ok (.ireturn, 1) := by decide +kernel
theorem dX6_next_0 : decode cX6_next 0 = .ok (.iload_n 1, 1) := by decide +kernel
theorem dX6_next_1 : decode cX6_next 1 = .ok (.ifCond .eq 11, 3) := by decide +kernel
theorem dX6_next_4 : decode cX6_next 4 = .ok (.iload_n 1, 1) := by decide +kernel
theorem dX6_next_5 : decode cX6_next 5 = .ok (.iconst 1, 1) := by decide +kernel
theorem dX6_next_6 : decode cX6_next 6 = .ok (.if_icmp .eq 6, 3) := by decide +kernel
theorem dX6_next_9 : decode cX6_next 9 = .ok (.bipush (-2), 2) := by decide +kernel
theorem dX6_next_11 : decode cX6_next 11 = .ok (.ireturn, 1) := by decide +kernel
theorem dX6_next_12 : decode cX6_next 12 = .ok (.aload_n 0, 1) := by decide +kernel
theorem dX6_next_13 : decode cX6_next 13 = .ok (.getfield 16, 3) := by decide +kernel
theorem dX6_next_16 : decode cX6_next 16 = .ok (.aload_n 0, 1) := by decide +kernel
theorem dX6_next_17 : decode cX6_next 17 = .ok (.getfield 10, 3) := by decide +kernel
theorem dX6_next_20 : decode cX6_next 20 = .ok (.invokevirtual 148, 3) := by decide +kernel
theorem dX6_next_23 : decode cX6_next 23 = .ok (.aload_n 0, 1) := by decide +kernel
theorem dX6_next_24 : decode cX6_next 24 = .ok (.getfield 16, 3) := by decide +kernel
theorem dX6_next_27 : decode cX6_next 27 = .ok (.invokevirtual 137, 3) := by decide +kernel
theorem dX6_next_30 : decode cX6_next 30 = .ok (.istore_n 2, 1) := by decide +kernel
theorem dX6_next_31 : decode cX6_next 31 = .ok (.iload_n 2, 1) := by decide +kernel
theorem dX6_next_32 : decode cX6_next 32 = .ok (.bipush (-5), 2) := by decide +kernel
theorem dX6_next_34 : decode cX6_next 34 = .ok (.if_icmp .ne 6, 3) := by decide +kernel
theorem dX6_next_37 : decode cX6_next 37 = .ok (.bipush (-5), 2) := by decide +kernel
theorem dX6_next_39 : decode cX6_next 39 = .ok (.ireturn, 1) := by decide +kernel
theorem dX6_next_40 : decode cX6_next 40 = .ok (.iload_n 1, 1) := by decide +kernel
theorem dX6_next_41 : decode cX6_next 41 = .ok (.ifCond .ne 7, 3) := by decide +kernel
theorem dX6_next_44 : decode cX6_next 44 = .ok (.iload_n 2, 1) := by decide +kernel
theorem dX6_next_45 : decode cX6_next 45 = .ok (.goto 10, 3) := by decide +kernel
theorem dX6_next_48 : decode cX6_next 48 = .ok (.aload_n 0, 1) := by decide +kernel
theorem dX6_next_49 : decode cX6_next 49 = .ok (.getfield 16, 3) := by decide +kernel
theorem dX6_next_52 : decode cX6_next 52 = .ok (.getfield 215, 3) := by decide +kernel
theorem dX6_next_55 : decode cX6_next 55 = .ok (.ireturn, 1) := by decide +kernel
theorem dX6_answeredIn_0 : decode cX6_answeredIn 0 = .ok (.aload_n 0, 1) := by decide +kernel
theorem dX6_answeredIn_1 : decode cX6_answeredIn 1 = .ok (.getfield 10, 3) := by decide +kernel
theorem dX6_answeredIn_4 : decode cX6_answeredIn 4 = .ok (.iload_n 1, 1) := by decide +kernel
theorem dX6_answeredIn_5 : decode cX6_answeredIn 5 = .ok (.invokevirtual 156, 3) := by decide +kernel
theorem dX6_answeredIn_8 : decode cX6_answeredIn 8 = .ok (.astore_n 2, 1) := by decide +kernel
theorem dX6_answeredIn_9 : decode cX6_answeredIn 9 = .ok (.aload_n 2, 1) := by decide +kernel
theorem dX6_answeredIn_10 : decode cX6_answeredIn 10 = .ok (.ifnonnull 5, 3) := by decide +kernel
theorem dX6_answeredIn_13 : decode cX6_answeredIn 13 = .ok (.iconst (-1), 1) := by decide +kernel
theorem dX6_answeredIn_14 : decode cX6_answeredIn 14 = .ok (.ireturn, 1) := by decide +kernel
theorem dX6_answeredIn_15 : decode cX6_answeredIn 15 = .ok (.aload_n 2, 1) := by decide +kernel
theorem dX6_answeredIn_16 : decode cX6_answeredIn 16 = .ok (.getfield 157, 3) := by decide +kernel
theorem dX6_answeredIn_19 : decode cX6_answeredIn 19 = .ok (.iconst 3, 1) := by decide +kernel
theorem dX6_answeredIn_20 : decode cX6_answeredIn 20 = .ok (.if_icmp .eq 11, 3) := by decide +kernel
theorem dX6_answeredIn_23 : decode cX6_answeredIn 23 = .ok (.aload_n 2, 1) := by decide +kernel
theorem dX6_answeredIn_24 : decode cX6_answeredIn 24 = .ok (.getfield 157, 3) := by decide +kernel
theorem dX6_answeredIn_27 : decode cX6_answeredIn 27 = .ok (.iconst 4, 1) := by decide +kernel
theorem dX6_answeredIn_28 : decode cX6_answeredIn 28 = .ok (.if_icmp .ne 6, 3) := by decide +kernel
theorem dX6_answeredIn_31 : decode cX6_answeredIn 31 = .ok (.bipush (-4), 2) := by decide +kernel
theorem dX6_answeredIn_33 : decode cX6_answeredIn 33 = .ok (.ireturn, 1) := by decide +kernel
theorem dX6_answeredIn_34 : decode cX6_answeredIn 34 = .ok (.aload_n 0, 1) := by decide +kernel
theorem dX6_answeredIn_35 : decode cX6_answeredIn 35 = .ok (.getfield 16, 3) := by decide +kernel
theorem dX6_answeredIn_38 : decode cX6_answeredIn 38 = .ok (.aload_n 0, 1) := by decide +kernel
theorem dX6_answeredIn_39 : decode cX6_answeredIn 39 = .ok (.getfield 10, 3) := by decide +kernel
theorem dX6_answeredIn_42 : decode cX6_answeredIn 42 = .ok (.invokevirtual 148, 3) := by decide +kernel
theorem dX6_answeredIn_45 : decode cX6_answeredIn 45 = .ok (.iconst 1, 1) := by decide +kernel
theorem dX6_answeredIn_46 : decode cX6_answeredIn 46 = .ok (.istore_n 3, 1) := by decide +kernel
theorem dX6_answeredIn_47 : decode cX6_answeredIn 47 = .ok (.iload_n 3, 1) := by decide +kernel
theorem dX6_answeredIn_48 : decode cX6_answeredIn 48 = .ok (.sipush 999, 3) := by decide +kernel
theorem dX6_answeredIn_51 : decode cX6_answeredIn 51 = .ok (.if_icmp .gt 33, 3) := by decide +kernel
theorem dX6_answeredIn_54 : decode cX6_answeredIn 54 = .ok (.aload_n 0, 1) := by decide +kernel
theorem dX6_answeredIn_55 : decode cX6_answeredIn 55 = .ok (.getfield 16, 3) := by decide +kernel
theorem dX6_answeredIn_58 : decode cX6_answeredIn 58 = .ok (.invokevirtual 137, 3) := by decide +kernel
theorem dX6_answeredIn_61 : decode cX6_answeredIn 61 = .ok (.iload_n 1, 1) := by decide +kernel
theorem dX6_answeredIn_62 : decode cX6_answeredIn 62 = .ok (.if_icmp .ne 16, 3) := by decide +kernel
theorem dX6_answeredIn_65 : decode cX6_answeredIn 65 = .ok (.aload_n 0, 1) := by decide +kernel
theorem dX6_answeredIn_66 : decode cX6_answeredIn 66 = .ok (.getfield 16, 3) := by decide +kernel
theorem dX6_answeredIn_69 : decode cX6_answeredIn 69 = .ok (.getfield 215, 3) := by decide +kernel
theorem dX6_answeredIn_72 : decode cX6_answeredIn 72 = .ok (.iconst 1, 1) := by decide +kernel
theorem dX6_answeredIn_73 : decode cX6_answeredIn 73 = .ok (.if_icmp .ne 5, 3) := by decide +kernel
theorem dX6_answeredIn_76 : decode cX6_answeredIn 76 = .ok (.iload_n 3, 1) := by decide +kernel
theorem dX6_answeredIn_77 : decode cX6_answeredIn 77 = .ok (.ireturn, 1) := by decide +kernel
theorem dX6_answeredIn_78 : decode cX6_answeredIn 78 = .ok (.iinc 3 1, 3) := by decide +kernel
theorem dX6_answeredIn_81 : decode cX6_answeredIn 81 = .ok (.goto (-34), 3) := by decide +kernel
theorem dX6_answeredIn_84 : decode cX6_answeredIn 84 = .ok (.bipush (-5), 2) := by decide +kernel
theorem dX6_answeredIn_86 : decode cX6_answeredIn 86 = .ok (.ireturn, 1) := by decide +kernel
theorem dX6_count_0 : decode cX6_count 0 = .ok (.iload_n 1, 1) := by decide +kernel
theorem dX6_count_1 : decode cX6_count 1 = .ok (.tableswitch 174 0 12 #[67, 75, 85, 95, 105, 113, 121, 129, 137, 145, 153, 161, 166], 67) := by decide +kernel
theorem dX6_count_68 : decode cX6_count 68 = .ok (.aload_n 0, 1) := by decide +kernel
theorem dX6_count_69 : decode cX6_count 69 = .ok (.getfield 10, 3) := by decide +kernel
theorem dX6_count_72 : decode cX6_count 72 = .ok (.getfield 134, 3) := by decide +kernel
theorem dX6_count_75 : decode cX6_count 75 = .ok (.ireturn, 1) := by decide +kernel
theorem dX6_count_76 : decode cX6_count 76 = .ok (.aload_n 0, 1) := by decide +kernel
theorem dX6_count_77 : decode cX6_count 77 = .ok (.getfield 10, 3) := by decide +kernel
theorem dX6_count_80 : decode cX6_count 80 = .ok (.getfield 52, 3) := by decide +kernel
theorem dX6_count_83 : decode cX6_count 83 = .ok (.iconst 0, 1) := by decide +kernel
theorem dX6_count_84 : decode cX6_count 84 = .ok (.iaload, 1) := by decide +kernel
theorem dX6_count_85 : decode cX6_count 85 = .ok (.ireturn, 1) := by decide +kernel
theorem dX6_count_86 : decode cX6_count 86 = .ok (.aload_n 0, 1) := by decide +kernel
theorem dX6_count_87 : decode cX6_count 87 = .ok (.getfield 10, 3) := by decide +kernel
theorem dX6_count_90 : decode cX6_count 90 = .ok (.getfield 52, 3) := by decide +kernel
theorem dX6_count_93 : decode cX6_count 93 = .ok (.iconst 1, 1) := by decide +kernel
theorem dX6_count_94 : decode cX6_count 94 = .ok (.iaload, 1) := by decide +kernel
theorem dX6_count_95 : decode cX6_count 95 = .ok (.ireturn, 1) := by decide +kernel
theorem dX6_count_96 : decode cX6_count 96 = .ok (.aload_n 0, 1) := by decide +kernel
theorem dX6_count_97 : decode cX6_count 97 = .ok (.getfield 10, 3) := by decide +kernel
theorem dX6_count_100 : decode cX6_count 100 = .ok (.getfield 52, 3) := by decide +kernel
theorem dX6_count_103 : decode cX6_count 103 = .ok (.iconst 2, 1) := by decide +kernel
theorem dX6_count_104 : decode cX6_count 104 = .ok (.iaload, 1) := by decide +kernel
theorem dX6_count_105 : decode cX6_count 105 = .ok (.ireturn, 1) := by decide +kernel
theorem dX6_count_106 : decode cX6_count 106 = .ok (.aload_n 0, 1) := by decide +kernel
theorem dX6_count_107 : decode cX6_count 107 = .ok (.getfield 10, 3) := by decide +kernel
theorem dX6_count_110 : decode cX6_count 110 = .ok (.getfield 218, 3) := by decide +kernel
theorem dX6_count_113 : decode cX6_count 113 = .ok (.ireturn, 1) := by decide +kernel
theorem dX6_count_114 : decode cX6_count 114 = .ok (.aload_n 0, 1) := by decide +kernel
theorem dX6_count_115 : decode cX6_count 115 = .ok (.getfield 10, 3) := by decide +kernel
theorem dX6_count_118 : decode cX6_count 118 = .ok (.invokevirtual 221, 3) := by decide +kernel
theorem dX6_count_121 : decode cX6_count 121 = .ok (.ireturn, 1) := by decide +kernel
theorem dX6_count_122 : decode cX6_count 122 = .ok (.aload_n 0, 1) := by decide +kernel
theorem dX6_count_123 : decode cX6_count 123 = .ok (.getfield 10, 3) := by decide +kernel
theorem dX6_count_126 : decode cX6_count 126 = .ok (.getfield 224, 3) := by decide +kernel
theorem dX6_count_129 : decode cX6_count 129 = .ok (.ireturn, 1) := by decide +kernel
theorem dX6_count_130 : decode cX6_count 130 = .ok (.aload_n 0, 1) := by decide +kernel
theorem dX6_count_131 : decode cX6_count 131 = .ok (.getfield 10, 3) := by decide +kernel
theorem dX6_count_134 : decode cX6_count 134 = .ok (.getfield 227, 3) := by decide +kernel
theorem dX6_count_137 : decode cX6_count 137 = .ok (.ireturn, 1) := by decide +kernel
theorem dX6_count_138 : decode cX6_count 138 = .ok (.aload_n 0, 1) := by decide +kernel
theorem dX6_count_139 : decode cX6_count 139 = .ok (.getfield 10, 3) := by decide +kernel
theorem dX6_count_142 : decode cX6_count 142 = .ok (.getfield 230, 3) := by decide +kernel
theorem dX6_count_145 : decode cX6_count 145 = .ok (.ireturn, 1) := by decide +kernel
theorem dX6_count_146 : decode cX6_count 146 = .ok (.aload_n 0, 1) := by decide +kernel
theorem dX6_count_147 : decode cX6_count 147 = .ok (.getfield 10, 3) := by decide +kernel
theorem dX6_count_150 : decode cX6_count 150 = .ok (.getfield 233, 3) := by decide +kernel
theorem dX6_count_153 : decode cX6_count 153 = .ok (.ireturn, 1) := by decide +kernel
theorem dX6_count_154 : decode cX6_count 154 = .ok (.aload_n 0, 1) := by decide +kernel
theorem dX6_count_155 : decode cX6_count 155 = .ok (.getfield 10, 3) := by decide +kernel
theorem dX6_count_158 : decode cX6_count 158 = .ok (.getfield 236, 3) := by decide +kernel
theorem dX6_count_161 : decode cX6_count 161 = .ok (.ireturn, 1) := by decide +kernel
theorem dX6_count_162 : decode cX6_count 162 = .ok (.aload_n 0, 1) := by decide +kernel
theorem dX6_count_163 : decode cX6_count 163 = .ok (.getfield 145, 3) := by decide +kernel
theorem dX6_count_166 : decode cX6_count 166 = .ok (.ireturn, 1) := by decide +kernel
theorem dX6_count_167 : decode cX6_count 167 = .ok (.aload_n 0, 1) := by decide +kernel
theorem dX6_count_168 : decode cX6_count 168 = .ok (.getfield 29, 3) := by decide +kernel
theorem dX6_count_171 : decode cX6_count 171 = .ok (.getfield 144, 3) := by decide +kernel
theorem dX6_count_174 : decode cX6_count 174 = .ok (.ireturn, 1) := by decide +kernel
theorem dX6_count_175 : decode cX6_count 175 = .ok (.bipush (-2), 2) := by decide +kernel
theorem dX6_count_177 : decode cX6_count 177 = .ok (.ireturn, 1) := by decide +kernel
theorem dX6_isIndex_0 : decode cX6_isIndex 0 = .ok (.iload_n 0, 1) := by decide +kernel
theorem dX6_isIndex_1 : decode cX6_isIndex 1 = .ok (.ifCond .lt 12, 3) := by decide +kernel
theorem dX6_isIndex_4 : decode cX6_isIndex 4 = .ok (.iload_n 0, 1) := by decide +kernel
theorem dX6_isIndex_5 : decode cX6_isIndex 5 = .ok (.iload_n 1, 1) := by decide +kernel
theorem dX6_isIndex_6 : decode cX6_isIndex 6 = .ok (.if_icmp .ge 7, 3) := by decide +kernel
theorem dX6_isIndex_9 : decode cX6_isIndex 9 = .ok (.iconst 1, 1) := by decide +kernel
theorem dX6_isIndex_10 : decode cX6_isIndex 10 = .ok (.goto 4, 3) := by decide +kernel
theorem dX6_isIndex_13 : decode cX6_isIndex 13 = .ok (.iconst 0, 1) := by decide +kernel
theorem dX6_isIndex_14 : decode cX6_isIndex 14 = .ok (.ireturn, 1) := by decide +kernel
theorem dX6_isBetween_0 : decode cX6_isBetween 0 = .ok (.iload_n 0, 1) := by decide +kernel
theorem dX6_isBetween_1 : decode cX6_isBetween 1 = .ok (.iload_n 1, 1) := by decide +kernel
theorem dX6_isBetween_2 : decode cX6_isBetween 2 = .ok (.if_icmp .lt 12, 3) := by decide +kernel
theorem dX6_isBetween_5 : decode cX6_isBetween 5 = .ok (.iload_n 0, 1) := by decide +kernel
theorem dX6_isBetween_6 : decode cX6_isBetween 6 = .ok (.iload_n 2, 1) := by decide +kernel
theorem dX6_isBetween_7 : decode cX6_isBetween 7 = .ok (.if_icmp .gt 7, 3) := by decide +kernel
theorem dX6_isBetween_10 : decode cX6_isBetween 10 = .ok (.iconst 1, 1) := by decide +kernel
theorem dX6_isBetween_11 : decode cX6_isBetween 11 = .ok (.goto 4, 3) := by decide +kernel
theorem dX6_isBetween_14 : decode cX6_isBetween 14 = .ok (.iconst 0, 1) := by decide +kernel
theorem dX6_isBetween_15 : decode cX6_isBetween 15 = .ok (.ireturn, 1) := by decide +kernel
theorem dX6_putOne_0 : decode cX6_putOne 0 = .ok (.aload_n 0, 1) := by decide +kernel
theorem dX6_putOne_1 : decode cX6_putOne 1 = .ok (.getfield 10, 3) := by decide +kernel
theorem dX6_putOne_4 : decode cX6_putOne 4 = .ok (.iload_n 1, 1) := by decide +kernel
theorem dX6_putOne_5 : decode cX6_putOne 5 = .ok (.invokevirtual 58, 3) := by decide +kernel
theorem dX6_putOne_8 : decode cX6_putOne 8 = .ok (.astore 5, 2) := by decide +kernel
theorem dX6_putOne_10 : decode cX6_putOne 10 = .ok (.aload 5, 2) := by decide +kernel
theorem dX6_putOne_12 : decode cX6_putOne 12 = .ok (.ifnull 14, 3) := by decide +kernel
theorem dX6_putOne_15 : decode cX6_putOne 15 = .ok (.aload_n 0, 1) := by decide +kernel
theorem dX6_putOne_16 : decode cX6_putOne 16 = .ok (.getfield 10, 3) := by decide +kernel
theorem dX6_putOne_19 : decode cX6_putOne 19 = .ok (.iload_n 2, 1) := by decide +kernel
theorem dX6_putOne_20 : decode cX6_putOne 20 = .ok (.invokevirtual 68, 3) := by decide +kernel
theorem dX6_putOne_23 : decode cX6_putOne 23 = .ok (.ifnonnull 5, 3) := by decide +kernel
theorem dX6_putOne_26 : decode cX6_putOne 26 = .ok (.iconst (-1), 1) := by decide +kernel
theorem dX6_putOne_27 : decode cX6_putOne 27 = .ok (.ireturn, 1) := by decide +kernel
theorem dX6_putOne_28 : decode cX6_putOne 28 = .ok (.iload_n 3, 1) := by decide +kernel
theorem dX6_putOne_29 : decode cX6_putOne 29 = .ok (.bipush 16, 2) := by decide +kernel
theorem dX6_putOne_31 : decode cX6_putOne 31 = .ok (.invokestatic 37, 3) := by decide +kernel
theorem dX6_putOne_34 : decode cX6_putOne 34 = .ok (.ifCond .ne 6, 3) := by decide +kernel
theorem dX6_putOne_37 : decode cX6_putOne 37 = .ok (.bipush (-2), 2) := by decide +kernel
theorem dX6_putOne_39 : decode cX6_putOne 39 = .ok (.ireturn, 1) := by decide +kernel
theorem dX6_putOne_40 : decode cX6_putOne 40 = .ok (.aload 5, 2) := by decide +kernel
theorem dX6_putOne_42 : decode cX6_putOne 42 = .ok (.getfield 121, 3) := by decide +kernel
theorem dX6_putOne_45 : decode cX6_putOne 45 = .ok (.getfield 125, 3) := by decide +kernel
theorem dX6_putOne_48 : decode cX6_putOne 48 = .ok (.bipush 6, 2) := by decide +kernel
theorem dX6_putOne_50 : decode cX6_putOne 50 = .ok (.if_icmp .ge 16, 3) := by decide +kernel
theorem dX6_putOne_53 : decode cX6_putOne 53 = .ok (.aload_n 0, 1) := by decide +kernel
theorem dX6_putOne_54 : decode cX6_putOne 54 = .ok (.getfield 10, 3) := by decide +kernel
theorem dX6_putOne_57 : decode cX6_putOne 57 = .ok (.getfield 218, 3) := by decide +kernel
theorem dX6_putOne_60 : decode cX6_putOne 60 = .ok (.sipush 200, 3) := by decide +kernel
theorem dX6_putOne_63 : decode cX6_putOne 63 = .ok (.if_icmp .lt 6, 3) := by decide +kernel
theorem dX6_putOne_66 : decode cX6_putOne 66 = .ok (.bipush (-3), 2) := by decide +kernel
theorem dX6_putOne_68 : decode cX6_putOne 68 = .ok (.ireturn, 1) := by decide +kernel
theorem dX6_putOne_69 : decode cX6_putOne 69 = .ok (.aload_n 0, 1) := by decide +kernel
theorem dX6_putOne_70 : decode cX6_putOne 70 = .ok (.invokevirtual 55, 3) := by decide +kernel
theorem dX6_putOne_73 : decode cX6_putOne 73 = .ok (.aload_n 0, 1) := by decide +kernel
theorem dX6_putOne_74 : decode cX6_putOne 74 = .ok (.getfield 10, 3) := by decide +kernel
theorem dX6_putOne_77 : decode cX6_putOne 77 = .ok (.iload_n 1, 1) := by decide +kernel
theorem dX6_putOne_78 : decode cX6_putOne 78 = .ok (.iload_n 2, 1) := by decide +kernel
theorem dX6_putOne_79 : decode cX6_putOne 79 = .ok (.iload_n 3, 1) := by decide +kernel
theorem dX6_putOne_80 : decode cX6_putOne 80 = .ok (.iload 4, 2) := by decide +kernel
theorem dX6_putOne_82 : decode cX6_putOne 82 = .ok (.invokevirtual 118, 3) := by decide +kernel
theorem dX6_putOne_85 : decode cX6_putOne 85 = .ok (.ireturn, 1) := by decide +kernel
theorem dX6_hasRoomForText_0 : decode cX6_hasRoomForText 0 = .ok (.aload_n 0, 1) := by decide +kernel
theorem dX6_hasRoomForText_1 : decode cX6_hasRoomForText 1 = .ok (.getfield 10, 3) := by decide +kernel
theorem dX6_hasRoomForText_4 : decode cX6_hasRoomForText 4 = .ok (.getfield 218, 3) := by decide +kernel
theorem dX6_hasRoomForText_7 : decode cX6_hasRoomForText 7 = .ok (.aload_n 0, 1) := by decide +kernel
theorem dX6_hasRoomForText_8 : decode cX6_hasRoomForText 8 = .ok (.getfield 29, 3) := by decide +kernel
theorem dX6_hasRoomForText_11 : decode cX6_hasRoomForText 11 = .ok (.getfield 97, 3) := by decide +kernel
theorem dX6_hasRoomForText_14 : decode cX6_hasRoomForText 14 = .ok (.iadd, 1) := by decide +kernel
theorem dX6_hasRoomForText_15 : decode cX6_hasRoomForText 15 = .ok (.sipush 200, 3) := by decide +kernel
theorem dX6_hasRoomForText_18 : decode cX6_hasRoomForText 18 = .ok (.if_icmp .le 5, 3) := by decide +kernel
theorem dX6_hasRoomForText_21 : decode cX6_hasRoomForText 21 = .ok (.iconst 0, 1) := by decide +kernel
theorem dX6_hasRoomForText_22 : decode cX6_hasRoomForText 22 = .ok (.ireturn, 1) := by decide +kernel
theorem dX6_hasRoomForText_23 : decode cX6_hasRoomForText 23 = .ok (.iconst 0, 1) := by decide +kernel
theorem dX6_hasRoomForText_24 : decode cX6_hasRoomForText 24 = .ok (.istore_n 1, 1) := by decide +kernel
theorem dX6_hasRoomForText_25 : decode cX6_hasRoomForText 25 = .ok (.iload_n 1, 1) := by decide +kernel
theorem dX6_hasRoomForText_26 : decode cX6_hasRoomForText 26 = .ok (.iconst 4, 1) := by decide +kernel
theorem dX6_hasRoomForText_27 : decode cX6_hasRoomForText 27 = .ok (.if_icmp .ge 45, 3) := by decide +kernel
theorem dX6_hasRoomForText_30 : decode cX6_hasRoomForText 30 = .ok (.aload_n 0, 1) := by decide +kernel
theorem dX6_hasRoomForText_31 : decode cX6_hasRoomForText 31 = .ok (.getfield 10, 3) := by decide +kernel
theorem dX6_hasRoomForText_34 : decode cX6_hasRoomForText 34 = .ok (.iload_n 1, 1) := by decide +kernel
theorem dX6_hasRoomForText_35 : decode cX6_hasRoomForText 35 = .ok (.invokevirtual 58, 3) := by decide +kernel
theorem dX6_hasRoomForText_38 : decode cX6_hasRoomForText 38 = .ok (.astore_n 2, 1) := by decide +kernel
theorem dX6_hasRoomForText_39 : decode cX6_hasRoomForText 39 = .ok (.aload_n 2, 1) := by decide +kernel
theorem dX6_hasRoomForText_40 : decode cX6_hasRoomForText 40 = .ok (.ifnull 24, 3) := by decide +kernel
theorem dX6_hasRoomForText_43 : decode cX6_hasRoomForText 43 = .ok (.aload_n 2, 1) := by decide +kernel
theorem dX6_hasRoomForText_44 : decode cX6_hasRoomForText 44 = .ok (.getfield 121, 3) := by decide +kernel
theorem dX6_hasRoomForText_47 : decode cX6_hasRoomForText 47 = .ok (.getfield 125, 3) := by decide +kernel
theorem dX6_hasRoomForText_50 : decode cX6_hasRoomForText 50 = .ok (.aload_n 0, 1) := by decide +kernel
theorem dX6_hasRoomForText_51 : decode cX6_hasRoomForText 51 = .ok (.getfield 29, 3) := by decide +kernel
theorem dX6_hasRoomForText_54 : decode cX6_hasRoomForText 54 = .ok (.iload_n 1, 1) := by decide +kernel
theorem dX6_hasRoomForText_55 : decode cX6_hasRoomForText 55 = .ok (.invokevirtual 239, 3) := by decide +kernel
theorem dX6_hasRoomForText_58 : decode cX6_hasRoomForText 58 = .ok (.iadd, 1) := by decide +kernel
theorem dX6_hasRoomForText_59 : decode cX6_hasRoomForText 59 = .ok (.bipush 6, 2) := by decide +kernel
theorem dX6_hasRoomForText_61 : decode cX6_hasRoomForText 61 = .ok (.if_icmp .le 5, 3) := by decide +kernel
theorem dX6_hasRoomForText_64 : decode cX6_hasRoomForText 64 = .ok (.iconst 0, 1) := by decide +kernel
theorem dX6_hasRoomForText_65 : decode cX6_hasRoomForText 65 = .ok (.ireturn, 1) := by decide +kernel
theorem dX6_hasRoomForText_66 : decode cX6_hasRoomForText 66 = .ok (.iinc 1 1, 3) := by decide +kernel
theorem dX6_hasRoomForText_69 : decode cX6_hasRoomForText 69 = .ok (.goto (-44), 3) := by decide +kernel
theorem dX6_hasRoomForText_72 : decode cX6_hasRoomForText 72 = .ok (.iconst 1, 1) := by decide +kernel
theorem dX6_hasRoomForText_73 : decode cX6_hasRoomForText 73 = .ok (.ireturn, 1) := by decide +kernel
theorem dX6_record_0 : decode cX6_record 0 = .ok (.aload_n 0, 1) := by decide +kernel
theorem dX6_record_1 : decode cX6_record 1 = .ok (.getfield 145, 3) := by decide +kernel
theorem dX6_record_4 : decode cX6_record 4 = .ok (.iconst 4, 1) := by decide +kernel
theorem dX6_record_5 : decode cX6_record 5 = .ok (.if_icmp .lt 49, 3) := by decide +kernel
theorem dX6_record_8 : decode cX6_record 8 = .ok (.aload_n 0, 1) := by decide +kernel
theorem dX6_record_9 : decode cX6_record 9 = .ok (.getfield 22, 3) := by decide +kernel
theorem dX6_record_12 : decode cX6_record 12 = .ok (.iconst 0, 1) := by decide +kernel
theorem dX6_record_13 : decode cX6_record 13 = .ok (.aaload, 1) := by decide +kernel
theorem dX6_record_14 : decode cX6_record 14 = .ok (.astore_n 1, 1) := by decide +kernel
theorem dX6_record_15 : decode cX6_record 15 = .ok (.iconst 1, 1) := by decide +kernel
theorem dX6_record_16 : decode cX6_record 16 = .ok (.istore_n 2, 1) := by decide +kernel
theorem dX6_record_17 : decode cX6_record 17 = .ok (.iload_n 2, 1) := by decide +kernel
theorem dX6_record_18 : decode cX6_record 18 = .ok (.iconst 4, 1) := by decide +kernel
theorem dX6_record_19 : decode cX6_record 19 = .ok (.if_icmp .ge 23, 3) := by decide +kernel
theorem dX6_record_22 : decode cX6_record 22 = .ok (.aload_n 0, 1) := by decide +kernel
theorem dX6_record_23 : decode cX6_record 23 = .ok (.getfield 22, 3) := by decide +kernel
theorem dX6_record_26 : decode cX6_record 26 = .ok (.iload_n 2, 1) := by decide +kernel
theorem dX6_record_27 : decode cX6_record 27 = .ok (.iconst 1, 1) := by decide +kernel
theorem dX6_record_28 : decode cX6_record 28 = .ok (.isub, 1) := by decide +kernel
theorem dX6_record_29 : decode cX6_record 29 = .ok (.aload_n 0, 1) := by decide +kernel
theorem dX6_record_30 : decode cX6_record 30 = .ok (.getfield 22, 3) := by decide +kernel
theorem dX6_record_33 : decode cX6_record 33 = .ok (.iload_n 2, 1) := by decide +kernel
theorem dX6_record_34 : decode cX6_record 34 = .ok (.aaload, 1) := by decide +kernel
theorem dX6_record_35 : decode cX6_record 35 = .ok (.aastore, 1) := by decide +kernel
theorem dX6_record_36 : decode cX6_record 36 = .ok (.iinc 2 1, 3) := by decide +kernel
theorem dX6_record_39 : decode cX6_record 39 = .ok (.goto (-22), 3) := by decide +kernel
theorem dX6_record_42 : decode cX6_record 42 = .ok (.aload_n 0, 1) := by decide +kernel
theorem dX6_record_43 : decode cX6_record 43 = .ok (.getfield 22, 3) := by decide +kernel
theorem dX6_record_46 : decode cX6_record 46 = .ok (.iconst 3, 1) := by decide +kernel
theorem dX6_record_47 : decode cX6_record 47 = .ok (.aload_n 1, 1) := by decide +kernel
theorem dX6_record_48 : decode cX6_record 48 = .ok (.aastore, 1) := by decide +kernel
theorem dX6_record_49 : decode cX6_record 49 = .ok (.aload_n 0, 1) := by decide +kernel
theorem dX6_record_50 : decode cX6_record 50 = .ok (.iconst 3, 1) := by decide +kernel
theorem dX6_record_51 : decode cX6_record 51 = .ok (.putfield 145, 3) := by decide +kernel
theorem dX6_record_54 : decode cX6_record 54 = .ok (.aload_n 0, 1) := by decide +kernel
theorem dX6_record_55 : decode cX6_record 55 = .ok (.getfield 145, 3) := by decide +kernel
theorem dX6_record_58 : decode cX6_record 58 = .ok (.iconst 4, 1) := by decide +kernel
theorem dX6_record_59 : decode cX6_record 59 = .ok (.invokestatic 37, 3) := by decide +kernel
theorem dX6_record_62 : decode cX6_record 62 = .ok (.ifCond .eq 29, 3) := by decide +kernel
theorem dX6_record_65 : decode cX6_record 65 = .ok (.aload_n 0, 1) := by decide +kernel
theorem dX6_record_66 : decode cX6_record 66 = .ok (.getfield 22, 3) := by decide +kernel
theorem dX6_record_69 : decode cX6_record 69 = .ok (.aload_n 0, 1) := by decide +kernel
theorem dX6_record_70 : decode cX6_record 70 = .ok (.getfield 145, 3) := by decide +kernel
theorem dX6_record_73 : decode cX6_record 73 = .ok (.aaload, 1) := by decide +kernel
theorem dX6_record_74 : decode cX6_record 74 = .ok (.aload_n 0, 1) := by decide +kernel
theorem dX6_record_75 : decode cX6_record 75 = .ok (.getfield 10, 3) := by decide +kernel
theorem dX6_record_78 : decode cX6_record 78 = .ok (.invokevirtual 148, 3) := by decide +kernel
theorem dX6_record_81 : decode cX6_record 81 = .ok (.aload_n 0, 1) := by decide +kernel
theorem dX6_record_82 : decode cX6_record 82 = .ok (.dup, 1) := by decide +kernel
theorem dX6_record_83 : decode cX6_record 83 = .ok (.getfield 145, 3) := by decide +kernel
theorem dX6_record_86 : decode cX6_record 86 = .ok (.iconst 1, 1) := by decide +kernel
theorem dX6_record_87 : decode cX6_record 87 = .ok (.iadd, 1) := by decide +kernel
theorem dX6_record_88 : decode cX6_record 88 = .ok (.putfield 145, 3) := by decide +kernel
theorem dX6_record_91 : decode cX6_record 91 = .ok (.return_, 1) := by decide +kernel
theorem dX7_init_0 : decode cX7_init 0 = .ok (.aload_n 0, 1) := by decide +kernel
theorem dX7_init_1 : decode cX7_init 1 = .ok (.invokespecial 1, 3) := by decide +kernel
theorem dX7_init_4 : decode cX7_init 4 = .ok (.aload_n 0, 1) := by decide +kernel
theorem dX7_init_5 : decode cX7_init 5 = .ok (.sipush 2361, 3) := by decide +kernel
theorem dX7_init_8 : decode cX7_init 8 = .ok (.newarray .int, 2) := by decide +kernel
theorem dX7_init_10 : decode cX7_init 10 = .ok (.putfield 7, 3) := by decide +kernel
theorem dX7_init_13 : decode cX7_init 13 = .ok (.aload_n 0, 1) := by decide +kernel
theorem dX7_init_14 : decode cX7_init 14 = .ok (.sipush 2361, 3) := by decide +kernel
theorem dX7_init_17 : decode cX7_init 17 = .ok (.newarray .int, 2) := by decide +kernel
theorem dX7_init_19 : decode cX7_init 19 = .ok (.putfield 13, 3) := by decide +kernel
theorem dX7_init_22 : decode cX7_init 22 = .ok (.aload_n 0, 1) := by decide +kernel
theorem dX7_init_23 : decode cX7_init 23 = .ok (.sipush 9444, 3) := by decide +kernel
theorem dX7_init_26 : decode cX7_init 26 = .ok (.newarray .int, 2) := by decide +kernel
theorem dX7_init_28 : decode cX7_init 28 = .ok (.putfield 16, 3) := by decide +kernel
theorem dX7_init_31 : decode cX7_init 31 = .ok (.aload_n 0, 1) := by decide +kernel
theorem dX7_init_32 : decode cX7_init 32 = .ok (.sipush 2361, 3) := by decide +kernel
theorem dX7_init_35 : decode cX7_init 35 = .ok (.newarray .int, 2) := by decide +kernel
theorem dX7_init_37 : decode cX7_init 37 = .ok (.putfield 19, 3) := by decide +kernel
theorem dX7_init_40 : decode cX7_init 40 = .ok (.aload_n 0, 1) := by decide +kernel
theorem dX7_init_41 : decode cX7_init 41 = .ok (.bipush 60, 2) := by decide +kernel
theorem dX7_init_43 : decode cX7_init 43 = .ok (.newarray .int, 2) := by decide +kernel
theorem dX7_init_45 : decode cX7_init 45 = .ok (.putfield 22, 3) := by decide +kernel
theorem dX7_init_48 : decode cX7_init 48 = .ok (.aload_n 0, 1) := by decide +kernel
theorem dX7_init_49 : decode cX7_init 49 = .ok (.iconst 4, 1) := by decide +kernel
theorem dX7_init_50 : decode cX7_init 50 = .ok (.newarray .int, 2) := by decide +kernel
theorem dX7_init_52 : decode cX7_init 52 = .ok (.putfield 25, 3) := by decide +kernel
theorem dX7_init_55 : decode cX7_init 55 = .ok (.aload_n 0, 1) := by decide +kernel
theorem dX7_init_56 : decode cX7_init 56 = .ok (.iconst 4, 1) := by decide +kernel
theorem dX7_init_57 : decode cX7_init 57 = .ok (.newarray .int, 2) := by decide +kernel
theorem dX7_init_59 : decode cX7_init 59 = .ok (.putfield 28, 3) := by decide +kernel
theorem dX7_init_62 : decode cX7_init 62 = .ok (.aload_n 0, 1) := by decide +kernel
theorem dX7_init_63 : decode cX7_init 63 = .ok (.getfield 7, 3) := by decide +kernel
theorem dX7_init_66 : decode cX7_init 66 = .ok (.iconst 1, 1) := by decide +kernel
theorem dX7_init_67 : decode cX7_init 67 = .ok (.iconst 4, 1) := by decide +kernel
theorem dX7_init_68 : decode cX7_init 68 = .ok (.iastore, 1) := by decide +kernel
theorem dX7_init_69 : decode cX7_init 69 = .ok (.aload_n 0, 1) := by decide +kernel
theorem dX7_init_70 : decode cX7_init 70 = .ok (.getfield 7, 3) := by decide +kernel
theorem dX7_init_73 : decode cX7_init 73 = .ok (.iconst 3, 1) := by decide +kernel
theorem dX7_init_74 : decode cX7_init 74 = .ok (.bipush 12, 2) := by decide +kernel
theorem dX7_init_76 : decode cX7_init 76 = .ok (.iastore, 1) := by decide +kernel
theorem dX7_init_77 : decode cX7_init 77 = .ok (.aload_n 0, 1) := by decide +kernel
theorem dX7_init_78 : decode cX7_init 78 = .ok (.getfield 7, 3) := by decide +kernel
theorem dX7_init_81 : decode cX7_init 81 = .ok (.iconst 5, 1) := by decide +kernel
theorem dX7_init_82 : decode cX7_init 82 = .ok (.iconst 1, 1) := by decide +kernel
theorem dX7_init_83 : decode cX7_init 83 = .ok (.iastore, 1) := by decide +kernel
theorem dX7_init_84 : decode cX7_init 84 = .ok (.iconst 0, 1) := by decide +kernel
theorem dX7_init_85 : decode cX7_init 85 = .ok (.istore_n 1, 1) := by decide +kernel
theorem dX7_init_86 : decode cX7_init 86 = .ok (.iload_n 1, 1) := by decide +kernel
theorem dX7_init_87 : decode cX7_init 87 = .ok (.iconst 4, 1) := by decide +kernel
theorem dX7_init_88 : decode cX7_init 88 = .ok (.if_icmp .ge 45, 3) := by decide +kernel
theorem dX7_init_91 : decode cX7_init 91 = .ok (.aload_n 0, 1) := by decide +kernel
theorem dX7_init_92 : decode cX7_init 92 = .ok (.getfield 7, 3) := by decide +kernel
theorem dX7_init_95 : decode cX7_init 95 = .ok (.iload_n 1, 1) := by decide +kernel
theorem dX7_init_96 : decode cX7_init 96 = .ok (.bipush 7, 2) := by decide +kernel
theorem dX7_init_98 : decode cX7_init 98 = .ok (.invokestatic 31, 3) := by decide +kernel
theorem dX7_init_101 : decode cX7_init 101 = .ok (.iconst 2, 1) := by decide +kernel
theorem dX7_init_102 : decode cX7_init 102 = .ok (.iastore, 1) := by decide +kernel
theorem dX7_init_103 : decode cX7_init 103 = .ok (.aload_n 0, 1) := by decide +kernel
theorem dX7_init_104 : decode cX7_init 104 = .ok (.getfield 7, 3) := by decide +kernel
theorem dX7_init_107 : decode cX7_init 107 = .ok (.iload_n 1, 1) := by decide +kernel
theorem dX7_init_108 : decode cX7_init 108 = .ok (.bipush 16, 2) := by decide +kernel
theorem dX7_init_110 : decode cX7_init 110 = .ok (.invokestatic 35, 3) := by decide +kernel
theorem dX7_init_113 : decode cX7_init 113 = .ok (.iconst 2, 1) := by decide +kernel
theorem dX7_init_114 : decode cX7_init 114 = .ok (.iastore, 1) := by decide +kernel
theorem dX7_init_115 : decode cX7_init 115 = .ok (.aload_n 0, 1) := by decide +kernel
theorem dX7_init_116 : decode cX7_init 116 = .ok (.getfield 7, 3) := by decide +kernel
theorem dX7_init_119 : decode cX7_init 119 = .ok (.iload_n 1, 1) := by decide +kernel
theorem dX7_init_120 : decode cX7_init 120 = .ok (.bipush 17, 2) := by decide +kernel
theorem dX7_init_122 : decode cX7_init 122 = .ok (.invokestatic 35, 3) := by decide +kernel
theorem dX7_init_125 : decode cX7_init 125 = .ok (.iconst 3, 1) := by decide +kernel
theorem dX7_init_126 : decode cX7_init 126 = .ok (.iastore, 1) := by decide +kernel
theorem dX7_init_127 : decode cX7_init 127 = .ok (.iinc 1 1, 3) := by decide +kernel
theorem dX7_init_130 : decode cX7_init 130 = .ok (.goto (-44), 3) := by decide +kernel
theorem dX7_init_133 : decode cX7_init 133 = .ok (.iconst 0, 1) := by decide +kernel
theorem dX7_init_134 : decode cX7_init 134 = .ok (.istore_n 1, 1) := by decide +kernel
theorem dX7_init_135 : decode cX7_init 135 = .ok (.iload_n 1, 1) := by decide +kernel
theorem dX7_init_136 : decode cX7_init 136 = .ok (.bipush 8, 2) := by decide +kernel
theorem dX7_init_138 : decode cX7_init 138 = .ok (.if_icmp .ge 20, 3) := by decide +kernel
theorem dX7_init_141 : decode cX7_init 141 = .ok (.aload_n 0, 1) := by decide +kernel
theorem dX7_init_142 : decode cX7_init 142 = .ok (.getfield 7, 3) := by decide +kernel
theorem dX7_init_145 : decode cX7_init 145 = .ok (.bipush 13, 2) := by decide +kernel
theorem dX7_init_147 : decode cX7_init 147 = .ok (.iload_n 1, 1) := by decide +kernel
theorem dX7_init_148 : decode cX7_init 148 = .ok (.iadd, 1) := by decide +kernel
theorem dX7_init_149 : decode cX7_init 149 = .ok (.bipush (-5), 2) := by decide +kernel
theorem dX7_init_151 : decode cX7_init 151 = .ok (.iastore, 1) := by decide +kernel
theorem dX7_init_152 : decode cX7_init 152 = .ok (.iinc 1 1, 3) := by decide +kernel
theorem dX7_init_155 : decode cX7_init 155 = .ok (.goto (-20), 3) := by decide +kernel
theorem dX7_init_158 : decode cX7_init 158 = .ok (.return_, 1) := by decide +kernel
theorem dX7_in_0 : decode cX7_in 0 = .ok (.iload_n 0, 1) := by decide +kernel
theorem dX7_in_1 : decode cX7_in 1 = .ok (.iload_n 1, 1) := by decide +kernel
theorem dX7_in_2 : decode cX7_in 2 = .ok (.if_icmp .lt 12, 3) := by decide +kernel
theorem dX7_in_5 : decode cX7_in 5 = .ok (.iload_n 0, 1) := by decide +kernel
theorem dX7_in_6 : decode cX7_in 6 = .ok (.iload_n 2, 1) := by decide +kernel
theorem dX7_in_7 : decode cX7_in 7 = .ok (.if_icmp .gt 7, 3) := by decide +kernel
theorem dX7_in_10 : decode cX7_in 10 = .ok (.iconst 1, 1) := by decide +kernel
theorem dX7_in_11 : decode cX7_in 11 = .ok (.goto 4, 3) := by decide +kernel
theorem dX7_in_14 : decode cX7_in 14 = .ok (.iconst 0, 1) := by decide +kernel
theorem dX7_in_15 : decode cX7_in 15 = .ok (.ireturn, 1) := by decide +kernel
theorem dX7_isPort_0 : decode cX7_isPort 0 = .ok (.iload_n 0, 1) := by decide +kernel
theorem dX7_isPort_1 : decode cX7_isPort 1 = .ok (.iconst 0, 1) := by decide +kernel
theorem dX7_isPort_2 : decode cX7_isPort 2 = .ok (.iconst 3, 1) := by decide +kernel
theorem dX7_isPort_3 : decode cX7_isPort 3 = .ok (.invokestatic 38, 3) := by decide +kernel
theorem dX7_isPort_6 : decode cX7_isPort 6 = .ok (.ireturn, 1) := by decide +kernel
theorem dX7_ofMaster_0 : decode cX7_ofMaster 0 = .ok (.bipush 21, 2) := by decide +kernel
theorem dX7_ofMaster_2 : decode cX7_ofMaster 2 = .ok (.bipush 11, 2) := by decide +kernel
theorem dX7_ofMaster_4 : decode cX7_ofMaster 4 = .ok (.iload_n 0, 1) := by decide +kernel
theorem dX7_ofMaster_5 : decode cX7_ofMaster 5 = .ok (.imul, 1) := by decide +kernel
theorem dX7_ofMaster_6 : decode cX7_ofMaster 6 = .ok (.iadd, 1) := by decide +kernel
theorem dX7_ofMaster_7 : decode cX7_ofMaster 7 = .ok (.iload_n 1, 1) := by decide +kernel
theorem dX7_ofMaster_8 : decode cX7_ofMaster 8 = .ok (.iadd, 1) := by decide +kernel
theorem dX7_ofMaster_9 : decode cX7_ofMaster 9 = .ok (.ireturn, 1) := by decide +kernel
theorem dX7_ofTarget_0 : decode cX7_ofTarget 0 = .ok (.bipush 65, 2) := by decide +kernel
theorem dX7_ofTarget_2 : decode cX7_ofTarget 2 = .ok (.bipush 24, 2) := by decide +kernel
theorem dX7_ofTarget_4 : decode cX7_ofTarget 4 = .ok (.iload_n 0, 1) := by decide +kernel
theorem dX7_ofTarget_5 : decode cX7_ofTarget 5 = .ok (.imul, 1) := by decide +kernel
theorem dX7_ofTarget_6 : decode cX7_ofTarget 6 = .ok (.iadd, 1) := by decide +kernel
theorem dX7_ofTarget_7 : decode cX7_ofTarget 7 = .ok (.iload_n 1, 1) := by decide +kernel
theorem dX7_ofTarget_8 : decode cX7_ofTarget 8 = .ok (.iadd, 1) := by decide +kernel
theorem dX7_ofTarget_9 : decode cX7_ofTarget 9 = .ok (.ireturn, 1) := by decide +kernel
theorem dX7_of_0 : decode cX7_of 0 = .ok (.sipush 161, 3) := by decide +kernel
theorem dX7_of_3 : decode cX7_of 3 = .ok (.bipush 11, 2) := by decide +kernel
theorem dX7_of_5 : decode cX7_of 5 = .ok (.iload_n 0, 1) := by decide +kernel
theorem dX7_of_6 : decode cX7_of 6 = .ok (.imul, 1) := by decide +kernel
theorem dX7_of_7 : decode cX7_of 7 = .ok (.iadd, 1) := by decide +kernel
theorem dX7_of_8 : decode cX7_of 8 = .ok (.iload_n 1, 1) := by decide +kernel
theorem dX7_of_9 : decode cX7_of 9 = .ok (.iadd, 1) := by decide +kernel
theorem dX7_of_10 : decode cX7_of 10 = .ok (.ireturn, 1) := by decide +kernel
theorem dX7_know_0 : decode cX7_know 0 = .ok (.aload_n 0, 1) := by decide +kernel
theorem dX7_know_1 : decode cX7_know 1 = .ok (.getfield 42, 3) := by decide +kernel
theorem dX7_know_4 : decode cX7_know 4 = .ok (.iconst 4, 1) := by decide +kernel
theorem dX7_know_5 : decode cX7_know 5 = .ok (.if_icmp .ne 44, 3) := by decide +kernel
theorem dX7_know_8 : decode cX7_know 8 = .ok (.iconst 0, 1) := by decide +kernel
theorem dX7_know_9 : decode cX7_know 9 = .ok (.istore_n 1, 1) := by decide +kernel
theorem dX7_know_10 : decode cX7_know 10 = .ok (.iload_n 1, 1) := by decide +kernel
theorem dX7_know_11 : decode cX7_know 11 = .ok (.sipush 7083, 3) := by decide +kernel
theorem dX7_know_14 : decode cX7_know 14 = .ok (.if_icmp .ge 25, 3) := by decide +kernel
theorem dX7_know_17 : decode cX7_know 17 = .ok (.aload_n 0, 1) := by decide +kernel
theorem dX7_know_18 : decode cX7_know 18 = .ok (.getfield 16, 3) := by decide +kernel
theorem dX7_know_21 : decode cX7_know 21 = .ok (.iload_n 1, 1) := by decide +kernel
theorem dX7_know_22 : decode cX7_know 22 = .ok (.aload_n 0, 1) := by decide +kernel
theorem dX7_know_23 : decode cX7_know 23 = .ok (.getfield 16, 3) := by decide +kernel
theorem dX7_know_26 : decode cX7_know 26 = .ok (.sipush 2361, 3) := by decide +kernel
theorem dX7_know_29 : decode cX7_know 29 = .ok (.iload_n 1, 1) := by decide +kernel
theorem dX7_know_30 : decode cX7_know 30 = .ok (.iadd, 1) := by decide +kernel
theorem dX7_know_31 : decode cX7_know 31 = .ok (.iaload, 1) := by decide +kernel
theorem dX7_know_32 : decode cX7_know 32 = .ok (.iastore, 1) := by decide +kernel
theorem dX7_know_33 : decode cX7_know 33 = .ok (.iinc 1 1, 3) := by decide +kernel
theorem dX7_know_36 : decode cX7_know 36 = .ok (.goto (-26), 3) := by decide +kernel
theorem dX7_know_39 : decode cX7_know 39 = .ok (.aload_n 0, 1) := by decide +kernel
theorem dX7_know_40 : decode cX7_know 40 = .ok (.dup, 1) := by decide +kernel
theorem dX7_know_41 : decode cX7_know 41 = .ok (.getfield 42, 3) := by decide +kernel
theorem dX7_know_44 : decode cX7_know 44 = .ok (.iconst 1, 1) := by decide +kernel
theorem dX7_know_45 : decode cX7_know 45 = .ok (.isub, 1) := by decide +kernel
theorem dX7_know_46 : decode cX7_know 46 = .ok (.putfield 42, 3) := by decide +kernel
theorem dX7_know_49 : decode cX7_know 49 = .ok (.iconst 0, 1) := by decide +kernel
theorem dX7_know_50 : decode cX7_know 50 = .ok (.istore_n 1, 1) := by decide +kernel
theorem dX7_know_51 : decode cX7_know 51 = .ok (.iload_n 1, 1) := by decide +kernel
theorem dX7_know_52 : decode cX7_know 52 = .ok (.sipush 2361, 3) := by decide +kernel
theorem dX7_know_55 : decode cX7_know 55 = .ok (.if_icmp .ge 30, 3) := by decide +kernel
theorem dX7_know_58 : decode cX7_know 58 = .ok (.aload_n 0, 1) := by decide +kernel
theorem dX7_know_59 : decode cX7_know 59 = .ok (.getfield 16, 3) := by decide +kernel
theorem dX7_know_62 : decode cX7_know 62 = .ok (.sipush 2361, 3) := by decide +kernel
theorem dX7_know_65 : decode cX7_know 65 = .ok (.aload_n 0, 1) := by decide +kernel
theorem dX7_know_66 : decode cX7_know 66 = .ok (.getfield 42, 3) := by decide +kernel
theorem dX7_know_69 : decode cX7_know 69 = .ok (.imul, 1) := by decide +kernel
theorem dX7_know_70 : decode cX7_know 70 = .ok (.iload_n 1, 1) := by decide +kernel
theorem dX7_know_71 : decode cX7_know 71 = .ok (.iadd, 1) := by decide +kernel
theorem dX7_know_72 : decode cX7_know 72 = .ok (.aload_n 0, 1) := by decide +kernel
theorem dX7_know_73 : decode cX7_know 73 = .ok (.getfield 7, 3) := by decide +kernel
theorem dX7_know_76 : decode cX7_know 76 = .ok (.iload_n 1, 1) := by decide +kernel
theorem dX7_know_77 : decode cX7_know 77 = .ok (.iaload, 1) := by decide +kernel
theorem dX7_know_78 : decode cX7_know 78 = .ok (.iastore, 1) := by decide +kernel
theorem dX7_know_79 : decode cX7_know 79 = .ok (.iinc 1 1, 3) := by decide +kernel
theorem dX7_know_82 : decode cX7_know 82 = .ok (.goto (-31), 3) := by decide +kernel
theorem dX7_know_85 : decode cX7_know 85 = .ok (.aload_n 0, 1) := by decide +kernel
theorem dX7_know_86 : decode cX7_know 86 = .ok (.dup, 1) := by decide +kernel
theorem dX7_know_87 : decode cX7_know 87 = .ok (.getfield 42, 3) := by decide +kernel
theorem dX7_know_90 : decode cX7_know 90 = .ok (.iconst 1, 1) := by decide +kernel
theorem dX7_know_91 : decode cX7_know 91 = .ok (.iadd, 1) := by decide +kernel
theorem dX7_know_92 : decode cX7_know 92 = .ok (.putfield 42, 3) := by decide +kernel
theorem dX7_know_95 : decode cX7_know 95 = .ok (.return_, 1) := by decide +kernel
theorem dX7_change_0 : decode cX7_change 0 = .ok (.aload_n 0, 1) := by decide +kernel
theorem dX7_change_1 : decode cX7_change 1 = .ok (.getfield 7, 3) := by decide +kernel
theorem dX7_change_4 : decode cX7_change 4 = .ok (.iload_n 1, 1) := by decide +kernel
theorem dX7_change_5 : decode cX7_change 5 = .ok (.iaload, 1) := by decide +kernel
theorem dX7_change_6 : decode cX7_change 6 = .ok (.istore_n 3, 1) := by decide +kernel
theorem dX7_change_7 : decode cX7_change 7 = .ok (.iload_n 3, 1) := by decide +kernel
theorem dX7_change_8 : decode cX7_change 8 = .ok (.iload_n 2, 1) := by decide +kernel
theorem dX7_change_9 : decode cX7_change 9 = .ok (.if_icmp .ne 6, 3) := by decide +kernel
theorem dX7_change_12 : decode cX7_change 12 = .ok (.bipush (-5), 2) := by decide +kernel
theorem dX7_change_14 : decode cX7_change 14 = .ok (.ireturn, 1) := by decide +kernel
theorem dX7_change_15 : decode cX7_change 15 = .ok (.aload_n 0, 1) := by decide +kernel
theorem dX7_change_16 : decode cX7_change 16 = .ok (.invokevirtual 46, 3) := by decide +kernel
theorem dX7_change_19 : decode cX7_change 19 = .ok (.aload_n 0, 1) := by decide +kernel
theorem dX7_change_20 : decode cX7_change 20 = .ok (.getfield 7, 3) := by decide +kernel
theorem dX7_change_23 : decode cX7_change 23 = .ok (.iload_n 1, 1) := by decide +kernel
theorem dX7_change_24 : decode cX7_change 24 = .ok (.iload_n 2, 1) := by decide +kernel
theorem dX7_change_25 : decode cX7_change 25 = .ok (.iastore, 1) := by decide +kernel
theorem dX7_change_26 : decode cX7_change 26 = .ok (.iload_n 3, 1) := by decide +kernel
theorem dX7_change_27 : decode cX7_change 27 = .ok (.ireturn, 1) := by decide +kernel
theorem dX7_isLentFrom_0 : decode cX7_isLentFrom 0 = .ok (.iconst 0, 1) := by decide +kernel
theorem dX7_isLentFrom_1 : decode cX7_isLentFrom 1 = .ok (.istore_n 2, 1) := by decide +kernel
theorem dX7_isLentFrom_2 : decode cX7_isLentFrom 2 = .ok (.iload_n 1, 1) := by decide +kernel
theorem dX7_isLentFrom_3 : decode cX7_isLentFrom 3 = .ok (.istore_n 3, 1) := by decide +kernel
theorem dX7_isLentFrom_4 : decode cX7_isLentFrom 4 = .ok (.iload_n 3, 1) := by decide +kernel
theorem dX7_isLentFrom_5 : decode cX7_isLentFrom 5 = .ok (.aload_n 0, 1) := by decide +kernel
theorem dX7_isLentFrom_6 : decode cX7_isLentFrom 6 = .ok (.getfield 7, 3) := by decide +kernel
theorem dX7_isLentFrom_9 : decode cX7_isLentFrom 9 = .ok (.iconst 1, 1) := by decide +kernel
theorem dX7_isLentFrom_10 : decode cX7_isLentFrom 10 = .ok (.iaload, 1) := by decide +kernel
theorem dX7_isLentFrom_11 : decode cX7_isLentFrom 11 = .ok (.if_icmp .ge 33, 3) := by decide +kernel
theorem dX7_isLentFrom_14 : decode cX7_isLentFrom 14 = .ok (.iload_n 2, 1) := by decide +kernel
theorem dX7_isLentFrom_15 : decode cX7_isLentFrom 15 = .ok (.ifCond .ne 17, 3) := by decide +kernel
theorem dX7_isLentFrom_18 : decode cX7_isLentFrom 18 = .ok (.aload_n 0, 1) := by decide +kernel
theorem dX7_isLentFrom_19 : decode cX7_isLentFrom 19 = .ok (.getfield 7, 3) := by decide +kernel
theorem dX7_isLentFrom_22 : decode cX7_isLentFrom 22 = .ok (.bipush 13, 2) := by decide +kernel
theorem dX7_isLentFrom_24 : decode cX7_isLentFrom 24 = .ok (.iload_n 3, 1) := by decide +kernel
theorem dX7_isLentFrom_25 : decode cX7_isLentFrom 25 = .ok (.iadd, 1) := by decide +kernel
theorem dX7_isLentFrom_26 : decode cX7_isLentFrom 26 = .ok (.iaload, 1) := by decide +kernel
theorem dX7_isLentFrom_27 : decode cX7_isLentFrom 27 = .ok (.bipush (-5), 2) := by decide +kernel
theorem dX7_isLentFrom_29 : decode cX7_isLentFrom 29 = .ok (.if_icmp .eq 7, 3) := by decide +kernel
theorem dX7_isLentFrom_32 : decode cX7_isLentFrom 32 = .ok (.iconst 1, 1) := by decide +kernel
theorem dX7_isLentFrom_33 : decode cX7_isLentFrom 33 = .ok (.goto 4, 3) := by decide +kernel
theorem dX7_isLentFrom_36 : decode cX7_isLentFrom 36 = .ok (.iconst 0, 1) := by decide +kernel
theorem dX7_isLentFrom_37 : decode cX7_isLentFrom 37 = .ok (.istore_n 2, 1) := by decide +kernel
theorem dX7_isLentFrom_38 : decode cX7_isLentFrom 38 = .ok (.iinc 3 1, 3) := by decide +kernel
theorem dX7_isLentFrom_41 : decode cX7_isLentFrom 41 = .ok (.goto (-37), 3) := by decide +kernel
theorem dX7_isLentFrom_44 : decode cX7_isLentFrom 44 = .ok (.iload_n 2, 1) := by decide +kernel
theorem dX7_isLentFrom_45 : decode cX7_isLentFrom 45 = .ok (.ireturn, 1) := by decide +kernel
theorem dX7_set_0 : decode cX7_set 0 = .ok (.iload_n 1, 1) := by decide +kernel
theorem dX7_set_1 : decode cX7_set 1 = .ok (.iconst 0, 1) := by decide +kernel
theorem dX7_set_2 : decode cX7_set 2 = .ok (.iconst 2, 1) := by decide +kernel
theorem dX7_set_3 : decode cX7_set 3 = .ok (.invokestatic 38, 3) := by decide +kernel
theorem dX7_set_6 : decode cX7_set 6 = .ok (.ifCond .eq 40, 3) := by decide +kernel
theorem dX7_set_9 : decode cX7_set 9 = .ok (.iload_n 2, 1) := by decide +kernel
theorem dX7_set_10 : decode cX7_set 10 = .ok (.iload_n 1, 1) := by decide +kernel
theorem dX7_set_11 : decode cX7_set 11 = .ok (.iconst 1, 1) := by decide +kernel
theorem dX7_set_12 : decode cX7_set 12 = .ok (.if_icmp .ne 7, 3) := by decide +kernel
theorem dX7_set_15 : decode cX7_set 15 = .ok (.iconst 0, 1) := by decide +kernel
theorem dX7_set_16 : decode cX7_set 16 = .ok (.goto 4, 3) := by decide +kernel
theorem dX7_set_19 : decode cX7_set 19 = .ok (.iconst 1, 1) := by decide +kernel
theorem dX7_set_20 : decode cX7_set 20 = .ok (.iload_n 1, 1) := by decide +kernel
theorem dX7_set_21 : decode cX7_set 21 = .ok (.ifCond .ne 8, 3) := by decide +kernel
theorem dX7_set_24 : decode cX7_set 24 = .ok (.bipush 8, 2) := by decide +kernel
theorem dX7_set_26 : decode cX7_set 26 = .ok (.goto 14, 3) := by decide +kernel
theorem dX7_set_29 : decode cX7_set 29 = .ok (.iload_n 1, 1) := by decide +kernel
theorem dX7_set_30 : decode cX7_set 30 = .ok (.iconst 1, 1) := by decide +kernel
theorem dX7_set_31 : decode cX7_set 31 = .ok (.if_icmp .ne 7, 3) := by decide +kernel
theorem dX7_set_34 : decode cX7_set 34 = .ok (.iconst 2, 1) := by decide +kernel
theorem dX7_set_35 : decode cX7_set 35 = .ok (.goto 5, 3) := by decide +kernel
theorem dX7_set_38 : decode cX7_set 38 = .ok (.bipush 50, 2) := by decide +kernel
theorem dX7_set_40 : decode cX7_set 40 = .ok (.invokestatic 38, 3) := by decide +kernel
theorem dX7_set_43 : decode cX7_set 43 = .ok (.ifCond .ne 6, 3) := by decide +kernel
theorem dX7_set_46 : decode cX7_set 46 = .ok (.bipush (-2), 2) := by decide +kernel
theorem dX7_set_48 : decode cX7_set 48 = .ok (.ireturn, 1) := by decide +kernel
theorem dX7_set_49 : decode cX7_set 49 = .ok (.iload_n 1, 1) := by decide +kernel
theorem dX7_set_50 : decode cX7_set 50 = .ok (.ifCond .ne 14, 3) := by decide +kernel
theorem dX7_set_53 : decode cX7_set 53 = .ok (.aload_n 0, 1) := by decide +kernel
theorem dX7_set_54 : decode cX7_set 54 = .ok (.iload_n 2, 1) := by decide +kernel
theorem dX7_set_55 : decode cX7_set 55 = .ok (.invokevirtual 49, 3) := by decide +kernel
theorem dX7_set_58 : decode cX7_set 58 = .ok (.ifCond .eq 6, 3) := by decide +kernel
theorem dX7_set_61 : decode cX7_set 61 = .ok (.bipush (-4), 2) := by decide +kernel
theorem dX7_set_63 : decode cX7_set 63 = .ok (.ireturn, 1) := by decide +kernel
theorem dX7_set_64 : decode cX7_set 64 = .ok (.aload_n 0, 1) := by decide +kernel
theorem dX7_set_65 : decode cX7_set 65 = .ok (.iconst 1, 1) := by decide +kernel
theorem dX7_set_66 : decode cX7_set 66 = .ok (.iload_n 1, 1) := by decide +kernel
theorem dX7_set_67 : decode cX7_set 67 = .ok (.iadd, 1) := by decide +kernel
theorem dX7_set_68 : decode cX7_set 68 = .ok (.iload_n 2, 1) := by decide +kernel
theorem dX7_set_69 : decode cX7_set 69 = .ok (.invokevirtual 53, 3) := by decide +kernel
theorem dX7_set_72 : decode cX7_set 72 = .ok (.ireturn, 1) := by decide +kernel
theorem dX7_setShare_0 : decode cX7_setShare 0 = .ok (.iload_n 1, 1) := by decide +kernel
theorem dX7_setShare_1 : decode cX7_setShare 1 = .ok (.invokestatic 56, 3) := by decide +kernel
theorem dX7_setShare_4 : decode cX7_setShare 4 = .ok (.ifCond .ne 5, 3) := by decide +kernel
theorem dX7_setShare_7 : decode cX7_setShare 7 = .ok (.iconst (-1), 1) := by decide +kernel
theorem dX7_setShare_8 : decode cX7_setShare 8 = .ok (.ireturn, 1) := by decide +kernel
theorem dX7_setShare_9 : decode cX7_setShare 9 = .ok (.iload_n 2, 1) := by decide +kernel
theorem dX7_setShare_10 : decode cX7_setShare 10 = .ok (.iconst 1, 1) := by decide +kernel
theorem dX7_setShare_11 : decode cX7_setShare 11 = .ok (.bipush 8, 2) := by decide +kernel
theorem dX7_setShare_13 : decode cX7_setShare 13 = .ok (.invokestatic 38, 3) := by decide +kernel
theorem dX7_setShare_16 : decode cX7_setShare 16 = .ok (.ifCond .eq 17, 3) := by decide +kernel
theorem dX7_setShare_19 : decode cX7_setShare 19 = .ok (.aload_n 0, 1) := by decide +kernel
theorem dX7_setShare_20 : decode cX7_setShare 20 = .ok (.iload_n 1, 1) := by decide +kernel
theorem dX7_setShare_21 : decode cX7_setShare 21 = .ok (.bipush 7, 2) := by decide +kernel
theorem dX7_setShare_23 : decode cX7_setShare 23 = .ok (.invokestatic 31, 3) := by decide +kernel
theorem dX7_setShare_26 : decode cX7_setShare 26 = .ok (.iload_n 2, 1) := by decide +kernel
theorem dX7_setShare_27 : decode cX7_setShare 27 = .ok (.invokevirtual 53, 3) := by decide +kernel
theorem dX7_setShare_30 : decode cX7_setShare 30 = .ok (.goto 5, 3) := by decide +kernel
theorem dX7_setShare_33 : decode cX7_setShare 33 = .ok (.bipush (-2), 2) := by decide +kernel
theorem dX7_setShare_35 : decode cX7_setShare 35 = .ok (.ireturn, 1) := by decide +kernel
theorem dX7_setTarget_0 : decode cX7_setTarget 0 = .ok (.iload_n 1, 1) := by decide +kernel
theorem dX7_setTarget_1 : decode cX7_setTarget 1 = .ok (.invokestatic 56, 3) := by decide +kernel
theorem dX7_setTarget_4 : decode cX7_setTarget 4 = .ok (.ifCond .ne 5, 3) := by decide +kernel
theorem dX7_setTarget_7 : decode cX7_setTarget 7 = .ok (.iconst (-1), 1) := by decide +kernel
theorem dX7_setTarget_8 : decode cX7_setTarget 8 = .ok (.ireturn, 1) := by decide +kernel
theorem dX7_setTarget_9 : decode cX7_setTarget 9 = .ok (.iload_n 2, 1) := by decide +kernel
theorem dX7_setTarget_10 : decode cX7_setTarget 10 = .ok (.iconst 0, 1) := by decide +kernel
theorem dX7_setTarget_11 : decode cX7_setTarget 11 = .ok (.iconst 2, 1) := by decide +kernel
theorem dX7_setTarget_12 : decode cX7_setTarget 12 = .ok (.invokestatic 38, 3) := by decide +kernel
theorem dX7_setTarget_15 : decode cX7_setTarget 15 = .ok (.ifCond .eq 39, 3) := by decide +kernel
theorem dX7_setTarget_18 : decode cX7_setTarget 18 = .ok (.iload_n 3, 1) := by decide +kernel
theorem dX7_setTarget_19 : decode cX7_setTarget 19 = .ok (.iload_n 2, 1) := by decide +kernel
theorem dX7_setTarget_20 : decode cX7_setTarget 20 = .ok (.iconst 2, 1) := by decide +kernel
theorem dX7_setTarget_21 : decode cX7_setTarget 21 = .ok (.if_icmp .ne 7, 3) := by decide +kernel
theorem dX7_setTarget_24 : decode cX7_setTarget 24 = .ok (.iconst 0, 1) := by decide +kernel
theorem dX7_setTarget_25 : decode cX7_setTarget 25 = .ok (.goto 4, 3) := by decide +kernel
theorem dX7_setTarget_28 : decode cX7_setTarget 28 = .ok (.iconst 1, 1) := by decide +kernel
theorem dX7_setTarget_29 : decode cX7_setTarget 29 = .ok (.iload_n 2, 1) := by decide +kernel
theorem dX7_setTarget_30 : decode cX7_setTarget 30 = .ok (.ifCond .ne 7, 3) := by decide +kernel
theorem dX7_setTarget_33 : decode cX7_setTarget 33 = .ok (.iconst 4, 1) := by decide +kernel
theorem dX7_setTarget_34 : decode cX7_setTarget 34 = .ok (.goto 14, 3) := by decide +kernel
theorem dX7_setTarget_37 : decode cX7_setTarget 37 = .ok (.iload_n 2, 1) := by decide +kernel
theorem dX7_setTarget_38 : decode cX7_setTarget 38 = .ok (.iconst 1, 1) := by decide +kernel
theorem dX7_setTarget_39 : decode cX7_setTarget 39 = .ok (.if_icmp .ne 8, 3) := by decide +kernel
theorem dX7_setTarget_42 : decode cX7_setTarget 42 = .ok (.bipush 9, 2) := by decide +kernel
theorem dX7_setTarget_44 : decode cX7_setTarget 44 = .ok (.goto 4, 3) := by decide +kernel
theorem dX7_setTarget_47 : decode cX7_setTarget 47 = .ok (.iconst 1, 1) := by decide +kernel
theorem dX7_setTarget_48 : decode cX7_setTarget 48 = .ok (.invokestatic 38, 3) := by decide +kernel
theorem dX7_setTarget_51 : decode cX7_setTarget 51 = .ok (.ifCond .ne 6, 3) := by decide +kernel
theorem dX7_setTarget_54 : decode cX7_setTarget 54 = .ok (.bipush (-2), 2) := by decide +kernel
theorem dX7_setTarget_56 : decode cX7_setTarget 56 = .ok (.ireturn, 1) := by decide +kernel
theorem dX7_setTarget_57 : decode cX7_setTarget 57 = .ok (.aload_n 0, 1) := by decide +kernel
theorem dX7_setTarget_58 : decode cX7_setTarget 58 = .ok (.iload_n 1, 1) := by decide +kernel
theorem dX7_setTarget_59 : decode cX7_setTarget 59 = .ok (.bipush 16, 2) := by decide +kernel
theorem dX7_setTarget_61 : decode cX7_setTarget 61 = .ok (.iload_n 2, 1) := by decide +kernel
theorem dX7_setTarget_62 : decode cX7_setTarget 62 = .ok (.iadd, 1) := by decide +kernel
theorem dX7_setTarget_63 : decode cX7_setTarget 63 = .ok (.invokestatic 35, 3) := by decide +kernel
theorem dX7_setTarget_66 : decode cX7_setTarget 66 = .ok (.iload_n 3, 1) := by decide +kernel
theorem dX7_setTarget_67 : decode cX7_setTarget 67 = .ok (.invokevirtual 53, 3) := by decide +kernel
theorem dX7_setTarget_70 : decode cX7_setTarget 70 = .ok (.ireturn, 1) := by decide +kernel
theorem dX7_setCell_0 : decode cX7_setCell 0 = .ok (.iload_n 1, 1) := by decide +kernel
theorem dX7_setCell_1 : decode cX7_setCell 1 = .ok (.invokestatic 56, 3) := by decide +kernel
theorem dX7_setCell_4 : decode cX7_setCell 4 = .ok (.ifCond .ne 5, 3) := by decide +kernel
theorem dX7_setCell_7 : decode cX7_setCell 7 = .ok (.iconst (-1), 1) := by decide +kernel
theorem dX7_setCell_8 : decode cX7_setCell 8 = .ok (.ireturn, 1) := by decide +kernel
theorem dX7_setCell_9 : decode cX7_setCell 9 = .ok (.iload_n 2, 1) := by decide +kernel
theorem dX7_setCell_10 : decode cX7_setCell 10 = .ok (.iconst 0, 1) := by decide +kernel
theorem dX7_setCell_11 : decode cX7_setCell 11 = .ok (.bipush 15, 2) := by decide +kernel
theorem dX7_setCell_13 : decode cX7_setCell 13 = .ok (.invokestatic 38, 3) := by decide +kernel
theorem dX7_setCell_16 : decode cX7_setCell 16 = .ok (.ifCond .eq 26, 3) := by decide +kernel
theorem dX7_setCell_19 : decode cX7_setCell 19 = .ok (.iload_n 3, 1) := by decide +kernel
theorem dX7_setCell_20 : decode cX7_setCell 20 = .ok (.iconst 0, 1) := by decide +kernel
theorem dX7_setCell_21 : decode cX7_setCell 21 = .ok (.bipush 99, 2) := by decide +kernel
theorem dX7_setCell_23 : decode cX7_setCell 23 = .ok (.invokestatic 38, 3) := by decide +kernel
theorem dX7_setCell_26 : decode cX7_setCell 26 = .ok (.ifCond .eq 16, 3) := by decide +kernel
theorem dX7_setCell_29 : decode cX7_setCell 29 = .ok (.aload_n 0, 1) := by decide +kernel
theorem dX7_setCell_30 : decode cX7_setCell 30 = .ok (.iload_n 1, 1) := by decide +kernel
theorem dX7_setCell_31 : decode cX7_setCell 31 = .ok (.iload_n 2, 1) := by decide +kernel
theorem dX7_setCell_32 : decode cX7_setCell 32 = .ok (.invokestatic 35, 3) := by decide +kernel
theorem dX7_setCell_35 : decode cX7_setCell 35 = .ok (.iload_n 3, 1) := by decide +kernel
theorem dX7_setCell_36 : decode cX7_setCell 36 = .ok (.invokevirtual 53, 3) := by decide +kernel
theorem dX7_setCell_39 : decode cX7_setCell 39 = .ok (.goto 5, 3) := by decide +kernel
theorem dX7_setCell_42 : decode cX7_setCell 42 = .ok (.bipush (-2), 2) := by decide +kernel
theorem dX7_setCell_44 : decode cX7_setCell 44 = .ok (.ireturn, 1) := by decide +kernel
theorem dX7_isRoom_0 : decode cX7_isRoom 0 = .ok (.aload_n 0, 1) := by decide +kernel
theorem dX7_isRoom_1 : decode cX7_isRoom 1 = .ok (.getfield 7, 3) := by decide +kernel
theorem dX7_isRoom_4 : decode cX7_isRoom 4 = .ok (.iload_n 1, 1) := by decide +kernel
theorem dX7_isRoom_5 : decode cX7_isRoom 5 = .ok (.iconst 0, 1) := by decide +kernel
theorem dX7_isRoom_6 : decode cX7_isRoom 6 = .ok (.invokestatic 31, 3) := by decide +kernel
theorem dX7_isRoom_9 : decode cX7_isRoom 9 = .ok (.iaload, 1) := by decide +kernel
theorem dX7_isRoom_10 : decode cX7_isRoom 10 = .ok (.bipush 6, 2) := by decide +kernel
theorem dX7_isRoom_12 : decode cX7_isRoom 12 = .ok (.if_icmp .ge 19, 3) := by decide +kernel
theorem dX7_isRoom_15 : decode cX7_isRoom 15 = .ok (.aload_n 0, 1) := by decide +kernel
theorem dX7_isRoom_16 : decode cX7_isRoom 16 = .ok (.getfield 7, 3) := by decide +kernel
theorem dX7_isRoom_19 : decode cX7_isRoom 19 = .ok (.iconst 4, 1) := by decide +kernel
theorem dX7_isRoom_20 : decode cX7_isRoom 20 = .ok (.iaload, 1) := by decide +kernel
theorem dX7_isRoom_21 : decode cX7_isRoom 21 = .ok (.sipush 200, 3) := by decide +kernel
theorem dX7_isRoom_24 : decode cX7_isRoom 24 = .ok (.if_icmp .ge 7, 3) := by decide +kernel
theorem dX7_isRoom_27 : decode cX7_isRoom 27 = .ok (.iconst 1, 1) := by decide +kernel
theorem dX7_isRoom_28 : decode cX7_isRoom 28 = .ok (.goto 4, 3) := by decide +kernel
theorem dX7_isRoom_31 : decode cX7_isRoom 31 = .ok (.iconst 0, 1) := by decide +kernel
theorem dX7_isRoom_32 : decode cX7_isRoom 32 = .ok (.ireturn, 1) := by decide +kernel
theorem dX7_put_0 : decode cX7_put 0 = .ok (.aload_n 0, 1) := by decide +kernel
theorem dX7_put_1 : decode cX7_put 1 = .ok (.getfield 7, 3) := by decide +kernel
theorem dX7_put_4 : decode cX7_put 4 = .ok (.iconst 4, 1) := by decide +kernel
theorem dX7_put_5 : decode cX7_put 5 = .ok (.iaload, 1) := by decide +kernel
theorem dX7_put_6 : decode cX7_put 6 = .ok (.istore 5, 2) := by decide +kernel
theorem dX7_put_8 : decode cX7_put 8 = .ok (.aload_n 0, 1) := by decide +kernel
theorem dX7_put_9 : decode cX7_put 9 = .ok (.getfield 7, 3) := by decide +kernel
theorem dX7_put_12 : decode cX7_put 12 = .ok (.iload 5, 2) := by decide +kernel
theorem dX7_put_14 : decode cX7_put 14 = .ok (.iconst 0, 1) := by decide +kernel
theorem dX7_put_15 : decode cX7_put 15 = .ok (.invokestatic 59, 3) := by decide +kernel
theorem dX7_put_18 : decode cX7_put 18 = .ok (.iload_n 1, 1) := by decide +kernel
theorem dX7_put_19 : decode cX7_put 19 = .ok (.iastore, 1) := by decide +kernel
theorem dX7_put_20 : decode cX7_put 20 = .ok (.aload_n 0, 1) := by decide +kernel
theorem dX7_put_21 : decode cX7_put 21 = .ok (.getfield 7, 3) := by decide +kernel
theorem dX7_put_24 : decode cX7_put 24 = .ok (.iload 5, 2) := by decide +kernel
theorem dX7_put_26 : decode cX7_put 26 = .ok (.iconst 1, 1) := by decide +kernel
theorem dX7_put_27 : decode cX7_put 27 = .ok (.invokestatic 59, 3) := by decide +kernel
theorem dX7_put_30 : decode cX7_put 30 = .ok (.iload_n 2, 1) := by decide +kernel
theorem dX7_put_31 : decode cX7_put 31 = .ok (.iastore, 1) := by decide +kernel
theorem dX7_put_32 : decode cX7_put 32 = .ok (.aload_n 0, 1) := by decide +kernel
theorem dX7_put_33 : decode cX7_put 33 = .ok (.getfield 7, 3) := by decide +kernel
theorem dX7_put_36 : decode cX7_put 36 = .ok (.iload 5, 2) := by decide +kernel
theorem dX7_put_38 : decode cX7_put 38 = .ok (.iconst 2, 1) := by decide +kernel
theorem dX7_put_39 : decode cX7_put 39 = .ok (.invokestatic 59, 3) := by decide +kernel
theorem dX7_put_42 : decode cX7_put 42 = .ok (.iload_n 3, 1) := by decide +kernel
theorem dX7_put_43 : decode cX7_put 43 = .ok (.iastore, 1) := by decide +kernel
theorem dX7_put_44 : decode cX7_put 44 = .ok (.aload_n 0, 1) := by decide +kernel
theorem dX7_put_45 : decode cX7_put 45 = .ok (.getfield 7, 3) := by decide +kernel
theorem dX7_put_48 : decode cX7_put 48 = .ok (.iload 5, 2) := by decide +kernel
theorem dX7_put_50 : decode cX7_put 50 = .ok (.iconst 3, 1) := by decide +kernel
theorem dX7_put_51 : decode cX7_put 51 = .ok (.invokestatic 59, 3) := by decide +kernel
theorem dX7_put_54 : decode cX7_put 54 = .ok (.iload 4, 2) := by decide +kernel
theorem dX7_put_56 : decode cX7_put 56 = .ok (.iastore, 1) := by decide +kernel
theorem dX7_put_57 : decode cX7_put 57 = .ok (.aload_n 0, 1) := by decide +kernel
theorem dX7_put_58 : decode cX7_put 58 = .ok (.getfield 7, 3) := by decide +kernel
theorem dX7_put_61 : decode cX7_put 61 = .ok (.iload 5, 2) := by decide +kernel
theorem dX7_put_63 : decode cX7_put 63 = .ok (.iconst 4, 1) := by decide +kernel
theorem dX7_put_64 : decode cX7_put 64 = .ok (.invokestatic 59, 3) := by decide +kernel
theorem dX7_put_67 : decode cX7_put 67 = .ok (.iconst 0, 1) := by decide +kernel
theorem dX7_put_68 : decode cX7_put 68 = .ok (.iastore, 1) := by decide +kernel
theorem dX7_put_69 : decode cX7_put 69 = .ok (.aload_n 0, 1) := by decide +kernel
theorem dX7_put_70 : decode cX7_put 70 = .ok (.getfield 7, 3) := by decide +kernel
theorem dX7_put_73 : decode cX7_put 73 = .ok (.iload 5, 2) := by decide +kernel
theorem dX7_put_75 : decode cX7_put 75 = .ok (.iconst 5, 1) := by decide +kernel
theorem dX7_put_76 : decode cX7_put 76 = .ok (.invokestatic 59, 3) := by decide +kernel
theorem dX7_put_79 : decode cX7_put 79 = .ok (.bipush (-5), 2) := by decide +kernel
theorem dX7_put_81 : decode cX7_put 81 = .ok (.iastore, 1) := by decide +kernel
theorem dX7_put_82 : decode cX7_put 82 = .ok (.aload_n 0, 1) := by decide +kernel
theorem dX7_put_83 : decode cX7_put 83 = .ok (.getfield 7, 3) := by decide +kernel
theorem dX7_put_86 : decode cX7_put 86 = .ok (.iload 5, 2) := by decide +kernel
theorem dX7_put_88 : decode cX7_put 88 = .ok (.bipush 6, 2) := by decide +kernel
theorem dX7_put_90 : decode cX7_put 90 = .ok (.invokestatic 59, 3) := by decide +kernel
theorem dX7_put_93 : decode cX7_put 93 = .ok (.bipush (-5), 2) := by decide +kernel
theorem dX7_put_95 : decode cX7_put 95 = .ok (.iastore, 1) := by decide +kernel
theorem dX7_put_96 : decode cX7_put 96 = .ok (.aload_n 0, 1) := by decide +kernel
theorem dX7_put_97 : decode cX7_put 97 = .ok (.getfield 7, 3) := by decide +kernel
theorem dX7_put_100 : decode cX7_put 100 = .ok (.iload 5, 2) := by decide +kernel
theorem dX7_put_102 : decode cX7_put 102 = .ok (.bipush 7, 2) := by decide +kernel
theorem dX7_put_104 : decode cX7_put 104 = .ok (.invokestatic 59, 3) := by decide +kernel
theorem dX7_put_107 : decode cX7_put 107 = .ok (.aload_n 0, 1) := by decide +kernel
theorem dX7_put_108 : decode cX7_put 108 = .ok (.getfield 7, 3) := by decide +kernel
theorem dX7_put_111 : decode cX7_put 111 = .ok (.iconst 0, 1) := by decide +kernel
theorem dX7_put_112 : decode cX7_put 112 = .ok (.iaload, 1) := by decide +kernel
theorem dX7_put_113 : decode cX7_put 113 = .ok (.iastore, 1) := by decide +kernel
theorem dX7_put_114 : decode cX7_put 114 = .ok (.aload_n 0, 1) := by decide +kernel
theorem dX7_put_115 : decode cX7_put 115 = .ok (.getfield 7, 3) := by decide +kernel
theorem dX7_put_118 : decode cX7_put 118 = .ok (.iload 5, 2) := by decide +kernel
theorem dX7_put_120 : decode cX7_put 120 = .ok (.bipush 8, 2) := by decide +kernel
theorem dX7_put_122 : decode cX7_put 122 = .ok (.invokestatic 59, 3) := by decide +kernel
theorem dX7_put_125 : decode cX7_put 125 = .ok (.bipush (-5), 2) := by decide +kernel
theorem dX7_put_127 : decode cX7_put 127 = .ok (.iastore, 1) := by decide +kernel
theorem dX7_put_128 : decode cX7_put 128 = .ok (.aload_n 0, 1) := by decide +kernel
theorem dX7_put_129 : decode cX7_put 129 = .ok (.getfield 7, 3) := by decide +kernel
theorem dX7_put_132 : decode cX7_put 132 = .ok (.iload 5, 2) := by decide +kernel
theorem dX7_put_134 : decode cX7_put 134 = .ok (.bipush 9, 2) := by decide +kernel
theorem dX7_put_136 : decode cX7_put 136 = .ok (.invokestatic 59, 3) := by decide +kernel
theorem dX7_put_139 : decode cX7_put 139 = .ok (.iconst 0, 1) := by decide +kernel
theorem dX7_put_140 : decode cX7_put 140 = .ok (.iastore, 1) := by decide +kernel
theorem dX7_put_141 : decode cX7_put 141 = .ok (.aload_n 0, 1) := by decide +kernel
theorem dX7_put_142 : decode cX7_put 142 = .ok (.getfield 7, 3) := by decide +kernel
theorem dX7_put_145 : decode cX7_put 145 = .ok (.iload 5, 2) := by decide +kernel
theorem dX7_put_147 : decode cX7_put 147 = .ok (.bipush 10, 2) := by decide +kernel
theorem dX7_put_149 : decode cX7_put 149 = .ok (.invokestatic 59, 3) := by decide +kernel
theorem dX7_put_152 : decode cX7_put 152 = .ok (.iconst 0, 1) := by decide +kernel
theorem dX7_put_153 : decode cX7_put 153 = .ok (.iastore, 1) := by decide +kernel
theorem dX7_put_154 : decode cX7_put 154 = .ok (.aload_n 0, 1) := by decide +kernel
theorem dX7_put_155 : decode cX7_put 155 = .ok (.getfield 7, 3) := by decide +kernel
theorem dX7_put_158 : decode cX7_put 158 = .ok (.iload_n 1, 1) := by decide +kernel
theorem dX7_put_159 : decode cX7_put 159 = .ok (.iconst 1, 1) := by decide +kernel
theorem dX7_put_160 : decode cX7_put 160 = .ok (.aload_n 0, 1) := by decide +kernel
theorem dX7_put_161 : decode cX7_put 161 = .ok (.getfield 7, 3) := by decide +kernel
theorem dX7_put_164 : decode cX7_put 164 = .ok (.iload_n 1, 1) := by decide +kernel
theorem dX7_put_165 : decode cX7_put 165 = .ok (.iconst 0, 1) := by decide +kernel
theorem dX7_put_166 : decode cX7_put 166 = .ok (.invokestatic 31, 3) := by decide +kernel
theorem dX7_put_169 : decode cX7_put 169 = .ok (.iaload, 1) := by decide +kernel
theorem dX7_put_170 : decode cX7_put 170 = .ok (.iadd, 1) := by decide +kernel
theorem dX7_put_171 : decode cX7_put 171 = .ok (.invokestatic 31, 3) := by decide +kernel
theorem dX7_put_174 : decode cX7_put 174 = .ok (.iload 5, 2) := by decide +kernel
theorem dX7_put_176 : decode cX7_put 176 = .ok (.iastore, 1) := by decide +kernel
theorem dX7_put_177 : decode cX7_put 177 = .ok (.aload_n 0, 1) := by decide +kernel
theorem dX7_put_178 : decode cX7_put 178 = .ok (.getfield 7, 3) := by decide +kernel
theorem dX7_put_181 : decode cX7_put 181 = .ok (.iload_n 1, 1) := by decide +kernel
theorem dX7_put_182 : decode cX7_put 182 = .ok (.iconst 0, 1) := by decide +kernel
theorem dX7_put_183 : decode cX7_put 183 = .ok (.invokestatic 31, 3) := by decide +kernel
theorem dX7_put_186 : decode cX7_put 186 = .ok (.dup2, 1) := by decide +kernel
theorem dX7_put_187 : decode cX7_put 187 = .ok (.iaload, 1) := by decide +kernel
theorem dX7_put_188 : decode cX7_put 188 = .ok (.iconst 1, 1) := by decide +kernel
theorem dX7_put_189 : decode cX7_put 189 = .ok (.iadd, 1) := by decide +kernel
theorem dX7_put_190 : decode cX7_put 190 = .ok (.iastore, 1) := by decide +kernel
theorem dX7_put_191 : decode cX7_put 191 = .ok (.aload_n 0, 1) := by decide +kernel
theorem dX7_put_192 : decode cX7_put 192 = .ok (.getfield 7, 3) := by decide +kernel
theorem dX7_put_195 : decode cX7_put 195 = .ok (.iconst 4, 1) := by decide +kernel
theorem dX7_put_196 : decode cX7_put 196 = .ok (.dup2, 1) := by decide +kernel
theorem dX7_put_197 : decode cX7_put 197 = .ok (.iaload, 1) := by decide +kernel
theorem dX7_put_198 : decode cX7_put 198 = .ok (.iconst 1, 1) := by decide +kernel
theorem dX7_put_199 : decode cX7_put 199 = .ok (.iadd, 1) := by decide +kernel
theorem dX7_put_200 : decode cX7_put 200 = .ok (.iastore, 1) := by decide +kernel
theorem dX7_put_201 : decode cX7_put 201 = .ok (.iload 5, 2) := by decide +kernel
theorem dX7_put_203 : decode cX7_put 203 = .ok (.ireturn, 1) := by decide +kernel
theorem dX7_read_0 : decode cX7_read 0 = .ok (.iload_n 1, 1) := by decide +kernel
theorem dX7_read_1 : decode cX7_read 1 = .ok (.invokestatic 56, 3) := by decide +kernel
theorem dX7_read_4 : decode cX7_read 4 = .ok (.ifCond .eq 10, 3) := by decide +kernel
theorem dX7_read_7 : decode cX7_read 7 = .ok (.iload_n 2, 1) := by decide +kernel
theorem dX7_read_8 : decode cX7_read 8 = .ok (.invokestatic 56, 3) := by decide +kernel
theorem dX7_read_11 : decode cX7_read 11 = .ok (.ifCond .ne 5, 3) := by decide +kernel
theorem dX7_read_14 : decode cX7_read 14 = .ok (.iconst (-1), 1) := by decide +kernel
theorem dX7_read_15 : decode cX7_read 15 = .ok (.ireturn, 1) := by decide +kernel
theorem dX7_read_16 : decode cX7_read 16 = .ok (.iload_n 3, 1) := by decide +kernel
theorem dX7_read_17 : decode cX7_read 17 = .ok (.iconst 0, 1) := by decide +kernel
theorem dX7_read_18 : decode cX7_read 18 = .ok (.bipush 15, 2) := by decide +kernel
theorem dX7_read_20 : decode cX7_read 20 = .ok (.invokestatic 38, 3) := by decide +kernel
theorem dX7_read_23 : decode cX7_read 23 = .ok (.ifCond .ne 6, 3) := by decide +kernel
theorem dX7_read_26 : decode cX7_read 26 = .ok (.bipush (-2), 2) := by decide +kernel
theorem dX7_read_28 : decode cX7_read 28 = .ok (.ireturn, 1) := by decide +kernel
theorem dX7_read_29 : decode cX7_read 29 = .ok (.aload_n 0, 1) := by decide +kernel
theorem dX7_read_30 : decode cX7_read 30 = .ok (.iload_n 1, 1) := by decide +kernel
theorem dX7_read_31 : decode cX7_read 31 = .ok (.invokevirtual 62, 3) := by decide +kernel
theorem dX7_read_34 : decode cX7_read 34 = .ok (.ifCond .ne 6, 3) := by decide +kernel
theorem dX7_read_37 : decode cX7_read 37 = .ok (.bipush (-3), 2) := by decide +kernel
theorem dX7_read_39 : decode cX7_read 39 = .ok (.ireturn, 1) := by decide +kernel
theorem dX7_read_40 : decode cX7_read 40 = .ok (.aload_n 0, 1) := by decide +kernel
theorem dX7_read_41 : decode cX7_read 41 = .ok (.invokevirtual 46, 3) := by decide +kernel
theorem dX7_read_44 : decode cX7_read 44 = .ok (.aload_n 0, 1) := by decide +kernel
theorem dX7_read_45 : decode cX7_read 45 = .ok (.iload_n 1, 1) := by decide +kernel
theorem dX7_read_46 : decode cX7_read 46 = .ok (.iload_n 2, 1) := by decide +kernel
theorem dX7_read_47 : decode cX7_read 47 = .ok (.iload_n 3, 1) := by decide +kernel
theorem dX7_read_48 : decode cX7_read 48 = .ok (.bipush (-5), 2) := by decide +kernel
theorem dX7_read_50 : decode cX7_read 50 = .ok (.invokevirtual 65, 3) := by decide +kernel
theorem dX7_read_53 : decode cX7_read 53 = .ok (.ireturn, 1) := by decide +kernel
theorem dX7_write_0 : decode cX7_write 0 = .ok (.iload_n 1, 1) := by decide +kernel
theorem dX7_write_1 : decode cX7_write 1 = .ok (.invokestatic 56, 3) := by decide +kernel
theorem dX7_write_4 : decode cX7_write 4 = .ok (.ifCond .eq 10, 3) := by decide +kernel
theorem dX7_write_7 : decode cX7_write 7 = .ok (.iload_n 2, 1) := by decide +kernel
theorem dX7_write_8 : decode cX7_write 8 = .ok (.invokestatic 56, 3) := by decide +kernel
theorem dX7_write_11 : decode cX7_write 11 = .ok (.ifCond .ne 5, 3) := by decide +kernel
theorem dX7_write_14 : decode cX7_write 14 = .ok (.iconst (-1), 1) := by decide +kernel
theorem dX7_write_15 : decode cX7_write 15 = .ok (.ireturn, 1) := by decide +kernel
theorem dX7_write_16 : decode cX7_write 16 = .ok (.iload_n 3, 1) := by decide +kernel
theorem dX7_write_17 : decode cX7_write 17 = .ok (.iconst 0, 1) := by decide +kernel
theorem dX7_write_18 : decode cX7_write 18 = .ok (.bipush 15, 2) := by decide +kernel
theorem dX7_write_20 : decode cX7_write 20 = .ok (.invokestatic 38, 3) := by decide +kernel
theorem dX7_write_23 : decode cX7_write 23 = .ok (.ifCond .eq 14, 3) := by decide +kernel
theorem dX7_write_26 : decode cX7_write 26 = .ok (.iload 4, 2) := by decide +kernel
theorem dX7_write_28 : decode cX7_write 28 = .ok (.iconst 0, 1) := by decide +kernel
theorem dX7_write_29 : decode cX7_write 29 = .ok (.bipush 99, 2) := by decide +kernel
theorem dX7_write_31 : decode cX7_write 31 = .ok (.invokestatic 38, 3) := by decide +kernel
theorem dX7_write_34 : decode cX7_write 34 = .ok (.ifCond .ne 6, 3) := by decide +kernel
theorem dX7_write_37 : decode cX7_write 37 = .ok (.bipush (-2), 2) := by decide +kernel
theorem dX7_write_39 : decode cX7_write 39 = .ok (.ireturn, 1) := by decide +kernel
theorem dX7_write_40 : decode cX7_write 40 = .ok (.aload_n 0, 1) := by decide +kernel
theorem dX7_write_41 : decode cX7_write 41 = .ok (.iload_n 1, 1) := by decide +kernel
theorem dX7_write_42 : decode cX7_write 42 = .ok (.invokevirtual 62, 3) := by decide +kernel
theorem dX7_write_45 : decode cX7_write 45 = .ok (.ifCond .ne 6, 3) := by decide +kernel
theorem dX7_write_48 : decode cX7_write 48 = .ok (.bipush (-3), 2) := by decide +kernel
theorem dX7_write_50 : decode cX7_write 50 = .ok (.ireturn, 1) := by decide +kernel
theorem dX7_write_51 : decode cX7_write 51 = .ok (.aload_n 0, 1) := by decide +kernel
theorem dX7_write_52 : decode cX7_write 52 = .ok (.invokevirtual 46, 3) := by decide +kernel
theorem dX7_write_55 : decode cX7_write 55 = .ok (.aload_n 0, 1) := by decide +kernel
theorem dX7_write_56 : decode cX7_write 56 = .ok (.iload_n 1, 1) := by decide +kernel
theorem dX7_write_57 : decode cX7_write 57 = .ok (.iload_n 2, 1) := by decide +kernel
theorem dX7_write_58 : decode cX7_write 58 = .ok (.iload_n 3, 1) := by decide +kernel
theorem dX7_write_59 : decode cX7_write 59 = .ok (.iload 4, 2) := by decide +kernel
theorem dX7_write_61 : decode cX7_write 61 = .ok (.invokevirtual 65, 3) := by decide +kernel
theorem dX7_write_64 : decode cX7_write 64 = .ok (.ireturn, 1) := by decide +kernel
theorem dX7_withdraw_0 : decode cX7_withdraw 0 = .ok (.iload_n 1, 1) := by decide +kernel
theorem dX7_withdraw_1 : decode cX7_withdraw 1 = .ok (.invokestatic 56, 3) := by decide +kernel
theorem dX7_withdraw_4 : decode cX7_withdraw 4 = .ok (.ifCond .ne 5, 3) := by decide +kernel
theorem dX7_withdraw_7 : decode cX7_withdraw 7 = .ok (.iconst (-1), 1) := by decide +kernel
theorem dX7_withdraw_8 : decode cX7_withdraw 8 = .ok (.ireturn, 1) := by decide +kernel
theorem dX7_withdraw_9 : decode cX7_withdraw 9 = .ok (.aload_n 0, 1) := by decide +kernel
theorem dX7_withdraw_10 : decode cX7_withdraw 10 = .ok (.getfield 7, 3) := by decide +kernel
theorem dX7_withdraw_13 : decode cX7_withdraw 13 = .ok (.iload_n 1, 1) := by decide +kernel
theorem dX7_withdraw_14 : decode cX7_withdraw 14 = .ok (.iconst 0, 1) := by decide +kernel
theorem dX7_withdraw_15 : decode cX7_withdraw 15 = .ok (.invokestatic 31, 3) := by decide +kernel
theorem dX7_withdraw_18 : decode cX7_withdraw 18 = .ok (.iaload, 1) := by decide +kernel
theorem dX7_withdraw_19 : decode cX7_withdraw 19 = .ok (.ifCond .ne 6, 3) := by decide +kernel
theorem dX7_withdraw_22 : decode cX7_withdraw 22 = .ok (.bipush (-5), 2) := by decide +kernel
theorem dX7_withdraw_24 : decode cX7_withdraw 24 = .ok (.ireturn, 1) := by decide +kernel
theorem dX7_withdraw_25 : decode cX7_withdraw 25 = .ok (.aload_n 0, 1) := by decide +kernel
theorem dX7_withdraw_26 : decode cX7_withdraw 26 = .ok (.invokevirtual 46, 3) := by decide +kernel
theorem dX7_withdraw_29 : decode cX7_withdraw 29 = .ok (.aload_n 0, 1) := by decide +kernel
theorem dX7_withdraw_30 : decode cX7_withdraw 30 = .ok (.getfield 7, 3) := by decide +kernel
theorem dX7_withdraw_33 : decode cX7_withdraw 33 = .ok (.iload_n 1, 1) := by decide +kernel
theorem dX7_withdraw_34 : decode cX7_withdraw 34 = .ok (.iconst 0, 1) := by decide +kernel
theorem dX7_withdraw_35 : decode cX7_withdraw 35 = .ok (.invokestatic 31, 3) := by decide +kernel
theorem dX7_withdraw_38 : decode cX7_withdraw 38 = .ok (.dup2, 1) := by decide +kernel
theorem dX7_withdraw_39 : decode cX7_withdraw 39 = .ok (.iaload, 1) := by decide +kernel
theorem dX7_withdraw_40 : decode cX7_withdraw 40 = .ok (.iconst 1, 1) := by decide +kernel
theorem dX7_withdraw_41 : decode cX7_withdraw 41 = .ok (.isub, 1) := by decide +kernel
theorem dX7_withdraw_42 : decode cX7_withdraw 42 = .ok (.iastore, 1) := by decide +kernel
theorem dX7_withdraw_43 : decode cX7_withdraw 43 = .ok (.aload_n 0, 1) := by decide +kernel
theorem dX7_withdraw_44 : decode cX7_withdraw 44 = .ok (.getfield 7, 3) := by decide +kernel
theorem dX7_withdraw_47 : decode cX7_withdraw 47 = .ok (.iload_n 1, 1) := by decide +kernel
theorem dX7_withdraw_48 : decode cX7_withdraw 48 = .ok (.iconst 0, 1) := by decide +kernel
theorem dX7_withdraw_49 : decode cX7_withdraw 49 = .ok (.invokestatic 31, 3) := by decide +kernel
theorem dX7_withdraw_52 : decode cX7_withdraw 52 = .ok (.iaload, 1) := by decide +kernel
theorem dX7_withdraw_53 : decode cX7_withdraw 53 = .ok (.istore_n 2, 1) := by decide +kernel
theorem dX7_withdraw_54 : decode cX7_withdraw 54 = .ok (.aload_n 0, 1) := by decide +kernel
theorem dX7_withdraw_55 : decode cX7_withdraw 55 = .ok (.getfield 7, 3) := by decide +kernel
theorem dX7_withdraw_58 : decode cX7_withdraw 58 = .ok (.iload_n 1, 1) := by decide +kernel
theorem dX7_withdraw_59 : decode cX7_withdraw 59 = .ok (.iconst 1, 1) := by decide +kernel
theorem dX7_withdraw_60 : decode cX7_withdraw 60 = .ok (.iload_n 2, 1) := by decide +kernel
theorem dX7_withdraw_61 : decode cX7_withdraw 61 = .ok (.iadd, 1) := by decide +kernel
theorem dX7_withdraw_62 : decode cX7_withdraw 62 = .ok (.invokestatic 31, 3) := by decide +kernel
theorem dX7_withdraw_65 : decode cX7_withdraw 65 = .ok (.iaload, 1) := by decide +kernel
theorem dX7_withdraw_66 : decode cX7_withdraw 66 = .ok (.istore_n 3, 1) := by decide +kernel
theorem dX7_withdraw_67 : decode cX7_withdraw 67 = .ok (.aload_n 0, 1) := by decide +kernel
theorem dX7_withdraw_68 : decode cX7_withdraw 68 = .ok (.getfield 7, 3) := by decide +kernel
theorem dX7_withdraw_71 : decode cX7_withdraw 71 = .ok (.iload_n 3, 1) := by decide +kernel
theorem dX7_withdraw_72 : decode cX7_withdraw 72 = .ok (.iconst 4, 1) := by decide +kernel
theorem dX7_withdraw_73 : decode cX7_withdraw 73 = .ok (.invokestatic 59, 3) := by decide +kernel
theorem dX7_withdraw_76 : decode cX7_withdraw 76 = .ok (.iconst 4, 1) := by decide +kernel
theorem dX7_withdraw_77 : decode cX7_withdraw 77 = .ok (.iastore, 1) := by decide +kernel
theorem dX7_withdraw_78 : decode cX7_withdraw 78 = .ok (.aload_n 0, 1) := by decide +kernel
theorem dX7_withdraw_79 : decode cX7_withdraw 79 = .ok (.getfield 7, 3) := by decide +kernel
theorem dX7_withdraw_82 : decode cX7_withdraw 82 = .ok (.iload_n 1, 1) := by decide +kernel
theorem dX7_withdraw_83 : decode cX7_withdraw 83 = .ok (.bipush 10, 2) := by decide +kernel
theorem dX7_withdraw_85 : decode cX7_withdraw 85 = .ok (.invokestatic 31, 3) := by decide +kernel
theorem dX7_withdraw_88 : decode cX7_withdraw 88 = .ok (.iload_n 2, 1) := by decide +kernel
theorem dX7_withdraw_89 : decode cX7_withdraw 89 = .ok (.ifCond .ne 7, 3) := by decide +kernel
theorem dX7_withdraw_92 : decode cX7_withdraw 92 = .ok (.iconst 0, 1) := by decide +kernel
theorem dX7_withdraw_93 : decode cX7_withdraw 93 = .ok (.goto 14, 3) := by decide +kernel
theorem dX7_withdraw_96 : decode cX7_withdraw 96 = .ok (.aload_n 0, 1) := by decide +kernel
theorem dX7_withdraw_97 : decode cX7_withdraw 97 = .ok (.getfield 7, 3) := by decide +kernel
theorem dX7_withdraw_100 : decode cX7_withdraw 100 = .ok (.iload_n 1, 1) := by decide +kernel
theorem dX7_withdraw_101 : decode cX7_withdraw 101 = .ok (.bipush 10, 2) := by decide +kernel
theorem dX7_withdraw_103 : decode cX7_withdraw 103 = .ok (.invokestatic 31, 3) := by decide +kernel
theorem dX7_withdraw_106 : decode cX7_withdraw 106 = .ok (.iaload, 1) := by decide +kernel
theorem dX7_withdraw_107 : decode cX7_withdraw 107 = .ok (.iastore, 1) := by decide +kernel
theorem dX7_withdraw_108 : decode cX7_withdraw 108 = .ok (.iload_n 3, 1) := by decide +kernel
theorem dX7_withdraw_109 : decode cX7_withdraw 109 = .ok (.ireturn, 1) := by decide +kernel
theorem dX7_sign_0 : decode cX7_sign 0 = .ok (.aload_n 0, 1) := by decide +kernel
theorem dX7_sign_1 : decode cX7_sign 1 = .ok (.getfield 69, 3) := by decide +kernel
theorem dX7_sign_4 : decode cX7_sign 4 = .ok (.aload_n 0, 1) := by decide +kernel
theorem dX7_sign_5 : decode cX7_sign 5 = .ok (.getfield 72, 3) := by decide +kernel
theorem dX7_sign_8 : decode cX7_sign 8 = .ok (.if_icmp .ge 15, 3) := by decide +kernel
theorem dX7_sign_11 : decode cX7_sign 11 = .ok (.aload_n 0, 1) := by decide +kernel
theorem dX7_sign_12 : decode cX7_sign 12 = .ok (.getfield 22, 3) := by decide +kernel
theorem dX7_sign_15 : decode cX7_sign 15 = .ok (.aload_n 0, 1) := by decide +kernel
theorem dX7_sign_16 : decode cX7_sign 16 = .ok (.getfield 69, 3) := by decide +kernel
theorem dX7_sign_19 : decode cX7_sign 19 = .ok (.iaload, 1) := by decide +kernel
theorem dX7_sign_20 : decode cX7_sign 20 = .ok (.goto 4, 3) := by decide +kernel
theorem dX7_sign_23 : decode cX7_sign 23 = .ok (.iconst 0, 1) := by decide +kernel
theorem dX7_sign_24 : decode cX7_sign 24 = .ok (.istore_n 3, 1) := by decide +kernel
theorem dX7_sign_25 : decode cX7_sign 25 = .ok (.aload_n 0, 1) := by decide +kernel
theorem dX7_sign_26 : decode cX7_sign 26 = .ok (.aload_n 0, 1) := by decide +kernel
theorem dX7_sign_27 : decode cX7_sign 27 = .ok (.getfield 75, 3) := by decide +kernel
theorem dX7_sign_30 : decode cX7_sign 30 = .ok (.ifCond .ne 12, 3) := by decide +kernel
theorem dX7_sign_33 : decode cX7_sign 33 = .ok (.iload_n 3, 1) := by decide +kernel
theorem dX7_sign_34 : decode cX7_sign 34 = .ok (.iload_n 1, 1) := by decide +kernel
theorem dX7_sign_35 : decode cX7_sign 35 = .ok (.iload_n 2, 1) := by decide +kernel
theorem dX7_sign_36 : decode cX7_sign 36 = .ok (.invokestatic 38, 3) := by decide +kernel
theorem dX7_sign_39 : decode cX7_sign 39 = .ok (.ifCond .ne 7, 3) := by decide +kernel
theorem dX7_sign_42 : decode cX7_sign 42 = .ok (.iconst 1, 1) := by decide +kernel
theorem dX7_sign_43 : decode cX7_sign 43 = .ok (.goto 4, 3) := by decide +kernel
theorem dX7_sign_46 : decode cX7_sign 46 = .ok (.iconst 0, 1) := by decide +kernel
theorem dX7_sign_47 : decode cX7_sign 47 = .ok (.putfield 75, 3) := by decide +kernel
theorem dX7_sign_50 : decode cX7_sign 50 = .ok (.aload_n 0, 1) := by decide +kernel
theorem dX7_sign_51 : decode cX7_sign 51 = .ok (.dup, 1) := by decide +kernel
theorem dX7_sign_52 : decode cX7_sign 52 = .ok (.getfield 69, 3) := by decide +kernel
theorem dX7_sign_55 : decode cX7_sign 55 = .ok (.aload_n 0, 1) := by decide +kernel
theorem dX7_sign_56 : decode cX7_sign 56 = .ok (.getfield 75, 3) := by decide +kernel
theorem dX7_sign_59 : decode cX7_sign 59 = .ok (.ifCond .eq 7, 3) := by decide +kernel
theorem dX7_sign_62 : decode cX7_sign 62 = .ok (.iconst 0, 1) := by decide +kernel
theorem dX7_sign_63 : decode cX7_sign 63 = .ok (.goto 4, 3) := by decide +kernel
theorem dX7_sign_66 : decode cX7_sign 66 = .ok (.iconst 1, 1) := by decide +kernel
theorem dX7_sign_67 : decode cX7_sign 67 = .ok (.iadd, 1) := by decide +kernel
theorem dX7_sign_68 : decode cX7_sign 68 = .ok (.putfield 69, 3) := by decide +kernel
theorem dX7_sign_71 : decode cX7_sign 71 = .ok (.iload_n 3, 1) := by decide +kernel
theorem dX7_sign_72 : decode cX7_sign 72 = .ok (.ireturn, 1) := by decide +kernel
theorem dX7_number_0 : decode cX7_number 0 = .ok (.aload_n 0, 1) := by decide +kernel
theorem dX7_number_1 : decode cX7_number 1 = .ok (.bipush 48, 2) := by decide +kernel
theorem dX7_number_3 : decode cX7_number 3 = .ok (.bipush 57, 2) := by decide +kernel
theorem dX7_number_5 : decode cX7_number 5 = .ok (.invokevirtual 79, 3) := by decide +kernel
theorem dX7_number_8 : decode cX7_number 8 = .ok (.bipush 48, 2) := by decide +kernel
theorem dX7_number_10 : decode cX7_number 10 = .ok (.isub, 1) := by decide +kernel
theorem dX7_number_11 : decode cX7_number 11 = .ok (.istore_n 2, 1) := by decide +kernel
theorem dX7_number_12 : decode cX7_number 12 = .ok (.aload_n 0, 1) := by decide +kernel
theorem dX7_number_13 : decode cX7_number 13 = .ok (.getfield 75, 3) := by decide +kernel
theorem dX7_number_16 : decode cX7_number 16 = .ok (.ifCond .ne 62, 3) := by decide +kernel
theorem dX7_number_19 : decode cX7_number 19 = .ok (.iload_n 2, 1) := by decide +kernel
theorem dX7_number_20 : decode cX7_number 20 = .ok (.ifCond .le 58, 3) := by decide +kernel
theorem dX7_number_23 : decode cX7_number 23 = .ok (.aload_n 0, 1) := by decide +kernel
theorem dX7_number_24 : decode cX7_number 24 = .ok (.getfield 69, 3) := by decide +kernel
theorem dX7_number_27 : decode cX7_number 27 = .ok (.aload_n 0, 1) := by decide +kernel
theorem dX7_number_28 : decode cX7_number 28 = .ok (.getfield 72, 3) := by decide +kernel
theorem dX7_number_31 : decode cX7_number 31 = .ok (.if_icmp .ge 47, 3) := by decide +kernel
theorem dX7_number_34 : decode cX7_number 34 = .ok (.aload_n 0, 1) := by decide +kernel
theorem dX7_number_35 : decode cX7_number 35 = .ok (.getfield 22, 3) := by decide +kernel
theorem dX7_number_38 : decode cX7_number 38 = .ok (.aload_n 0, 1) := by decide +kernel
theorem dX7_number_39 : decode cX7_number 39 = .ok (.getfield 69, 3) := by decide +kernel
theorem dX7_number_42 : decode cX7_number 42 = .ok (.iaload, 1) := by decide +kernel
theorem dX7_number_43 : decode cX7_number 43 = .ok (.bipush 48, 2) := by decide +kernel
theorem dX7_number_45 : decode cX7_number 45 = .ok (.bipush 57, 2) := by decide +kernel
theorem dX7_number_47 : decode cX7_number 47 = .ok (.invokestatic 38, 3) := by decide +kernel
theorem dX7_number_50 : decode cX7_number 50 = .ok (.ifCond .eq 28, 3) := by decide +kernel
theorem dX7_number_53 : decode cX7_number 53 = .ok (.bipush 10, 2) := by decide +kernel
theorem dX7_number_55 : decode cX7_number 55 = .ok (.iload_n 2, 1) := by decide +kernel
theorem dX7_number_56 : decode cX7_number 56 = .ok (.imul, 1) := by decide +kernel
theorem dX7_number_57 : decode cX7_number 57 = .ok (.aload_n 0, 1) := by decide +kernel
theorem dX7_number_58 : decode cX7_number 58 = .ok (.getfield 22, 3) := by decide +kernel
theorem dX7_number_61 : decode cX7_number 61 = .ok (.aload_n 0, 1) := by decide +kernel
theorem dX7_number_62 : decode cX7_number 62 = .ok (.getfield 69, 3) := by decide +kernel
theorem dX7_number_65 : decode cX7_number 65 = .ok (.iaload, 1) := by decide +kernel
theorem dX7_number_66 : decode cX7_number 66 = .ok (.iadd, 1) := by decide +kernel
theorem dX7_number_67 : decode cX7_number 67 = .ok (.bipush 48, 2) := by decide +kernel
theorem dX7_number_69 : decode cX7_number 69 = .ok (.isub, 1) := by decide +kernel
theorem dX7_number_70 : decode cX7_number 70 = .ok (.iload_n 1, 1) := by decide +kernel
theorem dX7_number_71 : decode cX7_number 71 = .ok (.if_icmp .gt 7, 3) := by decide +kernel
theorem dX7_number_74 : decode cX7_number 74 = .ok (.iconst 1, 1) := by decide +kernel
theorem dX7_number_75 : decode cX7_number 75 = .ok (.goto 4, 3) := by decide +kernel
theorem dX7_number_78 : decode cX7_number 78 = .ok (.iconst 0, 1) := by decide +kernel
theorem dX7_number_79 : decode cX7_number 79 = .ok (.istore_n 3, 1) := by decide +kernel
theorem dX7_number_80 : decode cX7_number 80 = .ok (.iload_n 3, 1) := by decide +kernel
theorem dX7_number_81 : decode cX7_number 81 = .ok (.ifCond .eq 22, 3) := by decide +kernel
theorem dX7_number_84 : decode cX7_number 84 = .ok (.bipush 10, 2) := by decide +kernel
theorem dX7_number_86 : decode cX7_number 86 = .ok (.iload_n 2, 1) := by decide +kernel
theorem dX7_number_87 : decode cX7_number 87 = .ok (.imul, 1) := by decide +kernel
theorem dX7_number_88 : decode cX7_number 88 = .ok (.aload_n 0, 1) := by decide +kernel
theorem dX7_number_89 : decode cX7_number 89 = .ok (.bipush 48, 2) := by decide +kernel
theorem dX7_number_91 : decode cX7_number 91 = .ok (.bipush 57, 2) := by decide +kernel
theorem dX7_number_93 : decode cX7_number 93 = .ok (.invokevirtual 79, 3) := by decide +kernel
theorem dX7_number_96 : decode cX7_number 96 = .ok (.iadd, 1) := by decide +kernel
theorem dX7_number_97 : decode cX7_number 97 = .ok (.bipush 48, 2) := by decide +kernel
theorem dX7_number_99 : decode cX7_number 99 = .ok (.isub, 1) := by decide +kernel
theorem dX7_number_100 : decode cX7_number 100 = .ok (.goto 4, 3) := by decide +kernel
theorem dX7_number_103 : decode cX7_number 103 = .ok (.iload_n 2, 1) := by decide +kernel
theorem dX7_number_104 : decode cX7_number 104 = .ok (.ireturn, 1) := by decide +kernel
theorem dX7_question_0 : decode cX7_question 0 = .ok (.aload_n 0, 1) := by decide +kernel
theorem dX7_question_1 : decode cX7_question 1 = .ok (.getfield 25, 3) := by decide +kernel
theorem dX7_question_4 : decode cX7_question 4 = .ok (.iconst 0, 1) := by decide +kernel
theorem dX7_question_5 : decode cX7_question 5 = .ok (.aload_n 0, 1) := by decide +kernel
theorem dX7_question_6 : decode cX7_question 6 = .ok (.bipush 48, 2) := by decide +kernel
theorem dX7_question_8 : decode cX7_question 8 = .ok (.bipush 51, 2) := by decide +kernel
theorem dX7_question_10 : decode cX7_question 10 = .ok (.invokevirtual 79, 3) := by decide +kernel
theorem dX7_question_13 : decode cX7_question 13 = .ok (.bipush 48, 2) := by decide +kernel
theorem dX7_question_15 : decode cX7_question 15 = .ok (.isub, 1) := by decide +kernel
theorem dX7_question_16 : decode cX7_question 16 = .ok (.iastore, 1) := by decide +kernel
theorem dX7_question_17 : decode cX7_question 17 = .ok (.aload_n 0, 1) := by decide +kernel
theorem dX7_question_18 : decode cX7_question 18 = .ok (.bipush 62, 2) := by decide +kernel
theorem dX7_question_20 : decode cX7_question 20 = .ok (.bipush 62, 2) := by decide +kernel
theorem dX7_question_22 : decode cX7_question 22 = .ok (.invokevirtual 79, 3) := by decide +kernel
theorem dX7_question_25 : decode cX7_question 25 = .ok (.istore_n 1, 1) := by decide +kernel
theorem dX7_question_26 : decode cX7_question 26 = .ok (.aload_n 0, 1) := by decide +kernel
theorem dX7_question_27 : decode cX7_question 27 = .ok (.getfield 25, 3) := by decide +kernel
theorem dX7_question_30 : decode cX7_question 30 = .ok (.iconst 1, 1) := by decide +kernel
theorem dX7_question_31 : decode cX7_question 31 = .ok (.aload_n 0, 1) := by decide +kernel
theorem dX7_question_32 : decode cX7_question 32 = .ok (.bipush 48, 2) := by decide +kernel
theorem dX7_question_34 : decode cX7_question 34 = .ok (.bipush 51, 2) := by decide +kernel
theorem dX7_question_36 : decode cX7_question 36 = .ok (.invokevirtual 79, 3) := by decide +kernel
theorem dX7_question_39 : decode cX7_question 39 = .ok (.bipush 48, 2) := by decide +kernel
theorem dX7_question_41 : decode cX7_question 41 = .ok (.isub, 1) := by decide +kernel
theorem dX7_question_42 : decode cX7_question 42 = .ok (.iastore, 1) := by decide +kernel
theorem dX7_question_43 : decode cX7_question 43 = .ok (.aload_n 0, 1) := by decide +kernel
theorem dX7_question_44 : decode cX7_question 44 = .ok (.getfield 69, 3) := by decide +kernel
theorem dX7_question_47 : decode cX7_question 47 = .ok (.aload_n 0, 1) := by decide +kernel
theorem dX7_question_48 : decode cX7_question 48 = .ok (.getfield 72, 3) := by decide +kernel
theorem dX7_question_51 : decode cX7_question 51 = .ok (.if_icmp .ge 21, 3) := by decide +kernel
theorem dX7_question_54 : decode cX7_question 54 = .ok (.aload_n 0, 1) := by decide +kernel
theorem dX7_question_55 : decode cX7_question 55 = .ok (.getfield 22, 3) := by decide +kernel
theorem dX7_question_58 : decode cX7_question 58 = .ok (.aload_n 0, 1) := by decide +kernel
theorem dX7_question_59 : decode cX7_question 59 = .ok (.getfield 69, 3) := by decide +kernel
theorem dX7_question_62 : decode cX7_question 62 = .ok (.iaload, 1) := by decide +kernel
theorem dX7_question_63 : decode cX7_question 63 = .ok (.bipush 119, 2) := by decide +kernel
theorem dX7_question_65 : decode cX7_question 65 = .ok (.if_icmp .ne 7, 3) := by decide +kernel
theorem dX7_question_68 : decode cX7_question 68 = .ok (.iconst 1, 1) := by decide +kernel
theorem dX7_question_69 : decode cX7_question 69 = .ok (.goto 4, 3) := by decide +kernel
theorem dX7_question_72 : decode cX7_question 72 = .ok (.iconst 0, 1) := by decide +kernel
theorem dX7_question_73 : decode cX7_question 73 = .ok (.istore_n 2, 1) := by decide +kernel
theorem dX7_question_74 : decode cX7_question 74 = .ok (.iload_n 2, 1) := by decide +kernel
theorem dX7_question_75 : decode cX7_question 75 = .ok (.ifCond .eq 14, 3) := by decide +kernel
theorem dX7_question_78 : decode cX7_question 78 = .ok (.aload_n 0, 1) := by decide +kernel
theorem dX7_question_79 : decode cX7_question 79 = .ok (.bipush 119, 2) := by decide +kernel
theorem dX7_question_81 : decode cX7_question 81 = .ok (.bipush 119, 2) := by decide +kernel
theorem dX7_question_83 : decode cX7_question 83 = .ok (.invokevirtual 79, 3) := by decide +kernel
theorem dX7_question_86 : decode cX7_question 86 = .ok (.goto 11, 3) := by decide +kernel
theorem dX7_question_89 : decode cX7_question 89 = .ok (.aload_n 0, 1) := by decide +kernel
theorem dX7_question_90 : decode cX7_question 90 = .ok (.bipush 114, 2) := by decide +kernel
theorem dX7_question_92 : decode cX7_question 92 = .ok (.bipush 114, 2) := by decide +kernel
theorem dX7_question_94 : decode cX7_question 94 = .ok (.invokevirtual 79, 3) := by decide +kernel
theorem dX7_question_97 : decode cX7_question 97 = .ok (.istore_n 3, 1) := by decide +kernel
theorem dX7_question_98 : decode cX7_question 98 = .ok (.aload_n 0, 1) := by decide +kernel
theorem dX7_question_99 : decode cX7_question 99 = .ok (.getfield 25, 3) := by decide +kernel
theorem dX7_question_102 : decode cX7_question 102 = .ok (.iconst 2, 1) := by decide +kernel
theorem dX7_question_103 : decode cX7_question 103 = .ok (.aload_n 0, 1) := by decide +kernel
theorem dX7_question_104 : decode cX7_question 104 = .ok (.bipush 15, 2) := by decide +kernel
theorem dX7_question_106 : decode cX7_question 106 = .ok (.invokevirtual 82, 3) := by decide +kernel
theorem dX7_question_109 : decode cX7_question 109 = .ok (.iastore, 1) := by decide +kernel
theorem dX7_question_110 : decode cX7_question 110 = .ok (.iload_n 2, 1) := by decide +kernel
theorem dX7_question_111 : decode cX7_question 111 = .ok (.ifCond .eq 14, 3) := by decide +kernel
theorem dX7_question_114 : decode cX7_question 114 = .ok (.aload_n 0, 1) := by decide +kernel
theorem dX7_question_115 : decode cX7_question 115 = .ok (.bipush 61, 2) := by decide +kernel
theorem dX7_question_117 : decode cX7_question 117 = .ok (.bipush 61, 2) := by decide +kernel
theorem dX7_question_119 : decode cX7_question 119 = .ok (.invokevirtual 79, 3) := by decide +kernel
theorem dX7_question_122 : decode cX7_question 122 = .ok (.goto 4, 3) := by decide +kernel
theorem dX7_question_125 : decode cX7_question 125 = .ok (.iconst 0, 1) := by decide +kernel
theorem dX7_question_126 : decode cX7_question 126 = .ok (.istore 4, 2) := by decide +kernel
theorem dX7_question_128 : decode cX7_question 128 = .ok (.aload_n 0, 1) := by decide +kernel
theorem dX7_question_129 : decode cX7_question 129 = .ok (.getfield 25, 3) := by decide +kernel
theorem dX7_question_132 : decode cX7_question 132 = .ok (.iconst 3, 1) := by decide +kernel
theorem dX7_question_133 : decode cX7_question 133 = .ok (.iload_n 2, 1) := by decide +kernel
theorem dX7_question_134 : decode cX7_question 134 = .ok (.ifCond .eq 12, 3) := by decide +kernel
theorem dX7_question_137 : decode cX7_question 137 = .ok (.aload_n 0, 1) := by decide +kernel
theorem dX7_question_138 : decode cX7_question 138 = .ok (.bipush 99, 2) := by decide +kernel
theorem dX7_question_140 : decode cX7_question 140 = .ok (.invokevirtual 82, 3) := by decide +kernel
theorem dX7_question_143 : decode cX7_question 143 = .ok (.goto 5, 3) := by decide +kernel
theorem dX7_question_146 : decode cX7_question 146 = .ok (.bipush (-5), 2) := by decide +kernel
theorem dX7_question_148 : decode cX7_question 148 = .ok (.iastore, 1) := by decide +kernel
theorem dX7_question_149 : decode cX7_question 149 = .ok (.return_, 1) := by decide +kernel
theorem dX7_go_0 : decode cX7_go 0 = .ok (.aload_n 0, 1) := by decide +kernel
theorem dX7_go_1 : decode cX7_go 1 = .ok (.iconst 0, 1) := by decide +kernel
theorem dX7_go_2 : decode cX7_go 2 = .ok (.putfield 69, 3) := by decide +kernel
theorem dX7_go_5 : decode cX7_go 5 = .ok (.aload_n 0, 1) := by decide +kernel
theorem dX7_go_6 : decode cX7_go 6 = .ok (.iconst 0, 1) := by decide +kernel
theorem dX7_go_7 : decode cX7_go 7 = .ok (.putfield 75, 3) := by decide +kernel
theorem dX7_go_10 : decode cX7_go 10 = .ok (.iconst 0, 1) := by decide +kernel
theorem dX7_go_11 : decode cX7_go 11 = .ok (.istore_n 2, 1) := by decide +kernel
theorem dX7_go_12 : decode cX7_go 12 = .ok (.iconst 1, 1) := by decide +kernel
theorem dX7_go_13 : decode cX7_go 13 = .ok (.istore_n 3, 1) := by decide +kernel
theorem dX7_go_14 : decode cX7_go 14 = .ok (.iload_n 3, 1) := by decide +kernel
theorem dX7_go_15 : decode cX7_go 15 = .ok (.ifCond .eq 123, 3) := by decide +kernel
theorem dX7_go_18 : decode cX7_go 18 = .ok (.aload_n 0, 1) := by decide +kernel
theorem dX7_go_19 : decode cX7_go 19 = .ok (.invokevirtual 86, 3) := by decide +kernel
theorem dX7_go_22 : decode cX7_go 22 = .ok (.iinc 2 1, 3) := by decide +kernel
theorem dX7_go_25 : decode cX7_go 25 = .ok (.iload_n 1, 1) := by decide +kernel
theorem dX7_go_26 : decode cX7_go 26 = .ok (.ifCond .eq 36, 3) := by decide +kernel
theorem dX7_go_29 : decode cX7_go 29 = .ok (.aload_n 0, 1) := by decide +kernel
theorem dX7_go_30 : decode cX7_go 30 = .ok (.aload_n 0, 1) := by decide +kernel
theorem dX7_go_31 : decode cX7_go 31 = .ok (.getfield 25, 3) := by decide +kernel
theorem dX7_go_34 : decode cX7_go 34 = .ok (.iconst 0, 1) := by decide +kernel
theorem dX7_go_35 : decode cX7_go 35 = .ok (.iaload, 1) := by decide +kernel
theorem dX7_go_36 : decode cX7_go 36 = .ok (.aload_n 0, 1) := by decide +kernel
theorem dX7_go_37 : decode cX7_go 37 = .ok (.getfield 25, 3) := by decide +kernel
theorem dX7_go_40 : decode cX7_go 40 = .ok (.iconst 1, 1) := by decide +kernel
theorem dX7_go_41 : decode cX7_go 41 = .ok (.iaload, 1) := by decide +kernel
theorem dX7_go_42 : decode cX7_go 42 = .ok (.aload_n 0, 1) := by decide +kernel
theorem dX7_go_43 : decode cX7_go 43 = .ok (.getfield 25, 3) := by decide +kernel
theorem dX7_go_46 : decode cX7_go 46 = .ok (.iconst 2, 1) := by decide +kernel
theorem dX7_go_47 : decode cX7_go 47 = .ok (.iaload, 1) := by decide +kernel
theorem dX7_go_48 : decode cX7_go 48 = .ok (.aload_n 0, 1) := by decide +kernel
theorem dX7_go_49 : decode cX7_go 49 = .ok (.getfield 25, 3) := by decide +kernel
theorem dX7_go_52 : decode cX7_go 52 = .ok (.iconst 3, 1) := by decide +kernel
theorem dX7_go_53 : decode cX7_go 53 = .ok (.iaload, 1) := by decide +kernel
theorem dX7_go_54 : decode cX7_go 54 = .ok (.invokevirtual 65, 3) := by decide +kernel
theorem dX7_go_57 : decode cX7_go 57 = .ok (.istore 4, 2) := by decide +kernel
theorem dX7_go_59 : decode cX7_go 59 = .ok (.goto 25, 3) := by decide +kernel
theorem dX7_go_62 : decode cX7_go 62 = .ok (.aload_n 0, 1) := by decide +kernel
theorem dX7_go_63 : decode cX7_go 63 = .ok (.getfield 75, 3) := by decide +kernel
theorem dX7_go_66 : decode cX7_go 66 = .ok (.ifCond .ne 18, 3) := by decide +kernel
theorem dX7_go_69 : decode cX7_go 69 = .ok (.aload_n 0, 1) := by decide +kernel
theorem dX7_go_70 : decode cX7_go 70 = .ok (.getfield 28, 3) := by decide +kernel
theorem dX7_go_73 : decode cX7_go 73 = .ok (.aload_n 0, 1) := by decide +kernel
theorem dX7_go_74 : decode cX7_go 74 = .ok (.getfield 25, 3) := by decide +kernel
theorem dX7_go_77 : decode cX7_go 77 = .ok (.iconst 0, 1) := by decide +kernel
theorem dX7_go_78 : decode cX7_go 78 = .ok (.iaload, 1) := by decide +kernel
theorem dX7_go_79 : decode cX7_go 79 = .ok (.dup2, 1) := by decide +kernel
theorem dX7_go_80 : decode cX7_go 80 = .ok (.iaload, 1) := by decide +kernel
theorem dX7_go_81 : decode cX7_go 81 = .ok (.iconst 1, 1) := by decide +kernel
theorem dX7_go_82 : decode cX7_go 82 = .ok (.iadd, 1) := by decide +kernel
theorem dX7_go_83 : decode cX7_go 83 = .ok (.iastore, 1) := by decide +kernel
theorem dX7_go_84 : decode cX7_go 84 = .ok (.aload_n 0, 1) := by decide +kernel
theorem dX7_go_85 : decode cX7_go 85 = .ok (.getfield 75, 3) := by decide +kernel
theorem dX7_go_88 : decode cX7_go 88 = .ok (.ifCond .ne 18, 3) := by decide +kernel
theorem dX7_go_91 : decode cX7_go 91 = .ok (.aload_n 0, 1) := by decide +kernel
theorem dX7_go_92 : decode cX7_go 92 = .ok (.getfield 69, 3) := by decide +kernel
theorem dX7_go_95 : decode cX7_go 95 = .ok (.aload_n 0, 1) := by decide +kernel
theorem dX7_go_96 : decode cX7_go 96 = .ok (.getfield 72, 3) := by decide +kernel
theorem dX7_go_99 : decode cX7_go 99 = .ok (.if_icmp .ge 7, 3) := by decide +kernel
theorem dX7_go_102 : decode cX7_go 102 = .ok (.iconst 1, 1) := by decide +kernel
theorem dX7_go_103 : decode cX7_go 103 = .ok (.goto 4, 3) := by decide +kernel
theorem dX7_go_106 : decode cX7_go 106 = .ok (.iconst 0, 1) := by decide +kernel
theorem dX7_go_107 : decode cX7_go 107 = .ok (.istore_n 3, 1) := by decide +kernel
theorem dX7_go_108 : decode cX7_go 108 = .ok (.iload_n 3, 1) := by decide +kernel
theorem dX7_go_109 : decode cX7_go 109 = .ok (.ifCond .eq (-95), 3) := by decide +kernel
theorem dX7_go_112 : decode cX7_go 112 = .ok (.aload_n 0, 1) := by decide +kernel
theorem dX7_go_113 : decode cX7_go 113 = .ok (.bipush 59, 2) := by decide +kernel
theorem dX7_go_115 : decode cX7_go 115 = .ok (.bipush 59, 2) := by decide +kernel
theorem dX7_go_117 : decode cX7_go 117 = .ok (.invokevirtual 79, 3) := by decide +kernel
theorem dX7_go_120 : decode cX7_go 120 = .ok (.istore 4, 2) := by decide +kernel
theorem dX7_go_122 : decode cX7_go 122 = .ok (.aload_n 0, 1) := by decide +kernel
theorem dX7_go_123 : decode cX7_go 123 = .ok (.getfield 75, 3) := by decide +kernel
theorem dX7_go_126 : decode cX7_go 126 = .ok (.ifCond .ne 7, 3) := by decide +kernel
theorem dX7_go_129 : decode cX7_go 129 = .ok (.iconst 1, 1) := by decide +kernel
theorem dX7_go_130 : decode cX7_go 130 = .ok (.goto 4, 3) := by decide +kernel
theorem dX7_go_133 : decode cX7_go 133 = .ok (.iconst 0, 1) := by decide +kernel
theorem dX7_go_134 : decode cX7_go 134 = .ok (.istore_n 3, 1) := by decide +kernel
theorem dX7_go_135 : decode cX7_go 135 = .ok (.goto (-121), 3) := by decide +kernel
theorem dX7_go_138 : decode cX7_go 138 = .ok (.iload_n 2, 1) := by decide +kernel
theorem dX7_go_139 : decode cX7_go 139 = .ok (.ireturn, 1) := by decide +kernel
theorem dX7_ask_0 : decode cX7_ask 0 = .ok (.iconst 0, 1) := by decide +kernel
theorem dX7_ask_1 : decode cX7_ask 1 = .ok (.istore_n 1, 1) := by decide +kernel
theorem dX7_ask_2 : decode cX7_ask 2 = .ok (.iload_n 1, 1) := by decide +kernel
theorem dX7_ask_3 : decode cX7_ask 3 = .ok (.iconst 4, 1) := by decide +kernel
theorem dX7_ask_4 : decode cX7_ask 4 = .ok (.if_icmp .ge 25, 3) := by decide +kernel
theorem dX7_ask_7 : decode cX7_ask 7 = .ok (.aload_n 0, 1) := by decide +kernel
theorem dX7_ask_8 : decode cX7_ask 8 = .ok (.getfield 28, 3) := by decide +kernel
theorem dX7_ask_11 : decode cX7_ask 11 = .ok (.iload_n 1, 1) := by decide +kernel
theorem dX7_ask_12 : decode cX7_ask 12 = .ok (.aload_n 0, 1) := by decide +kernel
theorem dX7_ask_13 : decode cX7_ask 13 = .ok (.getfield 7, 3) := by decide +kernel
theorem dX7_ask_16 : decode cX7_ask 16 = .ok (.iload_n 1, 1) := by decide +kernel
theorem dX7_ask_17 : decode cX7_ask 17 = .ok (.iconst 0, 1) := by decide +kernel
theorem dX7_ask_18 : decode cX7_ask 18 = .ok (.invokestatic 31, 3) := by decide +kernel
theorem dX7_ask_21 : decode cX7_ask 21 = .ok (.iaload, 1) := by decide +kernel
theorem dX7_ask_22 : decode cX7_ask 22 = .ok (.iastore, 1) := by decide +kernel
theorem dX7_ask_23 : decode cX7_ask 23 = .ok (.iinc 1 1, 3) := by decide +kernel
theorem dX7_ask_26 : decode cX7_ask 26 = .ok (.goto (-24), 3) := by decide +kernel
theorem dX7_ask_29 : decode cX7_ask 29 = .ok (.aload_n 0, 1) := by decide +kernel
theorem dX7_ask_30 : decode cX7_ask 30 = .ok (.iconst 0, 1) := by decide +kernel
theorem dX7_ask_31 : decode cX7_ask 31 = .ok (.invokevirtual 89, 3) := by decide +kernel
theorem dX7_ask_34 : decode cX7_ask 34 = .ok (.istore_n 1, 1) := by decide +kernel
theorem dX7_ask_35 : decode cX7_ask 35 = .ok (.aload_n 0, 1) := by decide +kernel
theorem dX7_ask_36 : decode cX7_ask 36 = .ok (.getfield 75, 3) := by decide +kernel
theorem dX7_ask_39 : decode cX7_ask 39 = .ok (.ifCond .eq 11, 3) := by decide +kernel
theorem dX7_ask_42 : decode cX7_ask 42 = .ok (.bipush (-100), 2) := by decide +kernel
theorem dX7_ask_44 : decode cX7_ask 44 = .ok (.aload_n 0, 1) := by decide +kernel
theorem dX7_ask_45 : decode cX7_ask 45 = .ok (.getfield 69, 3) := by decide +kernel
theorem dX7_ask_48 : decode cX7_ask 48 = .ok (.isub, 1) := by decide +kernel
theorem dX7_ask_49 : decode cX7_ask 49 = .ok (.ireturn, 1) := by decide +kernel
theorem dX7_ask_50 : decode cX7_ask 50 = .ok (.aload_n 0, 1) := by decide +kernel
theorem dX7_ask_51 : decode cX7_ask 51 = .ok (.getfield 7, 3) := by decide +kernel
theorem dX7_ask_54 : decode cX7_ask 54 = .ok (.iconst 4, 1) := by decide +kernel
theorem dX7_ask_55 : decode cX7_ask 55 = .ok (.iaload, 1) := by decide +kernel
theorem dX7_ask_56 : decode cX7_ask 56 = .ok (.iload_n 1, 1) := by decide +kernel
theorem dX7_ask_57 : decode cX7_ask 57 = .ok (.iadd, 1) := by decide +kernel
theorem dX7_ask_58 : decode cX7_ask 58 = .ok (.sipush 200, 3) := by decide +kernel
theorem dX7_ask_61 : decode cX7_ask 61 = .ok (.if_icmp .le 7, 3) := by decide +kernel
theorem dX7_ask_64 : decode cX7_ask 64 = .ok (.iconst 1, 1) := by decide +kernel
theorem dX7_ask_65 : decode cX7_ask 65 = .ok (.goto 4, 3) := by decide +kernel
theorem dX7_ask_68 : decode cX7_ask 68 = .ok (.iconst 0, 1) := by decide +kernel
theorem dX7_ask_69 : decode cX7_ask 69 = .ok (.istore_n 2, 1) := by decide +kernel
theorem dX7_ask_70 : decode cX7_ask 70 = .ok (.iconst 0, 1) := by decide +kernel
theorem dX7_ask_71 : decode cX7_ask 71 = .ok (.istore_n 3, 1) := by decide +kernel
theorem dX7_ask_72 : decode cX7_ask 72 = .ok (.iload_n 3, 1) := by decide +kernel
theorem dX7_ask_73 : decode cX7_ask 73 = .ok (.iconst 4, 1) := by decide +kernel
theorem dX7_ask_74 : decode cX7_ask 74 = .ok (.if_icmp .ge 30, 3) := by decide +kernel
theorem dX7_ask_77 : decode cX7_ask 77 = .ok (.iload_n 2, 1) := by decide +kernel
theorem dX7_ask_78 : decode cX7_ask 78 = .ok (.ifCond .ne 14, 3) := by decide +kernel
theorem dX7_ask_81 : decode cX7_ask 81 = .ok (.aload_n 0, 1) := by decide +kernel
theorem dX7_ask_82 : decode cX7_ask 82 = .ok (.getfield 28, 3) := by decide +kernel
theorem dX7_ask_85 : decode cX7_ask 85 = .ok (.iload_n 3, 1) := by decide +kernel
theorem dX7_ask_86 : decode cX7_ask 86 = .ok (.iaload, 1) := by decide +kernel
theorem dX7_ask_87 : decode cX7_ask 87 = .ok (.bipush 6, 2) := by decide +kernel
theorem dX7_ask_89 : decode cX7_ask 89 = .ok (.if_icmp .le 7, 3) := by decide +kernel
theorem dX7_ask_92 : decode cX7_ask 92 = .ok (.iconst 1, 1) := by decide +kernel
theorem dX7_ask_93 : decode cX7_ask 93 = .ok (.goto 4, 3) := by decide +kernel
theorem dX7_ask_96 : decode cX7_ask 96 = .ok (.iconst 0, 1) := by decide +kernel
theorem dX7_ask_97 : decode cX7_ask 97 = .ok (.istore_n 2, 1) := by decide +kernel
theorem dX7_ask_98 : decode cX7_ask 98 = .ok (.iinc 3 1, 3) := by decide +kernel
theorem dX7_ask_101 : decode cX7_ask 101 = .ok (.goto (-29), 3) := by decide +kernel
theorem dX7_ask_104 : decode cX7_ask 104 = .ok (.iload_n 2, 1) := by decide +kernel
theorem dX7_ask_105 : decode cX7_ask 105 = .ok (.ifCond .eq 6, 3) := by decide +kernel
theorem dX7_ask_108 : decode cX7_ask 108 = .ok (.bipush (-3), 2) := by decide +kernel
theorem dX7_ask_110 : decode cX7_ask 110 = .ok (.ireturn, 1) := by decide +kernel
theorem dX7_ask_111 : decode cX7_ask 111 = .ok (.aload_n 0, 1) := by decide +kernel
theorem dX7_ask_112 : decode cX7_ask 112 = .ok (.invokevirtual 46, 3) := by decide +kernel
theorem dX7_ask_115 : decode cX7_ask 115 = .ok (.aload_n 0, 1) := by decide +kernel
theorem dX7_ask_116 : decode cX7_ask 116 = .ok (.iconst 1, 1) := by decide +kernel
theorem dX7_ask_117 : decode cX7_ask 117 = .ok (.invokevirtual 89, 3) := by decide +kernel
theorem dX7_ask_120 : decode cX7_ask 120 = .ok (.ireturn, 1) := by decide +kernel
theorem dX7_type_0 : decode cX7_type 0 = .ok (.aload_n 0, 1) := by decide +kernel
theorem dX7_type_1 : decode cX7_type 1 = .ok (.getfield 72, 3) := by decide +kernel
theorem dX7_type_4 : decode cX7_type 4 = .ok (.bipush 60, 2) := by decide +kernel
theorem dX7_type_6 : decode cX7_type 6 = .ok (.if_icmp .ne 6, 3) := by decide +kernel
theorem dX7_type_9 : decode cX7_type 9 = .ok (.bipush (-3), 2) := by decide +kernel
theorem dX7_type_11 : decode cX7_type 11 = .ok (.ireturn, 1) := by decide +kernel
theorem dX7_type_12 : decode cX7_type 12 = .ok (.aload_n 0, 1) := by decide +kernel
theorem dX7_type_13 : decode cX7_type 13 = .ok (.getfield 22, 3) := by decide +kernel
theorem dX7_type_16 : decode cX7_type 16 = .ok (.aload_n 0, 1) := by decide +kernel
theorem dX7_type_17 : decode cX7_type 17 = .ok (.getfield 72, 3) := by decide +kernel
theorem dX7_type_20 : decode cX7_type 20 = .ok (.iload_n 1, 1) := by decide +kernel
theorem dX7_type_21 : decode cX7_type 21 = .ok (.iastore, 1) := by decide +kernel
theorem dX7_type_22 : decode cX7_type 22 = .ok (.aload_n 0, 1) := by decide +kernel
theorem dX7_type_23 : decode cX7_type 23 = .ok (.dup, 1) := by decide +kernel
theorem dX7_type_24 : decode cX7_type 24 = .ok (.getfield 72, 3) := by decide +kernel
theorem dX7_type_27 : decode cX7_type 27 = .ok (.iconst 1, 1) := by decide +kernel
theorem dX7_type_28 : decode cX7_type 28 = .ok (.iadd, 1) := by decide +kernel
theorem dX7_type_29 : decode cX7_type 29 = .ok (.putfield 72, 3) := by decide +kernel
theorem dX7_type_32 : decode cX7_type 32 = .ok (.aload_n 0, 1) := by decide +kernel
theorem dX7_type_33 : decode cX7_type 33 = .ok (.getfield 72, 3) := by decide +kernel
theorem dX7_type_36 : decode cX7_type 36 = .ok (.ireturn, 1) := by decide +kernel
theorem dX7_clearText_0 : decode cX7_clearText 0 = .ok (.aload_n 0, 1) := by decide +kernel
theorem dX7_clearText_1 : decode cX7_clearText 1 = .ok (.getfield 72, 3) := by decide +kernel
theorem dX7_clearText_4 : decode cX7_clearText 4 = .ok (.istore_n 1, 1) := by decide +kernel
theorem dX7_clearText_5 : decode cX7_clearText 5 = .ok (.aload_n 0, 1) := by decide +kernel
theorem dX7_clearText_6 : decode cX7_clearText 6 = .ok (.iconst 0, 1) := by decide +kernel
theorem dX7_clearText_7 : decode cX7_clearText 7 = .ok (.putfield 72, 3) := by decide +kernel
theorem dX7_clearText_10 : decode cX7_clearText 10 = .ok (.iload_n 1, 1) := by decide +kernel
theorem dX7_clearText_11 : decode cX7_clearText 11 = .ok (.ireturn, 1) := by decide +kernel
theorem dX7_freeTag_0 : decode cX7_freeTag 0 = .ok (.iconst 0, 1) := by decide +kernel
theorem dX7_freeTag_1 : decode cX7_freeTag 1 = .ok (.istore_n 1, 1) := by decide +kernel
theorem dX7_freeTag_2 : decode cX7_freeTag 2 = .ok (.iload_n 1, 1) := by decide +kernel
theorem dX7_freeTag_3 : decode cX7_freeTag 3 = .ok (.aload_n 0, 1) := by decide +kernel
theorem dX7_freeTag_4 : decode cX7_freeTag 4 = .ok (.getfield 7, 3) := by decide +kernel
theorem dX7_freeTag_7 : decode cX7_freeTag 7 = .ok (.iconst 1, 1) := by decide +kernel
theorem dX7_freeTag_8 : decode cX7_freeTag 8 = .ok (.iaload, 1) := by decide +kernel
theorem dX7_freeTag_9 : decode cX7_freeTag 9 = .ok (.if_icmp .ge 25, 3) := by decide +kernel
theorem dX7_freeTag_12 : decode cX7_freeTag 12 = .ok (.aload_n 0, 1) := by decide +kernel
theorem dX7_freeTag_13 : decode cX7_freeTag 13 = .ok (.getfield 7, 3) := by decide +kernel
theorem dX7_freeTag_16 : decode cX7_freeTag 16 = .ok (.bipush 13, 2) := by decide +kernel
theorem dX7_freeTag_18 : decode cX7_freeTag 18 = .ok (.iload_n 1, 1) := by decide +kernel
theorem dX7_freeTag_19 : decode cX7_freeTag 19 = .ok (.iadd, 1) := by decide +kernel
theorem dX7_freeTag_20 : decode cX7_freeTag 20 = .ok (.iaload, 1) := by decide +kernel
theorem dX7_freeTag_21 : decode cX7_freeTag 21 = .ok (.bipush (-5), 2) := by decide +kernel
theorem dX7_freeTag_23 : decode cX7_freeTag 23 = .ok (.if_icmp .ne 5, 3) := by decide +kernel
theorem dX7_freeTag_26 : decode cX7_freeTag 26 = .ok (.iload_n 1, 1) := by decide +kernel
theorem dX7_freeTag_27 : decode cX7_freeTag 27 = .ok (.ireturn, 1) := by decide +kernel
theorem dX7_freeTag_28 : decode cX7_freeTag 28 = .ok (.iinc 1 1, 3) := by decide +kernel
theorem dX7_freeTag_31 : decode cX7_freeTag 31 = .ok (.goto (-29), 3) := by decide +kernel
theorem dX7_freeTag_34 : decode cX7_freeTag 34 = .ok (.bipush (-5), 2) := by decide +kernel
theorem dX7_freeTag_36 : decode cX7_freeTag 36 = .ok (.ireturn, 1) := by decide +kernel
theorem dX7_holds_0 : decode cX7_holds 0 = .ok (.iconst 0, 1) := by decide +kernel
theorem dX7_holds_1 : decode cX7_holds 1 = .ok (.istore_n 2, 1) := by decide +kernel
theorem dX7_holds_2 : decode cX7_holds 2 = .ok (.iconst 0, 1) := by decide +kernel
theorem dX7_holds_3 : decode cX7_holds 3 = .ok (.istore_n 3, 1) := by decide +kernel
theorem dX7_holds_4 : decode cX7_holds 4 = .ok (.iload_n 3, 1) := by decide +kernel
theorem dX7_holds_5 : decode cX7_holds 5 = .ok (.aload_n 0, 1) := by decide +kernel
theorem dX7_holds_6 : decode cX7_holds 6 = .ok (.getfield 7, 3) := by decide +kernel
theorem dX7_holds_9 : decode cX7_holds 9 = .ok (.iconst 1, 1) := by decide +kernel
theorem dX7_holds_10 : decode cX7_holds 10 = .ok (.iaload, 1) := by decide +kernel
theorem dX7_holds_11 : decode cX7_holds 11 = .ok (.if_icmp .ge 53, 3) := by decide +kernel
theorem dX7_holds_14 : decode cX7_holds 14 = .ok (.iload_n 2, 1) := by decide +kernel
theorem dX7_holds_15 : decode cX7_holds 15 = .ok (.aload_n 0, 1) := by decide +kernel
theorem dX7_holds_16 : decode cX7_holds 16 = .ok (.getfield 7, 3) := by decide +kernel
theorem dX7_holds_19 : decode cX7_holds 19 = .ok (.bipush 13, 2) := by decide +kernel
theorem dX7_holds_21 : decode cX7_holds 21 = .ok (.iload_n 3, 1) := by decide +kernel
theorem dX7_holds_22 : decode cX7_holds 22 = .ok (.iadd, 1) := by decide +kernel
theorem dX7_holds_23 : decode cX7_holds 23 = .ok (.iaload, 1) := by decide +kernel
theorem dX7_holds_24 : decode cX7_holds 24 = .ok (.bipush (-5), 2) := by decide +kernel
theorem dX7_holds_26 : decode cX7_holds 26 = .ok (.if_icmp .eq 29, 3) := by decide +kernel
theorem dX7_holds_29 : decode cX7_holds 29 = .ok (.aload_n 0, 1) := by decide +kernel
theorem dX7_holds_30 : decode cX7_holds 30 = .ok (.getfield 7, 3) := by decide +kernel
theorem dX7_holds_33 : decode cX7_holds 33 = .ok (.aload_n 0, 1) := by decide +kernel
theorem dX7_holds_34 : decode cX7_holds 34 = .ok (.getfield 7, 3) := by decide +kernel
theorem dX7_holds_37 : decode cX7_holds 37 = .ok (.bipush 13, 2) := by decide +kernel
theorem dX7_holds_39 : decode cX7_holds 39 = .ok (.iload_n 3, 1) := by decide +kernel
theorem dX7_holds_40 : decode cX7_holds 40 = .ok (.iadd, 1) := by decide +kernel
theorem dX7_holds_41 : decode cX7_holds 41 = .ok (.iaload, 1) := by decide +kernel
theorem dX7_holds_42 : decode cX7_holds 42 = .ok (.iconst 0, 1) := by decide +kernel
theorem dX7_holds_43 : decode cX7_holds 43 = .ok (.invokestatic 59, 3) := by decide +kernel
theorem dX7_holds_46 : decode cX7_holds 46 = .ok (.iaload, 1) := by decide +kernel
theorem dX7_holds_47 : decode cX7_holds 47 = .ok (.iload_n 1, 1) := by decide +kernel
theorem dX7_holds_48 : decode cX7_holds 48 = .ok (.if_icmp .ne 7, 3) := by decide +kernel
theorem dX7_holds_51 : decode cX7_holds 51 = .ok (.iconst 1, 1) := by decide +kernel
theorem dX7_holds_52 : decode cX7_holds 52 = .ok (.goto 4, 3) := by decide +kernel
theorem dX7_holds_55 : decode cX7_holds 55 = .ok (.iconst 0, 1) := by decide +kernel
theorem dX7_holds_56 : decode cX7_holds 56 = .ok (.iadd, 1) := by decide +kernel
theorem dX7_holds_57 : decode cX7_holds 57 = .ok (.istore_n 2, 1) := by decide +kernel
theorem dX7_holds_58 : decode cX7_holds 58 = .ok (.iinc 3 1, 3) := by decide +kernel
theorem dX7_holds_61 : decode cX7_holds 61 = .ok (.goto (-57), 3) := by decide +kernel
theorem dX7_holds_64 : decode cX7_holds 64 = .ok (.iload_n 2, 1) := by decide +kernel
theorem dX7_holds_65 : decode cX7_holds 65 = .ok (.ireturn, 1) := by decide +kernel
theorem dX7_doAll_0 : decode cX7_doAll 0 = .ok (.iconst 0, 1) := by decide +kernel
theorem dX7_doAll_1 : decode cX7_doAll 1 = .ok (.istore_n 1, 1) := by decide +kernel
theorem dX7_doAll_2 : decode cX7_doAll 2 = .ok (.iload_n 1, 1) := by decide +kernel
theorem dX7_doAll_3 : decode cX7_doAll 3 = .ok (.iconst 4, 1) := by decide +kernel
theorem dX7_doAll_4 : decode cX7_doAll 4 = .ok (.if_icmp .ge 167, 3) := by decide +kernel
theorem dX7_doAll_7 : decode cX7_doAll 7 = .ok (.iconst 0, 1) := by decide +kernel
theorem dX7_doAll_8 : decode cX7_doAll 8 = .ok (.istore_n 2, 1) := by decide +kernel
theorem dX7_doAll_9 : decode cX7_doAll 9 = .ok (.iload_n 2, 1) := by decide +kernel
theorem dX7_doAll_10 : decode cX7_doAll 10 = .ok (.aload_n 0, 1) := by decide +kernel
theorem dX7_doAll_11 : decode cX7_doAll 11 = .ok (.getfield 7, 3) := by decide +kernel
theorem dX7_doAll_14 : decode cX7_doAll 14 = .ok (.iload_n 1, 1) := by decide +kernel
theorem dX7_doAll_15 : decode cX7_doAll 15 = .ok (.bipush 19, 2) := by decide +kernel
theorem dX7_doAll_17 : decode cX7_doAll 17 = .ok (.invokestatic 35, 3) := by decide +kernel
theorem dX7_doAll_20 : decode cX7_doAll 20 = .ok (.iaload, 1) := by decide +kernel
theorem dX7_doAll_21 : decode cX7_doAll 21 = .ok (.if_icmp .ge 144, 3) := by decide +kernel
theorem dX7_doAll_24 : decode cX7_doAll 24 = .ok (.aload_n 0, 1) := by decide +kernel
theorem dX7_doAll_25 : decode cX7_doAll 25 = .ok (.getfield 7, 3) := by decide +kernel
theorem dX7_doAll_28 : decode cX7_doAll 28 = .ok (.iload_n 1, 1) := by decide +kernel
theorem dX7_doAll_29 : decode cX7_doAll 29 = .ok (.bipush 20, 2) := by decide +kernel
theorem dX7_doAll_31 : decode cX7_doAll 31 = .ok (.iload_n 2, 1) := by decide +kernel
theorem dX7_doAll_32 : decode cX7_doAll 32 = .ok (.iadd, 1) := by decide +kernel
theorem dX7_doAll_33 : decode cX7_doAll 33 = .ok (.invokestatic 35, 3) := by decide +kernel
theorem dX7_doAll_36 : decode cX7_doAll 36 = .ok (.iaload, 1) := by decide +kernel
theorem dX7_doAll_37 : decode cX7_doAll 37 = .ok (.istore_n 3, 1) := by decide +kernel
theorem dX7_doAll_38 : decode cX7_doAll 38 = .ok (.aload_n 0, 1) := by decide +kernel
theorem dX7_doAll_39 : decode cX7_doAll 39 = .ok (.getfield 7, 3) := by decide +kernel
theorem dX7_doAll_42 : decode cX7_doAll 42 = .ok (.iload_n 3, 1) := by decide +kernel
theorem dX7_doAll_43 : decode cX7_doAll 43 = .ok (.iconst 4, 1) := by decide +kernel
theorem dX7_doAll_44 : decode cX7_doAll 44 = .ok (.invokestatic 59, 3) := by decide +kernel
theorem dX7_doAll_47 : decode cX7_doAll 47 = .ok (.iaload, 1) := by decide +kernel
theorem dX7_doAll_48 : decode cX7_doAll 48 = .ok (.iconst 1, 1) := by decide +kernel
theorem dX7_doAll_49 : decode cX7_doAll 49 = .ok (.if_icmp .ne 110, 3) := by decide +kernel
theorem dX7_doAll_52 : decode cX7_doAll 52 = .ok (.aload_n 0, 1) := by decide +kernel
theorem dX7_doAll_53 : decode cX7_doAll 53 = .ok (.getfield 7, 3) := by decide +kernel
theorem dX7_doAll_56 : decode cX7_doAll 56 = .ok (.iload_n 3, 1) := by decide +kernel
theorem dX7_doAll_57 : decode cX7_doAll 57 = .ok (.bipush 10, 2) := by decide +kernel
theorem dX7_doAll_59 : decode cX7_doAll 59 = .ok (.invokestatic 59, 3) := by decide +kernel
theorem dX7_doAll_62 : decode cX7_doAll 62 = .ok (.iaload, 1) := by decide +kernel
theorem dX7_doAll_63 : decode cX7_doAll 63 = .ok (.aload_n 0, 1) := by decide +kernel
theorem dX7_doAll_64 : decode cX7_doAll 64 = .ok (.getfield 7, 3) := by decide +kernel
theorem dX7_doAll_67 : decode cX7_doAll 67 = .ok (.iconst 0, 1) := by decide +kernel
theorem dX7_doAll_68 : decode cX7_doAll 68 = .ok (.iaload, 1) := by decide +kernel
theorem dX7_doAll_69 : decode cX7_doAll 69 = .ok (.if_icmp .ne 90, 3) := by decide +kernel
theorem dX7_doAll_72 : decode cX7_doAll 72 = .ok (.iload_n 1, 1) := by decide +kernel
theorem dX7_doAll_73 : decode cX7_doAll 73 = .ok (.aload_n 0, 1) := by decide +kernel
theorem dX7_doAll_74 : decode cX7_doAll 74 = .ok (.getfield 7, 3) := by decide +kernel
theorem dX7_doAll_77 : decode cX7_doAll 77 = .ok (.iload_n 3, 1) := by decide +kernel
theorem dX7_doAll_78 : decode cX7_doAll 78 = .ok (.iconst 2, 1) := by decide +kernel
theorem dX7_doAll_79 : decode cX7_doAll 79 = .ok (.invokestatic 59, 3) := by decide +kernel
theorem dX7_doAll_82 : decode cX7_doAll 82 = .ok (.iaload, 1) := by decide +kernel
theorem dX7_doAll_83 : decode cX7_doAll 83 = .ok (.invokestatic 35, 3) := by decide +kernel
theorem dX7_doAll_86 : decode cX7_doAll 86 = .ok (.istore 4, 2) := by decide +kernel
theorem dX7_doAll_88 : decode cX7_doAll 88 = .ok (.aload_n 0, 1) := by decide +kernel
theorem dX7_doAll_89 : decode cX7_doAll 89 = .ok (.getfield 7, 3) := by decide +kernel
theorem dX7_doAll_92 : decode cX7_doAll 92 = .ok (.iload_n 3, 1) := by decide +kernel
theorem dX7_doAll_93 : decode cX7_doAll 93 = .ok (.bipush 6, 2) := by decide +kernel
theorem dX7_doAll_95 : decode cX7_doAll 95 = .ok (.invokestatic 59, 3) := by decide +kernel
theorem dX7_doAll_98 : decode cX7_doAll 98 = .ok (.aload_n 0, 1) := by decide +kernel
theorem dX7_doAll_99 : decode cX7_doAll 99 = .ok (.getfield 7, 3) := by decide +kernel
theorem dX7_doAll_102 : decode cX7_doAll 102 = .ok (.iload 4, 2) := by decide +kernel
theorem dX7_doAll_104 : decode cX7_doAll 104 = .ok (.iaload, 1) := by decide +kernel
theorem dX7_doAll_105 : decode cX7_doAll 105 = .ok (.iastore, 1) := by decide +kernel
theorem dX7_doAll_106 : decode cX7_doAll 106 = .ok (.aload_n 0, 1) := by decide +kernel
theorem dX7_doAll_107 : decode cX7_doAll 107 = .ok (.getfield 7, 3) := by decide +kernel
theorem dX7_doAll_110 : decode cX7_doAll 110 = .ok (.iload 4, 2) := by decide +kernel
theorem dX7_doAll_112 : decode cX7_doAll 112 = .ok (.aload_n 0, 1) := by decide +kernel
theorem dX7_doAll_113 : decode cX7_doAll 113 = .ok (.getfield 7, 3) := by decide +kernel
theorem dX7_doAll_116 : decode cX7_doAll 116 = .ok (.iload_n 3, 1) := by decide +kernel
theorem dX7_doAll_117 : decode cX7_doAll 117 = .ok (.iconst 3, 1) := by decide +kernel
theorem dX7_doAll_118 : decode cX7_doAll 118 = .ok (.invokestatic 59, 3) := by decide +kernel
theorem dX7_doAll_121 : decode cX7_doAll 121 = .ok (.iaload, 1) := by decide +kernel
theorem dX7_doAll_122 : decode cX7_doAll 122 = .ok (.bipush (-5), 2) := by decide +kernel
theorem dX7_doAll_124 : decode cX7_doAll 124 = .ok (.if_icmp .ne 13, 3) := by decide +kernel
theorem dX7_doAll_127 : decode cX7_doAll 127 = .ok (.aload_n 0, 1) := by decide +kernel
theorem dX7_doAll_128 : decode cX7_doAll 128 = .ok (.getfield 7, 3) := by decide +kernel
theorem dX7_doAll_131 : decode cX7_doAll 131 = .ok (.iload 4, 2) := by decide +kernel
theorem dX7_doAll_133 : decode cX7_doAll 133 = .ok (.iaload, 1) := by decide +kernel
theorem dX7_doAll_134 : decode cX7_doAll 134 = .ok (.goto 13, 3) := by decide +kernel
theorem dX7_doAll_137 : decode cX7_doAll 137 = .ok (.aload_n 0, 1) := by decide +kernel
theorem dX7_doAll_138 : decode cX7_doAll 138 = .ok (.getfield 7, 3) := by decide +kernel
theorem dX7_doAll_141 : decode cX7_doAll 141 = .ok (.iload_n 3, 1) := by decide +kernel
theorem dX7_doAll_142 : decode cX7_doAll 142 = .ok (.iconst 3, 1) := by decide +kernel
theorem dX7_doAll_143 : decode cX7_doAll 143 = .ok (.invokestatic 59, 3) := by decide +kernel
theorem dX7_doAll_146 : decode cX7_doAll 146 = .ok (.iaload, 1) := by decide +kernel
theorem dX7_doAll_147 : decode cX7_doAll 147 = .ok (.iastore, 1) := by decide +kernel
theorem dX7_doAll_148 : decode cX7_doAll 148 = .ok (.aload_n 0, 1) := by decide +kernel
theorem dX7_doAll_149 : decode cX7_doAll 149 = .ok (.getfield 7, 3) := by decide +kernel
theorem dX7_doAll_152 : decode cX7_doAll 152 = .ok (.iload_n 3, 1) := by decide +kernel
theorem dX7_doAll_153 : decode cX7_doAll 153 = .ok (.iconst 4, 1) := by decide +kernel
theorem dX7_doAll_154 : decode cX7_doAll 154 = .ok (.invokestatic 59, 3) := by decide +kernel
theorem dX7_doAll_157 : decode cX7_doAll 157 = .ok (.iconst 2, 1) := by decide +kernel
theorem dX7_doAll_158 : decode cX7_doAll 158 = .ok (.iastore, 1) := by decide +kernel
theorem dX7_doAll_159 : decode cX7_doAll 159 = .ok (.iinc 2 1, 3) := by decide +kernel
theorem dX7_doAll_162 : decode cX7_doAll 162 = .ok (.goto (-153), 3) := by decide +kernel
theorem dX7_doAll_165 : decode cX7_doAll 165 = .ok (.iinc 1 1, 3) := by decide +kernel
theorem dX7_doAll_168 : decode cX7_doAll 168 = .ok (.goto (-166), 3) := by decide +kernel
theorem dX7_doAll_171 : decode cX7_doAll 171 = .ok (.return_, 1) := by decide +kernel
theorem dX7_answering_0 : decode cX7_answering 0 = .ok (.bipush (-5), 2) := by decide +kernel
theorem dX7_answering_2 : decode cX7_answering 2 = .ok (.istore_n 2, 1) := by decide +kernel
theorem dX7_answering_3 : decode cX7_answering 3 = .ok (.aload_n 0, 1) := by decide +kernel
theorem dX7_answering_4 : decode cX7_answering 4 = .ok (.getfield 7, 3) := by decide +kernel
theorem dX7_answering_7 : decode cX7_answering 7 = .ok (.iload_n 1, 1) := by decide +kernel
theorem dX7_answering_8 : decode cX7_answering 8 = .ok (.bipush 18, 2) := by decide +kernel
theorem dX7_answering_10 : decode cX7_answering 10 = .ok (.invokestatic 35, 3) := by decide +kernel
theorem dX7_answering_13 : decode cX7_answering 13 = .ok (.iaload, 1) := by decide +kernel
theorem dX7_answering_14 : decode cX7_answering 14 = .ok (.ifCond .ne 22, 3) := by decide +kernel
theorem dX7_answering_17 : decode cX7_answering 17 = .ok (.aload_n 0, 1) := by decide +kernel
theorem dX7_answering_18 : decode cX7_answering 18 = .ok (.getfield 7, 3) := by decide +kernel
theorem dX7_answering_21 : decode cX7_answering 21 = .ok (.iload_n 1, 1) := by decide +kernel
theorem dX7_answering_22 : decode cX7_answering 22 = .ok (.bipush 19, 2) := by decide +kernel
theorem dX7_answering_24 : decode cX7_answering 24 = .ok (.invokestatic 35, 3) := by decide +kernel
theorem dX7_answering_27 : decode cX7_answering 27 = .ok (.iaload, 1) := by decide +kernel
theorem dX7_answering_28 : decode cX7_answering 28 = .ok (.iconst 1, 1) := by decide +kernel
theorem dX7_answering_29 : decode cX7_answering 29 = .ok (.if_icmp .le 7, 3) := by decide +kernel
theorem dX7_answering_32 : decode cX7_answering 32 = .ok (.iconst 1, 1) := by decide +kernel
theorem dX7_answering_33 : decode cX7_answering 33 = .ok (.goto 14, 3) := by decide +kernel
theorem dX7_answering_36 : decode cX7_answering 36 = .ok (.aload_n 0, 1) := by decide +kernel
theorem dX7_answering_37 : decode cX7_answering 37 = .ok (.getfield 7, 3) := by decide +kernel
theorem dX7_answering_40 : decode cX7_answering 40 = .ok (.iload_n 1, 1) := by decide +kernel
theorem dX7_answering_41 : decode cX7_answering 41 = .ok (.bipush 19, 2) := by decide +kernel
theorem dX7_answering_43 : decode cX7_answering 43 = .ok (.invokestatic 35, 3) := by decide +kernel
theorem dX7_answering_46 : decode cX7_answering 46 = .ok (.iaload, 1) := by decide +kernel
theorem dX7_answering_47 : decode cX7_answering 47 = .ok (.istore_n 3, 1) := by decide +kernel
theorem dX7_answering_48 : decode cX7_answering 48 = .ok (.iconst 0, 1) := by decide +kernel
theorem dX7_answering_49 : decode cX7_answering 49 = .ok (.istore 4, 2) := by decide +kernel
theorem dX7_answering_51 : decode cX7_answering 51 = .ok (.iload 4, 2) := by decide +kernel
theorem dX7_answering_53 : decode cX7_answering 53 = .ok (.iload_n 3, 1) := by decide +kernel
theorem dX7_answering_54 : decode cX7_answering 54 = .ok (.if_icmp .ge 103, 3) := by decide +kernel
theorem dX7_answering_57 : decode cX7_answering 57 = .ok (.aload_n 0, 1) := by decide +kernel
theorem dX7_answering_58 : decode cX7_answering 58 = .ok (.getfield 7, 3) := by decide +kernel
theorem dX7_answering_61 : decode cX7_answering 61 = .ok (.iload_n 1, 1) := by decide +kernel
theorem dX7_answering_62 : decode cX7_answering 62 = .ok (.bipush 20, 2) := by decide +kernel
theorem dX7_answering_64 : decode cX7_answering 64 = .ok (.iload 4, 2) := by decide +kernel
theorem dX7_answering_66 : decode cX7_answering 66 = .ok (.iadd, 1) := by decide +kernel
theorem dX7_answering_67 : decode cX7_answering 67 = .ok (.invokestatic 35, 3) := by decide +kernel
theorem dX7_answering_70 : decode cX7_answering 70 = .ok (.iaload, 1) := by decide +kernel
theorem dX7_answering_71 : decode cX7_answering 71 = .ok (.istore 5, 2) := by decide +kernel
theorem dX7_answering_73 : decode cX7_answering 73 = .ok (.iload_n 2, 1) := by decide +kernel
theorem dX7_answering_74 : decode cX7_answering 74 = .ok (.bipush (-5), 2) := by decide +kernel
theorem dX7_answering_76 : decode cX7_answering 76 = .ok (.if_icmp .eq 41, 3) := by decide +kernel
theorem dX7_answering_79 : decode cX7_answering 79 = .ok (.aload_n 0, 1) := by decide +kernel
theorem dX7_answering_80 : decode cX7_answering 80 = .ok (.getfield 7, 3) := by decide +kernel
theorem dX7_answering_83 : decode cX7_answering 83 = .ok (.iload 5, 2) := by decide +kernel
theorem dX7_answering_85 : decode cX7_answering 85 = .ok (.bipush 10, 2) := by decide +kernel
theorem dX7_answering_87 : decode cX7_answering 87 = .ok (.invokestatic 59, 3) := by decide +kernel
theorem dX7_answering_90 : decode cX7_answering 90 = .ok (.iaload, 1) := by decide +kernel
theorem dX7_answering_91 : decode cX7_answering 91 = .ok (.aload_n 0, 1) := by decide +kernel
theorem dX7_answering_92 : decode cX7_answering 92 = .ok (.getfield 7, 3) := by decide +kernel
theorem dX7_answering_95 : decode cX7_answering 95 = .ok (.aload_n 0, 1) := by decide +kernel
theorem dX7_answering_96 : decode cX7_answering 96 = .ok (.getfield 7, 3) := by decide +kernel
theorem dX7_answering_99 : decode cX7_answering 99 = .ok (.iload_n 1, 1) := by decide +kernel
theorem dX7_answering_100 : decode cX7_answering 100 = .ok (.bipush 20, 2) := by decide +kernel
theorem dX7_answering_102 : decode cX7_answering 102 = .ok (.iload_n 2, 1) := by decide +kernel
theorem dX7_answering_103 : decode cX7_answering 103 = .ok (.iadd, 1) := by decide +kernel
theorem dX7_answering_104 : decode cX7_answering 104 = .ok (.invokestatic 35, 3) := by decide +kernel
theorem dX7_answering_107 : decode cX7_answering 107 = .ok (.iaload, 1) := by decide +kernel
theorem dX7_answering_108 : decode cX7_answering 108 = .ok (.bipush 10, 2) := by decide +kernel
theorem dX7_answering_110 : decode cX7_answering 110 = .ok (.invokestatic 59, 3) := by decide +kernel
theorem dX7_answering_113 : decode cX7_answering 113 = .ok (.iaload, 1) := by decide +kernel
theorem dX7_answering_114 : decode cX7_answering 114 = .ok (.if_icmp .ge 7, 3) := by decide +kernel
theorem dX7_answering_117 : decode cX7_answering 117 = .ok (.iconst 1, 1) := by decide +kernel
theorem dX7_answering_118 : decode cX7_answering 118 = .ok (.goto 4, 3) := by decide +kernel
theorem dX7_answering_121 : decode cX7_answering 121 = .ok (.iconst 0, 1) := by decide +kernel
theorem dX7_answering_122 : decode cX7_answering 122 = .ok (.istore 6, 2) := by decide +kernel
theorem dX7_answering_124 : decode cX7_answering 124 = .ok (.aload_n 0, 1) := by decide +kernel
theorem dX7_answering_125 : decode cX7_answering 125 = .ok (.getfield 7, 3) := by decide +kernel
theorem dX7_answering_128 : decode cX7_answering 128 = .ok (.iload 5, 2) := by decide +kernel
theorem dX7_answering_130 : decode cX7_answering 130 = .ok (.iconst 4, 1) := by decide +kernel
theorem dX7_answering_131 : decode cX7_answering 131 = .ok (.invokestatic 59, 3) := by decide +kernel
theorem dX7_answering_134 : decode cX7_answering 134 = .ok (.iaload, 1) := by decide +kernel
theorem dX7_answering_135 : decode cX7_answering 135 = .ok (.iconst 2, 1) := by decide +kernel
theorem dX7_answering_136 : decode cX7_answering 136 = .ok (.if_icmp .ne 13, 3) := by decide +kernel
theorem dX7_answering_139 : decode cX7_answering 139 = .ok (.iload 6, 2) := by decide +kernel
theorem dX7_answering_141 : decode cX7_answering 141 = .ok (.ifCond .eq 8, 3) := by decide +kernel
theorem dX7_answering_144 : decode cX7_answering 144 = .ok (.iload 4, 2) := by decide +kernel
theorem dX7_answering_146 : decode cX7_answering 146 = .ok (.goto 4, 3) := by decide +kernel
theorem dX7_answering_149 : decode cX7_answering 149 = .ok (.iload_n 2, 1) := by decide +kernel
theorem dX7_answering_150 : decode cX7_answering 150 = .ok (.istore_n 2, 1) := by decide +kernel
theorem dX7_answering_151 : decode cX7_answering 151 = .ok (.iinc 4 1, 3) := by decide +kernel
theorem dX7_answering_154 : decode cX7_answering 154 = .ok (.goto (-103), 3) := by decide +kernel
theorem dX7_answering_157 : decode cX7_answering 157 = .ok (.iload_n 2, 1) := by decide +kernel
theorem dX7_answering_158 : decode cX7_answering 158 = .ok (.ireturn, 1) := by decide +kernel
theorem dX7_targetThatGoes_0 : decode cX7_targetThatGoes 0 = .ok (.iconst 0, 1) := by decide +kernel
theorem dX7_targetThatGoes_1 : decode cX7_targetThatGoes 1 = .ok (.istore_n 1, 1) := by decide +kernel
theorem dX7_targetThatGoes_2 : decode cX7_targetThatGoes 2 = .ok (.iload_n 1, 1) := by decide +kernel
theorem dX7_targetThatGoes_3 : decode cX7_targetThatGoes 3 = .ok (.iconst 4, 1) := by decide +kernel
theorem dX7_targetThatGoes_4 : decode cX7_targetThatGoes 4 = .ok (.if_icmp .ge 33, 3) := by decide +kernel
