theorem dX7_targetThatGoes_7 : decode cX7_targetThatGoes 7 = .ok (.aload_n 0, 1) := by decide +kernel
theorem dX7_targetThatGoes_8 : decode cX7_targetThatGoes 8 = .ok (.getfield 7, 3) := by decide +kernel
theorem dX7_targetThatGoes_11 : decode cX7_targetThatGoes 11 = .ok (.bipush 6, 2) := by decide +kernel
theorem dX7_targetThatGoes_13 : decode cX7_targetThatGoes 13 = .ok (.iaload, 1) := by decide +kernel
theorem dX7_targetThatGoes_14 : decode cX7_targetThatGoes 14 = .ok (.iload_n 1, 1) := by decide +kernel
theorem dX7_targetThatGoes_15 : decode cX7_targetThatGoes 15 = .ok (.iadd, 1) := by decide +kernel
theorem dX7_targetThatGoes_16 : decode cX7_targetThatGoes 16 = .ok (.iconst 4, 1) := by decide +kernel
theorem dX7_targetThatGoes_17 : decode cX7_targetThatGoes 17 = .ok (.irem, 1) := by decide +kernel
theorem dX7_targetThatGoes_18 : decode cX7_targetThatGoes 18 = .ok (.istore_n 2, 1) := by decide +kernel
theorem dX7_targetThatGoes_19 : decode cX7_targetThatGoes 19 = .ok (.aload_n 0, 1) := by decide +kernel
theorem dX7_targetThatGoes_20 : decode cX7_targetThatGoes 20 = .ok (.iload_n 2, 1) := by decide +kernel
theorem dX7_targetThatGoes_21 : decode cX7_targetThatGoes 21 = .ok (.invokevirtual 93, 3) := by decide +kernel
theorem dX7_targetThatGoes_24 : decode cX7_targetThatGoes 24 = .ok (.bipush (-5), 2) := by decide +kernel
theorem dX7_targetThatGoes_26 : decode cX7_targetThatGoes 26 = .ok (.if_icmp .eq 5, 3) := by decide +kernel
theorem dX7_targetThatGoes_29 : decode cX7_targetThatGoes 29 = .ok (.iload_n 2, 1) := by decide +kernel
theorem dX7_targetThatGoes_30 : decode cX7_targetThatGoes 30 = .ok (.ireturn, 1) := by decide +kernel
theorem dX7_targetThatGoes_31 : decode cX7_targetThatGoes 31 = .ok (.iinc 1 1, 3) := by decide +kernel
theorem dX7_targetThatGoes_34 : decode cX7_targetThatGoes 34 = .ok (.goto (-32), 3) := by decide +kernel
theorem dX7_targetThatGoes_37 : decode cX7_targetThatGoes 37 = .ok (.bipush (-5), 2) := by decide +kernel
theorem dX7_targetThatGoes_39 : decode cX7_targetThatGoes 39 = .ok (.ireturn, 1) := by decide +kernel
theorem dX7_canSend_0 : decode cX7_canSend 0 = .ok (.aload_n 0, 1) := by decide +kernel
theorem dX7_canSend_1 : decode cX7_canSend 1 = .ok (.getfield 7, 3) := by decide +kernel
theorem dX7_canSend_4 : decode cX7_canSend 4 = .ok (.iload_n 1, 1) := by decide +kernel
theorem dX7_canSend_5 : decode cX7_canSend 5 = .ok (.iconst 0, 1) := by decide +kernel
theorem dX7_canSend_6 : decode cX7_canSend 6 = .ok (.invokestatic 31, 3) := by decide +kernel
theorem dX7_canSend_9 : decode cX7_canSend 9 = .ok (.iaload, 1) := by decide +kernel
theorem dX7_canSend_10 : decode cX7_canSend 10 = .ok (.ifCond .le 55, 3) := by decide +kernel
theorem dX7_canSend_13 : decode cX7_canSend 13 = .ok (.aload_n 0, 1) := by decide +kernel
theorem dX7_canSend_14 : decode cX7_canSend 14 = .ok (.getfield 7, 3) := by decide +kernel
theorem dX7_canSend_17 : decode cX7_canSend 17 = .ok (.iconst 0, 1) := by decide +kernel
theorem dX7_canSend_18 : decode cX7_canSend 18 = .ok (.iaload, 1) := by decide +kernel
theorem dX7_canSend_19 : decode cX7_canSend 19 = .ok (.aload_n 0, 1) := by decide +kernel
theorem dX7_canSend_20 : decode cX7_canSend 20 = .ok (.getfield 7, 3) := by decide +kernel
theorem dX7_canSend_23 : decode cX7_canSend 23 = .ok (.iload_n 1, 1) := by decide +kernel
theorem dX7_canSend_24 : decode cX7_canSend 24 = .ok (.bipush 9, 2) := by decide +kernel
theorem dX7_canSend_26 : decode cX7_canSend 26 = .ok (.invokestatic 31, 3) := by decide +kernel
theorem dX7_canSend_29 : decode cX7_canSend 29 = .ok (.iaload, 1) := by decide +kernel
theorem dX7_canSend_30 : decode cX7_canSend 30 = .ok (.if_icmp .lt 35, 3) := by decide +kernel
theorem dX7_canSend_33 : decode cX7_canSend 33 = .ok (.aload_n 0, 1) := by decide +kernel
theorem dX7_canSend_34 : decode cX7_canSend 34 = .ok (.invokevirtual 96, 3) := by decide +kernel
theorem dX7_canSend_37 : decode cX7_canSend 37 = .ok (.bipush (-5), 2) := by decide +kernel
theorem dX7_canSend_39 : decode cX7_canSend 39 = .ok (.if_icmp .eq 26, 3) := by decide +kernel
theorem dX7_canSend_42 : decode cX7_canSend 42 = .ok (.aload_n 0, 1) := by decide +kernel
theorem dX7_canSend_43 : decode cX7_canSend 43 = .ok (.iload_n 1, 1) := by decide +kernel
theorem dX7_canSend_44 : decode cX7_canSend 44 = .ok (.invokevirtual 100, 3) := by decide +kernel
theorem dX7_canSend_47 : decode cX7_canSend 47 = .ok (.aload_n 0, 1) := by decide +kernel
theorem dX7_canSend_48 : decode cX7_canSend 48 = .ok (.getfield 7, 3) := by decide +kernel
theorem dX7_canSend_51 : decode cX7_canSend 51 = .ok (.iload_n 1, 1) := by decide +kernel
theorem dX7_canSend_52 : decode cX7_canSend 52 = .ok (.bipush 7, 2) := by decide +kernel
theorem dX7_canSend_54 : decode cX7_canSend 54 = .ok (.invokestatic 31, 3) := by decide +kernel
theorem dX7_canSend_57 : decode cX7_canSend 57 = .ok (.iaload, 1) := by decide +kernel
theorem dX7_canSend_58 : decode cX7_canSend 58 = .ok (.if_icmp .ge 7, 3) := by decide +kernel
theorem dX7_canSend_61 : decode cX7_canSend 61 = .ok (.iconst 1, 1) := by decide +kernel
theorem dX7_canSend_62 : decode cX7_canSend 62 = .ok (.goto 4, 3) := by decide +kernel
theorem dX7_canSend_65 : decode cX7_canSend 65 = .ok (.iconst 0, 1) := by decide +kernel
theorem dX7_canSend_66 : decode cX7_canSend 66 = .ok (.ireturn, 1) := by decide +kernel
theorem dX7_masterThatGoes_0 : decode cX7_masterThatGoes 0 = .ok (.bipush (-5), 2) := by decide +kernel
theorem dX7_masterThatGoes_2 : decode cX7_masterThatGoes 2 = .ok (.istore_n 1, 1) := by decide +kernel
theorem dX7_masterThatGoes_3 : decode cX7_masterThatGoes 3 = .ok (.iconst 0, 1) := by decide +kernel
theorem dX7_masterThatGoes_4 : decode cX7_masterThatGoes 4 = .ok (.istore_n 2, 1) := by decide +kernel
theorem dX7_masterThatGoes_5 : decode cX7_masterThatGoes 5 = .ok (.iload_n 2, 1) := by decide +kernel
theorem dX7_masterThatGoes_6 : decode cX7_masterThatGoes 6 = .ok (.iconst 4, 1) := by decide +kernel
theorem dX7_masterThatGoes_7 : decode cX7_masterThatGoes 7 = .ok (.if_icmp .ge 66, 3) := by decide +kernel
theorem dX7_masterThatGoes_10 : decode cX7_masterThatGoes 10 = .ok (.aload_n 0, 1) := by decide +kernel
theorem dX7_masterThatGoes_11 : decode cX7_masterThatGoes 11 = .ok (.getfield 7, 3) := by decide +kernel
theorem dX7_masterThatGoes_14 : decode cX7_masterThatGoes 14 = .ok (.iload_n 2, 1) := by decide +kernel
theorem dX7_masterThatGoes_15 : decode cX7_masterThatGoes 15 = .ok (.bipush 10, 2) := by decide +kernel
theorem dX7_masterThatGoes_17 : decode cX7_masterThatGoes 17 = .ok (.invokestatic 31, 3) := by decide +kernel
theorem dX7_masterThatGoes_20 : decode cX7_masterThatGoes 20 = .ok (.iaload, 1) := by decide +kernel
theorem dX7_masterThatGoes_21 : decode cX7_masterThatGoes 21 = .ok (.istore_n 3, 1) := by decide +kernel
theorem dX7_masterThatGoes_22 : decode cX7_masterThatGoes 22 = .ok (.aload_n 0, 1) := by decide +kernel
theorem dX7_masterThatGoes_23 : decode cX7_masterThatGoes 23 = .ok (.iload_n 2, 1) := by decide +kernel
theorem dX7_masterThatGoes_24 : decode cX7_masterThatGoes 24 = .ok (.invokevirtual 103, 3) := by decide +kernel
theorem dX7_masterThatGoes_27 : decode cX7_masterThatGoes 27 = .ok (.ifCond .eq 38, 3) := by decide +kernel
theorem dX7_masterThatGoes_30 : decode cX7_masterThatGoes 30 = .ok (.iload_n 3, 1) := by decide +kernel
theorem dX7_masterThatGoes_31 : decode cX7_masterThatGoes 31 = .ok (.aload_n 0, 1) := by decide +kernel
theorem dX7_masterThatGoes_32 : decode cX7_masterThatGoes 32 = .ok (.getfield 7, 3) := by decide +kernel
theorem dX7_masterThatGoes_35 : decode cX7_masterThatGoes 35 = .ok (.iconst 3, 1) := by decide +kernel
theorem dX7_masterThatGoes_36 : decode cX7_masterThatGoes 36 = .ok (.iaload, 1) := by decide +kernel
theorem dX7_masterThatGoes_37 : decode cX7_masterThatGoes 37 = .ok (.if_icmp .lt 28, 3) := by decide +kernel
theorem dX7_masterThatGoes_40 : decode cX7_masterThatGoes 40 = .ok (.iload_n 1, 1) := by decide +kernel
theorem dX7_masterThatGoes_41 : decode cX7_masterThatGoes 41 = .ok (.bipush (-5), 2) := by decide +kernel
theorem dX7_masterThatGoes_43 : decode cX7_masterThatGoes 43 = .ok (.if_icmp .eq 18, 3) := by decide +kernel
theorem dX7_masterThatGoes_46 : decode cX7_masterThatGoes 46 = .ok (.iload_n 3, 1) := by decide +kernel
theorem dX7_masterThatGoes_47 : decode cX7_masterThatGoes 47 = .ok (.aload_n 0, 1) := by decide +kernel
theorem dX7_masterThatGoes_48 : decode cX7_masterThatGoes 48 = .ok (.getfield 7, 3) := by decide +kernel
theorem dX7_masterThatGoes_51 : decode cX7_masterThatGoes 51 = .ok (.iload_n 1, 1) := by decide +kernel
theorem dX7_masterThatGoes_52 : decode cX7_masterThatGoes 52 = .ok (.bipush 10, 2) := by decide +kernel
theorem dX7_masterThatGoes_54 : decode cX7_masterThatGoes 54 = .ok (.invokestatic 31, 3) := by decide +kernel
theorem dX7_masterThatGoes_57 : decode cX7_masterThatGoes 57 = .ok (.iaload, 1) := by decide +kernel
theorem dX7_masterThatGoes_58 : decode cX7_masterThatGoes 58 = .ok (.if_icmp .le 7, 3) := by decide +kernel
theorem dX7_masterThatGoes_61 : decode cX7_masterThatGoes 61 = .ok (.iload_n 2, 1) := by decide +kernel
theorem dX7_masterThatGoes_62 : decode cX7_masterThatGoes 62 = .ok (.goto 4, 3) := by decide +kernel
theorem dX7_masterThatGoes_65 : decode cX7_masterThatGoes 65 = .ok (.iload_n 1, 1) := by decide +kernel
theorem dX7_masterThatGoes_66 : decode cX7_masterThatGoes 66 = .ok (.istore_n 1, 1) := by decide +kernel
theorem dX7_masterThatGoes_67 : decode cX7_masterThatGoes 67 = .ok (.iinc 2 1, 3) := by decide +kernel
theorem dX7_masterThatGoes_70 : decode cX7_masterThatGoes 70 = .ok (.goto (-65), 3) := by decide +kernel
theorem dX7_masterThatGoes_73 : decode cX7_masterThatGoes 73 = .ok (.iconst 0, 1) := by decide +kernel
theorem dX7_masterThatGoes_74 : decode cX7_masterThatGoes 74 = .ok (.istore_n 2, 1) := by decide +kernel
theorem dX7_masterThatGoes_75 : decode cX7_masterThatGoes 75 = .ok (.iload_n 2, 1) := by decide +kernel
theorem dX7_masterThatGoes_76 : decode cX7_masterThatGoes 76 = .ok (.iconst 4, 1) := by decide +kernel
theorem dX7_masterThatGoes_77 : decode cX7_masterThatGoes 77 = .ok (.if_icmp .ge 41, 3) := by decide +kernel
theorem dX7_masterThatGoes_80 : decode cX7_masterThatGoes 80 = .ok (.iload_n 1, 1) := by decide +kernel
theorem dX7_masterThatGoes_81 : decode cX7_masterThatGoes 81 = .ok (.bipush (-5), 2) := by decide +kernel
theorem dX7_masterThatGoes_83 : decode cX7_masterThatGoes 83 = .ok (.if_icmp .ne 35, 3) := by decide +kernel
theorem dX7_masterThatGoes_86 : decode cX7_masterThatGoes 86 = .ok (.aload_n 0, 1) := by decide +kernel
theorem dX7_masterThatGoes_87 : decode cX7_masterThatGoes 87 = .ok (.getfield 7, 3) := by decide +kernel
theorem dX7_masterThatGoes_90 : decode cX7_masterThatGoes 90 = .ok (.bipush 7, 2) := by decide +kernel
theorem dX7_masterThatGoes_92 : decode cX7_masterThatGoes 92 = .ok (.iaload, 1) := by decide +kernel
theorem dX7_masterThatGoes_93 : decode cX7_masterThatGoes 93 = .ok (.iload_n 2, 1) := by decide +kernel
theorem dX7_masterThatGoes_94 : decode cX7_masterThatGoes 94 = .ok (.iadd, 1) := by decide +kernel
theorem dX7_masterThatGoes_95 : decode cX7_masterThatGoes 95 = .ok (.iconst 4, 1) := by decide +kernel
theorem dX7_masterThatGoes_96 : decode cX7_masterThatGoes 96 = .ok (.irem, 1) := by decide +kernel
theorem dX7_masterThatGoes_97 : decode cX7_masterThatGoes 97 = .ok (.istore_n 3, 1) := by decide +kernel
theorem dX7_masterThatGoes_98 : decode cX7_masterThatGoes 98 = .ok (.aload_n 0, 1) := by decide +kernel
theorem dX7_masterThatGoes_99 : decode cX7_masterThatGoes 99 = .ok (.iload_n 3, 1) := by decide +kernel
theorem dX7_masterThatGoes_100 : decode cX7_masterThatGoes 100 = .ok (.invokevirtual 103, 3) := by decide +kernel
theorem dX7_masterThatGoes_103 : decode cX7_masterThatGoes 103 = .ok (.ifCond .eq 7, 3) := by decide +kernel
theorem dX7_masterThatGoes_106 : decode cX7_masterThatGoes 106 = .ok (.iload_n 3, 1) := by decide +kernel
theorem dX7_masterThatGoes_107 : decode cX7_masterThatGoes 107 = .ok (.goto 4, 3) := by decide +kernel
theorem dX7_masterThatGoes_110 : decode cX7_masterThatGoes 110 = .ok (.iload_n 1, 1) := by decide +kernel
theorem dX7_masterThatGoes_111 : decode cX7_masterThatGoes 111 = .ok (.istore_n 1, 1) := by decide +kernel
theorem dX7_masterThatGoes_112 : decode cX7_masterThatGoes 112 = .ok (.iinc 2 1, 3) := by decide +kernel
theorem dX7_masterThatGoes_115 : decode cX7_masterThatGoes 115 = .ok (.goto (-40), 3) := by decide +kernel
theorem dX7_masterThatGoes_118 : decode cX7_masterThatGoes 118 = .ok (.iload_n 1, 1) := by decide +kernel
theorem dX7_masterThatGoes_119 : decode cX7_masterThatGoes 119 = .ok (.ireturn, 1) := by decide +kernel
theorem dX7_answers_0 : decode cX7_answers 0 = .ok (.aload_n 0, 1) := by decide +kernel
theorem dX7_answers_1 : decode cX7_answers 1 = .ok (.iload_n 1, 1) := by decide +kernel
theorem dX7_answers_2 : decode cX7_answers 2 = .ok (.invokevirtual 93, 3) := by decide +kernel
theorem dX7_answers_5 : decode cX7_answers 5 = .ok (.istore_n 2, 1) := by decide +kernel
theorem dX7_answers_6 : decode cX7_answers 6 = .ok (.aload_n 0, 1) := by decide +kernel
theorem dX7_answers_7 : decode cX7_answers 7 = .ok (.getfield 7, 3) := by decide +kernel
theorem dX7_answers_10 : decode cX7_answers 10 = .ok (.iload_n 1, 1) := by decide +kernel
theorem dX7_answers_11 : decode cX7_answers 11 = .ok (.bipush 20, 2) := by decide +kernel
theorem dX7_answers_13 : decode cX7_answers 13 = .ok (.iload_n 2, 1) := by decide +kernel
theorem dX7_answers_14 : decode cX7_answers 14 = .ok (.iadd, 1) := by decide +kernel
theorem dX7_answers_15 : decode cX7_answers 15 = .ok (.invokestatic 35, 3) := by decide +kernel
theorem dX7_answers_18 : decode cX7_answers 18 = .ok (.iaload, 1) := by decide +kernel
theorem dX7_answers_19 : decode cX7_answers 19 = .ok (.istore_n 3, 1) := by decide +kernel
theorem dX7_answers_20 : decode cX7_answers 20 = .ok (.aload_n 0, 1) := by decide +kernel
theorem dX7_answers_21 : decode cX7_answers 21 = .ok (.iload_n 3, 1) := by decide +kernel
theorem dX7_answers_22 : decode cX7_answers 22 = .ok (.putfield 106, 3) := by decide +kernel
theorem dX7_answers_25 : decode cX7_answers 25 = .ok (.aload_n 0, 1) := by decide +kernel
theorem dX7_answers_26 : decode cX7_answers 26 = .ok (.getfield 7, 3) := by decide +kernel
theorem dX7_answers_29 : decode cX7_answers 29 = .ok (.bipush 6, 2) := by decide +kernel
theorem dX7_answers_31 : decode cX7_answers 31 = .ok (.iload_n 1, 1) := by decide +kernel
theorem dX7_answers_32 : decode cX7_answers 32 = .ok (.iconst 1, 1) := by decide +kernel
theorem dX7_answers_33 : decode cX7_answers 33 = .ok (.iadd, 1) := by decide +kernel
theorem dX7_answers_34 : decode cX7_answers 34 = .ok (.iconst 4, 1) := by decide +kernel
theorem dX7_answers_35 : decode cX7_answers 35 = .ok (.irem, 1) := by decide +kernel
theorem dX7_answers_36 : decode cX7_answers 36 = .ok (.iastore, 1) := by decide +kernel
theorem dX7_answers_37 : decode cX7_answers 37 = .ok (.aload_n 0, 1) := by decide +kernel
theorem dX7_answers_38 : decode cX7_answers 38 = .ok (.getfield 7, 3) := by decide +kernel
theorem dX7_answers_41 : decode cX7_answers 41 = .ok (.iconst 5, 1) := by decide +kernel
theorem dX7_answers_42 : decode cX7_answers 42 = .ok (.iconst 1, 1) := by decide +kernel
theorem dX7_answers_43 : decode cX7_answers 43 = .ok (.iastore, 1) := by decide +kernel
theorem dX7_answers_44 : decode cX7_answers 44 = .ok (.aload_n 0, 1) := by decide +kernel
theorem dX7_answers_45 : decode cX7_answers 45 = .ok (.getfield 7, 3) := by decide +kernel
theorem dX7_answers_48 : decode cX7_answers 48 = .ok (.bipush 8, 2) := by decide +kernel
theorem dX7_answers_50 : decode cX7_answers 50 = .ok (.dup2, 1) := by decide +kernel
theorem dX7_answers_51 : decode cX7_answers 51 = .ok (.iaload, 1) := by decide +kernel
theorem dX7_answers_52 : decode cX7_answers 52 = .ok (.iconst 1, 1) := by decide +kernel
theorem dX7_answers_53 : decode cX7_answers 53 = .ok (.iadd, 1) := by decide +kernel
theorem dX7_answers_54 : decode cX7_answers 54 = .ok (.iastore, 1) := by decide +kernel
theorem dX7_answers_55 : decode cX7_answers 55 = .ok (.aload_n 0, 1) := by decide +kernel
theorem dX7_answers_56 : decode cX7_answers 56 = .ok (.getfield 7, 3) := by decide +kernel
theorem dX7_answers_59 : decode cX7_answers 59 = .ok (.bipush 12, 2) := by decide +kernel
theorem dX7_answers_61 : decode cX7_answers 61 = .ok (.dup2, 1) := by decide +kernel
theorem dX7_answers_62 : decode cX7_answers 62 = .ok (.iaload, 1) := by decide +kernel
theorem dX7_answers_63 : decode cX7_answers 63 = .ok (.iload_n 2, 1) := by decide +kernel
theorem dX7_answers_64 : decode cX7_answers 64 = .ok (.ifCond .le 7, 3) := by decide +kernel
theorem dX7_answers_67 : decode cX7_answers 67 = .ok (.iconst 1, 1) := by decide +kernel
theorem dX7_answers_68 : decode cX7_answers 68 = .ok (.goto 4, 3) := by decide +kernel
theorem dX7_answers_71 : decode cX7_answers 71 = .ok (.iconst 0, 1) := by decide +kernel
theorem dX7_answers_72 : decode cX7_answers 72 = .ok (.iadd, 1) := by decide +kernel
theorem dX7_answers_73 : decode cX7_answers 73 = .ok (.iastore, 1) := by decide +kernel
theorem dX7_answers_74 : decode cX7_answers 74 = .ok (.iload_n 2, 1) := by decide +kernel
theorem dX7_answers_75 : decode cX7_answers 75 = .ok (.istore 4, 2) := by decide +kernel
theorem dX7_answers_77 : decode cX7_answers 77 = .ok (.iload 4, 2) := by decide +kernel
theorem dX7_answers_79 : decode cX7_answers 79 = .ok (.iconst 1, 1) := by decide +kernel
theorem dX7_answers_80 : decode cX7_answers 80 = .ok (.iadd, 1) := by decide +kernel
theorem dX7_answers_81 : decode cX7_answers 81 = .ok (.aload_n 0, 1) := by decide +kernel
theorem dX7_answers_82 : decode cX7_answers 82 = .ok (.getfield 7, 3) := by decide +kernel
theorem dX7_answers_85 : decode cX7_answers 85 = .ok (.iload_n 1, 1) := by decide +kernel
theorem dX7_answers_86 : decode cX7_answers 86 = .ok (.bipush 19, 2) := by decide +kernel
theorem dX7_answers_88 : decode cX7_answers 88 = .ok (.invokestatic 35, 3) := by decide +kernel
theorem dX7_answers_91 : decode cX7_answers 91 = .ok (.iaload, 1) := by decide +kernel
theorem dX7_answers_92 : decode cX7_answers 92 = .ok (.if_icmp .ge 39, 3) := by decide +kernel
theorem dX7_answers_95 : decode cX7_answers 95 = .ok (.aload_n 0, 1) := by decide +kernel
theorem dX7_answers_96 : decode cX7_answers 96 = .ok (.getfield 7, 3) := by decide +kernel
theorem dX7_answers_99 : decode cX7_answers 99 = .ok (.iload_n 1, 1) := by decide +kernel
theorem dX7_answers_100 : decode cX7_answers 100 = .ok (.bipush 20, 2) := by decide +kernel
theorem dX7_answers_102 : decode cX7_answers 102 = .ok (.iload 4, 2) := by decide +kernel
theorem dX7_answers_104 : decode cX7_answers 104 = .ok (.iadd, 1) := by decide +kernel
theorem dX7_answers_105 : decode cX7_answers 105 = .ok (.invokestatic 35, 3) := by decide +kernel
theorem dX7_answers_108 : decode cX7_answers 108 = .ok (.aload_n 0, 1) := by decide +kernel
theorem dX7_answers_109 : decode cX7_answers 109 = .ok (.getfield 7, 3) := by decide +kernel
theorem dX7_answers_112 : decode cX7_answers 112 = .ok (.iload_n 1, 1) := by decide +kernel
theorem dX7_answers_113 : decode cX7_answers 113 = .ok (.bipush 20, 2) := by decide +kernel
theorem dX7_answers_115 : decode cX7_answers 115 = .ok (.iload 4, 2) := by decide +kernel
theorem dX7_answers_117 : decode cX7_answers 117 = .ok (.iadd, 1) := by decide +kernel
theorem dX7_answers_118 : decode cX7_answers 118 = .ok (.iconst 1, 1) := by decide +kernel
theorem dX7_answers_119 : decode cX7_answers 119 = .ok (.iadd, 1) := by decide +kernel
theorem dX7_answers_120 : decode cX7_answers 120 = .ok (.invokestatic 35, 3) := by decide +kernel
theorem dX7_answers_123 : decode cX7_answers 123 = .ok (.iaload, 1) := by decide +kernel
theorem dX7_answers_124 : decode cX7_answers 124 = .ok (.iastore, 1) := by decide +kernel
theorem dX7_answers_125 : decode cX7_answers 125 = .ok (.iinc 4 1, 3) := by decide +kernel
theorem dX7_answers_128 : decode cX7_answers 128 = .ok (.goto (-51), 3) := by decide +kernel
theorem dX7_answers_131 : decode cX7_answers 131 = .ok (.aload_n 0, 1) := by decide +kernel
theorem dX7_answers_132 : decode cX7_answers 132 = .ok (.getfield 7, 3) := by decide +kernel
theorem dX7_answers_135 : decode cX7_answers 135 = .ok (.iload_n 1, 1) := by decide +kernel
theorem dX7_answers_136 : decode cX7_answers 136 = .ok (.bipush 19, 2) := by decide +kernel
theorem dX7_answers_138 : decode cX7_answers 138 = .ok (.invokestatic 35, 3) := by decide +kernel
theorem dX7_answers_141 : decode cX7_answers 141 = .ok (.dup2, 1) := by decide +kernel
theorem dX7_answers_142 : decode cX7_answers 142 = .ok (.iaload, 1) := by decide +kernel
theorem dX7_answers_143 : decode cX7_answers 143 = .ok (.iconst 1, 1) := by decide +kernel
theorem dX7_answers_144 : decode cX7_answers 144 = .ok (.isub, 1) := by decide +kernel
theorem dX7_answers_145 : decode cX7_answers 145 = .ok (.iastore, 1) := by decide +kernel
theorem dX7_answers_146 : decode cX7_answers 146 = .ok (.aload_n 0, 1) := by decide +kernel
theorem dX7_answers_147 : decode cX7_answers 147 = .ok (.getfield 7, 3) := by decide +kernel
theorem dX7_answers_150 : decode cX7_answers 150 = .ok (.bipush 13, 2) := by decide +kernel
theorem dX7_answers_152 : decode cX7_answers 152 = .ok (.aload_n 0, 1) := by decide +kernel
theorem dX7_answers_153 : decode cX7_answers 153 = .ok (.getfield 7, 3) := by decide +kernel
theorem dX7_answers_156 : decode cX7_answers 156 = .ok (.iload_n 3, 1) := by decide +kernel
theorem dX7_answers_157 : decode cX7_answers 157 = .ok (.iconst 5, 1) := by decide +kernel
theorem dX7_answers_158 : decode cX7_answers 158 = .ok (.invokestatic 59, 3) := by decide +kernel
theorem dX7_answers_161 : decode cX7_answers 161 = .ok (.iaload, 1) := by decide +kernel
theorem dX7_answers_162 : decode cX7_answers 162 = .ok (.iadd, 1) := by decide +kernel
theorem dX7_answers_163 : decode cX7_answers 163 = .ok (.bipush (-5), 2) := by decide +kernel
theorem dX7_answers_165 : decode cX7_answers 165 = .ok (.iastore, 1) := by decide +kernel
theorem dX7_answers_166 : decode cX7_answers 166 = .ok (.aload_n 0, 1) := by decide +kernel
theorem dX7_answers_167 : decode cX7_answers 167 = .ok (.getfield 7, 3) := by decide +kernel
theorem dX7_answers_170 : decode cX7_answers 170 = .ok (.iload_n 3, 1) := by decide +kernel
theorem dX7_answers_171 : decode cX7_answers 171 = .ok (.iconst 5, 1) := by decide +kernel
theorem dX7_answers_172 : decode cX7_answers 172 = .ok (.invokestatic 59, 3) := by decide +kernel
theorem dX7_answers_175 : decode cX7_answers 175 = .ok (.bipush (-5), 2) := by decide +kernel
theorem dX7_answers_177 : decode cX7_answers 177 = .ok (.iastore, 1) := by decide +kernel
theorem dX7_answers_178 : decode cX7_answers 178 = .ok (.aload_n 0, 1) := by decide +kernel
theorem dX7_answers_179 : decode cX7_answers 179 = .ok (.getfield 7, 3) := by decide +kernel
theorem dX7_answers_182 : decode cX7_answers 182 = .ok (.iload_n 3, 1) := by decide +kernel
theorem dX7_answers_183 : decode cX7_answers 183 = .ok (.iconst 4, 1) := by decide +kernel
theorem dX7_answers_184 : decode cX7_answers 184 = .ok (.invokestatic 59, 3) := by decide +kernel
theorem dX7_answers_187 : decode cX7_answers 187 = .ok (.iconst 3, 1) := by decide +kernel
theorem dX7_answers_188 : decode cX7_answers 188 = .ok (.iastore, 1) := by decide +kernel
theorem dX7_answers_189 : decode cX7_answers 189 = .ok (.aload_n 0, 1) := by decide +kernel
theorem dX7_answers_190 : decode cX7_answers 190 = .ok (.getfield 7, 3) := by decide +kernel
theorem dX7_answers_193 : decode cX7_answers 193 = .ok (.iload_n 3, 1) := by decide +kernel
theorem dX7_answers_194 : decode cX7_answers 194 = .ok (.bipush 8, 2) := by decide +kernel
theorem dX7_answers_196 : decode cX7_answers 196 = .ok (.invokestatic 59, 3) := by decide +kernel
theorem dX7_answers_199 : decode cX7_answers 199 = .ok (.aload_n 0, 1) := by decide +kernel
theorem dX7_answers_200 : decode cX7_answers 200 = .ok (.getfield 7, 3) := by decide +kernel
theorem dX7_answers_203 : decode cX7_answers 203 = .ok (.iconst 0, 1) := by decide +kernel
theorem dX7_answers_204 : decode cX7_answers 204 = .ok (.iaload, 1) := by decide +kernel
theorem dX7_answers_205 : decode cX7_answers 205 = .ok (.aload_n 0, 1) := by decide +kernel
theorem dX7_answers_206 : decode cX7_answers 206 = .ok (.getfield 7, 3) := by decide +kernel
theorem dX7_answers_209 : decode cX7_answers 209 = .ok (.iload_n 3, 1) := by decide +kernel
theorem dX7_answers_210 : decode cX7_answers 210 = .ok (.bipush 7, 2) := by decide +kernel
theorem dX7_answers_212 : decode cX7_answers 212 = .ok (.invokestatic 59, 3) := by decide +kernel
theorem dX7_answers_215 : decode cX7_answers 215 = .ok (.iaload, 1) := by decide +kernel
theorem dX7_answers_216 : decode cX7_answers 216 = .ok (.isub, 1) := by decide +kernel
theorem dX7_answers_217 : decode cX7_answers 217 = .ok (.iastore, 1) := by decide +kernel
theorem dX7_answers_218 : decode cX7_answers 218 = .ok (.iconst 1, 1) := by decide +kernel
theorem dX7_answers_219 : decode cX7_answers 219 = .ok (.ireturn, 1) := by decide +kernel
theorem dX7_sends_0 : decode cX7_sends 0 = .ok (.aload_n 0, 1) := by decide +kernel
theorem dX7_sends_1 : decode cX7_sends 1 = .ok (.getfield 7, 3) := by decide +kernel
theorem dX7_sends_4 : decode cX7_sends 4 = .ok (.iload_n 1, 1) := by decide +kernel
theorem dX7_sends_5 : decode cX7_sends 5 = .ok (.iconst 1, 1) := by decide +kernel
theorem dX7_sends_6 : decode cX7_sends 6 = .ok (.invokestatic 31, 3) := by decide +kernel
theorem dX7_sends_9 : decode cX7_sends 9 = .ok (.iaload, 1) := by decide +kernel
theorem dX7_sends_10 : decode cX7_sends 10 = .ok (.istore_n 2, 1) := by decide +kernel
theorem dX7_sends_11 : decode cX7_sends 11 = .ok (.aload_n 0, 1) := by decide +kernel
theorem dX7_sends_12 : decode cX7_sends 12 = .ok (.getfield 7, 3) := by decide +kernel
theorem dX7_sends_15 : decode cX7_sends 15 = .ok (.iload_n 2, 1) := by decide +kernel
theorem dX7_sends_16 : decode cX7_sends 16 = .ok (.iconst 1, 1) := by decide +kernel
theorem dX7_sends_17 : decode cX7_sends 17 = .ok (.invokestatic 59, 3) := by decide +kernel
theorem dX7_sends_20 : decode cX7_sends 20 = .ok (.iaload, 1) := by decide +kernel
theorem dX7_sends_21 : decode cX7_sends 21 = .ok (.istore_n 3, 1) := by decide +kernel
theorem dX7_sends_22 : decode cX7_sends 22 = .ok (.aload_n 0, 1) := by decide +kernel
theorem dX7_sends_23 : decode cX7_sends 23 = .ok (.iload_n 2, 1) := by decide +kernel
theorem dX7_sends_24 : decode cX7_sends 24 = .ok (.putfield 106, 3) := by decide +kernel
theorem dX7_sends_27 : decode cX7_sends 27 = .ok (.aload_n 0, 1) := by decide +kernel
theorem dX7_sends_28 : decode cX7_sends 28 = .ok (.getfield 7, 3) := by decide +kernel
theorem dX7_sends_31 : decode cX7_sends 31 = .ok (.bipush 7, 2) := by decide +kernel
theorem dX7_sends_33 : decode cX7_sends 33 = .ok (.iload_n 1, 1) := by decide +kernel
theorem dX7_sends_34 : decode cX7_sends 34 = .ok (.iconst 1, 1) := by decide +kernel
theorem dX7_sends_35 : decode cX7_sends 35 = .ok (.iadd, 1) := by decide +kernel
theorem dX7_sends_36 : decode cX7_sends 36 = .ok (.iconst 4, 1) := by decide +kernel
theorem dX7_sends_37 : decode cX7_sends 37 = .ok (.irem, 1) := by decide +kernel
theorem dX7_sends_38 : decode cX7_sends 38 = .ok (.iastore, 1) := by decide +kernel
theorem dX7_sends_39 : decode cX7_sends 39 = .ok (.aload_n 0, 1) := by decide +kernel
theorem dX7_sends_40 : decode cX7_sends 40 = .ok (.getfield 7, 3) := by decide +kernel
theorem dX7_sends_43 : decode cX7_sends 43 = .ok (.iconst 5, 1) := by decide +kernel
theorem dX7_sends_44 : decode cX7_sends 44 = .ok (.iconst 0, 1) := by decide +kernel
theorem dX7_sends_45 : decode cX7_sends 45 = .ok (.iastore, 1) := by decide +kernel
theorem dX7_sends_46 : decode cX7_sends 46 = .ok (.aload_n 0, 1) := by decide +kernel
theorem dX7_sends_47 : decode cX7_sends 47 = .ok (.getfield 7, 3) := by decide +kernel
theorem dX7_sends_50 : decode cX7_sends 50 = .ok (.iload_n 3, 1) := by decide +kernel
theorem dX7_sends_51 : decode cX7_sends 51 = .ok (.bipush 19, 2) := by decide +kernel
theorem dX7_sends_53 : decode cX7_sends 53 = .ok (.invokestatic 35, 3) := by decide +kernel
theorem dX7_sends_56 : decode cX7_sends 56 = .ok (.iaload, 1) := by decide +kernel
theorem dX7_sends_57 : decode cX7_sends 57 = .ok (.aload_n 0, 1) := by decide +kernel
theorem dX7_sends_58 : decode cX7_sends 58 = .ok (.getfield 7, 3) := by decide +kernel
theorem dX7_sends_61 : decode cX7_sends 61 = .ok (.iload_n 3, 1) := by decide +kernel
theorem dX7_sends_62 : decode cX7_sends 62 = .ok (.bipush 16, 2) := by decide +kernel
theorem dX7_sends_64 : decode cX7_sends 64 = .ok (.invokestatic 35, 3) := by decide +kernel
theorem dX7_sends_67 : decode cX7_sends 67 = .ok (.iaload, 1) := by decide +kernel
theorem dX7_sends_68 : decode cX7_sends 68 = .ok (.if_icmp .lt 94, 3) := by decide +kernel
theorem dX7_sends_71 : decode cX7_sends 71 = .ok (.aload_n 0, 1) := by decide +kernel
theorem dX7_sends_72 : decode cX7_sends 72 = .ok (.getfield 7, 3) := by decide +kernel
theorem dX7_sends_75 : decode cX7_sends 75 = .ok (.iload_n 1, 1) := by decide +kernel
theorem dX7_sends_76 : decode cX7_sends 76 = .ok (.bipush 8, 2) := by decide +kernel
theorem dX7_sends_78 : decode cX7_sends 78 = .ok (.invokestatic 31, 3) := by decide +kernel
theorem dX7_sends_81 : decode cX7_sends 81 = .ok (.dup2, 1) := by decide +kernel
theorem dX7_sends_82 : decode cX7_sends 82 = .ok (.iaload, 1) := by decide +kernel
theorem dX7_sends_83 : decode cX7_sends 83 = .ok (.iconst 1, 1) := by decide +kernel
theorem dX7_sends_84 : decode cX7_sends 84 = .ok (.iadd, 1) := by decide +kernel
theorem dX7_sends_85 : decode cX7_sends 85 = .ok (.iastore, 1) := by decide +kernel
theorem dX7_sends_86 : decode cX7_sends 86 = .ok (.aload_n 0, 1) := by decide +kernel
theorem dX7_sends_87 : decode cX7_sends 87 = .ok (.getfield 7, 3) := by decide +kernel
theorem dX7_sends_90 : decode cX7_sends 90 = .ok (.iload_n 2, 1) := by decide +kernel
theorem dX7_sends_91 : decode cX7_sends 91 = .ok (.bipush 9, 2) := by decide +kernel
theorem dX7_sends_93 : decode cX7_sends 93 = .ok (.invokestatic 59, 3) := by decide +kernel
theorem dX7_sends_96 : decode cX7_sends 96 = .ok (.dup2, 1) := by decide +kernel
theorem dX7_sends_97 : decode cX7_sends 97 = .ok (.iaload, 1) := by decide +kernel
theorem dX7_sends_98 : decode cX7_sends 98 = .ok (.iconst 1, 1) := by decide +kernel
theorem dX7_sends_99 : decode cX7_sends 99 = .ok (.iadd, 1) := by decide +kernel
theorem dX7_sends_100 : decode cX7_sends 100 = .ok (.iastore, 1) := by decide +kernel
theorem dX7_sends_101 : decode cX7_sends 101 = .ok (.aload_n 0, 1) := by decide +kernel
theorem dX7_sends_102 : decode cX7_sends 102 = .ok (.getfield 7, 3) := by decide +kernel
theorem dX7_sends_105 : decode cX7_sends 105 = .ok (.bipush 10, 2) := by decide +kernel
theorem dX7_sends_107 : decode cX7_sends 107 = .ok (.dup2, 1) := by decide +kernel
theorem dX7_sends_108 : decode cX7_sends 108 = .ok (.iaload, 1) := by decide +kernel
theorem dX7_sends_109 : decode cX7_sends 109 = .ok (.iconst 1, 1) := by decide +kernel
theorem dX7_sends_110 : decode cX7_sends 110 = .ok (.iadd, 1) := by decide +kernel
theorem dX7_sends_111 : decode cX7_sends 111 = .ok (.iastore, 1) := by decide +kernel
theorem dX7_sends_112 : decode cX7_sends 112 = .ok (.aload_n 0, 1) := by decide +kernel
theorem dX7_sends_113 : decode cX7_sends 113 = .ok (.getfield 7, 3) := by decide +kernel
theorem dX7_sends_116 : decode cX7_sends 116 = .ok (.iload_n 1, 1) := by decide +kernel
theorem dX7_sends_117 : decode cX7_sends 117 = .ok (.bipush 8, 2) := by decide +kernel
theorem dX7_sends_119 : decode cX7_sends 119 = .ok (.invokestatic 31, 3) := by decide +kernel
theorem dX7_sends_122 : decode cX7_sends 122 = .ok (.iaload, 1) := by decide +kernel
theorem dX7_sends_123 : decode cX7_sends 123 = .ok (.istore 4, 2) := by decide +kernel
theorem dX7_sends_125 : decode cX7_sends 125 = .ok (.aload_n 0, 1) := by decide +kernel
theorem dX7_sends_126 : decode cX7_sends 126 = .ok (.getfield 7, 3) := by decide +kernel
theorem dX7_sends_129 : decode cX7_sends 129 = .ok (.iload_n 1, 1) := by decide +kernel
theorem dX7_sends_130 : decode cX7_sends 130 = .ok (.bipush 9, 2) := by decide +kernel
theorem dX7_sends_132 : decode cX7_sends 132 = .ok (.invokestatic 31, 3) := by decide +kernel
theorem dX7_sends_135 : decode cX7_sends 135 = .ok (.aload_n 0, 1) := by decide +kernel
theorem dX7_sends_136 : decode cX7_sends 136 = .ok (.getfield 7, 3) := by decide +kernel
theorem dX7_sends_139 : decode cX7_sends 139 = .ok (.iconst 0, 1) := by decide +kernel
theorem dX7_sends_140 : decode cX7_sends 140 = .ok (.iaload, 1) := by decide +kernel
theorem dX7_sends_141 : decode cX7_sends 141 = .ok (.iconst 1, 1) := by decide +kernel
theorem dX7_sends_142 : decode cX7_sends 142 = .ok (.iadd, 1) := by decide +kernel
theorem dX7_sends_143 : decode cX7_sends 143 = .ok (.iload 4, 2) := by decide +kernel
theorem dX7_sends_145 : decode cX7_sends 145 = .ok (.iconst 3, 1) := by decide +kernel
theorem dX7_sends_146 : decode cX7_sends 146 = .ok (.if_icmp .le 8, 3) := by decide +kernel
theorem dX7_sends_149 : decode cX7_sends 149 = .ok (.bipush 16, 2) := by decide +kernel
theorem dX7_sends_151 : decode cX7_sends 151 = .ok (.goto 7, 3) := by decide +kernel
theorem dX7_sends_154 : decode cX7_sends 154 = .ok (.iconst 1, 1) := by decide +kernel
theorem dX7_sends_155 : decode cX7_sends 155 = .ok (.iload 4, 2) := by decide +kernel
theorem dX7_sends_157 : decode cX7_sends 157 = .ok (.ishl, 1) := by decide +kernel
theorem dX7_sends_158 : decode cX7_sends 158 = .ok (.iadd, 1) := by decide +kernel
theorem dX7_sends_159 : decode cX7_sends 159 = .ok (.iastore, 1) := by decide +kernel
theorem dX7_sends_160 : decode cX7_sends 160 = .ok (.iconst 2, 1) := by decide +kernel
theorem dX7_sends_161 : decode cX7_sends 161 = .ok (.ireturn, 1) := by decide +kernel
theorem dX7_sends_162 : decode cX7_sends 162 = .ok (.aload_n 0, 1) := by decide +kernel
theorem dX7_sends_163 : decode cX7_sends 163 = .ok (.invokevirtual 96, 3) := by decide +kernel
theorem dX7_sends_166 : decode cX7_sends 166 = .ok (.istore 4, 2) := by decide +kernel
theorem dX7_sends_168 : decode cX7_sends 168 = .ok (.iconst 0, 1) := by decide +kernel
theorem dX7_sends_169 : decode cX7_sends 169 = .ok (.istore 5, 2) := by decide +kernel
theorem dX7_sends_171 : decode cX7_sends 171 = .ok (.iload 5, 2) := by decide +kernel
theorem dX7_sends_173 : decode cX7_sends 173 = .ok (.iconst 1, 1) := by decide +kernel
theorem dX7_sends_174 : decode cX7_sends 174 = .ok (.iadd, 1) := by decide +kernel
theorem dX7_sends_175 : decode cX7_sends 175 = .ok (.aload_n 0, 1) := by decide +kernel
theorem dX7_sends_176 : decode cX7_sends 176 = .ok (.getfield 7, 3) := by decide +kernel
theorem dX7_sends_179 : decode cX7_sends 179 = .ok (.iload_n 1, 1) := by decide +kernel
theorem dX7_sends_180 : decode cX7_sends 180 = .ok (.iconst 0, 1) := by decide +kernel
theorem dX7_sends_181 : decode cX7_sends 181 = .ok (.invokestatic 31, 3) := by decide +kernel
theorem dX7_sends_184 : decode cX7_sends 184 = .ok (.iaload, 1) := by decide +kernel
theorem dX7_sends_185 : decode cX7_sends 185 = .ok (.if_icmp .ge 37, 3) := by decide +kernel
theorem dX7_sends_188 : decode cX7_sends 188 = .ok (.aload_n 0, 1) := by decide +kernel
theorem dX7_sends_189 : decode cX7_sends 189 = .ok (.getfield 7, 3) := by decide +kernel
theorem dX7_sends_192 : decode cX7_sends 192 = .ok (.iload_n 1, 1) := by decide +kernel
theorem dX7_sends_193 : decode cX7_sends 193 = .ok (.iconst 1, 1) := by decide +kernel
theorem dX7_sends_194 : decode cX7_sends 194 = .ok (.iload 5, 2) := by decide +kernel
theorem dX7_sends_196 : decode cX7_sends 196 = .ok (.iadd, 1) := by decide +kernel
theorem dX7_sends_197 : decode cX7_sends 197 = .ok (.invokestatic 31, 3) := by decide +kernel
theorem dX7_sends_200 : decode cX7_sends 200 = .ok (.aload_n 0, 1) := by decide +kernel
theorem dX7_sends_201 : decode cX7_sends 201 = .ok (.getfield 7, 3) := by decide +kernel
theorem dX7_sends_204 : decode cX7_sends 204 = .ok (.iload_n 1, 1) := by decide +kernel
theorem dX7_sends_205 : decode cX7_sends 205 = .ok (.iconst 1, 1) := by decide +kernel
theorem dX7_sends_206 : decode cX7_sends 206 = .ok (.iload 5, 2) := by decide +kernel
theorem dX7_sends_208 : decode cX7_sends 208 = .ok (.iadd, 1) := by decide +kernel
theorem dX7_sends_209 : decode cX7_sends 209 = .ok (.iconst 1, 1) := by decide +kernel
theorem dX7_sends_210 : decode cX7_sends 210 = .ok (.iadd, 1) := by decide +kernel
theorem dX7_sends_211 : decode cX7_sends 211 = .ok (.invokestatic 31, 3) := by decide +kernel
theorem dX7_sends_214 : decode cX7_sends 214 = .ok (.iaload, 1) := by decide +kernel
theorem dX7_sends_215 : decode cX7_sends 215 = .ok (.iastore, 1) := by decide +kernel
theorem dX7_sends_216 : decode cX7_sends 216 = .ok (.iinc 5 1, 3) := by decide +kernel
theorem dX7_sends_219 : decode cX7_sends 219 = .ok (.goto (-48), 3) := by decide +kernel
theorem dX7_sends_222 : decode cX7_sends 222 = .ok (.aload_n 0, 1) := by decide +kernel
theorem dX7_sends_223 : decode cX7_sends 223 = .ok (.getfield 7, 3) := by decide +kernel
theorem dX7_sends_226 : decode cX7_sends 226 = .ok (.iload_n 1, 1) := by decide +kernel
theorem dX7_sends_227 : decode cX7_sends 227 = .ok (.iconst 0, 1) := by decide +kernel
theorem dX7_sends_228 : decode cX7_sends 228 = .ok (.invokestatic 31, 3) := by decide +kernel
theorem dX7_sends_231 : decode cX7_sends 231 = .ok (.dup2, 1) := by decide +kernel
theorem dX7_sends_232 : decode cX7_sends 232 = .ok (.iaload, 1) := by decide +kernel
theorem dX7_sends_233 : decode cX7_sends 233 = .ok (.iconst 1, 1) := by decide +kernel
theorem dX7_sends_234 : decode cX7_sends 234 = .ok (.isub, 1) := by decide +kernel
theorem dX7_sends_235 : decode cX7_sends 235 = .ok (.iastore, 1) := by decide +kernel
theorem dX7_sends_236 : decode cX7_sends 236 = .ok (.aload_n 0, 1) := by decide +kernel
theorem dX7_sends_237 : decode cX7_sends 237 = .ok (.getfield 7, 3) := by decide +kernel
theorem dX7_sends_240 : decode cX7_sends 240 = .ok (.iload_n 1, 1) := by decide +kernel
theorem dX7_sends_241 : decode cX7_sends 241 = .ok (.bipush 8, 2) := by decide +kernel
theorem dX7_sends_243 : decode cX7_sends 243 = .ok (.invokestatic 31, 3) := by decide +kernel
theorem dX7_sends_246 : decode cX7_sends 246 = .ok (.iconst 0, 1) := by decide +kernel
theorem dX7_sends_247 : decode cX7_sends 247 = .ok (.iastore, 1) := by decide +kernel
theorem dX7_sends_248 : decode cX7_sends 248 = .ok (.aload_n 0, 1) := by decide +kernel
theorem dX7_sends_249 : decode cX7_sends 249 = .ok (.getfield 7, 3) := by decide +kernel
theorem dX7_sends_252 : decode cX7_sends 252 = .ok (.bipush 13, 2) := by decide +kernel
theorem dX7_sends_254 : decode cX7_sends 254 = .ok (.iload 4, 2) := by decide +kernel
theorem dX7_sends_256 : decode cX7_sends 256 = .ok (.iadd, 1) := by decide +kernel
theorem dX7_sends_257 : decode cX7_sends 257 = .ok (.iload_n 2, 1) := by decide +kernel
theorem dX7_sends_258 : decode cX7_sends 258 = .ok (.iastore, 1) := by decide +kernel
theorem dX7_sends_259 : decode cX7_sends 259 = .ok (.aload_n 0, 1) := by decide +kernel
theorem dX7_sends_260 : decode cX7_sends 260 = .ok (.getfield 7, 3) := by decide +kernel
theorem dX7_sends_263 : decode cX7_sends 263 = .ok (.iload_n 2, 1) := by decide +kernel
theorem dX7_sends_264 : decode cX7_sends 264 = .ok (.iconst 5, 1) := by decide +kernel
theorem dX7_sends_265 : decode cX7_sends 265 = .ok (.invokestatic 59, 3) := by decide +kernel
theorem dX7_sends_268 : decode cX7_sends 268 = .ok (.iload 4, 2) := by decide +kernel
theorem dX7_sends_270 : decode cX7_sends 270 = .ok (.iastore, 1) := by decide +kernel
theorem dX7_sends_271 : decode cX7_sends 271 = .ok (.aload_n 0, 1) := by decide +kernel
theorem dX7_sends_272 : decode cX7_sends 272 = .ok (.getfield 7, 3) := by decide +kernel
theorem dX7_sends_275 : decode cX7_sends 275 = .ok (.iload_n 2, 1) := by decide +kernel
theorem dX7_sends_276 : decode cX7_sends 276 = .ok (.iconst 4, 1) := by decide +kernel
theorem dX7_sends_277 : decode cX7_sends 277 = .ok (.invokestatic 59, 3) := by decide +kernel
theorem dX7_sends_280 : decode cX7_sends 280 = .ok (.iconst 1, 1) := by decide +kernel
theorem dX7_sends_281 : decode cX7_sends 281 = .ok (.iastore, 1) := by decide +kernel
theorem dX7_sends_282 : decode cX7_sends 282 = .ok (.aload_n 0, 1) := by decide +kernel
theorem dX7_sends_283 : decode cX7_sends 283 = .ok (.getfield 7, 3) := by decide +kernel
theorem dX7_sends_286 : decode cX7_sends 286 = .ok (.iload_n 2, 1) := by decide +kernel
theorem dX7_sends_287 : decode cX7_sends 287 = .ok (.bipush 10, 2) := by decide +kernel
theorem dX7_sends_289 : decode cX7_sends 289 = .ok (.invokestatic 59, 3) := by decide +kernel
theorem dX7_sends_292 : decode cX7_sends 292 = .ok (.aload_n 0, 1) := by decide +kernel
theorem dX7_sends_293 : decode cX7_sends 293 = .ok (.getfield 7, 3) := by decide +kernel
theorem dX7_sends_296 : decode cX7_sends 296 = .ok (.iconst 0, 1) := by decide +kernel
theorem dX7_sends_297 : decode cX7_sends 297 = .ok (.iaload, 1) := by decide +kernel
theorem dX7_sends_298 : decode cX7_sends 298 = .ok (.aload_n 0, 1) := by decide +kernel
theorem dX7_sends_299 : decode cX7_sends 299 = .ok (.getfield 7, 3) := by decide +kernel
theorem dX7_sends_302 : decode cX7_sends 302 = .ok (.iload_n 3, 1) := by decide +kernel
theorem dX7_sends_303 : decode cX7_sends 303 = .ok (.bipush 17, 2) := by decide +kernel
theorem dX7_sends_305 : decode cX7_sends 305 = .ok (.invokestatic 35, 3) := by decide +kernel
theorem dX7_sends_308 : decode cX7_sends 308 = .ok (.iaload, 1) := by decide +kernel
theorem dX7_sends_309 : decode cX7_sends 309 = .ok (.iadd, 1) := by decide +kernel
theorem dX7_sends_310 : decode cX7_sends 310 = .ok (.aload_n 0, 1) := by decide +kernel
theorem dX7_sends_311 : decode cX7_sends 311 = .ok (.getfield 7, 3) := by decide +kernel
theorem dX7_sends_314 : decode cX7_sends 314 = .ok (.iload_n 2, 1) := by decide +kernel
theorem dX7_sends_315 : decode cX7_sends 315 = .ok (.iconst 2, 1) := by decide +kernel
theorem dX7_sends_316 : decode cX7_sends 316 = .ok (.invokestatic 59, 3) := by decide +kernel
theorem dX7_sends_319 : decode cX7_sends 319 = .ok (.iaload, 1) := by decide +kernel
theorem dX7_sends_320 : decode cX7_sends 320 = .ok (.iconst 4, 1) := by decide +kernel
theorem dX7_sends_321 : decode cX7_sends 321 = .ok (.irem, 1) := by decide +kernel
theorem dX7_sends_322 : decode cX7_sends 322 = .ok (.iadd, 1) := by decide +kernel
theorem dX7_sends_323 : decode cX7_sends 323 = .ok (.iastore, 1) := by decide +kernel
theorem dX7_sends_324 : decode cX7_sends 324 = .ok (.aload_n 0, 1) := by decide +kernel
theorem dX7_sends_325 : decode cX7_sends 325 = .ok (.getfield 7, 3) := by decide +kernel
theorem dX7_sends_328 : decode cX7_sends 328 = .ok (.iload_n 3, 1) := by decide +kernel
theorem dX7_sends_329 : decode cX7_sends 329 = .ok (.bipush 20, 2) := by decide +kernel
theorem dX7_sends_331 : decode cX7_sends 331 = .ok (.aload_n 0, 1) := by decide +kernel
theorem dX7_sends_332 : decode cX7_sends 332 = .ok (.getfield 7, 3) := by decide +kernel
theorem dX7_sends_335 : decode cX7_sends 335 = .ok (.iload_n 3, 1) := by decide +kernel
theorem dX7_sends_336 : decode cX7_sends 336 = .ok (.bipush 19, 2) := by decide +kernel
theorem dX7_sends_338 : decode cX7_sends 338 = .ok (.invokestatic 35, 3) := by decide +kernel
theorem dX7_sends_341 : decode cX7_sends 341 = .ok (.iaload, 1) := by decide +kernel
theorem dX7_sends_342 : decode cX7_sends 342 = .ok (.iadd, 1) := by decide +kernel
theorem dX7_sends_343 : decode cX7_sends 343 = .ok (.invokestatic 35, 3) := by decide +kernel
theorem dX7_sends_346 : decode cX7_sends 346 = .ok (.iload_n 2, 1) := by decide +kernel
theorem dX7_sends_347 : decode cX7_sends 347 = .ok (.iastore, 1) := by decide +kernel
theorem dX7_sends_348 : decode cX7_sends 348 = .ok (.aload_n 0, 1) := by decide +kernel
theorem dX7_sends_349 : decode cX7_sends 349 = .ok (.getfield 7, 3) := by decide +kernel
theorem dX7_sends_352 : decode cX7_sends 352 = .ok (.iload_n 3, 1) := by decide +kernel
theorem dX7_sends_353 : decode cX7_sends 353 = .ok (.bipush 19, 2) := by decide +kernel
theorem dX7_sends_355 : decode cX7_sends 355 = .ok (.invokestatic 35, 3) := by decide +kernel
theorem dX7_sends_358 : decode cX7_sends 358 = .ok (.dup2, 1) := by decide +kernel
theorem dX7_sends_359 : decode cX7_sends 359 = .ok (.iaload, 1) := by decide +kernel
theorem dX7_sends_360 : decode cX7_sends 360 = .ok (.iconst 1, 1) := by decide +kernel
theorem dX7_sends_361 : decode cX7_sends 361 = .ok (.iadd, 1) := by decide +kernel
theorem dX7_sends_362 : decode cX7_sends 362 = .ok (.iastore, 1) := by decide +kernel
theorem dX7_sends_363 : decode cX7_sends 363 = .ok (.aload_n 0, 1) := by decide +kernel
theorem dX7_sends_364 : decode cX7_sends 364 = .ok (.getfield 7, 3) := by decide +kernel
theorem dX7_sends_367 : decode cX7_sends 367 = .ok (.bipush 9, 2) := by decide +kernel
theorem dX7_sends_369 : decode cX7_sends 369 = .ok (.dup2, 1) := by decide +kernel
theorem dX7_sends_370 : decode cX7_sends 370 = .ok (.iaload, 1) := by decide +kernel
theorem dX7_sends_371 : decode cX7_sends 371 = .ok (.iconst 1, 1) := by decide +kernel
theorem dX7_sends_372 : decode cX7_sends 372 = .ok (.iadd, 1) := by decide +kernel
theorem dX7_sends_373 : decode cX7_sends 373 = .ok (.iastore, 1) := by decide +kernel
theorem dX7_sends_374 : decode cX7_sends 374 = .ok (.iconst 0, 1) := by decide +kernel
theorem dX7_sends_375 : decode cX7_sends 375 = .ok (.ireturn, 1) := by decide +kernel
theorem dX7_tick_0 : decode cX7_tick 0 = .ok (.aload_n 0, 1) := by decide +kernel
theorem dX7_tick_1 : decode cX7_tick 1 = .ok (.invokevirtual 109, 3) := by decide +kernel
theorem dX7_tick_4 : decode cX7_tick 4 = .ok (.aload_n 0, 1) := by decide +kernel
theorem dX7_tick_5 : decode cX7_tick 5 = .ok (.invokevirtual 112, 3) := by decide +kernel
theorem dX7_tick_8 : decode cX7_tick 8 = .ok (.istore_n 1, 1) := by decide +kernel
theorem dX7_tick_9 : decode cX7_tick 9 = .ok (.aload_n 0, 1) := by decide +kernel
theorem dX7_tick_10 : decode cX7_tick 10 = .ok (.invokevirtual 115, 3) := by decide +kernel
theorem dX7_tick_13 : decode cX7_tick 13 = .ok (.istore_n 2, 1) := by decide +kernel
theorem dX7_tick_14 : decode cX7_tick 14 = .ok (.aload_n 0, 1) := by decide +kernel
theorem dX7_tick_15 : decode cX7_tick 15 = .ok (.getfield 7, 3) := by decide +kernel
theorem dX7_tick_18 : decode cX7_tick 18 = .ok (.iconst 2, 1) := by decide +kernel
theorem dX7_tick_19 : decode cX7_tick 19 = .ok (.iaload, 1) := by decide +kernel
theorem dX7_tick_20 : decode cX7_tick 20 = .ok (.ifCond .eq 22, 3) := by decide +kernel
theorem dX7_tick_23 : decode cX7_tick 23 = .ok (.aload_n 0, 1) := by decide +kernel
theorem dX7_tick_24 : decode cX7_tick 24 = .ok (.getfield 7, 3) := by decide +kernel
theorem dX7_tick_27 : decode cX7_tick 27 = .ok (.iconst 2, 1) := by decide +kernel
theorem dX7_tick_28 : decode cX7_tick 28 = .ok (.iaload, 1) := by decide +kernel
theorem dX7_tick_29 : decode cX7_tick 29 = .ok (.iconst 2, 1) := by decide +kernel
theorem dX7_tick_30 : decode cX7_tick 30 = .ok (.if_icmp .ne 16, 3) := by decide +kernel
theorem dX7_tick_33 : decode cX7_tick 33 = .ok (.aload_n 0, 1) := by decide +kernel
theorem dX7_tick_34 : decode cX7_tick 34 = .ok (.getfield 7, 3) := by decide +kernel
theorem dX7_tick_37 : decode cX7_tick 37 = .ok (.iconst 5, 1) := by decide +kernel
theorem dX7_tick_38 : decode cX7_tick 38 = .ok (.iaload, 1) := by decide +kernel
theorem dX7_tick_39 : decode cX7_tick 39 = .ok (.ifCond .ne 7, 3) := by decide +kernel
theorem dX7_tick_42 : decode cX7_tick 42 = .ok (.iconst 1, 1) := by decide +kernel
theorem dX7_tick_43 : decode cX7_tick 43 = .ok (.goto 4, 3) := by decide +kernel
theorem dX7_tick_46 : decode cX7_tick 46 = .ok (.iconst 0, 1) := by decide +kernel
theorem dX7_tick_47 : decode cX7_tick 47 = .ok (.istore_n 3, 1) := by decide +kernel
theorem dX7_tick_48 : decode cX7_tick 48 = .ok (.iload_n 1, 1) := by decide +kernel
theorem dX7_tick_49 : decode cX7_tick 49 = .ok (.bipush (-5), 2) := by decide +kernel
theorem dX7_tick_51 : decode cX7_tick 51 = .ok (.if_icmp .eq 17, 3) := by decide +kernel
theorem dX7_tick_54 : decode cX7_tick 54 = .ok (.iload_n 3, 1) := by decide +kernel
theorem dX7_tick_55 : decode cX7_tick 55 = .ok (.ifCond .ne 9, 3) := by decide +kernel
theorem dX7_tick_58 : decode cX7_tick 58 = .ok (.iload_n 2, 1) := by decide +kernel
theorem dX7_tick_59 : decode cX7_tick 59 = .ok (.bipush (-5), 2) := by decide +kernel
theorem dX7_tick_61 : decode cX7_tick 61 = .ok (.if_icmp .ne 7, 3) := by decide +kernel
theorem dX7_tick_64 : decode cX7_tick 64 = .ok (.iconst 1, 1) := by decide +kernel
theorem dX7_tick_65 : decode cX7_tick 65 = .ok (.goto 4, 3) := by decide +kernel
theorem dX7_tick_68 : decode cX7_tick 68 = .ok (.iconst 0, 1) := by decide +kernel
theorem dX7_tick_69 : decode cX7_tick 69 = .ok (.istore 4, 2) := by decide +kernel
theorem dX7_tick_71 : decode cX7_tick 71 = .ok (.aload_n 0, 1) := by decide +kernel
theorem dX7_tick_72 : decode cX7_tick 72 = .ok (.bipush (-5), 2) := by decide +kernel
theorem dX7_tick_74 : decode cX7_tick 74 = .ok (.putfield 106, 3) := by decide +kernel
theorem dX7_tick_77 : decode cX7_tick 77 = .ok (.iload 4, 2) := by decide +kernel
theorem dX7_tick_79 : decode cX7_tick 79 = .ok (.ifCond .eq 11, 3) := by decide +kernel
theorem dX7_tick_82 : decode cX7_tick 82 = .ok (.aload_n 0, 1) := by decide +kernel
theorem dX7_tick_83 : decode cX7_tick 83 = .ok (.iload_n 1, 1) := by decide +kernel
theorem dX7_tick_84 : decode cX7_tick 84 = .ok (.invokevirtual 118, 3) := by decide +kernel
theorem dX7_tick_87 : decode cX7_tick 87 = .ok (.goto 19, 3) := by decide +kernel
theorem dX7_tick_90 : decode cX7_tick 90 = .ok (.iload_n 2, 1) := by decide +kernel
theorem dX7_tick_91 : decode cX7_tick 91 = .ok (.bipush (-5), 2) := by decide +kernel
theorem dX7_tick_93 : decode cX7_tick 93 = .ok (.if_icmp .eq 11, 3) := by decide +kernel
theorem dX7_tick_96 : decode cX7_tick 96 = .ok (.aload_n 0, 1) := by decide +kernel
theorem dX7_tick_97 : decode cX7_tick 97 = .ok (.iload_n 2, 1) := by decide +kernel
theorem dX7_tick_98 : decode cX7_tick 98 = .ok (.invokevirtual 121, 3) := by decide +kernel
theorem dX7_tick_101 : decode cX7_tick 101 = .ok (.goto 5, 3) := by decide +kernel
theorem dX7_tick_104 : decode cX7_tick 104 = .ok (.bipush (-5), 2) := by decide +kernel
theorem dX7_tick_106 : decode cX7_tick 106 = .ok (.istore 5, 2) := by decide +kernel
theorem dX7_tick_108 : decode cX7_tick 108 = .ok (.aload_n 0, 1) := by decide +kernel
theorem dX7_tick_109 : decode cX7_tick 109 = .ok (.getfield 7, 3) := by decide +kernel
theorem dX7_tick_112 : decode cX7_tick 112 = .ok (.bipush 11, 2) := by decide +kernel
theorem dX7_tick_114 : decode cX7_tick 114 = .ok (.dup2, 1) := by decide +kernel
theorem dX7_tick_115 : decode cX7_tick 115 = .ok (.iaload, 1) := by decide +kernel
theorem dX7_tick_116 : decode cX7_tick 116 = .ok (.iload 5, 2) := by decide +kernel
theorem dX7_tick_118 : decode cX7_tick 118 = .ok (.bipush (-5), 2) := by decide +kernel
theorem dX7_tick_120 : decode cX7_tick 120 = .ok (.if_icmp .ne 7, 3) := by decide +kernel
theorem dX7_tick_123 : decode cX7_tick 123 = .ok (.iconst 1, 1) := by decide +kernel
theorem dX7_tick_124 : decode cX7_tick 124 = .ok (.goto 4, 3) := by decide +kernel
theorem dX7_tick_127 : decode cX7_tick 127 = .ok (.iconst 0, 1) := by decide +kernel
theorem dX7_tick_128 : decode cX7_tick 128 = .ok (.iadd, 1) := by decide +kernel
theorem dX7_tick_129 : decode cX7_tick 129 = .ok (.iastore, 1) := by decide +kernel
theorem dX7_tick_130 : decode cX7_tick 130 = .ok (.iconst 0, 1) := by decide +kernel
theorem dX7_tick_131 : decode cX7_tick 131 = .ok (.istore 6, 2) := by decide +kernel
theorem dX7_tick_133 : decode cX7_tick 133 = .ok (.iload 6, 2) := by decide +kernel
theorem dX7_tick_135 : decode cX7_tick 135 = .ok (.iconst 4, 1) := by decide +kernel
theorem dX7_tick_136 : decode cX7_tick 136 = .ok (.if_icmp .ge 76, 3) := by decide +kernel
theorem dX7_tick_139 : decode cX7_tick 139 = .ok (.aload_n 0, 1) := by decide +kernel
theorem dX7_tick_140 : decode cX7_tick 140 = .ok (.getfield 7, 3) := by decide +kernel
theorem dX7_tick_143 : decode cX7_tick 143 = .ok (.iload 6, 2) := by decide +kernel
theorem dX7_tick_145 : decode cX7_tick 145 = .ok (.iconst 0, 1) := by decide +kernel
theorem dX7_tick_146 : decode cX7_tick 146 = .ok (.invokestatic 31, 3) := by decide +kernel
theorem dX7_tick_149 : decode cX7_tick 149 = .ok (.iaload, 1) := by decide +kernel
theorem dX7_tick_150 : decode cX7_tick 150 = .ok (.ifCond .eq 14, 3) := by decide +kernel
theorem dX7_tick_153 : decode cX7_tick 153 = .ok (.iload 5, 2) := by decide +kernel
theorem dX7_tick_155 : decode cX7_tick 155 = .ok (.ifCond .ne 13, 3) := by decide +kernel
theorem dX7_tick_158 : decode cX7_tick 158 = .ok (.iload 6, 2) := by decide +kernel
theorem dX7_tick_160 : decode cX7_tick 160 = .ok (.iload_n 2, 1) := by decide +kernel
theorem dX7_tick_161 : decode cX7_tick 161 = .ok (.if_icmp .ne 7, 3) := by decide +kernel
theorem dX7_tick_164 : decode cX7_tick 164 = .ok (.iconst 1, 1) := by decide +kernel
theorem dX7_tick_165 : decode cX7_tick 165 = .ok (.goto 4, 3) := by decide +kernel
theorem dX7_tick_168 : decode cX7_tick 168 = .ok (.iconst 0, 1) := by decide +kernel
theorem dX7_tick_169 : decode cX7_tick 169 = .ok (.istore 7, 2) := by decide +kernel
theorem dX7_tick_171 : decode cX7_tick 171 = .ok (.aload_n 0, 1) := by decide +kernel
theorem dX7_tick_172 : decode cX7_tick 172 = .ok (.getfield 7, 3) := by decide +kernel
theorem dX7_tick_175 : decode cX7_tick 175 = .ok (.iload 6, 2) := by decide +kernel
theorem dX7_tick_177 : decode cX7_tick 177 = .ok (.bipush 10, 2) := by decide +kernel
theorem dX7_tick_179 : decode cX7_tick 179 = .ok (.invokestatic 31, 3) := by decide +kernel
theorem dX7_tick_182 : decode cX7_tick 182 = .ok (.iload 7, 2) := by decide +kernel
theorem dX7_tick_184 : decode cX7_tick 184 = .ok (.ifCond .eq 7, 3) := by decide +kernel
theorem dX7_tick_187 : decode cX7_tick 187 = .ok (.iconst 0, 1) := by decide +kernel
theorem dX7_tick_188 : decode cX7_tick 188 = .ok (.goto 17, 3) := by decide +kernel
theorem dX7_tick_191 : decode cX7_tick 191 = .ok (.aload_n 0, 1) := by decide +kernel
theorem dX7_tick_192 : decode cX7_tick 192 = .ok (.getfield 7, 3) := by decide +kernel
theorem dX7_tick_195 : decode cX7_tick 195 = .ok (.iload 6, 2) := by decide +kernel
theorem dX7_tick_197 : decode cX7_tick 197 = .ok (.bipush 10, 2) := by decide +kernel
theorem dX7_tick_199 : decode cX7_tick 199 = .ok (.invokestatic 31, 3) := by decide +kernel
theorem dX7_tick_202 : decode cX7_tick 202 = .ok (.iaload, 1) := by decide +kernel
theorem dX7_tick_203 : decode cX7_tick 203 = .ok (.iconst 1, 1) := by decide +kernel
theorem dX7_tick_204 : decode cX7_tick 204 = .ok (.iadd, 1) := by decide +kernel
theorem dX7_tick_205 : decode cX7_tick 205 = .ok (.iastore, 1) := by decide +kernel
theorem dX7_tick_206 : decode cX7_tick 206 = .ok (.iinc 6 1, 3) := by decide +kernel
theorem dX7_tick_209 : decode cX7_tick 209 = .ok (.goto (-76), 3) := by decide +kernel
theorem dX7_tick_212 : decode cX7_tick 212 = .ok (.aload_n 0, 1) := by decide +kernel
theorem dX7_tick_213 : decode cX7_tick 213 = .ok (.getfield 7, 3) := by decide +kernel
theorem dX7_tick_216 : decode cX7_tick 216 = .ok (.iconst 0, 1) := by decide +kernel
theorem dX7_tick_217 : decode cX7_tick 217 = .ok (.dup2, 1) := by decide +kernel
theorem dX7_tick_218 : decode cX7_tick 218 = .ok (.iaload, 1) := by decide +kernel
theorem dX7_tick_219 : decode cX7_tick 219 = .ok (.iconst 1, 1) := by decide +kernel
theorem dX7_tick_220 : decode cX7_tick 220 = .ok (.iadd, 1) := by decide +kernel
theorem dX7_tick_221 : decode cX7_tick 221 = .ok (.iastore, 1) := by decide +kernel
theorem dX7_tick_222 : decode cX7_tick 222 = .ok (.iload 5, 2) := by decide +kernel
theorem dX7_tick_224 : decode cX7_tick 224 = .ok (.ireturn, 1) := by decide +kernel
theorem dX7_pass_0 : decode cX7_pass 0 = .ok (.iload_n 1, 1) := by decide +kernel
theorem dX7_pass_1 : decode cX7_pass 1 = .ok (.iconst 1, 1) := by decide +kernel
theorem dX7_pass_2 : decode cX7_pass 2 = .ok (.bipush 99, 2) := by decide +kernel
theorem dX7_pass_4 : decode cX7_pass 4 = .ok (.invokestatic 38, 3) := by decide +kernel
theorem dX7_pass_7 : decode cX7_pass 7 = .ok (.ifCond .ne 6, 3) := by decide +kernel
theorem dX7_pass_10 : decode cX7_pass 10 = .ok (.bipush (-2), 2) := by decide +kernel
theorem dX7_pass_12 : decode cX7_pass 12 = .ok (.ireturn, 1) := by decide +kernel
theorem dX7_pass_13 : decode cX7_pass 13 = .ok (.aload_n 0, 1) := by decide +kernel
theorem dX7_pass_14 : decode cX7_pass 14 = .ok (.getfield 7, 3) := by decide +kernel
theorem dX7_pass_17 : decode cX7_pass 17 = .ok (.iconst 0, 1) := by decide +kernel
theorem dX7_pass_18 : decode cX7_pass 18 = .ok (.iaload, 1) := by decide +kernel
theorem dX7_pass_19 : decode cX7_pass 19 = .ok (.iload_n 1, 1) := by decide +kernel
theorem dX7_pass_20 : decode cX7_pass 20 = .ok (.iadd, 1) := by decide +kernel
theorem dX7_pass_21 : decode cX7_pass 21 = .ok (.sipush 9999, 3) := by decide +kernel
theorem dX7_pass_24 : decode cX7_pass 24 = .ok (.if_icmp .le 6, 3) := by decide +kernel
theorem dX7_pass_27 : decode cX7_pass 27 = .ok (.bipush (-3), 2) := by decide +kernel
theorem dX7_pass_29 : decode cX7_pass 29 = .ok (.ireturn, 1) := by decide +kernel
theorem dX7_pass_30 : decode cX7_pass 30 = .ok (.aload_n 0, 1) := by decide +kernel
theorem dX7_pass_31 : decode cX7_pass 31 = .ok (.invokevirtual 46, 3) := by decide +kernel
theorem dX7_pass_34 : decode cX7_pass 34 = .ok (.iconst 0, 1) := by decide +kernel
theorem dX7_pass_35 : decode cX7_pass 35 = .ok (.istore_n 2, 1) := by decide +kernel
theorem dX7_pass_36 : decode cX7_pass 36 = .ok (.iconst 0, 1) := by decide +kernel
theorem dX7_pass_37 : decode cX7_pass 37 = .ok (.istore_n 3, 1) := by decide +kernel
theorem dX7_pass_38 : decode cX7_pass 38 = .ok (.iload_n 3, 1) := by decide +kernel
theorem dX7_pass_39 : decode cX7_pass 39 = .ok (.iload_n 1, 1) := by decide +kernel
theorem dX7_pass_40 : decode cX7_pass 40 = .ok (.if_icmp .ge 26, 3) := by decide +kernel
theorem dX7_pass_43 : decode cX7_pass 43 = .ok (.iload_n 2, 1) := by decide +kernel
theorem dX7_pass_44 : decode cX7_pass 44 = .ok (.aload_n 0, 1) := by decide +kernel
theorem dX7_pass_45 : decode cX7_pass 45 = .ok (.invokevirtual 124, 3) := by decide +kernel
theorem dX7_pass_48 : decode cX7_pass 48 = .ok (.bipush (-5), 2) := by decide +kernel
theorem dX7_pass_50 : decode cX7_pass 50 = .ok (.if_icmp .ne 7, 3) := by decide +kernel
theorem dX7_pass_53 : decode cX7_pass 53 = .ok (.iconst 0, 1) := by decide +kernel
theorem dX7_pass_54 : decode cX7_pass 54 = .ok (.goto 4, 3) := by decide +kernel
theorem dX7_pass_57 : decode cX7_pass 57 = .ok (.iconst 1, 1) := by decide +kernel
theorem dX7_pass_58 : decode cX7_pass 58 = .ok (.iadd, 1) := by decide +kernel
theorem dX7_pass_59 : decode cX7_pass 59 = .ok (.istore_n 2, 1) := by decide +kernel
theorem dX7_pass_60 : decode cX7_pass 60 = .ok (.iinc 3 1, 3) := by decide +kernel
theorem dX7_pass_63 : decode cX7_pass 63 = .ok (.goto (-25), 3) := by decide +kernel
theorem dX7_pass_66 : decode cX7_pass 66 = .ok (.iload_n 2, 1) := by decide +kernel
theorem dX7_pass_67 : decode cX7_pass 67 = .ok (.ireturn, 1) := by decide +kernel
theorem dX7_undo_0 : decode cX7_undo 0 = .ok (.aload_n 0, 1) := by decide +kernel
theorem dX7_undo_1 : decode cX7_undo 1 = .ok (.getfield 42, 3) := by decide +kernel
theorem dX7_undo_4 : decode cX7_undo 4 = .ok (.ifCond .ne 6, 3) := by decide +kernel
theorem dX7_undo_7 : decode cX7_undo 7 = .ok (.bipush (-5), 2) := by decide +kernel
theorem dX7_undo_9 : decode cX7_undo 9 = .ok (.ireturn, 1) := by decide +kernel
theorem dX7_undo_10 : decode cX7_undo 10 = .ok (.aload_n 0, 1) := by decide +kernel
theorem dX7_undo_11 : decode cX7_undo 11 = .ok (.dup, 1) := by decide +kernel
theorem dX7_undo_12 : decode cX7_undo 12 = .ok (.getfield 42, 3) := by decide +kernel
theorem dX7_undo_15 : decode cX7_undo 15 = .ok (.iconst 1, 1) := by decide +kernel
theorem dX7_undo_16 : decode cX7_undo 16 = .ok (.isub, 1) := by decide +kernel
theorem dX7_undo_17 : decode cX7_undo 17 = .ok (.putfield 42, 3) := by decide +kernel
theorem dX7_undo_20 : decode cX7_undo 20 = .ok (.iconst 0, 1) := by decide +kernel
theorem dX7_undo_21 : decode cX7_undo 21 = .ok (.istore_n 1, 1) := by decide +kernel
theorem dX7_undo_22 : decode cX7_undo 22 = .ok (.iload_n 1, 1) := by decide +kernel
theorem dX7_undo_23 : decode cX7_undo 23 = .ok (.sipush 2361, 3) := by decide +kernel
theorem dX7_undo_26 : decode cX7_undo 26 = .ok (.if_icmp .ge 30, 3) := by decide +kernel
theorem dX7_undo_29 : decode cX7_undo 29 = .ok (.aload_n 0, 1) := by decide +kernel
theorem dX7_undo_30 : decode cX7_undo 30 = .ok (.getfield 7, 3) := by decide +kernel
theorem dX7_undo_33 : decode cX7_undo 33 = .ok (.iload_n 1, 1) := by decide +kernel
theorem dX7_undo_34 : decode cX7_undo 34 = .ok (.aload_n 0, 1) := by decide +kernel
theorem dX7_undo_35 : decode cX7_undo 35 = .ok (.getfield 16, 3) := by decide +kernel
theorem dX7_undo_38 : decode cX7_undo 38 = .ok (.sipush 2361, 3) := by decide +kernel
theorem dX7_undo_41 : decode cX7_undo 41 = .ok (.aload_n 0, 1) := by decide +kernel
theorem dX7_undo_42 : decode cX7_undo 42 = .ok (.getfield 42, 3) := by decide +kernel
theorem dX7_undo_45 : decode cX7_undo 45 = .ok (.imul, 1) := by decide +kernel
theorem dX7_undo_46 : decode cX7_undo 46 = .ok (.iload_n 1, 1) := by decide +kernel
theorem dX7_undo_47 : decode cX7_undo 47 = .ok (.iadd, 1) := by decide +kernel
theorem dX7_undo_48 : decode cX7_undo 48 = .ok (.iaload, 1) := by decide +kernel
theorem dX7_undo_49 : decode cX7_undo 49 = .ok (.iastore, 1) := by decide +kernel
theorem dX7_undo_50 : decode cX7_undo 50 = .ok (.iinc 1 1, 3) := by decide +kernel
theorem dX7_undo_53 : decode cX7_undo 53 = .ok (.goto (-31), 3) := by decide +kernel
theorem dX7_undo_56 : decode cX7_undo 56 = .ok (.aload_n 0, 1) := by decide +kernel
theorem dX7_undo_57 : decode cX7_undo 57 = .ok (.getfield 42, 3) := by decide +kernel
theorem dX7_undo_60 : decode cX7_undo 60 = .ok (.ireturn, 1) := by decide +kernel
theorem dX7_keep_0 : decode cX7_keep 0 = .ok (.iconst 0, 1) := by decide +kernel
theorem dX7_keep_1 : decode cX7_keep 1 = .ok (.istore_n 1, 1) := by decide +kernel
theorem dX7_keep_2 : decode cX7_keep 2 = .ok (.iload_n 1, 1) := by decide +kernel
theorem dX7_keep_3 : decode cX7_keep 3 = .ok (.sipush 2361, 3) := by decide +kernel
theorem dX7_keep_6 : decode cX7_keep 6 = .ok (.if_icmp .ge 21, 3) := by decide +kernel
theorem dX7_keep_9 : decode cX7_keep 9 = .ok (.aload_n 0, 1) := by decide +kernel
theorem dX7_keep_10 : decode cX7_keep 10 = .ok (.getfield 19, 3) := by decide +kernel
theorem dX7_keep_13 : decode cX7_keep 13 = .ok (.iload_n 1, 1) := by decide +kernel
theorem dX7_keep_14 : decode cX7_keep 14 = .ok (.aload_n 0, 1) := by decide +kernel
theorem dX7_keep_15 : decode cX7_keep 15 = .ok (.getfield 7, 3) := by decide +kernel
theorem dX7_keep_18 : decode cX7_keep 18 = .ok (.iload_n 1, 1) := by decide +kernel
theorem dX7_keep_19 : decode cX7_keep 19 = .ok (.iaload, 1) := by decide +kernel
theorem dX7_keep_20 : decode cX7_keep 20 = .ok (.iastore, 1) := by decide +kernel
theorem dX7_keep_21 : decode cX7_keep 21 = .ok (.iinc 1 1, 3) := by decide +kernel
theorem dX7_keep_24 : decode cX7_keep 24 = .ok (.goto (-22), 3) := by decide +kernel
theorem dX7_keep_27 : decode cX7_keep 27 = .ok (.aload_n 0, 1) := by decide +kernel
theorem dX7_keep_28 : decode cX7_keep 28 = .ok (.iconst 1, 1) := by decide +kernel
theorem dX7_keep_29 : decode cX7_keep 29 = .ok (.putfield 127, 3) := by decide +kernel
theorem dX7_keep_32 : decode cX7_keep 32 = .ok (.aload_n 0, 1) := by decide +kernel
theorem dX7_keep_33 : decode cX7_keep 33 = .ok (.getfield 7, 3) := by decide +kernel
theorem dX7_keep_36 : decode cX7_keep 36 = .ok (.iconst 0, 1) := by decide +kernel
theorem dX7_keep_37 : decode cX7_keep 37 = .ok (.iaload, 1) := by decide +kernel
theorem dX7_keep_38 : decode cX7_keep 38 = .ok (.ireturn, 1) := by decide +kernel
theorem dX7_restore_0 : decode cX7_restore 0 = .ok (.aload_n 0, 1) := by decide +kernel
theorem dX7_restore_1 : decode cX7_restore 1 = .ok (.getfield 127, 3) := by decide +kernel
theorem dX7_restore_4 : decode cX7_restore 4 = .ok (.ifCond .ne 6, 3) := by decide +kernel
theorem dX7_restore_7 : decode cX7_restore 7 = .ok (.bipush (-5), 2) := by decide +kernel
theorem dX7_restore_9 : decode cX7_restore 9 = .ok (.ireturn, 1) := by decide +kernel
theorem dX7_restore_10 : decode cX7_restore 10 = .ok (.aload_n 0, 1) := by decide +kernel
theorem dX7_restore_11 : decode cX7_restore 11 = .ok (.invokevirtual 46, 3) := by decide +kernel
theorem dX7_restore_14 : decode cX7_restore 14 = .ok (.iconst 0, 1) := by decide +kernel
theorem dX7_restore_15 : decode cX7_restore 15 = .ok (.istore_n 1, 1) := by decide +kernel
theorem dX7_restore_16 : decode cX7_restore 16 = .ok (.iload_n 1, 1) := by decide +kernel
theorem dX7_restore_17 : decode cX7_restore 17 = .ok (.sipush 2361, 3) := by decide +kernel
theorem dX7_restore_20 : decode cX7_restore 20 = .ok (.if_icmp .ge 21, 3) := by decide +kernel
theorem dX7_restore_23 : decode cX7_restore 23 = .ok (.aload_n 0, 1) := by decide +kernel
theorem dX7_restore_24 : decode cX7_restore 24 = .ok (.getfield 7, 3) := by decide +kernel
theorem dX7_restore_27 : decode cX7_restore 27 = .ok (.iload_n 1, 1) := by decide +kernel
theorem dX7_restore_28 : decode cX7_restore 28 = .ok (.aload_n 0, 1) := by decide +kernel
theorem dX7_restore_29 : decode cX7_restore 29 = .ok (.getfield 19, 3) := by decide +kernel
theorem dX7_restore_32 : decode cX7_restore 32 = .ok (.iload_n 1, 1) := by decide +kernel
theorem dX7_restore_33 : decode cX7_restore 33 = .ok (.iaload, 1) := by decide +kernel
theorem dX7_restore_34 : decode cX7_restore 34 = .ok (.iastore, 1) := by decide +kernel
theorem dX7_restore_35 : decode cX7_restore 35 = .ok (.iinc 1 1, 3) := by decide +kernel
theorem dX7_restore_38 : decode cX7_restore 38 = .ok (.goto (-22), 3) := by decide +kernel
theorem dX7_restore_41 : decode cX7_restore 41 = .ok (.aload_n 0, 1) := by decide +kernel
theorem dX7_restore_42 : decode cX7_restore 42 = .ok (.getfield 7, 3) := by decide +kernel
theorem dX7_restore_45 : decode cX7_restore 45 = .ok (.iconst 0, 1) := by decide +kernel
theorem dX7_restore_46 : decode cX7_restore 46 = .ok (.iaload, 1) := by decide +kernel
theorem dX7_restore_47 : decode cX7_restore 47 = .ok (.ireturn, 1) := by decide +kernel
theorem dX7_isQuestion_0 : decode cX7_isQuestion 0 = .ok (.iload_n 1, 1) := by decide +kernel
theorem dX7_isQuestion_1 : decode cX7_isQuestion 1 = .ok (.iconst 0, 1) := by decide +kernel
theorem dX7_isQuestion_2 : decode cX7_isQuestion 2 = .ok (.aload_n 0, 1) := by decide +kernel
theorem dX7_isQuestion_3 : decode cX7_isQuestion 3 = .ok (.getfield 7, 3) := by decide +kernel
theorem dX7_isQuestion_6 : decode cX7_isQuestion 6 = .ok (.iconst 4, 1) := by decide +kernel
theorem dX7_isQuestion_7 : decode cX7_isQuestion 7 = .ok (.iaload, 1) := by decide +kernel
theorem dX7_isQuestion_8 : decode cX7_isQuestion 8 = .ok (.iconst 1, 1) := by decide +kernel
theorem dX7_isQuestion_9 : decode cX7_isQuestion 9 = .ok (.isub, 1) := by decide +kernel
theorem dX7_isQuestion_10 : decode cX7_isQuestion 10 = .ok (.invokestatic 38, 3) := by decide +kernel
theorem dX7_isQuestion_13 : decode cX7_isQuestion 13 = .ok (.ireturn, 1) := by decide +kernel
theorem dX7_question__0 : decode cX7_question_ 0 = .ok (.aload_n 0, 1) := by decide +kernel
theorem dX7_question__1 : decode cX7_question_ 1 = .ok (.iload_n 1, 1) := by decide +kernel
theorem dX7_question__2 : decode cX7_question_ 2 = .ok (.invokevirtual 130, 3) := by decide +kernel
theorem dX7_question__5 : decode cX7_question_ 5 = .ok (.ifCond .ne 5, 3) := by decide +kernel
theorem dX7_question__8 : decode cX7_question_ 8 = .ok (.iconst (-1), 1) := by decide +kernel
theorem dX7_question__9 : decode cX7_question_ 9 = .ok (.ireturn, 1) := by decide +kernel
theorem dX7_question__10 : decode cX7_question_ 10 = .ok (.iload_n 2, 1) := by decide +kernel
theorem dX7_question__11 : decode cX7_question_ 11 = .ok (.iconst 0, 1) := by decide +kernel
theorem dX7_question__12 : decode cX7_question_ 12 = .ok (.bipush 8, 2) := by decide +kernel
theorem dX7_question__14 : decode cX7_question_ 14 = .ok (.invokestatic 38, 3) := by decide +kernel
theorem dX7_question__17 : decode cX7_question_ 17 = .ok (.ifCond .ne 6, 3) := by decide +kernel
theorem dX7_question__20 : decode cX7_question_ 20 = .ok (.bipush (-2), 2) := by decide +kernel
theorem dX7_question__22 : decode cX7_question_ 22 = .ok (.ireturn, 1) := by decide +kernel
theorem dX7_question__23 : decode cX7_question_ 23 = .ok (.iload_n 2, 1) := by decide +kernel
theorem dX7_question__24 : decode cX7_question_ 24 = .ok (.bipush 7, 2) := by decide +kernel
theorem dX7_question__26 : decode cX7_question_ 26 = .ok (.if_icmp .ne 17, 3) := by decide +kernel
theorem dX7_question__29 : decode cX7_question_ 29 = .ok (.aload_n 0, 1) := by decide +kernel
theorem dX7_question__30 : decode cX7_question_ 30 = .ok (.getfield 7, 3) := by decide +kernel
theorem dX7_question__33 : decode cX7_question_ 33 = .ok (.iload_n 1, 1) := by decide +kernel
theorem dX7_question__34 : decode cX7_question_ 34 = .ok (.bipush 8, 2) := by decide +kernel
theorem dX7_question__36 : decode cX7_question_ 36 = .ok (.invokestatic 59, 3) := by decide +kernel
theorem dX7_question__39 : decode cX7_question_ 39 = .ok (.iaload, 1) := by decide +kernel
theorem dX7_question__40 : decode cX7_question_ 40 = .ok (.goto 33, 3) := by decide +kernel
theorem dX7_question__43 : decode cX7_question_ 43 = .ok (.iload_n 2, 1) := by decide +kernel
theorem dX7_question__44 : decode cX7_question_ 44 = .ok (.bipush 8, 2) := by decide +kernel
theorem dX7_question__46 : decode cX7_question_ 46 = .ok (.if_icmp .ne 17, 3) := by decide +kernel
theorem dX7_question__49 : decode cX7_question_ 49 = .ok (.aload_n 0, 1) := by decide +kernel
theorem dX7_question__50 : decode cX7_question_ 50 = .ok (.getfield 7, 3) := by decide +kernel
theorem dX7_question__53 : decode cX7_question_ 53 = .ok (.iload_n 1, 1) := by decide +kernel
theorem dX7_question__54 : decode cX7_question_ 54 = .ok (.bipush 9, 2) := by decide +kernel
theorem dX7_question__56 : decode cX7_question_ 56 = .ok (.invokestatic 59, 3) := by decide +kernel
theorem dX7_question__59 : decode cX7_question_ 59 = .ok (.iaload, 1) := by decide +kernel
theorem dX7_question__60 : decode cX7_question_ 60 = .ok (.goto 13, 3) := by decide +kernel
theorem dX7_question__63 : decode cX7_question_ 63 = .ok (.aload_n 0, 1) := by decide +kernel
theorem dX7_question__64 : decode cX7_question_ 64 = .ok (.getfield 7, 3) := by decide +kernel
theorem dX7_question__67 : decode cX7_question_ 67 = .ok (.iload_n 1, 1) := by decide +kernel
theorem dX7_question__68 : decode cX7_question_ 68 = .ok (.iload_n 2, 1) := by decide +kernel
theorem dX7_question__69 : decode cX7_question_ 69 = .ok (.invokestatic 59, 3) := by decide +kernel
theorem dX7_question__72 : decode cX7_question_ 72 = .ok (.iaload, 1) := by decide +kernel
theorem dX7_question__73 : decode cX7_question_ 73 = .ok (.ireturn, 1) := by decide +kernel
theorem dX7_tag_0 : decode cX7_tag 0 = .ok (.iload_n 1, 1) := by decide +kernel
theorem dX7_tag_1 : decode cX7_tag 1 = .ok (.iconst 0, 1) := by decide +kernel
theorem dX7_tag_2 : decode cX7_tag 2 = .ok (.aload_n 0, 1) := by decide +kernel
theorem dX7_tag_3 : decode cX7_tag 3 = .ok (.getfield 7, 3) := by decide +kernel
theorem dX7_tag_6 : decode cX7_tag 6 = .ok (.iconst 1, 1) := by decide +kernel
theorem dX7_tag_7 : decode cX7_tag 7 = .ok (.iaload, 1) := by decide +kernel
theorem dX7_tag_8 : decode cX7_tag 8 = .ok (.iconst 1, 1) := by decide +kernel
theorem dX7_tag_9 : decode cX7_tag 9 = .ok (.isub, 1) := by decide +kernel
theorem dX7_tag_10 : decode cX7_tag 10 = .ok (.invokestatic 38, 3) := by decide +kernel
theorem dX7_tag_13 : decode cX7_tag 13 = .ok (.ifCond .eq 15, 3) := by decide +kernel
theorem dX7_tag_16 : decode cX7_tag 16 = .ok (.aload_n 0, 1) := by decide +kernel
theorem dX7_tag_17 : decode cX7_tag 17 = .ok (.getfield 7, 3) := by decide +kernel
theorem dX7_tag_20 : decode cX7_tag 20 = .ok (.bipush 13, 2) := by decide +kernel
theorem dX7_tag_22 : decode cX7_tag 22 = .ok (.iload_n 1, 1) := by decide +kernel
theorem dX7_tag_23 : decode cX7_tag 23 = .ok (.iadd, 1) := by decide +kernel
theorem dX7_tag_24 : decode cX7_tag 24 = .ok (.iaload, 1) := by decide +kernel
theorem dX7_tag_25 : decode cX7_tag 25 = .ok (.goto 4, 3) := by decide +kernel
theorem dX7_tag_28 : decode cX7_tag 28 = .ok (.iconst (-1), 1) := by decide +kernel
theorem dX7_tag_29 : decode cX7_tag 29 = .ok (.ireturn, 1) := by decide +kernel
theorem dX7_answered_0 : decode cX7_answered 0 = .ok (.iconst 0, 1) := by decide +kernel
theorem dX7_answered_1 : decode cX7_answered 1 = .ok (.istore_n 3, 1) := by decide +kernel
theorem dX7_answered_2 : decode cX7_answered 2 = .ok (.bipush (-5), 2) := by decide +kernel
theorem dX7_answered_4 : decode cX7_answered 4 = .ok (.istore 4, 2) := by decide +kernel
theorem dX7_answered_6 : decode cX7_answered 6 = .ok (.iconst 0, 1) := by decide +kernel
theorem dX7_answered_7 : decode cX7_answered 7 = .ok (.istore 5, 2) := by decide +kernel
theorem dX7_answered_9 : decode cX7_answered 9 = .ok (.iload 5, 2) := by decide +kernel
theorem dX7_answered_11 : decode cX7_answered 11 = .ok (.aload_n 0, 1) := by decide +kernel
theorem dX7_answered_12 : decode cX7_answered 12 = .ok (.getfield 7, 3) := by decide +kernel
theorem dX7_answered_15 : decode cX7_answered 15 = .ok (.iconst 4, 1) := by decide +kernel
theorem dX7_answered_16 : decode cX7_answered 16 = .ok (.iaload, 1) := by decide +kernel
theorem dX7_answered_17 : decode cX7_answered 17 = .ok (.if_icmp .ge 78, 3) := by decide +kernel
theorem dX7_answered_20 : decode cX7_answered 20 = .ok (.aload_n 0, 1) := by decide +kernel
theorem dX7_answered_21 : decode cX7_answered 21 = .ok (.getfield 7, 3) := by decide +kernel
theorem dX7_answered_24 : decode cX7_answered 24 = .ok (.iload 5, 2) := by decide +kernel
theorem dX7_answered_26 : decode cX7_answered 26 = .ok (.iconst 0, 1) := by decide +kernel
theorem dX7_answered_27 : decode cX7_answered 27 = .ok (.invokestatic 59, 3) := by decide +kernel
theorem dX7_answered_30 : decode cX7_answered 30 = .ok (.iaload, 1) := by decide +kernel
theorem dX7_answered_31 : decode cX7_answered 31 = .ok (.iload_n 1, 1) := by decide +kernel
theorem dX7_answered_32 : decode cX7_answered 32 = .ok (.if_icmp .ne 57, 3) := by decide +kernel
theorem dX7_answered_35 : decode cX7_answered 35 = .ok (.aload_n 0, 1) := by decide +kernel
theorem dX7_answered_36 : decode cX7_answered 36 = .ok (.getfield 7, 3) := by decide +kernel
theorem dX7_answered_39 : decode cX7_answered 39 = .ok (.iload 5, 2) := by decide +kernel
theorem dX7_answered_41 : decode cX7_answered 41 = .ok (.iconst 4, 1) := by decide +kernel
theorem dX7_answered_42 : decode cX7_answered 42 = .ok (.invokestatic 59, 3) := by decide +kernel
theorem dX7_answered_45 : decode cX7_answered 45 = .ok (.iaload, 1) := by decide +kernel
theorem dX7_answered_46 : decode cX7_answered 46 = .ok (.iconst 3, 1) := by decide +kernel
theorem dX7_answered_47 : decode cX7_answered 47 = .ok (.if_icmp .ne 42, 3) := by decide +kernel
theorem dX7_answered_50 : decode cX7_answered 50 = .ok (.iinc 3 1, 3) := by decide +kernel
theorem dX7_answered_53 : decode cX7_answered 53 = .ok (.aload_n 0, 1) := by decide +kernel
theorem dX7_answered_54 : decode cX7_answered 54 = .ok (.getfield 7, 3) := by decide +kernel
theorem dX7_answered_57 : decode cX7_answered 57 = .ok (.iload 5, 2) := by decide +kernel
theorem dX7_answered_59 : decode cX7_answered 59 = .ok (.bipush 8, 2) := by decide +kernel
theorem dX7_answered_61 : decode cX7_answered 61 = .ok (.invokestatic 59, 3) := by decide +kernel
theorem dX7_answered_64 : decode cX7_answered 64 = .ok (.iaload, 1) := by decide +kernel
theorem dX7_answered_65 : decode cX7_answered 65 = .ok (.iload 4, 2) := by decide +kernel
theorem dX7_answered_67 : decode cX7_answered 67 = .ok (.if_icmp .le 18, 3) := by decide +kernel
theorem dX7_answered_70 : decode cX7_answered 70 = .ok (.aload_n 0, 1) := by decide +kernel
theorem dX7_answered_71 : decode cX7_answered 71 = .ok (.getfield 7, 3) := by decide +kernel
theorem dX7_answered_74 : decode cX7_answered 74 = .ok (.iload 5, 2) := by decide +kernel
theorem dX7_answered_76 : decode cX7_answered 76 = .ok (.bipush 8, 2) := by decide +kernel
theorem dX7_answered_78 : decode cX7_answered 78 = .ok (.invokestatic 59, 3) := by decide +kernel
theorem dX7_answered_81 : decode cX7_answered 81 = .ok (.iaload, 1) := by decide +kernel
theorem dX7_answered_82 : decode cX7_answered 82 = .ok (.goto 5, 3) := by decide +kernel
theorem dX7_answered_85 : decode cX7_answered 85 = .ok (.iload 4, 2) := by decide +kernel
theorem dX7_answered_87 : decode cX7_answered 87 = .ok (.istore 4, 2) := by decide +kernel
theorem dX7_answered_89 : decode cX7_answered 89 = .ok (.iinc 5 1, 3) := by decide +kernel
theorem dX7_answered_92 : decode cX7_answered 92 = .ok (.goto (-83), 3) := by decide +kernel
theorem dX7_answered_95 : decode cX7_answered 95 = .ok (.iload_n 2, 1) := by decide +kernel
theorem dX7_answered_96 : decode cX7_answered 96 = .ok (.ifCond .eq 8, 3) := by decide +kernel
theorem dX7_answered_99 : decode cX7_answered 99 = .ok (.iload 4, 2) := by decide +kernel
theorem dX7_answered_101 : decode cX7_answered 101 = .ok (.goto 4, 3) := by decide +kernel
theorem dX7_answered_104 : decode cX7_answered 104 = .ok (.iload_n 3, 1) := by decide +kernel
theorem dX7_answered_105 : decode cX7_answered 105 = .ok (.ireturn, 1) := by decide +kernel
theorem dX7_master_0 : decode cX7_master 0 = .ok (.iload_n 1, 1) := by decide +kernel
theorem dX7_master_1 : decode cX7_master 1 = .ok (.invokestatic 56, 3) := by decide +kernel
theorem dX7_master_4 : decode cX7_master 4 = .ok (.ifCond .ne 5, 3) := by decide +kernel
theorem dX7_master_7 : decode cX7_master 7 = .ok (.iconst (-1), 1) := by decide +kernel
theorem dX7_master_8 : decode cX7_master 8 = .ok (.ireturn, 1) := by decide +kernel
theorem dX7_master_9 : decode cX7_master 9 = .ok (.aload_n 0, 1) := by decide +kernel
theorem dX7_master_10 : decode cX7_master 10 = .ok (.getfield 7, 3) := by decide +kernel
theorem dX7_master_13 : decode cX7_master 13 = .ok (.iload_n 1, 1) := by decide +kernel
theorem dX7_master_14 : decode cX7_master 14 = .ok (.bipush 10, 2) := by decide +kernel
theorem dX7_master_16 : decode cX7_master 16 = .ok (.invokestatic 31, 3) := by decide +kernel
theorem dX7_master_19 : decode cX7_master 19 = .ok (.iaload, 1) := by decide +kernel
theorem dX7_master_20 : decode cX7_master 20 = .ok (.istore_n 3, 1) := by decide +kernel
theorem dX7_master_21 : decode cX7_master 21 = .ok (.iload_n 2, 1) := by decide +kernel
theorem dX7_master_22 : decode cX7_master 22 = .ok (.tableswitch 158 0 8 #[50, 61, 73, 79, 91, 123, 125, 125, 142], 50) := by decide +kernel
theorem dX7_master_72 : decode cX7_master 72 = .ok (.aload_n 0, 1) := by decide +kernel
theorem dX7_master_73 : decode cX7_master 73 = .ok (.getfield 7, 3) := by decide +kernel
theorem dX7_master_76 : decode cX7_master 76 = .ok (.iload_n 1, 1) := by decide +kernel
theorem dX7_master_77 : decode cX7_master 77 = .ok (.iconst 0, 1) := by decide +kernel
theorem dX7_master_78 : decode cX7_master 78 = .ok (.invokestatic 31, 3) := by decide +kernel
theorem dX7_master_81 : decode cX7_master 81 = .ok (.iaload, 1) := by decide +kernel
theorem dX7_master_82 : decode cX7_master 82 = .ok (.ireturn, 1) := by decide +kernel
theorem dX7_master_83 : decode cX7_master 83 = .ok (.aload_n 0, 1) := by decide +kernel
theorem dX7_master_84 : decode cX7_master 84 = .ok (.getfield 7, 3) := by decide +kernel
theorem dX7_master_87 : decode cX7_master 87 = .ok (.iload_n 1, 1) := by decide +kernel
theorem dX7_master_88 : decode cX7_master 88 = .ok (.bipush 7, 2) := by decide +kernel
theorem dX7_master_90 : decode cX7_master 90 = .ok (.invokestatic 31, 3) := by decide +kernel
theorem dX7_master_93 : decode cX7_master 93 = .ok (.iaload, 1) := by decide +kernel
theorem dX7_master_94 : decode cX7_master 94 = .ok (.ireturn, 1) := by decide +kernel
theorem dX7_master_95 : decode cX7_master 95 = .ok (.aload_n 0, 1) := by decide +kernel
theorem dX7_master_96 : decode cX7_master 96 = .ok (.iload_n 1, 1) := by decide +kernel
theorem dX7_master_97 : decode cX7_master 97 = .ok (.invokevirtual 100, 3) := by decide +kernel
theorem dX7_master_100 : decode cX7_master 100 = .ok (.ireturn, 1) := by decide +kernel
theorem dX7_master_101 : decode cX7_master 101 = .ok (.aload_n 0, 1) := by decide +kernel
theorem dX7_master_102 : decode cX7_master 102 = .ok (.getfield 7, 3) := by decide +kernel
theorem dX7_master_105 : decode cX7_master 105 = .ok (.iload_n 1, 1) := by decide +kernel
theorem dX7_master_106 : decode cX7_master 106 = .ok (.bipush 8, 2) := by decide +kernel
theorem dX7_master_108 : decode cX7_master 108 = .ok (.invokestatic 31, 3) := by decide +kernel
theorem dX7_master_111 : decode cX7_master 111 = .ok (.iaload, 1) := by decide +kernel
theorem dX7_master_112 : decode cX7_master 112 = .ok (.ireturn, 1) := by decide +kernel
theorem dX7_master_113 : decode cX7_master 113 = .ok (.aload_n 0, 1) := by decide +kernel
theorem dX7_master_114 : decode cX7_master 114 = .ok (.getfield 7, 3) := by decide +kernel
theorem dX7_master_117 : decode cX7_master 117 = .ok (.iload_n 1, 1) := by decide +kernel
theorem dX7_master_118 : decode cX7_master 118 = .ok (.bipush 9, 2) := by decide +kernel
theorem dX7_master_120 : decode cX7_master 120 = .ok (.invokestatic 31, 3) := by decide +kernel
theorem dX7_master_123 : decode cX7_master 123 = .ok (.iaload, 1) := by decide +kernel
theorem dX7_master_124 : decode cX7_master 124 = .ok (.aload_n 0, 1) := by decide +kernel
theorem dX7_master_125 : decode cX7_master 125 = .ok (.getfield 7, 3) := by decide +kernel
theorem dX7_master_128 : decode cX7_master 128 = .ok (.iconst 0, 1) := by decide +kernel
theorem dX7_master_129 : decode cX7_master 129 = .ok (.iaload, 1) := by decide +kernel
theorem dX7_master_130 : decode cX7_master 130 = .ok (.isub, 1) := by decide +kernel
theorem dX7_master_131 : decode cX7_master 131 = .ok (.istore 4, 2) := by decide +kernel
theorem dX7_master_133 : decode cX7_master 133 = .ok (.iload 4, 2) := by decide +kernel
theorem dX7_master_135 : decode cX7_master 135 = .ok (.ifCond .ge 7, 3) := by decide +kernel
theorem dX7_master_138 : decode cX7_master 138 = .ok (.iconst 0, 1) := by decide +kernel
theorem dX7_master_139 : decode cX7_master 139 = .ok (.goto 5, 3) := by decide +kernel
theorem dX7_master_142 : decode cX7_master 142 = .ok (.iload 4, 2) := by decide +kernel
theorem dX7_master_144 : decode cX7_master 144 = .ok (.ireturn, 1) := by decide +kernel
theorem dX7_master_145 : decode cX7_master 145 = .ok (.iload_n 3, 1) := by decide +kernel
theorem dX7_master_146 : decode cX7_master 146 = .ok (.ireturn, 1) := by decide +kernel
theorem dX7_master_147 : decode cX7_master 147 = .ok (.aload_n 0, 1) := by decide +kernel
theorem dX7_master_148 : decode cX7_master 148 = .ok (.iload_n 1, 1) := by decide +kernel
theorem dX7_master_149 : decode cX7_master 149 = .ok (.iload_n 2, 1) := by decide +kernel
theorem dX7_master_150 : decode cX7_master 150 = .ok (.bipush 7, 2) := by decide +kernel
theorem dX7_master_152 : decode cX7_master 152 = .ok (.if_icmp .ne 7, 3) := by decide +kernel
theorem dX7_master_155 : decode cX7_master 155 = .ok (.iconst 1, 1) := by decide +kernel
theorem dX7_master_156 : decode cX7_master 156 = .ok (.goto 4, 3) := by decide +kernel
theorem dX7_master_159 : decode cX7_master 159 = .ok (.iconst 0, 1) := by decide +kernel
theorem dX7_master_160 : decode cX7_master 160 = .ok (.invokevirtual 133, 3) := by decide +kernel
theorem dX7_master_163 : decode cX7_master 163 = .ok (.ireturn, 1) := by decide +kernel
theorem dX7_master_164 : decode cX7_master 164 = .ok (.iload_n 3, 1) := by decide +kernel
theorem dX7_master_165 : decode cX7_master 165 = .ok (.aload_n 0, 1) := by decide +kernel
theorem dX7_master_166 : decode cX7_master 166 = .ok (.getfield 7, 3) := by decide +kernel
theorem dX7_master_169 : decode cX7_master 169 = .ok (.iconst 3, 1) := by decide +kernel
theorem dX7_master_170 : decode cX7_master 170 = .ok (.iaload, 1) := by decide +kernel
theorem dX7_master_171 : decode cX7_master 171 = .ok (.if_icmp .lt 7, 3) := by decide +kernel
theorem dX7_master_174 : decode cX7_master 174 = .ok (.iconst 1, 1) := by decide +kernel
theorem dX7_master_175 : decode cX7_master 175 = .ok (.goto 4, 3) := by decide +kernel
theorem dX7_master_178 : decode cX7_master 178 = .ok (.iconst 0, 1) := by decide +kernel
theorem dX7_master_179 : decode cX7_master 179 = .ok (.ireturn, 1) := by decide +kernel
theorem dX7_master_180 : decode cX7_master 180 = .ok (.bipush (-2), 2) := by decide +kernel
theorem dX7_master_182 : decode cX7_master 182 = .ok (.ireturn, 1) := by decide +kernel
theorem dX7_row_0 : decode cX7_row 0 = .ok (.iload_n 1, 1) := by decide +kernel
theorem dX7_row_1 : decode cX7_row 1 = .ok (.invokestatic 56, 3) := by decide +kernel
theorem dX7_row_4 : decode cX7_row 4 = .ok (.ifCond .ne 5, 3) := by decide +kernel
theorem dX7_row_7 : decode cX7_row 7 = .ok (.iconst (-1), 1) := by decide +kernel
theorem dX7_row_8 : decode cX7_row 8 = .ok (.ireturn, 1) := by decide +kernel
theorem dX7_row_9 : decode cX7_row 9 = .ok (.iload_n 2, 1) := by decide +kernel
theorem dX7_row_10 : decode cX7_row 10 = .ok (.ifCond .ge 6, 3) := by decide +kernel
theorem dX7_row_13 : decode cX7_row 13 = .ok (.bipush (-2), 2) := by decide +kernel
theorem dX7_row_15 : decode cX7_row 15 = .ok (.ireturn, 1) := by decide +kernel
theorem dX7_row_16 : decode cX7_row 16 = .ok (.iload_n 2, 1) := by decide +kernel
theorem dX7_row_17 : decode cX7_row 17 = .ok (.aload_n 0, 1) := by decide +kernel
theorem dX7_row_18 : decode cX7_row 18 = .ok (.getfield 7, 3) := by decide +kernel
theorem dX7_row_21 : decode cX7_row 21 = .ok (.iload_n 1, 1) := by decide +kernel
theorem dX7_row_22 : decode cX7_row 22 = .ok (.iconst 0, 1) := by decide +kernel
theorem dX7_row_23 : decode cX7_row 23 = .ok (.invokestatic 31, 3) := by decide +kernel
theorem dX7_row_26 : decode cX7_row 26 = .ok (.iaload, 1) := by decide +kernel
theorem dX7_row_27 : decode cX7_row 27 = .ok (.if_icmp .ge 18, 3) := by decide +kernel
theorem dX7_row_30 : decode cX7_row 30 = .ok (.aload_n 0, 1) := by decide +kernel
theorem dX7_row_31 : decode cX7_row 31 = .ok (.getfield 7, 3) := by decide +kernel
theorem dX7_row_34 : decode cX7_row 34 = .ok (.iload_n 1, 1) := by decide +kernel
theorem dX7_row_35 : decode cX7_row 35 = .ok (.iconst 1, 1) := by decide +kernel
theorem dX7_row_36 : decode cX7_row 36 = .ok (.iload_n 2, 1) := by decide +kernel
theorem dX7_row_37 : decode cX7_row 37 = .ok (.iadd, 1) := by decide +kernel
theorem dX7_row_38 : decode cX7_row 38 = .ok (.invokestatic 31, 3) := by decide +kernel
theorem dX7_row_41 : decode cX7_row 41 = .ok (.iaload, 1) := by decide +kernel
theorem dX7_row_42 : decode cX7_row 42 = .ok (.goto 5, 3) := by decide +kernel
theorem dX7_row_45 : decode cX7_row 45 = .ok (.bipush (-5), 2) := by decide +kernel
theorem dX7_row_47 : decode cX7_row 47 = .ok (.ireturn, 1) := by decide +kernel
theorem dX7_doneIn_0 : decode cX7_doneIn 0 = .ok (.iconst 0, 1) := by decide +kernel
theorem dX7_doneIn_1 : decode cX7_doneIn 1 = .ok (.istore_n 2, 1) := by decide +kernel
theorem dX7_doneIn_2 : decode cX7_doneIn 2 = .ok (.iconst 0, 1) := by decide +kernel
theorem dX7_doneIn_3 : decode cX7_doneIn 3 = .ok (.istore_n 3, 1) := by decide +kernel
theorem dX7_doneIn_4 : decode cX7_doneIn 4 = .ok (.iload_n 3, 1) := by decide +kernel
theorem dX7_doneIn_5 : decode cX7_doneIn 5 = .ok (.aload_n 0, 1) := by decide +kernel
theorem dX7_doneIn_6 : decode cX7_doneIn 6 = .ok (.getfield 7, 3) := by decide +kernel
theorem dX7_doneIn_9 : decode cX7_doneIn 9 = .ok (.iload_n 1, 1) := by decide +kernel
theorem dX7_doneIn_10 : decode cX7_doneIn 10 = .ok (.bipush 19, 2) := by decide +kernel
theorem dX7_doneIn_12 : decode cX7_doneIn 12 = .ok (.invokestatic 35, 3) := by decide +kernel
theorem dX7_doneIn_15 : decode cX7_doneIn 15 = .ok (.iaload, 1) := by decide +kernel
theorem dX7_doneIn_16 : decode cX7_doneIn 16 = .ok (.if_icmp .ge 43, 3) := by decide +kernel
theorem dX7_doneIn_19 : decode cX7_doneIn 19 = .ok (.iload_n 2, 1) := by decide +kernel
theorem dX7_doneIn_20 : decode cX7_doneIn 20 = .ok (.aload_n 0, 1) := by decide +kernel
theorem dX7_doneIn_21 : decode cX7_doneIn 21 = .ok (.getfield 7, 3) := by decide +kernel
theorem dX7_doneIn_24 : decode cX7_doneIn 24 = .ok (.aload_n 0, 1) := by decide +kernel
theorem dX7_doneIn_25 : decode cX7_doneIn 25 = .ok (.getfield 7, 3) := by decide +kernel
theorem dX7_doneIn_28 : decode cX7_doneIn 28 = .ok (.iload_n 1, 1) := by decide +kernel
theorem dX7_doneIn_29 : decode cX7_doneIn 29 = .ok (.bipush 20, 2) := by decide +kernel
theorem dX7_doneIn_31 : decode cX7_doneIn 31 = .ok (.iload_n 3, 1) := by decide +kernel
theorem dX7_doneIn_32 : decode cX7_doneIn 32 = .ok (.iadd, 1) := by decide +kernel
theorem dX7_doneIn_33 : decode cX7_doneIn 33 = .ok (.invokestatic 35, 3) := by decide +kernel
theorem dX7_doneIn_36 : decode cX7_doneIn 36 = .ok (.iaload, 1) := by decide +kernel
theorem dX7_doneIn_37 : decode cX7_doneIn 37 = .ok (.iconst 4, 1) := by decide +kernel
theorem dX7_doneIn_38 : decode cX7_doneIn 38 = .ok (.invokestatic 59, 3) := by decide +kernel
theorem dX7_doneIn_41 : decode cX7_doneIn 41 = .ok (.iaload, 1) := by decide +kernel
theorem dX7_doneIn_42 : decode cX7_doneIn 42 = .ok (.iconst 2, 1) := by decide +kernel
theorem dX7_doneIn_43 : decode cX7_doneIn 43 = .ok (.if_icmp .ne 7, 3) := by decide +kernel
theorem dX7_doneIn_46 : decode cX7_doneIn 46 = .ok (.iconst 1, 1) := by decide +kernel
theorem dX7_doneIn_47 : decode cX7_doneIn 47 = .ok (.goto 4, 3) := by decide +kernel
theorem dX7_doneIn_50 : decode cX7_doneIn 50 = .ok (.iconst 0, 1) := by decide +kernel
theorem dX7_doneIn_51 : decode cX7_doneIn 51 = .ok (.iadd, 1) := by decide +kernel
theorem dX7_doneIn_52 : decode cX7_doneIn 52 = .ok (.istore_n 2, 1) := by decide +kernel
theorem dX7_doneIn_53 : decode cX7_doneIn 53 = .ok (.iinc 3 1, 3) := by decide +kernel
theorem dX7_doneIn_56 : decode cX7_doneIn 56 = .ok (.goto (-52), 3) := by decide +kernel
theorem dX7_doneIn_59 : decode cX7_doneIn 59 = .ok (.iload_n 2, 1) := by decide +kernel
theorem dX7_doneIn_60 : decode cX7_doneIn 60 = .ok (.ireturn, 1) := by decide +kernel
theorem dX7_target_0 : decode cX7_target 0 = .ok (.iload_n 1, 1) := by decide +kernel
theorem dX7_target_1 : decode cX7_target 1 = .ok (.invokestatic 56, 3) := by decide +kernel
theorem dX7_target_4 : decode cX7_target 4 = .ok (.ifCond .ne 5, 3) := by decide +kernel
theorem dX7_target_7 : decode cX7_target 7 = .ok (.iconst (-1), 1) := by decide +kernel
theorem dX7_target_8 : decode cX7_target 8 = .ok (.ireturn, 1) := by decide +kernel
theorem dX7_target_9 : decode cX7_target 9 = .ok (.iload_n 2, 1) := by decide +kernel
theorem dX7_target_10 : decode cX7_target 10 = .ok (.tableswitch 89 0 5 #[38, 38, 38, 38, 52, 58], 38) := by decide +kernel
theorem dX7_target_48 : decode cX7_target 48 = .ok (.aload_n 0, 1) := by decide +kernel
theorem dX7_target_49 : decode cX7_target 49 = .ok (.getfield 7, 3) := by decide +kernel
theorem dX7_target_52 : decode cX7_target 52 = .ok (.iload_n 1, 1) := by decide +kernel
theorem dX7_target_53 : decode cX7_target 53 = .ok (.bipush 16, 2) := by decide +kernel
theorem dX7_target_55 : decode cX7_target 55 = .ok (.iload_n 2, 1) := by decide +kernel
theorem dX7_target_56 : decode cX7_target 56 = .ok (.iadd, 1) := by decide +kernel
theorem dX7_target_57 : decode cX7_target 57 = .ok (.invokestatic 35, 3) := by decide +kernel
theorem dX7_target_60 : decode cX7_target 60 = .ok (.iaload, 1) := by decide +kernel
theorem dX7_target_61 : decode cX7_target 61 = .ok (.ireturn, 1) := by decide +kernel
theorem dX7_target_62 : decode cX7_target 62 = .ok (.aload_n 0, 1) := by decide +kernel
theorem dX7_target_63 : decode cX7_target 63 = .ok (.iload_n 1, 1) := by decide +kernel
theorem dX7_target_64 : decode cX7_target 64 = .ok (.invokevirtual 137, 3) := by decide +kernel
theorem dX7_target_67 : decode cX7_target 67 = .ok (.ireturn, 1) := by decide +kernel
theorem dX7_target_68 : decode cX7_target 68 = .ok (.aload_n 0, 1) := by decide +kernel
theorem dX7_target_69 : decode cX7_target 69 = .ok (.iload_n 1, 1) := by decide +kernel
theorem dX7_target_70 : decode cX7_target 70 = .ok (.invokevirtual 93, 3) := by decide +kernel
theorem dX7_target_73 : decode cX7_target 73 = .ok (.istore_n 3, 1) := by decide +kernel
theorem dX7_target_74 : decode cX7_target 74 = .ok (.iload_n 3, 1) := by decide +kernel
theorem dX7_target_75 : decode cX7_target 75 = .ok (.bipush (-5), 2) := by decide +kernel
theorem dX7_target_77 : decode cX7_target 77 = .ok (.if_icmp .ne 8, 3) := by decide +kernel
theorem dX7_target_80 : decode cX7_target 80 = .ok (.bipush (-5), 2) := by decide +kernel
theorem dX7_target_82 : decode cX7_target 82 = .ok (.goto 16, 3) := by decide +kernel
theorem dX7_target_85 : decode cX7_target 85 = .ok (.aload_n 0, 1) := by decide +kernel
theorem dX7_target_86 : decode cX7_target 86 = .ok (.getfield 7, 3) := by decide +kernel
theorem dX7_target_89 : decode cX7_target 89 = .ok (.iload_n 1, 1) := by decide +kernel
theorem dX7_target_90 : decode cX7_target 90 = .ok (.bipush 20, 2) := by decide +kernel
theorem dX7_target_92 : decode cX7_target 92 = .ok (.iload_n 3, 1) := by decide +kernel
theorem dX7_target_93 : decode cX7_target 93 = .ok (.iadd, 1) := by decide +kernel
theorem dX7_target_94 : decode cX7_target 94 = .ok (.invokestatic 35, 3) := by decide +kernel
theorem dX7_target_97 : decode cX7_target 97 = .ok (.iaload, 1) := by decide +kernel
theorem dX7_target_98 : decode cX7_target 98 = .ok (.ireturn, 1) := by decide +kernel
theorem dX7_target_99 : decode cX7_target 99 = .ok (.bipush (-2), 2) := by decide +kernel
theorem dX7_target_101 : decode cX7_target 101 = .ok (.ireturn, 1) := by decide +kernel
theorem dX7_cell_0 : decode cX7_cell 0 = .ok (.iload_n 1, 1) := by decide +kernel
theorem dX7_cell_1 : decode cX7_cell 1 = .ok (.invokestatic 56, 3) := by decide +kernel
theorem dX7_cell_4 : decode cX7_cell 4 = .ok (.ifCond .ne 5, 3) := by decide +kernel
theorem dX7_cell_7 : decode cX7_cell 7 = .ok (.iconst (-1), 1) := by decide +kernel
theorem dX7_cell_8 : decode cX7_cell 8 = .ok (.ireturn, 1) := by decide +kernel
theorem dX7_cell_9 : decode cX7_cell 9 = .ok (.iload_n 2, 1) := by decide +kernel
theorem dX7_cell_10 : decode cX7_cell 10 = .ok (.iconst 0, 1) := by decide +kernel
theorem dX7_cell_11 : decode cX7_cell 11 = .ok (.bipush 15, 2) := by decide +kernel
theorem dX7_cell_13 : decode cX7_cell 13 = .ok (.invokestatic 38, 3) := by decide +kernel
theorem dX7_cell_16 : decode cX7_cell 16 = .ok (.ifCond .eq 16, 3) := by decide +kernel
theorem dX7_cell_19 : decode cX7_cell 19 = .ok (.aload_n 0, 1) := by decide +kernel
theorem dX7_cell_20 : decode cX7_cell 20 = .ok (.getfield 7, 3) := by decide +kernel
theorem dX7_cell_23 : decode cX7_cell 23 = .ok (.iload_n 1, 1) := by decide +kernel
theorem dX7_cell_24 : decode cX7_cell 24 = .ok (.iload_n 2, 1) := by decide +kernel
theorem dX7_cell_25 : decode cX7_cell 25 = .ok (.invokestatic 35, 3) := by decide +kernel
theorem dX7_cell_28 : decode cX7_cell 28 = .ok (.iaload, 1) := by decide +kernel
theorem dX7_cell_29 : decode cX7_cell 29 = .ok (.goto 5, 3) := by decide +kernel
theorem dX7_cell_32 : decode cX7_cell 32 = .ok (.bipush (-2), 2) := by decide +kernel
theorem dX7_cell_34 : decode cX7_cell 34 = .ok (.ireturn, 1) := by decide +kernel
theorem dX7_putAside_0 : decode cX7_putAside 0 = .ok (.iconst 0, 1) := by decide +kernel
theorem dX7_putAside_1 : decode cX7_putAside 1 = .ok (.istore_n 1, 1) := by decide +kernel
theorem dX7_putAside_2 : decode cX7_putAside 2 = .ok (.iload_n 1, 1) := by decide +kernel
theorem dX7_putAside_3 : decode cX7_putAside 3 = .ok (.sipush 2361, 3) := by decide +kernel
theorem dX7_putAside_6 : decode cX7_putAside 6 = .ok (.if_icmp .ge 21, 3) := by decide +kernel
theorem dX7_putAside_9 : decode cX7_putAside 9 = .ok (.aload_n 0, 1) := by decide +kernel
theorem dX7_putAside_10 : decode cX7_putAside 10 = .ok (.getfield 13, 3) := by decide +kernel
theorem dX7_putAside_13 : decode cX7_putAside 13 = .ok (.iload_n 1, 1) := by decide +kernel
theorem dX7_putAside_14 : decode cX7_putAside 14 = .ok (.aload_n 0, 1) := by decide +kernel
theorem dX7_putAside_15 : decode cX7_putAside 15 = .ok (.getfield 7, 3) := by decide +kernel
theorem dX7_putAside_18 : decode cX7_putAside 18 = .ok (.iload_n 1, 1) := by decide +kernel
theorem dX7_putAside_19 : decode cX7_putAside 19 = .ok (.iaload, 1) := by decide +kernel
theorem dX7_putAside_20 : decode cX7_putAside 20 = .ok (.iastore, 1) := by decide +kernel
theorem dX7_putAside_21 : decode cX7_putAside 21 = .ok (.iinc 1 1, 3) := by decide +kernel
theorem dX7_putAside_24 : decode cX7_putAside 24 = .ok (.goto (-22), 3) := by decide +kernel
theorem dX7_putAside_27 : decode cX7_putAside 27 = .ok (.return_, 1) := by decide +kernel
theorem dX7_putBack_0 : decode cX7_putBack 0 = .ok (.iconst 0, 1) := by decide +kernel
theorem dX7_putBack_1 : decode cX7_putBack 1 = .ok (.istore_n 1, 1) := by decide +kernel
theorem dX7_putBack_2 : decode cX7_putBack 2 = .ok (.iload_n 1, 1) := by decide +kernel
theorem dX7_putBack_3 : decode cX7_putBack 3 = .ok (.sipush 2361, 3) := by decide +kernel
theorem dX7_putBack_6 : decode cX7_putBack 6 = .ok (.if_icmp .ge 21, 3) := by decide +kernel
theorem dX7_putBack_9 : decode cX7_putBack 9 = .ok (.aload_n 0, 1) := by decide +kernel
theorem dX7_putBack_10 : decode cX7_putBack 10 = .ok (.getfield 7, 3) := by decide +kernel
theorem dX7_putBack_13 : decode cX7_putBack 13 = .ok (.iload_n 1, 1) := by decide +kernel
theorem dX7_putBack_14 : decode cX7_putBack 14 = .ok (.aload_n 0, 1) := by decide +kernel
theorem dX7_putBack_15 : decode cX7_putBack 15 = .ok (.getfield 13, 3) := by decide +kernel
theorem dX7_putBack_18 : decode cX7_putBack 18 = .ok (.iload_n 1, 1) := by decide +kernel
theorem dX7_putBack_19 : decode cX7_putBack 19 = .ok (.iaload, 1) := by decide +kernel
theorem dX7_putBack_20 : decode cX7_putBack 20 = .ok (.iastore, 1) := by decide +kernel
theorem dX7_putBack_21 : decode cX7_putBack 21 = .ok (.iinc 1 1, 3) := by decide +kernel
theorem dX7_putBack_24 : decode cX7_putBack 24 = .ok (.goto (-22), 3) := by decide +kernel
theorem dX7_putBack_27 : decode cX7_putBack 27 = .ok (.return_, 1) := by decide +kernel
theorem dX7_next_0 : decode cX7_next 0 = .ok (.iload_n 1, 1) := by decide +kernel
theorem dX7_next_1 : decode cX7_next 1 = .ok (.iconst 0, 1) := by decide +kernel
theorem dX7_next_2 : decode cX7_next 2 = .ok (.iconst 1, 1) := by decide +kernel
theorem dX7_next_3 : decode cX7_next 3 = .ok (.invokestatic 38, 3) := by decide +kernel
theorem dX7_next_6 : decode cX7_next 6 = .ok (.ifCond .ne 6, 3) := by decide +kernel
theorem dX7_next_9 : decode cX7_next 9 = .ok (.bipush (-2), 2) := by decide +kernel
theorem dX7_next_11 : decode cX7_next 11 = .ok (.ireturn, 1) := by decide +kernel
theorem dX7_next_12 : decode cX7_next 12 = .ok (.aload_n 0, 1) := by decide +kernel
theorem dX7_next_13 : decode cX7_next 13 = .ok (.invokevirtual 140, 3) := by decide +kernel
theorem dX7_next_16 : decode cX7_next 16 = .ok (.aload_n 0, 1) := by decide +kernel
theorem dX7_next_17 : decode cX7_next 17 = .ok (.invokevirtual 124, 3) := by decide +kernel
theorem dX7_next_20 : decode cX7_next 20 = .ok (.istore_n 2, 1) := by decide +kernel
theorem dX7_next_21 : decode cX7_next 21 = .ok (.aload_n 0, 1) := by decide +kernel
theorem dX7_next_22 : decode cX7_next 22 = .ok (.invokevirtual 143, 3) := by decide +kernel
theorem dX7_next_25 : decode cX7_next 25 = .ok (.iload_n 1, 1) := by decide +kernel
theorem dX7_next_26 : decode cX7_next 26 = .ok (.ifCond .ne 10, 3) := by decide +kernel
theorem dX7_next_29 : decode cX7_next 29 = .ok (.aload_n 0, 1) := by decide +kernel
theorem dX7_next_30 : decode cX7_next 30 = .ok (.getfield 106, 3) := by decide +kernel
theorem dX7_next_33 : decode cX7_next 33 = .ok (.goto 4, 3) := by decide +kernel
theorem dX7_next_36 : decode cX7_next 36 = .ok (.iload_n 2, 1) := by decide +kernel
theorem dX7_next_37 : decode cX7_next 37 = .ok (.ireturn, 1) := by decide +kernel
theorem dX7_answeredIn_0 : decode cX7_answeredIn 0 = .ok (.aload_n 0, 1) := by decide +kernel
theorem dX7_answeredIn_1 : decode cX7_answeredIn 1 = .ok (.iload_n 1, 1) := by decide +kernel
theorem dX7_answeredIn_2 : decode cX7_answeredIn 2 = .ok (.invokevirtual 130, 3) := by decide +kernel
theorem dX7_answeredIn_5 : decode cX7_answeredIn 5 = .ok (.ifCond .ne 5, 3) := by decide +kernel
theorem dX7_answeredIn_8 : decode cX7_answeredIn 8 = .ok (.iconst (-1), 1) := by decide +kernel
theorem dX7_answeredIn_9 : decode cX7_answeredIn 9 = .ok (.ireturn, 1) := by decide +kernel
theorem dX7_answeredIn_10 : decode cX7_answeredIn 10 = .ok (.aload_n 0, 1) := by decide +kernel
theorem dX7_answeredIn_11 : decode cX7_answeredIn 11 = .ok (.getfield 7, 3) := by decide +kernel
theorem dX7_answeredIn_14 : decode cX7_answeredIn 14 = .ok (.iload_n 1, 1) := by decide +kernel
theorem dX7_answeredIn_15 : decode cX7_answeredIn 15 = .ok (.iconst 4, 1) := by decide +kernel
theorem dX7_answeredIn_16 : decode cX7_answeredIn 16 = .ok (.invokestatic 59, 3) := by decide +kernel
theorem dX7_answeredIn_19 : decode cX7_answeredIn 19 = .ok (.iaload, 1) := by decide +kernel
theorem dX7_answeredIn_20 : decode cX7_answeredIn 20 = .ok (.iconst 2, 1) := by decide +kernel
theorem dX7_answeredIn_21 : decode cX7_answeredIn 21 = .ok (.if_icmp .le 6, 3) := by decide +kernel
theorem dX7_answeredIn_24 : decode cX7_answeredIn 24 = .ok (.bipush (-4), 2) := by decide +kernel
theorem dX7_answeredIn_26 : decode cX7_answeredIn 26 = .ok (.ireturn, 1) := by decide +kernel
theorem dX7_answeredIn_27 : decode cX7_answeredIn 27 = .ok (.aload_n 0, 1) := by decide +kernel
theorem dX7_answeredIn_28 : decode cX7_answeredIn 28 = .ok (.invokevirtual 140, 3) := by decide +kernel
theorem dX7_answeredIn_31 : decode cX7_answeredIn 31 = .ok (.iconst 0, 1) := by decide +kernel
theorem dX7_answeredIn_32 : decode cX7_answeredIn 32 = .ok (.istore_n 2, 1) := by decide +kernel
theorem dX7_answeredIn_33 : decode cX7_answeredIn 33 = .ok (.iload_n 2, 1) := by decide +kernel
theorem dX7_answeredIn_34 : decode cX7_answeredIn 34 = .ok (.sipush 999, 3) := by decide +kernel
theorem dX7_answeredIn_37 : decode cX7_answeredIn 37 = .ok (.if_icmp .ge 28, 3) := by decide +kernel
theorem dX7_answeredIn_40 : decode cX7_answeredIn 40 = .ok (.aload_n 0, 1) := by decide +kernel
theorem dX7_answeredIn_41 : decode cX7_answeredIn 41 = .ok (.getfield 7, 3) := by decide +kernel
theorem dX7_answeredIn_44 : decode cX7_answeredIn 44 = .ok (.iload_n 1, 1) := by decide +kernel
theorem dX7_answeredIn_45 : decode cX7_answeredIn 45 = .ok (.iconst 4, 1) := by decide +kernel
theorem dX7_answeredIn_46 : decode cX7_answeredIn 46 = .ok (.invokestatic 59, 3) := by decide +kernel
theorem dX7_answeredIn_49 : decode cX7_answeredIn 49 = .ok (.iaload, 1) := by decide +kernel
theorem dX7_answeredIn_50 : decode cX7_answeredIn 50 = .ok (.iconst 3, 1) := by decide +kernel
theorem dX7_answeredIn_51 : decode cX7_answeredIn 51 = .ok (.if_icmp .eq 14, 3) := by decide +kernel
theorem dX7_answeredIn_54 : decode cX7_answeredIn 54 = .ok (.aload_n 0, 1) := by decide +kernel
theorem dX7_answeredIn_55 : decode cX7_answeredIn 55 = .ok (.invokevirtual 124, 3) := by decide +kernel
theorem dX7_answeredIn_58 : decode cX7_answeredIn 58 = .ok (.istore_n 3, 1) := by decide +kernel
theorem dX7_answeredIn_59 : decode cX7_answeredIn 59 = .ok (.iinc 2 1, 3) := by decide +kernel
theorem dX7_answeredIn_62 : decode cX7_answeredIn 62 = .ok (.goto (-29), 3) := by decide +kernel
theorem dX7_answeredIn_65 : decode cX7_answeredIn 65 = .ok (.aload_n 0, 1) := by decide +kernel
theorem dX7_answeredIn_66 : decode cX7_answeredIn 66 = .ok (.getfield 7, 3) := by decide +kernel
theorem dX7_answeredIn_69 : decode cX7_answeredIn 69 = .ok (.iload_n 1, 1) := by decide +kernel
theorem dX7_answeredIn_70 : decode cX7_answeredIn 70 = .ok (.iconst 4, 1) := by decide +kernel
theorem dX7_answeredIn_71 : decode cX7_answeredIn 71 = .ok (.invokestatic 59, 3) := by decide +kernel
theorem dX7_answeredIn_74 : decode cX7_answeredIn 74 = .ok (.iaload, 1) := by decide +kernel
theorem dX7_answeredIn_75 : decode cX7_answeredIn 75 = .ok (.iconst 3, 1) := by decide +kernel
theorem dX7_answeredIn_76 : decode cX7_answeredIn 76 = .ok (.if_icmp .ne 7, 3) := by decide +kernel
theorem dX7_answeredIn_79 : decode cX7_answeredIn 79 = .ok (.iconst 1, 1) := by decide +kernel
theorem dX7_answeredIn_80 : decode cX7_answeredIn 80 = .ok (.goto 4, 3) := by decide +kernel
theorem dX7_answeredIn_83 : decode cX7_answeredIn 83 = .ok (.iconst 0, 1) := by decide +kernel
theorem dX7_answeredIn_84 : decode cX7_answeredIn 84 = .ok (.istore_n 3, 1) := by decide +kernel
theorem dX7_answeredIn_85 : decode cX7_answeredIn 85 = .ok (.aload_n 0, 1) := by decide +kernel
theorem dX7_answeredIn_86 : decode cX7_answeredIn 86 = .ok (.invokevirtual 143, 3) := by decide +kernel
theorem dX7_answeredIn_89 : decode cX7_answeredIn 89 = .ok (.iload_n 3, 1) := by decide +kernel
theorem dX7_answeredIn_90 : decode cX7_answeredIn 90 = .ok (.ifCond .eq 7, 3) := by decide +kernel
theorem dX7_answeredIn_93 : decode cX7_answeredIn 93 = .ok (.iload_n 2, 1) := by decide +kernel
theorem dX7_answeredIn_94 : decode cX7_answeredIn 94 = .ok (.goto 5, 3) := by decide +kernel
theorem dX7_answeredIn_97 : decode cX7_answeredIn 97 = .ok (.bipush (-5), 2) := by decide +kernel
theorem dX7_answeredIn_99 : decode cX7_answeredIn 99 = .ok (.ireturn, 1) := by decide +kernel
theorem dX7_freeTags_0 : decode cX7_freeTags 0 = .ok (.iconst 0, 1) := by decide +kernel
theorem dX7_freeTags_1 : decode cX7_freeTags 1 = .ok (.istore_n 1, 1) := by decide +kernel
theorem dX7_freeTags_2 : decode cX7_freeTags 2 = .ok (.iconst 0, 1) := by decide +kernel
theorem dX7_freeTags_3 : decode cX7_freeTags 3 = .ok (.istore_n 2, 1) := by decide +kernel
theorem dX7_freeTags_4 : decode cX7_freeTags 4 = .ok (.iload_n 2, 1) := by decide +kernel
theorem dX7_freeTags_5 : decode cX7_freeTags 5 = .ok (.aload_n 0, 1) := by decide +kernel
theorem dX7_freeTags_6 : decode cX7_freeTags 6 = .ok (.getfield 7, 3) := by decide +kernel
theorem dX7_freeTags_9 : decode cX7_freeTags 9 = .ok (.iconst 1, 1) := by decide +kernel
theorem dX7_freeTags_10 : decode cX7_freeTags 10 = .ok (.iaload, 1) := by decide +kernel
theorem dX7_freeTags_11 : decode cX7_freeTags 11 = .ok (.if_icmp .ge 31, 3) := by decide +kernel
theorem dX7_freeTags_14 : decode cX7_freeTags 14 = .ok (.iload_n 1, 1) := by decide +kernel
theorem dX7_freeTags_15 : decode cX7_freeTags 15 = .ok (.aload_n 0, 1) := by decide +kernel
theorem dX7_freeTags_16 : decode cX7_freeTags 16 = .ok (.getfield 7, 3) := by decide +kernel
theorem dX7_freeTags_19 : decode cX7_freeTags 19 = .ok (.bipush 13, 2) := by decide +kernel
theorem dX7_freeTags_21 : decode cX7_freeTags 21 = .ok (.iload_n 2, 1) := by decide +kernel
theorem dX7_freeTags_22 : decode cX7_freeTags 22 = .ok (.iadd, 1) := by decide +kernel
theorem dX7_freeTags_23 : decode cX7_freeTags 23 = .ok (.iaload, 1) := by decide +kernel
theorem dX7_freeTags_24 : decode cX7_freeTags 24 = .ok (.bipush (-5), 2) := by decide +kernel
theorem dX7_freeTags_26 : decode cX7_freeTags 26 = .ok (.if_icmp .ne 7, 3) := by decide +kernel
theorem dX7_freeTags_29 : decode cX7_freeTags 29 = .ok (.iconst 1, 1) := by decide +kernel
theorem dX7_freeTags_30 : decode cX7_freeTags 30 = .ok (.goto 4, 3) := by decide +kernel
theorem dX7_freeTags_33 : decode cX7_freeTags 33 = .ok (.iconst 0, 1) := by decide +kernel
theorem dX7_freeTags_34 : decode cX7_freeTags 34 = .ok (.iadd, 1) := by decide +kernel
theorem dX7_freeTags_35 : decode cX7_freeTags 35 = .ok (.istore_n 1, 1) := by decide +kernel
theorem dX7_freeTags_36 : decode cX7_freeTags 36 = .ok (.iinc 2 1, 3) := by decide +kernel
theorem dX7_freeTags_39 : decode cX7_freeTags 39 = .ok (.goto (-35), 3) := by decide +kernel
theorem dX7_freeTags_42 : decode cX7_freeTags 42 = .ok (.iload_n 1, 1) := by decide +kernel
theorem dX7_freeTags_43 : decode cX7_freeTags 43 = .ok (.ireturn, 1) := by decide +kernel
theorem dX7_count_0 : decode cX7_count 0 = .ok (.iload_n 1, 1) := by decide +kernel
theorem dX7_count_1 : decode cX7_count 1 = .ok (.tableswitch 102 0 12 #[67, 67, 67, 67, 67, 74, 79, 79, 79, 79, 79, 92, 97], 67) := by decide +kernel
theorem dX7_count_68 : decode cX7_count 68 = .ok (.aload_n 0, 1) := by decide +kernel
theorem dX7_count_69 : decode cX7_count 69 = .ok (.getfield 7, 3) := by decide +kernel
theorem dX7_count_72 : decode cX7_count 72 = .ok (.iload_n 1, 1) := by decide +kernel
theorem dX7_count_73 : decode cX7_count 73 = .ok (.iaload, 1) := by decide +kernel
theorem dX7_count_74 : decode cX7_count 74 = .ok (.ireturn, 1) := by decide +kernel
theorem dX7_count_75 : decode cX7_count 75 = .ok (.aload_n 0, 1) := by decide +kernel
theorem dX7_count_76 : decode cX7_count 76 = .ok (.invokevirtual 146, 3) := by decide +kernel
theorem dX7_count_79 : decode cX7_count 79 = .ok (.ireturn, 1) := by decide +kernel
theorem dX7_count_80 : decode cX7_count 80 = .ok (.aload_n 0, 1) := by decide +kernel
theorem dX7_count_81 : decode cX7_count 81 = .ok (.getfield 7, 3) := by decide +kernel
theorem dX7_count_84 : decode cX7_count 84 = .ok (.bipush 8, 2) := by decide +kernel
theorem dX7_count_86 : decode cX7_count 86 = .ok (.iload_n 1, 1) := by decide +kernel
theorem dX7_count_87 : decode cX7_count 87 = .ok (.iadd, 1) := by decide +kernel
theorem dX7_count_88 : decode cX7_count 88 = .ok (.bipush 6, 2) := by decide +kernel
theorem dX7_count_90 : decode cX7_count 90 = .ok (.isub, 1) := by decide +kernel
theorem dX7_count_91 : decode cX7_count 91 = .ok (.iaload, 1) := by decide +kernel
theorem dX7_count_92 : decode cX7_count 92 = .ok (.ireturn, 1) := by decide +kernel
theorem dX7_count_93 : decode cX7_count 93 = .ok (.aload_n 0, 1) := by decide +kernel
theorem dX7_count_94 : decode cX7_count 94 = .ok (.getfield 42, 3) := by decide +kernel
theorem dX7_count_97 : decode cX7_count 97 = .ok (.ireturn, 1) := by decide +kernel
theorem dX7_count_98 : decode cX7_count 98 = .ok (.aload_n 0, 1) := by decide +kernel
theorem dX7_count_99 : decode cX7_count 99 = .ok (.getfield 72, 3) := by decide +kernel
theorem dX7_count_102 : decode cX7_count 102 = .ok (.ireturn, 1) := by decide +kernel
theorem dX7_count_103 : decode cX7_count 103 = .ok (.bipush (-2), 2) := by decide +kernel
theorem dX7_count_105 : decode cX7_count 105 = .ok (.ireturn, 1) := by decide +kernel
theorem dL_law_0 : decode cL_law 0 = .ok (.new 7, 3) := by decide +kernel
theorem dL_law_3 : decode cL_law 3 = .ok (.dup, 1) := by decide +kernel
theorem dL_law_4 : decode cL_law 4 = .ok (.invokespecial 9, 3) := by decide +kernel
theorem dL_law_7 : decode cL_law 7 = .ok (.astore_n 1, 1) := by decide +kernel
theorem dL_law_8 : decode cL_law 8 = .ok (.new 10, 3) := by decide +kernel
theorem dL_law_11 : decode cL_law 11 = .ok (.dup, 1) := by decide +kernel
theorem dL_law_12 : decode cL_law 12 = .ok (.invokespecial 12, 3) := by decide +kernel
theorem dL_law_15 : decode cL_law 15 = .ok (.astore_n 2, 1) := by decide +kernel
theorem dL_law_16 : decode cL_law 16 = .ok (.iconst 0, 1) := by decide +kernel
theorem dL_law_17 : decode cL_law 17 = .ok (.istore_n 3, 1) := by decide +kernel
theorem dL_law_18 : decode cL_law 18 = .ok (.iload_n 3, 1) := by decide +kernel
theorem dL_law_19 : decode cL_law 19 = .ok (.aload_n 0, 1) := by decide +kernel
theorem dL_law_20 : decode cL_law 20 = .ok (.arraylength, 1) := by decide +kernel
theorem dL_law_21 : decode cL_law 21 = .ok (.iconst 5, 1) := by decide +kernel
theorem dL_law_22 : decode cL_law 22 = .ok (.isub, 1) := by decide +kernel
theorem dL_law_23 : decode cL_law 23 = .ok (.if_icmp .gt 764, 3) := by decide +kernel
theorem dL_law_26 : decode cL_law 26 = .ok (.aload_n 0, 1) := by decide +kernel
theorem dL_law_27 : decode cL_law 27 = .ok (.iload_n 3, 1) := by decide +kernel
theorem dL_law_28 : decode cL_law 28 = .ok (.iaload, 1) := by decide +kernel
theorem dL_law_29 : decode cL_law 29 = .ok (.bipush 31, 2) := by decide +kernel
theorem dL_law_31 : decode cL_law 31 = .ok (.iand, 1) := by decide +kernel
theorem dL_law_32 : decode cL_law 32 = .ok (.tableswitch 749 0 22 #[108, 141, 174, 217, 260, 303, 356, 369, 392, 415, 440, 453, 466, 479, 492, 525, 548, 581, 614, 647, 680, 703, 726], 108) := by decide +kernel
theorem dL_law_140 : decode cL_law 140 = .ok (.aload_n 1, 1) := by decide +kernel
theorem dL_law_141 : decode cL_law 141 = .ok (.aload_n 0, 1) := by decide +kernel
theorem dL_law_142 : decode cL_law 142 = .ok (.iload_n 3, 1) := by decide +kernel
theorem dL_law_143 : decode cL_law 143 = .ok (.iconst 1, 1) := by decide +kernel
theorem dL_law_144 : decode cL_law 144 = .ok (.iadd, 1) := by decide +kernel
theorem dL_law_145 : decode cL_law 145 = .ok (.iaload, 1) := by decide +kernel
theorem dL_law_146 : decode cL_law 146 = .ok (.aload_n 0, 1) := by decide +kernel
theorem dL_law_147 : decode cL_law 147 = .ok (.iload_n 3, 1) := by decide +kernel
theorem dL_law_148 : decode cL_law 148 = .ok (.iconst 2, 1) := by decide +kernel
theorem dL_law_149 : decode cL_law 149 = .ok (.iadd, 1) := by decide +kernel
theorem dL_law_150 : decode cL_law 150 = .ok (.iaload, 1) := by decide +kernel
theorem dL_law_151 : decode cL_law 151 = .ok (.invokevirtual 13, 3) := by decide +kernel
theorem dL_law_154 : decode cL_law 154 = .ok (.aload_n 2, 1) := by decide +kernel
theorem dL_law_155 : decode cL_law 155 = .ok (.aload_n 0, 1) := by decide +kernel
theorem dL_law_156 : decode cL_law 156 = .ok (.iload_n 3, 1) := by decide +kernel
theorem dL_law_157 : decode cL_law 157 = .ok (.iconst 1, 1) := by decide +kernel
theorem dL_law_158 : decode cL_law 158 = .ok (.iadd, 1) := by decide +kernel
theorem dL_law_159 : decode cL_law 159 = .ok (.iaload, 1) := by decide +kernel
theorem dL_law_160 : decode cL_law 160 = .ok (.aload_n 0, 1) := by decide +kernel
theorem dL_law_161 : decode cL_law 161 = .ok (.iload_n 3, 1) := by decide +kernel
theorem dL_law_162 : decode cL_law 162 = .ok (.iconst 2, 1) := by decide +kernel
theorem dL_law_163 : decode cL_law 163 = .ok (.iadd, 1) := by decide +kernel
theorem dL_law_164 : decode cL_law 164 = .ok (.iaload, 1) := by decide +kernel
theorem dL_law_165 : decode cL_law 165 = .ok (.invokevirtual 17, 3) := by decide +kernel
theorem dL_law_168 : decode cL_law 168 = .ok (.if_icmp .eq 613, 3) := by decide +kernel
theorem dL_law_171 : decode cL_law 171 = .ok (.iconst 0, 1) := by decide +kernel
theorem dL_law_172 : decode cL_law 172 = .ok (.ireturn, 1) := by decide +kernel
theorem dL_law_173 : decode cL_law 173 = .ok (.aload_n 1, 1) := by decide +kernel
theorem dL_law_174 : decode cL_law 174 = .ok (.aload_n 0, 1) := by decide +kernel
theorem dL_law_175 : decode cL_law 175 = .ok (.iload_n 3, 1) := by decide +kernel
theorem dL_law_176 : decode cL_law 176 = .ok (.iconst 1, 1) := by decide +kernel
theorem dL_law_177 : decode cL_law 177 = .ok (.iadd, 1) := by decide +kernel
theorem dL_law_178 : decode cL_law 178 = .ok (.iaload, 1) := by decide +kernel
theorem dL_law_179 : decode cL_law 179 = .ok (.aload_n 0, 1) := by decide +kernel
theorem dL_law_180 : decode cL_law 180 = .ok (.iload_n 3, 1) := by decide +kernel
theorem dL_law_181 : decode cL_law 181 = .ok (.iconst 2, 1) := by decide +kernel
theorem dL_law_182 : decode cL_law 182 = .ok (.iadd, 1) := by decide +kernel
theorem dL_law_183 : decode cL_law 183 = .ok (.iaload, 1) := by decide +kernel
theorem dL_law_184 : decode cL_law 184 = .ok (.invokevirtual 18, 3) := by decide +kernel
theorem dL_law_187 : decode cL_law 187 = .ok (.aload_n 2, 1) := by decide +kernel
theorem dL_law_188 : decode cL_law 188 = .ok (.aload_n 0, 1) := by decide +kernel
theorem dL_law_189 : decode cL_law 189 = .ok (.iload_n 3, 1) := by decide +kernel
theorem dL_law_190 : decode cL_law 190 = .ok (.iconst 1, 1) := by decide +kernel
theorem dL_law_191 : decode cL_law 191 = .ok (.iadd, 1) := by decide +kernel
theorem dL_law_192 : decode cL_law 192 = .ok (.iaload, 1) := by decide +kernel
theorem dL_law_193 : decode cL_law 193 = .ok (.aload_n 0, 1) := by decide +kernel
theorem dL_law_194 : decode cL_law 194 = .ok (.iload_n 3, 1) := by decide +kernel
theorem dL_law_195 : decode cL_law 195 = .ok (.iconst 2, 1) := by decide +kernel
theorem dL_law_196 : decode cL_law 196 = .ok (.iadd, 1) := by decide +kernel
theorem dL_law_197 : decode cL_law 197 = .ok (.iaload, 1) := by decide +kernel
theorem dL_law_198 : decode cL_law 198 = .ok (.invokevirtual 21, 3) := by decide +kernel
theorem dL_law_201 : decode cL_law 201 = .ok (.if_icmp .eq 580, 3) := by decide +kernel
theorem dL_law_204 : decode cL_law 204 = .ok (.iconst 0, 1) := by decide +kernel
theorem dL_law_205 : decode cL_law 205 = .ok (.ireturn, 1) := by decide +kernel
theorem dL_law_206 : decode cL_law 206 = .ok (.aload_n 1, 1) := by decide +kernel
theorem dL_law_207 : decode cL_law 207 = .ok (.aload_n 0, 1) := by decide +kernel
theorem dL_law_208 : decode cL_law 208 = .ok (.iload_n 3, 1) := by decide +kernel
theorem dL_law_209 : decode cL_law 209 = .ok (.iconst 1, 1) := by decide +kernel
theorem dL_law_210 : decode cL_law 210 = .ok (.iadd, 1) := by decide +kernel
theorem dL_law_211 : decode cL_law 211 = .ok (.iaload, 1) := by decide +kernel
theorem dL_law_212 : decode cL_law 212 = .ok (.aload_n 0, 1) := by decide +kernel
theorem dL_law_213 : decode cL_law 213 = .ok (.iload_n 3, 1) := by decide +kernel
theorem dL_law_214 : decode cL_law 214 = .ok (.iconst 2, 1) := by decide +kernel
theorem dL_law_215 : decode cL_law 215 = .ok (.iadd, 1) := by decide +kernel
theorem dL_law_216 : decode cL_law 216 = .ok (.iaload, 1) := by decide +kernel
theorem dL_law_217 : decode cL_law 217 = .ok (.aload_n 0, 1) := by decide +kernel
theorem dL_law_218 : decode cL_law 218 = .ok (.iload_n 3, 1) := by decide +kernel
theorem dL_law_219 : decode cL_law 219 = .ok (.iconst 3, 1) := by decide +kernel
theorem dL_law_220 : decode cL_law 220 = .ok (.iadd, 1) := by decide +kernel
theorem dL_law_221 : decode cL_law 221 = .ok (.iaload, 1) := by decide +kernel
theorem dL_law_222 : decode cL_law 222 = .ok (.invokevirtual 22, 3) := by decide +kernel
theorem dL_law_225 : decode cL_law 225 = .ok (.aload_n 2, 1) := by decide +kernel
theorem dL_law_226 : decode cL_law 226 = .ok (.aload_n 0, 1) := by decide +kernel
theorem dL_law_227 : decode cL_law 227 = .ok (.iload_n 3, 1) := by decide +kernel
theorem dL_law_228 : decode cL_law 228 = .ok (.iconst 1, 1) := by decide +kernel
theorem dL_law_229 : decode cL_law 229 = .ok (.iadd, 1) := by decide +kernel
theorem dL_law_230 : decode cL_law 230 = .ok (.iaload, 1) := by decide +kernel
theorem dL_law_231 : decode cL_law 231 = .ok (.aload_n 0, 1) := by decide +kernel
theorem dL_law_232 : decode cL_law 232 = .ok (.iload_n 3, 1) := by decide +kernel
theorem dL_law_233 : decode cL_law 233 = .ok (.iconst 2, 1) := by decide +kernel
theorem dL_law_234 : decode cL_law 234 = .ok (.iadd, 1) := by decide +kernel
theorem dL_law_235 : decode cL_law 235 = .ok (.iaload, 1) := by decide +kernel
theorem dL_law_236 : decode cL_law 236 = .ok (.aload_n 0, 1) := by decide +kernel
theorem dL_law_237 : decode cL_law 237 = .ok (.iload_n 3, 1) := by decide +kernel
theorem dL_law_238 : decode cL_law 238 = .ok (.iconst 3, 1) := by decide +kernel
theorem dL_law_239 : decode cL_law 239 = .ok (.iadd, 1) := by decide +kernel
theorem dL_law_240 : decode cL_law 240 = .ok (.iaload, 1) := by decide +kernel
theorem dL_law_241 : decode cL_law 241 = .ok (.invokevirtual 26, 3) := by decide +kernel
theorem dL_law_244 : decode cL_law 244 = .ok (.if_icmp .eq 537, 3) := by decide +kernel
theorem dL_law_247 : decode cL_law 247 = .ok (.iconst 0, 1) := by decide +kernel
theorem dL_law_248 : decode cL_law 248 = .ok (.ireturn, 1) := by decide +kernel
theorem dL_law_249 : decode cL_law 249 = .ok (.aload_n 1, 1) := by decide +kernel
theorem dL_law_250 : decode cL_law 250 = .ok (.aload_n 0, 1) := by decide +kernel
theorem dL_law_251 : decode cL_law 251 = .ok (.iload_n 3, 1) := by decide +kernel
theorem dL_law_252 : decode cL_law 252 = .ok (.iconst 1, 1) := by decide +kernel
theorem dL_law_253 : decode cL_law 253 = .ok (.iadd, 1) := by decide +kernel
theorem dL_law_254 : decode cL_law 254 = .ok (.iaload, 1) := by decide +kernel
theorem dL_law_255 : decode cL_law 255 = .ok (.aload_n 0, 1) := by decide +kernel
theorem dL_law_256 : decode cL_law 256 = .ok (.iload_n 3, 1) := by decide +kernel
theorem dL_law_257 : decode cL_law 257 = .ok (.iconst 2, 1) := by decide +kernel
theorem dL_law_258 : decode cL_law 258 = .ok (.iadd, 1) := by decide +kernel
theorem dL_law_259 : decode cL_law 259 = .ok (.iaload, 1) := by decide +kernel
theorem dL_law_260 : decode cL_law 260 = .ok (.aload_n 0, 1) := by decide +kernel
theorem dL_law_261 : decode cL_law 261 = .ok (.iload_n 3, 1) := by decide +kernel
theorem dL_law_262 : decode cL_law 262 = .ok (.iconst 3, 1) := by decide +kernel
theorem dL_law_263 : decode cL_law 263 = .ok (.iadd, 1) := by decide +kernel
theorem dL_law_264 : decode cL_law 264 = .ok (.iaload, 1) := by decide +kernel
theorem dL_law_265 : decode cL_law 265 = .ok (.invokevirtual 27, 3) := by decide +kernel
theorem dL_law_268 : decode cL_law 268 = .ok (.aload_n 2, 1) := by decide +kernel
theorem dL_law_269 : decode cL_law 269 = .ok (.aload_n 0, 1) := by decide +kernel
theorem dL_law_270 : decode cL_law 270 = .ok (.iload_n 3, 1) := by decide +kernel
theorem dL_law_271 : decode cL_law 271 = .ok (.iconst 1, 1) := by decide +kernel
theorem dL_law_272 : decode cL_law 272 = .ok (.iadd, 1) := by decide +kernel
theorem dL_law_273 : decode cL_law 273 = .ok (.iaload, 1) := by decide +kernel
theorem dL_law_274 : decode cL_law 274 = .ok (.aload_n 0, 1) := by decide +kernel
theorem dL_law_275 : decode cL_law 275 = .ok (.iload_n 3, 1) := by decide +kernel
theorem dL_law_276 : decode cL_law 276 = .ok (.iconst 2, 1) := by decide +kernel
theorem dL_law_277 : decode cL_law 277 = .ok (.iadd, 1) := by decide +kernel
theorem dL_law_278 : decode cL_law 278 = .ok (.iaload, 1) := by decide +kernel
theorem dL_law_279 : decode cL_law 279 = .ok (.aload_n 0, 1) := by decide +kernel
theorem dL_law_280 : decode cL_law 280 = .ok (.iload_n 3, 1) := by decide +kernel
theorem dL_law_281 : decode cL_law 281 = .ok (.iconst 3, 1) := by decide +kernel
theorem dL_law_282 : decode cL_law 282 = .ok (.iadd, 1) := by decide +kernel
theorem dL_law_283 : decode cL_law 283 = .ok (.iaload, 1) := by decide +kernel
theorem dL_law_284 : decode cL_law 284 = .ok (.invokevirtual 30, 3) := by decide +kernel
theorem dL_law_287 : decode cL_law 287 = .ok (.if_icmp .eq 494, 3) := by decide +kernel
theorem dL_law_290 : decode cL_law 290 = .ok (.iconst 0, 1) := by decide +kernel
theorem dL_law_291 : decode cL_law 291 = .ok (.ireturn, 1) := by decide +kernel
theorem dL_law_292 : decode cL_law 292 = .ok (.aload_n 1, 1) := by decide +kernel
theorem dL_law_293 : decode cL_law 293 = .ok (.aload_n 0, 1) := by decide +kernel
theorem dL_law_294 : decode cL_law 294 = .ok (.iload_n 3, 1) := by decide +kernel
theorem dL_law_295 : decode cL_law 295 = .ok (.iconst 1, 1) := by decide +kernel
theorem dL_law_296 : decode cL_law 296 = .ok (.iadd, 1) := by decide +kernel
theorem dL_law_297 : decode cL_law 297 = .ok (.iaload, 1) := by decide +kernel
theorem dL_law_298 : decode cL_law 298 = .ok (.aload_n 0, 1) := by decide +kernel
theorem dL_law_299 : decode cL_law 299 = .ok (.iload_n 3, 1) := by decide +kernel
theorem dL_law_300 : decode cL_law 300 = .ok (.iconst 2, 1) := by decide +kernel
theorem dL_law_301 : decode cL_law 301 = .ok (.iadd, 1) := by decide +kernel
theorem dL_law_302 : decode cL_law 302 = .ok (.iaload, 1) := by decide +kernel
theorem dL_law_303 : decode cL_law 303 = .ok (.aload_n 0, 1) := by decide +kernel
theorem dL_law_304 : decode cL_law 304 = .ok (.iload_n 3, 1) := by decide +kernel
theorem dL_law_305 : decode cL_law 305 = .ok (.iconst 3, 1) := by decide +kernel
theorem dL_law_306 : decode cL_law 306 = .ok (.iadd, 1) := by decide +kernel
theorem dL_law_307 : decode cL_law 307 = .ok (.iaload, 1) := by decide +kernel
theorem dL_law_308 : decode cL_law 308 = .ok (.invokevirtual 31, 3) := by decide +kernel
theorem dL_law_311 : decode cL_law 311 = .ok (.aload_n 2, 1) := by decide +kernel
theorem dL_law_312 : decode cL_law 312 = .ok (.aload_n 0, 1) := by decide +kernel
theorem dL_law_313 : decode cL_law 313 = .ok (.iload_n 3, 1) := by decide +kernel
theorem dL_law_314 : decode cL_law 314 = .ok (.iconst 1, 1) := by decide +kernel
theorem dL_law_315 : decode cL_law 315 = .ok (.iadd, 1) := by decide +kernel
theorem dL_law_316 : decode cL_law 316 = .ok (.iaload, 1) := by decide +kernel
theorem dL_law_317 : decode cL_law 317 = .ok (.aload_n 0, 1) := by decide +kernel
theorem dL_law_318 : decode cL_law 318 = .ok (.iload_n 3, 1) := by decide +kernel
theorem dL_law_319 : decode cL_law 319 = .ok (.iconst 2, 1) := by decide +kernel
theorem dL_law_320 : decode cL_law 320 = .ok (.iadd, 1) := by decide +kernel
theorem dL_law_321 : decode cL_law 321 = .ok (.iaload, 1) := by decide +kernel
theorem dL_law_322 : decode cL_law 322 = .ok (.aload_n 0, 1) := by decide +kernel
theorem dL_law_323 : decode cL_law 323 = .ok (.iload_n 3, 1) := by decide +kernel
theorem dL_law_324 : decode cL_law 324 = .ok (.iconst 3, 1) := by decide +kernel
theorem dL_law_325 : decode cL_law 325 = .ok (.iadd, 1) := by decide +kernel
theorem dL_law_326 : decode cL_law 326 = .ok (.iaload, 1) := by decide +kernel
theorem dL_law_327 : decode cL_law 327 = .ok (.invokevirtual 34, 3) := by decide +kernel
theorem dL_law_330 : decode cL_law 330 = .ok (.if_icmp .eq 451, 3) := by decide +kernel
theorem dL_law_333 : decode cL_law 333 = .ok (.iconst 0, 1) := by decide +kernel
theorem dL_law_334 : decode cL_law 334 = .ok (.ireturn, 1) := by decide +kernel
theorem dL_law_335 : decode cL_law 335 = .ok (.aload_n 1, 1) := by decide +kernel
theorem dL_law_336 : decode cL_law 336 = .ok (.aload_n 0, 1) := by decide +kernel
theorem dL_law_337 : decode cL_law 337 = .ok (.iload_n 3, 1) := by decide +kernel
theorem dL_law_338 : decode cL_law 338 = .ok (.iconst 1, 1) := by decide +kernel
theorem dL_law_339 : decode cL_law 339 = .ok (.iadd, 1) := by decide +kernel
theorem dL_law_340 : decode cL_law 340 = .ok (.iaload, 1) := by decide +kernel
theorem dL_law_341 : decode cL_law 341 = .ok (.aload_n 0, 1) := by decide +kernel
theorem dL_law_342 : decode cL_law 342 = .ok (.iload_n 3, 1) := by decide +kernel
theorem dL_law_343 : decode cL_law 343 = .ok (.iconst 2, 1) := by decide +kernel
theorem dL_law_344 : decode cL_law 344 = .ok (.iadd, 1) := by decide +kernel
theorem dL_law_345 : decode cL_law 345 = .ok (.iaload, 1) := by decide +kernel
theorem dL_law_346 : decode cL_law 346 = .ok (.aload_n 0, 1) := by decide +kernel
theorem dL_law_347 : decode cL_law 347 = .ok (.iload_n 3, 1) := by decide +kernel
theorem dL_law_348 : decode cL_law 348 = .ok (.iconst 3, 1) := by decide +kernel
theorem dL_law_349 : decode cL_law 349 = .ok (.iadd, 1) := by decide +kernel
theorem dL_law_350 : decode cL_law 350 = .ok (.iaload, 1) := by decide +kernel
theorem dL_law_351 : decode cL_law 351 = .ok (.aload_n 0, 1) := by decide +kernel
theorem dL_law_352 : decode cL_law 352 = .ok (.iload_n 3, 1) := by decide +kernel
theorem dL_law_353 : decode cL_law 353 = .ok (.iconst 4, 1) := by decide +kernel
theorem dL_law_354 : decode cL_law 354 = .ok (.iadd, 1) := by decide +kernel
theorem dL_law_355 : decode cL_law 355 = .ok (.iaload, 1) := by decide +kernel
theorem dL_law_356 : decode cL_law 356 = .ok (.invokevirtual 35, 3) := by decide +kernel
theorem dL_law_359 : decode cL_law 359 = .ok (.aload_n 2, 1) := by decide +kernel
theorem dL_law_360 : decode cL_law 360 = .ok (.aload_n 0, 1) := by decide +kernel
theorem dL_law_361 : decode cL_law 361 = .ok (.iload_n 3, 1) := by decide +kernel
theorem dL_law_362 : decode cL_law 362 = .ok (.iconst 1, 1) := by decide +kernel
theorem dL_law_363 : decode cL_law 363 = .ok (.iadd, 1) := by decide +kernel
theorem dL_law_364 : decode cL_law 364 = .ok (.iaload, 1) := by decide +kernel
theorem dL_law_365 : decode cL_law 365 = .ok (.aload_n 0, 1) := by decide +kernel
theorem dL_law_366 : decode cL_law 366 = .ok (.iload_n 3, 1) := by decide +kernel
theorem dL_law_367 : decode cL_law 367 = .ok (.iconst 2, 1) := by decide +kernel
theorem dL_law_368 : decode cL_law 368 = .ok (.iadd, 1) := by decide +kernel
theorem dL_law_369 : decode cL_law 369 = .ok (.iaload, 1) := by decide +kernel
theorem dL_law_370 : decode cL_law 370 = .ok (.aload_n 0, 1) := by decide +kernel
theorem dL_law_371 : decode cL_law 371 = .ok (.iload_n 3, 1) := by decide +kernel
theorem dL_law_372 : decode cL_law 372 = .ok (.iconst 3, 1) := by decide +kernel
theorem dL_law_373 : decode cL_law 373 = .ok (.iadd, 1) := by decide +kernel
theorem dL_law_374 : decode cL_law 374 = .ok (.iaload, 1) := by decide +kernel
theorem dL_law_375 : decode cL_law 375 = .ok (.aload_n 0, 1) := by decide +kernel
theorem dL_law_376 : decode cL_law 376 = .ok (.iload_n 3, 1) := by decide +kernel
theorem dL_law_377 : decode cL_law 377 = .ok (.iconst 4, 1) := by decide +kernel
theorem dL_law_378 : decode cL_law 378 = .ok (.iadd, 1) := by decide +kernel
theorem dL_law_379 : decode cL_law 379 = .ok (.iaload, 1) := by decide +kernel
theorem dL_law_380 : decode cL_law 380 = .ok (.invokevirtual 39, 3) := by decide +kernel
theorem dL_law_383 : decode cL_law 383 = .ok (.if_icmp .eq 398, 3) := by decide +kernel
theorem dL_law_386 : decode cL_law 386 = .ok (.iconst 0, 1) := by decide +kernel
theorem dL_law_387 : decode cL_law 387 = .ok (.ireturn, 1) := by decide +kernel
theorem dL_law_388 : decode cL_law 388 = .ok (.aload_n 1, 1) := by decide +kernel
theorem dL_law_389 : decode cL_law 389 = .ok (.invokevirtual 40, 3) := by decide +kernel
theorem dL_law_392 : decode cL_law 392 = .ok (.aload_n 2, 1) := by decide +kernel
theorem dL_law_393 : decode cL_law 393 = .ok (.invokevirtual 44, 3) := by decide +kernel
theorem dL_law_396 : decode cL_law 396 = .ok (.if_icmp .eq 385, 3) := by decide +kernel
theorem dL_law_399 : decode cL_law 399 = .ok (.iconst 0, 1) := by decide +kernel
theorem dL_law_400 : decode cL_law 400 = .ok (.ireturn, 1) := by decide +kernel
theorem dL_law_401 : decode cL_law 401 = .ok (.aload_n 1, 1) := by decide +kernel
theorem dL_law_402 : decode cL_law 402 = .ok (.aload_n 0, 1) := by decide +kernel
theorem dL_law_403 : decode cL_law 403 = .ok (.iload_n 3, 1) := by decide +kernel
theorem dL_law_404 : decode cL_law 404 = .ok (.iconst 1, 1) := by decide +kernel
theorem dL_law_405 : decode cL_law 405 = .ok (.iadd, 1) := by decide +kernel
theorem dL_law_406 : decode cL_law 406 = .ok (.iaload, 1) := by decide +kernel
theorem dL_law_407 : decode cL_law 407 = .ok (.invokevirtual 45, 3) := by decide +kernel
theorem dL_law_410 : decode cL_law 410 = .ok (.aload_n 2, 1) := by decide +kernel
theorem dL_law_411 : decode cL_law 411 = .ok (.aload_n 0, 1) := by decide +kernel
theorem dL_law_412 : decode cL_law 412 = .ok (.iload_n 3, 1) := by decide +kernel
theorem dL_law_413 : decode cL_law 413 = .ok (.iconst 1, 1) := by decide +kernel
theorem dL_law_414 : decode cL_law 414 = .ok (.iadd, 1) := by decide +kernel
theorem dL_law_415 : decode cL_law 415 = .ok (.iaload, 1) := by decide +kernel
theorem dL_law_416 : decode cL_law 416 = .ok (.invokevirtual 49, 3) := by decide +kernel
theorem dL_law_419 : decode cL_law 419 = .ok (.if_icmp .eq 362, 3) := by decide +kernel
theorem dL_law_422 : decode cL_law 422 = .ok (.iconst 0, 1) := by decide +kernel
theorem dL_law_423 : decode cL_law 423 = .ok (.ireturn, 1) := by decide +kernel
theorem dL_law_424 : decode cL_law 424 = .ok (.aload_n 1, 1) := by decide +kernel
theorem dL_law_425 : decode cL_law 425 = .ok (.aload_n 0, 1) := by decide +kernel
theorem dL_law_426 : decode cL_law 426 = .ok (.iload_n 3, 1) := by decide +kernel
theorem dL_law_427 : decode cL_law 427 = .ok (.iconst 1, 1) := by decide +kernel
theorem dL_law_428 : decode cL_law 428 = .ok (.iadd, 1) := by decide +kernel
theorem dL_law_429 : decode cL_law 429 = .ok (.iaload, 1) := by decide +kernel
theorem dL_law_430 : decode cL_law 430 = .ok (.invokevirtual 50, 3) := by decide +kernel
theorem dL_law_433 : decode cL_law 433 = .ok (.aload_n 2, 1) := by decide +kernel
theorem dL_law_434 : decode cL_law 434 = .ok (.aload_n 0, 1) := by decide +kernel
theorem dL_law_435 : decode cL_law 435 = .ok (.iload_n 3, 1) := by decide +kernel
theorem dL_law_436 : decode cL_law 436 = .ok (.iconst 1, 1) := by decide +kernel
theorem dL_law_437 : decode cL_law 437 = .ok (.iadd, 1) := by decide +kernel
theorem dL_law_438 : decode cL_law 438 = .ok (.iaload, 1) := by decide +kernel
theorem dL_law_439 : decode cL_law 439 = .ok (.invokevirtual 53, 3) := by decide +kernel
theorem dL_law_442 : decode cL_law 442 = .ok (.if_icmp .eq 339, 3) := by decide +kernel
theorem dL_law_445 : decode cL_law 445 = .ok (.iconst 0, 1) := by decide +kernel
theorem dL_law_446 : decode cL_law 446 = .ok (.ireturn, 1) := by decide +kernel
theorem dL_law_447 : decode cL_law 447 = .ok (.aload_n 1, 1) := by decide +kernel
theorem dL_law_448 : decode cL_law 448 = .ok (.aload_n 0, 1) := by decide +kernel
theorem dL_law_449 : decode cL_law 449 = .ok (.iload_n 3, 1) := by decide +kernel
theorem dL_law_450 : decode cL_law 450 = .ok (.iconst 1, 1) := by decide +kernel
theorem dL_law_451 : decode cL_law 451 = .ok (.iadd, 1) := by decide +kernel
theorem dL_law_452 : decode cL_law 452 = .ok (.iaload, 1) := by decide +kernel
theorem dL_law_453 : decode cL_law 453 = .ok (.i2c, 1) := by decide +kernel
theorem dL_law_454 : decode cL_law 454 = .ok (.invokevirtual 54, 3) := by decide +kernel
theorem dL_law_457 : decode cL_law 457 = .ok (.aload_n 2, 1) := by decide +kernel
theorem dL_law_458 : decode cL_law 458 = .ok (.aload_n 0, 1) := by decide +kernel
theorem dL_law_459 : decode cL_law 459 = .ok (.iload_n 3, 1) := by decide +kernel
theorem dL_law_460 : decode cL_law 460 = .ok (.iconst 1, 1) := by decide +kernel
theorem dL_law_461 : decode cL_law 461 = .ok (.iadd, 1) := by decide +kernel
theorem dL_law_462 : decode cL_law 462 = .ok (.iaload, 1) := by decide +kernel
theorem dL_law_463 : decode cL_law 463 = .ok (.i2c, 1) := by decide +kernel
theorem dL_law_464 : decode cL_law 464 = .ok (.invokevirtual 58, 3) := by decide +kernel
theorem dL_law_467 : decode cL_law 467 = .ok (.if_icmp .eq 314, 3) := by decide +kernel
theorem dL_law_470 : decode cL_law 470 = .ok (.iconst 0, 1) := by decide +kernel
theorem dL_law_471 : decode cL_law 471 = .ok (.ireturn, 1) := by decide +kernel
theorem dL_law_472 : decode cL_law 472 = .ok (.aload_n 1, 1) := by decide +kernel
theorem dL_law_473 : decode cL_law 473 = .ok (.invokevirtual 59, 3) := by decide +kernel
theorem dL_law_476 : decode cL_law 476 = .ok (.aload_n 2, 1) := by decide +kernel
theorem dL_law_477 : decode cL_law 477 = .ok (.invokevirtual 62, 3) := by decide +kernel
theorem dL_law_480 : decode cL_law 480 = .ok (.if_icmp .eq 301, 3) := by decide +kernel
theorem dL_law_483 : decode cL_law 483 = .ok (.iconst 0, 1) := by decide +kernel
theorem dL_law_484 : decode cL_law 484 = .ok (.ireturn, 1) := by decide +kernel
theorem dL_law_485 : decode cL_law 485 = .ok (.aload_n 1, 1) := by decide +kernel
theorem dL_law_486 : decode cL_law 486 = .ok (.invokevirtual 63, 3) := by decide +kernel
theorem dL_law_489 : decode cL_law 489 = .ok (.aload_n 2, 1) := by decide +kernel
theorem dL_law_490 : decode cL_law 490 = .ok (.invokevirtual 66, 3) := by decide +kernel
theorem dL_law_493 : decode cL_law 493 = .ok (.if_icmp .eq 288, 3) := by decide +kernel
theorem dL_law_496 : decode cL_law 496 = .ok (.iconst 0, 1) := by decide +kernel
theorem dL_law_497 : decode cL_law 497 = .ok (.ireturn, 1) := by decide +kernel
theorem dL_law_498 : decode cL_law 498 = .ok (.aload_n 1, 1) := by decide +kernel
theorem dL_law_499 : decode cL_law 499 = .ok (.invokevirtual 67, 3) := by decide +kernel
theorem dL_law_502 : decode cL_law 502 = .ok (.aload_n 2, 1) := by decide +kernel
theorem dL_law_503 : decode cL_law 503 = .ok (.invokevirtual 70, 3) := by decide +kernel
theorem dL_law_506 : decode cL_law 506 = .ok (.if_icmp .eq 275, 3) := by decide +kernel
theorem dL_law_509 : decode cL_law 509 = .ok (.iconst 0, 1) := by decide +kernel
theorem dL_law_510 : decode cL_law 510 = .ok (.ireturn, 1) := by decide +kernel
theorem dL_law_511 : decode cL_law 511 = .ok (.aload_n 1, 1) := by decide +kernel
theorem dL_law_512 : decode cL_law 512 = .ok (.invokevirtual 71, 3) := by decide +kernel
theorem dL_law_515 : decode cL_law 515 = .ok (.aload_n 2, 1) := by decide +kernel
theorem dL_law_516 : decode cL_law 516 = .ok (.invokevirtual 74, 3) := by decide +kernel
theorem dL_law_519 : decode cL_law 519 = .ok (.if_icmp .eq 262, 3) := by decide +kernel
theorem dL_law_522 : decode cL_law 522 = .ok (.iconst 0, 1) := by decide +kernel
theorem dL_law_523 : decode cL_law 523 = .ok (.ireturn, 1) := by decide +kernel
theorem dL_law_524 : decode cL_law 524 = .ok (.aload_n 1, 1) := by decide +kernel
theorem dL_law_525 : decode cL_law 525 = .ok (.aload_n 0, 1) := by decide +kernel
theorem dL_law_526 : decode cL_law 526 = .ok (.iload_n 3, 1) := by decide +kernel
theorem dL_law_527 : decode cL_law 527 = .ok (.iconst 1, 1) := by decide +kernel
theorem dL_law_528 : decode cL_law 528 = .ok (.iadd, 1) := by decide +kernel
theorem dL_law_529 : decode cL_law 529 = .ok (.iaload, 1) := by decide +kernel
theorem dL_law_530 : decode cL_law 530 = .ok (.aload_n 0, 1) := by decide +kernel
theorem dL_law_531 : decode cL_law 531 = .ok (.iload_n 3, 1) := by decide +kernel
theorem dL_law_532 : decode cL_law 532 = .ok (.iconst 2, 1) := by decide +kernel
theorem dL_law_533 : decode cL_law 533 = .ok (.iadd, 1) := by decide +kernel
theorem dL_law_534 : decode cL_law 534 = .ok (.iaload, 1) := by decide +kernel
theorem dL_law_535 : decode cL_law 535 = .ok (.invokevirtual 75, 3) := by decide +kernel
theorem dL_law_538 : decode cL_law 538 = .ok (.aload_n 2, 1) := by decide +kernel
theorem dL_law_539 : decode cL_law 539 = .ok (.aload_n 0, 1) := by decide +kernel
theorem dL_law_540 : decode cL_law 540 = .ok (.iload_n 3, 1) := by decide +kernel
theorem dL_law_541 : decode cL_law 541 = .ok (.iconst 1, 1) := by decide +kernel
theorem dL_law_542 : decode cL_law 542 = .ok (.iadd, 1) := by decide +kernel
theorem dL_law_543 : decode cL_law 543 = .ok (.iaload, 1) := by decide +kernel
theorem dL_law_544 : decode cL_law 544 = .ok (.aload_n 0, 1) := by decide +kernel
theorem dL_law_545 : decode cL_law 545 = .ok (.iload_n 3, 1) := by decide +kernel
theorem dL_law_546 : decode cL_law 546 = .ok (.iconst 2, 1) := by decide +kernel
theorem dL_law_547 : decode cL_law 547 = .ok (.iadd, 1) := by decide +kernel
theorem dL_law_548 : decode cL_law 548 = .ok (.iaload, 1) := by decide +kernel
theorem dL_law_549 : decode cL_law 549 = .ok (.invokevirtual 78, 3) := by decide +kernel
theorem dL_law_552 : decode cL_law 552 = .ok (.if_icmp .eq 229, 3) := by decide +kernel
theorem dL_law_555 : decode cL_law 555 = .ok (.iconst 0, 1) := by decide +kernel
theorem dL_law_556 : decode cL_law 556 = .ok (.ireturn, 1) := by decide +kernel
theorem dL_law_557 : decode cL_law 557 = .ok (.aload_n 1, 1) := by decide +kernel
theorem dL_law_558 : decode cL_law 558 = .ok (.aload_n 0, 1) := by decide +kernel
theorem dL_law_559 : decode cL_law 559 = .ok (.iload_n 3, 1) := by decide +kernel
theorem dL_law_560 : decode cL_law 560 = .ok (.iconst 1, 1) := by decide +kernel
theorem dL_law_561 : decode cL_law 561 = .ok (.iadd, 1) := by decide +kernel
theorem dL_law_562 : decode cL_law 562 = .ok (.iaload, 1) := by decide +kernel
theorem dL_law_563 : decode cL_law 563 = .ok (.invokevirtual 79, 3) := by decide +kernel
theorem dL_law_566 : decode cL_law 566 = .ok (.aload_n 2, 1) := by decide +kernel
theorem dL_law_567 : decode cL_law 567 = .ok (.aload_n 0, 1) := by decide +kernel
theorem dL_law_568 : decode cL_law 568 = .ok (.iload_n 3, 1) := by decide +kernel
theorem dL_law_569 : decode cL_law 569 = .ok (.iconst 1, 1) := by decide +kernel
theorem dL_law_570 : decode cL_law 570 = .ok (.iadd, 1) := by decide +kernel
theorem dL_law_571 : decode cL_law 571 = .ok (.iaload, 1) := by decide +kernel
theorem dL_law_572 : decode cL_law 572 = .ok (.invokevirtual 82, 3) := by decide +kernel
theorem dL_law_575 : decode cL_law 575 = .ok (.if_icmp .eq 206, 3) := by decide +kernel
theorem dL_law_578 : decode cL_law 578 = .ok (.iconst 0, 1) := by decide +kernel
theorem dL_law_579 : decode cL_law 579 = .ok (.ireturn, 1) := by decide +kernel
theorem dL_law_580 : decode cL_law 580 = .ok (.aload_n 1, 1) := by decide +kernel
theorem dL_law_581 : decode cL_law 581 = .ok (.aload_n 0, 1) := by decide +kernel
theorem dL_law_582 : decode cL_law 582 = .ok (.iload_n 3, 1) := by decide +kernel
theorem dL_law_583 : decode cL_law 583 = .ok (.iconst 1, 1) := by decide +kernel
theorem dL_law_584 : decode cL_law 584 = .ok (.iadd, 1) := by decide +kernel
theorem dL_law_585 : decode cL_law 585 = .ok (.iaload, 1) := by decide +kernel
theorem dL_law_586 : decode cL_law 586 = .ok (.aload_n 0, 1) := by decide +kernel
theorem dL_law_587 : decode cL_law 587 = .ok (.iload_n 3, 1) := by decide +kernel
theorem dL_law_588 : decode cL_law 588 = .ok (.iconst 2, 1) := by decide +kernel
theorem dL_law_589 : decode cL_law 589 = .ok (.iadd, 1) := by decide +kernel
theorem dL_law_590 : decode cL_law 590 = .ok (.iaload, 1) := by decide +kernel
theorem dL_law_591 : decode cL_law 591 = .ok (.invokevirtual 83, 3) := by decide +kernel
theorem dL_law_594 : decode cL_law 594 = .ok (.aload_n 2, 1) := by decide +kernel
theorem dL_law_595 : decode cL_law 595 = .ok (.aload_n 0, 1) := by decide +kernel
theorem dL_law_596 : decode cL_law 596 = .ok (.iload_n 3, 1) := by decide +kernel
theorem dL_law_597 : decode cL_law 597 = .ok (.iconst 1, 1) := by decide +kernel
theorem dL_law_598 : decode cL_law 598 = .ok (.iadd, 1) := by decide +kernel
theorem dL_law_599 : decode cL_law 599 = .ok (.iaload, 1) := by decide +kernel
theorem dL_law_600 : decode cL_law 600 = .ok (.aload_n 0, 1) := by decide +kernel
theorem dL_law_601 : decode cL_law 601 = .ok (.iload_n 3, 1) := by decide +kernel
theorem dL_law_602 : decode cL_law 602 = .ok (.iconst 2, 1) := by decide +kernel
theorem dL_law_603 : decode cL_law 603 = .ok (.iadd, 1) := by decide +kernel
theorem dL_law_604 : decode cL_law 604 = .ok (.iaload, 1) := by decide +kernel
theorem dL_law_605 : decode cL_law 605 = .ok (.invokevirtual 86, 3) := by decide +kernel
theorem dL_law_608 : decode cL_law 608 = .ok (.if_icmp .eq 173, 3) := by decide +kernel
theorem dL_law_611 : decode cL_law 611 = .ok (.iconst 0, 1) := by decide +kernel
theorem dL_law_612 : decode cL_law 612 = .ok (.ireturn, 1) := by decide +kernel
theorem dL_law_613 : decode cL_law 613 = .ok (.aload_n 1, 1) := by decide +kernel
theorem dL_law_614 : decode cL_law 614 = .ok (.aload_n 0, 1) := by decide +kernel
theorem dL_law_615 : decode cL_law 615 = .ok (.iload_n 3, 1) := by decide +kernel
theorem dL_law_616 : decode cL_law 616 = .ok (.iconst 1, 1) := by decide +kernel
theorem dL_law_617 : decode cL_law 617 = .ok (.iadd, 1) := by decide +kernel
theorem dL_law_618 : decode cL_law 618 = .ok (.iaload, 1) := by decide +kernel
theorem dL_law_619 : decode cL_law 619 = .ok (.aload_n 0, 1) := by decide +kernel
theorem dL_law_620 : decode cL_law 620 = .ok (.iload_n 3, 1) := by decide +kernel
theorem dL_law_621 : decode cL_law 621 = .ok (.iconst 2, 1) := by decide +kernel
theorem dL_law_622 : decode cL_law 622 = .ok (.iadd, 1) := by decide +kernel
theorem dL_law_623 : decode cL_law 623 = .ok (.iaload, 1) := by decide +kernel
theorem dL_law_624 : decode cL_law 624 = .ok (.invokevirtual 87, 3) := by decide +kernel
theorem dL_law_627 : decode cL_law 627 = .ok (.aload_n 2, 1) := by decide +kernel
theorem dL_law_628 : decode cL_law 628 = .ok (.aload_n 0, 1) := by decide +kernel
theorem dL_law_629 : decode cL_law 629 = .ok (.iload_n 3, 1) := by decide +kernel
theorem dL_law_630 : decode cL_law 630 = .ok (.iconst 1, 1) := by decide +kernel
theorem dL_law_631 : decode cL_law 631 = .ok (.iadd, 1) := by decide +kernel
theorem dL_law_632 : decode cL_law 632 = .ok (.iaload, 1) := by decide +kernel
theorem dL_law_633 : decode cL_law 633 = .ok (.aload_n 0, 1) := by decide +kernel
theorem dL_law_634 : decode cL_law 634 = .ok (.iload_n 3, 1) := by decide +kernel
theorem dL_law_635 : decode cL_law 635 = .ok (.iconst 2, 1) := by decide +kernel
theorem dL_law_636 : decode cL_law 636 = .ok (.iadd, 1) := by decide +kernel
theorem dL_law_637 : decode cL_law 637 = .ok (.iaload, 1) := by decide +kernel
theorem dL_law_638 : decode cL_law 638 = .ok (.invokevirtual 90, 3) := by decide +kernel
theorem dL_law_641 : decode cL_law 641 = .ok (.if_icmp .eq 140, 3) := by decide +kernel
theorem dL_law_644 : decode cL_law 644 = .ok (.iconst 0, 1) := by decide +kernel
theorem dL_law_645 : decode cL_law 645 = .ok (.ireturn, 1) := by decide +kernel
theorem dL_law_646 : decode cL_law 646 = .ok (.aload_n 1, 1) := by decide +kernel
theorem dL_law_647 : decode cL_law 647 = .ok (.aload_n 0, 1) := by decide +kernel
theorem dL_law_648 : decode cL_law 648 = .ok (.iload_n 3, 1) := by decide +kernel
theorem dL_law_649 : decode cL_law 649 = .ok (.iconst 1, 1) := by decide +kernel
theorem dL_law_650 : decode cL_law 650 = .ok (.iadd, 1) := by decide +kernel
theorem dL_law_651 : decode cL_law 651 = .ok (.iaload, 1) := by decide +kernel
theorem dL_law_652 : decode cL_law 652 = .ok (.aload_n 0, 1) := by decide +kernel
theorem dL_law_653 : decode cL_law 653 = .ok (.iload_n 3, 1) := by decide +kernel
theorem dL_law_654 : decode cL_law 654 = .ok (.iconst 2, 1) := by decide +kernel
theorem dL_law_655 : decode cL_law 655 = .ok (.iadd, 1) := by decide +kernel
theorem dL_law_656 : decode cL_law 656 = .ok (.iaload, 1) := by decide +kernel
theorem dL_law_657 : decode cL_law 657 = .ok (.invokevirtual 91, 3) := by decide +kernel
theorem dL_law_660 : decode cL_law 660 = .ok (.aload_n 2, 1) := by decide +kernel
theorem dL_law_661 : decode cL_law 661 = .ok (.aload_n 0, 1) := by decide +kernel
theorem dL_law_662 : decode cL_law 662 = .ok (.iload_n 3, 1) := by decide +kernel
theorem dL_law_663 : decode cL_law 663 = .ok (.iconst 1, 1) := by decide +kernel
theorem dL_law_664 : decode cL_law 664 = .ok (.iadd, 1) := by decide +kernel
theorem dL_law_665 : decode cL_law 665 = .ok (.iaload, 1) := by decide +kernel
theorem dL_law_666 : decode cL_law 666 = .ok (.aload_n 0, 1) := by decide +kernel
theorem dL_law_667 : decode cL_law 667 = .ok (.iload_n 3, 1) := by decide +kernel
theorem dL_law_668 : decode cL_law 668 = .ok (.iconst 2, 1) := by decide +kernel
theorem dL_law_669 : decode cL_law 669 = .ok (.iadd, 1) := by decide +kernel
theorem dL_law_670 : decode cL_law 670 = .ok (.iaload, 1) := by decide +kernel
theorem dL_law_671 : decode cL_law 671 = .ok (.invokevirtual 94, 3) := by decide +kernel
theorem dL_law_674 : decode cL_law 674 = .ok (.if_icmp .eq 107, 3) := by decide +kernel
theorem dL_law_677 : decode cL_law 677 = .ok (.iconst 0, 1) := by decide +kernel
theorem dL_law_678 : decode cL_law 678 = .ok (.ireturn, 1) := by decide +kernel
theorem dL_law_679 : decode cL_law 679 = .ok (.aload_n 1, 1) := by decide +kernel
theorem dL_law_680 : decode cL_law 680 = .ok (.aload_n 0, 1) := by decide +kernel
theorem dL_law_681 : decode cL_law 681 = .ok (.iload_n 3, 1) := by decide +kernel
theorem dL_law_682 : decode cL_law 682 = .ok (.iconst 1, 1) := by decide +kernel
theorem dL_law_683 : decode cL_law 683 = .ok (.iadd, 1) := by decide +kernel
theorem dL_law_684 : decode cL_law 684 = .ok (.iaload, 1) := by decide +kernel
theorem dL_law_685 : decode cL_law 685 = .ok (.aload_n 0, 1) := by decide +kernel
theorem dL_law_686 : decode cL_law 686 = .ok (.iload_n 3, 1) := by decide +kernel
theorem dL_law_687 : decode cL_law 687 = .ok (.iconst 2, 1) := by decide +kernel
theorem dL_law_688 : decode cL_law 688 = .ok (.iadd, 1) := by decide +kernel
theorem dL_law_689 : decode cL_law 689 = .ok (.iaload, 1) := by decide +kernel
theorem dL_law_690 : decode cL_law 690 = .ok (.invokevirtual 95, 3) := by decide +kernel
theorem dL_law_693 : decode cL_law 693 = .ok (.aload_n 2, 1) := by decide +kernel
theorem dL_law_694 : decode cL_law 694 = .ok (.aload_n 0, 1) := by decide +kernel
theorem dL_law_695 : decode cL_law 695 = .ok (.iload_n 3, 1) := by decide +kernel
theorem dL_law_696 : decode cL_law 696 = .ok (.iconst 1, 1) := by decide +kernel
theorem dL_law_697 : decode cL_law 697 = .ok (.iadd, 1) := by decide +kernel
theorem dL_law_698 : decode cL_law 698 = .ok (.iaload, 1) := by decide +kernel
theorem dL_law_699 : decode cL_law 699 = .ok (.aload_n 0, 1) := by decide +kernel
theorem dL_law_700 : decode cL_law 700 = .ok (.iload_n 3, 1) := by decide +kernel
theorem dL_law_701 : decode cL_law 701 = .ok (.iconst 2, 1) := by decide +kernel
theorem dL_law_702 : decode cL_law 702 = .ok (.iadd, 1) := by decide +kernel
theorem dL_law_703 : decode cL_law 703 = .ok (.iaload, 1) := by decide +kernel
theorem dL_law_704 : decode cL_law 704 = .ok (.invokevirtual 98, 3) := by decide +kernel
theorem dL_law_707 : decode cL_law 707 = .ok (.if_icmp .eq 74, 3) := by decide +kernel
theorem dL_law_710 : decode cL_law 710 = .ok (.iconst 0, 1) := by decide +kernel
theorem dL_law_711 : decode cL_law 711 = .ok (.ireturn, 1) := by decide +kernel
theorem dL_law_712 : decode cL_law 712 = .ok (.aload_n 1, 1) := by decide +kernel
theorem dL_law_713 : decode cL_law 713 = .ok (.aload_n 0, 1) := by decide +kernel
theorem dL_law_714 : decode cL_law 714 = .ok (.iload_n 3, 1) := by decide +kernel
theorem dL_law_715 : decode cL_law 715 = .ok (.iconst 1, 1) := by decide +kernel
theorem dL_law_716 : decode cL_law 716 = .ok (.iadd, 1) := by decide +kernel
theorem dL_law_717 : decode cL_law 717 = .ok (.iaload, 1) := by decide +kernel
theorem dL_law_718 : decode cL_law 718 = .ok (.invokevirtual 99, 3) := by decide +kernel
theorem dL_law_721 : decode cL_law 721 = .ok (.aload_n 2, 1) := by decide +kernel
theorem dL_law_722 : decode cL_law 722 = .ok (.aload_n 0, 1) := by decide +kernel
theorem dL_law_723 : decode cL_law 723 = .ok (.iload_n 3, 1) := by decide +kernel
theorem dL_law_724 : decode cL_law 724 = .ok (.iconst 1, 1) := by decide +kernel
theorem dL_law_725 : decode cL_law 725 = .ok (.iadd, 1) := by decide +kernel
theorem dL_law_726 : decode cL_law 726 = .ok (.iaload, 1) := by decide +kernel
theorem dL_law_727 : decode cL_law 727 = .ok (.invokevirtual 102, 3) := by decide +kernel
theorem dL_law_730 : decode cL_law 730 = .ok (.if_icmp .eq 51, 3) := by decide +kernel
theorem dL_law_733 : decode cL_law 733 = .ok (.iconst 0, 1) := by decide +kernel
theorem dL_law_734 : decode cL_law 734 = .ok (.ireturn, 1) := by decide +kernel
theorem dL_law_735 : decode cL_law 735 = .ok (.aload_n 1, 1) := by decide +kernel
theorem dL_law_736 : decode cL_law 736 = .ok (.aload_n 0, 1) := by decide +kernel
theorem dL_law_737 : decode cL_law 737 = .ok (.iload_n 3, 1) := by decide +kernel
theorem dL_law_738 : decode cL_law 738 = .ok (.iconst 1, 1) := by decide +kernel
theorem dL_law_739 : decode cL_law 739 = .ok (.iadd, 1) := by decide +kernel
theorem dL_law_740 : decode cL_law 740 = .ok (.iaload, 1) := by decide +kernel
theorem dL_law_741 : decode cL_law 741 = .ok (.invokevirtual 103, 3) := by decide +kernel
theorem dL_law_744 : decode cL_law 744 = .ok (.aload_n 2, 1) := by decide +kernel
theorem dL_law_745 : decode cL_law 745 = .ok (.aload_n 0, 1) := by decide +kernel
theorem dL_law_746 : decode cL_law 746 = .ok (.iload_n 3, 1) := by decide +kernel
theorem dL_law_747 : decode cL_law 747 = .ok (.iconst 1, 1) := by decide +kernel
theorem dL_law_748 : decode cL_law 748 = .ok (.iadd, 1) := by decide +kernel
theorem dL_law_749 : decode cL_law 749 = .ok (.iaload, 1) := by decide +kernel
theorem dL_law_750 : decode cL_law 750 = .ok (.invokevirtual 106, 3) := by decide +kernel
theorem dL_law_753 : decode cL_law 753 = .ok (.if_icmp .eq 28, 3) := by decide +kernel
theorem dL_law_756 : decode cL_law 756 = .ok (.iconst 0, 1) := by decide +kernel
theorem dL_law_757 : decode cL_law 757 = .ok (.ireturn, 1) := by decide +kernel
theorem dL_law_758 : decode cL_law 758 = .ok (.aload_n 1, 1) := by decide +kernel
theorem dL_law_759 : decode cL_law 759 = .ok (.aload_n 0, 1) := by decide +kernel
theorem dL_law_760 : decode cL_law 760 = .ok (.iload_n 3, 1) := by decide +kernel
theorem dL_law_761 : decode cL_law 761 = .ok (.iconst 1, 1) := by decide +kernel
theorem dL_law_762 : decode cL_law 762 = .ok (.iadd, 1) := by decide +kernel
theorem dL_law_763 : decode cL_law 763 = .ok (.iaload, 1) := by decide +kernel
theorem dL_law_764 : decode cL_law 764 = .ok (.invokevirtual 107, 3) := by decide +kernel
theorem dL_law_767 : decode cL_law 767 = .ok (.aload_n 2, 1) := by decide +kernel
theorem dL_law_768 : decode cL_law 768 = .ok (.aload_n 0, 1) := by decide +kernel
theorem dL_law_769 : decode cL_law 769 = .ok (.iload_n 3, 1) := by decide +kernel
theorem dL_law_770 : decode cL_law 770 = .ok (.iconst 1, 1) := by decide +kernel
theorem dL_law_771 : decode cL_law 771 = .ok (.iadd, 1) := by decide +kernel
theorem dL_law_772 : decode cL_law 772 = .ok (.iaload, 1) := by decide +kernel
theorem dL_law_773 : decode cL_law 773 = .ok (.invokevirtual 110, 3) := by decide +kernel
theorem dL_law_776 : decode cL_law 776 = .ok (.if_icmp .eq 5, 3) := by decide +kernel
theorem dL_law_779 : decode cL_law 779 = .ok (.iconst 0, 1) := by decide +kernel
theorem dL_law_780 : decode cL_law 780 = .ok (.ireturn, 1) := by decide +kernel
theorem dL_law_781 : decode cL_law 781 = .ok (.iinc 3 5, 3) := by decide +kernel
theorem dL_law_784 : decode cL_law 784 = .ok (.goto (-766), 3) := by decide +kernel
theorem dL_law_787 : decode cL_law 787 = .ok (.iconst 1, 1) := by decide +kernel
theorem dL_law_788 : decode cL_law 788 = .ok (.ireturn, 1) := by decide +kernel
