theorem dX0_init_0 : decode cX0_init 0 = .ok (.aload_n 0, 1) := by decide +kernel
theorem dX0_init_1 : decode cX0_init 1 = .ok (.invokespecial 3, 3) := by decide +kernel
theorem dX0_init_4 : decode cX0_init 4 = .ok (.aload_n 0, 1) := by decide +kernel
theorem dX0_init_5 : decode cX0_init 5 = .ok (.iconst 0, 1) := by decide +kernel
theorem dX0_init_6 : decode cX0_init 6 = .ok (.putfield 9, 3) := by decide +kernel
theorem dX0_init_9 : decode cX0_init 9 = .ok (.aload_n 0, 1) := by decide +kernel
theorem dX0_init_10 : decode cX0_init 10 = .ok (.iconst 0, 1) := by decide +kernel
theorem dX0_init_11 : decode cX0_init 11 = .ok (.putfield 15, 3) := by decide +kernel
theorem dX0_init_14 : decode cX0_init 14 = .ok (.aload_n 0, 1) := by decide +kernel
theorem dX0_init_15 : decode cX0_init 15 = .ok (.bipush 40, 2) := by decide +kernel
theorem dX0_init_17 : decode cX0_init 17 = .ok (.newarray .int, 2) := by decide +kernel
theorem dX0_init_19 : decode cX0_init 19 = .ok (.putfield 18, 3) := by decide +kernel
theorem dX0_init_22 : decode cX0_init 22 = .ok (.return_, 1) := by decide +kernel
theorem dX0_renew_0 : decode cX0_renew 0 = .ok (.aload_n 0, 1) := by decide +kernel
theorem dX0_renew_1 : decode cX0_renew 1 = .ok (.iload_n 1, 1) := by decide +kernel
theorem dX0_renew_2 : decode cX0_renew 2 = .ok (.putfield 9, 3) := by decide +kernel
theorem dX0_renew_5 : decode cX0_renew 5 = .ok (.aload_n 0, 1) := by decide +kernel
theorem dX0_renew_6 : decode cX0_renew 6 = .ok (.iload_n 1, 1) := by decide +kernel
theorem dX0_renew_7 : decode cX0_renew 7 = .ok (.ifCond .ne 7, 3) := by decide +kernel
theorem dX0_renew_10 : decode cX0_renew 10 = .ok (.iconst 0, 1) := by decide +kernel
theorem dX0_renew_11 : decode cX0_renew 11 = .ok (.goto 4, 3) := by decide +kernel
theorem dX0_renew_14 : decode cX0_renew 14 = .ok (.iload_n 2, 1) := by decide +kernel
theorem dX0_renew_15 : decode cX0_renew 15 = .ok (.putfield 15, 3) := by decide +kernel
theorem dX0_renew_18 : decode cX0_renew 18 = .ok (.aload_n 0, 1) := by decide +kernel
theorem dX0_renew_19 : decode cX0_renew 19 = .ok (.getfield 18, 3) := by decide +kernel
theorem dX0_renew_22 : decode cX0_renew 22 = .ok (.iconst 0, 1) := by decide +kernel
theorem dX0_renew_23 : decode cX0_renew 23 = .ok (.invokestatic 22, 3) := by decide +kernel
theorem dX0_renew_26 : decode cX0_renew 26 = .ok (.return_, 1) := by decide +kernel
theorem dX0_put_0 : decode cX0_put 0 = .ok (.aload_n 0, 1) := by decide +kernel
theorem dX0_put_1 : decode cX0_put 1 = .ok (.getfield 9, 3) := by decide +kernel
theorem dX0_put_4 : decode cX0_put 4 = .ok (.bipush 8, 2) := by decide +kernel
theorem dX0_put_6 : decode cX0_put 6 = .ok (.if_icmp .ne 14, 3) := by decide +kernel
theorem dX0_put_9 : decode cX0_put 9 = .ok (.aload_n 0, 1) := by decide +kernel
theorem dX0_put_10 : decode cX0_put 10 = .ok (.getfield 18, 3) := by decide +kernel
theorem dX0_put_13 : decode cX0_put 13 = .ok (.iload_n 1, 1) := by decide +kernel
theorem dX0_put_14 : decode cX0_put 14 = .ok (.iload_n 2, 1) := by decide +kernel
theorem dX0_put_15 : decode cX0_put 15 = .ok (.i2b, 1) := by decide +kernel
theorem dX0_put_16 : decode cX0_put 16 = .ok (.iastore, 1) := by decide +kernel
theorem dX0_put_17 : decode cX0_put 17 = .ok (.goto 30, 3) := by decide +kernel
theorem dX0_put_20 : decode cX0_put 20 = .ok (.aload_n 0, 1) := by decide +kernel
theorem dX0_put_21 : decode cX0_put 21 = .ok (.getfield 9, 3) := by decide +kernel
theorem dX0_put_24 : decode cX0_put 24 = .ok (.bipush 16, 2) := by decide +kernel
theorem dX0_put_26 : decode cX0_put 26 = .ok (.if_icmp .ne 14, 3) := by decide +kernel
theorem dX0_put_29 : decode cX0_put 29 = .ok (.aload_n 0, 1) := by decide +kernel
theorem dX0_put_30 : decode cX0_put 30 = .ok (.getfield 18, 3) := by decide +kernel
theorem dX0_put_33 : decode cX0_put 33 = .ok (.iload_n 1, 1) := by decide +kernel
theorem dX0_put_34 : decode cX0_put 34 = .ok (.iload_n 2, 1) := by decide +kernel
theorem dX0_put_35 : decode cX0_put 35 = .ok (.i2s, 1) := by decide +kernel
theorem dX0_put_36 : decode cX0_put 36 = .ok (.iastore, 1) := by decide +kernel
theorem dX0_put_37 : decode cX0_put 37 = .ok (.goto 10, 3) := by decide +kernel
theorem dX0_put_40 : decode cX0_put 40 = .ok (.aload_n 0, 1) := by decide +kernel
theorem dX0_put_41 : decode cX0_put 41 = .ok (.getfield 18, 3) := by decide +kernel
theorem dX0_put_44 : decode cX0_put 44 = .ok (.iload_n 1, 1) := by decide +kernel
theorem dX0_put_45 : decode cX0_put 45 = .ok (.iload_n 2, 1) := by decide +kernel
theorem dX0_put_46 : decode cX0_put 46 = .ok (.iastore, 1) := by decide +kernel
theorem dX0_put_47 : decode cX0_put 47 = .ok (.return_, 1) := by decide +kernel
theorem dX0_hasRange_0 : decode cX0_hasRange 0 = .ok (.iload_n 1, 1) := by decide +kernel
theorem dX0_hasRange_1 : decode cX0_hasRange 1 = .ok (.ifCond .lt 21, 3) := by decide +kernel
theorem dX0_hasRange_4 : decode cX0_hasRange 4 = .ok (.iload_n 2, 1) := by decide +kernel
theorem dX0_hasRange_5 : decode cX0_hasRange 5 = .ok (.ifCond .lt 17, 3) := by decide +kernel
theorem dX0_hasRange_8 : decode cX0_hasRange 8 = .ok (.iload_n 1, 1) := by decide +kernel
theorem dX0_hasRange_9 : decode cX0_hasRange 9 = .ok (.aload_n 0, 1) := by decide +kernel
theorem dX0_hasRange_10 : decode cX0_hasRange 10 = .ok (.getfield 15, 3) := by decide +kernel
theorem dX0_hasRange_13 : decode cX0_hasRange 13 = .ok (.iload_n 2, 1) := by decide +kernel
theorem dX0_hasRange_14 : decode cX0_hasRange 14 = .ok (.isub, 1) := by decide +kernel
theorem dX0_hasRange_15 : decode cX0_hasRange 15 = .ok (.if_icmp .gt 7, 3) := by decide +kernel
theorem dX0_hasRange_18 : decode cX0_hasRange 18 = .ok (.iconst 1, 1) := by decide +kernel
theorem dX0_hasRange_19 : decode cX0_hasRange 19 = .ok (.goto 4, 3) := by decide +kernel
theorem dX0_hasRange_22 : decode cX0_hasRange 22 = .ok (.iconst 0, 1) := by decide +kernel
theorem dX0_hasRange_23 : decode cX0_hasRange 23 = .ok (.ireturn, 1) := by decide +kernel
theorem dX1_init_0 : decode cX1_init 0 = .ok (.aload_n 0, 1) := by decide +kernel
theorem dX1_init_1 : decode cX1_init 1 = .ok (.invokespecial 3, 3) := by decide +kernel
theorem dX1_init_4 : decode cX1_init 4 = .ok (.aload_n 0, 1) := by decide +kernel
theorem dX1_init_5 : decode cX1_init 5 = .ok (.iconst 0, 1) := by decide +kernel
theorem dX1_init_6 : decode cX1_init 6 = .ok (.putfield 9, 3) := by decide +kernel
theorem dX1_init_9 : decode cX1_init 9 = .ok (.aload_n 0, 1) := by decide +kernel
theorem dX1_init_10 : decode cX1_init 10 = .ok (.bipush 10, 2) := by decide +kernel
theorem dX1_init_12 : decode cX1_init 12 = .ok (.newarray .int, 2) := by decide +kernel
theorem dX1_init_14 : decode cX1_init 14 = .ok (.putfield 15, 3) := by decide +kernel
theorem dX1_init_17 : decode cX1_init 17 = .ok (.aload_n 0, 1) := by decide +kernel
theorem dX1_init_18 : decode cX1_init 18 = .ok (.bipush 10, 2) := by decide +kernel
theorem dX1_init_20 : decode cX1_init 20 = .ok (.newarray .int, 2) := by decide +kernel
theorem dX1_init_22 : decode cX1_init 22 = .ok (.putfield 19, 3) := by decide +kernel
theorem dX1_init_25 : decode cX1_init 25 = .ok (.aload_n 0, 1) := by decide +kernel
theorem dX1_init_26 : decode cX1_init 26 = .ok (.bipush 10, 2) := by decide +kernel
theorem dX1_init_28 : decode cX1_init 28 = .ok (.newarray .int, 2) := by decide +kernel
theorem dX1_init_30 : decode cX1_init 30 = .ok (.putfield 22, 3) := by decide +kernel
theorem dX1_init_33 : decode cX1_init 33 = .ok (.aload_n 0, 1) := by decide +kernel
theorem dX1_init_34 : decode cX1_init 34 = .ok (.bipush 10, 2) := by decide +kernel
theorem dX1_init_36 : decode cX1_init 36 = .ok (.newarray .int, 2) := by decide +kernel
theorem dX1_init_38 : decode cX1_init 38 = .ok (.putfield 25, 3) := by decide +kernel
theorem dX1_init_41 : decode cX1_init 41 = .ok (.aload_n 0, 1) := by decide +kernel
theorem dX1_init_42 : decode cX1_init 42 = .ok (.iconst 4, 1) := by decide +kernel
theorem dX1_init_43 : decode cX1_init 43 = .ok (.newarray .int, 2) := by decide +kernel
theorem dX1_init_45 : decode cX1_init 45 = .ok (.putfield 28, 3) := by decide +kernel
theorem dX1_init_48 : decode cX1_init 48 = .ok (.aload_n 0, 1) := by decide +kernel
theorem dX1_init_49 : decode cX1_init 49 = .ok (.iconst 4, 1) := by decide +kernel
theorem dX1_init_50 : decode cX1_init 50 = .ok (.newarray .int, 2) := by decide +kernel
theorem dX1_init_52 : decode cX1_init 52 = .ok (.putfield 31, 3) := by decide +kernel
theorem dX1_init_55 : decode cX1_init 55 = .ok (.aload_n 0, 1) := by decide +kernel
theorem dX1_init_56 : decode cX1_init 56 = .ok (.iconst 4, 1) := by decide +kernel
theorem dX1_init_57 : decode cX1_init 57 = .ok (.newarray .int, 2) := by decide +kernel
theorem dX1_init_59 : decode cX1_init 59 = .ok (.putfield 34, 3) := by decide +kernel
theorem dX1_init_62 : decode cX1_init 62 = .ok (.aload_n 0, 1) := by decide +kernel
theorem dX1_init_63 : decode cX1_init 63 = .ok (.iconst 0, 1) := by decide +kernel
theorem dX1_init_64 : decode cX1_init 64 = .ok (.putfield 37, 3) := by decide +kernel
theorem dX1_init_67 : decode cX1_init 67 = .ok (.aload_n 0, 1) := by decide +kernel
theorem dX1_init_68 : decode cX1_init 68 = .ok (.iconst 0, 1) := by decide +kernel
theorem dX1_init_69 : decode cX1_init 69 = .ok (.putfield 40, 3) := by decide +kernel
theorem dX1_init_72 : decode cX1_init 72 = .ok (.aload_n 0, 1) := by decide +kernel
theorem dX1_init_73 : decode cX1_init 73 = .ok (.bipush 6, 2) := by decide +kernel
theorem dX1_init_75 : decode cX1_init 75 = .ok (.newarray .int, 2) := by decide +kernel
theorem dX1_init_77 : decode cX1_init 77 = .ok (.putfield 43, 3) := by decide +kernel
theorem dX1_init_80 : decode cX1_init 80 = .ok (.aload_n 0, 1) := by decide +kernel
theorem dX1_init_81 : decode cX1_init 81 = .ok (.bipush 10, 2) := by decide +kernel
theorem dX1_init_83 : decode cX1_init 83 = .ok (.newarray .int, 2) := by decide +kernel
theorem dX1_init_85 : decode cX1_init 85 = .ok (.putfield 46, 3) := by decide +kernel
theorem dX1_init_88 : decode cX1_init 88 = .ok (.aload_n 0, 1) := by decide +kernel
theorem dX1_init_89 : decode cX1_init 89 = .ok (.iconst 1, 1) := by decide +kernel
theorem dX1_init_90 : decode cX1_init 90 = .ok (.putfield 49, 3) := by decide +kernel
theorem dX1_init_93 : decode cX1_init 93 = .ok (.aload_n 0, 1) := by decide +kernel
theorem dX1_init_94 : decode cX1_init 94 = .ok (.getfield 31, 3) := by decide +kernel
theorem dX1_init_97 : decode cX1_init 97 = .ok (.bipush 60, 2) := by decide +kernel
theorem dX1_init_99 : decode cX1_init 99 = .ok (.invokestatic 52, 3) := by decide +kernel
theorem dX1_init_102 : decode cX1_init 102 = .ok (.aload_n 0, 1) := by decide +kernel
theorem dX1_init_103 : decode cX1_init 103 = .ok (.getfield 46, 3) := by decide +kernel
theorem dX1_init_106 : decode cX1_init 106 = .ok (.iconst (-1), 1) := by decide +kernel
theorem dX1_init_107 : decode cX1_init 107 = .ok (.invokestatic 52, 3) := by decide +kernel
theorem dX1_init_110 : decode cX1_init 110 = .ok (.aload_n 0, 1) := by decide +kernel
theorem dX1_init_111 : decode cX1_init 111 = .ok (.getfield 34, 3) := by decide +kernel
theorem dX1_init_114 : decode cX1_init 114 = .ok (.iconst 0, 1) := by decide +kernel
theorem dX1_init_115 : decode cX1_init 115 = .ok (.iconst 1, 1) := by decide +kernel
theorem dX1_init_116 : decode cX1_init 116 = .ok (.iastore, 1) := by decide +kernel
theorem dX1_init_117 : decode cX1_init 117 = .ok (.aload_n 0, 1) := by decide +kernel
theorem dX1_init_118 : decode cX1_init 118 = .ok (.getfield 34, 3) := by decide +kernel
theorem dX1_init_121 : decode cX1_init 121 = .ok (.iconst 2, 1) := by decide +kernel
theorem dX1_init_122 : decode cX1_init 122 = .ok (.iconst 5, 1) := by decide +kernel
theorem dX1_init_123 : decode cX1_init 123 = .ok (.iastore, 1) := by decide +kernel
theorem dX1_init_124 : decode cX1_init 124 = .ok (.aload_n 0, 1) := by decide +kernel
theorem dX1_init_125 : decode cX1_init 125 = .ok (.getfield 34, 3) := by decide +kernel
theorem dX1_init_128 : decode cX1_init 128 = .ok (.iconst 3, 1) := by decide +kernel
theorem dX1_init_129 : decode cX1_init 129 = .ok (.bipush 20, 2) := by decide +kernel
theorem dX1_init_131 : decode cX1_init 131 = .ok (.iastore, 1) := by decide +kernel
theorem dX1_init_132 : decode cX1_init 132 = .ok (.return_, 1) := by decide +kernel
theorem dX1_become_0 : decode cX1_become 0 = .ok (.aload_n 0, 1) := by decide +kernel
theorem dX1_become_1 : decode cX1_become 1 = .ok (.aload_n 1, 1) := by decide +kernel
theorem dX1_become_2 : decode cX1_become 2 = .ok (.getfield 9, 3) := by decide +kernel
theorem dX1_become_5 : decode cX1_become 5 = .ok (.putfield 9, 3) := by decide +kernel
theorem dX1_become_8 : decode cX1_become 8 = .ok (.aload_n 1, 1) := by decide +kernel
theorem dX1_become_9 : decode cX1_become 9 = .ok (.getfield 15, 3) := by decide +kernel
theorem dX1_become_12 : decode cX1_become 12 = .ok (.iconst 0, 1) := by decide +kernel
theorem dX1_become_13 : decode cX1_become 13 = .ok (.aload_n 0, 1) := by decide +kernel
theorem dX1_become_14 : decode cX1_become 14 = .ok (.getfield 15, 3) := by decide +kernel
theorem dX1_become_17 : decode cX1_become 17 = .ok (.iconst 0, 1) := by decide +kernel
theorem dX1_become_18 : decode cX1_become 18 = .ok (.bipush 10, 2) := by decide +kernel
theorem dX1_become_20 : decode cX1_become 20 = .ok (.invokestatic 58, 3) := by decide +kernel
theorem dX1_become_23 : decode cX1_become 23 = .ok (.aload_n 1, 1) := by decide +kernel
theorem dX1_become_24 : decode cX1_become 24 = .ok (.getfield 19, 3) := by decide +kernel
theorem dX1_become_27 : decode cX1_become 27 = .ok (.iconst 0, 1) := by decide +kernel
theorem dX1_become_28 : decode cX1_become 28 = .ok (.aload_n 0, 1) := by decide +kernel
theorem dX1_become_29 : decode cX1_become 29 = .ok (.getfield 19, 3) := by decide +kernel
theorem dX1_become_32 : decode cX1_become 32 = .ok (.iconst 0, 1) := by decide +kernel
theorem dX1_become_33 : decode cX1_become 33 = .ok (.bipush 10, 2) := by decide +kernel
theorem dX1_become_35 : decode cX1_become 35 = .ok (.invokestatic 58, 3) := by decide +kernel
theorem dX1_become_38 : decode cX1_become 38 = .ok (.aload_n 1, 1) := by decide +kernel
theorem dX1_become_39 : decode cX1_become 39 = .ok (.getfield 22, 3) := by decide +kernel
theorem dX1_become_42 : decode cX1_become 42 = .ok (.iconst 0, 1) := by decide +kernel
theorem dX1_become_43 : decode cX1_become 43 = .ok (.aload_n 0, 1) := by decide +kernel
theorem dX1_become_44 : decode cX1_become 44 = .ok (.getfield 22, 3) := by decide +kernel
theorem dX1_become_47 : decode cX1_become 47 = .ok (.iconst 0, 1) := by decide +kernel
theorem dX1_become_48 : decode cX1_become 48 = .ok (.bipush 10, 2) := by decide +kernel
theorem dX1_become_50 : decode cX1_become 50 = .ok (.invokestatic 58, 3) := by decide +kernel
theorem dX1_become_53 : decode cX1_become 53 = .ok (.aload_n 1, 1) := by decide +kernel
theorem dX1_become_54 : decode cX1_become 54 = .ok (.getfield 25, 3) := by decide +kernel
theorem dX1_become_57 : decode cX1_become 57 = .ok (.iconst 0, 1) := by decide +kernel
theorem dX1_become_58 : decode cX1_become 58 = .ok (.aload_n 0, 1) := by decide +kernel
theorem dX1_become_59 : decode cX1_become 59 = .ok (.getfield 25, 3) := by decide +kernel
theorem dX1_become_62 : decode cX1_become 62 = .ok (.iconst 0, 1) := by decide +kernel
theorem dX1_become_63 : decode cX1_become 63 = .ok (.bipush 10, 2) := by decide +kernel
theorem dX1_become_65 : decode cX1_become 65 = .ok (.invokestatic 58, 3) := by decide +kernel
theorem dX1_become_68 : decode cX1_become 68 = .ok (.aload_n 1, 1) := by decide +kernel
theorem dX1_become_69 : decode cX1_become 69 = .ok (.getfield 28, 3) := by decide +kernel
theorem dX1_become_72 : decode cX1_become 72 = .ok (.iconst 0, 1) := by decide +kernel
theorem dX1_become_73 : decode cX1_become 73 = .ok (.aload_n 0, 1) := by decide +kernel
theorem dX1_become_74 : decode cX1_become 74 = .ok (.getfield 28, 3) := by decide +kernel
theorem dX1_become_77 : decode cX1_become 77 = .ok (.iconst 0, 1) := by decide +kernel
theorem dX1_become_78 : decode cX1_become 78 = .ok (.iconst 4, 1) := by decide +kernel
theorem dX1_become_79 : decode cX1_become 79 = .ok (.invokestatic 58, 3) := by decide +kernel
theorem dX1_become_82 : decode cX1_become 82 = .ok (.aload_n 1, 1) := by decide +kernel
theorem dX1_become_83 : decode cX1_become 83 = .ok (.getfield 31, 3) := by decide +kernel
theorem dX1_become_86 : decode cX1_become 86 = .ok (.iconst 0, 1) := by decide +kernel
theorem dX1_become_87 : decode cX1_become 87 = .ok (.aload_n 0, 1) := by decide +kernel
theorem dX1_become_88 : decode cX1_become 88 = .ok (.getfield 31, 3) := by decide +kernel
theorem dX1_become_91 : decode cX1_become 91 = .ok (.iconst 0, 1) := by decide +kernel
theorem dX1_become_92 : decode cX1_become 92 = .ok (.iconst 4, 1) := by decide +kernel
theorem dX1_become_93 : decode cX1_become 93 = .ok (.invokestatic 58, 3) := by decide +kernel
theorem dX1_become_96 : decode cX1_become 96 = .ok (.aload_n 1, 1) := by decide +kernel
theorem dX1_become_97 : decode cX1_become 97 = .ok (.getfield 34, 3) := by decide +kernel
theorem dX1_become_100 : decode cX1_become 100 = .ok (.iconst 0, 1) := by decide +kernel
theorem dX1_become_101 : decode cX1_become 101 = .ok (.aload_n 0, 1) := by decide +kernel
theorem dX1_become_102 : decode cX1_become 102 = .ok (.getfield 34, 3) := by decide +kernel
theorem dX1_become_105 : decode cX1_become 105 = .ok (.iconst 0, 1) := by decide +kernel
theorem dX1_become_106 : decode cX1_become 106 = .ok (.iconst 4, 1) := by decide +kernel
theorem dX1_become_107 : decode cX1_become 107 = .ok (.invokestatic 58, 3) := by decide +kernel
theorem dX1_become_110 : decode cX1_become 110 = .ok (.aload_n 0, 1) := by decide +kernel
theorem dX1_become_111 : decode cX1_become 111 = .ok (.aload_n 1, 1) := by decide +kernel
theorem dX1_become_112 : decode cX1_become 112 = .ok (.getfield 37, 3) := by decide +kernel
theorem dX1_become_115 : decode cX1_become 115 = .ok (.putfield 37, 3) := by decide +kernel
theorem dX1_become_118 : decode cX1_become 118 = .ok (.aload_n 0, 1) := by decide +kernel
theorem dX1_become_119 : decode cX1_become 119 = .ok (.aload_n 1, 1) := by decide +kernel
theorem dX1_become_120 : decode cX1_become 120 = .ok (.getfield 40, 3) := by decide +kernel
theorem dX1_become_123 : decode cX1_become 123 = .ok (.putfield 40, 3) := by decide +kernel
theorem dX1_become_126 : decode cX1_become 126 = .ok (.aload_n 1, 1) := by decide +kernel
theorem dX1_become_127 : decode cX1_become 127 = .ok (.getfield 43, 3) := by decide +kernel
theorem dX1_become_130 : decode cX1_become 130 = .ok (.iconst 0, 1) := by decide +kernel
theorem dX1_become_131 : decode cX1_become 131 = .ok (.aload_n 0, 1) := by decide +kernel
theorem dX1_become_132 : decode cX1_become 132 = .ok (.getfield 43, 3) := by decide +kernel
theorem dX1_become_135 : decode cX1_become 135 = .ok (.iconst 0, 1) := by decide +kernel
theorem dX1_become_136 : decode cX1_become 136 = .ok (.bipush 6, 2) := by decide +kernel
theorem dX1_become_138 : decode cX1_become 138 = .ok (.invokestatic 58, 3) := by decide +kernel
theorem dX1_become_141 : decode cX1_become 141 = .ok (.aload_n 1, 1) := by decide +kernel
theorem dX1_become_142 : decode cX1_become 142 = .ok (.getfield 46, 3) := by decide +kernel
theorem dX1_become_145 : decode cX1_become 145 = .ok (.iconst 0, 1) := by decide +kernel
theorem dX1_become_146 : decode cX1_become 146 = .ok (.aload_n 0, 1) := by decide +kernel
theorem dX1_become_147 : decode cX1_become 147 = .ok (.getfield 46, 3) := by decide +kernel
theorem dX1_become_150 : decode cX1_become 150 = .ok (.iconst 0, 1) := by decide +kernel
theorem dX1_become_151 : decode cX1_become 151 = .ok (.bipush 10, 2) := by decide +kernel
theorem dX1_become_153 : decode cX1_become 153 = .ok (.invokestatic 58, 3) := by decide +kernel
theorem dX1_become_156 : decode cX1_become 156 = .ok (.aload_n 0, 1) := by decide +kernel
theorem dX1_become_157 : decode cX1_become 157 = .ok (.aload_n 1, 1) := by decide +kernel
theorem dX1_become_158 : decode cX1_become 158 = .ok (.getfield 49, 3) := by decide +kernel
theorem dX1_become_161 : decode cX1_become 161 = .ok (.putfield 49, 3) := by decide +kernel
theorem dX1_become_164 : decode cX1_become 164 = .ok (.return_, 1) := by decide +kernel
theorem dX1_starRow_0 : decode cX1_starRow 0 = .ok (.iload_n 1, 1) := by decide +kernel
theorem dX1_starRow_1 : decode cX1_starRow 1 = .ok (.tableswitch 51 0 3 #[31, 36, 41, 46], 31) := by decide +kernel
theorem dX1_starRow_32 : decode cX1_starRow 32 = .ok (.aload_n 0, 1) := by decide +kernel
theorem dX1_starRow_33 : decode cX1_starRow 33 = .ok (.getfield 15, 3) := by decide +kernel
theorem dX1_starRow_36 : decode cX1_starRow 36 = .ok (.areturn, 1) := by decide +kernel
theorem dX1_starRow_37 : decode cX1_starRow 37 = .ok (.aload_n 0, 1) := by decide +kernel
theorem dX1_starRow_38 : decode cX1_starRow 38 = .ok (.getfield 19, 3) := by decide +kernel
theorem dX1_starRow_41 : decode cX1_starRow 41 = .ok (.areturn, 1) := by decide +kernel
theorem dX1_starRow_42 : decode cX1_starRow 42 = .ok (.aload_n 0, 1) := by decide +kernel
theorem dX1_starRow_43 : decode cX1_starRow 43 = .ok (.getfield 22, 3) := by decide +kernel
theorem dX1_starRow_46 : decode cX1_starRow 46 = .ok (.areturn, 1) := by decide +kernel
theorem dX1_starRow_47 : decode cX1_starRow 47 = .ok (.aload_n 0, 1) := by decide +kernel
theorem dX1_starRow_48 : decode cX1_starRow 48 = .ok (.getfield 25, 3) := by decide +kernel
theorem dX1_starRow_51 : decode cX1_starRow 51 = .ok (.areturn, 1) := by decide +kernel
theorem dX1_starRow_52 : decode cX1_starRow 52 = .ok (.aconst_null, 1) := by decide +kernel
theorem dX1_starRow_53 : decode cX1_starRow 53 = .ok (.areturn, 1) := by decide +kernel
theorem dX1_mostOfStar_0 : decode cX1_mostOfStar 0 = .ok (.iload_n 0, 1) := by decide +kernel
theorem dX1_mostOfStar_1 : decode cX1_mostOfStar 1 = .ok (.tableswitch 36 0 2 #[27, 30, 33], 27) := by decide +kernel
theorem dX1_mostOfStar_28 : decode cX1_mostOfStar 28 = .ok (.bipush 6, 2) := by decide +kernel
theorem dX1_mostOfStar_30 : decode cX1_mostOfStar 30 = .ok (.ireturn, 1) := by decide +kernel
theorem dX1_mostOfStar_31 : decode cX1_mostOfStar 31 = .ok (.bipush 99, 2) := by decide +kernel
theorem dX1_mostOfStar_33 : decode cX1_mostOfStar 33 = .ok (.ireturn, 1) := by decide +kernel
theorem dX1_mostOfStar_34 : decode cX1_mostOfStar 34 = .ok (.bipush 99, 2) := by decide +kernel
theorem dX1_mostOfStar_36 : decode cX1_mostOfStar 36 = .ok (.ireturn, 1) := by decide +kernel
theorem dX1_mostOfStar_37 : decode cX1_mostOfStar 37 = .ok (.bipush 99, 2) := by decide +kernel
theorem dX1_mostOfStar_39 : decode cX1_mostOfStar 39 = .ok (.ireturn, 1) := by decide +kernel
theorem dX1_crewRow_0 : decode cX1_crewRow 0 = .ok (.iload_n 1, 1) := by decide +kernel
theorem dX1_crewRow_1 : decode cX1_crewRow 1 = .ok (.lookupswitch 37 #[(0, 27), (1, 32)], 27) := by decide +kernel
theorem dX1_crewRow_28 : decode cX1_crewRow 28 = .ok (.aload_n 0, 1) := by decide +kernel
theorem dX1_crewRow_29 : decode cX1_crewRow 29 = .ok (.getfield 28, 3) := by decide +kernel
theorem dX1_crewRow_32 : decode cX1_crewRow 32 = .ok (.areturn, 1) := by decide +kernel
theorem dX1_crewRow_33 : decode cX1_crewRow 33 = .ok (.aload_n 0, 1) := by decide +kernel
theorem dX1_crewRow_34 : decode cX1_crewRow 34 = .ok (.getfield 31, 3) := by decide +kernel
theorem dX1_crewRow_37 : decode cX1_crewRow 37 = .ok (.areturn, 1) := by decide +kernel
theorem dX1_crewRow_38 : decode cX1_crewRow 38 = .ok (.aconst_null, 1) := by decide +kernel
theorem dX1_crewRow_39 : decode cX1_crewRow 39 = .ok (.areturn, 1) := by decide +kernel
theorem dX1_mostOfCrew_0 : decode cX1_mostOfCrew 0 = .ok (.iload_n 0, 1) := by decide +kernel
theorem dX1_mostOfCrew_1 : decode cX1_mostOfCrew 1 = .ok (.ifCond .ne 8, 3) := by decide +kernel
theorem dX1_mostOfCrew_4 : decode cX1_mostOfCrew 4 = .ok (.bipush 99, 2) := by decide +kernel
theorem dX1_mostOfCrew_6 : decode cX1_mostOfCrew 6 = .ok (.goto 6, 3) := by decide +kernel
theorem dX1_mostOfCrew_9 : decode cX1_mostOfCrew 9 = .ok (.sipush 999, 3) := by decide +kernel
theorem dX1_mostOfCrew_12 : decode cX1_mostOfCrew 12 = .ok (.ireturn, 1) := by decide +kernel
theorem dX1_addStar_0 : decode cX1_addStar 0 = .ok (.aload_n 0, 1) := by decide +kernel
theorem dX1_addStar_1 : decode cX1_addStar 1 = .ok (.getfield 15, 3) := by decide +kernel
theorem dX1_addStar_4 : decode cX1_addStar 4 = .ok (.aload_n 0, 1) := by decide +kernel
theorem dX1_addStar_5 : decode cX1_addStar 5 = .ok (.getfield 9, 3) := by decide +kernel
theorem dX1_addStar_8 : decode cX1_addStar 8 = .ok (.iload_n 1, 1) := by decide +kernel
theorem dX1_addStar_9 : decode cX1_addStar 9 = .ok (.iastore, 1) := by decide +kernel
theorem dX1_addStar_10 : decode cX1_addStar 10 = .ok (.aload_n 0, 1) := by decide +kernel
theorem dX1_addStar_11 : decode cX1_addStar 11 = .ok (.getfield 19, 3) := by decide +kernel
theorem dX1_addStar_14 : decode cX1_addStar 14 = .ok (.aload_n 0, 1) := by decide +kernel
theorem dX1_addStar_15 : decode cX1_addStar 15 = .ok (.getfield 9, 3) := by decide +kernel
theorem dX1_addStar_18 : decode cX1_addStar 18 = .ok (.iload_n 2, 1) := by decide +kernel
theorem dX1_addStar_19 : decode cX1_addStar 19 = .ok (.iastore, 1) := by decide +kernel
theorem dX1_addStar_20 : decode cX1_addStar 20 = .ok (.aload_n 0, 1) := by decide +kernel
theorem dX1_addStar_21 : decode cX1_addStar 21 = .ok (.getfield 22, 3) := by decide +kernel
theorem dX1_addStar_24 : decode cX1_addStar 24 = .ok (.aload_n 0, 1) := by decide +kernel
theorem dX1_addStar_25 : decode cX1_addStar 25 = .ok (.getfield 9, 3) := by decide +kernel
theorem dX1_addStar_28 : decode cX1_addStar 28 = .ok (.iload_n 3, 1) := by decide +kernel
theorem dX1_addStar_29 : decode cX1_addStar 29 = .ok (.iastore, 1) := by decide +kernel
theorem dX1_addStar_30 : decode cX1_addStar 30 = .ok (.aload_n 0, 1) := by decide +kernel
theorem dX1_addStar_31 : decode cX1_addStar 31 = .ok (.getfield 25, 3) := by decide +kernel
theorem dX1_addStar_34 : decode cX1_addStar 34 = .ok (.aload_n 0, 1) := by decide +kernel
theorem dX1_addStar_35 : decode cX1_addStar 35 = .ok (.getfield 9, 3) := by decide +kernel
theorem dX1_addStar_38 : decode cX1_addStar 38 = .ok (.iload 4, 2) := by decide +kernel
theorem dX1_addStar_40 : decode cX1_addStar 40 = .ok (.iastore, 1) := by decide +kernel
theorem dX1_addStar_41 : decode cX1_addStar 41 = .ok (.aload_n 0, 1) := by decide +kernel
theorem dX1_addStar_42 : decode cX1_addStar 42 = .ok (.dup, 1) := by decide +kernel
theorem dX1_addStar_43 : decode cX1_addStar 43 = .ok (.getfield 9, 3) := by decide +kernel
theorem dX1_addStar_46 : decode cX1_addStar 46 = .ok (.iconst 1, 1) := by decide +kernel
theorem dX1_addStar_47 : decode cX1_addStar 47 = .ok (.iadd, 1) := by decide +kernel
theorem dX1_addStar_48 : decode cX1_addStar 48 = .ok (.putfield 9, 3) := by decide +kernel
theorem dX1_addStar_51 : decode cX1_addStar 51 = .ok (.aload_n 0, 1) := by decide +kernel
theorem dX1_addStar_52 : decode cX1_addStar 52 = .ok (.getfield 9, 3) := by decide +kernel
theorem dX1_addStar_55 : decode cX1_addStar 55 = .ok (.iconst 1, 1) := by decide +kernel
theorem dX1_addStar_56 : decode cX1_addStar 56 = .ok (.isub, 1) := by decide +kernel
theorem dX1_addStar_57 : decode cX1_addStar 57 = .ok (.ireturn, 1) := by decide +kernel
theorem dX1_addSign_0 : decode cX1_addSign 0 = .ok (.aload_n 0, 1) := by decide +kernel
theorem dX1_addSign_1 : decode cX1_addSign 1 = .ok (.getfield 43, 3) := by decide +kernel
theorem dX1_addSign_4 : decode cX1_addSign 4 = .ok (.aload_n 0, 1) := by decide +kernel
theorem dX1_addSign_5 : decode cX1_addSign 5 = .ok (.getfield 40, 3) := by decide +kernel
theorem dX1_addSign_8 : decode cX1_addSign 8 = .ok (.iload_n 1, 1) := by decide +kernel
theorem dX1_addSign_9 : decode cX1_addSign 9 = .ok (.iastore, 1) := by decide +kernel
theorem dX1_addSign_10 : decode cX1_addSign 10 = .ok (.aload_n 0, 1) := by decide +kernel
theorem dX1_addSign_11 : decode cX1_addSign 11 = .ok (.dup, 1) := by decide +kernel
theorem dX1_addSign_12 : decode cX1_addSign 12 = .ok (.getfield 40, 3) := by decide +kernel
theorem dX1_addSign_15 : decode cX1_addSign 15 = .ok (.iconst 1, 1) := by decide +kernel
theorem dX1_addSign_16 : decode cX1_addSign 16 = .ok (.iadd, 1) := by decide +kernel
theorem dX1_addSign_17 : decode cX1_addSign 17 = .ok (.putfield 40, 3) := by decide +kernel
theorem dX1_addSign_20 : decode cX1_addSign 20 = .ok (.aload_n 0, 1) := by decide +kernel
theorem dX1_addSign_21 : decode cX1_addSign 21 = .ok (.getfield 40, 3) := by decide +kernel
theorem dX1_addSign_24 : decode cX1_addSign 24 = .ok (.iconst 1, 1) := by decide +kernel
theorem dX1_addSign_25 : decode cX1_addSign 25 = .ok (.isub, 1) := by decide +kernel
theorem dX1_addSign_26 : decode cX1_addSign 26 = .ok (.ireturn, 1) := by decide +kernel
theorem dX1_wearOf_0 : decode cX1_wearOf 0 = .ok (.iload_n 3, 1) := by decide +kernel
theorem dX1_wearOf_1 : decode cX1_wearOf 1 = .ok (.iconst 1, 1) := by decide +kernel
theorem dX1_wearOf_2 : decode cX1_wearOf 2 = .ok (.iadd, 1) := by decide +kernel
theorem dX1_wearOf_3 : decode cX1_wearOf 3 = .ok (.istore 4, 2) := by decide +kernel
theorem dX1_wearOf_5 : decode cX1_wearOf 5 = .ok (.iload 4, 2) := by decide +kernel
theorem dX1_wearOf_7 : decode cX1_wearOf 7 = .ok (.iconst 2, 1) := by decide +kernel
theorem dX1_wearOf_8 : decode cX1_wearOf 8 = .ok (.idiv, 1) := by decide +kernel
theorem dX1_wearOf_9 : decode cX1_wearOf 9 = .ok (.aload_n 0, 1) := by decide +kernel
theorem dX1_wearOf_10 : decode cX1_wearOf 10 = .ok (.getfield 34, 3) := by decide +kernel
theorem dX1_wearOf_13 : decode cX1_wearOf 13 = .ok (.iconst 1, 1) := by decide +kernel
theorem dX1_wearOf_14 : decode cX1_wearOf 14 = .ok (.iaload, 1) := by decide +kernel
theorem dX1_wearOf_15 : decode cX1_wearOf 15 = .ok (.iconst 5, 1) := by decide +kernel
theorem dX1_wearOf_16 : decode cX1_wearOf 16 = .ok (.if_icmp .lt 7, 3) := by decide +kernel
theorem dX1_wearOf_19 : decode cX1_wearOf 19 = .ok (.iconst 1, 1) := by decide +kernel
theorem dX1_wearOf_20 : decode cX1_wearOf 20 = .ok (.goto 4, 3) := by decide +kernel
theorem dX1_wearOf_23 : decode cX1_wearOf 23 = .ok (.iconst 0, 1) := by decide +kernel
theorem dX1_wearOf_24 : decode cX1_wearOf 24 = .ok (.iadd, 1) := by decide +kernel
theorem dX1_wearOf_25 : decode cX1_wearOf 25 = .ok (.istore 5, 2) := by decide +kernel
theorem dX1_wearOf_27 : decode cX1_wearOf 27 = .ok (.iload_n 1, 1) := by decide +kernel
theorem dX1_wearOf_28 : decode cX1_wearOf 28 = .ok (.tableswitch 81 1 6 #[40, 52, 57, 60, 70, 45], 40) := by decide +kernel
theorem dX1_wearOf_68 : decode cX1_wearOf 68 = .ok (.iload 4, 2) := by decide +kernel
theorem dX1_wearOf_70 : decode cX1_wearOf 70 = .ok (.iconst 2, 1) := by decide +kernel
theorem dX1_wearOf_71 : decode cX1_wearOf 71 = .ok (.iadd, 1) := by decide +kernel
theorem dX1_wearOf_72 : decode cX1_wearOf 72 = .ok (.ireturn, 1) := by decide +kernel
theorem dX1_wearOf_73 : decode cX1_wearOf 73 = .ok (.iconst 2, 1) := by decide +kernel
theorem dX1_wearOf_74 : decode cX1_wearOf 74 = .ok (.iload 4, 2) := by decide +kernel
theorem dX1_wearOf_76 : decode cX1_wearOf 76 = .ok (.iconst 2, 1) := by decide +kernel
theorem dX1_wearOf_77 : decode cX1_wearOf 77 = .ok (.iadd, 1) := by decide +kernel
theorem dX1_wearOf_78 : decode cX1_wearOf 78 = .ok (.imul, 1) := by decide +kernel
theorem dX1_wearOf_79 : decode cX1_wearOf 79 = .ok (.ireturn, 1) := by decide +kernel
theorem dX1_wearOf_80 : decode cX1_wearOf 80 = .ok (.iload 4, 2) := by decide +kernel
theorem dX1_wearOf_82 : decode cX1_wearOf 82 = .ok (.iconst 2, 1) := by decide +kernel
theorem dX1_wearOf_83 : decode cX1_wearOf 83 = .ok (.idiv, 1) := by decide +kernel
theorem dX1_wearOf_84 : decode cX1_wearOf 84 = .ok (.ireturn, 1) := by decide +kernel
theorem dX1_wearOf_85 : decode cX1_wearOf 85 = .ok (.iload 5, 2) := by decide +kernel
theorem dX1_wearOf_87 : decode cX1_wearOf 87 = .ok (.ireturn, 1) := by decide +kernel
theorem dX1_wearOf_88 : decode cX1_wearOf 88 = .ok (.iload 5, 2) := by decide +kernel
theorem dX1_wearOf_90 : decode cX1_wearOf 90 = .ok (.aload_n 0, 1) := by decide +kernel
theorem dX1_wearOf_91 : decode cX1_wearOf 91 = .ok (.getfield 34, 3) := by decide +kernel
theorem dX1_wearOf_94 : decode cX1_wearOf 94 = .ok (.iconst 1, 1) := by decide +kernel
theorem dX1_wearOf_95 : decode cX1_wearOf 95 = .ok (.iaload, 1) := by decide +kernel
theorem dX1_wearOf_96 : decode cX1_wearOf 96 = .ok (.iadd, 1) := by decide +kernel
theorem dX1_wearOf_97 : decode cX1_wearOf 97 = .ok (.ireturn, 1) := by decide +kernel
theorem dX1_wearOf_98 : decode cX1_wearOf 98 = .ok (.iload 4, 2) := by decide +kernel
theorem dX1_wearOf_100 : decode cX1_wearOf 100 = .ok (.bipush 99, 2) := by decide +kernel
theorem dX1_wearOf_102 : decode cX1_wearOf 102 = .ok (.iload_n 2, 1) := by decide +kernel
theorem dX1_wearOf_103 : decode cX1_wearOf 103 = .ok (.isub, 1) := by decide +kernel
theorem dX1_wearOf_104 : decode cX1_wearOf 104 = .ok (.bipush 10, 2) := by decide +kernel
theorem dX1_wearOf_106 : decode cX1_wearOf 106 = .ok (.idiv, 1) := by decide +kernel
theorem dX1_wearOf_107 : decode cX1_wearOf 107 = .ok (.iadd, 1) := by decide +kernel
theorem dX1_wearOf_108 : decode cX1_wearOf 108 = .ok (.ireturn, 1) := by decide +kernel
theorem dX1_wearOf_109 : decode cX1_wearOf 109 = .ok (.iload 4, 2) := by decide +kernel
theorem dX1_wearOf_111 : decode cX1_wearOf 111 = .ok (.ireturn, 1) := by decide +kernel
theorem dX1_dimOf_0 : decode cX1_dimOf 0 = .ok (.bipush 9, 2) := by decide +kernel
theorem dX1_dimOf_2 : decode cX1_dimOf 2 = .ok (.istore_n 2, 1) := by decide +kernel
theorem dX1_dimOf_3 : decode cX1_dimOf 3 = .ok (.iload_n 1, 1) := by decide +kernel
theorem dX1_dimOf_4 : decode cX1_dimOf 4 = .ok (.tableswitch 58 1 6 #[40, 43, 47, 47, 49, 40], 40) := by decide +kernel
theorem dX1_dimOf_44 : decode cX1_dimOf 44 = .ok (.bipush 19, 2) := by decide +kernel
theorem dX1_dimOf_46 : decode cX1_dimOf 46 = .ok (.ireturn, 1) := by decide +kernel
theorem dX1_dimOf_47 : decode cX1_dimOf 47 = .ok (.iload_n 2, 1) := by decide +kernel
theorem dX1_dimOf_48 : decode cX1_dimOf 48 = .ok (.iconst 2, 1) := by decide +kernel
theorem dX1_dimOf_49 : decode cX1_dimOf 49 = .ok (.idiv, 1) := by decide +kernel
theorem dX1_dimOf_50 : decode cX1_dimOf 50 = .ok (.ireturn, 1) := by decide +kernel
theorem dX1_dimOf_51 : decode cX1_dimOf 51 = .ok (.iconst 0, 1) := by decide +kernel
theorem dX1_dimOf_52 : decode cX1_dimOf 52 = .ok (.ireturn, 1) := by decide +kernel
theorem dX1_dimOf_53 : decode cX1_dimOf 53 = .ok (.iload_n 2, 1) := by decide +kernel
theorem dX1_dimOf_54 : decode cX1_dimOf 54 = .ok (.aload_n 0, 1) := by decide +kernel
theorem dX1_dimOf_55 : decode cX1_dimOf 55 = .ok (.getfield 34, 3) := by decide +kernel
theorem dX1_dimOf_58 : decode cX1_dimOf 58 = .ok (.iconst 1, 1) := by decide +kernel
theorem dX1_dimOf_59 : decode cX1_dimOf 59 = .ok (.iaload, 1) := by decide +kernel
theorem dX1_dimOf_60 : decode cX1_dimOf 60 = .ok (.iadd, 1) := by decide +kernel
theorem dX1_dimOf_61 : decode cX1_dimOf 61 = .ok (.ireturn, 1) := by decide +kernel
theorem dX1_dimOf_62 : decode cX1_dimOf 62 = .ok (.iload_n 2, 1) := by decide +kernel
theorem dX1_dimOf_63 : decode cX1_dimOf 63 = .ok (.ireturn, 1) := by decide +kernel
theorem dX1_isBright_0 : decode cX1_isBright 0 = .ok (.iload_n 2, 1) := by decide +kernel
theorem dX1_isBright_1 : decode cX1_isBright 1 = .ok (.aload_n 0, 1) := by decide +kernel
theorem dX1_isBright_2 : decode cX1_isBright 2 = .ok (.iload_n 1, 1) := by decide +kernel
theorem dX1_isBright_3 : decode cX1_isBright 3 = .ok (.invokevirtual 64, 3) := by decide +kernel
theorem dX1_isBright_6 : decode cX1_isBright 6 = .ok (.if_icmp .le 7, 3) := by decide +kernel
theorem dX1_isBright_9 : decode cX1_isBright 9 = .ok (.iconst 1, 1) := by decide +kernel
theorem dX1_isBright_10 : decode cX1_isBright 10 = .ok (.goto 4, 3) := by decide +kernel
theorem dX1_isBright_13 : decode cX1_isBright 13 = .ok (.iconst 0, 1) := by decide +kernel
theorem dX1_isBright_14 : decode cX1_isBright 14 = .ok (.ireturn, 1) := by decide +kernel
theorem dX1_lifeNext_0 : decode cX1_lifeNext 0 = .ok (.iconst 0, 1) := by decide +kernel
theorem dX1_lifeNext_1 : decode cX1_lifeNext 1 = .ok (.iload_n 2, 1) := by decide +kernel
theorem dX1_lifeNext_2 : decode cX1_lifeNext 2 = .ok (.aload_n 0, 1) := by decide +kernel
theorem dX1_lifeNext_3 : decode cX1_lifeNext 3 = .ok (.iload_n 1, 1) := by decide +kernel
theorem dX1_lifeNext_4 : decode cX1_lifeNext 4 = .ok (.iload_n 2, 1) := by decide +kernel
theorem dX1_lifeNext_5 : decode cX1_lifeNext 5 = .ok (.iload_n 3, 1) := by decide +kernel
theorem dX1_lifeNext_6 : decode cX1_lifeNext 6 = .ok (.invokevirtual 68, 3) := by decide +kernel
theorem dX1_lifeNext_9 : decode cX1_lifeNext 9 = .ok (.isub, 1) := by decide +kernel
theorem dX1_lifeNext_10 : decode cX1_lifeNext 10 = .ok (.invokestatic 72, 3) := by decide +kernel
theorem dX1_lifeNext_13 : decode cX1_lifeNext 13 = .ok (.ireturn, 1) := by decide +kernel
theorem dX1_lifeBehind_0 : decode cX1_lifeBehind 0 = .ok (.aload_n 0, 1) := by decide +kernel
theorem dX1_lifeBehind_1 : decode cX1_lifeBehind 1 = .ok (.getfield 22, 3) := by decide +kernel
theorem dX1_lifeBehind_4 : decode cX1_lifeBehind 4 = .ok (.iload_n 1, 1) := by decide +kernel
theorem dX1_lifeBehind_5 : decode cX1_lifeBehind 5 = .ok (.iaload, 1) := by decide +kernel
theorem dX1_lifeBehind_6 : decode cX1_lifeBehind 6 = .ok (.istore 4, 2) := by decide +kernel
theorem dX1_lifeBehind_8 : decode cX1_lifeBehind 8 = .ok (.iconst 0, 1) := by decide +kernel
theorem dX1_lifeBehind_9 : decode cX1_lifeBehind 9 = .ok (.istore 5, 2) := by decide +kernel
theorem dX1_lifeBehind_11 : decode cX1_lifeBehind 11 = .ok (.iload 5, 2) := by decide +kernel
theorem dX1_lifeBehind_13 : decode cX1_lifeBehind 13 = .ok (.iload_n 3, 1) := by decide +kernel
theorem dX1_lifeBehind_14 : decode cX1_lifeBehind 14 = .ok (.if_icmp .ge 24, 3) := by decide +kernel
theorem dX1_lifeBehind_17 : decode cX1_lifeBehind 17 = .ok (.aload_n 0, 1) := by decide +kernel
theorem dX1_lifeBehind_18 : decode cX1_lifeBehind 18 = .ok (.aload_n 0, 1) := by decide +kernel
theorem dX1_lifeBehind_19 : decode cX1_lifeBehind 19 = .ok (.getfield 15, 3) := by decide +kernel
theorem dX1_lifeBehind_22 : decode cX1_lifeBehind 22 = .ok (.iload_n 1, 1) := by decide +kernel
theorem dX1_lifeBehind_23 : decode cX1_lifeBehind 23 = .ok (.iaload, 1) := by decide +kernel
theorem dX1_lifeBehind_24 : decode cX1_lifeBehind 24 = .ok (.iload 4, 2) := by decide +kernel
theorem dX1_lifeBehind_26 : decode cX1_lifeBehind 26 = .ok (.iload_n 2, 1) := by decide +kernel
theorem dX1_lifeBehind_27 : decode cX1_lifeBehind 27 = .ok (.invokevirtual 78, 3) := by decide +kernel
theorem dX1_lifeBehind_30 : decode cX1_lifeBehind 30 = .ok (.istore 4, 2) := by decide +kernel
theorem dX1_lifeBehind_32 : decode cX1_lifeBehind 32 = .ok (.iinc 5 1, 3) := by decide +kernel
theorem dX1_lifeBehind_35 : decode cX1_lifeBehind 35 = .ok (.goto (-24), 3) := by decide +kernel
theorem dX1_lifeBehind_38 : decode cX1_lifeBehind 38 = .ok (.iload 4, 2) := by decide +kernel
theorem dX1_lifeBehind_40 : decode cX1_lifeBehind 40 = .ok (.ireturn, 1) := by decide +kernel
theorem dX1_nightsBright_0 : decode cX1_nightsBright 0 = .ok (.aload_n 0, 1) := by decide +kernel
theorem dX1_nightsBright_1 : decode cX1_nightsBright 1 = .ok (.getfield 22, 3) := by decide +kernel
theorem dX1_nightsBright_4 : decode cX1_nightsBright 4 = .ok (.iload_n 1, 1) := by decide +kernel
theorem dX1_nightsBright_5 : decode cX1_nightsBright 5 = .ok (.iaload, 1) := by decide +kernel
theorem dX1_nightsBright_6 : decode cX1_nightsBright 6 = .ok (.istore_n 3, 1) := by decide +kernel
theorem dX1_nightsBright_7 : decode cX1_nightsBright 7 = .ok (.iconst 0, 1) := by decide +kernel
theorem dX1_nightsBright_8 : decode cX1_nightsBright 8 = .ok (.istore 4, 2) := by decide +kernel
theorem dX1_nightsBright_10 : decode cX1_nightsBright 10 = .ok (.iload 4, 2) := by decide +kernel
theorem dX1_nightsBright_12 : decode cX1_nightsBright 12 = .ok (.sipush 200, 3) := by decide +kernel
theorem dX1_nightsBright_15 : decode cX1_nightsBright 15 = .ok (.if_icmp .gt 31, 3) := by decide +kernel
theorem dX1_nightsBright_18 : decode cX1_nightsBright 18 = .ok (.aload_n 0, 1) := by decide +kernel
theorem dX1_nightsBright_19 : decode cX1_nightsBright 19 = .ok (.iload_n 2, 1) := by decide +kernel
theorem dX1_nightsBright_20 : decode cX1_nightsBright 20 = .ok (.iload_n 3, 1) := by decide +kernel
theorem dX1_nightsBright_21 : decode cX1_nightsBright 21 = .ok (.invokevirtual 81, 3) := by decide +kernel
theorem dX1_nightsBright_24 : decode cX1_nightsBright 24 = .ok (.ifCond .eq 22, 3) := by decide +kernel
theorem dX1_nightsBright_27 : decode cX1_nightsBright 27 = .ok (.aload_n 0, 1) := by decide +kernel
theorem dX1_nightsBright_28 : decode cX1_nightsBright 28 = .ok (.iload_n 2, 1) := by decide +kernel
theorem dX1_nightsBright_29 : decode cX1_nightsBright 29 = .ok (.iload_n 3, 1) := by decide +kernel
theorem dX1_nightsBright_30 : decode cX1_nightsBright 30 = .ok (.aload_n 0, 1) := by decide +kernel
theorem dX1_nightsBright_31 : decode cX1_nightsBright 31 = .ok (.getfield 34, 3) := by decide +kernel
theorem dX1_nightsBright_34 : decode cX1_nightsBright 34 = .ok (.iconst 0, 1) := by decide +kernel
theorem dX1_nightsBright_35 : decode cX1_nightsBright 35 = .ok (.iaload, 1) := by decide +kernel
theorem dX1_nightsBright_36 : decode cX1_nightsBright 36 = .ok (.invokevirtual 78, 3) := by decide +kernel
theorem dX1_nightsBright_39 : decode cX1_nightsBright 39 = .ok (.istore_n 3, 1) := by decide +kernel
theorem dX1_nightsBright_40 : decode cX1_nightsBright 40 = .ok (.iinc 4 1, 3) := by decide +kernel
theorem dX1_nightsBright_43 : decode cX1_nightsBright 43 = .ok (.goto (-33), 3) := by decide +kernel
theorem dX1_nightsBright_46 : decode cX1_nightsBright 46 = .ok (.iload 4, 2) := by decide +kernel
theorem dX1_nightsBright_48 : decode cX1_nightsBright 48 = .ok (.ireturn, 1) := by decide +kernel
theorem dX1_passNight_0 : decode cX1_passNight 0 = .ok (.aload_n 0, 1) := by decide +kernel
theorem dX1_passNight_1 : decode cX1_passNight 1 = .ok (.aload_n 0, 1) := by decide +kernel
theorem dX1_passNight_2 : decode cX1_passNight 2 = .ok (.getfield 22, 3) := by decide +kernel
theorem dX1_passNight_5 : decode cX1_passNight 5 = .ok (.invokevirtual 85, 3) := by decide +kernel
theorem dX1_passNight_8 : decode cX1_passNight 8 = .ok (.aload_n 0, 1) := by decide +kernel
theorem dX1_passNight_9 : decode cX1_passNight 9 = .ok (.dup, 1) := by decide +kernel
theorem dX1_passNight_10 : decode cX1_passNight 10 = .ok (.getfield 37, 3) := by decide +kernel
theorem dX1_passNight_13 : decode cX1_passNight 13 = .ok (.iconst 1, 1) := by decide +kernel
theorem dX1_passNight_14 : decode cX1_passNight 14 = .ok (.iadd, 1) := by decide +kernel
theorem dX1_passNight_15 : decode cX1_passNight 15 = .ok (.putfield 37, 3) := by decide +kernel
theorem dX1_passNight_18 : decode cX1_passNight 18 = .ok (.return_, 1) := by decide +kernel
theorem dX1_wearDown_0 : decode cX1_wearDown 0 = .ok (.iconst 0, 1) := by decide +kernel
theorem dX1_wearDown_1 : decode cX1_wearDown 1 = .ok (.istore_n 2, 1) := by decide +kernel
theorem dX1_wearDown_2 : decode cX1_wearDown 2 = .ok (.iload_n 2, 1) := by decide +kernel
theorem dX1_wearDown_3 : decode cX1_wearDown 3 = .ok (.aload_n 0, 1) := by decide +kernel
theorem dX1_wearDown_4 : decode cX1_wearDown 4 = .ok (.getfield 9, 3) := by decide +kernel
theorem dX1_wearDown_7 : decode cX1_wearDown 7 = .ok (.if_icmp .ge 31, 3) := by decide +kernel
theorem dX1_wearDown_10 : decode cX1_wearDown 10 = .ok (.aload_n 1, 1) := by decide +kernel
theorem dX1_wearDown_11 : decode cX1_wearDown 11 = .ok (.iload_n 2, 1) := by decide +kernel
theorem dX1_wearDown_12 : decode cX1_wearDown 12 = .ok (.aload_n 0, 1) := by decide +kernel
theorem dX1_wearDown_13 : decode cX1_wearDown 13 = .ok (.aload_n 0, 1) := by decide +kernel
theorem dX1_wearDown_14 : decode cX1_wearDown 14 = .ok (.getfield 15, 3) := by decide +kernel
theorem dX1_wearDown_17 : decode cX1_wearDown 17 = .ok (.iload_n 2, 1) := by decide +kernel
theorem dX1_wearDown_18 : decode cX1_wearDown 18 = .ok (.iaload, 1) := by decide +kernel
theorem dX1_wearDown_19 : decode cX1_wearDown 19 = .ok (.aload_n 1, 1) := by decide +kernel
theorem dX1_wearDown_20 : decode cX1_wearDown 20 = .ok (.iload_n 2, 1) := by decide +kernel
theorem dX1_wearDown_21 : decode cX1_wearDown 21 = .ok (.iaload, 1) := by decide +kernel
theorem dX1_wearDown_22 : decode cX1_wearDown 22 = .ok (.aload_n 0, 1) := by decide +kernel
theorem dX1_wearDown_23 : decode cX1_wearDown 23 = .ok (.getfield 34, 3) := by decide +kernel
theorem dX1_wearDown_26 : decode cX1_wearDown 26 = .ok (.iconst 0, 1) := by decide +kernel
theorem dX1_wearDown_27 : decode cX1_wearDown 27 = .ok (.iaload, 1) := by decide +kernel
theorem dX1_wearDown_28 : decode cX1_wearDown 28 = .ok (.invokevirtual 78, 3) := by decide +kernel
theorem dX1_wearDown_31 : decode cX1_wearDown 31 = .ok (.iastore, 1) := by decide +kernel
theorem dX1_wearDown_32 : decode cX1_wearDown 32 = .ok (.iinc 2 1, 3) := by decide +kernel
theorem dX1_wearDown_35 : decode cX1_wearDown 35 = .ok (.goto (-33), 3) := by decide +kernel
theorem dX1_wearDown_38 : decode cX1_wearDown 38 = .ok (.return_, 1) := by decide +kernel
theorem dX1_mendDark_0 : decode cX1_mendDark 0 = .ok (.iconst 0, 1) := by decide +kernel
theorem dX1_mendDark_1 : decode cX1_mendDark 1 = .ok (.istore_n 2, 1) := by decide +kernel
theorem dX1_mendDark_2 : decode cX1_mendDark 2 = .ok (.iconst 0, 1) := by decide +kernel
theorem dX1_mendDark_3 : decode cX1_mendDark 3 = .ok (.istore_n 3, 1) := by decide +kernel
theorem dX1_mendDark_4 : decode cX1_mendDark 4 = .ok (.iload_n 3, 1) := by decide +kernel
theorem dX1_mendDark_5 : decode cX1_mendDark 5 = .ok (.aload_n 0, 1) := by decide +kernel
theorem dX1_mendDark_6 : decode cX1_mendDark 6 = .ok (.getfield 9, 3) := by decide +kernel
theorem dX1_mendDark_9 : decode cX1_mendDark 9 = .ok (.if_icmp .ge 33, 3) := by decide +kernel
theorem dX1_mendDark_12 : decode cX1_mendDark 12 = .ok (.aload_n 0, 1) := by decide +kernel
theorem dX1_mendDark_13 : decode cX1_mendDark 13 = .ok (.aload_n 0, 1) := by decide +kernel
theorem dX1_mendDark_14 : decode cX1_mendDark 14 = .ok (.getfield 15, 3) := by decide +kernel
theorem dX1_mendDark_17 : decode cX1_mendDark 17 = .ok (.iload_n 3, 1) := by decide +kernel
theorem dX1_mendDark_18 : decode cX1_mendDark 18 = .ok (.iaload, 1) := by decide +kernel
theorem dX1_mendDark_19 : decode cX1_mendDark 19 = .ok (.aload_n 1, 1) := by decide +kernel
theorem dX1_mendDark_20 : decode cX1_mendDark 20 = .ok (.iload_n 3, 1) := by decide +kernel
theorem dX1_mendDark_21 : decode cX1_mendDark 21 = .ok (.iaload, 1) := by decide +kernel
theorem dX1_mendDark_22 : decode cX1_mendDark 22 = .ok (.invokevirtual 81, 3) := by decide +kernel
theorem dX1_mendDark_25 : decode cX1_mendDark 25 = .ok (.ifCond .ne 11, 3) := by decide +kernel
theorem dX1_mendDark_28 : decode cX1_mendDark 28 = .ok (.aload_n 1, 1) := by decide +kernel
theorem dX1_mendDark_29 : decode cX1_mendDark 29 = .ok (.iload_n 3, 1) := by decide +kernel
theorem dX1_mendDark_30 : decode cX1_mendDark 30 = .ok (.bipush 99, 2) := by decide +kernel
theorem dX1_mendDark_32 : decode cX1_mendDark 32 = .ok (.iastore, 1) := by decide +kernel
theorem dX1_mendDark_33 : decode cX1_mendDark 33 = .ok (.iinc 2 1, 3) := by decide +kernel
theorem dX1_mendDark_36 : decode cX1_mendDark 36 = .ok (.iinc 3 1, 3) := by decide +kernel
theorem dX1_mendDark_39 : decode cX1_mendDark 39 = .ok (.goto (-35), 3) := by decide +kernel
theorem dX1_mendDark_42 : decode cX1_mendDark 42 = .ok (.iload_n 2, 1) := by decide +kernel
theorem dX1_mendDark_43 : decode cX1_mendDark 43 = .ok (.ireturn, 1) := by decide +kernel
theorem dX1_brightSet_0 : decode cX1_brightSet 0 = .ok (.iconst 0, 1) := by decide +kernel
theorem dX1_brightSet_1 : decode cX1_brightSet 1 = .ok (.istore_n 2, 1) := by decide +kernel
theorem dX1_brightSet_2 : decode cX1_brightSet 2 = .ok (.iconst 0, 1) := by decide +kernel
theorem dX1_brightSet_3 : decode cX1_brightSet 3 = .ok (.istore_n 3, 1) := by decide +kernel
theorem dX1_brightSet_4 : decode cX1_brightSet 4 = .ok (.iload_n 3, 1) := by decide +kernel
theorem dX1_brightSet_5 : decode cX1_brightSet 5 = .ok (.aload_n 0, 1) := by decide +kernel
theorem dX1_brightSet_6 : decode cX1_brightSet 6 = .ok (.getfield 9, 3) := by decide +kernel
theorem dX1_brightSet_9 : decode cX1_brightSet 9 = .ok (.if_icmp .ge 31, 3) := by decide +kernel
theorem dX1_brightSet_12 : decode cX1_brightSet 12 = .ok (.aload_n 0, 1) := by decide +kernel
theorem dX1_brightSet_13 : decode cX1_brightSet 13 = .ok (.aload_n 0, 1) := by decide +kernel
theorem dX1_brightSet_14 : decode cX1_brightSet 14 = .ok (.getfield 15, 3) := by decide +kernel
theorem dX1_brightSet_17 : decode cX1_brightSet 17 = .ok (.iload_n 3, 1) := by decide +kernel
theorem dX1_brightSet_18 : decode cX1_brightSet 18 = .ok (.iaload, 1) := by decide +kernel
theorem dX1_brightSet_19 : decode cX1_brightSet 19 = .ok (.aload_n 1, 1) := by decide +kernel
theorem dX1_brightSet_20 : decode cX1_brightSet 20 = .ok (.iload_n 3, 1) := by decide +kernel
theorem dX1_brightSet_21 : decode cX1_brightSet 21 = .ok (.iaload, 1) := by decide +kernel
theorem dX1_brightSet_22 : decode cX1_brightSet 22 = .ok (.invokevirtual 81, 3) := by decide +kernel
theorem dX1_brightSet_25 : decode cX1_brightSet 25 = .ok (.ifCond .eq 9, 3) := by decide +kernel
theorem dX1_brightSet_28 : decode cX1_brightSet 28 = .ok (.iload_n 2, 1) := by decide +kernel
theorem dX1_brightSet_29 : decode cX1_brightSet 29 = .ok (.iconst 1, 1) := by decide +kernel
theorem dX1_brightSet_30 : decode cX1_brightSet 30 = .ok (.iload_n 3, 1) := by decide +kernel
theorem dX1_brightSet_31 : decode cX1_brightSet 31 = .ok (.ishl, 1) := by decide +kernel
theorem dX1_brightSet_32 : decode cX1_brightSet 32 = .ok (.ior, 1) := by decide +kernel
theorem dX1_brightSet_33 : decode cX1_brightSet 33 = .ok (.istore_n 2, 1) := by decide +kernel
theorem dX1_brightSet_34 : decode cX1_brightSet 34 = .ok (.iinc 3 1, 3) := by decide +kernel
theorem dX1_brightSet_37 : decode cX1_brightSet 37 = .ok (.goto (-33), 3) := by decide +kernel
theorem dX1_brightSet_40 : decode cX1_brightSet 40 = .ok (.iload_n 2, 1) := by decide +kernel
theorem dX1_brightSet_41 : decode cX1_brightSet 41 = .ok (.ireturn, 1) := by decide +kernel
theorem dX1_lifeTogether_0 : decode cX1_lifeTogether 0 = .ok (.iconst 0, 1) := by decide +kernel
theorem dX1_lifeTogether_1 : decode cX1_lifeTogether 1 = .ok (.istore_n 1, 1) := by decide +kernel
theorem dX1_lifeTogether_2 : decode cX1_lifeTogether 2 = .ok (.iconst 0, 1) := by decide +kernel
theorem dX1_lifeTogether_3 : decode cX1_lifeTogether 3 = .ok (.istore_n 2, 1) := by decide +kernel
theorem dX1_lifeTogether_4 : decode cX1_lifeTogether 4 = .ok (.iload_n 2, 1) := by decide +kernel
theorem dX1_lifeTogether_5 : decode cX1_lifeTogether 5 = .ok (.aload_n 0, 1) := by decide +kernel
theorem dX1_lifeTogether_6 : decode cX1_lifeTogether 6 = .ok (.getfield 9, 3) := by decide +kernel
theorem dX1_lifeTogether_9 : decode cX1_lifeTogether 9 = .ok (.if_icmp .ge 18, 3) := by decide +kernel
theorem dX1_lifeTogether_12 : decode cX1_lifeTogether 12 = .ok (.iload_n 1, 1) := by decide +kernel
theorem dX1_lifeTogether_13 : decode cX1_lifeTogether 13 = .ok (.aload_n 0, 1) := by decide +kernel
theorem dX1_lifeTogether_14 : decode cX1_lifeTogether 14 = .ok (.getfield 22, 3) := by decide +kernel
theorem dX1_lifeTogether_17 : decode cX1_lifeTogether 17 = .ok (.iload_n 2, 1) := by decide +kernel
theorem dX1_lifeTogether_18 : decode cX1_lifeTogether 18 = .ok (.iaload, 1) := by decide +kernel
theorem dX1_lifeTogether_19 : decode cX1_lifeTogether 19 = .ok (.iadd, 1) := by decide +kernel
theorem dX1_lifeTogether_20 : decode cX1_lifeTogether 20 = .ok (.istore_n 1, 1) := by decide +kernel
theorem dX1_lifeTogether_21 : decode cX1_lifeTogether 21 = .ok (.iinc 2 1, 3) := by decide +kernel
theorem dX1_lifeTogether_24 : decode cX1_lifeTogether 24 = .ok (.goto (-20), 3) := by decide +kernel
theorem dX1_lifeTogether_27 : decode cX1_lifeTogether 27 = .ok (.iload_n 1, 1) := by decide +kernel
theorem dX1_lifeTogether_28 : decode cX1_lifeTogether 28 = .ok (.ireturn, 1) := by decide +kernel
theorem dX1_worthOf_0 : decode cX1_worthOf 0 = .ok (.iconst 0, 1) := by decide +kernel
theorem dX1_worthOf_1 : decode cX1_worthOf 1 = .ok (.istore_n 2, 1) := by decide +kernel
theorem dX1_worthOf_2 : decode cX1_worthOf 2 = .ok (.iconst 0, 1) := by decide +kernel
theorem dX1_worthOf_3 : decode cX1_worthOf 3 = .ok (.istore_n 3, 1) := by decide +kernel
theorem dX1_worthOf_4 : decode cX1_worthOf 4 = .ok (.iload_n 3, 1) := by decide +kernel
theorem dX1_worthOf_5 : decode cX1_worthOf 5 = .ok (.aload_n 0, 1) := by decide +kernel
theorem dX1_worthOf_6 : decode cX1_worthOf 6 = .ok (.getfield 9, 3) := by decide +kernel
theorem dX1_worthOf_9 : decode cX1_worthOf 9 = .ok (.if_icmp .ge 27, 3) := by decide +kernel
theorem dX1_worthOf_12 : decode cX1_worthOf 12 = .ok (.iload_n 1, 1) := by decide +kernel
theorem dX1_worthOf_13 : decode cX1_worthOf 13 = .ok (.iload_n 3, 1) := by decide +kernel
theorem dX1_worthOf_14 : decode cX1_worthOf 14 = .ok (.ishr, 1) := by decide +kernel
theorem dX1_worthOf_15 : decode cX1_worthOf 15 = .ok (.iconst 1, 1) := by decide +kernel
theorem dX1_worthOf_16 : decode cX1_worthOf 16 = .ok (.iand, 1) := by decide +kernel
theorem dX1_worthOf_17 : decode cX1_worthOf 17 = .ok (.iconst 1, 1) := by decide +kernel
theorem dX1_worthOf_18 : decode cX1_worthOf 18 = .ok (.if_icmp .ne 12, 3) := by decide +kernel
theorem dX1_worthOf_21 : decode cX1_worthOf 21 = .ok (.iload_n 2, 1) := by decide +kernel
theorem dX1_worthOf_22 : decode cX1_worthOf 22 = .ok (.aload_n 0, 1) := by decide +kernel
theorem dX1_worthOf_23 : decode cX1_worthOf 23 = .ok (.getfield 25, 3) := by decide +kernel
theorem dX1_worthOf_26 : decode cX1_worthOf 26 = .ok (.iload_n 3, 1) := by decide +kernel
theorem dX1_worthOf_27 : decode cX1_worthOf 27 = .ok (.iaload, 1) := by decide +kernel
theorem dX1_worthOf_28 : decode cX1_worthOf 28 = .ok (.iadd, 1) := by decide +kernel
theorem dX1_worthOf_29 : decode cX1_worthOf 29 = .ok (.istore_n 2, 1) := by decide +kernel
theorem dX1_worthOf_30 : decode cX1_worthOf 30 = .ok (.iinc 3 1, 3) := by decide +kernel
theorem dX1_worthOf_33 : decode cX1_worthOf 33 = .ok (.goto (-29), 3) := by decide +kernel
theorem dX1_worthOf_36 : decode cX1_worthOf 36 = .ok (.iload_n 2, 1) := by decide +kernel
theorem dX1_worthOf_37 : decode cX1_worthOf 37 = .ok (.ireturn, 1) := by decide +kernel
theorem dX1_signsWith_0 : decode cX1_signsWith 0 = .ok (.iconst 0, 1) := by decide +kernel
theorem dX1_signsWith_1 : decode cX1_signsWith 1 = .ok (.istore_n 2, 1) := by decide +kernel
theorem dX1_signsWith_2 : decode cX1_signsWith 2 = .ok (.iconst 0, 1) := by decide +kernel
theorem dX1_signsWith_3 : decode cX1_signsWith 3 = .ok (.istore_n 3, 1) := by decide +kernel
theorem dX1_signsWith_4 : decode cX1_signsWith 4 = .ok (.iload_n 3, 1) := by decide +kernel
theorem dX1_signsWith_5 : decode cX1_signsWith 5 = .ok (.aload_n 0, 1) := by decide +kernel
theorem dX1_signsWith_6 : decode cX1_signsWith 6 = .ok (.getfield 40, 3) := by decide +kernel
theorem dX1_signsWith_9 : decode cX1_signsWith 9 = .ok (.if_icmp .ge 28, 3) := by decide +kernel
theorem dX1_signsWith_12 : decode cX1_signsWith 12 = .ok (.iload_n 1, 1) := by decide +kernel
theorem dX1_signsWith_13 : decode cX1_signsWith 13 = .ok (.aload_n 0, 1) := by decide +kernel
theorem dX1_signsWith_14 : decode cX1_signsWith 14 = .ok (.getfield 43, 3) := by decide +kernel
theorem dX1_signsWith_17 : decode cX1_signsWith 17 = .ok (.iload_n 3, 1) := by decide +kernel
theorem dX1_signsWith_18 : decode cX1_signsWith 18 = .ok (.iaload, 1) := by decide +kernel
theorem dX1_signsWith_19 : decode cX1_signsWith 19 = .ok (.iconst (-1), 1) := by decide +kernel
theorem dX1_signsWith_20 : decode cX1_signsWith 20 = .ok (.ixor, 1) := by decide +kernel
theorem dX1_signsWith_21 : decode cX1_signsWith 21 = .ok (.iand, 1) := by decide +kernel
theorem dX1_signsWith_22 : decode cX1_signsWith 22 = .ok (.ifCond .ne 9, 3) := by decide +kernel
theorem dX1_signsWith_25 : decode cX1_signsWith 25 = .ok (.iload_n 2, 1) := by decide +kernel
theorem dX1_signsWith_26 : decode cX1_signsWith 26 = .ok (.iconst 1, 1) := by decide +kernel
theorem dX1_signsWith_27 : decode cX1_signsWith 27 = .ok (.iload_n 3, 1) := by decide +kernel
theorem dX1_signsWith_28 : decode cX1_signsWith 28 = .ok (.ishl, 1) := by decide +kernel
theorem dX1_signsWith_29 : decode cX1_signsWith 29 = .ok (.ior, 1) := by decide +kernel
theorem dX1_signsWith_30 : decode cX1_signsWith 30 = .ok (.istore_n 2, 1) := by decide +kernel
theorem dX1_signsWith_31 : decode cX1_signsWith 31 = .ok (.iinc 3 1, 3) := by decide +kernel
theorem dX1_signsWith_34 : decode cX1_signsWith 34 = .ok (.goto (-30), 3) := by decide +kernel
theorem dX1_signsWith_37 : decode cX1_signsWith 37 = .ok (.iload_n 2, 1) := by decide +kernel
theorem dX1_signsWith_38 : decode cX1_signsWith 38 = .ok (.ireturn, 1) := by decide +kernel
theorem dX1_nearestOf_0 : decode cX1_nearestOf 0 = .ok (.ldc 89, 2) := by decide +kernel
theorem dX1_nearestOf_2 : decode cX1_nearestOf 2 = .ok (.istore_n 3, 1) := by decide +kernel
theorem dX1_nearestOf_3 : decode cX1_nearestOf 3 = .ok (.iconst (-1), 1) := by decide +kernel
theorem dX1_nearestOf_4 : decode cX1_nearestOf 4 = .ok (.istore 4, 2) := by decide +kernel
theorem dX1_nearestOf_6 : decode cX1_nearestOf 6 = .ok (.iconst 0, 1) := by decide +kernel
theorem dX1_nearestOf_7 : decode cX1_nearestOf 7 = .ok (.istore 5, 2) := by decide +kernel
theorem dX1_nearestOf_9 : decode cX1_nearestOf 9 = .ok (.iload 5, 2) := by decide +kernel
theorem dX1_nearestOf_11 : decode cX1_nearestOf 11 = .ok (.aload_n 0, 1) := by decide +kernel
theorem dX1_nearestOf_12 : decode cX1_nearestOf 12 = .ok (.getfield 9, 3) := by decide +kernel
theorem dX1_nearestOf_15 : decode cX1_nearestOf 15 = .ok (.if_icmp .ge 45, 3) := by decide +kernel
theorem dX1_nearestOf_18 : decode cX1_nearestOf 18 = .ok (.iload_n 2, 1) := by decide +kernel
theorem dX1_nearestOf_19 : decode cX1_nearestOf 19 = .ok (.aload_n 0, 1) := by decide +kernel
theorem dX1_nearestOf_20 : decode cX1_nearestOf 20 = .ok (.getfield 19, 3) := by decide +kernel
theorem dX1_nearestOf_23 : decode cX1_nearestOf 23 = .ok (.iload 5, 2) := by decide +kernel
theorem dX1_nearestOf_25 : decode cX1_nearestOf 25 = .ok (.iaload, 1) := by decide +kernel
theorem dX1_nearestOf_26 : decode cX1_nearestOf 26 = .ok (.invokestatic 90, 3) := by decide +kernel
theorem dX1_nearestOf_29 : decode cX1_nearestOf 29 = .ok (.istore 6, 2) := by decide +kernel
theorem dX1_nearestOf_31 : decode cX1_nearestOf 31 = .ok (.iload_n 1, 1) := by decide +kernel
theorem dX1_nearestOf_32 : decode cX1_nearestOf 32 = .ok (.iload 5, 2) := by decide +kernel
theorem dX1_nearestOf_34 : decode cX1_nearestOf 34 = .ok (.ishr, 1) := by decide +kernel
theorem dX1_nearestOf_35 : decode cX1_nearestOf 35 = .ok (.iconst 1, 1) := by decide +kernel
theorem dX1_nearestOf_36 : decode cX1_nearestOf 36 = .ok (.iand, 1) := by decide +kernel
theorem dX1_nearestOf_37 : decode cX1_nearestOf 37 = .ok (.iconst 1, 1) := by decide +kernel
theorem dX1_nearestOf_38 : decode cX1_nearestOf 38 = .ok (.if_icmp .ne 16, 3) := by decide +kernel
theorem dX1_nearestOf_41 : decode cX1_nearestOf 41 = .ok (.iload 6, 2) := by decide +kernel
theorem dX1_nearestOf_43 : decode cX1_nearestOf 43 = .ok (.iload_n 3, 1) := by decide +kernel
theorem dX1_nearestOf_44 : decode cX1_nearestOf 44 = .ok (.if_icmp .ge 10, 3) := by decide +kernel
theorem dX1_nearestOf_47 : decode cX1_nearestOf 47 = .ok (.iload 6, 2) := by decide +kernel
theorem dX1_nearestOf_49 : decode cX1_nearestOf 49 = .ok (.istore_n 3, 1) := by decide +kernel
theorem dX1_nearestOf_50 : decode cX1_nearestOf 50 = .ok (.iload 5, 2) := by decide +kernel
theorem dX1_nearestOf_52 : decode cX1_nearestOf 52 = .ok (.istore 4, 2) := by decide +kernel
theorem dX1_nearestOf_54 : decode cX1_nearestOf 54 = .ok (.iinc 5 1, 3) := by decide +kernel
theorem dX1_nearestOf_57 : decode cX1_nearestOf 57 = .ok (.goto (-48), 3) := by decide +kernel
theorem dX1_nearestOf_60 : decode cX1_nearestOf 60 = .ok (.iload 4, 2) := by decide +kernel
theorem dX1_nearestOf_62 : decode cX1_nearestOf 62 = .ok (.ireturn, 1) := by decide +kernel
theorem dX1_spotsHeld_0 : decode cX1_spotsHeld 0 = .ok (.iconst 0, 1) := by decide +kernel
theorem dX1_spotsHeld_1 : decode cX1_spotsHeld 1 = .ok (.istore_n 1, 1) := by decide +kernel
theorem dX1_spotsHeld_2 : decode cX1_spotsHeld 2 = .ok (.iconst 0, 1) := by decide +kernel
theorem dX1_spotsHeld_3 : decode cX1_spotsHeld 3 = .ok (.istore_n 2, 1) := by decide +kernel
theorem dX1_spotsHeld_4 : decode cX1_spotsHeld 4 = .ok (.iload_n 2, 1) := by decide +kernel
theorem dX1_spotsHeld_5 : decode cX1_spotsHeld 5 = .ok (.bipush 10, 2) := by decide +kernel
theorem dX1_spotsHeld_7 : decode cX1_spotsHeld 7 = .ok (.if_icmp .ge 21, 3) := by decide +kernel
theorem dX1_spotsHeld_10 : decode cX1_spotsHeld 10 = .ok (.aload_n 0, 1) := by decide +kernel
theorem dX1_spotsHeld_11 : decode cX1_spotsHeld 11 = .ok (.getfield 46, 3) := by decide +kernel
theorem dX1_spotsHeld_14 : decode cX1_spotsHeld 14 = .ok (.iload_n 2, 1) := by decide +kernel
theorem dX1_spotsHeld_15 : decode cX1_spotsHeld 15 = .ok (.iaload, 1) := by decide +kernel
theorem dX1_spotsHeld_16 : decode cX1_spotsHeld 16 = .ok (.ifCond .lt 6, 3) := by decide +kernel
theorem dX1_spotsHeld_19 : decode cX1_spotsHeld 19 = .ok (.iinc 1 1, 3) := by decide +kernel
theorem dX1_spotsHeld_22 : decode cX1_spotsHeld 22 = .ok (.iinc 2 1, 3) := by decide +kernel
theorem dX1_spotsHeld_25 : decode cX1_spotsHeld 25 = .ok (.goto (-21), 3) := by decide +kernel
theorem dX1_spotsHeld_28 : decode cX1_spotsHeld 28 = .ok (.iload_n 1, 1) := by decide +kernel
theorem dX1_spotsHeld_29 : decode cX1_spotsHeld 29 = .ok (.ireturn, 1) := by decide +kernel
theorem dX1_draw_0 : decode cX1_draw 0 = .ok (.aload_n 0, 1) := by decide +kernel
theorem dX1_draw_1 : decode cX1_draw 1 = .ok (.aload_n 0, 1) := by decide +kernel
theorem dX1_draw_2 : decode cX1_draw 2 = .ok (.getfield 49, 3) := by decide +kernel
theorem dX1_draw_5 : decode cX1_draw 5 = .ok (.ldc 93, 2) := by decide +kernel
theorem dX1_draw_7 : decode cX1_draw 7 = .ok (.imul, 1) := by decide +kernel
theorem dX1_draw_8 : decode cX1_draw 8 = .ok (.sipush 12345, 3) := by decide +kernel
theorem dX1_draw_11 : decode cX1_draw 11 = .ok (.iadd, 1) := by decide +kernel
theorem dX1_draw_12 : decode cX1_draw 12 = .ok (.putfield 49, 3) := by decide +kernel
theorem dX1_draw_15 : decode cX1_draw 15 = .ok (.aload_n 0, 1) := by decide +kernel
theorem dX1_draw_16 : decode cX1_draw 16 = .ok (.getfield 49, 3) := by decide +kernel
theorem dX1_draw_19 : decode cX1_draw 19 = .ok (.bipush 8, 2) := by decide +kernel
theorem dX1_draw_21 : decode cX1_draw 21 = .ok (.iushr, 1) := by decide +kernel
theorem dX1_draw_22 : decode cX1_draw 22 = .ok (.ireturn, 1) := by decide +kernel
theorem dX2_init_0 : decode cX2_init 0 = .ok (.aload_n 0, 1) := by decide +kernel
theorem dX2_init_1 : decode cX2_init 1 = .ok (.invokespecial 3, 3) := by decide +kernel
theorem dX2_init_4 : decode cX2_init 4 = .ok (.aload_n 0, 1) := by decide +kernel
theorem dX2_init_5 : decode cX2_init 5 = .ok (.bipush 120, 2) := by decide +kernel
theorem dX2_init_7 : decode cX2_init 7 = .ok (.newarray .byte, 2) := by decide +kernel
theorem dX2_init_9 : decode cX2_init 9 = .ok (.putfield 9, 3) := by decide +kernel
theorem dX2_init_12 : decode cX2_init 12 = .ok (.aload_n 0, 1) := by decide +kernel
theorem dX2_init_13 : decode cX2_init 13 = .ok (.iconst 0, 1) := by decide +kernel
theorem dX2_init_14 : decode cX2_init 14 = .ok (.putfield 15, 3) := by decide +kernel
theorem dX2_init_17 : decode cX2_init 17 = .ok (.aload_n 0, 1) := by decide +kernel
theorem dX2_init_18 : decode cX2_init 18 = .ok (.iconst 0, 1) := by decide +kernel
theorem dX2_init_19 : decode cX2_init 19 = .ok (.putfield 19, 3) := by decide +kernel
theorem dX2_init_22 : decode cX2_init 22 = .ok (.aload_n 0, 1) := by decide +kernel
theorem dX2_init_23 : decode cX2_init 23 = .ok (.iconst 0, 1) := by decide +kernel
theorem dX2_init_24 : decode cX2_init 24 = .ok (.putfield 22, 3) := by decide +kernel
theorem dX2_init_27 : decode cX2_init 27 = .ok (.aload_n 0, 1) := by decide +kernel
theorem dX2_init_28 : decode cX2_init 28 = .ok (.iconst 0, 1) := by decide +kernel
theorem dX2_init_29 : decode cX2_init 29 = .ok (.putfield 25, 3) := by decide +kernel
theorem dX2_init_32 : decode cX2_init 32 = .ok (.aload_n 0, 1) := by decide +kernel
theorem dX2_init_33 : decode cX2_init 33 = .ok (.iconst 0, 1) := by decide +kernel
theorem dX2_init_34 : decode cX2_init 34 = .ok (.putfield 28, 3) := by decide +kernel
theorem dX2_init_37 : decode cX2_init 37 = .ok (.return_, 1) := by decide +kernel
theorem dX2_append_0 : decode cX2_append 0 = .ok (.iload_n 2, 1) := by decide +kernel
theorem dX2_append_1 : decode cX2_append 1 = .ok (.iconst 1, 1) := by decide +kernel
theorem dX2_append_2 : decode cX2_append 2 = .ok (.isub, 1) := by decide +kernel
theorem dX2_append_3 : decode cX2_append 3 = .ok (.istore_n 3, 1) := by decide +kernel
theorem dX2_append_4 : decode cX2_append 4 = .ok (.iload_n 3, 1) := by decide +kernel
theorem dX2_append_5 : decode cX2_append 5 = .ok (.ifCond .lt 35, 3) := by decide +kernel
theorem dX2_append_8 : decode cX2_append 8 = .ok (.aload_n 0, 1) := by decide +kernel
theorem dX2_append_9 : decode cX2_append 9 = .ok (.getfield 9, 3) := by decide +kernel
theorem dX2_append_12 : decode cX2_append 12 = .ok (.aload_n 0, 1) := by decide +kernel
theorem dX2_append_13 : decode cX2_append 13 = .ok (.getfield 15, 3) := by decide +kernel
theorem dX2_append_16 : decode cX2_append 16 = .ok (.iload_n 1, 1) := by decide +kernel
theorem dX2_append_17 : decode cX2_append 17 = .ok (.bipush 8, 2) := by decide +kernel
theorem dX2_append_19 : decode cX2_append 19 = .ok (.iload_n 3, 1) := by decide +kernel
theorem dX2_append_20 : decode cX2_append 20 = .ok (.imul, 1) := by decide +kernel
theorem dX2_append_21 : decode cX2_append 21 = .ok (.ishr, 1) := by decide +kernel
theorem dX2_append_22 : decode cX2_append 22 = .ok (.i2b, 1) := by decide +kernel
theorem dX2_append_23 : decode cX2_append 23 = .ok (.bastore, 1) := by decide +kernel
theorem dX2_append_24 : decode cX2_append 24 = .ok (.aload_n 0, 1) := by decide +kernel
theorem dX2_append_25 : decode cX2_append 25 = .ok (.dup, 1) := by decide +kernel
theorem dX2_append_26 : decode cX2_append 26 = .ok (.getfield 15, 3) := by decide +kernel
theorem dX2_append_29 : decode cX2_append 29 = .ok (.iconst 1, 1) := by decide +kernel
theorem dX2_append_30 : decode cX2_append 30 = .ok (.iadd, 1) := by decide +kernel
theorem dX2_append_31 : decode cX2_append 31 = .ok (.putfield 15, 3) := by decide +kernel
theorem dX2_append_34 : decode cX2_append 34 = .ok (.iinc 3 (-1), 3) := by decide +kernel
theorem dX2_append_37 : decode cX2_append 37 = .ok (.goto (-33), 3) := by decide +kernel
theorem dX2_append_40 : decode cX2_append 40 = .ok (.return_, 1) := by decide +kernel
theorem dX2_rewind_0 : decode cX2_rewind 0 = .ok (.aload_n 0, 1) := by decide +kernel
theorem dX2_rewind_1 : decode cX2_rewind 1 = .ok (.iconst 0, 1) := by decide +kernel
theorem dX2_rewind_2 : decode cX2_rewind 2 = .ok (.putfield 28, 3) := by decide +kernel
theorem dX2_rewind_5 : decode cX2_rewind 5 = .ok (.aload_n 0, 1) := by decide +kernel
theorem dX2_rewind_6 : decode cX2_rewind 6 = .ok (.invokevirtual 31, 3) := by decide +kernel
theorem dX2_rewind_9 : decode cX2_rewind 9 = .ok (.return_, 1) := by decide +kernel
theorem dX2_advance_0 : decode cX2_advance 0 = .ok (.aload_n 0, 1) := by decide +kernel
theorem dX2_advance_1 : decode cX2_advance 1 = .ok (.getfield 28, 3) := by decide +kernel
theorem dX2_advance_4 : decode cX2_advance 4 = .ok (.aload_n 0, 1) := by decide +kernel
theorem dX2_advance_5 : decode cX2_advance 5 = .ok (.getfield 15, 3) := by decide +kernel
theorem dX2_advance_8 : decode cX2_advance 8 = .ok (.if_icmp .ge 30, 3) := by decide +kernel
theorem dX2_advance_11 : decode cX2_advance 11 = .ok (.aload_n 0, 1) := by decide +kernel
theorem dX2_advance_12 : decode cX2_advance 12 = .ok (.getfield 9, 3) := by decide +kernel
theorem dX2_advance_15 : decode cX2_advance 15 = .ok (.aload_n 0, 1) := by decide +kernel
theorem dX2_advance_16 : decode cX2_advance 16 = .ok (.getfield 28, 3) := by decide +kernel
theorem dX2_advance_19 : decode cX2_advance 19 = .ok (.baload, 1) := by decide +kernel
theorem dX2_advance_20 : decode cX2_advance 20 = .ok (.bipush 32, 2) := by decide +kernel
theorem dX2_advance_22 : decode cX2_advance 22 = .ok (.if_icmp .ne 16, 3) := by decide +kernel
theorem dX2_advance_25 : decode cX2_advance 25 = .ok (.aload_n 0, 1) := by decide +kernel
theorem dX2_advance_26 : decode cX2_advance 26 = .ok (.dup, 1) := by decide +kernel
theorem dX2_advance_27 : decode cX2_advance 27 = .ok (.getfield 28, 3) := by decide +kernel
theorem dX2_advance_30 : decode cX2_advance 30 = .ok (.iconst 1, 1) := by decide +kernel
theorem dX2_advance_31 : decode cX2_advance 31 = .ok (.iadd, 1) := by decide +kernel
theorem dX2_advance_32 : decode cX2_advance 32 = .ok (.putfield 28, 3) := by decide +kernel
theorem dX2_advance_35 : decode cX2_advance 35 = .ok (.goto (-35), 3) := by decide +kernel
theorem dX2_advance_38 : decode cX2_advance 38 = .ok (.aload_n 0, 1) := by decide +kernel
theorem dX2_advance_39 : decode cX2_advance 39 = .ok (.aload_n 0, 1) := by decide +kernel
theorem dX2_advance_40 : decode cX2_advance 40 = .ok (.getfield 28, 3) := by decide +kernel
theorem dX2_advance_43 : decode cX2_advance 43 = .ok (.putfield 22, 3) := by decide +kernel
theorem dX2_advance_46 : decode cX2_advance 46 = .ok (.aload_n 0, 1) := by decide +kernel
theorem dX2_advance_47 : decode cX2_advance 47 = .ok (.getfield 22, 3) := by decide +kernel
theorem dX2_advance_50 : decode cX2_advance 50 = .ok (.aload_n 0, 1) := by decide +kernel
theorem dX2_advance_51 : decode cX2_advance 51 = .ok (.getfield 15, 3) := by decide +kernel
theorem dX2_advance_54 : decode cX2_advance 54 = .ok (.if_icmp .lt 11, 3) := by decide +kernel
theorem dX2_advance_57 : decode cX2_advance 57 = .ok (.aload_n 0, 1) := by decide +kernel
theorem dX2_advance_58 : decode cX2_advance 58 = .ok (.iconst 0, 1) := by decide +kernel
theorem dX2_advance_59 : decode cX2_advance 59 = .ok (.putfield 19, 3) := by decide +kernel
theorem dX2_advance_62 : decode cX2_advance 62 = .ok (.goto 249, 3) := by decide +kernel
theorem dX2_advance_65 : decode cX2_advance 65 = .ok (.aload_n 0, 1) := by decide +kernel
theorem dX2_advance_66 : decode cX2_advance 66 = .ok (.getfield 9, 3) := by decide +kernel
theorem dX2_advance_69 : decode cX2_advance 69 = .ok (.aload_n 0, 1) := by decide +kernel
theorem dX2_advance_70 : decode cX2_advance 70 = .ok (.getfield 22, 3) := by decide +kernel
theorem dX2_advance_73 : decode cX2_advance 73 = .ok (.baload, 1) := by decide +kernel
theorem dX2_advance_74 : decode cX2_advance 74 = .ok (.bipush 97, 2) := by decide +kernel
theorem dX2_advance_76 : decode cX2_advance 76 = .ok (.if_icmp .lt 74, 3) := by decide +kernel
theorem dX2_advance_79 : decode cX2_advance 79 = .ok (.aload_n 0, 1) := by decide +kernel
theorem dX2_advance_80 : decode cX2_advance 80 = .ok (.getfield 9, 3) := by decide +kernel
theorem dX2_advance_83 : decode cX2_advance 83 = .ok (.aload_n 0, 1) := by decide +kernel
theorem dX2_advance_84 : decode cX2_advance 84 = .ok (.getfield 22, 3) := by decide +kernel
theorem dX2_advance_87 : decode cX2_advance 87 = .ok (.baload, 1) := by decide +kernel
theorem dX2_advance_88 : decode cX2_advance 88 = .ok (.bipush 122, 2) := by decide +kernel
theorem dX2_advance_90 : decode cX2_advance 90 = .ok (.if_icmp .gt 60, 3) := by decide +kernel
theorem dX2_advance_93 : decode cX2_advance 93 = .ok (.aload_n 0, 1) := by decide +kernel
theorem dX2_advance_94 : decode cX2_advance 94 = .ok (.iconst 1, 1) := by decide +kernel
theorem dX2_advance_95 : decode cX2_advance 95 = .ok (.putfield 19, 3) := by decide +kernel
theorem dX2_advance_98 : decode cX2_advance 98 = .ok (.aload_n 0, 1) := by decide +kernel
theorem dX2_advance_99 : decode cX2_advance 99 = .ok (.getfield 28, 3) := by decide +kernel
theorem dX2_advance_102 : decode cX2_advance 102 = .ok (.aload_n 0, 1) := by decide +kernel
theorem dX2_advance_103 : decode cX2_advance 103 = .ok (.getfield 15, 3) := by decide +kernel
theorem dX2_advance_106 : decode cX2_advance 106 = .ok (.if_icmp .ge 205, 3) := by decide +kernel
theorem dX2_advance_109 : decode cX2_advance 109 = .ok (.aload_n 0, 1) := by decide +kernel
theorem dX2_advance_110 : decode cX2_advance 110 = .ok (.getfield 9, 3) := by decide +kernel
theorem dX2_advance_113 : decode cX2_advance 113 = .ok (.aload_n 0, 1) := by decide +kernel
theorem dX2_advance_114 : decode cX2_advance 114 = .ok (.getfield 28, 3) := by decide +kernel
theorem dX2_advance_117 : decode cX2_advance 117 = .ok (.baload, 1) := by decide +kernel
theorem dX2_advance_118 : decode cX2_advance 118 = .ok (.bipush 97, 2) := by decide +kernel
theorem dX2_advance_120 : decode cX2_advance 120 = .ok (.if_icmp .lt 191, 3) := by decide +kernel
theorem dX2_advance_123 : decode cX2_advance 123 = .ok (.aload_n 0, 1) := by decide +kernel
theorem dX2_advance_124 : decode cX2_advance 124 = .ok (.getfield 9, 3) := by decide +kernel
theorem dX2_advance_127 : decode cX2_advance 127 = .ok (.aload_n 0, 1) := by decide +kernel
theorem dX2_advance_128 : decode cX2_advance 128 = .ok (.getfield 28, 3) := by decide +kernel
theorem dX2_advance_131 : decode cX2_advance 131 = .ok (.baload, 1) := by decide +kernel
theorem dX2_advance_132 : decode cX2_advance 132 = .ok (.bipush 122, 2) := by decide +kernel
theorem dX2_advance_134 : decode cX2_advance 134 = .ok (.if_icmp .gt 177, 3) := by decide +kernel
theorem dX2_advance_137 : decode cX2_advance 137 = .ok (.aload_n 0, 1) := by decide +kernel
theorem dX2_advance_138 : decode cX2_advance 138 = .ok (.dup, 1) := by decide +kernel
theorem dX2_advance_139 : decode cX2_advance 139 = .ok (.getfield 28, 3) := by decide +kernel
theorem dX2_advance_142 : decode cX2_advance 142 = .ok (.iconst 1, 1) := by decide +kernel
theorem dX2_advance_143 : decode cX2_advance 143 = .ok (.iadd, 1) := by decide +kernel
theorem dX2_advance_144 : decode cX2_advance 144 = .ok (.putfield 28, 3) := by decide +kernel
theorem dX2_advance_147 : decode cX2_advance 147 = .ok (.goto (-49), 3) := by decide +kernel
theorem dX2_advance_150 : decode cX2_advance 150 = .ok (.aload_n 0, 1) := by decide +kernel
theorem dX2_advance_151 : decode cX2_advance 151 = .ok (.getfield 9, 3) := by decide +kernel
theorem dX2_advance_154 : decode cX2_advance 154 = .ok (.aload_n 0, 1) := by decide +kernel
theorem dX2_advance_155 : decode cX2_advance 155 = .ok (.getfield 22, 3) := by decide +kernel
theorem dX2_advance_158 : decode cX2_advance 158 = .ok (.baload, 1) := by decide +kernel
theorem dX2_advance_159 : decode cX2_advance 159 = .ok (.bipush 48, 2) := by decide +kernel
theorem dX2_advance_161 : decode cX2_advance 161 = .ok (.if_icmp .lt 117, 3) := by decide +kernel
theorem dX2_advance_164 : decode cX2_advance 164 = .ok (.aload_n 0, 1) := by decide +kernel
theorem dX2_advance_165 : decode cX2_advance 165 = .ok (.getfield 9, 3) := by decide +kernel
theorem dX2_advance_168 : decode cX2_advance 168 = .ok (.aload_n 0, 1) := by decide +kernel
theorem dX2_advance_169 : decode cX2_advance 169 = .ok (.getfield 22, 3) := by decide +kernel
theorem dX2_advance_172 : decode cX2_advance 172 = .ok (.baload, 1) := by decide +kernel
theorem dX2_advance_173 : decode cX2_advance 173 = .ok (.bipush 57, 2) := by decide +kernel
theorem dX2_advance_175 : decode cX2_advance 175 = .ok (.if_icmp .gt 103, 3) := by decide +kernel
theorem dX2_advance_178 : decode cX2_advance 178 = .ok (.aload_n 0, 1) := by decide +kernel
theorem dX2_advance_179 : decode cX2_advance 179 = .ok (.iconst 2, 1) := by decide +kernel
theorem dX2_advance_180 : decode cX2_advance 180 = .ok (.putfield 19, 3) := by decide +kernel
theorem dX2_advance_183 : decode cX2_advance 183 = .ok (.aload_n 0, 1) := by decide +kernel
theorem dX2_advance_184 : decode cX2_advance 184 = .ok (.iconst 0, 1) := by decide +kernel
theorem dX2_advance_185 : decode cX2_advance 185 = .ok (.putfield 25, 3) := by decide +kernel
theorem dX2_advance_188 : decode cX2_advance 188 = .ok (.aload_n 0, 1) := by decide +kernel
theorem dX2_advance_189 : decode cX2_advance 189 = .ok (.getfield 28, 3) := by decide +kernel
theorem dX2_advance_192 : decode cX2_advance 192 = .ok (.aload_n 0, 1) := by decide +kernel
theorem dX2_advance_193 : decode cX2_advance 193 = .ok (.getfield 15, 3) := by decide +kernel
theorem dX2_advance_196 : decode cX2_advance 196 = .ok (.if_icmp .ge 115, 3) := by decide +kernel
theorem dX2_advance_199 : decode cX2_advance 199 = .ok (.aload_n 0, 1) := by decide +kernel
theorem dX2_advance_200 : decode cX2_advance 200 = .ok (.getfield 9, 3) := by decide +kernel
theorem dX2_advance_203 : decode cX2_advance 203 = .ok (.aload_n 0, 1) := by decide +kernel
theorem dX2_advance_204 : decode cX2_advance 204 = .ok (.getfield 28, 3) := by decide +kernel
theorem dX2_advance_207 : decode cX2_advance 207 = .ok (.baload, 1) := by decide +kernel
theorem dX2_advance_208 : decode cX2_advance 208 = .ok (.bipush 48, 2) := by decide +kernel
theorem dX2_advance_210 : decode cX2_advance 210 = .ok (.if_icmp .lt 101, 3) := by decide +kernel
theorem dX2_advance_213 : decode cX2_advance 213 = .ok (.aload_n 0, 1) := by decide +kernel
theorem dX2_advance_214 : decode cX2_advance 214 = .ok (.getfield 9, 3) := by decide +kernel
theorem dX2_advance_217 : decode cX2_advance 217 = .ok (.aload_n 0, 1) := by decide +kernel
theorem dX2_advance_218 : decode cX2_advance 218 = .ok (.getfield 28, 3) := by decide +kernel
theorem dX2_advance_221 : decode cX2_advance 221 = .ok (.baload, 1) := by decide +kernel
theorem dX2_advance_222 : decode cX2_advance 222 = .ok (.bipush 57, 2) := by decide +kernel
theorem dX2_advance_224 : decode cX2_advance 224 = .ok (.if_icmp .gt 87, 3) := by decide +kernel
theorem dX2_advance_227 : decode cX2_advance 227 = .ok (.aload_n 0, 1) := by decide +kernel
theorem dX2_advance_228 : decode cX2_advance 228 = .ok (.aload_n 0, 1) := by decide +kernel
theorem dX2_advance_229 : decode cX2_advance 229 = .ok (.getfield 25, 3) := by decide +kernel
theorem dX2_advance_232 : decode cX2_advance 232 = .ok (.ldc 34, 2) := by decide +kernel
theorem dX2_advance_234 : decode cX2_advance 234 = .ok (.if_icmp .lt 8, 3) := by decide +kernel
theorem dX2_advance_237 : decode cX2_advance 237 = .ok (.ldc 34, 2) := by decide +kernel
theorem dX2_advance_239 : decode cX2_advance 239 = .ok (.goto 23, 3) := by decide +kernel
theorem dX2_advance_242 : decode cX2_advance 242 = .ok (.aload_n 0, 1) := by decide +kernel
theorem dX2_advance_243 : decode cX2_advance 243 = .ok (.getfield 25, 3) := by decide +kernel
theorem dX2_advance_246 : decode cX2_advance 246 = .ok (.bipush 10, 2) := by decide +kernel
theorem dX2_advance_248 : decode cX2_advance 248 = .ok (.imul, 1) := by decide +kernel
theorem dX2_advance_249 : decode cX2_advance 249 = .ok (.aload_n 0, 1) := by decide +kernel
theorem dX2_advance_250 : decode cX2_advance 250 = .ok (.getfield 9, 3) := by decide +kernel
theorem dX2_advance_253 : decode cX2_advance 253 = .ok (.aload_n 0, 1) := by decide +kernel
theorem dX2_advance_254 : decode cX2_advance 254 = .ok (.getfield 28, 3) := by decide +kernel
theorem dX2_advance_257 : decode cX2_advance 257 = .ok (.baload, 1) := by decide +kernel
theorem dX2_advance_258 : decode cX2_advance 258 = .ok (.iadd, 1) := by decide +kernel
theorem dX2_advance_259 : decode cX2_advance 259 = .ok (.bipush 48, 2) := by decide +kernel
theorem dX2_advance_261 : decode cX2_advance 261 = .ok (.isub, 1) := by decide +kernel
theorem dX2_advance_262 : decode cX2_advance 262 = .ok (.putfield 25, 3) := by decide +kernel
theorem dX2_advance_265 : decode cX2_advance 265 = .ok (.aload_n 0, 1) := by decide +kernel
theorem dX2_advance_266 : decode cX2_advance 266 = .ok (.dup, 1) := by decide +kernel
theorem dX2_advance_267 : decode cX2_advance 267 = .ok (.getfield 28, 3) := by decide +kernel
theorem dX2_advance_270 : decode cX2_advance 270 = .ok (.iconst 1, 1) := by decide +kernel
theorem dX2_advance_271 : decode cX2_advance 271 = .ok (.iadd, 1) := by decide +kernel
theorem dX2_advance_272 : decode cX2_advance 272 = .ok (.putfield 28, 3) := by decide +kernel
theorem dX2_advance_275 : decode cX2_advance 275 = .ok (.goto (-87), 3) := by decide +kernel
theorem dX2_advance_278 : decode cX2_advance 278 = .ok (.aload_n 0, 1) := by decide +kernel
theorem dX2_advance_279 : decode cX2_advance 279 = .ok (.aload_n 0, 1) := by decide +kernel
theorem dX2_advance_280 : decode cX2_advance 280 = .ok (.getfield 9, 3) := by decide +kernel
theorem dX2_advance_283 : decode cX2_advance 283 = .ok (.aload_n 0, 1) := by decide +kernel
theorem dX2_advance_284 : decode cX2_advance 284 = .ok (.getfield 22, 3) := by decide +kernel
theorem dX2_advance_287 : decode cX2_advance 287 = .ok (.baload, 1) := by decide +kernel
theorem dX2_advance_288 : decode cX2_advance 288 = .ok (.bipush 59, 2) := by decide +kernel
theorem dX2_advance_290 : decode cX2_advance 290 = .ok (.if_icmp .ne 7, 3) := by decide +kernel
theorem dX2_advance_293 : decode cX2_advance 293 = .ok (.iconst 3, 1) := by decide +kernel
theorem dX2_advance_294 : decode cX2_advance 294 = .ok (.goto 4, 3) := by decide +kernel
theorem dX2_advance_297 : decode cX2_advance 297 = .ok (.iconst 4, 1) := by decide +kernel
theorem dX2_advance_298 : decode cX2_advance 298 = .ok (.putfield 19, 3) := by decide +kernel
theorem dX2_advance_301 : decode cX2_advance 301 = .ok (.aload_n 0, 1) := by decide +kernel
theorem dX2_advance_302 : decode cX2_advance 302 = .ok (.dup, 1) := by decide +kernel
theorem dX2_advance_303 : decode cX2_advance 303 = .ok (.getfield 28, 3) := by decide +kernel
theorem dX2_advance_306 : decode cX2_advance 306 = .ok (.iconst 1, 1) := by decide +kernel
theorem dX2_advance_307 : decode cX2_advance 307 = .ok (.iadd, 1) := by decide +kernel
theorem dX2_advance_308 : decode cX2_advance 308 = .ok (.putfield 28, 3) := by decide +kernel
theorem dX2_advance_311 : decode cX2_advance 311 = .ok (.return_, 1) := by decide +kernel
theorem dX2_isWord_0 : decode cX2_isWord 0 = .ok (.aload_n 0, 1) := by decide +kernel
theorem dX2_isWord_1 : decode cX2_isWord 1 = .ok (.getfield 19, 3) := by decide +kernel
theorem dX2_isWord_4 : decode cX2_isWord 4 = .ok (.iconst 1, 1) := by decide +kernel
theorem dX2_isWord_5 : decode cX2_isWord 5 = .ok (.if_icmp .ne 19, 3) := by decide +kernel
theorem dX2_isWord_8 : decode cX2_isWord 8 = .ok (.aload_n 0, 1) := by decide +kernel
theorem dX2_isWord_9 : decode cX2_isWord 9 = .ok (.getfield 28, 3) := by decide +kernel
theorem dX2_isWord_12 : decode cX2_isWord 12 = .ok (.aload_n 0, 1) := by decide +kernel
theorem dX2_isWord_13 : decode cX2_isWord 13 = .ok (.getfield 22, 3) := by decide +kernel
theorem dX2_isWord_16 : decode cX2_isWord 16 = .ok (.isub, 1) := by decide +kernel
theorem dX2_isWord_17 : decode cX2_isWord 17 = .ok (.aload_n 1, 1) := by decide +kernel
theorem dX2_isWord_18 : decode cX2_isWord 18 = .ok (.invokevirtual 35, 3) := by decide +kernel
theorem dX2_isWord_21 : decode cX2_isWord 21 = .ok (.if_icmp .eq 5, 3) := by decide +kernel
theorem dX2_isWord_24 : decode cX2_isWord 24 = .ok (.iconst 0, 1) := by decide +kernel
theorem dX2_isWord_25 : decode cX2_isWord 25 = .ok (.ireturn, 1) := by decide +kernel
theorem dX2_isWord_26 : decode cX2_isWord 26 = .ok (.iconst 0, 1) := by decide +kernel
theorem dX2_isWord_27 : decode cX2_isWord 27 = .ok (.istore_n 2, 1) := by decide +kernel
theorem dX2_isWord_28 : decode cX2_isWord 28 = .ok (.iload_n 2, 1) := by decide +kernel
theorem dX2_isWord_29 : decode cX2_isWord 29 = .ok (.aload_n 1, 1) := by decide +kernel
theorem dX2_isWord_30 : decode cX2_isWord 30 = .ok (.invokevirtual 35, 3) := by decide +kernel
theorem dX2_isWord_33 : decode cX2_isWord 33 = .ok (.if_icmp .ge 30, 3) := by decide +kernel
theorem dX2_isWord_36 : decode cX2_isWord 36 = .ok (.aload_n 0, 1) := by decide +kernel
theorem dX2_isWord_37 : decode cX2_isWord 37 = .ok (.getfield 9, 3) := by decide +kernel
theorem dX2_isWord_40 : decode cX2_isWord 40 = .ok (.aload_n 0, 1) := by decide +kernel
theorem dX2_isWord_41 : decode cX2_isWord 41 = .ok (.getfield 22, 3) := by decide +kernel
theorem dX2_isWord_44 : decode cX2_isWord 44 = .ok (.iload_n 2, 1) := by decide +kernel
theorem dX2_isWord_45 : decode cX2_isWord 45 = .ok (.iadd, 1) := by decide +kernel
theorem dX2_isWord_46 : decode cX2_isWord 46 = .ok (.baload, 1) := by decide +kernel
theorem dX2_isWord_47 : decode cX2_isWord 47 = .ok (.aload_n 1, 1) := by decide +kernel
theorem dX2_isWord_48 : decode cX2_isWord 48 = .ok (.iload_n 2, 1) := by decide +kernel
theorem dX2_isWord_49 : decode cX2_isWord 49 = .ok (.invokevirtual 40, 3) := by decide +kernel
theorem dX2_isWord_52 : decode cX2_isWord 52 = .ok (.if_icmp .eq 5, 3) := by decide +kernel
theorem dX2_isWord_55 : decode cX2_isWord 55 = .ok (.iconst 0, 1) := by decide +kernel
theorem dX2_isWord_56 : decode cX2_isWord 56 = .ok (.ireturn, 1) := by decide +kernel
theorem dX2_isWord_57 : decode cX2_isWord 57 = .ok (.iinc 2 1, 3) := by decide +kernel
theorem dX2_isWord_60 : decode cX2_isWord 60 = .ok (.goto (-32), 3) := by decide +kernel
theorem dX2_isWord_63 : decode cX2_isWord 63 = .ok (.iconst 1, 1) := by decide +kernel
theorem dX2_isWord_64 : decode cX2_isWord 64 = .ok (.ireturn, 1) := by decide +kernel
theorem dX3_init_0 : decode cX3_init 0 = .ok (.aload_n 0, 1) := by decide +kernel
theorem dX3_init_1 : decode cX3_init 1 = .ok (.invokespecial 3, 3) := by decide +kernel
theorem dX3_init_4 : decode cX3_init 4 = .ok (.aload_n 0, 1) := by decide +kernel
theorem dX3_init_5 : decode cX3_init 5 = .ok (.new 9, 3) := by decide +kernel
theorem dX3_init_8 : decode cX3_init 8 = .ok (.dup, 1) := by decide +kernel
theorem dX3_init_9 : decode cX3_init 9 = .ok (.invokespecial 11, 3) := by decide +kernel
theorem dX3_init_12 : decode cX3_init 12 = .ok (.putfield 12, 3) := by decide +kernel
theorem dX3_init_15 : decode cX3_init 15 = .ok (.return_, 1) := by decide +kernel
theorem dX3_readInto_0 : decode cX3_readInto 0 = .ok (.aload_n 0, 1) := by decide +kernel
theorem dX3_readInto_1 : decode cX3_readInto 1 = .ok (.getfield 12, 3) := by decide +kernel
theorem dX3_readInto_4 : decode cX3_readInto 4 = .ok (.invokevirtual 18, 3) := by decide +kernel
theorem dX3_readInto_7 : decode cX3_readInto 7 = .ok (.iconst 1, 1) := by decide +kernel
theorem dX3_readInto_8 : decode cX3_readInto 8 = .ok (.istore_n 2, 1) := by decide +kernel
theorem dX3_readInto_9 : decode cX3_readInto 9 = .ok (.iload_n 2, 1) := by decide +kernel
theorem dX3_readInto_10 : decode cX3_readInto 10 = .ok (.bipush 120, 2) := by decide +kernel
theorem dX3_readInto_12 : decode cX3_readInto 12 = .ok (.if_icmp .gt 53, 3) := by decide +kernel
theorem dX3_readInto_15 : decode cX3_readInto 15 = .ok (.aload_n 0, 1) := by decide +kernel
theorem dX3_readInto_16 : decode cX3_readInto 16 = .ok (.aload_n 1, 1) := by decide +kernel
theorem dX3_readInto_17 : decode cX3_readInto 17 = .ok (.invokevirtual 21, 3) := by decide +kernel
theorem dX3_readInto_20 : decode cX3_readInto 20 = .ok (.ifCond .ne 6, 3) := by decide +kernel
theorem dX3_readInto_23 : decode cX3_readInto 23 = .ok (.goto 42, 3) := by decide +kernel
theorem dX3_readInto_26 : decode cX3_readInto 26 = .ok (.aload_n 0, 1) := by decide +kernel
theorem dX3_readInto_27 : decode cX3_readInto 27 = .ok (.getfield 12, 3) := by decide +kernel
theorem dX3_readInto_30 : decode cX3_readInto 30 = .ok (.getfield 25, 3) := by decide +kernel
theorem dX3_readInto_33 : decode cX3_readInto 33 = .ok (.ifCond .ne 5, 3) := by decide +kernel
theorem dX3_readInto_36 : decode cX3_readInto 36 = .ok (.iload_n 2, 1) := by decide +kernel
theorem dX3_readInto_37 : decode cX3_readInto 37 = .ok (.ireturn, 1) := by decide +kernel
theorem dX3_readInto_38 : decode cX3_readInto 38 = .ok (.aload_n 0, 1) := by decide +kernel
theorem dX3_readInto_39 : decode cX3_readInto 39 = .ok (.getfield 12, 3) := by decide +kernel
theorem dX3_readInto_42 : decode cX3_readInto 42 = .ok (.getfield 25, 3) := by decide +kernel
theorem dX3_readInto_45 : decode cX3_readInto 45 = .ok (.iconst 3, 1) := by decide +kernel
theorem dX3_readInto_46 : decode cX3_readInto 46 = .ok (.if_icmp .eq 6, 3) := by decide +kernel
theorem dX3_readInto_49 : decode cX3_readInto 49 = .ok (.goto 16, 3) := by decide +kernel
theorem dX3_readInto_52 : decode cX3_readInto 52 = .ok (.aload_n 0, 1) := by decide +kernel
theorem dX3_readInto_53 : decode cX3_readInto 53 = .ok (.getfield 12, 3) := by decide +kernel
theorem dX3_readInto_56 : decode cX3_readInto 56 = .ok (.invokevirtual 29, 3) := by decide +kernel
theorem dX3_readInto_59 : decode cX3_readInto 59 = .ok (.iinc 2 1, 3) := by decide +kernel
theorem dX3_readInto_62 : decode cX3_readInto 62 = .ok (.goto (-53), 3) := by decide +kernel
theorem dX3_readInto_65 : decode cX3_readInto 65 = .ok (.iconst (-1), 1) := by decide +kernel
theorem dX3_readInto_66 : decode cX3_readInto 66 = .ok (.aload_n 0, 1) := by decide +kernel
theorem dX3_readInto_67 : decode cX3_readInto 67 = .ok (.getfield 12, 3) := by decide +kernel
theorem dX3_readInto_70 : decode cX3_readInto 70 = .ok (.getfield 32, 3) := by decide +kernel
theorem dX3_readInto_73 : decode cX3_readInto 73 = .ok (.isub, 1) := by decide +kernel
theorem dX3_readInto_74 : decode cX3_readInto 74 = .ok (.ireturn, 1) := by decide +kernel
theorem dX3_readItem_0 : decode cX3_readItem 0 = .ok (.aload_n 0, 1) := by decide +kernel
theorem dX3_readItem_1 : decode cX3_readItem 1 = .ok (.getfield 12, 3) := by decide +kernel
theorem dX3_readItem_4 : decode cX3_readItem 4 = .ok (.ldc 35, 2) := by decide +kernel
theorem dX3_readItem_6 : decode cX3_readItem 6 = .ok (.invokevirtual 37, 3) := by decide +kernel
theorem dX3_readItem_9 : decode cX3_readItem 9 = .ok (.ifCond .eq 9, 3) := by decide +kernel
theorem dX3_readItem_12 : decode cX3_readItem 12 = .ok (.aload_n 0, 1) := by decide +kernel
theorem dX3_readItem_13 : decode cX3_readItem 13 = .ok (.aload_n 1, 1) := by decide +kernel
theorem dX3_readItem_14 : decode cX3_readItem 14 = .ok (.invokevirtual 41, 3) := by decide +kernel
theorem dX3_readItem_17 : decode cX3_readItem 17 = .ok (.ireturn, 1) := by decide +kernel
theorem dX3_readItem_18 : decode cX3_readItem 18 = .ok (.aload_n 0, 1) := by decide +kernel
theorem dX3_readItem_19 : decode cX3_readItem 19 = .ok (.getfield 12, 3) := by decide +kernel
theorem dX3_readItem_22 : decode cX3_readItem 22 = .ok (.ldc 44, 2) := by decide +kernel
theorem dX3_readItem_24 : decode cX3_readItem 24 = .ok (.invokevirtual 37, 3) := by decide +kernel
theorem dX3_readItem_27 : decode cX3_readItem 27 = .ok (.ifCond .eq 9, 3) := by decide +kernel
theorem dX3_readItem_30 : decode cX3_readItem 30 = .ok (.aload_n 0, 1) := by decide +kernel
theorem dX3_readItem_31 : decode cX3_readItem 31 = .ok (.aload_n 1, 1) := by decide +kernel
theorem dX3_readItem_32 : decode cX3_readItem 32 = .ok (.invokevirtual 46, 3) := by decide +kernel
theorem dX3_readItem_35 : decode cX3_readItem 35 = .ok (.ireturn, 1) := by decide +kernel
theorem dX3_readItem_36 : decode cX3_readItem 36 = .ok (.aload_n 0, 1) := by decide +kernel
theorem dX3_readItem_37 : decode cX3_readItem 37 = .ok (.invokevirtual 49, 3) := by decide +kernel
theorem dX3_readItem_40 : decode cX3_readItem 40 = .ok (.istore_n 2, 1) := by decide +kernel
theorem dX3_readItem_41 : decode cX3_readItem 41 = .ok (.iload_n 2, 1) := by decide +kernel
theorem dX3_readItem_42 : decode cX3_readItem 42 = .ok (.ifCond .lt 10, 3) := by decide +kernel
theorem dX3_readItem_45 : decode cX3_readItem 45 = .ok (.aload_n 0, 1) := by decide +kernel
theorem dX3_readItem_46 : decode cX3_readItem 46 = .ok (.aload_n 1, 1) := by decide +kernel
theorem dX3_readItem_47 : decode cX3_readItem 47 = .ok (.iload_n 2, 1) := by decide +kernel
theorem dX3_readItem_48 : decode cX3_readItem 48 = .ok (.invokevirtual 53, 3) := by decide +kernel
theorem dX3_readItem_51 : decode cX3_readItem 51 = .ok (.ireturn, 1) := by decide +kernel
theorem dX3_readItem_52 : decode cX3_readItem 52 = .ok (.aload_n 0, 1) := by decide +kernel
theorem dX3_readItem_53 : decode cX3_readItem 53 = .ok (.invokevirtual 57, 3) := by decide +kernel
theorem dX3_readItem_56 : decode cX3_readItem 56 = .ok (.istore_n 3, 1) := by decide +kernel
theorem dX3_readItem_57 : decode cX3_readItem 57 = .ok (.iload_n 3, 1) := by decide +kernel
theorem dX3_readItem_58 : decode cX3_readItem 58 = .ok (.ifCond .lt 16, 3) := by decide +kernel
theorem dX3_readItem_61 : decode cX3_readItem 61 = .ok (.aload_n 0, 1) := by decide +kernel
theorem dX3_readItem_62 : decode cX3_readItem 62 = .ok (.aload_n 1, 1) := by decide +kernel
theorem dX3_readItem_63 : decode cX3_readItem 63 = .ok (.iload_n 3, 1) := by decide +kernel
theorem dX3_readItem_64 : decode cX3_readItem 64 = .ok (.invokevirtual 60, 3) := by decide +kernel
theorem dX3_readItem_67 : decode cX3_readItem 67 = .ok (.ifCond .eq 7, 3) := by decide +kernel
theorem dX3_readItem_70 : decode cX3_readItem 70 = .ok (.iconst 1, 1) := by decide +kernel
theorem dX3_readItem_71 : decode cX3_readItem 71 = .ok (.goto 4, 3) := by decide +kernel
theorem dX3_readItem_74 : decode cX3_readItem 74 = .ok (.iconst 0, 1) := by decide +kernel
theorem dX3_readItem_75 : decode cX3_readItem 75 = .ok (.ireturn, 1) := by decide +kernel
theorem dX3_kindNamed_0 : decode cX3_kindNamed 0 = .ok (.aload_n 0, 1) := by decide +kernel
theorem dX3_kindNamed_1 : decode cX3_kindNamed 1 = .ok (.getfield 12, 3) := by decide +kernel
theorem dX3_kindNamed_4 : decode cX3_kindNamed 4 = .ok (.ldc 63, 2) := by decide +kernel
theorem dX3_kindNamed_6 : decode cX3_kindNamed 6 = .ok (.invokevirtual 37, 3) := by decide +kernel
theorem dX3_kindNamed_9 : decode cX3_kindNamed 9 = .ok (.ifCond .eq 5, 3) := by decide +kernel
theorem dX3_kindNamed_12 : decode cX3_kindNamed 12 = .ok (.iconst 0, 1) := by decide +kernel
theorem dX3_kindNamed_13 : decode cX3_kindNamed 13 = .ok (.ireturn, 1) := by decide +kernel
theorem dX3_kindNamed_14 : decode cX3_kindNamed 14 = .ok (.aload_n 0, 1) := by decide +kernel
theorem dX3_kindNamed_15 : decode cX3_kindNamed 15 = .ok (.getfield 12, 3) := by decide +kernel
theorem dX3_kindNamed_18 : decode cX3_kindNamed 18 = .ok (.ldc 65, 2) := by decide +kernel
theorem dX3_kindNamed_20 : decode cX3_kindNamed 20 = .ok (.invokevirtual 37, 3) := by decide +kernel
theorem dX3_kindNamed_23 : decode cX3_kindNamed 23 = .ok (.ifCond .eq 5, 3) := by decide +kernel
theorem dX3_kindNamed_26 : decode cX3_kindNamed 26 = .ok (.iconst 1, 1) := by decide +kernel
theorem dX3_kindNamed_27 : decode cX3_kindNamed 27 = .ok (.ireturn, 1) := by decide +kernel
theorem dX3_kindNamed_28 : decode cX3_kindNamed 28 = .ok (.aload_n 0, 1) := by decide +kernel
theorem dX3_kindNamed_29 : decode cX3_kindNamed 29 = .ok (.getfield 12, 3) := by decide +kernel
theorem dX3_kindNamed_32 : decode cX3_kindNamed 32 = .ok (.ldc 67, 2) := by decide +kernel
theorem dX3_kindNamed_34 : decode cX3_kindNamed 34 = .ok (.invokevirtual 37, 3) := by decide +kernel
theorem dX3_kindNamed_37 : decode cX3_kindNamed 37 = .ok (.ifCond .eq 5, 3) := by decide +kernel
theorem dX3_kindNamed_40 : decode cX3_kindNamed 40 = .ok (.iconst 2, 1) := by decide +kernel
theorem dX3_kindNamed_41 : decode cX3_kindNamed 41 = .ok (.ireturn, 1) := by decide +kernel
theorem dX3_kindNamed_42 : decode cX3_kindNamed 42 = .ok (.aload_n 0, 1) := by decide +kernel
theorem dX3_kindNamed_43 : decode cX3_kindNamed 43 = .ok (.getfield 12, 3) := by decide +kernel
theorem dX3_kindNamed_46 : decode cX3_kindNamed 46 = .ok (.ldc 69, 2) := by decide +kernel
theorem dX3_kindNamed_48 : decode cX3_kindNamed 48 = .ok (.invokevirtual 37, 3) := by decide +kernel
theorem dX3_kindNamed_51 : decode cX3_kindNamed 51 = .ok (.ifCond .eq 5, 3) := by decide +kernel
theorem dX3_kindNamed_54 : decode cX3_kindNamed 54 = .ok (.iconst 3, 1) := by decide +kernel
theorem dX3_kindNamed_55 : decode cX3_kindNamed 55 = .ok (.ireturn, 1) := by decide +kernel
theorem dX3_kindNamed_56 : decode cX3_kindNamed 56 = .ok (.aload_n 0, 1) := by decide +kernel
theorem dX3_kindNamed_57 : decode cX3_kindNamed 57 = .ok (.getfield 12, 3) := by decide +kernel
theorem dX3_kindNamed_60 : decode cX3_kindNamed 60 = .ok (.ldc 71, 2) := by decide +kernel
theorem dX3_kindNamed_62 : decode cX3_kindNamed 62 = .ok (.invokevirtual 37, 3) := by decide +kernel
theorem dX3_kindNamed_65 : decode cX3_kindNamed 65 = .ok (.ifCond .eq 5, 3) := by decide +kernel
theorem dX3_kindNamed_68 : decode cX3_kindNamed 68 = .ok (.iconst 4, 1) := by decide +kernel
theorem dX3_kindNamed_69 : decode cX3_kindNamed 69 = .ok (.ireturn, 1) := by decide +kernel
theorem dX3_kindNamed_70 : decode cX3_kindNamed 70 = .ok (.aload_n 0, 1) := by decide +kernel
theorem dX3_kindNamed_71 : decode cX3_kindNamed 71 = .ok (.getfield 12, 3) := by decide +kernel
theorem dX3_kindNamed_74 : decode cX3_kindNamed 74 = .ok (.ldc 73, 2) := by decide +kernel
theorem dX3_kindNamed_76 : decode cX3_kindNamed 76 = .ok (.invokevirtual 37, 3) := by decide +kernel
theorem dX3_kindNamed_79 : decode cX3_kindNamed 79 = .ok (.ifCond .eq 5, 3) := by decide +kernel
theorem dX3_kindNamed_82 : decode cX3_kindNamed 82 = .ok (.iconst 5, 1) := by decide +kernel
theorem dX3_kindNamed_83 : decode cX3_kindNamed 83 = .ok (.ireturn, 1) := by decide +kernel
theorem dX3_kindNamed_84 : decode cX3_kindNamed 84 = .ok (.aload_n 0, 1) := by decide +kernel
theorem dX3_kindNamed_85 : decode cX3_kindNamed 85 = .ok (.getfield 12, 3) := by decide +kernel
theorem dX3_kindNamed_88 : decode cX3_kindNamed 88 = .ok (.ldc 75, 2) := by decide +kernel
theorem dX3_kindNamed_90 : decode cX3_kindNamed 90 = .ok (.invokevirtual 37, 3) := by decide +kernel
theorem dX3_kindNamed_93 : decode cX3_kindNamed 93 = .ok (.ifCond .eq 8, 3) := by decide +kernel
theorem dX3_kindNamed_96 : decode cX3_kindNamed 96 = .ok (.bipush 6, 2) := by decide +kernel
theorem dX3_kindNamed_98 : decode cX3_kindNamed 98 = .ok (.goto 4, 3) := by decide +kernel
theorem dX3_kindNamed_101 : decode cX3_kindNamed 101 = .ok (.iconst (-1), 1) := by decide +kernel
theorem dX3_kindNamed_102 : decode cX3_kindNamed 102 = .ok (.ireturn, 1) := by decide +kernel
theorem dX3_settingNamed_0 : decode cX3_settingNamed 0 = .ok (.aload_n 0, 1) := by decide +kernel
theorem dX3_settingNamed_1 : decode cX3_settingNamed 1 = .ok (.getfield 12, 3) := by decide +kernel
theorem dX3_settingNamed_4 : decode cX3_settingNamed 4 = .ok (.ldc 77, 2) := by decide +kernel
theorem dX3_settingNamed_6 : decode cX3_settingNamed 6 = .ok (.invokevirtual 37, 3) := by decide +kernel
theorem dX3_settingNamed_9 : decode cX3_settingNamed 9 = .ok (.ifCond .eq 5, 3) := by decide +kernel
theorem dX3_settingNamed_12 : decode cX3_settingNamed 12 = .ok (.iconst 0, 1) := by decide +kernel
theorem dX3_settingNamed_13 : decode cX3_settingNamed 13 = .ok (.ireturn, 1) := by decide +kernel
theorem dX3_settingNamed_14 : decode cX3_settingNamed 14 = .ok (.aload_n 0, 1) := by decide +kernel
theorem dX3_settingNamed_15 : decode cX3_settingNamed 15 = .ok (.getfield 12, 3) := by decide +kernel
theorem dX3_settingNamed_18 : decode cX3_settingNamed 18 = .ok (.ldc 79, 2) := by decide +kernel
theorem dX3_settingNamed_20 : decode cX3_settingNamed 20 = .ok (.invokevirtual 37, 3) := by decide +kernel
theorem dX3_settingNamed_23 : decode cX3_settingNamed 23 = .ok (.ifCond .eq 5, 3) := by decide +kernel
theorem dX3_settingNamed_26 : decode cX3_settingNamed 26 = .ok (.iconst 1, 1) := by decide +kernel
theorem dX3_settingNamed_27 : decode cX3_settingNamed 27 = .ok (.ireturn, 1) := by decide +kernel
theorem dX3_settingNamed_28 : decode cX3_settingNamed 28 = .ok (.aload_n 0, 1) := by decide +kernel
theorem dX3_settingNamed_29 : decode cX3_settingNamed 29 = .ok (.getfield 12, 3) := by decide +kernel
theorem dX3_settingNamed_32 : decode cX3_settingNamed 32 = .ok (.ldc 81, 2) := by decide +kernel
theorem dX3_settingNamed_34 : decode cX3_settingNamed 34 = .ok (.invokevirtual 37, 3) := by decide +kernel
theorem dX3_settingNamed_37 : decode cX3_settingNamed 37 = .ok (.ifCond .eq 5, 3) := by decide +kernel
theorem dX3_settingNamed_40 : decode cX3_settingNamed 40 = .ok (.iconst 2, 1) := by decide +kernel
theorem dX3_settingNamed_41 : decode cX3_settingNamed 41 = .ok (.ireturn, 1) := by decide +kernel
theorem dX3_settingNamed_42 : decode cX3_settingNamed 42 = .ok (.aload_n 0, 1) := by decide +kernel
theorem dX3_settingNamed_43 : decode cX3_settingNamed 43 = .ok (.getfield 12, 3) := by decide +kernel
theorem dX3_settingNamed_46 : decode cX3_settingNamed 46 = .ok (.ldc 83, 2) := by decide +kernel
theorem dX3_settingNamed_48 : decode cX3_settingNamed 48 = .ok (.invokevirtual 37, 3) := by decide +kernel
theorem dX3_settingNamed_51 : decode cX3_settingNamed 51 = .ok (.ifCond .eq 7, 3) := by decide +kernel
theorem dX3_settingNamed_54 : decode cX3_settingNamed 54 = .ok (.iconst 3, 1) := by decide +kernel
theorem dX3_settingNamed_55 : decode cX3_settingNamed 55 = .ok (.goto 4, 3) := by decide +kernel
theorem dX3_settingNamed_58 : decode cX3_settingNamed 58 = .ok (.iconst (-1), 1) := by decide +kernel
theorem dX3_settingNamed_59 : decode cX3_settingNamed 59 = .ok (.ireturn, 1) := by decide +kernel
theorem dX3_readStar_0 : decode cX3_readStar 0 = .ok (.aload_n 1, 1) := by decide +kernel
theorem dX3_readStar_1 : decode cX3_readStar 1 = .ok (.getfield 85, 3) := by decide +kernel
theorem dX3_readStar_4 : decode cX3_readStar 4 = .ok (.bipush 10, 2) := by decide +kernel
theorem dX3_readStar_6 : decode cX3_readStar 6 = .ok (.if_icmp .lt 5, 3) := by decide +kernel
theorem dX3_readStar_9 : decode cX3_readStar 9 = .ok (.iconst 0, 1) := by decide +kernel
theorem dX3_readStar_10 : decode cX3_readStar 10 = .ok (.ireturn, 1) := by decide +kernel
theorem dX3_readStar_11 : decode cX3_readStar 11 = .ok (.aload_n 0, 1) := by decide +kernel
theorem dX3_readStar_12 : decode cX3_readStar 12 = .ok (.getfield 12, 3) := by decide +kernel
theorem dX3_readStar_15 : decode cX3_readStar 15 = .ok (.invokevirtual 29, 3) := by decide +kernel
theorem dX3_readStar_18 : decode cX3_readStar 18 = .ok (.aload_n 0, 1) := by decide +kernel
theorem dX3_readStar_19 : decode cX3_readStar 19 = .ok (.ldc 90, 2) := by decide +kernel
theorem dX3_readStar_21 : decode cX3_readStar 21 = .ok (.bipush 99, 2) := by decide +kernel
theorem dX3_readStar_23 : decode cX3_readStar 23 = .ok (.iconst 0, 1) := by decide +kernel
theorem dX3_readStar_24 : decode cX3_readStar 24 = .ok (.invokevirtual 92, 3) := by decide +kernel
theorem dX3_readStar_27 : decode cX3_readStar 27 = .ok (.istore_n 3, 1) := by decide +kernel
theorem dX3_readStar_28 : decode cX3_readStar 28 = .ok (.iload_n 3, 1) := by decide +kernel
theorem dX3_readStar_29 : decode cX3_readStar 29 = .ok (.iconst (-1), 1) := by decide +kernel
theorem dX3_readStar_30 : decode cX3_readStar 30 = .ok (.if_icmp .ne 5, 3) := by decide +kernel
theorem dX3_readStar_33 : decode cX3_readStar 33 = .ok (.iconst 0, 1) := by decide +kernel
theorem dX3_readStar_34 : decode cX3_readStar 34 = .ok (.ireturn, 1) := by decide +kernel
theorem dX3_readStar_35 : decode cX3_readStar 35 = .ok (.aload_n 0, 1) := by decide +kernel
theorem dX3_readStar_36 : decode cX3_readStar 36 = .ok (.ldc 96, 2) := by decide +kernel
theorem dX3_readStar_38 : decode cX3_readStar 38 = .ok (.bipush 99, 2) := by decide +kernel
theorem dX3_readStar_40 : decode cX3_readStar 40 = .ok (.bipush 50, 2) := by decide +kernel
theorem dX3_readStar_42 : decode cX3_readStar 42 = .ok (.invokevirtual 92, 3) := by decide +kernel
theorem dX3_readStar_45 : decode cX3_readStar 45 = .ok (.istore 4, 2) := by decide +kernel
theorem dX3_readStar_47 : decode cX3_readStar 47 = .ok (.iload 4, 2) := by decide +kernel
theorem dX3_readStar_49 : decode cX3_readStar 49 = .ok (.iconst (-1), 1) := by decide +kernel
theorem dX3_readStar_50 : decode cX3_readStar 50 = .ok (.if_icmp .ne 5, 3) := by decide +kernel
theorem dX3_readStar_53 : decode cX3_readStar 53 = .ok (.iconst 0, 1) := by decide +kernel
theorem dX3_readStar_54 : decode cX3_readStar 54 = .ok (.ireturn, 1) := by decide +kernel
theorem dX3_readStar_55 : decode cX3_readStar 55 = .ok (.aload_n 0, 1) := by decide +kernel
theorem dX3_readStar_56 : decode cX3_readStar 56 = .ok (.ldc 98, 2) := by decide +kernel
theorem dX3_readStar_58 : decode cX3_readStar 58 = .ok (.bipush 99, 2) := by decide +kernel
theorem dX3_readStar_60 : decode cX3_readStar 60 = .ok (.iconst 1, 1) := by decide +kernel
theorem dX3_readStar_61 : decode cX3_readStar 61 = .ok (.invokevirtual 92, 3) := by decide +kernel
theorem dX3_readStar_64 : decode cX3_readStar 64 = .ok (.istore 5, 2) := by decide +kernel
theorem dX3_readStar_66 : decode cX3_readStar 66 = .ok (.iload 5, 2) := by decide +kernel
theorem dX3_readStar_68 : decode cX3_readStar 68 = .ok (.iconst (-1), 1) := by decide +kernel
theorem dX3_readStar_69 : decode cX3_readStar 69 = .ok (.if_icmp .ne 5, 3) := by decide +kernel
theorem dX3_readStar_72 : decode cX3_readStar 72 = .ok (.iconst 0, 1) := by decide +kernel
theorem dX3_readStar_73 : decode cX3_readStar 73 = .ok (.ireturn, 1) := by decide +kernel
theorem dX3_readStar_74 : decode cX3_readStar 74 = .ok (.aload_n 1, 1) := by decide +kernel
theorem dX3_readStar_75 : decode cX3_readStar 75 = .ok (.iload_n 2, 1) := by decide +kernel
theorem dX3_readStar_76 : decode cX3_readStar 76 = .ok (.iload_n 3, 1) := by decide +kernel
theorem dX3_readStar_77 : decode cX3_readStar 77 = .ok (.iload 4, 2) := by decide +kernel
theorem dX3_readStar_79 : decode cX3_readStar 79 = .ok (.iload 5, 2) := by decide +kernel
theorem dX3_readStar_81 : decode cX3_readStar 81 = .ok (.invokevirtual 100, 3) := by decide +kernel
theorem dX3_readStar_84 : decode cX3_readStar 84 = .ok (.pop, 1) := by decide +kernel
theorem dX3_readStar_85 : decode cX3_readStar 85 = .ok (.iconst 1, 1) := by decide +kernel
theorem dX3_readStar_86 : decode cX3_readStar 86 = .ok (.ireturn, 1) := by decide +kernel
theorem dX3_readCrew_0 : decode cX3_readCrew 0 = .ok (.aload_n 0, 1) := by decide +kernel
theorem dX3_readCrew_1 : decode cX3_readCrew 1 = .ok (.getfield 12, 3) := by decide +kernel
theorem dX3_readCrew_4 : decode cX3_readCrew 4 = .ok (.invokevirtual 29, 3) := by decide +kernel
theorem dX3_readCrew_7 : decode cX3_readCrew 7 = .ok (.aload_n 0, 1) := by decide +kernel
theorem dX3_readCrew_8 : decode cX3_readCrew 8 = .ok (.iconst 0, 1) := by decide +kernel
theorem dX3_readCrew_9 : decode cX3_readCrew 9 = .ok (.iconst 3, 1) := by decide +kernel
theorem dX3_readCrew_10 : decode cX3_readCrew 10 = .ok (.invokevirtual 104, 3) := by decide +kernel
theorem dX3_readCrew_13 : decode cX3_readCrew 13 = .ok (.istore_n 2, 1) := by decide +kernel
theorem dX3_readCrew_14 : decode cX3_readCrew 14 = .ok (.iload_n 2, 1) := by decide +kernel
theorem dX3_readCrew_15 : decode cX3_readCrew 15 = .ok (.iconst (-1), 1) := by decide +kernel
theorem dX3_readCrew_16 : decode cX3_readCrew 16 = .ok (.if_icmp .ne 5, 3) := by decide +kernel
theorem dX3_readCrew_19 : decode cX3_readCrew 19 = .ok (.iconst 0, 1) := by decide +kernel
theorem dX3_readCrew_20 : decode cX3_readCrew 20 = .ok (.ireturn, 1) := by decide +kernel
theorem dX3_readCrew_21 : decode cX3_readCrew 21 = .ok (.aload_n 0, 1) := by decide +kernel
theorem dX3_readCrew_22 : decode cX3_readCrew 22 = .ok (.ldc 90, 2) := by decide +kernel
theorem dX3_readCrew_24 : decode cX3_readCrew 24 = .ok (.bipush 99, 2) := by decide +kernel
theorem dX3_readCrew_26 : decode cX3_readCrew 26 = .ok (.aload_n 1, 1) := by decide +kernel
theorem dX3_readCrew_27 : decode cX3_readCrew 27 = .ok (.getfield 108, 3) := by decide +kernel
theorem dX3_readCrew_30 : decode cX3_readCrew 30 = .ok (.iload_n 2, 1) := by decide +kernel
theorem dX3_readCrew_31 : decode cX3_readCrew 31 = .ok (.iaload, 1) := by decide +kernel
theorem dX3_readCrew_32 : decode cX3_readCrew 32 = .ok (.invokevirtual 92, 3) := by decide +kernel
theorem dX3_readCrew_35 : decode cX3_readCrew 35 = .ok (.istore_n 3, 1) := by decide +kernel
theorem dX3_readCrew_36 : decode cX3_readCrew 36 = .ok (.iload_n 3, 1) := by decide +kernel
theorem dX3_readCrew_37 : decode cX3_readCrew 37 = .ok (.iconst (-1), 1) := by decide +kernel
theorem dX3_readCrew_38 : decode cX3_readCrew 38 = .ok (.if_icmp .ne 5, 3) := by decide +kernel
theorem dX3_readCrew_41 : decode cX3_readCrew 41 = .ok (.iconst 0, 1) := by decide +kernel
theorem dX3_readCrew_42 : decode cX3_readCrew 42 = .ok (.ireturn, 1) := by decide +kernel
theorem dX3_readCrew_43 : decode cX3_readCrew 43 = .ok (.aload_n 0, 1) := by decide +kernel
theorem dX3_readCrew_44 : decode cX3_readCrew 44 = .ok (.ldc 112, 2) := by decide +kernel
theorem dX3_readCrew_46 : decode cX3_readCrew 46 = .ok (.sipush 999, 3) := by decide +kernel
theorem dX3_readCrew_49 : decode cX3_readCrew 49 = .ok (.aload_n 1, 1) := by decide +kernel
theorem dX3_readCrew_50 : decode cX3_readCrew 50 = .ok (.getfield 114, 3) := by decide +kernel
theorem dX3_readCrew_53 : decode cX3_readCrew 53 = .ok (.iload_n 2, 1) := by decide +kernel
theorem dX3_readCrew_54 : decode cX3_readCrew 54 = .ok (.iaload, 1) := by decide +kernel
theorem dX3_readCrew_55 : decode cX3_readCrew 55 = .ok (.invokevirtual 92, 3) := by decide +kernel
theorem dX3_readCrew_58 : decode cX3_readCrew 58 = .ok (.istore 4, 2) := by decide +kernel
theorem dX3_readCrew_60 : decode cX3_readCrew 60 = .ok (.iload 4, 2) := by decide +kernel
theorem dX3_readCrew_62 : decode cX3_readCrew 62 = .ok (.iconst (-1), 1) := by decide +kernel
theorem dX3_readCrew_63 : decode cX3_readCrew 63 = .ok (.if_icmp .ne 5, 3) := by decide +kernel
theorem dX3_readCrew_66 : decode cX3_readCrew 66 = .ok (.iconst 0, 1) := by decide +kernel
theorem dX3_readCrew_67 : decode cX3_readCrew 67 = .ok (.ireturn, 1) := by decide +kernel
theorem dX3_readCrew_68 : decode cX3_readCrew 68 = .ok (.aload_n 1, 1) := by decide +kernel
theorem dX3_readCrew_69 : decode cX3_readCrew 69 = .ok (.getfield 108, 3) := by decide +kernel
theorem dX3_readCrew_72 : decode cX3_readCrew 72 = .ok (.iload_n 2, 1) := by decide +kernel
theorem dX3_readCrew_73 : decode cX3_readCrew 73 = .ok (.iload_n 3, 1) := by decide +kernel
theorem dX3_readCrew_74 : decode cX3_readCrew 74 = .ok (.iastore, 1) := by decide +kernel
theorem dX3_readCrew_75 : decode cX3_readCrew 75 = .ok (.aload_n 1, 1) := by decide +kernel
theorem dX3_readCrew_76 : decode cX3_readCrew 76 = .ok (.getfield 114, 3) := by decide +kernel
theorem dX3_readCrew_79 : decode cX3_readCrew 79 = .ok (.iload_n 2, 1) := by decide +kernel
theorem dX3_readCrew_80 : decode cX3_readCrew 80 = .ok (.iload 4, 2) := by decide +kernel
theorem dX3_readCrew_82 : decode cX3_readCrew 82 = .ok (.iastore, 1) := by decide +kernel
theorem dX3_readCrew_83 : decode cX3_readCrew 83 = .ok (.iconst 1, 1) := by decide +kernel
theorem dX3_readCrew_84 : decode cX3_readCrew 84 = .ok (.ireturn, 1) := by decide +kernel
theorem dX3_readSign_0 : decode cX3_readSign 0 = .ok (.aload_n 1, 1) := by decide +kernel
theorem dX3_readSign_1 : decode cX3_readSign 1 = .ok (.getfield 117, 3) := by decide +kernel
theorem dX3_readSign_4 : decode cX3_readSign 4 = .ok (.bipush 6, 2) := by decide +kernel
theorem dX3_readSign_6 : decode cX3_readSign 6 = .ok (.if_icmp .lt 5, 3) := by decide +kernel
theorem dX3_readSign_9 : decode cX3_readSign 9 = .ok (.iconst 0, 1) := by decide +kernel
theorem dX3_readSign_10 : decode cX3_readSign 10 = .ok (.ireturn, 1) := by decide +kernel
theorem dX3_readSign_11 : decode cX3_readSign 11 = .ok (.aload_n 0, 1) := by decide +kernel
theorem dX3_readSign_12 : decode cX3_readSign 12 = .ok (.getfield 12, 3) := by decide +kernel
theorem dX3_readSign_15 : decode cX3_readSign 15 = .ok (.invokevirtual 29, 3) := by decide +kernel
theorem dX3_readSign_18 : decode cX3_readSign 18 = .ok (.aload_n 0, 1) := by decide +kernel
theorem dX3_readSign_19 : decode cX3_readSign 19 = .ok (.iconst 1, 1) := by decide +kernel
theorem dX3_readSign_20 : decode cX3_readSign 20 = .ok (.iconst 1, 1) := by decide +kernel
theorem dX3_readSign_21 : decode cX3_readSign 21 = .ok (.aload_n 1, 1) := by decide +kernel
theorem dX3_readSign_22 : decode cX3_readSign 22 = .ok (.getfield 85, 3) := by decide +kernel
theorem dX3_readSign_25 : decode cX3_readSign 25 = .ok (.ishl, 1) := by decide +kernel
theorem dX3_readSign_26 : decode cX3_readSign 26 = .ok (.iconst 1, 1) := by decide +kernel
theorem dX3_readSign_27 : decode cX3_readSign 27 = .ok (.isub, 1) := by decide +kernel
theorem dX3_readSign_28 : decode cX3_readSign 28 = .ok (.invokevirtual 104, 3) := by decide +kernel
theorem dX3_readSign_31 : decode cX3_readSign 31 = .ok (.istore_n 2, 1) := by decide +kernel
theorem dX3_readSign_32 : decode cX3_readSign 32 = .ok (.iload_n 2, 1) := by decide +kernel
theorem dX3_readSign_33 : decode cX3_readSign 33 = .ok (.iconst (-1), 1) := by decide +kernel
theorem dX3_readSign_34 : decode cX3_readSign 34 = .ok (.if_icmp .ne 5, 3) := by decide +kernel
theorem dX3_readSign_37 : decode cX3_readSign 37 = .ok (.iconst 0, 1) := by decide +kernel
theorem dX3_readSign_38 : decode cX3_readSign 38 = .ok (.ireturn, 1) := by decide +kernel
theorem dX3_readSign_39 : decode cX3_readSign 39 = .ok (.aload_n 1, 1) := by decide +kernel
theorem dX3_readSign_40 : decode cX3_readSign 40 = .ok (.iload_n 2, 1) := by decide +kernel
theorem dX3_readSign_41 : decode cX3_readSign 41 = .ok (.invokevirtual 120, 3) := by decide +kernel
theorem dX3_readSign_44 : decode cX3_readSign 44 = .ok (.pop, 1) := by decide +kernel
theorem dX3_readSign_45 : decode cX3_readSign 45 = .ok (.iconst 1, 1) := by decide +kernel
theorem dX3_readSign_46 : decode cX3_readSign 46 = .ok (.ireturn, 1) := by decide +kernel
theorem dX3_readSetting_0 : decode cX3_readSetting 0 = .ok (.aload_n 0, 1) := by decide +kernel
theorem dX3_readSetting_1 : decode cX3_readSetting 1 = .ok (.getfield 12, 3) := by decide +kernel
theorem dX3_readSetting_4 : decode cX3_readSetting 4 = .ok (.invokevirtual 29, 3) := by decide +kernel
theorem dX3_readSetting_7 : decode cX3_readSetting 7 = .ok (.aload_n 0, 1) := by decide +kernel
theorem dX3_readSetting_8 : decode cX3_readSetting 8 = .ok (.iconst 0, 1) := by decide +kernel
theorem dX3_readSetting_9 : decode cX3_readSetting 9 = .ok (.getstatic 124, 3) := by decide +kernel
theorem dX3_readSetting_12 : decode cX3_readSetting 12 = .ok (.iload_n 2, 1) := by decide +kernel
theorem dX3_readSetting_13 : decode cX3_readSetting 13 = .ok (.iaload, 1) := by decide +kernel
theorem dX3_readSetting_14 : decode cX3_readSetting 14 = .ok (.invokevirtual 104, 3) := by decide +kernel
theorem dX3_readSetting_17 : decode cX3_readSetting 17 = .ok (.istore_n 3, 1) := by decide +kernel
theorem dX3_readSetting_18 : decode cX3_readSetting 18 = .ok (.iload_n 3, 1) := by decide +kernel
theorem dX3_readSetting_19 : decode cX3_readSetting 19 = .ok (.iconst (-1), 1) := by decide +kernel
theorem dX3_readSetting_20 : decode cX3_readSetting 20 = .ok (.if_icmp .ne 5, 3) := by decide +kernel
theorem dX3_readSetting_23 : decode cX3_readSetting 23 = .ok (.iconst 0, 1) := by decide +kernel
theorem dX3_readSetting_24 : decode cX3_readSetting 24 = .ok (.ireturn, 1) := by decide +kernel
theorem dX3_readSetting_25 : decode cX3_readSetting 25 = .ok (.aload_n 1, 1) := by decide +kernel
theorem dX3_readSetting_26 : decode cX3_readSetting 26 = .ok (.getfield 127, 3) := by decide +kernel
theorem dX3_readSetting_29 : decode cX3_readSetting 29 = .ok (.iload_n 2, 1) := by decide +kernel
theorem dX3_readSetting_30 : decode cX3_readSetting 30 = .ok (.iload_n 3, 1) := by decide +kernel
theorem dX3_readSetting_31 : decode cX3_readSetting 31 = .ok (.iastore, 1) := by decide +kernel
theorem dX3_readSetting_32 : decode cX3_readSetting 32 = .ok (.iconst 1, 1) := by decide +kernel
theorem dX3_readSetting_33 : decode cX3_readSetting 33 = .ok (.ireturn, 1) := by decide +kernel
theorem dX3_numberBehind_0 : decode cX3_numberBehind 0 = .ok (.aload_n 0, 1) := by decide +kernel
theorem dX3_numberBehind_1 : decode cX3_numberBehind 1 = .ok (.getfield 12, 3) := by decide +kernel
theorem dX3_numberBehind_4 : decode cX3_numberBehind 4 = .ok (.aload_n 1, 1) := by decide +kernel
theorem dX3_numberBehind_5 : decode cX3_numberBehind 5 = .ok (.invokevirtual 37, 3) := by decide +kernel
theorem dX3_numberBehind_8 : decode cX3_numberBehind 8 = .ok (.ifCond .ne 5, 3) := by decide +kernel
theorem dX3_numberBehind_11 : decode cX3_numberBehind 11 = .ok (.iload_n 3, 1) := by decide +kernel
theorem dX3_numberBehind_12 : decode cX3_numberBehind 12 = .ok (.ireturn, 1) := by decide +kernel
theorem dX3_numberBehind_13 : decode cX3_numberBehind 13 = .ok (.aload_n 0, 1) := by decide +kernel
theorem dX3_numberBehind_14 : decode cX3_numberBehind 14 = .ok (.getfield 12, 3) := by decide +kernel
theorem dX3_numberBehind_17 : decode cX3_numberBehind 17 = .ok (.invokevirtual 29, 3) := by decide +kernel
theorem dX3_numberBehind_20 : decode cX3_numberBehind 20 = .ok (.aload_n 0, 1) := by decide +kernel
theorem dX3_numberBehind_21 : decode cX3_numberBehind 21 = .ok (.iconst 0, 1) := by decide +kernel
theorem dX3_numberBehind_22 : decode cX3_numberBehind 22 = .ok (.iload_n 2, 1) := by decide +kernel
theorem dX3_numberBehind_23 : decode cX3_numberBehind 23 = .ok (.invokevirtual 104, 3) := by decide +kernel
theorem dX3_numberBehind_26 : decode cX3_numberBehind 26 = .ok (.ireturn, 1) := by decide +kernel
theorem dX3_number_0 : decode cX3_number 0 = .ok (.aload_n 0, 1) := by decide +kernel
theorem dX3_number_1 : decode cX3_number 1 = .ok (.getfield 12, 3) := by decide +kernel
theorem dX3_number_4 : decode cX3_number 4 = .ok (.getfield 130, 3) := by decide +kernel
theorem dX3_number_7 : decode cX3_number 7 = .ok (.istore_n 3, 1) := by decide +kernel
theorem dX3_number_8 : decode cX3_number 8 = .ok (.aload_n 0, 1) := by decide +kernel
theorem dX3_number_9 : decode cX3_number 9 = .ok (.getfield 12, 3) := by decide +kernel
theorem dX3_number_12 : decode cX3_number 12 = .ok (.getfield 25, 3) := by decide +kernel
theorem dX3_number_15 : decode cX3_number 15 = .ok (.iconst 2, 1) := by decide +kernel
theorem dX3_number_16 : decode cX3_number 16 = .ok (.if_icmp .ne 13, 3) := by decide +kernel
theorem dX3_number_19 : decode cX3_number 19 = .ok (.iload_n 3, 1) := by decide +kernel
theorem dX3_number_20 : decode cX3_number 20 = .ok (.iload_n 1, 1) := by decide +kernel
theorem dX3_number_21 : decode cX3_number 21 = .ok (.if_icmp .lt 8, 3) := by decide +kernel
theorem dX3_number_24 : decode cX3_number 24 = .ok (.iload_n 3, 1) := by decide +kernel
theorem dX3_number_25 : decode cX3_number 25 = .ok (.iload_n 2, 1) := by decide +kernel
theorem dX3_number_26 : decode cX3_number 26 = .ok (.if_icmp .le 5, 3) := by decide +kernel
theorem dX3_number_29 : decode cX3_number 29 = .ok (.iconst (-1), 1) := by decide +kernel
theorem dX3_number_30 : decode cX3_number 30 = .ok (.ireturn, 1) := by decide +kernel
theorem dX3_number_31 : decode cX3_number 31 = .ok (.aload_n 0, 1) := by decide +kernel
theorem dX3_number_32 : decode cX3_number 32 = .ok (.getfield 12, 3) := by decide +kernel
theorem dX3_number_35 : decode cX3_number 35 = .ok (.invokevirtual 29, 3) := by decide +kernel
theorem dX3_number_38 : decode cX3_number 38 = .ok (.iload_n 3, 1) := by decide +kernel
theorem dX3_number_39 : decode cX3_number 39 = .ok (.ireturn, 1) := by decide +kernel
theorem dX4_init_0 : decode cX4_init 0 = .ok (.aload_n 0, 1) := by decide +kernel
theorem dX4_init_1 : decode cX4_init 1 = .ok (.invokespecial 3, 3) := by decide +kernel
theorem dX4_init_4 : decode cX4_init 4 = .ok (.aload_n 0, 1) := by decide +kernel
theorem dX4_init_5 : decode cX4_init 5 = .ok (.bipush 10, 2) := by decide +kernel
theorem dX4_init_7 : decode cX4_init 7 = .ok (.newarray .int, 2) := by decide +kernel
theorem dX4_init_9 : decode cX4_init 9 = .ok (.putfield 9, 3) := by decide +kernel
theorem dX4_init_12 : decode cX4_init 12 = .ok (.aload_n 0, 1) := by decide +kernel
theorem dX4_init_13 : decode cX4_init 13 = .ok (.bipush 10, 2) := by decide +kernel
theorem dX4_init_15 : decode cX4_init 15 = .ok (.newarray .int, 2) := by decide +kernel
theorem dX4_init_17 : decode cX4_init 17 = .ok (.putfield 15, 3) := by decide +kernel
theorem dX4_init_20 : decode cX4_init 20 = .ok (.aload_n 0, 1) := by decide +kernel
theorem dX4_init_21 : decode cX4_init 21 = .ok (.iconst 0, 1) := by decide +kernel
theorem dX4_init_22 : decode cX4_init 22 = .ok (.putfield 18, 3) := by decide +kernel
theorem dX4_init_25 : decode cX4_init 25 = .ok (.aload_n 0, 1) := by decide +kernel
theorem dX4_init_26 : decode cX4_init 26 = .ok (.iconst 0, 1) := by decide +kernel
theorem dX4_init_27 : decode cX4_init 27 = .ok (.putfield 22, 3) := by decide +kernel
theorem dX4_init_30 : decode cX4_init 30 = .ok (.return_, 1) := by decide +kernel
theorem dX4_standAt_0 : decode cX4_standAt 0 = .ok (.aload_n 0, 1) := by decide +kernel
theorem dX4_standAt_1 : decode cX4_standAt 1 = .ok (.aload_n 1, 1) := by decide +kernel
theorem dX4_standAt_2 : decode cX4_standAt 2 = .ok (.getfield 25, 3) := by decide +kernel
theorem dX4_standAt_5 : decode cX4_standAt 5 = .ok (.putfield 18, 3) := by decide +kernel
theorem dX4_standAt_8 : decode cX4_standAt 8 = .ok (.aload_n 0, 1) := by decide +kernel
theorem dX4_standAt_9 : decode cX4_standAt 9 = .ok (.aload_n 1, 1) := by decide +kernel
theorem dX4_standAt_10 : decode cX4_standAt 10 = .ok (.getfield 28, 3) := by decide +kernel
theorem dX4_standAt_13 : decode cX4_standAt 13 = .ok (.iconst 2, 1) := by decide +kernel
theorem dX4_standAt_14 : decode cX4_standAt 14 = .ok (.iaload, 1) := by decide +kernel
theorem dX4_standAt_15 : decode cX4_standAt 15 = .ok (.putfield 22, 3) := by decide +kernel
theorem dX4_standAt_18 : decode cX4_standAt 18 = .ok (.iconst 0, 1) := by decide +kernel
theorem dX4_standAt_19 : decode cX4_standAt 19 = .ok (.istore_n 3, 1) := by decide +kernel
theorem dX4_standAt_20 : decode cX4_standAt 20 = .ok (.iload_n 3, 1) := by decide +kernel
theorem dX4_standAt_21 : decode cX4_standAt 21 = .ok (.aload_n 0, 1) := by decide +kernel
theorem dX4_standAt_22 : decode cX4_standAt 22 = .ok (.getfield 18, 3) := by decide +kernel
theorem dX4_standAt_25 : decode cX4_standAt 25 = .ok (.if_icmp .ge 29, 3) := by decide +kernel
theorem dX4_standAt_28 : decode cX4_standAt 28 = .ok (.aload_n 0, 1) := by decide +kernel
theorem dX4_standAt_29 : decode cX4_standAt 29 = .ok (.iload_n 3, 1) := by decide +kernel
theorem dX4_standAt_30 : decode cX4_standAt 30 = .ok (.aload_n 1, 1) := by decide +kernel
theorem dX4_standAt_31 : decode cX4_standAt 31 = .ok (.getfield 31, 3) := by decide +kernel
theorem dX4_standAt_34 : decode cX4_standAt 34 = .ok (.iload_n 3, 1) := by decide +kernel
theorem dX4_standAt_35 : decode cX4_standAt 35 = .ok (.iaload, 1) := by decide +kernel
theorem dX4_standAt_36 : decode cX4_standAt 36 = .ok (.iload_n 2, 1) := by decide +kernel
theorem dX4_standAt_37 : decode cX4_standAt 37 = .ok (.isub, 1) := by decide +kernel
theorem dX4_standAt_38 : decode cX4_standAt 38 = .ok (.bipush 100, 2) := by decide +kernel
theorem dX4_standAt_40 : decode cX4_standAt 40 = .ok (.iadd, 1) := by decide +kernel
theorem dX4_standAt_41 : decode cX4_standAt 41 = .ok (.bipush 100, 2) := by decide +kernel
theorem dX4_standAt_43 : decode cX4_standAt 43 = .ok (.irem, 1) := by decide +kernel
theorem dX4_standAt_44 : decode cX4_standAt 44 = .ok (.iload_n 3, 1) := by decide +kernel
theorem dX4_standAt_45 : decode cX4_standAt 45 = .ok (.invokevirtual 34, 3) := by decide +kernel
theorem dX4_standAt_48 : decode cX4_standAt 48 = .ok (.iinc 3 1, 3) := by decide +kernel
theorem dX4_standAt_51 : decode cX4_standAt 51 = .ok (.goto (-31), 3) := by decide +kernel
theorem dX4_standAt_54 : decode cX4_standAt 54 = .ok (.return_, 1) := by decide +kernel
theorem dX4_insert_0 : decode cX4_insert 0 = .ok (.iload_n 3, 1) := by decide +kernel
theorem dX4_insert_1 : decode cX4_insert 1 = .ok (.istore 4, 2) := by decide +kernel
theorem dX4_insert_3 : decode cX4_insert 3 = .ok (.iload 4, 2) := by decide +kernel
theorem dX4_insert_5 : decode cX4_insert 5 = .ok (.ifCond .le 54, 3) := by decide +kernel
theorem dX4_insert_8 : decode cX4_insert 8 = .ok (.aload_n 0, 1) := by decide +kernel
theorem dX4_insert_9 : decode cX4_insert 9 = .ok (.getfield 15, 3) := by decide +kernel
theorem dX4_insert_12 : decode cX4_insert 12 = .ok (.iload 4, 2) := by decide +kernel
theorem dX4_insert_14 : decode cX4_insert 14 = .ok (.iconst 1, 1) := by decide +kernel
theorem dX4_insert_15 : decode cX4_insert 15 = .ok (.isub, 1) := by decide +kernel
theorem dX4_insert_16 : decode cX4_insert 16 = .ok (.iaload, 1) := by decide +kernel
theorem dX4_insert_17 : decode cX4_insert 17 = .ok (.iload_n 2, 1) := by decide +kernel
theorem dX4_insert_18 : decode cX4_insert 18 = .ok (.if_icmp .le 41, 3) := by decide +kernel
theorem dX4_insert_21 : decode cX4_insert 21 = .ok (.aload_n 0, 1) := by decide +kernel
theorem dX4_insert_22 : decode cX4_insert 22 = .ok (.getfield 9, 3) := by decide +kernel
theorem dX4_insert_25 : decode cX4_insert 25 = .ok (.iload 4, 2) := by decide +kernel
theorem dX4_insert_27 : decode cX4_insert 27 = .ok (.aload_n 0, 1) := by decide +kernel
theorem dX4_insert_28 : decode cX4_insert 28 = .ok (.getfield 9, 3) := by decide +kernel
theorem dX4_insert_31 : decode cX4_insert 31 = .ok (.iload 4, 2) := by decide +kernel
theorem dX4_insert_33 : decode cX4_insert 33 = .ok (.iconst 1, 1) := by decide +kernel
theorem dX4_insert_34 : decode cX4_insert 34 = .ok (.isub, 1) := by decide +kernel
theorem dX4_insert_35 : decode cX4_insert 35 = .ok (.iaload, 1) := by decide +kernel
theorem dX4_insert_36 : decode cX4_insert 36 = .ok (.iastore, 1) := by decide +kernel
theorem dX4_insert_37 : decode cX4_insert 37 = .ok (.aload_n 0, 1) := by decide +kernel
theorem dX4_insert_38 : decode cX4_insert 38 = .ok (.getfield 15, 3) := by decide +kernel
theorem dX4_insert_41 : decode cX4_insert 41 = .ok (.iload 4, 2) := by decide +kernel
theorem dX4_insert_43 : decode cX4_insert 43 = .ok (.aload_n 0, 1) := by decide +kernel
theorem dX4_insert_44 : decode cX4_insert 44 = .ok (.getfield 15, 3) := by decide +kernel
theorem dX4_insert_47 : decode cX4_insert 47 = .ok (.iload 4, 2) := by decide +kernel
theorem dX4_insert_49 : decode cX4_insert 49 = .ok (.iconst 1, 1) := by decide +kernel
theorem dX4_insert_50 : decode cX4_insert 50 = .ok (.isub, 1) := by decide +kernel
theorem dX4_insert_51 : decode cX4_insert 51 = .ok (.iaload, 1) := by decide +kernel
theorem dX4_insert_52 : decode cX4_insert 52 = .ok (.iastore, 1) := by decide +kernel
theorem dX4_insert_53 : decode cX4_insert 53 = .ok (.iinc 4 (-1), 3) := by decide +kernel
theorem dX4_insert_56 : decode cX4_insert 56 = .ok (.goto (-53), 3) := by decide +kernel
theorem dX4_insert_59 : decode cX4_insert 59 = .ok (.aload_n 0, 1) := by decide +kernel
theorem dX4_insert_60 : decode cX4_insert 60 = .ok (.getfield 9, 3) := by decide +kernel
theorem dX4_insert_63 : decode cX4_insert 63 = .ok (.iload 4, 2) := by decide +kernel
theorem dX4_insert_65 : decode cX4_insert 65 = .ok (.iload_n 1, 1) := by decide +kernel
theorem dX4_insert_66 : decode cX4_insert 66 = .ok (.iastore, 1) := by decide +kernel
theorem dX4_insert_67 : decode cX4_insert 67 = .ok (.aload_n 0, 1) := by decide +kernel
theorem dX4_insert_68 : decode cX4_insert 68 = .ok (.getfield 15, 3) := by decide +kernel
theorem dX4_insert_71 : decode cX4_insert 71 = .ok (.iload 4, 2) := by decide +kernel
theorem dX4_insert_73 : decode cX4_insert 73 = .ok (.iload_n 2, 1) := by decide +kernel
theorem dX4_insert_74 : decode cX4_insert 74 = .ok (.iastore, 1) := by decide +kernel
theorem dX4_insert_75 : decode cX4_insert 75 = .ok (.return_, 1) := by decide +kernel
theorem dX4_stepsBy_0 : decode cX4_stepsBy 0 = .ok (.ldc 38, 2) := by decide +kernel
theorem dX4_stepsBy_2 : decode cX4_stepsBy 2 = .ok (.istore_n 2, 1) := by decide +kernel
theorem dX4_stepsBy_3 : decode cX4_stepsBy 3 = .ok (.iconst 0, 1) := by decide +kernel
theorem dX4_stepsBy_4 : decode cX4_stepsBy 4 = .ok (.istore_n 3, 1) := by decide +kernel
theorem dX4_stepsBy_5 : decode cX4_stepsBy 5 = .ok (.iconst 0, 1) := by decide +kernel
theorem dX4_stepsBy_6 : decode cX4_stepsBy 6 = .ok (.istore 4, 2) := by decide +kernel
theorem dX4_stepsBy_8 : decode cX4_stepsBy 8 = .ok (.iload 4, 2) := by decide +kernel
theorem dX4_stepsBy_10 : decode cX4_stepsBy 10 = .ok (.aload_n 0, 1) := by decide +kernel
theorem dX4_stepsBy_11 : decode cX4_stepsBy 11 = .ok (.getfield 18, 3) := by decide +kernel
theorem dX4_stepsBy_14 : decode cX4_stepsBy 14 = .ok (.if_icmp .ge 60, 3) := by decide +kernel
theorem dX4_stepsBy_17 : decode cX4_stepsBy 17 = .ok (.iload_n 1, 1) := by decide +kernel
theorem dX4_stepsBy_18 : decode cX4_stepsBy 18 = .ok (.aload_n 0, 1) := by decide +kernel
theorem dX4_stepsBy_19 : decode cX4_stepsBy 19 = .ok (.getfield 9, 3) := by decide +kernel
theorem dX4_stepsBy_22 : decode cX4_stepsBy 22 = .ok (.iload 4, 2) := by decide +kernel
theorem dX4_stepsBy_24 : decode cX4_stepsBy 24 = .ok (.iaload, 1) := by decide +kernel
theorem dX4_stepsBy_25 : decode cX4_stepsBy 25 = .ok (.ishr, 1) := by decide +kernel
theorem dX4_stepsBy_26 : decode cX4_stepsBy 26 = .ok (.iconst 1, 1) := by decide +kernel
theorem dX4_stepsBy_27 : decode cX4_stepsBy 27 = .ok (.iand, 1) := by decide +kernel
theorem dX4_stepsBy_28 : decode cX4_stepsBy 28 = .ok (.iconst 1, 1) := by decide +kernel
theorem dX4_stepsBy_29 : decode cX4_stepsBy 29 = .ok (.if_icmp .ne 39, 3) := by decide +kernel
theorem dX4_stepsBy_32 : decode cX4_stepsBy 32 = .ok (.bipush 100, 2) := by decide +kernel
theorem dX4_stepsBy_34 : decode cX4_stepsBy 34 = .ok (.aload_n 0, 1) := by decide +kernel
theorem dX4_stepsBy_35 : decode cX4_stepsBy 35 = .ok (.getfield 15, 3) := by decide +kernel
theorem dX4_stepsBy_38 : decode cX4_stepsBy 38 = .ok (.iload 4, 2) := by decide +kernel
theorem dX4_stepsBy_40 : decode cX4_stepsBy 40 = .ok (.iaload, 1) := by decide +kernel
theorem dX4_stepsBy_41 : decode cX4_stepsBy 41 = .ok (.isub, 1) := by decide +kernel
theorem dX4_stepsBy_42 : decode cX4_stepsBy 42 = .ok (.istore 5, 2) := by decide +kernel
theorem dX4_stepsBy_44 : decode cX4_stepsBy 44 = .ok (.iload_n 2, 1) := by decide +kernel
theorem dX4_stepsBy_45 : decode cX4_stepsBy 45 = .ok (.iload_n 3, 1) := by decide +kernel
theorem dX4_stepsBy_46 : decode cX4_stepsBy 46 = .ok (.iload 5, 2) := by decide +kernel
theorem dX4_stepsBy_48 : decode cX4_stepsBy 48 = .ok (.iadd, 1) := by decide +kernel
theorem dX4_stepsBy_49 : decode cX4_stepsBy 49 = .ok (.iload_n 3, 1) := by decide +kernel
theorem dX4_stepsBy_50 : decode cX4_stepsBy 50 = .ok (.iload 5, 2) := by decide +kernel
theorem dX4_stepsBy_52 : decode cX4_stepsBy 52 = .ok (.invokestatic 39, 3) := by decide +kernel
theorem dX4_stepsBy_55 : decode cX4_stepsBy 55 = .ok (.iadd, 1) := by decide +kernel
theorem dX4_stepsBy_56 : decode cX4_stepsBy 56 = .ok (.invokestatic 39, 3) := by decide +kernel
theorem dX4_stepsBy_59 : decode cX4_stepsBy 59 = .ok (.istore_n 2, 1) := by decide +kernel
theorem dX4_stepsBy_60 : decode cX4_stepsBy 60 = .ok (.aload_n 0, 1) := by decide +kernel
theorem dX4_stepsBy_61 : decode cX4_stepsBy 61 = .ok (.getfield 15, 3) := by decide +kernel
theorem dX4_stepsBy_64 : decode cX4_stepsBy 64 = .ok (.iload 4, 2) := by decide +kernel
theorem dX4_stepsBy_66 : decode cX4_stepsBy 66 = .ok (.iaload, 1) := by decide +kernel
theorem dX4_stepsBy_67 : decode cX4_stepsBy 67 = .ok (.istore_n 3, 1) := by decide +kernel
theorem dX4_stepsBy_68 : decode cX4_stepsBy 68 = .ok (.iinc 4 1, 3) := by decide +kernel
theorem dX4_stepsBy_71 : decode cX4_stepsBy 71 = .ok (.goto (-63), 3) := by decide +kernel
theorem dX4_stepsBy_74 : decode cX4_stepsBy 74 = .ok (.iload_n 2, 1) := by decide +kernel
theorem dX4_stepsBy_75 : decode cX4_stepsBy 75 = .ok (.iload_n 3, 1) := by decide +kernel
theorem dX4_stepsBy_76 : decode cX4_stepsBy 76 = .ok (.invokestatic 39, 3) := by decide +kernel
theorem dX4_stepsBy_79 : decode cX4_stepsBy 79 = .ok (.aload_n 0, 1) := by decide +kernel
theorem dX4_stepsBy_80 : decode cX4_stepsBy 80 = .ok (.getfield 22, 3) := by decide +kernel
theorem dX4_stepsBy_83 : decode cX4_stepsBy 83 = .ok (.iload_n 1, 1) := by decide +kernel
theorem dX4_stepsBy_84 : decode cX4_stepsBy 84 = .ok (.invokestatic 45, 3) := by decide +kernel
theorem dX4_stepsBy_87 : decode cX4_stepsBy 87 = .ok (.imul, 1) := by decide +kernel
theorem dX4_stepsBy_88 : decode cX4_stepsBy 88 = .ok (.iadd, 1) := by decide +kernel
theorem dX4_stepsBy_89 : decode cX4_stepsBy 89 = .ok (.ireturn, 1) := by decide +kernel
theorem dX5_init_0 : decode cX5_init 0 = .ok (.aload_n 0, 1) := by decide +kernel
theorem dX5_init_1 : decode cX5_init 1 = .ok (.invokespecial 1, 3) := by decide +kernel
theorem dX5_init_4 : decode cX5_init 4 = .ok (.aload_n 0, 1) := by decide +kernel
theorem dX5_init_5 : decode cX5_init 5 = .ok (.new 7, 3) := by decide +kernel
theorem dX5_init_8 : decode cX5_init 8 = .ok (.dup, 1) := by decide +kernel
theorem dX5_init_9 : decode cX5_init 9 = .ok (.invokespecial 9, 3) := by decide +kernel
theorem dX5_init_12 : decode cX5_init 12 = .ok (.putfield 10, 3) := by decide +kernel
theorem dX5_init_15 : decode cX5_init 15 = .ok (.aload_n 0, 1) := by decide +kernel
theorem dX5_init_16 : decode cX5_init 16 = .ok (.new 7, 3) := by decide +kernel
theorem dX5_init_19 : decode cX5_init 19 = .ok (.dup, 1) := by decide +kernel
theorem dX5_init_20 : decode cX5_init 20 = .ok (.invokespecial 9, 3) := by decide +kernel
theorem dX5_init_23 : decode cX5_init 23 = .ok (.putfield 16, 3) := by decide +kernel
theorem dX5_init_26 : decode cX5_init 26 = .ok (.aload_n 0, 1) := by decide +kernel
theorem dX5_init_27 : decode cX5_init 27 = .ok (.new 7, 3) := by decide +kernel
theorem dX5_init_30 : decode cX5_init 30 = .ok (.dup, 1) := by decide +kernel
theorem dX5_init_31 : decode cX5_init 31 = .ok (.invokespecial 9, 3) := by decide +kernel
theorem dX5_init_34 : decode cX5_init 34 = .ok (.putfield 19, 3) := by decide +kernel
theorem dX5_init_37 : decode cX5_init 37 = .ok (.aload_n 0, 1) := by decide +kernel
theorem dX5_init_38 : decode cX5_init 38 = .ok (.iconst 0, 1) := by decide +kernel
theorem dX5_init_39 : decode cX5_init 39 = .ok (.putfield 22, 3) := by decide +kernel
theorem dX5_init_42 : decode cX5_init 42 = .ok (.aload_n 0, 1) := by decide +kernel
theorem dX5_init_43 : decode cX5_init 43 = .ok (.new 26, 3) := by decide +kernel
theorem dX5_init_46 : decode cX5_init 46 = .ok (.dup, 1) := by decide +kernel
theorem dX5_init_47 : decode cX5_init 47 = .ok (.invokespecial 28, 3) := by decide +kernel
theorem dX5_init_50 : decode cX5_init 50 = .ok (.putfield 29, 3) := by decide +kernel
theorem dX5_init_53 : decode cX5_init 53 = .ok (.aload_n 0, 1) := by decide +kernel
theorem dX5_init_54 : decode cX5_init 54 = .ok (.iconst 4, 1) := by decide +kernel
theorem dX5_init_55 : decode cX5_init 55 = .ok (.anewarray 33, 3) := by decide +kernel
theorem dX5_init_58 : decode cX5_init 58 = .ok (.putfield 35, 3) := by decide +kernel
theorem dX5_init_61 : decode cX5_init 61 = .ok (.aload_n 0, 1) := by decide +kernel
theorem dX5_init_62 : decode cX5_init 62 = .ok (.new 39, 3) := by decide +kernel
theorem dX5_init_65 : decode cX5_init 65 = .ok (.dup, 1) := by decide +kernel
theorem dX5_init_66 : decode cX5_init 66 = .ok (.invokespecial 41, 3) := by decide +kernel
theorem dX5_init_69 : decode cX5_init 69 = .ok (.putfield 42, 3) := by decide +kernel
theorem dX5_init_72 : decode cX5_init 72 = .ok (.aload_n 0, 1) := by decide +kernel
theorem dX5_init_73 : decode cX5_init 73 = .ok (.new 39, 3) := by decide +kernel
theorem dX5_init_76 : decode cX5_init 76 = .ok (.dup, 1) := by decide +kernel
theorem dX5_init_77 : decode cX5_init 77 = .ok (.invokespecial 41, 3) := by decide +kernel
theorem dX5_init_80 : decode cX5_init 80 = .ok (.putfield 46, 3) := by decide +kernel
theorem dX5_init_83 : decode cX5_init 83 = .ok (.aload_n 0, 1) := by decide +kernel
theorem dX5_init_84 : decode cX5_init 84 = .ok (.bipush 10, 2) := by decide +kernel
theorem dX5_init_86 : decode cX5_init 86 = .ok (.newarray .int, 2) := by decide +kernel
theorem dX5_init_88 : decode cX5_init 88 = .ok (.putfield 49, 3) := by decide +kernel
theorem dX5_init_91 : decode cX5_init 91 = .ok (.aload_n 0, 1) := by decide +kernel
theorem dX5_init_92 : decode cX5_init 92 = .ok (.bipush 7, 2) := by decide +kernel
theorem dX5_init_94 : decode cX5_init 94 = .ok (.newarray .int, 2) := by decide +kernel
theorem dX5_init_96 : decode cX5_init 96 = .ok (.putfield 53, 3) := by decide +kernel
theorem dX5_init_99 : decode cX5_init 99 = .ok (.iconst 0, 1) := by decide +kernel
theorem dX5_init_100 : decode cX5_init 100 = .ok (.istore_n 1, 1) := by decide +kernel
theorem dX5_init_101 : decode cX5_init 101 = .ok (.iload_n 1, 1) := by decide +kernel
theorem dX5_init_102 : decode cX5_init 102 = .ok (.iconst 4, 1) := by decide +kernel
theorem dX5_init_103 : decode cX5_init 103 = .ok (.if_icmp .ge 22, 3) := by decide +kernel
theorem dX5_init_106 : decode cX5_init 106 = .ok (.aload_n 0, 1) := by decide +kernel
theorem dX5_init_107 : decode cX5_init 107 = .ok (.getfield 35, 3) := by decide +kernel
theorem dX5_init_110 : decode cX5_init 110 = .ok (.iload_n 1, 1) := by decide +kernel
theorem dX5_init_111 : decode cX5_init 111 = .ok (.new 33, 3) := by decide +kernel
theorem dX5_init_114 : decode cX5_init 114 = .ok (.dup, 1) := by decide +kernel
theorem dX5_init_115 : decode cX5_init 115 = .ok (.invokespecial 56, 3) := by decide +kernel
theorem dX5_init_118 : decode cX5_init 118 = .ok (.aastore, 1) := by decide +kernel
theorem dX5_init_119 : decode cX5_init 119 = .ok (.iinc 1 1, 3) := by decide +kernel
theorem dX5_init_122 : decode cX5_init 122 = .ok (.goto (-21), 3) := by decide +kernel
theorem dX5_init_125 : decode cX5_init 125 = .ok (.return_, 1) := by decide +kernel
theorem dX5_star_0 : decode cX5_star 0 = .ok (.iload_n 1, 1) := by decide +kernel
theorem dX5_star_1 : decode cX5_star 1 = .ok (.bipush 7, 2) := by decide +kernel
theorem dX5_star_3 : decode cX5_star 3 = .ok (.invokestatic 57, 3) := by decide +kernel
theorem dX5_star_6 : decode cX5_star 6 = .ok (.ifCond .eq 12, 3) := by decide +kernel
theorem dX5_star_9 : decode cX5_star 9 = .ok (.iload_n 2, 1) := by decide +kernel
theorem dX5_star_10 : decode cX5_star 10 = .ok (.bipush 100, 2) := by decide +kernel
theorem dX5_star_12 : decode cX5_star 12 = .ok (.invokestatic 57, 3) := by decide +kernel
theorem dX5_star_15 : decode cX5_star 15 = .ok (.ifCond .ne 9, 3) := by decide +kernel
theorem dX5_star_18 : decode cX5_star 18 = .ok (.aload_n 0, 1) := by decide +kernel
theorem dX5_star_19 : decode cX5_star 19 = .ok (.iconst 0, 1) := by decide +kernel
theorem dX5_star_20 : decode cX5_star 20 = .ok (.invokevirtual 61, 3) := by decide +kernel
theorem dX5_star_23 : decode cX5_star 23 = .ok (.ireturn, 1) := by decide +kernel
theorem dX5_star_24 : decode cX5_star 24 = .ok (.aload_n 0, 1) := by decide +kernel
theorem dX5_star_25 : decode cX5_star 25 = .ok (.getfield 10, 3) := by decide +kernel
theorem dX5_star_28 : decode cX5_star 28 = .ok (.getfield 65, 3) := by decide +kernel
theorem dX5_star_31 : decode cX5_star 31 = .ok (.bipush 10, 2) := by decide +kernel
theorem dX5_star_33 : decode cX5_star 33 = .ok (.if_icmp .lt 9, 3) := by decide +kernel
theorem dX5_star_36 : decode cX5_star 36 = .ok (.aload_n 0, 1) := by decide +kernel
theorem dX5_star_37 : decode cX5_star 37 = .ok (.iconst 1, 1) := by decide +kernel
theorem dX5_star_38 : decode cX5_star 38 = .ok (.invokevirtual 61, 3) := by decide +kernel
theorem dX5_star_41 : decode cX5_star 41 = .ok (.ireturn, 1) := by decide +kernel
theorem dX5_star_42 : decode cX5_star 42 = .ok (.aload_n 0, 1) := by decide +kernel
theorem dX5_star_43 : decode cX5_star 43 = .ok (.getfield 10, 3) := by decide +kernel
theorem dX5_star_46 : decode cX5_star 46 = .ok (.iload_n 1, 1) := by decide +kernel
theorem dX5_star_47 : decode cX5_star 47 = .ok (.iload_n 2, 1) := by decide +kernel
theorem dX5_star_48 : decode cX5_star 48 = .ok (.bipush 50, 2) := by decide +kernel
theorem dX5_star_50 : decode cX5_star 50 = .ok (.iconst 1, 1) := by decide +kernel
theorem dX5_star_51 : decode cX5_star 51 = .ok (.invokevirtual 69, 3) := by decide +kernel
theorem dX5_star_54 : decode cX5_star 54 = .ok (.ireturn, 1) := by decide +kernel
theorem dX5_of_0 : decode cX5_of 0 = .ok (.iload_n 1, 1) := by decide +kernel
theorem dX5_of_1 : decode cX5_of 1 = .ok (.aload_n 0, 1) := by decide +kernel
theorem dX5_of_2 : decode cX5_of 2 = .ok (.getfield 10, 3) := by decide +kernel
theorem dX5_of_5 : decode cX5_of 5 = .ok (.getfield 65, 3) := by decide +kernel
theorem dX5_of_8 : decode cX5_of 8 = .ok (.invokestatic 57, 3) := by decide +kernel
theorem dX5_of_11 : decode cX5_of 11 = .ok (.ifCond .ne 9, 3) := by decide +kernel
theorem dX5_of_14 : decode cX5_of 14 = .ok (.aload_n 0, 1) := by decide +kernel
theorem dX5_of_15 : decode cX5_of 15 = .ok (.iconst 0, 1) := by decide +kernel
theorem dX5_of_16 : decode cX5_of 16 = .ok (.invokevirtual 61, 3) := by decide +kernel
theorem dX5_of_19 : decode cX5_of 19 = .ok (.ireturn, 1) := by decide +kernel
theorem dX5_of_20 : decode cX5_of 20 = .ok (.aload_n 0, 1) := by decide +kernel
theorem dX5_of_21 : decode cX5_of 21 = .ok (.getfield 10, 3) := by decide +kernel
theorem dX5_of_24 : decode cX5_of 24 = .ok (.iload_n 2, 1) := by decide +kernel
theorem dX5_of_25 : decode cX5_of 25 = .ok (.invokevirtual 73, 3) := by decide +kernel
theorem dX5_of_28 : decode cX5_of 28 = .ok (.astore_n 3, 1) := by decide +kernel
theorem dX5_of_29 : decode cX5_of 29 = .ok (.aload_n 3, 1) := by decide +kernel
theorem dX5_of_30 : decode cX5_of 30 = .ok (.ifnull 7, 3) := by decide +kernel
theorem dX5_of_33 : decode cX5_of 33 = .ok (.aload_n 3, 1) := by decide +kernel
theorem dX5_of_34 : decode cX5_of 34 = .ok (.iload_n 1, 1) := by decide +kernel
theorem dX5_of_35 : decode cX5_of 35 = .ok (.iaload, 1) := by decide +kernel
theorem dX5_of_36 : decode cX5_of 36 = .ok (.ireturn, 1) := by decide +kernel
theorem dX5_of_37 : decode cX5_of 37 = .ok (.iload_n 2, 1) := by decide +kernel
theorem dX5_of_38 : decode cX5_of 38 = .ok (.tableswitch 112 4 6 #[26, 61, 78], 26) := by decide +kernel
theorem dX5_of_64 : decode cX5_of 64 = .ok (.aload_n 0, 1) := by decide +kernel
theorem dX5_of_65 : decode cX5_of 65 = .ok (.getfield 10, 3) := by decide +kernel
theorem dX5_of_68 : decode cX5_of 68 = .ok (.aload_n 0, 1) := by decide +kernel
theorem dX5_of_69 : decode cX5_of 69 = .ok (.getfield 10, 3) := by decide +kernel
theorem dX5_of_72 : decode cX5_of 72 = .ok (.getfield 77, 3) := by decide +kernel
theorem dX5_of_75 : decode cX5_of 75 = .ok (.iload_n 1, 1) := by decide +kernel
theorem dX5_of_76 : decode cX5_of 76 = .ok (.iaload, 1) := by decide +kernel
theorem dX5_of_77 : decode cX5_of 77 = .ok (.aload_n 0, 1) := by decide +kernel
theorem dX5_of_78 : decode cX5_of 78 = .ok (.getfield 10, 3) := by decide +kernel
theorem dX5_of_81 : decode cX5_of 81 = .ok (.getfield 80, 3) := by decide +kernel
theorem dX5_of_84 : decode cX5_of 84 = .ok (.iload_n 1, 1) := by decide +kernel
theorem dX5_of_85 : decode cX5_of 85 = .ok (.iaload, 1) := by decide +kernel
theorem dX5_of_86 : decode cX5_of 86 = .ok (.aload_n 0, 1) := by decide +kernel
theorem dX5_of_87 : decode cX5_of 87 = .ok (.getfield 10, 3) := by decide +kernel
theorem dX5_of_90 : decode cX5_of 90 = .ok (.getfield 83, 3) := by decide +kernel
theorem dX5_of_93 : decode cX5_of 93 = .ok (.iconst 0, 1) := by decide +kernel
theorem dX5_of_94 : decode cX5_of 94 = .ok (.iaload, 1) := by decide +kernel
theorem dX5_of_95 : decode cX5_of 95 = .ok (.invokevirtual 86, 3) := by decide +kernel
theorem dX5_of_98 : decode cX5_of 98 = .ok (.ireturn, 1) := by decide +kernel
theorem dX5_of_99 : decode cX5_of 99 = .ok (.aload_n 0, 1) := by decide +kernel
theorem dX5_of_100 : decode cX5_of 100 = .ok (.getfield 10, 3) := by decide +kernel
theorem dX5_of_103 : decode cX5_of 103 = .ok (.aload_n 0, 1) := by decide +kernel
theorem dX5_of_104 : decode cX5_of 104 = .ok (.getfield 10, 3) := by decide +kernel
theorem dX5_of_107 : decode cX5_of 107 = .ok (.getfield 77, 3) := by decide +kernel
theorem dX5_of_110 : decode cX5_of 110 = .ok (.iload_n 1, 1) := by decide +kernel
theorem dX5_of_111 : decode cX5_of 111 = .ok (.iaload, 1) := by decide +kernel
theorem dX5_of_112 : decode cX5_of 112 = .ok (.invokevirtual 90, 3) := by decide +kernel
theorem dX5_of_115 : decode cX5_of 115 = .ok (.ireturn, 1) := by decide +kernel
theorem dX5_of_116 : decode cX5_of 116 = .ok (.aload_n 0, 1) := by decide +kernel
theorem dX5_of_117 : decode cX5_of 117 = .ok (.getfield 10, 3) := by decide +kernel
theorem dX5_of_120 : decode cX5_of 120 = .ok (.aload_n 0, 1) := by decide +kernel
theorem dX5_of_121 : decode cX5_of 121 = .ok (.getfield 10, 3) := by decide +kernel
theorem dX5_of_124 : decode cX5_of 124 = .ok (.getfield 77, 3) := by decide +kernel
theorem dX5_of_127 : decode cX5_of 127 = .ok (.iload_n 1, 1) := by decide +kernel
theorem dX5_of_128 : decode cX5_of 128 = .ok (.iaload, 1) := by decide +kernel
theorem dX5_of_129 : decode cX5_of 129 = .ok (.aload_n 0, 1) := by decide +kernel
theorem dX5_of_130 : decode cX5_of 130 = .ok (.getfield 10, 3) := by decide +kernel
theorem dX5_of_133 : decode cX5_of 133 = .ok (.getfield 80, 3) := by decide +kernel
theorem dX5_of_136 : decode cX5_of 136 = .ok (.iload_n 1, 1) := by decide +kernel
theorem dX5_of_137 : decode cX5_of 137 = .ok (.iaload, 1) := by decide +kernel
theorem dX5_of_138 : decode cX5_of 138 = .ok (.invokevirtual 93, 3) := by decide +kernel
theorem dX5_of_141 : decode cX5_of 141 = .ok (.ifCond .eq 7, 3) := by decide +kernel
theorem dX5_of_144 : decode cX5_of 144 = .ok (.iconst 1, 1) := by decide +kernel
theorem dX5_of_145 : decode cX5_of 145 = .ok (.goto 4, 3) := by decide +kernel
theorem dX5_of_148 : decode cX5_of 148 = .ok (.iconst 0, 1) := by decide +kernel
theorem dX5_of_149 : decode cX5_of 149 = .ok (.ireturn, 1) := by decide +kernel
theorem dX5_of_150 : decode cX5_of 150 = .ok (.aload_n 0, 1) := by decide +kernel
theorem dX5_of_151 : decode cX5_of 151 = .ok (.iconst 0, 1) := by decide +kernel
theorem dX5_of_152 : decode cX5_of 152 = .ok (.invokevirtual 61, 3) := by decide +kernel
theorem dX5_of_155 : decode cX5_of 155 = .ok (.ireturn, 1) := by decide +kernel
theorem dX5_change_0 : decode cX5_change 0 = .ok (.aload_n 0, 1) := by decide +kernel
theorem dX5_change_1 : decode cX5_change 1 = .ok (.getfield 10, 3) := by decide +kernel
theorem dX5_change_4 : decode cX5_change 4 = .ok (.iload_n 2, 1) := by decide +kernel
theorem dX5_change_5 : decode cX5_change 5 = .ok (.invokevirtual 73, 3) := by decide +kernel
theorem dX5_change_8 : decode cX5_change 8 = .ok (.astore 4, 2) := by decide +kernel
theorem dX5_change_10 : decode cX5_change 10 = .ok (.aload 4, 2) := by decide +kernel
theorem dX5_change_12 : decode cX5_change 12 = .ok (.ifnull 28, 3) := by decide +kernel
theorem dX5_change_15 : decode cX5_change 15 = .ok (.iload_n 1, 1) := by decide +kernel
theorem dX5_change_16 : decode cX5_change 16 = .ok (.aload_n 0, 1) := by decide +kernel
theorem dX5_change_17 : decode cX5_change 17 = .ok (.getfield 10, 3) := by decide +kernel
theorem dX5_change_20 : decode cX5_change 20 = .ok (.getfield 65, 3) := by decide +kernel
theorem dX5_change_23 : decode cX5_change 23 = .ok (.invokestatic 57, 3) := by decide +kernel
theorem dX5_change_26 : decode cX5_change 26 = .ok (.ifCond .eq 14, 3) := by decide +kernel
theorem dX5_change_29 : decode cX5_change 29 = .ok (.iload_n 3, 1) := by decide +kernel
theorem dX5_change_30 : decode cX5_change 30 = .ok (.iload_n 2, 1) := by decide +kernel
theorem dX5_change_31 : decode cX5_change 31 = .ok (.invokestatic 96, 3) := by decide +kernel
theorem dX5_change_34 : decode cX5_change 34 = .ok (.invokestatic 99, 3) := by decide +kernel
theorem dX5_change_37 : decode cX5_change 37 = .ok (.ifCond .ne 9, 3) := by decide +kernel
theorem dX5_change_40 : decode cX5_change 40 = .ok (.aload_n 0, 1) := by decide +kernel
theorem dX5_change_41 : decode cX5_change 41 = .ok (.iconst 0, 1) := by decide +kernel
theorem dX5_change_42 : decode cX5_change 42 = .ok (.invokevirtual 61, 3) := by decide +kernel
theorem dX5_change_45 : decode cX5_change 45 = .ok (.ireturn, 1) := by decide +kernel
theorem dX5_change_46 : decode cX5_change 46 = .ok (.aload 4, 2) := by decide +kernel
theorem dX5_change_48 : decode cX5_change 48 = .ok (.iload_n 1, 1) := by decide +kernel
theorem dX5_change_49 : decode cX5_change 49 = .ok (.iload_n 3, 1) := by decide +kernel
theorem dX5_change_50 : decode cX5_change 50 = .ok (.invokestatic 102, 3) := by decide +kernel
theorem dX5_change_53 : decode cX5_change 53 = .ok (.ireturn, 1) := by decide +kernel
theorem dX5_crew_0 : decode cX5_crew 0 = .ok (.aload_n 0, 1) := by decide +kernel
theorem dX5_crew_1 : decode cX5_crew 1 = .ok (.getfield 10, 3) := by decide +kernel
theorem dX5_crew_4 : decode cX5_crew 4 = .ok (.iload_n 2, 1) := by decide +kernel
theorem dX5_crew_5 : decode cX5_crew 5 = .ok (.invokevirtual 106, 3) := by decide +kernel
theorem dX5_crew_8 : decode cX5_crew 8 = .ok (.astore 4, 2) := by decide +kernel
theorem dX5_crew_10 : decode cX5_crew 10 = .ok (.aload 4, 2) := by decide +kernel
theorem dX5_crew_12 : decode cX5_crew 12 = .ok (.ifnull 22, 3) := by decide +kernel
theorem dX5_crew_15 : decode cX5_crew 15 = .ok (.iload_n 1, 1) := by decide +kernel
theorem dX5_crew_16 : decode cX5_crew 16 = .ok (.iconst 4, 1) := by decide +kernel
theorem dX5_crew_17 : decode cX5_crew 17 = .ok (.invokestatic 57, 3) := by decide +kernel
theorem dX5_crew_20 : decode cX5_crew 20 = .ok (.ifCond .eq 14, 3) := by decide +kernel
theorem dX5_crew_23 : decode cX5_crew 23 = .ok (.iload_n 3, 1) := by decide +kernel
theorem dX5_crew_24 : decode cX5_crew 24 = .ok (.iload_n 2, 1) := by decide +kernel
theorem dX5_crew_25 : decode cX5_crew 25 = .ok (.invokestatic 109, 3) := by decide +kernel
theorem dX5_crew_28 : decode cX5_crew 28 = .ok (.invokestatic 99, 3) := by decide +kernel
theorem dX5_crew_31 : decode cX5_crew 31 = .ok (.ifCond .ne 9, 3) := by decide +kernel
theorem dX5_crew_34 : decode cX5_crew 34 = .ok (.aload_n 0, 1) := by decide +kernel
theorem dX5_crew_35 : decode cX5_crew 35 = .ok (.iconst 0, 1) := by decide +kernel
theorem dX5_crew_36 : decode cX5_crew 36 = .ok (.invokevirtual 61, 3) := by decide +kernel
theorem dX5_crew_39 : decode cX5_crew 39 = .ok (.ireturn, 1) := by decide +kernel
theorem dX5_crew_40 : decode cX5_crew 40 = .ok (.aload 4, 2) := by decide +kernel
theorem dX5_crew_42 : decode cX5_crew 42 = .ok (.iload_n 1, 1) := by decide +kernel
theorem dX5_crew_43 : decode cX5_crew 43 = .ok (.iload_n 3, 1) := by decide +kernel
theorem dX5_crew_44 : decode cX5_crew 44 = .ok (.invokestatic 102, 3) := by decide +kernel
theorem dX5_crew_47 : decode cX5_crew 47 = .ok (.ireturn, 1) := by decide +kernel
theorem dX5_crewOf_0 : decode cX5_crewOf 0 = .ok (.aload_n 0, 1) := by decide +kernel
theorem dX5_crewOf_1 : decode cX5_crewOf 1 = .ok (.getfield 10, 3) := by decide +kernel
theorem dX5_crewOf_4 : decode cX5_crewOf 4 = .ok (.iload_n 2, 1) := by decide +kernel
theorem dX5_crewOf_5 : decode cX5_crewOf 5 = .ok (.invokevirtual 106, 3) := by decide +kernel
theorem dX5_crewOf_8 : decode cX5_crewOf 8 = .ok (.astore_n 3, 1) := by decide +kernel
theorem dX5_crewOf_9 : decode cX5_crewOf 9 = .ok (.aload_n 3, 1) := by decide +kernel
theorem dX5_crewOf_10 : decode cX5_crewOf 10 = .ok (.ifnull 11, 3) := by decide +kernel
theorem dX5_crewOf_13 : decode cX5_crewOf 13 = .ok (.iload_n 1, 1) := by decide +kernel
theorem dX5_crewOf_14 : decode cX5_crewOf 14 = .ok (.iconst 4, 1) := by decide +kernel
theorem dX5_crewOf_15 : decode cX5_crewOf 15 = .ok (.invokestatic 57, 3) := by decide +kernel
theorem dX5_crewOf_18 : decode cX5_crewOf 18 = .ok (.ifCond .ne 9, 3) := by decide +kernel
theorem dX5_crewOf_21 : decode cX5_crewOf 21 = .ok (.aload_n 0, 1) := by decide +kernel
theorem dX5_crewOf_22 : decode cX5_crewOf 22 = .ok (.iconst 0, 1) := by decide +kernel
theorem dX5_crewOf_23 : decode cX5_crewOf 23 = .ok (.invokevirtual 61, 3) := by decide +kernel
theorem dX5_crewOf_26 : decode cX5_crewOf 26 = .ok (.ireturn, 1) := by decide +kernel
theorem dX5_crewOf_27 : decode cX5_crewOf 27 = .ok (.aload_n 3, 1) := by decide +kernel
theorem dX5_crewOf_28 : decode cX5_crewOf 28 = .ok (.iload_n 1, 1) := by decide +kernel
theorem dX5_crewOf_29 : decode cX5_crewOf 29 = .ok (.iaload, 1) := by decide +kernel
theorem dX5_crewOf_30 : decode cX5_crewOf 30 = .ok (.ireturn, 1) := by decide +kernel
theorem dX5_set_0 : decode cX5_set 0 = .ok (.iload_n 1, 1) := by decide +kernel
theorem dX5_set_1 : decode cX5_set 1 = .ok (.iconst 4, 1) := by decide +kernel
theorem dX5_set_2 : decode cX5_set 2 = .ok (.invokestatic 57, 3) := by decide +kernel
theorem dX5_set_5 : decode cX5_set 5 = .ok (.ifCond .eq 15, 3) := by decide +kernel
theorem dX5_set_8 : decode cX5_set 8 = .ok (.iload_n 2, 1) := by decide +kernel
theorem dX5_set_9 : decode cX5_set 9 = .ok (.getstatic 112, 3) := by decide +kernel
theorem dX5_set_12 : decode cX5_set 12 = .ok (.iload_n 1, 1) := by decide +kernel
theorem dX5_set_13 : decode cX5_set 13 = .ok (.iaload, 1) := by decide +kernel
theorem dX5_set_14 : decode cX5_set 14 = .ok (.invokestatic 99, 3) := by decide +kernel
theorem dX5_set_17 : decode cX5_set 17 = .ok (.ifCond .ne 9, 3) := by decide +kernel
theorem dX5_set_20 : decode cX5_set 20 = .ok (.aload_n 0, 1) := by decide +kernel
theorem dX5_set_21 : decode cX5_set 21 = .ok (.iconst 0, 1) := by decide +kernel
theorem dX5_set_22 : decode cX5_set 22 = .ok (.invokevirtual 61, 3) := by decide +kernel
theorem dX5_set_25 : decode cX5_set 25 = .ok (.ireturn, 1) := by decide +kernel
theorem dX5_set_26 : decode cX5_set 26 = .ok (.aload_n 0, 1) := by decide +kernel
theorem dX5_set_27 : decode cX5_set 27 = .ok (.getfield 10, 3) := by decide +kernel
theorem dX5_set_30 : decode cX5_set 30 = .ok (.getfield 83, 3) := by decide +kernel
theorem dX5_set_33 : decode cX5_set 33 = .ok (.iload_n 1, 1) := by decide +kernel
theorem dX5_set_34 : decode cX5_set 34 = .ok (.iload_n 2, 1) := by decide +kernel
theorem dX5_set_35 : decode cX5_set 35 = .ok (.invokestatic 102, 3) := by decide +kernel
theorem dX5_set_38 : decode cX5_set 38 = .ok (.ireturn, 1) := by decide +kernel
theorem dX5_apart_0 : decode cX5_apart 0 = .ok (.iload_n 1, 1) := by decide +kernel
theorem dX5_apart_1 : decode cX5_apart 1 = .ok (.bipush 100, 2) := by decide +kernel
theorem dX5_apart_3 : decode cX5_apart 3 = .ok (.invokestatic 57, 3) := by decide +kernel
theorem dX5_apart_6 : decode cX5_apart 6 = .ok (.ifCond .eq 12, 3) := by decide +kernel
theorem dX5_apart_9 : decode cX5_apart 9 = .ok (.iload_n 2, 1) := by decide +kernel
theorem dX5_apart_10 : decode cX5_apart 10 = .ok (.bipush 100, 2) := by decide +kernel
theorem dX5_apart_12 : decode cX5_apart 12 = .ok (.invokestatic 57, 3) := by decide +kernel
theorem dX5_apart_15 : decode cX5_apart 15 = .ok (.ifCond .ne 9, 3) := by decide +kernel
theorem dX5_apart_18 : decode cX5_apart 18 = .ok (.aload_n 0, 1) := by decide +kernel
theorem dX5_apart_19 : decode cX5_apart 19 = .ok (.iconst 0, 1) := by decide +kernel
theorem dX5_apart_20 : decode cX5_apart 20 = .ok (.invokevirtual 61, 3) := by decide +kernel
theorem dX5_apart_23 : decode cX5_apart 23 = .ok (.ireturn, 1) := by decide +kernel
theorem dX5_apart_24 : decode cX5_apart 24 = .ok (.iload_n 1, 1) := by decide +kernel
theorem dX5_apart_25 : decode cX5_apart 25 = .ok (.iload_n 2, 1) := by decide +kernel
theorem dX5_apart_26 : decode cX5_apart 26 = .ok (.invokestatic 115, 3) := by decide +kernel
theorem dX5_apart_29 : decode cX5_apart 29 = .ok (.ireturn, 1) := by decide +kernel
theorem dX5_go_0 : decode cX5_go 0 = .ok (.iload_n 1, 1) := by decide +kernel
theorem dX5_go_1 : decode cX5_go 1 = .ok (.iconst 1, 1) := by decide +kernel
theorem dX5_go_2 : decode cX5_go 2 = .ok (.if_icmp .lt 9, 3) := by decide +kernel
theorem dX5_go_5 : decode cX5_go 5 = .ok (.iload_n 1, 1) := by decide +kernel
theorem dX5_go_6 : decode cX5_go 6 = .ok (.bipush 60, 2) := by decide +kernel
theorem dX5_go_8 : decode cX5_go 8 = .ok (.if_icmp .le 9, 3) := by decide +kernel
theorem dX5_go_11 : decode cX5_go 11 = .ok (.aload_n 0, 1) := by decide +kernel
theorem dX5_go_12 : decode cX5_go 12 = .ok (.iconst 0, 1) := by decide +kernel
theorem dX5_go_13 : decode cX5_go 13 = .ok (.invokevirtual 61, 3) := by decide +kernel
theorem dX5_go_16 : decode cX5_go 16 = .ok (.ireturn, 1) := by decide +kernel
theorem dX5_go_17 : decode cX5_go 17 = .ok (.aload_n 0, 1) := by decide +kernel
theorem dX5_go_18 : decode cX5_go 18 = .ok (.getfield 10, 3) := by decide +kernel
theorem dX5_go_21 : decode cX5_go 21 = .ok (.getfield 119, 3) := by decide +kernel
theorem dX5_go_24 : decode cX5_go 24 = .ok (.iload_n 1, 1) := by decide +kernel
theorem dX5_go_25 : decode cX5_go 25 = .ok (.iadd, 1) := by decide +kernel
theorem dX5_go_26 : decode cX5_go 26 = .ok (.ldc 122, 2) := by decide +kernel
theorem dX5_go_28 : decode cX5_go 28 = .ok (.if_icmp .le 9, 3) := by decide +kernel
theorem dX5_go_31 : decode cX5_go 31 = .ok (.aload_n 0, 1) := by decide +kernel
theorem dX5_go_32 : decode cX5_go 32 = .ok (.iconst 4, 1) := by decide +kernel
theorem dX5_go_33 : decode cX5_go 33 = .ok (.invokevirtual 61, 3) := by decide +kernel
theorem dX5_go_36 : decode cX5_go 36 = .ok (.ireturn, 1) := by decide +kernel
theorem dX5_go_37 : decode cX5_go 37 = .ok (.iconst 0, 1) := by decide +kernel
theorem dX5_go_38 : decode cX5_go 38 = .ok (.istore_n 2, 1) := by decide +kernel
theorem dX5_go_39 : decode cX5_go 39 = .ok (.iload_n 2, 1) := by decide +kernel
theorem dX5_go_40 : decode cX5_go 40 = .ok (.iload_n 1, 1) := by decide +kernel
theorem dX5_go_41 : decode cX5_go 41 = .ok (.if_icmp .ge 16, 3) := by decide +kernel
theorem dX5_go_44 : decode cX5_go 44 = .ok (.aload_n 0, 1) := by decide +kernel
theorem dX5_go_45 : decode cX5_go 45 = .ok (.getfield 10, 3) := by decide +kernel
theorem dX5_go_48 : decode cX5_go 48 = .ok (.invokevirtual 123, 3) := by decide +kernel
theorem dX5_go_51 : decode cX5_go 51 = .ok (.iinc 2 1, 3) := by decide +kernel
theorem dX5_go_54 : decode cX5_go 54 = .ok (.goto (-15), 3) := by decide +kernel
theorem dX5_go_57 : decode cX5_go 57 = .ok (.aload_n 0, 1) := by decide +kernel
theorem dX5_go_58 : decode cX5_go 58 = .ok (.getfield 10, 3) := by decide +kernel
theorem dX5_go_61 : decode cX5_go 61 = .ok (.aload_n 0, 1) := by decide +kernel
theorem dX5_go_62 : decode cX5_go 62 = .ok (.getfield 10, 3) := by decide +kernel
theorem dX5_go_65 : decode cX5_go 65 = .ok (.getfield 80, 3) := by decide +kernel
theorem dX5_go_68 : decode cX5_go 68 = .ok (.invokevirtual 126, 3) := by decide +kernel
theorem dX5_go_71 : decode cX5_go 71 = .ok (.invokestatic 130, 3) := by decide +kernel
theorem dX5_go_74 : decode cX5_go 74 = .ok (.ireturn, 1) := by decide +kernel
theorem dX5_now_0 : decode cX5_now 0 = .ok (.iload_n 1, 1) := by decide +kernel
theorem dX5_now_1 : decode cX5_now 1 = .ok (.tableswitch 126 0 6 #[43, 51, 66, 74, 96, 106, 116], 43) := by decide +kernel
theorem dX5_now_44 : decode cX5_now 44 = .ok (.aload_n 0, 1) := by decide +kernel
theorem dX5_now_45 : decode cX5_now 45 = .ok (.getfield 10, 3) := by decide +kernel
theorem dX5_now_48 : decode cX5_now 48 = .ok (.getfield 119, 3) := by decide +kernel
theorem dX5_now_51 : decode cX5_now 51 = .ok (.ireturn, 1) := by decide +kernel
theorem dX5_now_52 : decode cX5_now 52 = .ok (.aload_n 0, 1) := by decide +kernel
theorem dX5_now_53 : decode cX5_now 53 = .ok (.getfield 10, 3) := by decide +kernel
theorem dX5_now_56 : decode cX5_now 56 = .ok (.aload_n 0, 1) := by decide +kernel
theorem dX5_now_57 : decode cX5_now 57 = .ok (.getfield 10, 3) := by decide +kernel
theorem dX5_now_60 : decode cX5_now 60 = .ok (.getfield 80, 3) := by decide +kernel
theorem dX5_now_63 : decode cX5_now 63 = .ok (.invokevirtual 126, 3) := by decide +kernel
theorem dX5_now_66 : decode cX5_now 66 = .ok (.ireturn, 1) := by decide +kernel
theorem dX5_now_67 : decode cX5_now 67 = .ok (.aload_n 0, 1) := by decide +kernel
theorem dX5_now_68 : decode cX5_now 68 = .ok (.getfield 10, 3) := by decide +kernel
theorem dX5_now_71 : decode cX5_now 71 = .ok (.invokevirtual 135, 3) := by decide +kernel
theorem dX5_now_74 : decode cX5_now 74 = .ok (.ireturn, 1) := by decide +kernel
theorem dX5_now_75 : decode cX5_now 75 = .ok (.aload_n 0, 1) := by decide +kernel
theorem dX5_now_76 : decode cX5_now 76 = .ok (.getfield 10, 3) := by decide +kernel
theorem dX5_now_79 : decode cX5_now 79 = .ok (.aload_n 0, 1) := by decide +kernel
theorem dX5_now_80 : decode cX5_now 80 = .ok (.getfield 10, 3) := by decide +kernel
theorem dX5_now_83 : decode cX5_now 83 = .ok (.aload_n 0, 1) := by decide +kernel
theorem dX5_now_84 : decode cX5_now 84 = .ok (.getfield 10, 3) := by decide +kernel
theorem dX5_now_87 : decode cX5_now 87 = .ok (.getfield 80, 3) := by decide +kernel
theorem dX5_now_90 : decode cX5_now 90 = .ok (.invokevirtual 126, 3) := by decide +kernel
theorem dX5_now_93 : decode cX5_now 93 = .ok (.invokevirtual 139, 3) := by decide +kernel
theorem dX5_now_96 : decode cX5_now 96 = .ok (.ireturn, 1) := by decide +kernel
theorem dX5_now_97 : decode cX5_now 97 = .ok (.aload_n 0, 1) := by decide +kernel
theorem dX5_now_98 : decode cX5_now 98 = .ok (.getfield 10, 3) := by decide +kernel
theorem dX5_now_101 : decode cX5_now 101 = .ok (.getfield 83, 3) := by decide +kernel
theorem dX5_now_104 : decode cX5_now 104 = .ok (.iconst 3, 1) := by decide +kernel
theorem dX5_now_105 : decode cX5_now 105 = .ok (.iaload, 1) := by decide +kernel
theorem dX5_now_106 : decode cX5_now 106 = .ok (.ireturn, 1) := by decide +kernel
theorem dX5_now_107 : decode cX5_now 107 = .ok (.aload_n 0, 1) := by decide +kernel
theorem dX5_now_108 : decode cX5_now 108 = .ok (.getfield 10, 3) := by decide +kernel
theorem dX5_now_111 : decode cX5_now 111 = .ok (.getfield 83, 3) := by decide +kernel
theorem dX5_now_114 : decode cX5_now 114 = .ok (.iconst 0, 1) := by decide +kernel
theorem dX5_now_115 : decode cX5_now 115 = .ok (.iaload, 1) := by decide +kernel
theorem dX5_now_116 : decode cX5_now 116 = .ok (.ireturn, 1) := by decide +kernel
theorem dX5_now_117 : decode cX5_now 117 = .ok (.aload_n 0, 1) := by decide +kernel
theorem dX5_now_118 : decode cX5_now 118 = .ok (.getfield 10, 3) := by decide +kernel
theorem dX5_now_121 : decode cX5_now 121 = .ok (.getfield 83, 3) := by decide +kernel
theorem dX5_now_124 : decode cX5_now 124 = .ok (.iconst 1, 1) := by decide +kernel
theorem dX5_now_125 : decode cX5_now 125 = .ok (.iaload, 1) := by decide +kernel
theorem dX5_now_126 : decode cX5_now 126 = .ok (.ireturn, 1) := by decide +kernel
theorem dX5_now_127 : decode cX5_now 127 = .ok (.aload_n 0, 1) := by decide +kernel
theorem dX5_now_128 : decode cX5_now 128 = .ok (.iconst 0, 1) := by decide +kernel
theorem dX5_now_129 : decode cX5_now 129 = .ok (.invokevirtual 61, 3) := by decide +kernel
theorem dX5_now_132 : decode cX5_now 132 = .ok (.ireturn, 1) := by decide +kernel
theorem dX5_mends_0 : decode cX5_mends 0 = .ok (.iload_n 1, 1) := by decide +kernel
theorem dX5_mends_1 : decode cX5_mends 1 = .ok (.iconst 4, 1) := by decide +kernel
theorem dX5_mends_2 : decode cX5_mends 2 = .ok (.invokestatic 57, 3) := by decide +kernel
theorem dX5_mends_5 : decode cX5_mends 5 = .ok (.ifCond .eq 17, 3) := by decide +kernel
theorem dX5_mends_8 : decode cX5_mends 8 = .ok (.iload_n 2, 1) := by decide +kernel
theorem dX5_mends_9 : decode cX5_mends 9 = .ok (.aload_n 0, 1) := by decide +kernel
theorem dX5_mends_10 : decode cX5_mends 10 = .ok (.getfield 10, 3) := by decide +kernel
theorem dX5_mends_13 : decode cX5_mends 13 = .ok (.getfield 65, 3) := by decide +kernel
theorem dX5_mends_16 : decode cX5_mends 16 = .ok (.invokestatic 57, 3) := by decide +kernel
theorem dX5_mends_19 : decode cX5_mends 19 = .ok (.ifCond .ne 9, 3) := by decide +kernel
theorem dX5_mends_22 : decode cX5_mends 22 = .ok (.aload_n 0, 1) := by decide +kernel
theorem dX5_mends_23 : decode cX5_mends 23 = .ok (.iconst 0, 1) := by decide +kernel
theorem dX5_mends_24 : decode cX5_mends 24 = .ok (.invokevirtual 61, 3) := by decide +kernel
theorem dX5_mends_27 : decode cX5_mends 27 = .ok (.ireturn, 1) := by decide +kernel
theorem dX5_mends_28 : decode cX5_mends 28 = .ok (.aload_n 0, 1) := by decide +kernel
theorem dX5_mends_29 : decode cX5_mends 29 = .ok (.getfield 10, 3) := by decide +kernel
theorem dX5_mends_32 : decode cX5_mends 32 = .ok (.getfield 83, 3) := by decide +kernel
theorem dX5_mends_35 : decode cX5_mends 35 = .ok (.iconst 3, 1) := by decide +kernel
theorem dX5_mends_36 : decode cX5_mends 36 = .ok (.iaload, 1) := by decide +kernel
theorem dX5_mends_37 : decode cX5_mends 37 = .ok (.iconst 1, 1) := by decide +kernel
theorem dX5_mends_38 : decode cX5_mends 38 = .ok (.if_icmp .ge 9, 3) := by decide +kernel
theorem dX5_mends_41 : decode cX5_mends 41 = .ok (.aload_n 0, 1) := by decide +kernel
theorem dX5_mends_42 : decode cX5_mends 42 = .ok (.iconst 4, 1) := by decide +kernel
theorem dX5_mends_43 : decode cX5_mends 43 = .ok (.invokevirtual 61, 3) := by decide +kernel
theorem dX5_mends_46 : decode cX5_mends 46 = .ok (.ireturn, 1) := by decide +kernel
theorem dX5_mends_47 : decode cX5_mends 47 = .ok (.aload_n 0, 1) := by decide +kernel
theorem dX5_mends_48 : decode cX5_mends 48 = .ok (.getfield 10, 3) := by decide +kernel
theorem dX5_mends_51 : decode cX5_mends 51 = .ok (.getfield 83, 3) := by decide +kernel
theorem dX5_mends_54 : decode cX5_mends 54 = .ok (.iconst 3, 1) := by decide +kernel
theorem dX5_mends_55 : decode cX5_mends 55 = .ok (.dup2, 1) := by decide +kernel
theorem dX5_mends_56 : decode cX5_mends 56 = .ok (.iaload, 1) := by decide +kernel
theorem dX5_mends_57 : decode cX5_mends 57 = .ok (.iconst 1, 1) := by decide +kernel
theorem dX5_mends_58 : decode cX5_mends 58 = .ok (.isub, 1) := by decide +kernel
theorem dX5_mends_59 : decode cX5_mends 59 = .ok (.iastore, 1) := by decide +kernel
theorem dX5_mends_60 : decode cX5_mends 60 = .ok (.aload_n 0, 1) := by decide +kernel
theorem dX5_mends_61 : decode cX5_mends 61 = .ok (.getfield 10, 3) := by decide +kernel
theorem dX5_mends_64 : decode cX5_mends 64 = .ok (.getfield 80, 3) := by decide +kernel
theorem dX5_mends_67 : decode cX5_mends 67 = .ok (.iload_n 2, 1) := by decide +kernel
theorem dX5_mends_68 : decode cX5_mends 68 = .ok (.bipush 99, 2) := by decide +kernel
theorem dX5_mends_70 : decode cX5_mends 70 = .ok (.iastore, 1) := by decide +kernel
theorem dX5_mends_71 : decode cX5_mends 71 = .ok (.aload_n 0, 1) := by decide +kernel
theorem dX5_mends_72 : decode cX5_mends 72 = .ok (.getfield 10, 3) := by decide +kernel
theorem dX5_mends_75 : decode cX5_mends 75 = .ok (.getfield 142, 3) := by decide +kernel
theorem dX5_mends_78 : decode cX5_mends 78 = .ok (.iload_n 1, 1) := by decide +kernel
theorem dX5_mends_79 : decode cX5_mends 79 = .ok (.aload_n 0, 1) := by decide +kernel
theorem dX5_mends_80 : decode cX5_mends 80 = .ok (.getfield 10, 3) := by decide +kernel
theorem dX5_mends_83 : decode cX5_mends 83 = .ok (.getfield 145, 3) := by decide +kernel
theorem dX5_mends_86 : decode cX5_mends 86 = .ok (.iload_n 2, 1) := by decide +kernel
theorem dX5_mends_87 : decode cX5_mends 87 = .ok (.iaload, 1) := by decide +kernel
theorem dX5_mends_88 : decode cX5_mends 88 = .ok (.invokestatic 102, 3) := by decide +kernel
theorem dX5_mends_91 : decode cX5_mends 91 = .ok (.istore_n 3, 1) := by decide +kernel
theorem dX5_mends_92 : decode cX5_mends 92 = .ok (.iload_n 3, 1) := by decide +kernel
theorem dX5_mends_93 : decode cX5_mends 93 = .ok (.aload_n 0, 1) := by decide +kernel
theorem dX5_mends_94 : decode cX5_mends 94 = .ok (.getfield 10, 3) := by decide +kernel
theorem dX5_mends_97 : decode cX5_mends 97 = .ok (.getfield 145, 3) := by decide +kernel
theorem dX5_mends_100 : decode cX5_mends 100 = .ok (.iload_n 2, 1) := by decide +kernel
theorem dX5_mends_101 : decode cX5_mends 101 = .ok (.iaload, 1) := by decide +kernel
theorem dX5_mends_102 : decode cX5_mends 102 = .ok (.invokestatic 115, 3) := by decide +kernel
theorem dX5_mends_105 : decode cX5_mends 105 = .ok (.ireturn, 1) := by decide +kernel
theorem dX5_ahead_0 : decode cX5_ahead 0 = .ok (.iload_n 1, 1) := by decide +kernel
theorem dX5_ahead_1 : decode cX5_ahead 1 = .ok (.aload_n 0, 1) := by decide +kernel
theorem dX5_ahead_2 : decode cX5_ahead 2 = .ok (.getfield 10, 3) := by decide +kernel
theorem dX5_ahead_5 : decode cX5_ahead 5 = .ok (.getfield 65, 3) := by decide +kernel
theorem dX5_ahead_8 : decode cX5_ahead 8 = .ok (.invokestatic 57, 3) := by decide +kernel
theorem dX5_ahead_11 : decode cX5_ahead 11 = .ok (.ifCond .eq 13, 3) := by decide +kernel
theorem dX5_ahead_14 : decode cX5_ahead 14 = .ok (.iload_n 2, 1) := by decide +kernel
theorem dX5_ahead_15 : decode cX5_ahead 15 = .ok (.sipush 200, 3) := by decide +kernel
theorem dX5_ahead_18 : decode cX5_ahead 18 = .ok (.invokestatic 99, 3) := by decide +kernel
theorem dX5_ahead_21 : decode cX5_ahead 21 = .ok (.ifCond .ne 9, 3) := by decide +kernel
theorem dX5_ahead_24 : decode cX5_ahead 24 = .ok (.aload_n 0, 1) := by decide +kernel
theorem dX5_ahead_25 : decode cX5_ahead 25 = .ok (.iconst 0, 1) := by decide +kernel
theorem dX5_ahead_26 : decode cX5_ahead 26 = .ok (.invokevirtual 61, 3) := by decide +kernel
theorem dX5_ahead_29 : decode cX5_ahead 29 = .ok (.ireturn, 1) := by decide +kernel
theorem dX5_ahead_30 : decode cX5_ahead 30 = .ok (.aload_n 0, 1) := by decide +kernel
theorem dX5_ahead_31 : decode cX5_ahead 31 = .ok (.getfield 10, 3) := by decide +kernel
theorem dX5_ahead_34 : decode cX5_ahead 34 = .ok (.iload_n 1, 1) := by decide +kernel
theorem dX5_ahead_35 : decode cX5_ahead 35 = .ok (.aload_n 0, 1) := by decide +kernel
theorem dX5_ahead_36 : decode cX5_ahead 36 = .ok (.getfield 10, 3) := by decide +kernel
theorem dX5_ahead_39 : decode cX5_ahead 39 = .ok (.getfield 83, 3) := by decide +kernel
theorem dX5_ahead_42 : decode cX5_ahead 42 = .ok (.iconst 0, 1) := by decide +kernel
theorem dX5_ahead_43 : decode cX5_ahead 43 = .ok (.iaload, 1) := by decide +kernel
theorem dX5_ahead_44 : decode cX5_ahead 44 = .ok (.iload_n 2, 1) := by decide +kernel
theorem dX5_ahead_45 : decode cX5_ahead 45 = .ok (.invokevirtual 148, 3) := by decide +kernel
theorem dX5_ahead_48 : decode cX5_ahead 48 = .ok (.ireturn, 1) := by decide +kernel
theorem dX5_lasts_0 : decode cX5_lasts 0 = .ok (.iload_n 1, 1) := by decide +kernel
theorem dX5_lasts_1 : decode cX5_lasts 1 = .ok (.aload_n 0, 1) := by decide +kernel
theorem dX5_lasts_2 : decode cX5_lasts 2 = .ok (.getfield 10, 3) := by decide +kernel
theorem dX5_lasts_5 : decode cX5_lasts 5 = .ok (.getfield 65, 3) := by decide +kernel
theorem dX5_lasts_8 : decode cX5_lasts 8 = .ok (.invokestatic 57, 3) := by decide +kernel
theorem dX5_lasts_11 : decode cX5_lasts 11 = .ok (.ifCond .ne 9, 3) := by decide +kernel
theorem dX5_lasts_14 : decode cX5_lasts 14 = .ok (.aload_n 0, 1) := by decide +kernel
theorem dX5_lasts_15 : decode cX5_lasts 15 = .ok (.iconst 0, 1) := by decide +kernel
theorem dX5_lasts_16 : decode cX5_lasts 16 = .ok (.invokevirtual 61, 3) := by decide +kernel
theorem dX5_lasts_19 : decode cX5_lasts 19 = .ok (.ireturn, 1) := by decide +kernel
theorem dX5_lasts_20 : decode cX5_lasts 20 = .ok (.aload_n 0, 1) := by decide +kernel
theorem dX5_lasts_21 : decode cX5_lasts 21 = .ok (.getfield 10, 3) := by decide +kernel
theorem dX5_lasts_24 : decode cX5_lasts 24 = .ok (.iload_n 1, 1) := by decide +kernel
theorem dX5_lasts_25 : decode cX5_lasts 25 = .ok (.aload_n 0, 1) := by decide +kernel
theorem dX5_lasts_26 : decode cX5_lasts 26 = .ok (.getfield 10, 3) := by decide +kernel
theorem dX5_lasts_29 : decode cX5_lasts 29 = .ok (.getfield 77, 3) := by decide +kernel
theorem dX5_lasts_32 : decode cX5_lasts 32 = .ok (.iload_n 1, 1) := by decide +kernel
theorem dX5_lasts_33 : decode cX5_lasts 33 = .ok (.iaload, 1) := by decide +kernel
theorem dX5_lasts_34 : decode cX5_lasts 34 = .ok (.invokevirtual 151, 3) := by decide +kernel
theorem dX5_lasts_37 : decode cX5_lasts 37 = .ok (.istore_n 2, 1) := by decide +kernel
theorem dX5_lasts_38 : decode cX5_lasts 38 = .ok (.iload_n 2, 1) := by decide +kernel
theorem dX5_lasts_39 : decode cX5_lasts 39 = .ok (.sipush 200, 3) := by decide +kernel
theorem dX5_lasts_42 : decode cX5_lasts 42 = .ok (.if_icmp .le 11, 3) := by decide +kernel
theorem dX5_lasts_45 : decode cX5_lasts 45 = .ok (.aload_n 0, 1) := by decide +kernel
theorem dX5_lasts_46 : decode cX5_lasts 46 = .ok (.iconst 3, 1) := by decide +kernel
theorem dX5_lasts_47 : decode cX5_lasts 47 = .ok (.invokevirtual 61, 3) := by decide +kernel
theorem dX5_lasts_50 : decode cX5_lasts 50 = .ok (.goto 4, 3) := by decide +kernel
theorem dX5_lasts_53 : decode cX5_lasts 53 = .ok (.iload_n 2, 1) := by decide +kernel
theorem dX5_lasts_54 : decode cX5_lasts 54 = .ok (.ireturn, 1) := by decide +kernel
theorem dX5_shine_0 : decode cX5_shine 0 = .ok (.iload_n 1, 1) := by decide +kernel
theorem dX5_shine_1 : decode cX5_shine 1 = .ok (.sipush 200, 3) := by decide +kernel
theorem dX5_shine_4 : decode cX5_shine 4 = .ok (.invokestatic 99, 3) := by decide +kernel
theorem dX5_shine_7 : decode cX5_shine 7 = .ok (.ifCond .ne 9, 3) := by decide +kernel
theorem dX5_shine_10 : decode cX5_shine 10 = .ok (.aload_n 0, 1) := by decide +kernel
theorem dX5_shine_11 : decode cX5_shine 11 = .ok (.iconst 0, 1) := by decide +kernel
theorem dX5_shine_12 : decode cX5_shine 12 = .ok (.invokevirtual 61, 3) := by decide +kernel
theorem dX5_shine_15 : decode cX5_shine 15 = .ok (.ireturn, 1) := by decide +kernel
theorem dX5_shine_16 : decode cX5_shine 16 = .ok (.aload_n 0, 1) := by decide +kernel
theorem dX5_shine_17 : decode cX5_shine 17 = .ok (.invokevirtual 154, 3) := by decide +kernel
theorem dX5_shine_20 : decode cX5_shine 20 = .ok (.iconst 0, 1) := by decide +kernel
theorem dX5_shine_21 : decode cX5_shine 21 = .ok (.istore_n 2, 1) := by decide +kernel
theorem dX5_shine_22 : decode cX5_shine 22 = .ok (.iload_n 2, 1) := by decide +kernel
theorem dX5_shine_23 : decode cX5_shine 23 = .ok (.iload_n 1, 1) := by decide +kernel
theorem dX5_shine_24 : decode cX5_shine 24 = .ok (.if_icmp .ge 20, 3) := by decide +kernel
theorem dX5_shine_27 : decode cX5_shine 27 = .ok (.aload_n 0, 1) := by decide +kernel
theorem dX5_shine_28 : decode cX5_shine 28 = .ok (.getfield 10, 3) := by decide +kernel
theorem dX5_shine_31 : decode cX5_shine 31 = .ok (.aload_n 0, 1) := by decide +kernel
theorem dX5_shine_32 : decode cX5_shine 32 = .ok (.getfield 49, 3) := by decide +kernel
theorem dX5_shine_35 : decode cX5_shine 35 = .ok (.invokevirtual 157, 3) := by decide +kernel
theorem dX5_shine_38 : decode cX5_shine 38 = .ok (.iinc 2 1, 3) := by decide +kernel
theorem dX5_shine_41 : decode cX5_shine 41 = .ok (.goto (-19), 3) := by decide +kernel
theorem dX5_shine_44 : decode cX5_shine 44 = .ok (.aload_n 0, 1) := by decide +kernel
theorem dX5_shine_45 : decode cX5_shine 45 = .ok (.getfield 10, 3) := by decide +kernel
theorem dX5_shine_48 : decode cX5_shine 48 = .ok (.aload_n 0, 1) := by decide +kernel
theorem dX5_shine_49 : decode cX5_shine 49 = .ok (.getfield 49, 3) := by decide +kernel
theorem dX5_shine_52 : decode cX5_shine 52 = .ok (.invokevirtual 126, 3) := by decide +kernel
theorem dX5_shine_55 : decode cX5_shine 55 = .ok (.ireturn, 1) := by decide +kernel
theorem dX5_dark_0 : decode cX5_dark 0 = .ok (.iload_n 1, 1) := by decide +kernel
theorem dX5_dark_1 : decode cX5_dark 1 = .ok (.iconst 1, 1) := by decide +kernel
theorem dX5_dark_2 : decode cX5_dark 2 = .ok (.if_icmp .lt 9, 3) := by decide +kernel
theorem dX5_dark_5 : decode cX5_dark 5 = .ok (.iload_n 1, 1) := by decide +kernel
theorem dX5_dark_6 : decode cX5_dark 6 = .ok (.bipush 10, 2) := by decide +kernel
theorem dX5_dark_8 : decode cX5_dark 8 = .ok (.if_icmp .le 9, 3) := by decide +kernel
theorem dX5_dark_11 : decode cX5_dark 11 = .ok (.aload_n 0, 1) := by decide +kernel
theorem dX5_dark_12 : decode cX5_dark 12 = .ok (.iconst 0, 1) := by decide +kernel
theorem dX5_dark_13 : decode cX5_dark 13 = .ok (.invokevirtual 61, 3) := by decide +kernel
theorem dX5_dark_16 : decode cX5_dark 16 = .ok (.ireturn, 1) := by decide +kernel
theorem dX5_dark_17 : decode cX5_dark 17 = .ok (.aload_n 0, 1) := by decide +kernel
theorem dX5_dark_18 : decode cX5_dark 18 = .ok (.invokevirtual 154, 3) := by decide +kernel
theorem dX5_dark_21 : decode cX5_dark 21 = .ok (.iconst 0, 1) := by decide +kernel
theorem dX5_dark_22 : decode cX5_dark 22 = .ok (.istore_n 2, 1) := by decide +kernel
theorem dX5_dark_23 : decode cX5_dark 23 = .ok (.iload_n 2, 1) := by decide +kernel
theorem dX5_dark_24 : decode cX5_dark 24 = .ok (.sipush 200, 3) := by decide +kernel
theorem dX5_dark_27 : decode cX5_dark 27 = .ok (.if_icmp .gt 40, 3) := by decide +kernel
theorem dX5_dark_30 : decode cX5_dark 30 = .ok (.aload_n 0, 1) := by decide +kernel
theorem dX5_dark_31 : decode cX5_dark 31 = .ok (.getfield 10, 3) := by decide +kernel
theorem dX5_dark_34 : decode cX5_dark 34 = .ok (.aload_n 0, 1) := by decide +kernel
theorem dX5_dark_35 : decode cX5_dark 35 = .ok (.getfield 49, 3) := by decide +kernel
theorem dX5_dark_38 : decode cX5_dark 38 = .ok (.invokevirtual 126, 3) := by decide +kernel
theorem dX5_dark_41 : decode cX5_dark 41 = .ok (.invokestatic 130, 3) := by decide +kernel
theorem dX5_dark_44 : decode cX5_dark 44 = .ok (.iload_n 1, 1) := by decide +kernel
theorem dX5_dark_45 : decode cX5_dark 45 = .ok (.if_icmp .ge 5, 3) := by decide +kernel
theorem dX5_dark_48 : decode cX5_dark 48 = .ok (.iload_n 2, 1) := by decide +kernel
theorem dX5_dark_49 : decode cX5_dark 49 = .ok (.ireturn, 1) := by decide +kernel
theorem dX5_dark_50 : decode cX5_dark 50 = .ok (.aload_n 0, 1) := by decide +kernel
theorem dX5_dark_51 : decode cX5_dark 51 = .ok (.getfield 10, 3) := by decide +kernel
theorem dX5_dark_54 : decode cX5_dark 54 = .ok (.aload_n 0, 1) := by decide +kernel
theorem dX5_dark_55 : decode cX5_dark 55 = .ok (.getfield 49, 3) := by decide +kernel
theorem dX5_dark_58 : decode cX5_dark 58 = .ok (.invokevirtual 157, 3) := by decide +kernel
theorem dX5_dark_61 : decode cX5_dark 61 = .ok (.iinc 2 1, 3) := by decide +kernel
theorem dX5_dark_64 : decode cX5_dark 64 = .ok (.goto (-41), 3) := by decide +kernel
theorem dX5_dark_67 : decode cX5_dark 67 = .ok (.aload_n 0, 1) := by decide +kernel
theorem dX5_dark_68 : decode cX5_dark 68 = .ok (.iconst 3, 1) := by decide +kernel
theorem dX5_dark_69 : decode cX5_dark 69 = .ok (.invokevirtual 61, 3) := by decide +kernel
theorem dX5_dark_72 : decode cX5_dark 72 = .ok (.ireturn, 1) := by decide +kernel
theorem dX5_kindFor_0 : decode cX5_kindFor 0 = .ok (.iload_n 1, 1) := by decide +kernel
theorem dX5_kindFor_1 : decode cX5_kindFor 1 = .ok (.aload_n 0, 1) := by decide +kernel
theorem dX5_kindFor_2 : decode cX5_kindFor 2 = .ok (.getfield 10, 3) := by decide +kernel
theorem dX5_kindFor_5 : decode cX5_kindFor 5 = .ok (.getfield 65, 3) := by decide +kernel
theorem dX5_kindFor_8 : decode cX5_kindFor 8 = .ok (.invokestatic 57, 3) := by decide +kernel
theorem dX5_kindFor_11 : decode cX5_kindFor 11 = .ok (.ifCond .ne 9, 3) := by decide +kernel
theorem dX5_kindFor_14 : decode cX5_kindFor 14 = .ok (.aload_n 0, 1) := by decide +kernel
theorem dX5_kindFor_15 : decode cX5_kindFor 15 = .ok (.iconst 0, 1) := by decide +kernel
theorem dX5_kindFor_16 : decode cX5_kindFor 16 = .ok (.invokevirtual 61, 3) := by decide +kernel
theorem dX5_kindFor_19 : decode cX5_kindFor 19 = .ok (.ireturn, 1) := by decide +kernel
theorem dX5_kindFor_20 : decode cX5_kindFor 20 = .ok (.iconst (-1), 1) := by decide +kernel
theorem dX5_kindFor_21 : decode cX5_kindFor 21 = .ok (.istore_n 2, 1) := by decide +kernel
theorem dX5_kindFor_22 : decode cX5_kindFor 22 = .ok (.iconst 0, 1) := by decide +kernel
theorem dX5_kindFor_23 : decode cX5_kindFor 23 = .ok (.istore_n 3, 1) := by decide +kernel
theorem dX5_kindFor_24 : decode cX5_kindFor 24 = .ok (.iconst 0, 1) := by decide +kernel
theorem dX5_kindFor_25 : decode cX5_kindFor 25 = .ok (.istore 4, 2) := by decide +kernel
theorem dX5_kindFor_27 : decode cX5_kindFor 27 = .ok (.iload 4, 2) := by decide +kernel
theorem dX5_kindFor_29 : decode cX5_kindFor 29 = .ok (.bipush 7, 2) := by decide +kernel
theorem dX5_kindFor_31 : decode cX5_kindFor 31 = .ok (.if_icmp .ge 39, 3) := by decide +kernel
theorem dX5_kindFor_34 : decode cX5_kindFor 34 = .ok (.sipush 200, 3) := by decide +kernel
theorem dX5_kindFor_37 : decode cX5_kindFor 37 = .ok (.aload_n 0, 1) := by decide +kernel
theorem dX5_kindFor_38 : decode cX5_kindFor 38 = .ok (.getfield 10, 3) := by decide +kernel
theorem dX5_kindFor_41 : decode cX5_kindFor 41 = .ok (.iload_n 1, 1) := by decide +kernel
theorem dX5_kindFor_42 : decode cX5_kindFor 42 = .ok (.iload 4, 2) := by decide +kernel
theorem dX5_kindFor_44 : decode cX5_kindFor 44 = .ok (.invokevirtual 151, 3) := by decide +kernel
theorem dX5_kindFor_47 : decode cX5_kindFor 47 = .ok (.invokestatic 161, 3) := by decide +kernel
theorem dX5_kindFor_50 : decode cX5_kindFor 50 = .ok (.istore 5, 2) := by decide +kernel
theorem dX5_kindFor_52 : decode cX5_kindFor 52 = .ok (.iload 5, 2) := by decide +kernel
theorem dX5_kindFor_54 : decode cX5_kindFor 54 = .ok (.iload_n 2, 1) := by decide +kernel
theorem dX5_kindFor_55 : decode cX5_kindFor 55 = .ok (.if_icmp .le 9, 3) := by decide +kernel
theorem dX5_kindFor_58 : decode cX5_kindFor 58 = .ok (.iload 5, 2) := by decide +kernel
theorem dX5_kindFor_60 : decode cX5_kindFor 60 = .ok (.istore_n 2, 1) := by decide +kernel
theorem dX5_kindFor_61 : decode cX5_kindFor 61 = .ok (.iload 4, 2) := by decide +kernel
theorem dX5_kindFor_63 : decode cX5_kindFor 63 = .ok (.istore_n 3, 1) := by decide +kernel
theorem dX5_kindFor_64 : decode cX5_kindFor 64 = .ok (.iinc 4 1, 3) := by decide +kernel
theorem dX5_kindFor_67 : decode cX5_kindFor 67 = .ok (.goto (-40), 3) := by decide +kernel
theorem dX5_kindFor_70 : decode cX5_kindFor 70 = .ok (.iload_n 3, 1) := by decide +kernel
theorem dX5_kindFor_71 : decode cX5_kindFor 71 = .ok (.ireturn, 1) := by decide +kernel
theorem dX5_dustFor_0 : decode cX5_dustFor 0 = .ok (.iload_n 1, 1) := by decide +kernel
theorem dX5_dustFor_1 : decode cX5_dustFor 1 = .ok (.aload_n 0, 1) := by decide +kernel
theorem dX5_dustFor_2 : decode cX5_dustFor 2 = .ok (.getfield 10, 3) := by decide +kernel
theorem dX5_dustFor_5 : decode cX5_dustFor 5 = .ok (.getfield 65, 3) := by decide +kernel
theorem dX5_dustFor_8 : decode cX5_dustFor 8 = .ok (.invokestatic 57, 3) := by decide +kernel
theorem dX5_dustFor_11 : decode cX5_dustFor 11 = .ok (.ifCond .eq 13, 3) := by decide +kernel
theorem dX5_dustFor_14 : decode cX5_dustFor 14 = .ok (.iload_n 2, 1) := by decide +kernel
theorem dX5_dustFor_15 : decode cX5_dustFor 15 = .ok (.sipush 200, 3) := by decide +kernel
theorem dX5_dustFor_18 : decode cX5_dustFor 18 = .ok (.invokestatic 99, 3) := by decide +kernel
theorem dX5_dustFor_21 : decode cX5_dustFor 21 = .ok (.ifCond .ne 9, 3) := by decide +kernel
theorem dX5_dustFor_24 : decode cX5_dustFor 24 = .ok (.aload_n 0, 1) := by decide +kernel
theorem dX5_dustFor_25 : decode cX5_dustFor 25 = .ok (.iconst 0, 1) := by decide +kernel
theorem dX5_dustFor_26 : decode cX5_dustFor 26 = .ok (.invokevirtual 61, 3) := by decide +kernel
theorem dX5_dustFor_29 : decode cX5_dustFor 29 = .ok (.ireturn, 1) := by decide +kernel
theorem dX5_dustFor_30 : decode cX5_dustFor 30 = .ok (.getstatic 112, 3) := by decide +kernel
theorem dX5_dustFor_33 : decode cX5_dustFor 33 = .ok (.iconst 0, 1) := by decide +kernel
theorem dX5_dustFor_34 : decode cX5_dustFor 34 = .ok (.iaload, 1) := by decide +kernel
theorem dX5_dustFor_35 : decode cX5_dustFor 35 = .ok (.istore_n 3, 1) := by decide +kernel
theorem dX5_dustFor_36 : decode cX5_dustFor 36 = .ok (.iload_n 3, 1) := by decide +kernel
theorem dX5_dustFor_37 : decode cX5_dustFor 37 = .ok (.ifCond .lt 40, 3) := by decide +kernel
theorem dX5_dustFor_40 : decode cX5_dustFor 40 = .ok (.aload_n 0, 1) := by decide +kernel
theorem dX5_dustFor_41 : decode cX5_dustFor 41 = .ok (.getfield 10, 3) := by decide +kernel
theorem dX5_dustFor_44 : decode cX5_dustFor 44 = .ok (.aload_n 0, 1) := by decide +kernel
theorem dX5_dustFor_45 : decode cX5_dustFor 45 = .ok (.getfield 10, 3) := by decide +kernel
theorem dX5_dustFor_48 : decode cX5_dustFor 48 = .ok (.getfield 77, 3) := by decide +kernel
theorem dX5_dustFor_51 : decode cX5_dustFor 51 = .ok (.iload_n 1, 1) := by decide +kernel
theorem dX5_dustFor_52 : decode cX5_dustFor 52 = .ok (.iaload, 1) := by decide +kernel
theorem dX5_dustFor_53 : decode cX5_dustFor 53 = .ok (.aload_n 0, 1) := by decide +kernel
theorem dX5_dustFor_54 : decode cX5_dustFor 54 = .ok (.getfield 10, 3) := by decide +kernel
theorem dX5_dustFor_57 : decode cX5_dustFor 57 = .ok (.iload_n 1, 1) := by decide +kernel
theorem dX5_dustFor_58 : decode cX5_dustFor 58 = .ok (.iload_n 3, 1) := by decide +kernel
theorem dX5_dustFor_59 : decode cX5_dustFor 59 = .ok (.iload_n 2, 1) := by decide +kernel
theorem dX5_dustFor_60 : decode cX5_dustFor 60 = .ok (.invokevirtual 148, 3) := by decide +kernel
theorem dX5_dustFor_63 : decode cX5_dustFor 63 = .ok (.invokevirtual 93, 3) := by decide +kernel
theorem dX5_dustFor_66 : decode cX5_dustFor 66 = .ok (.ifCond .eq 5, 3) := by decide +kernel
theorem dX5_dustFor_69 : decode cX5_dustFor 69 = .ok (.iload_n 3, 1) := by decide +kernel
theorem dX5_dustFor_70 : decode cX5_dustFor 70 = .ok (.ireturn, 1) := by decide +kernel
theorem dX5_dustFor_71 : decode cX5_dustFor 71 = .ok (.iinc 3 (-1), 3) := by decide +kernel
theorem dX5_dustFor_74 : decode cX5_dustFor 74 = .ok (.goto (-38), 3) := by decide +kernel
theorem dX5_dustFor_77 : decode cX5_dustFor 77 = .ok (.aload_n 0, 1) := by decide +kernel
theorem dX5_dustFor_78 : decode cX5_dustFor 78 = .ok (.iconst 3, 1) := by decide +kernel
theorem dX5_dustFor_79 : decode cX5_dustFor 79 = .ok (.invokevirtual 61, 3) := by decide +kernel
theorem dX5_dustFor_82 : decode cX5_dustFor 82 = .ok (.ireturn, 1) := by decide +kernel
theorem dX5_uses_0 : decode cX5_uses 0 = .ok (.iload_n 1, 1) := by decide +kernel
theorem dX5_uses_1 : decode cX5_uses 1 = .ok (.sipush 200, 3) := by decide +kernel
theorem dX5_uses_4 : decode cX5_uses 4 = .ok (.invokestatic 99, 3) := by decide +kernel
theorem dX5_uses_7 : decode cX5_uses 7 = .ok (.ifCond .ne 9, 3) := by decide +kernel
theorem dX5_uses_10 : decode cX5_uses 10 = .ok (.aload_n 0, 1) := by decide +kernel
theorem dX5_uses_11 : decode cX5_uses 11 = .ok (.iconst 0, 1) := by decide +kernel
theorem dX5_uses_12 : decode cX5_uses 12 = .ok (.invokevirtual 61, 3) := by decide +kernel
theorem dX5_uses_15 : decode cX5_uses 15 = .ok (.ireturn, 1) := by decide +kernel
theorem dX5_uses_16 : decode cX5_uses 16 = .ok (.aload_n 0, 1) := by decide +kernel
theorem dX5_uses_17 : decode cX5_uses 17 = .ok (.invokevirtual 154, 3) := by decide +kernel
theorem dX5_uses_20 : decode cX5_uses 20 = .ok (.iconst 0, 1) := by decide +kernel
theorem dX5_uses_21 : decode cX5_uses 21 = .ok (.istore_n 2, 1) := by decide +kernel
theorem dX5_uses_22 : decode cX5_uses 22 = .ok (.iconst 0, 1) := by decide +kernel
theorem dX5_uses_23 : decode cX5_uses 23 = .ok (.istore_n 3, 1) := by decide +kernel
theorem dX5_uses_24 : decode cX5_uses 24 = .ok (.iload_n 3, 1) := by decide +kernel
theorem dX5_uses_25 : decode cX5_uses 25 = .ok (.iload_n 1, 1) := by decide +kernel
theorem dX5_uses_26 : decode cX5_uses 26 = .ok (.if_icmp .ge 34, 3) := by decide +kernel
theorem dX5_uses_29 : decode cX5_uses 29 = .ok (.iload_n 2, 1) := by decide +kernel
theorem dX5_uses_30 : decode cX5_uses 30 = .ok (.aload_n 0, 1) := by decide +kernel
theorem dX5_uses_31 : decode cX5_uses 31 = .ok (.getfield 10, 3) := by decide +kernel
theorem dX5_uses_34 : decode cX5_uses 34 = .ok (.aload_n 0, 1) := by decide +kernel
theorem dX5_uses_35 : decode cX5_uses 35 = .ok (.getfield 49, 3) := by decide +kernel
theorem dX5_uses_38 : decode cX5_uses 38 = .ok (.invokevirtual 166, 3) := by decide +kernel
theorem dX5_uses_41 : decode cX5_uses 41 = .ok (.iadd, 1) := by decide +kernel
theorem dX5_uses_42 : decode cX5_uses 42 = .ok (.istore_n 2, 1) := by decide +kernel
theorem dX5_uses_43 : decode cX5_uses 43 = .ok (.aload_n 0, 1) := by decide +kernel
theorem dX5_uses_44 : decode cX5_uses 44 = .ok (.getfield 10, 3) := by decide +kernel
theorem dX5_uses_47 : decode cX5_uses 47 = .ok (.aload_n 0, 1) := by decide +kernel
theorem dX5_uses_48 : decode cX5_uses 48 = .ok (.getfield 49, 3) := by decide +kernel
theorem dX5_uses_51 : decode cX5_uses 51 = .ok (.invokevirtual 157, 3) := by decide +kernel
theorem dX5_uses_54 : decode cX5_uses 54 = .ok (.iinc 3 1, 3) := by decide +kernel
theorem dX5_uses_57 : decode cX5_uses 57 = .ok (.goto (-33), 3) := by decide +kernel
theorem dX5_uses_60 : decode cX5_uses 60 = .ok (.iload_n 2, 1) := by decide +kernel
theorem dX5_uses_61 : decode cX5_uses 61 = .ok (.ireturn, 1) := by decide +kernel
theorem dX5_round_0 : decode cX5_round 0 = .ok (.iload_n 1, 1) := by decide +kernel
theorem dX5_round_1 : decode cX5_round 1 = .ok (.iconst 4, 1) := by decide +kernel
theorem dX5_round_2 : decode cX5_round 2 = .ok (.invokestatic 57, 3) := by decide +kernel
theorem dX5_round_5 : decode cX5_round 5 = .ok (.ifCond .eq 11, 3) := by decide +kernel
theorem dX5_round_8 : decode cX5_round 8 = .ok (.aload_n 0, 1) := by decide +kernel
theorem dX5_round_9 : decode cX5_round 9 = .ok (.iload_n 2, 1) := by decide +kernel
theorem dX5_round_10 : decode cX5_round 10 = .ok (.invokevirtual 169, 3) := by decide +kernel
theorem dX5_round_13 : decode cX5_round 13 = .ok (.ifCond .ne 9, 3) := by decide +kernel
theorem dX5_round_16 : decode cX5_round 16 = .ok (.aload_n 0, 1) := by decide +kernel
theorem dX5_round_17 : decode cX5_round 17 = .ok (.iconst 0, 1) := by decide +kernel
theorem dX5_round_18 : decode cX5_round 18 = .ok (.invokevirtual 61, 3) := by decide +kernel
theorem dX5_round_21 : decode cX5_round 21 = .ok (.ireturn, 1) := by decide +kernel
theorem dX5_round_22 : decode cX5_round 22 = .ok (.aload_n 0, 1) := by decide +kernel
theorem dX5_round_23 : decode cX5_round 23 = .ok (.getfield 42, 3) := by decide +kernel
theorem dX5_round_26 : decode cX5_round 26 = .ok (.aload_n 0, 1) := by decide +kernel
theorem dX5_round_27 : decode cX5_round 27 = .ok (.getfield 10, 3) := by decide +kernel
theorem dX5_round_30 : decode cX5_round 30 = .ok (.aload_n 0, 1) := by decide +kernel
theorem dX5_round_31 : decode cX5_round 31 = .ok (.getfield 10, 3) := by decide +kernel
theorem dX5_round_34 : decode cX5_round 34 = .ok (.getfield 142, 3) := by decide +kernel
theorem dX5_round_37 : decode cX5_round 37 = .ok (.iload_n 1, 1) := by decide +kernel
theorem dX5_round_38 : decode cX5_round 38 = .ok (.iaload, 1) := by decide +kernel
theorem dX5_round_39 : decode cX5_round 39 = .ok (.invokevirtual 173, 3) := by decide +kernel
theorem dX5_round_42 : decode cX5_round 42 = .ok (.aload_n 0, 1) := by decide +kernel
theorem dX5_round_43 : decode cX5_round 43 = .ok (.getfield 42, 3) := by decide +kernel
theorem dX5_round_46 : decode cX5_round 46 = .ok (.iload_n 2, 1) := by decide +kernel
theorem dX5_round_47 : decode cX5_round 47 = .ok (.invokevirtual 177, 3) := by decide +kernel
theorem dX5_round_50 : decode cX5_round 50 = .ok (.ireturn, 1) := by decide +kernel
theorem dX5_best_0 : decode cX5_best 0 = .ok (.iload_n 1, 1) := by decide +kernel
theorem dX5_best_1 : decode cX5_best 1 = .ok (.iconst 4, 1) := by decide +kernel
theorem dX5_best_2 : decode cX5_best 2 = .ok (.invokestatic 57, 3) := by decide +kernel
theorem dX5_best_5 : decode cX5_best 5 = .ok (.ifCond .ne 9, 3) := by decide +kernel
theorem dX5_best_8 : decode cX5_best 8 = .ok (.aload_n 0, 1) := by decide +kernel
theorem dX5_best_9 : decode cX5_best 9 = .ok (.iconst 0, 1) := by decide +kernel
theorem dX5_best_10 : decode cX5_best 10 = .ok (.invokevirtual 61, 3) := by decide +kernel
theorem dX5_best_13 : decode cX5_best 13 = .ok (.ireturn, 1) := by decide +kernel
theorem dX5_best_14 : decode cX5_best 14 = .ok (.aload_n 0, 1) := by decide +kernel
theorem dX5_best_15 : decode cX5_best 15 = .ok (.iload_n 1, 1) := by decide +kernel
theorem dX5_best_16 : decode cX5_best 16 = .ok (.invokevirtual 180, 3) := by decide +kernel
theorem dX5_best_19 : decode cX5_best 19 = .ok (.ireturn, 1) := by decide +kernel
theorem dX5_bestWorth_0 : decode cX5_bestWorth 0 = .ok (.iload_n 1, 1) := by decide +kernel
theorem dX5_bestWorth_1 : decode cX5_bestWorth 1 = .ok (.iconst 4, 1) := by decide +kernel
theorem dX5_bestWorth_2 : decode cX5_bestWorth 2 = .ok (.invokestatic 57, 3) := by decide +kernel
theorem dX5_bestWorth_5 : decode cX5_bestWorth 5 = .ok (.ifCond .ne 9, 3) := by decide +kernel
theorem dX5_bestWorth_8 : decode cX5_bestWorth 8 = .ok (.aload_n 0, 1) := by decide +kernel
theorem dX5_bestWorth_9 : decode cX5_bestWorth 9 = .ok (.iconst 0, 1) := by decide +kernel
theorem dX5_bestWorth_10 : decode cX5_bestWorth 10 = .ok (.invokevirtual 61, 3) := by decide +kernel
theorem dX5_bestWorth_13 : decode cX5_bestWorth 13 = .ok (.ireturn, 1) := by decide +kernel
theorem dX5_bestWorth_14 : decode cX5_bestWorth 14 = .ok (.aload_n 0, 1) := by decide +kernel
theorem dX5_bestWorth_15 : decode cX5_bestWorth 15 = .ok (.getfield 10, 3) := by decide +kernel
theorem dX5_bestWorth_18 : decode cX5_bestWorth 18 = .ok (.aload_n 0, 1) := by decide +kernel
theorem dX5_bestWorth_19 : decode cX5_bestWorth 19 = .ok (.iload_n 1, 1) := by decide +kernel
theorem dX5_bestWorth_20 : decode cX5_bestWorth 20 = .ok (.invokevirtual 180, 3) := by decide +kernel
theorem dX5_bestWorth_23 : decode cX5_bestWorth 23 = .ok (.invokevirtual 139, 3) := by decide +kernel
theorem dX5_bestWorth_26 : decode cX5_bestWorth 26 = .ok (.ireturn, 1) := by decide +kernel
theorem dX5_from_0 : decode cX5_from 0 = .ok (.iload_n 1, 1) := by decide +kernel
theorem dX5_from_1 : decode cX5_from 1 = .ok (.iconst 4, 1) := by decide +kernel
theorem dX5_from_2 : decode cX5_from 2 = .ok (.invokestatic 57, 3) := by decide +kernel
theorem dX5_from_5 : decode cX5_from 5 = .ok (.ifCond .eq 11, 3) := by decide +kernel
theorem dX5_from_8 : decode cX5_from 8 = .ok (.aload_n 0, 1) := by decide +kernel
theorem dX5_from_9 : decode cX5_from 9 = .ok (.iload_n 2, 1) := by decide +kernel
theorem dX5_from_10 : decode cX5_from 10 = .ok (.invokevirtual 169, 3) := by decide +kernel
theorem dX5_from_13 : decode cX5_from 13 = .ok (.ifCond .ne 9, 3) := by decide +kernel
theorem dX5_from_16 : decode cX5_from 16 = .ok (.aload_n 0, 1) := by decide +kernel
theorem dX5_from_17 : decode cX5_from 17 = .ok (.iconst 0, 1) := by decide +kernel
theorem dX5_from_18 : decode cX5_from 18 = .ok (.invokevirtual 61, 3) := by decide +kernel
theorem dX5_from_21 : decode cX5_from 21 = .ok (.ireturn, 1) := by decide +kernel
theorem dX5_from_22 : decode cX5_from 22 = .ok (.ldc 183, 2) := by decide +kernel
theorem dX5_from_24 : decode cX5_from 24 = .ok (.istore_n 3, 1) := by decide +kernel
theorem dX5_from_25 : decode cX5_from 25 = .ok (.iconst 0, 1) := by decide +kernel
theorem dX5_from_26 : decode cX5_from 26 = .ok (.istore 4, 2) := by decide +kernel
