theorem dX5_from_28 : decode cX5_from 28 = .ok (.iconst 0, 1) := by decide +kernel
theorem dX5_from_29 : decode cX5_from 29 = .ok (.istore 5, 2) := by decide +kernel
theorem dX5_from_31 : decode cX5_from 31 = .ok (.iload 5, 2) := by decide +kernel
theorem dX5_from_33 : decode cX5_from 33 = .ok (.bipush 100, 2) := by decide +kernel
theorem dX5_from_35 : decode cX5_from 35 = .ok (.if_icmp .ge 45, 3) := by decide +kernel
theorem dX5_from_38 : decode cX5_from 38 = .ok (.aload_n 0, 1) := by decide +kernel
theorem dX5_from_39 : decode cX5_from 39 = .ok (.getfield 42, 3) := by decide +kernel
theorem dX5_from_42 : decode cX5_from 42 = .ok (.aload_n 0, 1) := by decide +kernel
theorem dX5_from_43 : decode cX5_from 43 = .ok (.getfield 10, 3) := by decide +kernel
theorem dX5_from_46 : decode cX5_from 46 = .ok (.iload 5, 2) := by decide +kernel
theorem dX5_from_48 : decode cX5_from 48 = .ok (.invokevirtual 173, 3) := by decide +kernel
theorem dX5_from_51 : decode cX5_from 51 = .ok (.aload_n 0, 1) := by decide +kernel
theorem dX5_from_52 : decode cX5_from 52 = .ok (.getfield 42, 3) := by decide +kernel
theorem dX5_from_55 : decode cX5_from 55 = .ok (.iload_n 2, 1) := by decide +kernel
theorem dX5_from_56 : decode cX5_from 56 = .ok (.invokevirtual 177, 3) := by decide +kernel
theorem dX5_from_59 : decode cX5_from 59 = .ok (.istore 6, 2) := by decide +kernel
theorem dX5_from_61 : decode cX5_from 61 = .ok (.iload 6, 2) := by decide +kernel
theorem dX5_from_63 : decode cX5_from 63 = .ok (.iload_n 3, 1) := by decide +kernel
theorem dX5_from_64 : decode cX5_from 64 = .ok (.if_icmp .ge 10, 3) := by decide +kernel
theorem dX5_from_67 : decode cX5_from 67 = .ok (.iload 6, 2) := by decide +kernel
theorem dX5_from_69 : decode cX5_from 69 = .ok (.istore_n 3, 1) := by decide +kernel
theorem dX5_from_70 : decode cX5_from 70 = .ok (.iload 5, 2) := by decide +kernel
theorem dX5_from_72 : decode cX5_from 72 = .ok (.istore 4, 2) := by decide +kernel
theorem dX5_from_74 : decode cX5_from 74 = .ok (.iinc 5 1, 3) := by decide +kernel
theorem dX5_from_77 : decode cX5_from 77 = .ok (.goto (-46), 3) := by decide +kernel
theorem dX5_from_80 : decode cX5_from 80 = .ok (.iload 4, 2) := by decide +kernel
theorem dX5_from_82 : decode cX5_from 82 = .ok (.ireturn, 1) := by decide +kernel
theorem dX5_share_0 : decode cX5_share 0 = .ok (.aload_n 0, 1) := by decide +kernel
theorem dX5_share_1 : decode cX5_share 1 = .ok (.iload_n 1, 1) := by decide +kernel
theorem dX5_share_2 : decode cX5_share 2 = .ok (.iload_n 2, 1) := by decide +kernel
theorem dX5_share_3 : decode cX5_share 3 = .ok (.iload_n 3, 1) := by decide +kernel
theorem dX5_share_4 : decode cX5_share 4 = .ok (.invokevirtual 184, 3) := by decide +kernel
theorem dX5_share_7 : decode cX5_share 7 = .ok (.ifCond .ne 9, 3) := by decide +kernel
theorem dX5_share_10 : decode cX5_share 10 = .ok (.aload_n 0, 1) := by decide +kernel
theorem dX5_share_11 : decode cX5_share 11 = .ok (.iconst 0, 1) := by decide +kernel
theorem dX5_share_12 : decode cX5_share 12 = .ok (.invokevirtual 61, 3) := by decide +kernel
theorem dX5_share_15 : decode cX5_share 15 = .ok (.ireturn, 1) := by decide +kernel
theorem dX5_share_16 : decode cX5_share 16 = .ok (.aload_n 0, 1) := by decide +kernel
theorem dX5_share_17 : decode cX5_share 17 = .ok (.iload_n 1, 1) := by decide +kernel
theorem dX5_share_18 : decode cX5_share 18 = .ok (.iload_n 2, 1) := by decide +kernel
theorem dX5_share_19 : decode cX5_share 19 = .ok (.iload_n 3, 1) := by decide +kernel
theorem dX5_share_20 : decode cX5_share 20 = .ok (.invokevirtual 188, 3) := by decide +kernel
theorem dX5_share_23 : decode cX5_share 23 = .ok (.ireturn, 1) := by decide +kernel
theorem dX5_longer_0 : decode cX5_longer 0 = .ok (.aload_n 0, 1) := by decide +kernel
theorem dX5_longer_1 : decode cX5_longer 1 = .ok (.iload_n 1, 1) := by decide +kernel
theorem dX5_longer_2 : decode cX5_longer 2 = .ok (.iload_n 2, 1) := by decide +kernel
theorem dX5_longer_3 : decode cX5_longer 3 = .ok (.iload_n 3, 1) := by decide +kernel
theorem dX5_longer_4 : decode cX5_longer 4 = .ok (.invokevirtual 184, 3) := by decide +kernel
theorem dX5_longer_7 : decode cX5_longer 7 = .ok (.ifCond .ne 9, 3) := by decide +kernel
theorem dX5_longer_10 : decode cX5_longer 10 = .ok (.aload_n 0, 1) := by decide +kernel
theorem dX5_longer_11 : decode cX5_longer 11 = .ok (.iconst 0, 1) := by decide +kernel
theorem dX5_longer_12 : decode cX5_longer 12 = .ok (.invokevirtual 61, 3) := by decide +kernel
theorem dX5_longer_15 : decode cX5_longer 15 = .ok (.ireturn, 1) := by decide +kernel
theorem dX5_longer_16 : decode cX5_longer 16 = .ok (.aload_n 0, 1) := by decide +kernel
theorem dX5_longer_17 : decode cX5_longer 17 = .ok (.aload_n 0, 1) := by decide +kernel
theorem dX5_longer_18 : decode cX5_longer 18 = .ok (.iload_n 1, 1) := by decide +kernel
theorem dX5_longer_19 : decode cX5_longer 19 = .ok (.iload_n 2, 1) := by decide +kernel
theorem dX5_longer_20 : decode cX5_longer 20 = .ok (.iload_n 3, 1) := by decide +kernel
theorem dX5_longer_21 : decode cX5_longer 21 = .ok (.invokevirtual 188, 3) := by decide +kernel
theorem dX5_longer_24 : decode cX5_longer 24 = .ok (.iload_n 3, 1) := by decide +kernel
theorem dX5_longer_25 : decode cX5_longer 25 = .ok (.invokevirtual 191, 3) := by decide +kernel
theorem dX5_longer_28 : decode cX5_longer 28 = .ok (.ireturn, 1) := by decide +kernel
theorem dX5_sign_0 : decode cX5_sign 0 = .ok (.iload_n 1, 1) := by decide +kernel
theorem dX5_sign_1 : decode cX5_sign 1 = .ok (.ifCond .eq 11, 3) := by decide +kernel
theorem dX5_sign_4 : decode cX5_sign 4 = .ok (.aload_n 0, 1) := by decide +kernel
theorem dX5_sign_5 : decode cX5_sign 5 = .ok (.iload_n 1, 1) := by decide +kernel
theorem dX5_sign_6 : decode cX5_sign 6 = .ok (.invokevirtual 169, 3) := by decide +kernel
theorem dX5_sign_9 : decode cX5_sign 9 = .ok (.ifCond .ne 9, 3) := by decide +kernel
theorem dX5_sign_12 : decode cX5_sign 12 = .ok (.aload_n 0, 1) := by decide +kernel
theorem dX5_sign_13 : decode cX5_sign 13 = .ok (.iconst 0, 1) := by decide +kernel
theorem dX5_sign_14 : decode cX5_sign 14 = .ok (.invokevirtual 61, 3) := by decide +kernel
theorem dX5_sign_17 : decode cX5_sign 17 = .ok (.ireturn, 1) := by decide +kernel
theorem dX5_sign_18 : decode cX5_sign 18 = .ok (.aload_n 0, 1) := by decide +kernel
theorem dX5_sign_19 : decode cX5_sign 19 = .ok (.getfield 10, 3) := by decide +kernel
theorem dX5_sign_22 : decode cX5_sign 22 = .ok (.getfield 194, 3) := by decide +kernel
theorem dX5_sign_25 : decode cX5_sign 25 = .ok (.bipush 6, 2) := by decide +kernel
theorem dX5_sign_27 : decode cX5_sign 27 = .ok (.if_icmp .lt 9, 3) := by decide +kernel
theorem dX5_sign_30 : decode cX5_sign 30 = .ok (.aload_n 0, 1) := by decide +kernel
theorem dX5_sign_31 : decode cX5_sign 31 = .ok (.iconst 1, 1) := by decide +kernel
theorem dX5_sign_32 : decode cX5_sign 32 = .ok (.invokevirtual 61, 3) := by decide +kernel
theorem dX5_sign_35 : decode cX5_sign 35 = .ok (.ireturn, 1) := by decide +kernel
theorem dX5_sign_36 : decode cX5_sign 36 = .ok (.aload_n 0, 1) := by decide +kernel
theorem dX5_sign_37 : decode cX5_sign 37 = .ok (.getfield 10, 3) := by decide +kernel
theorem dX5_sign_40 : decode cX5_sign 40 = .ok (.iload_n 1, 1) := by decide +kernel
theorem dX5_sign_41 : decode cX5_sign 41 = .ok (.invokevirtual 197, 3) := by decide +kernel
theorem dX5_sign_44 : decode cX5_sign 44 = .ok (.ireturn, 1) := by decide +kernel
theorem dX5_signOf_0 : decode cX5_signOf 0 = .ok (.iload_n 1, 1) := by decide +kernel
theorem dX5_signOf_1 : decode cX5_signOf 1 = .ok (.aload_n 0, 1) := by decide +kernel
theorem dX5_signOf_2 : decode cX5_signOf 2 = .ok (.getfield 10, 3) := by decide +kernel
theorem dX5_signOf_5 : decode cX5_signOf 5 = .ok (.getfield 194, 3) := by decide +kernel
theorem dX5_signOf_8 : decode cX5_signOf 8 = .ok (.invokestatic 57, 3) := by decide +kernel
theorem dX5_signOf_11 : decode cX5_signOf 11 = .ok (.ifCond .ne 9, 3) := by decide +kernel
theorem dX5_signOf_14 : decode cX5_signOf 14 = .ok (.aload_n 0, 1) := by decide +kernel
theorem dX5_signOf_15 : decode cX5_signOf 15 = .ok (.iconst 0, 1) := by decide +kernel
theorem dX5_signOf_16 : decode cX5_signOf 16 = .ok (.invokevirtual 61, 3) := by decide +kernel
theorem dX5_signOf_19 : decode cX5_signOf 19 = .ok (.ireturn, 1) := by decide +kernel
theorem dX5_signOf_20 : decode cX5_signOf 20 = .ok (.aload_n 0, 1) := by decide +kernel
theorem dX5_signOf_21 : decode cX5_signOf 21 = .ok (.getfield 10, 3) := by decide +kernel
theorem dX5_signOf_24 : decode cX5_signOf 24 = .ok (.getfield 200, 3) := by decide +kernel
theorem dX5_signOf_27 : decode cX5_signOf 27 = .ok (.iload_n 1, 1) := by decide +kernel
theorem dX5_signOf_28 : decode cX5_signOf 28 = .ok (.iaload, 1) := by decide +kernel
theorem dX5_signOf_29 : decode cX5_signOf 29 = .ok (.ireturn, 1) := by decide +kernel
theorem dX5_may_0 : decode cX5_may 0 = .ok (.aload_n 0, 1) := by decide +kernel
theorem dX5_may_1 : decode cX5_may 1 = .ok (.iload_n 1, 1) := by decide +kernel
theorem dX5_may_2 : decode cX5_may 2 = .ok (.invokevirtual 169, 3) := by decide +kernel
theorem dX5_may_5 : decode cX5_may 5 = .ok (.ifCond .ne 9, 3) := by decide +kernel
theorem dX5_may_8 : decode cX5_may 8 = .ok (.aload_n 0, 1) := by decide +kernel
theorem dX5_may_9 : decode cX5_may 9 = .ok (.iconst 0, 1) := by decide +kernel
theorem dX5_may_10 : decode cX5_may 10 = .ok (.invokevirtual 61, 3) := by decide +kernel
theorem dX5_may_13 : decode cX5_may 13 = .ok (.ireturn, 1) := by decide +kernel
theorem dX5_may_14 : decode cX5_may 14 = .ok (.aload_n 0, 1) := by decide +kernel
theorem dX5_may_15 : decode cX5_may 15 = .ok (.getfield 10, 3) := by decide +kernel
theorem dX5_may_18 : decode cX5_may 18 = .ok (.iload_n 1, 1) := by decide +kernel
theorem dX5_may_19 : decode cX5_may 19 = .ok (.invokevirtual 203, 3) := by decide +kernel
theorem dX5_may_22 : decode cX5_may 22 = .ok (.ireturn, 1) := by decide +kernel
theorem dX5_tells_0 : decode cX5_tells 0 = .ok (.iload_n 1, 1) := by decide +kernel
theorem dX5_tells_1 : decode cX5_tells 1 = .ok (.aload_n 0, 1) := by decide +kernel
theorem dX5_tells_2 : decode cX5_tells 2 = .ok (.getfield 10, 3) := by decide +kernel
theorem dX5_tells_5 : decode cX5_tells 5 = .ok (.getfield 194, 3) := by decide +kernel
theorem dX5_tells_8 : decode cX5_tells 8 = .ok (.invokestatic 57, 3) := by decide +kernel
theorem dX5_tells_11 : decode cX5_tells 11 = .ok (.ifCond .ne 9, 3) := by decide +kernel
theorem dX5_tells_14 : decode cX5_tells 14 = .ok (.aload_n 0, 1) := by decide +kernel
theorem dX5_tells_15 : decode cX5_tells 15 = .ok (.iconst 0, 1) := by decide +kernel
theorem dX5_tells_16 : decode cX5_tells 16 = .ok (.invokevirtual 61, 3) := by decide +kernel
theorem dX5_tells_19 : decode cX5_tells 19 = .ok (.ireturn, 1) := by decide +kernel
theorem dX5_tells_20 : decode cX5_tells 20 = .ok (.aload_n 0, 1) := by decide +kernel
theorem dX5_tells_21 : decode cX5_tells 21 = .ok (.getfield 10, 3) := by decide +kernel
theorem dX5_tells_24 : decode cX5_tells 24 = .ok (.getfield 200, 3) := by decide +kernel
theorem dX5_tells_27 : decode cX5_tells 27 = .ok (.iload_n 1, 1) := by decide +kernel
theorem dX5_tells_28 : decode cX5_tells 28 = .ok (.iaload, 1) := by decide +kernel
theorem dX5_tells_29 : decode cX5_tells 29 = .ok (.istore_n 2, 1) := by decide +kernel
theorem dX5_tells_30 : decode cX5_tells 30 = .ok (.bipush 11, 2) := by decide +kernel
theorem dX5_tells_32 : decode cX5_tells 32 = .ok (.istore_n 3, 1) := by decide +kernel
theorem dX5_tells_33 : decode cX5_tells 33 = .ok (.iconst 0, 1) := by decide +kernel
theorem dX5_tells_34 : decode cX5_tells 34 = .ok (.istore 4, 2) := by decide +kernel
theorem dX5_tells_36 : decode cX5_tells 36 = .ok (.iconst 0, 1) := by decide +kernel
theorem dX5_tells_37 : decode cX5_tells 37 = .ok (.istore 5, 2) := by decide +kernel
theorem dX5_tells_39 : decode cX5_tells 39 = .ok (.iload 5, 2) := by decide +kernel
theorem dX5_tells_41 : decode cX5_tells 41 = .ok (.iload_n 2, 1) := by decide +kernel
theorem dX5_tells_42 : decode cX5_tells 42 = .ok (.if_icmp .gt 64, 3) := by decide +kernel
theorem dX5_tells_45 : decode cX5_tells 45 = .ok (.iload 5, 2) := by decide +kernel
theorem dX5_tells_47 : decode cX5_tells 47 = .ok (.iload_n 2, 1) := by decide +kernel
theorem dX5_tells_48 : decode cX5_tells 48 = .ok (.iconst (-1), 1) := by decide +kernel
theorem dX5_tells_49 : decode cX5_tells 49 = .ok (.ixor, 1) := by decide +kernel
theorem dX5_tells_50 : decode cX5_tells 50 = .ok (.iand, 1) := by decide +kernel
theorem dX5_tells_51 : decode cX5_tells 51 = .ok (.ifCond .ne 7, 3) := by decide +kernel
theorem dX5_tells_54 : decode cX5_tells 54 = .ok (.iconst 1, 1) := by decide +kernel
theorem dX5_tells_55 : decode cX5_tells 55 = .ok (.goto 4, 3) := by decide +kernel
theorem dX5_tells_58 : decode cX5_tells 58 = .ok (.iconst 0, 1) := by decide +kernel
theorem dX5_tells_59 : decode cX5_tells 59 = .ok (.istore 6, 2) := by decide +kernel
theorem dX5_tells_61 : decode cX5_tells 61 = .ok (.iload 6, 2) := by decide +kernel
theorem dX5_tells_63 : decode cX5_tells 63 = .ok (.ifCond .eq 37, 3) := by decide +kernel
theorem dX5_tells_66 : decode cX5_tells 66 = .ok (.iload 5, 2) := by decide +kernel
theorem dX5_tells_68 : decode cX5_tells 68 = .ok (.invokestatic 130, 3) := by decide +kernel
theorem dX5_tells_71 : decode cX5_tells 71 = .ok (.iload_n 3, 1) := by decide +kernel
theorem dX5_tells_72 : decode cX5_tells 72 = .ok (.if_icmp .ge 28, 3) := by decide +kernel
theorem dX5_tells_75 : decode cX5_tells 75 = .ok (.aload_n 0, 1) := by decide +kernel
theorem dX5_tells_76 : decode cX5_tells 76 = .ok (.getfield 10, 3) := by decide +kernel
theorem dX5_tells_79 : decode cX5_tells 79 = .ok (.iload 5, 2) := by decide +kernel
theorem dX5_tells_81 : decode cX5_tells 81 = .ok (.invokevirtual 203, 3) := by decide +kernel
theorem dX5_tells_84 : decode cX5_tells 84 = .ok (.iconst 1, 1) := by decide +kernel
theorem dX5_tells_85 : decode cX5_tells 85 = .ok (.iload_n 1, 1) := by decide +kernel
theorem dX5_tells_86 : decode cX5_tells 86 = .ok (.ishl, 1) := by decide +kernel
theorem dX5_tells_87 : decode cX5_tells 87 = .ok (.if_icmp .ne 13, 3) := by decide +kernel
theorem dX5_tells_90 : decode cX5_tells 90 = .ok (.iload 5, 2) := by decide +kernel
theorem dX5_tells_92 : decode cX5_tells 92 = .ok (.invokestatic 130, 3) := by decide +kernel
theorem dX5_tells_95 : decode cX5_tells 95 = .ok (.istore_n 3, 1) := by decide +kernel
theorem dX5_tells_96 : decode cX5_tells 96 = .ok (.iload 5, 2) := by decide +kernel
theorem dX5_tells_98 : decode cX5_tells 98 = .ok (.istore 4, 2) := by decide +kernel
theorem dX5_tells_100 : decode cX5_tells 100 = .ok (.iinc 5 1, 3) := by decide +kernel
theorem dX5_tells_103 : decode cX5_tells 103 = .ok (.goto (-64), 3) := by decide +kernel
theorem dX5_tells_106 : decode cX5_tells 106 = .ok (.iload_n 3, 1) := by decide +kernel
theorem dX5_tells_107 : decode cX5_tells 107 = .ok (.bipush 10, 2) := by decide +kernel
theorem dX5_tells_109 : decode cX5_tells 109 = .ok (.if_icmp .le 11, 3) := by decide +kernel
theorem dX5_tells_112 : decode cX5_tells 112 = .ok (.aload_n 0, 1) := by decide +kernel
theorem dX5_tells_113 : decode cX5_tells 113 = .ok (.iconst 3, 1) := by decide +kernel
theorem dX5_tells_114 : decode cX5_tells 114 = .ok (.invokevirtual 61, 3) := by decide +kernel
theorem dX5_tells_117 : decode cX5_tells 117 = .ok (.goto 5, 3) := by decide +kernel
theorem dX5_tells_120 : decode cX5_tells 120 = .ok (.iload 4, 2) := by decide +kernel
theorem dX5_tells_122 : decode cX5_tells 122 = .ok (.ireturn, 1) := by decide +kernel
theorem dX5_told_0 : decode cX5_told 0 = .ok (.aload_n 0, 1) := by decide +kernel
theorem dX5_told_1 : decode cX5_told 1 = .ok (.getfield 10, 3) := by decide +kernel
theorem dX5_told_4 : decode cX5_told 4 = .ok (.aload_n 0, 1) := by decide +kernel
theorem dX5_told_5 : decode cX5_told 5 = .ok (.getfield 10, 3) := by decide +kernel
theorem dX5_told_8 : decode cX5_told 8 = .ok (.getfield 80, 3) := by decide +kernel
theorem dX5_told_11 : decode cX5_told 11 = .ok (.invokevirtual 126, 3) := by decide +kernel
theorem dX5_told_14 : decode cX5_told 14 = .ok (.istore_n 1, 1) := by decide +kernel
theorem dX5_told_15 : decode cX5_told 15 = .ok (.iconst 0, 1) := by decide +kernel
theorem dX5_told_16 : decode cX5_told 16 = .ok (.istore_n 2, 1) := by decide +kernel
theorem dX5_told_17 : decode cX5_told 17 = .ok (.iconst 0, 1) := by decide +kernel
theorem dX5_told_18 : decode cX5_told 18 = .ok (.istore_n 3, 1) := by decide +kernel
theorem dX5_told_19 : decode cX5_told 19 = .ok (.iload_n 3, 1) := by decide +kernel
theorem dX5_told_20 : decode cX5_told 20 = .ok (.aload_n 0, 1) := by decide +kernel
theorem dX5_told_21 : decode cX5_told 21 = .ok (.getfield 10, 3) := by decide +kernel
theorem dX5_told_24 : decode cX5_told 24 = .ok (.getfield 194, 3) := by decide +kernel
theorem dX5_told_27 : decode cX5_told 27 = .ok (.if_icmp .ge 39, 3) := by decide +kernel
theorem dX5_told_30 : decode cX5_told 30 = .ok (.aload_n 0, 1) := by decide +kernel
theorem dX5_told_31 : decode cX5_told 31 = .ok (.getfield 10, 3) := by decide +kernel
theorem dX5_told_34 : decode cX5_told 34 = .ok (.aload_n 0, 1) := by decide +kernel
theorem dX5_told_35 : decode cX5_told 35 = .ok (.getfield 10, 3) := by decide +kernel
theorem dX5_told_38 : decode cX5_told 38 = .ok (.getfield 200, 3) := by decide +kernel
theorem dX5_told_41 : decode cX5_told 41 = .ok (.iload_n 3, 1) := by decide +kernel
theorem dX5_told_42 : decode cX5_told 42 = .ok (.iaload, 1) := by decide +kernel
theorem dX5_told_43 : decode cX5_told 43 = .ok (.iload_n 1, 1) := by decide +kernel
theorem dX5_told_44 : decode cX5_told 44 = .ok (.iand, 1) := by decide +kernel
theorem dX5_told_45 : decode cX5_told 45 = .ok (.invokevirtual 203, 3) := by decide +kernel
theorem dX5_told_48 : decode cX5_told 48 = .ok (.iconst 1, 1) := by decide +kernel
theorem dX5_told_49 : decode cX5_told 49 = .ok (.iload_n 3, 1) := by decide +kernel
theorem dX5_told_50 : decode cX5_told 50 = .ok (.ishl, 1) := by decide +kernel
theorem dX5_told_51 : decode cX5_told 51 = .ok (.if_icmp .ne 9, 3) := by decide +kernel
theorem dX5_told_54 : decode cX5_told 54 = .ok (.iload_n 2, 1) := by decide +kernel
theorem dX5_told_55 : decode cX5_told 55 = .ok (.iconst 1, 1) := by decide +kernel
theorem dX5_told_56 : decode cX5_told 56 = .ok (.iload_n 3, 1) := by decide +kernel
theorem dX5_told_57 : decode cX5_told 57 = .ok (.ishl, 1) := by decide +kernel
theorem dX5_told_58 : decode cX5_told 58 = .ok (.ior, 1) := by decide +kernel
theorem dX5_told_59 : decode cX5_told 59 = .ok (.istore_n 2, 1) := by decide +kernel
theorem dX5_told_60 : decode cX5_told 60 = .ok (.iinc 3 1, 3) := by decide +kernel
theorem dX5_told_63 : decode cX5_told 63 = .ok (.goto (-44), 3) := by decide +kernel
theorem dX5_told_66 : decode cX5_told 66 = .ok (.iload_n 2, 1) := by decide +kernel
theorem dX5_told_67 : decode cX5_told 67 = .ok (.ireturn, 1) := by decide +kernel
theorem dX5_steers_0 : decode cX5_steers 0 = .ok (.iload_n 1, 1) := by decide +kernel
theorem dX5_steers_1 : decode cX5_steers 1 = .ok (.bipush 100, 2) := by decide +kernel
theorem dX5_steers_3 : decode cX5_steers 3 = .ok (.invokestatic 57, 3) := by decide +kernel
theorem dX5_steers_6 : decode cX5_steers 6 = .ok (.ifCond .ne 9, 3) := by decide +kernel
theorem dX5_steers_9 : decode cX5_steers 9 = .ok (.aload_n 0, 1) := by decide +kernel
theorem dX5_steers_10 : decode cX5_steers 10 = .ok (.iconst 0, 1) := by decide +kernel
theorem dX5_steers_11 : decode cX5_steers 11 = .ok (.invokevirtual 61, 3) := by decide +kernel
theorem dX5_steers_14 : decode cX5_steers 14 = .ok (.ireturn, 1) := by decide +kernel
theorem dX5_steers_15 : decode cX5_steers 15 = .ok (.aload_n 0, 1) := by decide +kernel
theorem dX5_steers_16 : decode cX5_steers 16 = .ok (.getfield 10, 3) := by decide +kernel
theorem dX5_steers_19 : decode cX5_steers 19 = .ok (.aload_n 0, 1) := by decide +kernel
theorem dX5_steers_20 : decode cX5_steers 20 = .ok (.getfield 10, 3) := by decide +kernel
theorem dX5_steers_23 : decode cX5_steers 23 = .ok (.aload_n 0, 1) := by decide +kernel
theorem dX5_steers_24 : decode cX5_steers 24 = .ok (.getfield 10, 3) := by decide +kernel
theorem dX5_steers_27 : decode cX5_steers 27 = .ok (.getfield 80, 3) := by decide +kernel
theorem dX5_steers_30 : decode cX5_steers 30 = .ok (.invokevirtual 126, 3) := by decide +kernel
theorem dX5_steers_33 : decode cX5_steers 33 = .ok (.iload_n 1, 1) := by decide +kernel
theorem dX5_steers_34 : decode cX5_steers 34 = .ok (.invokevirtual 206, 3) := by decide +kernel
theorem dX5_steers_37 : decode cX5_steers 37 = .ok (.istore_n 2, 1) := by decide +kernel
theorem dX5_steers_38 : decode cX5_steers 38 = .ok (.iload_n 2, 1) := by decide +kernel
theorem dX5_steers_39 : decode cX5_steers 39 = .ok (.ifCond .ge 11, 3) := by decide +kernel
theorem dX5_steers_42 : decode cX5_steers 42 = .ok (.aload_n 0, 1) := by decide +kernel
theorem dX5_steers_43 : decode cX5_steers 43 = .ok (.iconst 3, 1) := by decide +kernel
theorem dX5_steers_44 : decode cX5_steers 44 = .ok (.invokevirtual 61, 3) := by decide +kernel
theorem dX5_steers_47 : decode cX5_steers 47 = .ok (.goto 4, 3) := by decide +kernel
theorem dX5_steers_50 : decode cX5_steers 50 = .ok (.iload_n 2, 1) := by decide +kernel
theorem dX5_steers_51 : decode cX5_steers 51 = .ok (.ireturn, 1) := by decide +kernel
theorem dX5_sees_0 : decode cX5_sees 0 = .ok (.iload_n 1, 1) := by decide +kernel
theorem dX5_sees_1 : decode cX5_sees 1 = .ok (.aload_n 0, 1) := by decide +kernel
theorem dX5_sees_2 : decode cX5_sees 2 = .ok (.getfield 10, 3) := by decide +kernel
theorem dX5_sees_5 : decode cX5_sees 5 = .ok (.getfield 65, 3) := by decide +kernel
theorem dX5_sees_8 : decode cX5_sees 8 = .ok (.invokestatic 57, 3) := by decide +kernel
theorem dX5_sees_11 : decode cX5_sees 11 = .ok (.ifCond .ne 9, 3) := by decide +kernel
theorem dX5_sees_14 : decode cX5_sees 14 = .ok (.aload_n 0, 1) := by decide +kernel
theorem dX5_sees_15 : decode cX5_sees 15 = .ok (.iconst 0, 1) := by decide +kernel
theorem dX5_sees_16 : decode cX5_sees 16 = .ok (.invokevirtual 61, 3) := by decide +kernel
theorem dX5_sees_19 : decode cX5_sees 19 = .ok (.ireturn, 1) := by decide +kernel
theorem dX5_sees_20 : decode cX5_sees 20 = .ok (.aload_n 0, 1) := by decide +kernel
theorem dX5_sees_21 : decode cX5_sees 21 = .ok (.getfield 10, 3) := by decide +kernel
theorem dX5_sees_24 : decode cX5_sees 24 = .ok (.aload_n 0, 1) := by decide +kernel
theorem dX5_sees_25 : decode cX5_sees 25 = .ok (.getfield 10, 3) := by decide +kernel
theorem dX5_sees_28 : decode cX5_sees 28 = .ok (.getfield 80, 3) := by decide +kernel
theorem dX5_sees_31 : decode cX5_sees 31 = .ok (.invokevirtual 126, 3) := by decide +kernel
theorem dX5_sees_34 : decode cX5_sees 34 = .ok (.istore_n 2, 1) := by decide +kernel
theorem dX5_sees_35 : decode cX5_sees 35 = .ok (.iconst 0, 1) := by decide +kernel
theorem dX5_sees_36 : decode cX5_sees 36 = .ok (.istore_n 3, 1) := by decide +kernel
theorem dX5_sees_37 : decode cX5_sees 37 = .ok (.iconst 0, 1) := by decide +kernel
theorem dX5_sees_38 : decode cX5_sees 38 = .ok (.istore 4, 2) := by decide +kernel
theorem dX5_sees_40 : decode cX5_sees 40 = .ok (.iload 4, 2) := by decide +kernel
theorem dX5_sees_42 : decode cX5_sees 42 = .ok (.bipush 100, 2) := by decide +kernel
theorem dX5_sees_44 : decode cX5_sees 44 = .ok (.if_icmp .ge 26, 3) := by decide +kernel
theorem dX5_sees_47 : decode cX5_sees 47 = .ok (.aload_n 0, 1) := by decide +kernel
theorem dX5_sees_48 : decode cX5_sees 48 = .ok (.getfield 10, 3) := by decide +kernel
theorem dX5_sees_51 : decode cX5_sees 51 = .ok (.iload_n 2, 1) := by decide +kernel
theorem dX5_sees_52 : decode cX5_sees 52 = .ok (.iload 4, 2) := by decide +kernel
theorem dX5_sees_54 : decode cX5_sees 54 = .ok (.invokevirtual 206, 3) := by decide +kernel
theorem dX5_sees_57 : decode cX5_sees 57 = .ok (.iload_n 1, 1) := by decide +kernel
theorem dX5_sees_58 : decode cX5_sees 58 = .ok (.if_icmp .ne 6, 3) := by decide +kernel
theorem dX5_sees_61 : decode cX5_sees 61 = .ok (.iinc 3 1, 3) := by decide +kernel
theorem dX5_sees_64 : decode cX5_sees 64 = .ok (.iinc 4 1, 3) := by decide +kernel
theorem dX5_sees_67 : decode cX5_sees 67 = .ok (.goto (-27), 3) := by decide +kernel
theorem dX5_sees_70 : decode cX5_sees 70 = .ok (.iload_n 3, 1) := by decide +kernel
theorem dX5_sees_71 : decode cX5_sees 71 = .ok (.ireturn, 1) := by decide +kernel
theorem dX5_which_0 : decode cX5_which 0 = .ok (.aload_n 0, 1) := by decide +kernel
theorem dX5_which_1 : decode cX5_which 1 = .ok (.iload_n 1, 1) := by decide +kernel
theorem dX5_which_2 : decode cX5_which 2 = .ok (.invokevirtual 209, 3) := by decide +kernel
theorem dX5_which_5 : decode cX5_which 5 = .ok (.istore_n 2, 1) := by decide +kernel
theorem dX5_which_6 : decode cX5_which 6 = .ok (.iload_n 2, 1) := by decide +kernel
theorem dX5_which_7 : decode cX5_which 7 = .ok (.ifCond .eq 5, 3) := by decide +kernel
theorem dX5_which_10 : decode cX5_which 10 = .ok (.iload_n 2, 1) := by decide +kernel
theorem dX5_which_11 : decode cX5_which 11 = .ok (.ireturn, 1) := by decide +kernel
theorem dX5_which_12 : decode cX5_which 12 = .ok (.iconst 0, 1) := by decide +kernel
theorem dX5_which_13 : decode cX5_which 13 = .ok (.istore_n 3, 1) := by decide +kernel
theorem dX5_which_14 : decode cX5_which 14 = .ok (.iconst 0, 1) := by decide +kernel
theorem dX5_which_15 : decode cX5_which 15 = .ok (.istore 4, 2) := by decide +kernel
theorem dX5_which_17 : decode cX5_which 17 = .ok (.iload 4, 2) := by decide +kernel
theorem dX5_which_19 : decode cX5_which 19 = .ok (.aload_n 0, 1) := by decide +kernel
theorem dX5_which_20 : decode cX5_which 20 = .ok (.getfield 10, 3) := by decide +kernel
theorem dX5_which_23 : decode cX5_which 23 = .ok (.getfield 65, 3) := by decide +kernel
theorem dX5_which_26 : decode cX5_which 26 = .ok (.if_icmp .ge 41, 3) := by decide +kernel
theorem dX5_which_29 : decode cX5_which 29 = .ok (.aload_n 0, 1) := by decide +kernel
theorem dX5_which_30 : decode cX5_which 30 = .ok (.aload_n 0, 1) := by decide +kernel
theorem dX5_which_31 : decode cX5_which 31 = .ok (.getfield 35, 3) := by decide +kernel
theorem dX5_which_34 : decode cX5_which 34 = .ok (.iload_n 1, 1) := by decide +kernel
theorem dX5_which_35 : decode cX5_which 35 = .ok (.aaload, 1) := by decide +kernel
theorem dX5_which_36 : decode cX5_which 36 = .ok (.iload 4, 2) := by decide +kernel
theorem dX5_which_38 : decode cX5_which 38 = .ok (.aload_n 0, 1) := by decide +kernel
theorem dX5_which_39 : decode cX5_which 39 = .ok (.getfield 10, 3) := by decide +kernel
theorem dX5_which_42 : decode cX5_which 42 = .ok (.getfield 77, 3) := by decide +kernel
theorem dX5_which_45 : decode cX5_which 45 = .ok (.iload 4, 2) := by decide +kernel
theorem dX5_which_47 : decode cX5_which 47 = .ok (.iaload, 1) := by decide +kernel
theorem dX5_which_48 : decode cX5_which 48 = .ok (.invokevirtual 212, 3) := by decide +kernel
theorem dX5_which_51 : decode cX5_which 51 = .ok (.ifCond .eq 10, 3) := by decide +kernel
theorem dX5_which_54 : decode cX5_which 54 = .ok (.iload_n 3, 1) := by decide +kernel
theorem dX5_which_55 : decode cX5_which 55 = .ok (.iconst 1, 1) := by decide +kernel
theorem dX5_which_56 : decode cX5_which 56 = .ok (.iload 4, 2) := by decide +kernel
theorem dX5_which_58 : decode cX5_which 58 = .ok (.ishl, 1) := by decide +kernel
theorem dX5_which_59 : decode cX5_which 59 = .ok (.ior, 1) := by decide +kernel
theorem dX5_which_60 : decode cX5_which 60 = .ok (.istore_n 3, 1) := by decide +kernel
theorem dX5_which_61 : decode cX5_which 61 = .ok (.iinc 4 1, 3) := by decide +kernel
theorem dX5_which_64 : decode cX5_which 64 = .ok (.goto (-47), 3) := by decide +kernel
theorem dX5_which_67 : decode cX5_which 67 = .ok (.iload_n 3, 1) := by decide +kernel
theorem dX5_which_68 : decode cX5_which 68 = .ok (.ireturn, 1) := by decide +kernel
theorem dX5_kinds_0 : decode cX5_kinds 0 = .ok (.aload_n 0, 1) := by decide +kernel
theorem dX5_kinds_1 : decode cX5_kinds 1 = .ok (.iload_n 1, 1) := by decide +kernel
theorem dX5_kinds_2 : decode cX5_kinds 2 = .ok (.invokevirtual 209, 3) := by decide +kernel
theorem dX5_kinds_5 : decode cX5_kinds 5 = .ok (.istore_n 3, 1) := by decide +kernel
theorem dX5_kinds_6 : decode cX5_kinds 6 = .ok (.iload_n 3, 1) := by decide +kernel
theorem dX5_kinds_7 : decode cX5_kinds 7 = .ok (.ifCond .eq 5, 3) := by decide +kernel
theorem dX5_kinds_10 : decode cX5_kinds 10 = .ok (.iload_n 3, 1) := by decide +kernel
theorem dX5_kinds_11 : decode cX5_kinds 11 = .ok (.ireturn, 1) := by decide +kernel
theorem dX5_kinds_12 : decode cX5_kinds 12 = .ok (.iload_n 2, 1) := by decide +kernel
theorem dX5_kinds_13 : decode cX5_kinds 13 = .ok (.aload_n 0, 1) := by decide +kernel
theorem dX5_kinds_14 : decode cX5_kinds 14 = .ok (.getfield 10, 3) := by decide +kernel
theorem dX5_kinds_17 : decode cX5_kinds 17 = .ok (.getfield 65, 3) := by decide +kernel
theorem dX5_kinds_20 : decode cX5_kinds 20 = .ok (.invokestatic 57, 3) := by decide +kernel
theorem dX5_kinds_23 : decode cX5_kinds 23 = .ok (.ifCond .ne 9, 3) := by decide +kernel
theorem dX5_kinds_26 : decode cX5_kinds 26 = .ok (.aload_n 0, 1) := by decide +kernel
theorem dX5_kinds_27 : decode cX5_kinds 27 = .ok (.iconst 0, 1) := by decide +kernel
theorem dX5_kinds_28 : decode cX5_kinds 28 = .ok (.invokevirtual 61, 3) := by decide +kernel
theorem dX5_kinds_31 : decode cX5_kinds 31 = .ok (.ireturn, 1) := by decide +kernel
theorem dX5_kinds_32 : decode cX5_kinds 32 = .ok (.iconst 0, 1) := by decide +kernel
theorem dX5_kinds_33 : decode cX5_kinds 33 = .ok (.istore 4, 2) := by decide +kernel
theorem dX5_kinds_35 : decode cX5_kinds 35 = .ok (.iconst 0, 1) := by decide +kernel
theorem dX5_kinds_36 : decode cX5_kinds 36 = .ok (.istore 5, 2) := by decide +kernel
theorem dX5_kinds_38 : decode cX5_kinds 38 = .ok (.iload 5, 2) := by decide +kernel
theorem dX5_kinds_40 : decode cX5_kinds 40 = .ok (.bipush 7, 2) := by decide +kernel
theorem dX5_kinds_42 : decode cX5_kinds 42 = .ok (.if_icmp .ge 28, 3) := by decide +kernel
theorem dX5_kinds_45 : decode cX5_kinds 45 = .ok (.aload_n 0, 1) := by decide +kernel
theorem dX5_kinds_46 : decode cX5_kinds 46 = .ok (.aload_n 0, 1) := by decide +kernel
theorem dX5_kinds_47 : decode cX5_kinds 47 = .ok (.getfield 35, 3) := by decide +kernel
theorem dX5_kinds_50 : decode cX5_kinds 50 = .ok (.iload_n 1, 1) := by decide +kernel
theorem dX5_kinds_51 : decode cX5_kinds 51 = .ok (.aaload, 1) := by decide +kernel
theorem dX5_kinds_52 : decode cX5_kinds 52 = .ok (.iload_n 2, 1) := by decide +kernel
theorem dX5_kinds_53 : decode cX5_kinds 53 = .ok (.iload 5, 2) := by decide +kernel
theorem dX5_kinds_55 : decode cX5_kinds 55 = .ok (.invokevirtual 212, 3) := by decide +kernel
theorem dX5_kinds_58 : decode cX5_kinds 58 = .ok (.ifCond .eq 6, 3) := by decide +kernel
theorem dX5_kinds_61 : decode cX5_kinds 61 = .ok (.iinc 4 1, 3) := by decide +kernel
theorem dX5_kinds_64 : decode cX5_kinds 64 = .ok (.iinc 5 1, 3) := by decide +kernel
theorem dX5_kinds_67 : decode cX5_kinds 67 = .ok (.goto (-29), 3) := by decide +kernel
theorem dX5_kinds_70 : decode cX5_kinds 70 = .ok (.iload 4, 2) := by decide +kernel
theorem dX5_kinds_72 : decode cX5_kinds 72 = .ok (.ireturn, 1) := by decide +kernel
theorem dX5_drops_0 : decode cX5_drops 0 = .ok (.iload_n 1, 1) := by decide +kernel
theorem dX5_drops_1 : decode cX5_drops 1 = .ok (.iconst 1, 1) := by decide +kernel
theorem dX5_drops_2 : decode cX5_drops 2 = .ok (.if_icmp .lt 9, 3) := by decide +kernel
theorem dX5_drops_5 : decode cX5_drops 5 = .ok (.iload_n 1, 1) := by decide +kernel
theorem dX5_drops_6 : decode cX5_drops 6 = .ok (.bipush 20, 2) := by decide +kernel
theorem dX5_drops_8 : decode cX5_drops 8 = .ok (.if_icmp .le 9, 3) := by decide +kernel
theorem dX5_drops_11 : decode cX5_drops 11 = .ok (.aload_n 0, 1) := by decide +kernel
theorem dX5_drops_12 : decode cX5_drops 12 = .ok (.iconst 0, 1) := by decide +kernel
theorem dX5_drops_13 : decode cX5_drops 13 = .ok (.invokevirtual 61, 3) := by decide +kernel
theorem dX5_drops_16 : decode cX5_drops 16 = .ok (.ireturn, 1) := by decide +kernel
theorem dX5_drops_17 : decode cX5_drops 17 = .ok (.aload_n 0, 1) := by decide +kernel
theorem dX5_drops_18 : decode cX5_drops 18 = .ok (.getfield 10, 3) := by decide +kernel
theorem dX5_drops_21 : decode cX5_drops 21 = .ok (.getfield 119, 3) := by decide +kernel
theorem dX5_drops_24 : decode cX5_drops 24 = .ok (.iload_n 1, 1) := by decide +kernel
theorem dX5_drops_25 : decode cX5_drops 25 = .ok (.iadd, 1) := by decide +kernel
theorem dX5_drops_26 : decode cX5_drops 26 = .ok (.ldc 122, 2) := by decide +kernel
theorem dX5_drops_28 : decode cX5_drops 28 = .ok (.if_icmp .le 9, 3) := by decide +kernel
theorem dX5_drops_31 : decode cX5_drops 31 = .ok (.aload_n 0, 1) := by decide +kernel
theorem dX5_drops_32 : decode cX5_drops 32 = .ok (.iconst 4, 1) := by decide +kernel
theorem dX5_drops_33 : decode cX5_drops 33 = .ok (.invokevirtual 61, 3) := by decide +kernel
theorem dX5_drops_36 : decode cX5_drops 36 = .ok (.ireturn, 1) := by decide +kernel
theorem dX5_drops_37 : decode cX5_drops 37 = .ok (.iconst 0, 1) := by decide +kernel
theorem dX5_drops_38 : decode cX5_drops 38 = .ok (.istore_n 2, 1) := by decide +kernel
theorem dX5_drops_39 : decode cX5_drops 39 = .ok (.iconst 0, 1) := by decide +kernel
theorem dX5_drops_40 : decode cX5_drops 40 = .ok (.istore_n 3, 1) := by decide +kernel
theorem dX5_drops_41 : decode cX5_drops 41 = .ok (.iload_n 3, 1) := by decide +kernel
theorem dX5_drops_42 : decode cX5_drops 42 = .ok (.iload_n 1, 1) := by decide +kernel
theorem dX5_drops_43 : decode cX5_drops 43 = .ok (.if_icmp .ge 57, 3) := by decide +kernel
theorem dX5_drops_46 : decode cX5_drops 46 = .ok (.aload_n 0, 1) := by decide +kernel
theorem dX5_drops_47 : decode cX5_drops 47 = .ok (.getfield 10, 3) := by decide +kernel
theorem dX5_drops_50 : decode cX5_drops 50 = .ok (.invokevirtual 216, 3) := by decide +kernel
theorem dX5_drops_53 : decode cX5_drops 53 = .ok (.bipush 16, 2) := by decide +kernel
theorem dX5_drops_55 : decode cX5_drops 55 = .ok (.irem, 1) := by decide +kernel
theorem dX5_drops_56 : decode cX5_drops 56 = .ok (.istore 4, 2) := by decide +kernel
theorem dX5_drops_58 : decode cX5_drops 58 = .ok (.iload 4, 2) := by decide +kernel
theorem dX5_drops_60 : decode cX5_drops 60 = .ok (.aload_n 0, 1) := by decide +kernel
theorem dX5_drops_61 : decode cX5_drops 61 = .ok (.getfield 10, 3) := by decide +kernel
theorem dX5_drops_64 : decode cX5_drops 64 = .ok (.getfield 65, 3) := by decide +kernel
theorem dX5_drops_67 : decode cX5_drops 67 = .ok (.invokestatic 57, 3) := by decide +kernel
theorem dX5_drops_70 : decode cX5_drops 70 = .ok (.ifCond .eq 17, 3) := by decide +kernel
theorem dX5_drops_73 : decode cX5_drops 73 = .ok (.aload_n 0, 1) := by decide +kernel
theorem dX5_drops_74 : decode cX5_drops 74 = .ok (.getfield 10, 3) := by decide +kernel
theorem dX5_drops_77 : decode cX5_drops 77 = .ok (.getfield 80, 3) := by decide +kernel
theorem dX5_drops_80 : decode cX5_drops 80 = .ok (.iload 4, 2) := by decide +kernel
theorem dX5_drops_82 : decode cX5_drops 82 = .ok (.iconst 0, 1) := by decide +kernel
theorem dX5_drops_83 : decode cX5_drops 83 = .ok (.iastore, 1) := by decide +kernel
theorem dX5_drops_84 : decode cX5_drops 84 = .ok (.iinc 2 1, 3) := by decide +kernel
theorem dX5_drops_87 : decode cX5_drops 87 = .ok (.aload_n 0, 1) := by decide +kernel
theorem dX5_drops_88 : decode cX5_drops 88 = .ok (.getfield 10, 3) := by decide +kernel
theorem dX5_drops_91 : decode cX5_drops 91 = .ok (.invokevirtual 123, 3) := by decide +kernel
theorem dX5_drops_94 : decode cX5_drops 94 = .ok (.iinc 3 1, 3) := by decide +kernel
theorem dX5_drops_97 : decode cX5_drops 97 = .ok (.goto (-56), 3) := by decide +kernel
theorem dX5_drops_100 : decode cX5_drops 100 = .ok (.iload_n 2, 1) := by decide +kernel
theorem dX5_drops_101 : decode cX5_drops 101 = .ok (.ireturn, 1) := by decide +kernel
theorem dX5_odds_0 : decode cX5_odds 0 = .ok (.iload_n 1, 1) := by decide +kernel
theorem dX5_odds_1 : decode cX5_odds 1 = .ok (.bipush 14, 2) := by decide +kernel
theorem dX5_odds_3 : decode cX5_odds 3 = .ok (.invokestatic 99, 3) := by decide +kernel
theorem dX5_odds_6 : decode cX5_odds 6 = .ok (.ifCond .eq 11, 3) := by decide +kernel
theorem dX5_odds_9 : decode cX5_odds 9 = .ok (.iload_n 2, 1) := by decide +kernel
theorem dX5_odds_10 : decode cX5_odds 10 = .ok (.iconst 1, 1) := by decide +kernel
theorem dX5_odds_11 : decode cX5_odds 11 = .ok (.invokestatic 99, 3) := by decide +kernel
theorem dX5_odds_14 : decode cX5_odds 14 = .ok (.ifCond .ne 10, 3) := by decide +kernel
theorem dX5_odds_17 : decode cX5_odds 17 = .ok (.aload_n 0, 1) := by decide +kernel
theorem dX5_odds_18 : decode cX5_odds 18 = .ok (.iconst 0, 1) := by decide +kernel
theorem dX5_odds_19 : decode cX5_odds 19 = .ok (.invokevirtual 61, 3) := by decide +kernel
theorem dX5_odds_22 : decode cX5_odds 22 = .ok (.i2l, 1) := by decide +kernel
theorem dX5_odds_23 : decode cX5_odds 23 = .ok (.lreturn, 1) := by decide +kernel
theorem dX5_odds_24 : decode cX5_odds 24 = .ok (.bipush 16, 2) := by decide +kernel
theorem dX5_odds_26 : decode cX5_odds 26 = .ok (.aload_n 0, 1) := by decide +kernel
theorem dX5_odds_27 : decode cX5_odds 27 = .ok (.getfield 10, 3) := by decide +kernel
theorem dX5_odds_30 : decode cX5_odds 30 = .ok (.getfield 65, 3) := by decide +kernel
theorem dX5_odds_33 : decode cX5_odds 33 = .ok (.isub, 1) := by decide +kernel
theorem dX5_odds_34 : decode cX5_odds 34 = .ok (.istore_n 3, 1) := by decide +kernel
theorem dX5_odds_35 : decode cX5_odds 35 = .ok (.bipush 16, 2) := by decide +kernel
theorem dX5_odds_37 : decode cX5_odds 37 = .ok (.istore 4, 2) := by decide +kernel
theorem dX5_odds_39 : decode cX5_odds 39 = .ok (.iconst 0, 1) := by decide +kernel
theorem dX5_odds_40 : decode cX5_odds 40 = .ok (.istore 5, 2) := by decide +kernel
theorem dX5_odds_42 : decode cX5_odds 42 = .ok (.iload 5, 2) := by decide +kernel
theorem dX5_odds_44 : decode cX5_odds 44 = .ok (.iconst 4, 1) := by decide +kernel
theorem dX5_odds_45 : decode cX5_odds 45 = .ok (.if_icmp .ge 32, 3) := by decide +kernel
theorem dX5_odds_48 : decode cX5_odds 48 = .ok (.iload_n 3, 1) := by decide +kernel
theorem dX5_odds_49 : decode cX5_odds 49 = .ok (.iconst 2, 1) := by decide +kernel
theorem dX5_odds_50 : decode cX5_odds 50 = .ok (.irem, 1) := by decide +kernel
theorem dX5_odds_51 : decode cX5_odds 51 = .ok (.ifCond .ne 26, 3) := by decide +kernel
theorem dX5_odds_54 : decode cX5_odds 54 = .ok (.iload 4, 2) := by decide +kernel
theorem dX5_odds_56 : decode cX5_odds 56 = .ok (.iconst 2, 1) := by decide +kernel
theorem dX5_odds_57 : decode cX5_odds 57 = .ok (.irem, 1) := by decide +kernel
theorem dX5_odds_58 : decode cX5_odds 58 = .ok (.ifCond .ne 19, 3) := by decide +kernel
theorem dX5_odds_61 : decode cX5_odds 61 = .ok (.iload_n 3, 1) := by decide +kernel
theorem dX5_odds_62 : decode cX5_odds 62 = .ok (.iconst 2, 1) := by decide +kernel
theorem dX5_odds_63 : decode cX5_odds 63 = .ok (.idiv, 1) := by decide +kernel
theorem dX5_odds_64 : decode cX5_odds 64 = .ok (.istore_n 3, 1) := by decide +kernel
theorem dX5_odds_65 : decode cX5_odds 65 = .ok (.iload 4, 2) := by decide +kernel
theorem dX5_odds_67 : decode cX5_odds 67 = .ok (.iconst 2, 1) := by decide +kernel
theorem dX5_odds_68 : decode cX5_odds 68 = .ok (.idiv, 1) := by decide +kernel
theorem dX5_odds_69 : decode cX5_odds 69 = .ok (.istore 4, 2) := by decide +kernel
theorem dX5_odds_71 : decode cX5_odds 71 = .ok (.iinc 5 1, 3) := by decide +kernel
theorem dX5_odds_74 : decode cX5_odds 74 = .ok (.goto (-32), 3) := by decide +kernel
theorem dX5_odds_77 : decode cX5_odds 77 = .ok (.iload_n 2, 1) := by decide +kernel
theorem dX5_odds_78 : decode cX5_odds 78 = .ok (.ifCond .ne 7, 3) := by decide +kernel
theorem dX5_odds_81 : decode cX5_odds 81 = .ok (.iload_n 3, 1) := by decide +kernel
theorem dX5_odds_82 : decode cX5_odds 82 = .ok (.goto 5, 3) := by decide +kernel
theorem dX5_odds_85 : decode cX5_odds 85 = .ok (.iload 4, 2) := by decide +kernel
theorem dX5_odds_87 : decode cX5_odds 87 = .ok (.iload_n 1, 1) := by decide +kernel
theorem dX5_odds_88 : decode cX5_odds 88 = .ok (.invokestatic 219, 3) := by decide +kernel
theorem dX5_odds_91 : decode cX5_odds 91 = .ok (.lreturn, 1) := by decide +kernel
theorem dX5_seed_0 : decode cX5_seed 0 = .ok (.aload_n 0, 1) := by decide +kernel
theorem dX5_seed_1 : decode cX5_seed 1 = .ok (.getfield 10, 3) := by decide +kernel
theorem dX5_seed_4 : decode cX5_seed 4 = .ok (.getfield 223, 3) := by decide +kernel
theorem dX5_seed_7 : decode cX5_seed 7 = .ok (.istore_n 2, 1) := by decide +kernel
theorem dX5_seed_8 : decode cX5_seed 8 = .ok (.aload_n 0, 1) := by decide +kernel
theorem dX5_seed_9 : decode cX5_seed 9 = .ok (.getfield 10, 3) := by decide +kernel
theorem dX5_seed_12 : decode cX5_seed 12 = .ok (.iload_n 1, 1) := by decide +kernel
theorem dX5_seed_13 : decode cX5_seed 13 = .ok (.putfield 223, 3) := by decide +kernel
theorem dX5_seed_16 : decode cX5_seed 16 = .ok (.iload_n 2, 1) := by decide +kernel
theorem dX5_seed_17 : decode cX5_seed 17 = .ok (.ireturn, 1) := by decide +kernel
theorem dX5_feed_0 : decode cX5_feed 0 = .ok (.iload_n 2, 1) := by decide +kernel
theorem dX5_feed_1 : decode cX5_feed 1 = .ok (.iconst 1, 1) := by decide +kernel
theorem dX5_feed_2 : decode cX5_feed 2 = .ok (.if_icmp .lt 8, 3) := by decide +kernel
theorem dX5_feed_5 : decode cX5_feed 5 = .ok (.iload_n 2, 1) := by decide +kernel
theorem dX5_feed_6 : decode cX5_feed 6 = .ok (.iconst 4, 1) := by decide +kernel
theorem dX5_feed_7 : decode cX5_feed 7 = .ok (.if_icmp .le 9, 3) := by decide +kernel
theorem dX5_feed_10 : decode cX5_feed 10 = .ok (.aload_n 0, 1) := by decide +kernel
theorem dX5_feed_11 : decode cX5_feed 11 = .ok (.iconst 0, 1) := by decide +kernel
theorem dX5_feed_12 : decode cX5_feed 12 = .ok (.invokevirtual 61, 3) := by decide +kernel
theorem dX5_feed_15 : decode cX5_feed 15 = .ok (.ireturn, 1) := by decide +kernel
theorem dX5_feed_16 : decode cX5_feed 16 = .ok (.aload_n 0, 1) := by decide +kernel
theorem dX5_feed_17 : decode cX5_feed 17 = .ok (.getfield 29, 3) := by decide +kernel
theorem dX5_feed_20 : decode cX5_feed 20 = .ok (.getfield 226, 3) := by decide +kernel
theorem dX5_feed_23 : decode cX5_feed 23 = .ok (.getfield 230, 3) := by decide +kernel
theorem dX5_feed_26 : decode cX5_feed 26 = .ok (.iload_n 2, 1) := by decide +kernel
theorem dX5_feed_27 : decode cX5_feed 27 = .ok (.iadd, 1) := by decide +kernel
theorem dX5_feed_28 : decode cX5_feed 28 = .ok (.bipush 120, 2) := by decide +kernel
theorem dX5_feed_30 : decode cX5_feed 30 = .ok (.if_icmp .le 9, 3) := by decide +kernel
theorem dX5_feed_33 : decode cX5_feed 33 = .ok (.aload_n 0, 1) := by decide +kernel
theorem dX5_feed_34 : decode cX5_feed 34 = .ok (.iconst 1, 1) := by decide +kernel
theorem dX5_feed_35 : decode cX5_feed 35 = .ok (.invokevirtual 61, 3) := by decide +kernel
theorem dX5_feed_38 : decode cX5_feed 38 = .ok (.ireturn, 1) := by decide +kernel
theorem dX5_feed_39 : decode cX5_feed 39 = .ok (.aload_n 0, 1) := by decide +kernel
theorem dX5_feed_40 : decode cX5_feed 40 = .ok (.getfield 29, 3) := by decide +kernel
theorem dX5_feed_43 : decode cX5_feed 43 = .ok (.getfield 226, 3) := by decide +kernel
theorem dX5_feed_46 : decode cX5_feed 46 = .ok (.iload_n 1, 1) := by decide +kernel
theorem dX5_feed_47 : decode cX5_feed 47 = .ok (.iload_n 2, 1) := by decide +kernel
theorem dX5_feed_48 : decode cX5_feed 48 = .ok (.invokevirtual 235, 3) := by decide +kernel
theorem dX5_feed_51 : decode cX5_feed 51 = .ok (.aload_n 0, 1) := by decide +kernel
theorem dX5_feed_52 : decode cX5_feed 52 = .ok (.getfield 29, 3) := by decide +kernel
theorem dX5_feed_55 : decode cX5_feed 55 = .ok (.getfield 226, 3) := by decide +kernel
theorem dX5_feed_58 : decode cX5_feed 58 = .ok (.getfield 230, 3) := by decide +kernel
theorem dX5_feed_61 : decode cX5_feed 61 = .ok (.ireturn, 1) := by decide +kernel
theorem dX5_wipe_0 : decode cX5_wipe 0 = .ok (.aload_n 0, 1) := by decide +kernel
theorem dX5_wipe_1 : decode cX5_wipe 1 = .ok (.getfield 29, 3) := by decide +kernel
theorem dX5_wipe_4 : decode cX5_wipe 4 = .ok (.getfield 226, 3) := by decide +kernel
theorem dX5_wipe_7 : decode cX5_wipe 7 = .ok (.getfield 230, 3) := by decide +kernel
theorem dX5_wipe_10 : decode cX5_wipe 10 = .ok (.istore_n 1, 1) := by decide +kernel
theorem dX5_wipe_11 : decode cX5_wipe 11 = .ok (.aload_n 0, 1) := by decide +kernel
theorem dX5_wipe_12 : decode cX5_wipe 12 = .ok (.getfield 29, 3) := by decide +kernel
theorem dX5_wipe_15 : decode cX5_wipe 15 = .ok (.getfield 226, 3) := by decide +kernel
theorem dX5_wipe_18 : decode cX5_wipe 18 = .ok (.iconst 0, 1) := by decide +kernel
theorem dX5_wipe_19 : decode cX5_wipe 19 = .ok (.putfield 230, 3) := by decide +kernel
theorem dX5_wipe_22 : decode cX5_wipe 22 = .ok (.iload_n 1, 1) := by decide +kernel
theorem dX5_wipe_23 : decode cX5_wipe 23 = .ok (.ireturn, 1) := by decide +kernel
theorem dX5_text_0 : decode cX5_text 0 = .ok (.aload_n 0, 1) := by decide +kernel
theorem dX5_text_1 : decode cX5_text 1 = .ok (.getfield 19, 3) := by decide +kernel
theorem dX5_text_4 : decode cX5_text 4 = .ok (.aload_n 0, 1) := by decide +kernel
theorem dX5_text_5 : decode cX5_text 5 = .ok (.getfield 10, 3) := by decide +kernel
theorem dX5_text_8 : decode cX5_text 8 = .ok (.invokevirtual 239, 3) := by decide +kernel
theorem dX5_text_11 : decode cX5_text 11 = .ok (.aload_n 0, 1) := by decide +kernel
theorem dX5_text_12 : decode cX5_text 12 = .ok (.getfield 29, 3) := by decide +kernel
theorem dX5_text_15 : decode cX5_text 15 = .ok (.aload_n 0, 1) := by decide +kernel
theorem dX5_text_16 : decode cX5_text 16 = .ok (.getfield 19, 3) := by decide +kernel
theorem dX5_text_19 : decode cX5_text 19 = .ok (.invokevirtual 243, 3) := by decide +kernel
theorem dX5_text_22 : decode cX5_text 22 = .ok (.istore_n 1, 1) := by decide +kernel
theorem dX5_text_23 : decode cX5_text 23 = .ok (.aload_n 0, 1) := by decide +kernel
theorem dX5_text_24 : decode cX5_text 24 = .ok (.getfield 29, 3) := by decide +kernel
theorem dX5_text_27 : decode cX5_text 27 = .ok (.getfield 226, 3) := by decide +kernel
theorem dX5_text_30 : decode cX5_text 30 = .ok (.iconst 0, 1) := by decide +kernel
theorem dX5_text_31 : decode cX5_text 31 = .ok (.putfield 230, 3) := by decide +kernel
theorem dX5_text_34 : decode cX5_text 34 = .ok (.iload_n 1, 1) := by decide +kernel
theorem dX5_text_35 : decode cX5_text 35 = .ok (.ifCond .lt 14, 3) := by decide +kernel
theorem dX5_text_38 : decode cX5_text 38 = .ok (.aload_n 0, 1) := by decide +kernel
theorem dX5_text_39 : decode cX5_text 39 = .ok (.getfield 10, 3) := by decide +kernel
theorem dX5_text_42 : decode cX5_text 42 = .ok (.aload_n 0, 1) := by decide +kernel
theorem dX5_text_43 : decode cX5_text 43 = .ok (.getfield 19, 3) := by decide +kernel
theorem dX5_text_46 : decode cX5_text 46 = .ok (.invokevirtual 239, 3) := by decide +kernel
theorem dX5_text_49 : decode cX5_text 49 = .ok (.iload_n 1, 1) := by decide +kernel
theorem dX5_text_50 : decode cX5_text 50 = .ok (.ireturn, 1) := by decide +kernel
theorem dX5_hold_0 : decode cX5_hold 0 = .ok (.iload_n 1, 1) := by decide +kernel
theorem dX5_hold_1 : decode cX5_hold 1 = .ok (.bipush 10, 2) := by decide +kernel
theorem dX5_hold_3 : decode cX5_hold 3 = .ok (.invokestatic 57, 3) := by decide +kernel
theorem dX5_hold_6 : decode cX5_hold 6 = .ok (.ifCond .eq 22, 3) := by decide +kernel
theorem dX5_hold_9 : decode cX5_hold 9 = .ok (.iload_n 2, 1) := by decide +kernel
theorem dX5_hold_10 : decode cX5_hold 10 = .ok (.iconst (-1), 1) := by decide +kernel
theorem dX5_hold_11 : decode cX5_hold 11 = .ok (.if_icmp .eq 23, 3) := by decide +kernel
theorem dX5_hold_14 : decode cX5_hold 14 = .ok (.iload_n 2, 1) := by decide +kernel
theorem dX5_hold_15 : decode cX5_hold 15 = .ok (.aload_n 0, 1) := by decide +kernel
theorem dX5_hold_16 : decode cX5_hold 16 = .ok (.getfield 10, 3) := by decide +kernel
theorem dX5_hold_19 : decode cX5_hold 19 = .ok (.getfield 65, 3) := by decide +kernel
theorem dX5_hold_22 : decode cX5_hold 22 = .ok (.invokestatic 57, 3) := by decide +kernel
theorem dX5_hold_25 : decode cX5_hold 25 = .ok (.ifCond .ne 9, 3) := by decide +kernel
theorem dX5_hold_28 : decode cX5_hold 28 = .ok (.aload_n 0, 1) := by decide +kernel
theorem dX5_hold_29 : decode cX5_hold 29 = .ok (.iconst 0, 1) := by decide +kernel
theorem dX5_hold_30 : decode cX5_hold 30 = .ok (.invokevirtual 61, 3) := by decide +kernel
theorem dX5_hold_33 : decode cX5_hold 33 = .ok (.ireturn, 1) := by decide +kernel
theorem dX5_hold_34 : decode cX5_hold 34 = .ok (.aload_n 0, 1) := by decide +kernel
theorem dX5_hold_35 : decode cX5_hold 35 = .ok (.getfield 10, 3) := by decide +kernel
theorem dX5_hold_38 : decode cX5_hold 38 = .ok (.getfield 247, 3) := by decide +kernel
theorem dX5_hold_41 : decode cX5_hold 41 = .ok (.iload_n 1, 1) := by decide +kernel
theorem dX5_hold_42 : decode cX5_hold 42 = .ok (.iload_n 2, 1) := by decide +kernel
theorem dX5_hold_43 : decode cX5_hold 43 = .ok (.iastore, 1) := by decide +kernel
theorem dX5_hold_44 : decode cX5_hold 44 = .ok (.iconst 1, 1) := by decide +kernel
theorem dX5_hold_45 : decode cX5_hold 45 = .ok (.ireturn, 1) := by decide +kernel
theorem dX5_as_0 : decode cX5_as 0 = .ok (.iload_n 1, 1) := by decide +kernel
theorem dX5_as_1 : decode cX5_as 1 = .ok (.bipush 10, 2) := by decide +kernel
theorem dX5_as_3 : decode cX5_as 3 = .ok (.invokestatic 57, 3) := by decide +kernel
theorem dX5_as_6 : decode cX5_as 6 = .ok (.ifCond .eq 12, 3) := by decide +kernel
theorem dX5_as_9 : decode cX5_as 9 = .ok (.iload_n 2, 1) := by decide +kernel
theorem dX5_as_10 : decode cX5_as 10 = .ok (.bipush 7, 2) := by decide +kernel
theorem dX5_as_12 : decode cX5_as 12 = .ok (.invokestatic 57, 3) := by decide +kernel
theorem dX5_as_15 : decode cX5_as 15 = .ok (.ifCond .ne 9, 3) := by decide +kernel
theorem dX5_as_18 : decode cX5_as 18 = .ok (.aload_n 0, 1) := by decide +kernel
theorem dX5_as_19 : decode cX5_as 19 = .ok (.iconst 0, 1) := by decide +kernel
theorem dX5_as_20 : decode cX5_as 20 = .ok (.invokevirtual 61, 3) := by decide +kernel
theorem dX5_as_23 : decode cX5_as 23 = .ok (.ireturn, 1) := by decide +kernel
theorem dX5_as_24 : decode cX5_as 24 = .ok (.aload_n 0, 1) := by decide +kernel
theorem dX5_as_25 : decode cX5_as 25 = .ok (.getfield 10, 3) := by decide +kernel
theorem dX5_as_28 : decode cX5_as 28 = .ok (.getfield 247, 3) := by decide +kernel
theorem dX5_as_31 : decode cX5_as 31 = .ok (.iload_n 1, 1) := by decide +kernel
theorem dX5_as_32 : decode cX5_as 32 = .ok (.iaload, 1) := by decide +kernel
theorem dX5_as_33 : decode cX5_as 33 = .ok (.istore_n 3, 1) := by decide +kernel
theorem dX5_as_34 : decode cX5_as 34 = .ok (.iload_n 3, 1) := by decide +kernel
theorem dX5_as_35 : decode cX5_as 35 = .ok (.aload_n 0, 1) := by decide +kernel
theorem dX5_as_36 : decode cX5_as 36 = .ok (.getfield 10, 3) := by decide +kernel
theorem dX5_as_39 : decode cX5_as 39 = .ok (.getfield 65, 3) := by decide +kernel
theorem dX5_as_42 : decode cX5_as 42 = .ok (.invokestatic 57, 3) := by decide +kernel
theorem dX5_as_45 : decode cX5_as 45 = .ok (.ifCond .ne 9, 3) := by decide +kernel
theorem dX5_as_48 : decode cX5_as 48 = .ok (.aload_n 0, 1) := by decide +kernel
theorem dX5_as_49 : decode cX5_as 49 = .ok (.iconst 5, 1) := by decide +kernel
theorem dX5_as_50 : decode cX5_as 50 = .ok (.invokevirtual 61, 3) := by decide +kernel
theorem dX5_as_53 : decode cX5_as 53 = .ok (.ireturn, 1) := by decide +kernel
theorem dX5_as_54 : decode cX5_as 54 = .ok (.aload_n 0, 1) := by decide +kernel
theorem dX5_as_55 : decode cX5_as 55 = .ok (.getfield 10, 3) := by decide +kernel
theorem dX5_as_58 : decode cX5_as 58 = .ok (.getfield 77, 3) := by decide +kernel
theorem dX5_as_61 : decode cX5_as 61 = .ok (.iload_n 3, 1) := by decide +kernel
theorem dX5_as_62 : decode cX5_as 62 = .ok (.iaload, 1) := by decide +kernel
theorem dX5_as_63 : decode cX5_as 63 = .ok (.iload_n 2, 1) := by decide +kernel
theorem dX5_as_64 : decode cX5_as 64 = .ok (.invokestatic 250, 3) := by decide +kernel
theorem dX5_as_67 : decode cX5_as 67 = .ok (.ifCond .eq 7, 3) := by decide +kernel
theorem dX5_as_70 : decode cX5_as 70 = .ok (.iload_n 3, 1) := by decide +kernel
theorem dX5_as_71 : decode cX5_as 71 = .ok (.goto 8, 3) := by decide +kernel
theorem dX5_as_74 : decode cX5_as 74 = .ok (.aload_n 0, 1) := by decide +kernel
theorem dX5_as_75 : decode cX5_as 75 = .ok (.iconst 2, 1) := by decide +kernel
theorem dX5_as_76 : decode cX5_as 76 = .ok (.invokevirtual 61, 3) := by decide +kernel
theorem dX5_as_79 : decode cX5_as 79 = .ok (.ireturn, 1) := by decide +kernel
theorem dX5_sheet_0 : decode cX5_sheet 0 = .ok (.iload_n 1, 1) := by decide +kernel
theorem dX5_sheet_1 : decode cX5_sheet 1 = .ok (.iconst 4, 1) := by decide +kernel
theorem dX5_sheet_2 : decode cX5_sheet 2 = .ok (.invokestatic 57, 3) := by decide +kernel
theorem dX5_sheet_5 : decode cX5_sheet 5 = .ok (.ifCond .eq 25, 3) := by decide +kernel
theorem dX5_sheet_8 : decode cX5_sheet 8 = .ok (.iload_n 2, 1) := by decide +kernel
theorem dX5_sheet_9 : decode cX5_sheet 9 = .ok (.ifCond .eq 27, 3) := by decide +kernel
theorem dX5_sheet_12 : decode cX5_sheet 12 = .ok (.iload_n 2, 1) := by decide +kernel
theorem dX5_sheet_13 : decode cX5_sheet 13 = .ok (.bipush 8, 2) := by decide +kernel
theorem dX5_sheet_15 : decode cX5_sheet 15 = .ok (.if_icmp .eq 21, 3) := by decide +kernel
theorem dX5_sheet_18 : decode cX5_sheet 18 = .ok (.iload_n 2, 1) := by decide +kernel
theorem dX5_sheet_19 : decode cX5_sheet 19 = .ok (.bipush 16, 2) := by decide +kernel
theorem dX5_sheet_21 : decode cX5_sheet 21 = .ok (.if_icmp .eq 15, 3) := by decide +kernel
theorem dX5_sheet_24 : decode cX5_sheet 24 = .ok (.iload_n 2, 1) := by decide +kernel
theorem dX5_sheet_25 : decode cX5_sheet 25 = .ok (.bipush 32, 2) := by decide +kernel
theorem dX5_sheet_27 : decode cX5_sheet 27 = .ok (.if_icmp .eq 9, 3) := by decide +kernel
theorem dX5_sheet_30 : decode cX5_sheet 30 = .ok (.aload_n 0, 1) := by decide +kernel
theorem dX5_sheet_31 : decode cX5_sheet 31 = .ok (.iconst 0, 1) := by decide +kernel
theorem dX5_sheet_32 : decode cX5_sheet 32 = .ok (.invokevirtual 61, 3) := by decide +kernel
theorem dX5_sheet_35 : decode cX5_sheet 35 = .ok (.ireturn, 1) := by decide +kernel
theorem dX5_sheet_36 : decode cX5_sheet 36 = .ok (.iload_n 3, 1) := by decide +kernel
theorem dX5_sheet_37 : decode cX5_sheet 37 = .ok (.ifCond .ge 10, 3) := by decide +kernel
theorem dX5_sheet_40 : decode cX5_sheet 40 = .ok (.aload_n 0, 1) := by decide +kernel
theorem dX5_sheet_41 : decode cX5_sheet 41 = .ok (.bipush 6, 2) := by decide +kernel
theorem dX5_sheet_43 : decode cX5_sheet 43 = .ok (.invokevirtual 61, 3) := by decide +kernel
theorem dX5_sheet_46 : decode cX5_sheet 46 = .ok (.ireturn, 1) := by decide +kernel
theorem dX5_sheet_47 : decode cX5_sheet 47 = .ok (.iload_n 3, 1) := by decide +kernel
theorem dX5_sheet_48 : decode cX5_sheet 48 = .ok (.bipush 40, 2) := by decide +kernel
theorem dX5_sheet_50 : decode cX5_sheet 50 = .ok (.if_icmp .le 9, 3) := by decide +kernel
theorem dX5_sheet_53 : decode cX5_sheet 53 = .ok (.aload_n 0, 1) := by decide +kernel
theorem dX5_sheet_54 : decode cX5_sheet 54 = .ok (.iconst 0, 1) := by decide +kernel
theorem dX5_sheet_55 : decode cX5_sheet 55 = .ok (.invokevirtual 61, 3) := by decide +kernel
theorem dX5_sheet_58 : decode cX5_sheet 58 = .ok (.ireturn, 1) := by decide +kernel
theorem dX5_sheet_59 : decode cX5_sheet 59 = .ok (.aload_n 0, 1) := by decide +kernel
theorem dX5_sheet_60 : decode cX5_sheet 60 = .ok (.getfield 35, 3) := by decide +kernel
theorem dX5_sheet_63 : decode cX5_sheet 63 = .ok (.iload_n 1, 1) := by decide +kernel
theorem dX5_sheet_64 : decode cX5_sheet 64 = .ok (.aaload, 1) := by decide +kernel
theorem dX5_sheet_65 : decode cX5_sheet 65 = .ok (.iload_n 2, 1) := by decide +kernel
theorem dX5_sheet_66 : decode cX5_sheet 66 = .ok (.iload_n 3, 1) := by decide +kernel
theorem dX5_sheet_67 : decode cX5_sheet 67 = .ok (.invokevirtual 253, 3) := by decide +kernel
theorem dX5_sheet_70 : decode cX5_sheet 70 = .ok (.aload_n 0, 1) := by decide +kernel
theorem dX5_sheet_71 : decode cX5_sheet 71 = .ok (.getfield 35, 3) := by decide +kernel
theorem dX5_sheet_74 : decode cX5_sheet 74 = .ok (.iload_n 1, 1) := by decide +kernel
theorem dX5_sheet_75 : decode cX5_sheet 75 = .ok (.aaload, 1) := by decide +kernel
theorem dX5_sheet_76 : decode cX5_sheet 76 = .ok (.getfield 256, 3) := by decide +kernel
theorem dX5_sheet_79 : decode cX5_sheet 79 = .ok (.ireturn, 1) := by decide +kernel
theorem dX5_write_0 : decode cX5_write 0 = .ok (.aload_n 0, 1) := by decide +kernel
theorem dX5_write_1 : decode cX5_write 1 = .ok (.iload_n 1, 1) := by decide +kernel
theorem dX5_write_2 : decode cX5_write 2 = .ok (.invokevirtual 209, 3) := by decide +kernel
theorem dX5_write_5 : decode cX5_write 5 = .ok (.istore 4, 2) := by decide +kernel
theorem dX5_write_7 : decode cX5_write 7 = .ok (.iload 4, 2) := by decide +kernel
theorem dX5_write_9 : decode cX5_write 9 = .ok (.ifCond .eq 6, 3) := by decide +kernel
theorem dX5_write_12 : decode cX5_write 12 = .ok (.iload 4, 2) := by decide +kernel
theorem dX5_write_14 : decode cX5_write 14 = .ok (.ireturn, 1) := by decide +kernel
theorem dX5_write_15 : decode cX5_write 15 = .ok (.iload_n 2, 1) := by decide +kernel
theorem dX5_write_16 : decode cX5_write 16 = .ok (.aload_n 0, 1) := by decide +kernel
theorem dX5_write_17 : decode cX5_write 17 = .ok (.getfield 35, 3) := by decide +kernel
theorem dX5_write_20 : decode cX5_write 20 = .ok (.iload_n 1, 1) := by decide +kernel
theorem dX5_write_21 : decode cX5_write 21 = .ok (.aaload, 1) := by decide +kernel
theorem dX5_write_22 : decode cX5_write 22 = .ok (.getfield 256, 3) := by decide +kernel
theorem dX5_write_25 : decode cX5_write 25 = .ok (.invokestatic 57, 3) := by decide +kernel
theorem dX5_write_28 : decode cX5_write 28 = .ok (.ifCond .ne 9, 3) := by decide +kernel
theorem dX5_write_31 : decode cX5_write 31 = .ok (.aload_n 0, 1) := by decide +kernel
theorem dX5_write_32 : decode cX5_write 32 = .ok (.iconst 0, 1) := by decide +kernel
theorem dX5_write_33 : decode cX5_write 33 = .ok (.invokevirtual 61, 3) := by decide +kernel
theorem dX5_write_36 : decode cX5_write 36 = .ok (.ireturn, 1) := by decide +kernel
theorem dX5_write_37 : decode cX5_write 37 = .ok (.aload_n 0, 1) := by decide +kernel
theorem dX5_write_38 : decode cX5_write 38 = .ok (.getfield 35, 3) := by decide +kernel
theorem dX5_write_41 : decode cX5_write 41 = .ok (.iload_n 1, 1) := by decide +kernel
theorem dX5_write_42 : decode cX5_write 42 = .ok (.aaload, 1) := by decide +kernel
theorem dX5_write_43 : decode cX5_write 43 = .ok (.iload_n 2, 1) := by decide +kernel
theorem dX5_write_44 : decode cX5_write 44 = .ok (.iload_n 3, 1) := by decide +kernel
theorem dX5_write_45 : decode cX5_write 45 = .ok (.invokevirtual 257, 3) := by decide +kernel
theorem dX5_write_48 : decode cX5_write 48 = .ok (.iconst 1, 1) := by decide +kernel
theorem dX5_write_49 : decode cX5_write 49 = .ok (.ireturn, 1) := by decide +kernel
theorem dX5_copy_0 : decode cX5_copy 0 = .ok (.iload_n 1, 1) := by decide +kernel
theorem dX5_copy_1 : decode cX5_copy 1 = .ok (.iconst 4, 1) := by decide +kernel
theorem dX5_copy_2 : decode cX5_copy 2 = .ok (.invokestatic 57, 3) := by decide +kernel
theorem dX5_copy_5 : decode cX5_copy 5 = .ok (.ifCond .eq 11, 3) := by decide +kernel
theorem dX5_copy_8 : decode cX5_copy 8 = .ok (.iload_n 3, 1) := by decide +kernel
theorem dX5_copy_9 : decode cX5_copy 9 = .ok (.iconst 4, 1) := by decide +kernel
theorem dX5_copy_10 : decode cX5_copy 10 = .ok (.invokestatic 57, 3) := by decide +kernel
theorem dX5_copy_13 : decode cX5_copy 13 = .ok (.ifCond .ne 9, 3) := by decide +kernel
theorem dX5_copy_16 : decode cX5_copy 16 = .ok (.aload_n 0, 1) := by decide +kernel
theorem dX5_copy_17 : decode cX5_copy 17 = .ok (.iconst 0, 1) := by decide +kernel
theorem dX5_copy_18 : decode cX5_copy 18 = .ok (.invokevirtual 61, 3) := by decide +kernel
theorem dX5_copy_21 : decode cX5_copy 21 = .ok (.ireturn, 1) := by decide +kernel
theorem dX5_copy_22 : decode cX5_copy 22 = .ok (.aload_n 0, 1) := by decide +kernel
theorem dX5_copy_23 : decode cX5_copy 23 = .ok (.getfield 35, 3) := by decide +kernel
theorem dX5_copy_26 : decode cX5_copy 26 = .ok (.iload_n 1, 1) := by decide +kernel
theorem dX5_copy_27 : decode cX5_copy 27 = .ok (.aaload, 1) := by decide +kernel
theorem dX5_copy_28 : decode cX5_copy 28 = .ok (.astore 6, 2) := by decide +kernel
theorem dX5_copy_30 : decode cX5_copy 30 = .ok (.aload_n 0, 1) := by decide +kernel
theorem dX5_copy_31 : decode cX5_copy 31 = .ok (.getfield 35, 3) := by decide +kernel
theorem dX5_copy_34 : decode cX5_copy 34 = .ok (.iload_n 3, 1) := by decide +kernel
theorem dX5_copy_35 : decode cX5_copy 35 = .ok (.aaload, 1) := by decide +kernel
theorem dX5_copy_36 : decode cX5_copy 36 = .ok (.astore 7, 2) := by decide +kernel
theorem dX5_copy_38 : decode cX5_copy 38 = .ok (.aload 6, 2) := by decide +kernel
theorem dX5_copy_40 : decode cX5_copy 40 = .ok (.getfield 260, 3) := by decide +kernel
theorem dX5_copy_43 : decode cX5_copy 43 = .ok (.ifCond .eq 11, 3) := by decide +kernel
theorem dX5_copy_46 : decode cX5_copy 46 = .ok (.aload 7, 2) := by decide +kernel
theorem dX5_copy_48 : decode cX5_copy 48 = .ok (.getfield 260, 3) := by decide +kernel
theorem dX5_copy_51 : decode cX5_copy 51 = .ok (.ifCond .ne 9, 3) := by decide +kernel
theorem dX5_copy_54 : decode cX5_copy 54 = .ok (.aload_n 0, 1) := by decide +kernel
theorem dX5_copy_55 : decode cX5_copy 55 = .ok (.iconst 5, 1) := by decide +kernel
theorem dX5_copy_56 : decode cX5_copy 56 = .ok (.invokevirtual 61, 3) := by decide +kernel
theorem dX5_copy_59 : decode cX5_copy 59 = .ok (.ireturn, 1) := by decide +kernel
theorem dX5_copy_60 : decode cX5_copy 60 = .ok (.aload 6, 2) := by decide +kernel
theorem dX5_copy_62 : decode cX5_copy 62 = .ok (.getfield 260, 3) := by decide +kernel
theorem dX5_copy_65 : decode cX5_copy 65 = .ok (.aload 7, 2) := by decide +kernel
theorem dX5_copy_67 : decode cX5_copy 67 = .ok (.getfield 260, 3) := by decide +kernel
theorem dX5_copy_70 : decode cX5_copy 70 = .ok (.if_icmp .eq 9, 3) := by decide +kernel
theorem dX5_copy_73 : decode cX5_copy 73 = .ok (.aload_n 0, 1) := by decide +kernel
theorem dX5_copy_74 : decode cX5_copy 74 = .ok (.iconst 2, 1) := by decide +kernel
theorem dX5_copy_75 : decode cX5_copy 75 = .ok (.invokevirtual 61, 3) := by decide +kernel
theorem dX5_copy_78 : decode cX5_copy 78 = .ok (.ireturn, 1) := by decide +kernel
theorem dX5_copy_79 : decode cX5_copy 79 = .ok (.aload 6, 2) := by decide +kernel
theorem dX5_copy_81 : decode cX5_copy 81 = .ok (.iload_n 2, 1) := by decide +kernel
theorem dX5_copy_82 : decode cX5_copy 82 = .ok (.iload 5, 2) := by decide +kernel
theorem dX5_copy_84 : decode cX5_copy 84 = .ok (.invokevirtual 263, 3) := by decide +kernel
theorem dX5_copy_87 : decode cX5_copy 87 = .ok (.ifCond .eq 15, 3) := by decide +kernel
theorem dX5_copy_90 : decode cX5_copy 90 = .ok (.aload 7, 2) := by decide +kernel
theorem dX5_copy_92 : decode cX5_copy 92 = .ok (.iload 4, 2) := by decide +kernel
theorem dX5_copy_94 : decode cX5_copy 94 = .ok (.iload 5, 2) := by decide +kernel
theorem dX5_copy_96 : decode cX5_copy 96 = .ok (.invokevirtual 263, 3) := by decide +kernel
theorem dX5_copy_99 : decode cX5_copy 99 = .ok (.ifCond .ne 9, 3) := by decide +kernel
theorem dX5_copy_102 : decode cX5_copy 102 = .ok (.aload_n 0, 1) := by decide +kernel
theorem dX5_copy_103 : decode cX5_copy 103 = .ok (.iconst 0, 1) := by decide +kernel
theorem dX5_copy_104 : decode cX5_copy 104 = .ok (.invokevirtual 61, 3) := by decide +kernel
theorem dX5_copy_107 : decode cX5_copy 107 = .ok (.ireturn, 1) := by decide +kernel
theorem dX5_copy_108 : decode cX5_copy 108 = .ok (.aload 6, 2) := by decide +kernel
theorem dX5_copy_110 : decode cX5_copy 110 = .ok (.getfield 266, 3) := by decide +kernel
theorem dX5_copy_113 : decode cX5_copy 113 = .ok (.iload_n 2, 1) := by decide +kernel
theorem dX5_copy_114 : decode cX5_copy 114 = .ok (.aload 7, 2) := by decide +kernel
theorem dX5_copy_116 : decode cX5_copy 116 = .ok (.getfield 266, 3) := by decide +kernel
theorem dX5_copy_119 : decode cX5_copy 119 = .ok (.iload 4, 2) := by decide +kernel
theorem dX5_copy_121 : decode cX5_copy 121 = .ok (.iload 5, 2) := by decide +kernel
theorem dX5_copy_123 : decode cX5_copy 123 = .ok (.invokestatic 269, 3) := by decide +kernel
theorem dX5_copy_126 : decode cX5_copy 126 = .ok (.iload 5, 2) := by decide +kernel
theorem dX5_copy_128 : decode cX5_copy 128 = .ok (.ireturn, 1) := by decide +kernel
theorem dX5_load_0 : decode cX5_load 0 = .ok (.aload_n 0, 1) := by decide +kernel
theorem dX5_load_1 : decode cX5_load 1 = .ok (.iload_n 1, 1) := by decide +kernel
theorem dX5_load_2 : decode cX5_load 2 = .ok (.invokevirtual 209, 3) := by decide +kernel
theorem dX5_load_5 : decode cX5_load 5 = .ok (.istore_n 2, 1) := by decide +kernel
theorem dX5_load_6 : decode cX5_load 6 = .ok (.iload_n 2, 1) := by decide +kernel
theorem dX5_load_7 : decode cX5_load 7 = .ok (.ifCond .eq 5, 3) := by decide +kernel
theorem dX5_load_10 : decode cX5_load 10 = .ok (.iload_n 2, 1) := by decide +kernel
theorem dX5_load_11 : decode cX5_load 11 = .ok (.ireturn, 1) := by decide +kernel
theorem dX5_load_12 : decode cX5_load 12 = .ok (.aload_n 0, 1) := by decide +kernel
theorem dX5_load_13 : decode cX5_load 13 = .ok (.getfield 35, 3) := by decide +kernel
theorem dX5_load_16 : decode cX5_load 16 = .ok (.iload_n 1, 1) := by decide +kernel
theorem dX5_load_17 : decode cX5_load 17 = .ok (.aaload, 1) := by decide +kernel
theorem dX5_load_18 : decode cX5_load 18 = .ok (.astore_n 3, 1) := by decide +kernel
theorem dX5_load_19 : decode cX5_load 19 = .ok (.aload_n 3, 1) := by decide +kernel
theorem dX5_load_20 : decode cX5_load 20 = .ok (.getfield 256, 3) := by decide +kernel
theorem dX5_load_23 : decode cX5_load 23 = .ok (.aload_n 0, 1) := by decide +kernel
theorem dX5_load_24 : decode cX5_load 24 = .ok (.getfield 10, 3) := by decide +kernel
theorem dX5_load_27 : decode cX5_load 27 = .ok (.getfield 65, 3) := by decide +kernel
theorem dX5_load_30 : decode cX5_load 30 = .ok (.invokestatic 161, 3) := by decide +kernel
theorem dX5_load_33 : decode cX5_load 33 = .ok (.istore 4, 2) := by decide +kernel
theorem dX5_load_35 : decode cX5_load 35 = .ok (.iconst 0, 1) := by decide +kernel
theorem dX5_load_36 : decode cX5_load 36 = .ok (.istore 5, 2) := by decide +kernel
theorem dX5_load_38 : decode cX5_load 38 = .ok (.iload 5, 2) := by decide +kernel
theorem dX5_load_40 : decode cX5_load 40 = .ok (.iload 4, 2) := by decide +kernel
theorem dX5_load_42 : decode cX5_load 42 = .ok (.if_icmp .ge 41, 3) := by decide +kernel
theorem dX5_load_45 : decode cX5_load 45 = .ok (.aload_n 3, 1) := by decide +kernel
theorem dX5_load_46 : decode cX5_load 46 = .ok (.getfield 266, 3) := by decide +kernel
theorem dX5_load_49 : decode cX5_load 49 = .ok (.iload 5, 2) := by decide +kernel
theorem dX5_load_51 : decode cX5_load 51 = .ok (.iaload, 1) := by decide +kernel
theorem dX5_load_52 : decode cX5_load 52 = .ok (.bipush 99, 2) := by decide +kernel
theorem dX5_load_54 : decode cX5_load 54 = .ok (.invokestatic 99, 3) := by decide +kernel
theorem dX5_load_57 : decode cX5_load 57 = .ok (.ifCond .eq 26, 3) := by decide +kernel
theorem dX5_load_60 : decode cX5_load 60 = .ok (.aload_n 0, 1) := by decide +kernel
theorem dX5_load_61 : decode cX5_load 61 = .ok (.getfield 10, 3) := by decide +kernel
theorem dX5_load_64 : decode cX5_load 64 = .ok (.getfield 80, 3) := by decide +kernel
theorem dX5_load_67 : decode cX5_load 67 = .ok (.iload 5, 2) := by decide +kernel
theorem dX5_load_69 : decode cX5_load 69 = .ok (.aload_n 3, 1) := by decide +kernel
theorem dX5_load_70 : decode cX5_load 70 = .ok (.getfield 266, 3) := by decide +kernel
theorem dX5_load_73 : decode cX5_load 73 = .ok (.iload 5, 2) := by decide +kernel
theorem dX5_load_75 : decode cX5_load 75 = .ok (.iaload, 1) := by decide +kernel
theorem dX5_load_76 : decode cX5_load 76 = .ok (.iastore, 1) := by decide +kernel
theorem dX5_load_77 : decode cX5_load 77 = .ok (.iinc 5 1, 3) := by decide +kernel
theorem dX5_load_80 : decode cX5_load 80 = .ok (.goto (-42), 3) := by decide +kernel
theorem dX5_load_83 : decode cX5_load 83 = .ok (.iload 5, 2) := by decide +kernel
theorem dX5_load_85 : decode cX5_load 85 = .ok (.ireturn, 1) := by decide +kernel
theorem dX5_judge_0 : decode cX5_judge 0 = .ok (.aload_n 0, 1) := by decide +kernel
theorem dX5_judge_1 : decode cX5_judge 1 = .ok (.iload_n 1, 1) := by decide +kernel
theorem dX5_judge_2 : decode cX5_judge 2 = .ok (.invokevirtual 209, 3) := by decide +kernel
theorem dX5_judge_5 : decode cX5_judge 5 = .ok (.istore_n 2, 1) := by decide +kernel
theorem dX5_judge_6 : decode cX5_judge 6 = .ok (.iload_n 2, 1) := by decide +kernel
theorem dX5_judge_7 : decode cX5_judge 7 = .ok (.ifCond .eq 5, 3) := by decide +kernel
theorem dX5_judge_10 : decode cX5_judge 10 = .ok (.iload_n 2, 1) := by decide +kernel
theorem dX5_judge_11 : decode cX5_judge 11 = .ok (.ireturn, 1) := by decide +kernel
theorem dX5_judge_12 : decode cX5_judge 12 = .ok (.aload_n 0, 1) := by decide +kernel
theorem dX5_judge_13 : decode cX5_judge 13 = .ok (.getfield 35, 3) := by decide +kernel
theorem dX5_judge_16 : decode cX5_judge 16 = .ok (.iload_n 1, 1) := by decide +kernel
theorem dX5_judge_17 : decode cX5_judge 17 = .ok (.aaload, 1) := by decide +kernel
theorem dX5_judge_18 : decode cX5_judge 18 = .ok (.astore_n 3, 1) := by decide +kernel
theorem dX5_judge_19 : decode cX5_judge 19 = .ok (.aload_n 0, 1) := by decide +kernel
theorem dX5_judge_20 : decode cX5_judge 20 = .ok (.getfield 10, 3) := by decide +kernel
theorem dX5_judge_23 : decode cX5_judge 23 = .ok (.getfield 275, 3) := by decide +kernel
theorem dX5_judge_26 : decode cX5_judge 26 = .ok (.iconst 0, 1) := by decide +kernel
theorem dX5_judge_27 : decode cX5_judge 27 = .ok (.iaload, 1) := by decide +kernel
theorem dX5_judge_28 : decode cX5_judge 28 = .ok (.istore 4, 2) := by decide +kernel
theorem dX5_judge_30 : decode cX5_judge 30 = .ok (.aload_n 0, 1) := by decide +kernel
theorem dX5_judge_31 : decode cX5_judge 31 = .ok (.getfield 10, 3) := by decide +kernel
theorem dX5_judge_34 : decode cX5_judge 34 = .ok (.getfield 142, 3) := by decide +kernel
theorem dX5_judge_37 : decode cX5_judge 37 = .ok (.iconst 0, 1) := by decide +kernel
theorem dX5_judge_38 : decode cX5_judge 38 = .ok (.iaload, 1) := by decide +kernel
theorem dX5_judge_39 : decode cX5_judge 39 = .ok (.istore 5, 2) := by decide +kernel
theorem dX5_judge_41 : decode cX5_judge 41 = .ok (.iconst 0, 1) := by decide +kernel
theorem dX5_judge_42 : decode cX5_judge 42 = .ok (.istore 6, 2) := by decide +kernel
theorem dX5_judge_44 : decode cX5_judge 44 = .ok (.iconst 0, 1) := by decide +kernel
theorem dX5_judge_45 : decode cX5_judge 45 = .ok (.istore 7, 2) := by decide +kernel
theorem dX5_judge_47 : decode cX5_judge 47 = .ok (.iload 7, 2) := by decide +kernel
theorem dX5_judge_49 : decode cX5_judge 49 = .ok (.aload_n 3, 1) := by decide +kernel
theorem dX5_judge_50 : decode cX5_judge 50 = .ok (.getfield 256, 3) := by decide +kernel
theorem dX5_judge_53 : decode cX5_judge 53 = .ok (.if_icmp .ge 110, 3) := by decide +kernel
theorem dX5_judge_56 : decode cX5_judge 56 = .ok (.aload_n 3, 1) := by decide +kernel
theorem dX5_judge_57 : decode cX5_judge 57 = .ok (.getfield 266, 3) := by decide +kernel
theorem dX5_judge_60 : decode cX5_judge 60 = .ok (.iload 7, 2) := by decide +kernel
theorem dX5_judge_62 : decode cX5_judge 62 = .ok (.iaload, 1) := by decide +kernel
theorem dX5_judge_63 : decode cX5_judge 63 = .ok (.istore 8, 2) := by decide +kernel
theorem dX5_judge_65 : decode cX5_judge 65 = .ok (.iload 8, 2) := by decide +kernel
theorem dX5_judge_67 : decode cX5_judge 67 = .ok (.aload_n 0, 1) := by decide +kernel
theorem dX5_judge_68 : decode cX5_judge 68 = .ok (.getfield 10, 3) := by decide +kernel
theorem dX5_judge_71 : decode cX5_judge 71 = .ok (.getfield 65, 3) := by decide +kernel
theorem dX5_judge_74 : decode cX5_judge 74 = .ok (.invokestatic 57, 3) := by decide +kernel
theorem dX5_judge_77 : decode cX5_judge 77 = .ok (.ifCond .eq 14, 3) := by decide +kernel
theorem dX5_judge_80 : decode cX5_judge 80 = .ok (.iload 6, 2) := by decide +kernel
theorem dX5_judge_82 : decode cX5_judge 82 = .ok (.iload 8, 2) := by decide +kernel
theorem dX5_judge_84 : decode cX5_judge 84 = .ok (.ishr, 1) := by decide +kernel
theorem dX5_judge_85 : decode cX5_judge 85 = .ok (.iconst 1, 1) := by decide +kernel
theorem dX5_judge_86 : decode cX5_judge 86 = .ok (.iand, 1) := by decide +kernel
theorem dX5_judge_87 : decode cX5_judge 87 = .ok (.iconst 1, 1) := by decide +kernel
theorem dX5_judge_88 : decode cX5_judge 88 = .ok (.if_icmp .ne 8, 3) := by decide +kernel
theorem dX5_judge_91 : decode cX5_judge 91 = .ok (.iload 7, 2) := by decide +kernel
theorem dX5_judge_93 : decode cX5_judge 93 = .ok (.iconst 1, 1) := by decide +kernel
theorem dX5_judge_94 : decode cX5_judge 94 = .ok (.iadd, 1) := by decide +kernel
theorem dX5_judge_95 : decode cX5_judge 95 = .ok (.ireturn, 1) := by decide +kernel
theorem dX5_judge_96 : decode cX5_judge 96 = .ok (.iload 4, 2) := by decide +kernel
theorem dX5_judge_98 : decode cX5_judge 98 = .ok (.iload 5, 2) := by decide +kernel
theorem dX5_judge_100 : decode cX5_judge 100 = .ok (.aload_n 0, 1) := by decide +kernel
theorem dX5_judge_101 : decode cX5_judge 101 = .ok (.getfield 10, 3) := by decide +kernel
theorem dX5_judge_104 : decode cX5_judge 104 = .ok (.getfield 145, 3) := by decide +kernel
theorem dX5_judge_107 : decode cX5_judge 107 = .ok (.iload 8, 2) := by decide +kernel
theorem dX5_judge_109 : decode cX5_judge 109 = .ok (.iaload, 1) := by decide +kernel
theorem dX5_judge_110 : decode cX5_judge 110 = .ok (.invokestatic 115, 3) := by decide +kernel
theorem dX5_judge_113 : decode cX5_judge 113 = .ok (.aload_n 0, 1) := by decide +kernel
theorem dX5_judge_114 : decode cX5_judge 114 = .ok (.getfield 10, 3) := by decide +kernel
theorem dX5_judge_117 : decode cX5_judge 117 = .ok (.getfield 83, 3) := by decide +kernel
theorem dX5_judge_120 : decode cX5_judge 120 = .ok (.iconst 2, 1) := by decide +kernel
theorem dX5_judge_121 : decode cX5_judge 121 = .ok (.iaload, 1) := by decide +kernel
theorem dX5_judge_122 : decode cX5_judge 122 = .ok (.iadd, 1) := by decide +kernel
theorem dX5_judge_123 : decode cX5_judge 123 = .ok (.isub, 1) := by decide +kernel
theorem dX5_judge_124 : decode cX5_judge 124 = .ok (.istore 4, 2) := by decide +kernel
theorem dX5_judge_126 : decode cX5_judge 126 = .ok (.iload 4, 2) := by decide +kernel
theorem dX5_judge_128 : decode cX5_judge 128 = .ok (.ifCond .ge 8, 3) := by decide +kernel
theorem dX5_judge_131 : decode cX5_judge 131 = .ok (.iload 7, 2) := by decide +kernel
theorem dX5_judge_133 : decode cX5_judge 133 = .ok (.iconst 1, 1) := by decide +kernel
theorem dX5_judge_134 : decode cX5_judge 134 = .ok (.iadd, 1) := by decide +kernel
theorem dX5_judge_135 : decode cX5_judge 135 = .ok (.ireturn, 1) := by decide +kernel
theorem dX5_judge_136 : decode cX5_judge 136 = .ok (.aload_n 0, 1) := by decide +kernel
theorem dX5_judge_137 : decode cX5_judge 137 = .ok (.getfield 10, 3) := by decide +kernel
theorem dX5_judge_140 : decode cX5_judge 140 = .ok (.getfield 145, 3) := by decide +kernel
theorem dX5_judge_143 : decode cX5_judge 143 = .ok (.iload 8, 2) := by decide +kernel
theorem dX5_judge_145 : decode cX5_judge 145 = .ok (.iaload, 1) := by decide +kernel
theorem dX5_judge_146 : decode cX5_judge 146 = .ok (.istore 5, 2) := by decide +kernel
theorem dX5_judge_148 : decode cX5_judge 148 = .ok (.iload 6, 2) := by decide +kernel
theorem dX5_judge_150 : decode cX5_judge 150 = .ok (.iconst 1, 1) := by decide +kernel
theorem dX5_judge_151 : decode cX5_judge 151 = .ok (.iload 8, 2) := by decide +kernel
theorem dX5_judge_153 : decode cX5_judge 153 = .ok (.ishl, 1) := by decide +kernel
theorem dX5_judge_154 : decode cX5_judge 154 = .ok (.ior, 1) := by decide +kernel
theorem dX5_judge_155 : decode cX5_judge 155 = .ok (.istore 6, 2) := by decide +kernel
theorem dX5_judge_157 : decode cX5_judge 157 = .ok (.iinc 7 1, 3) := by decide +kernel
theorem dX5_judge_160 : decode cX5_judge 160 = .ok (.goto (-113), 3) := by decide +kernel
theorem dX5_judge_163 : decode cX5_judge 163 = .ok (.iconst 0, 1) := by decide +kernel
theorem dX5_judge_164 : decode cX5_judge 164 = .ok (.ireturn, 1) := by decide +kernel
theorem dX5_image_0 : decode cX5_image 0 = .ok (.aload_n 0, 1) := by decide +kernel
theorem dX5_image_1 : decode cX5_image 1 = .ok (.getfield 16, 3) := by decide +kernel
theorem dX5_image_4 : decode cX5_image 4 = .ok (.aload_n 0, 1) := by decide +kernel
theorem dX5_image_5 : decode cX5_image 5 = .ok (.getfield 10, 3) := by decide +kernel
theorem dX5_image_8 : decode cX5_image 8 = .ok (.invokevirtual 239, 3) := by decide +kernel
theorem dX5_image_11 : decode cX5_image 11 = .ok (.aload_n 0, 1) := by decide +kernel
theorem dX5_image_12 : decode cX5_image 12 = .ok (.iconst 1, 1) := by decide +kernel
theorem dX5_image_13 : decode cX5_image 13 = .ok (.putfield 22, 3) := by decide +kernel
theorem dX5_image_16 : decode cX5_image 16 = .ok (.iconst 1, 1) := by decide +kernel
theorem dX5_image_17 : decode cX5_image 17 = .ok (.ireturn, 1) := by decide +kernel
theorem dX5_undo_0 : decode cX5_undo 0 = .ok (.aload_n 0, 1) := by decide +kernel
theorem dX5_undo_1 : decode cX5_undo 1 = .ok (.getfield 22, 3) := by decide +kernel
theorem dX5_undo_4 : decode cX5_undo 4 = .ok (.ifCond .ne 9, 3) := by decide +kernel
theorem dX5_undo_7 : decode cX5_undo 7 = .ok (.aload_n 0, 1) := by decide +kernel
theorem dX5_undo_8 : decode cX5_undo 8 = .ok (.iconst 3, 1) := by decide +kernel
theorem dX5_undo_9 : decode cX5_undo 9 = .ok (.invokevirtual 61, 3) := by decide +kernel
theorem dX5_undo_12 : decode cX5_undo 12 = .ok (.ireturn, 1) := by decide +kernel
theorem dX5_undo_13 : decode cX5_undo 13 = .ok (.aload_n 0, 1) := by decide +kernel
theorem dX5_undo_14 : decode cX5_undo 14 = .ok (.getfield 10, 3) := by decide +kernel
theorem dX5_undo_17 : decode cX5_undo 17 = .ok (.aload_n 0, 1) := by decide +kernel
theorem dX5_undo_18 : decode cX5_undo 18 = .ok (.getfield 16, 3) := by decide +kernel
theorem dX5_undo_21 : decode cX5_undo 21 = .ok (.invokevirtual 239, 3) := by decide +kernel
theorem dX5_undo_24 : decode cX5_undo 24 = .ok (.aload_n 0, 1) := by decide +kernel
theorem dX5_undo_25 : decode cX5_undo 25 = .ok (.getfield 10, 3) := by decide +kernel
theorem dX5_undo_28 : decode cX5_undo 28 = .ok (.getfield 119, 3) := by decide +kernel
theorem dX5_undo_31 : decode cX5_undo 31 = .ok (.ireturn, 1) := by decide +kernel
theorem dX5_tear_0 : decode cX5_tear 0 = .ok (.aload_n 0, 1) := by decide +kernel
theorem dX5_tear_1 : decode cX5_tear 1 = .ok (.getfield 22, 3) := by decide +kernel
theorem dX5_tear_4 : decode cX5_tear 4 = .ok (.ifCond .eq 7, 3) := by decide +kernel
theorem dX5_tear_7 : decode cX5_tear 7 = .ok (.iconst 1, 1) := by decide +kernel
theorem dX5_tear_8 : decode cX5_tear 8 = .ok (.goto 4, 3) := by decide +kernel
theorem dX5_tear_11 : decode cX5_tear 11 = .ok (.iconst 0, 1) := by decide +kernel
theorem dX5_tear_12 : decode cX5_tear 12 = .ok (.istore_n 1, 1) := by decide +kernel
theorem dX5_tear_13 : decode cX5_tear 13 = .ok (.aload_n 0, 1) := by decide +kernel
theorem dX5_tear_14 : decode cX5_tear 14 = .ok (.iconst 0, 1) := by decide +kernel
theorem dX5_tear_15 : decode cX5_tear 15 = .ok (.putfield 22, 3) := by decide +kernel
theorem dX5_tear_18 : decode cX5_tear 18 = .ok (.iload_n 1, 1) := by decide +kernel
theorem dX5_tear_19 : decode cX5_tear 19 = .ok (.ireturn, 1) := by decide +kernel
theorem dX5_count_0 : decode cX5_count 0 = .ok (.iload_n 1, 1) := by decide +kernel
theorem dX5_count_1 : decode cX5_count 1 = .ok (.tableswitch 124 0 7 #[47, 55, 63, 81, 89, 97, 108, 116], 47) := by decide +kernel
theorem dX5_count_48 : decode cX5_count 48 = .ok (.aload_n 0, 1) := by decide +kernel
theorem dX5_count_49 : decode cX5_count 49 = .ok (.getfield 10, 3) := by decide +kernel
theorem dX5_count_52 : decode cX5_count 52 = .ok (.getfield 119, 3) := by decide +kernel
theorem dX5_count_55 : decode cX5_count 55 = .ok (.ireturn, 1) := by decide +kernel
theorem dX5_count_56 : decode cX5_count 56 = .ok (.aload_n 0, 1) := by decide +kernel
theorem dX5_count_57 : decode cX5_count 57 = .ok (.getfield 10, 3) := by decide +kernel
theorem dX5_count_60 : decode cX5_count 60 = .ok (.getfield 65, 3) := by decide +kernel
theorem dX5_count_63 : decode cX5_count 63 = .ok (.ireturn, 1) := by decide +kernel
theorem dX5_count_64 : decode cX5_count 64 = .ok (.aload_n 0, 1) := by decide +kernel
theorem dX5_count_65 : decode cX5_count 65 = .ok (.getfield 10, 3) := by decide +kernel
theorem dX5_count_68 : decode cX5_count 68 = .ok (.aload_n 0, 1) := by decide +kernel
theorem dX5_count_69 : decode cX5_count 69 = .ok (.getfield 10, 3) := by decide +kernel
theorem dX5_count_72 : decode cX5_count 72 = .ok (.getfield 80, 3) := by decide +kernel
theorem dX5_count_75 : decode cX5_count 75 = .ok (.invokevirtual 126, 3) := by decide +kernel
theorem dX5_count_78 : decode cX5_count 78 = .ok (.invokestatic 130, 3) := by decide +kernel
theorem dX5_count_81 : decode cX5_count 81 = .ok (.ireturn, 1) := by decide +kernel
theorem dX5_count_82 : decode cX5_count 82 = .ok (.aload_n 0, 1) := by decide +kernel
theorem dX5_count_83 : decode cX5_count 83 = .ok (.getfield 10, 3) := by decide +kernel
theorem dX5_count_86 : decode cX5_count 86 = .ok (.getfield 194, 3) := by decide +kernel
theorem dX5_count_89 : decode cX5_count 89 = .ok (.ireturn, 1) := by decide +kernel
theorem dX5_count_90 : decode cX5_count 90 = .ok (.aload_n 0, 1) := by decide +kernel
theorem dX5_count_91 : decode cX5_count 91 = .ok (.getfield 10, 3) := by decide +kernel
theorem dX5_count_94 : decode cX5_count 94 = .ok (.invokevirtual 135, 3) := by decide +kernel
theorem dX5_count_97 : decode cX5_count 97 = .ok (.ireturn, 1) := by decide +kernel
theorem dX5_count_98 : decode cX5_count 98 = .ok (.aload_n 0, 1) := by decide +kernel
theorem dX5_count_99 : decode cX5_count 99 = .ok (.getfield 29, 3) := by decide +kernel
theorem dX5_count_102 : decode cX5_count 102 = .ok (.getfield 226, 3) := by decide +kernel
theorem dX5_count_105 : decode cX5_count 105 = .ok (.getfield 230, 3) := by decide +kernel
theorem dX5_count_108 : decode cX5_count 108 = .ok (.ireturn, 1) := by decide +kernel
theorem dX5_count_109 : decode cX5_count 109 = .ok (.aload_n 0, 1) := by decide +kernel
theorem dX5_count_110 : decode cX5_count 110 = .ok (.getfield 10, 3) := by decide +kernel
theorem dX5_count_113 : decode cX5_count 113 = .ok (.getfield 223, 3) := by decide +kernel
theorem dX5_count_116 : decode cX5_count 116 = .ok (.ireturn, 1) := by decide +kernel
theorem dX5_count_117 : decode cX5_count 117 = .ok (.aload_n 0, 1) := by decide +kernel
theorem dX5_count_118 : decode cX5_count 118 = .ok (.getfield 10, 3) := by decide +kernel
theorem dX5_count_121 : decode cX5_count 121 = .ok (.invokevirtual 278, 3) := by decide +kernel
theorem dX5_count_124 : decode cX5_count 124 = .ok (.ireturn, 1) := by decide +kernel
theorem dX5_count_125 : decode cX5_count 125 = .ok (.aload_n 0, 1) := by decide +kernel
theorem dX5_count_126 : decode cX5_count 126 = .ok (.iconst 0, 1) := by decide +kernel
theorem dX5_count_127 : decode cX5_count 127 = .ok (.invokevirtual 61, 3) := by decide +kernel
theorem dX5_count_130 : decode cX5_count 130 = .ok (.ireturn, 1) := by decide +kernel
theorem dX5_status_0 : decode cX5_status 0 = .ok (.iload_n 1, 1) := by decide +kernel
theorem dX5_status_1 : decode cX5_status 1 = .ok (.iconst (-1), 1) := by decide +kernel
theorem dX5_status_2 : decode cX5_status 2 = .ok (.if_icmp .ne 30, 3) := by decide +kernel
theorem dX5_status_5 : decode cX5_status 5 = .ok (.iconst 0, 1) := by decide +kernel
theorem dX5_status_6 : decode cX5_status 6 = .ok (.istore_n 2, 1) := by decide +kernel
theorem dX5_status_7 : decode cX5_status 7 = .ok (.iconst 0, 1) := by decide +kernel
theorem dX5_status_8 : decode cX5_status 8 = .ok (.istore_n 3, 1) := by decide +kernel
theorem dX5_status_9 : decode cX5_status 9 = .ok (.iload_n 3, 1) := by decide +kernel
theorem dX5_status_10 : decode cX5_status 10 = .ok (.bipush 7, 2) := by decide +kernel
theorem dX5_status_12 : decode cX5_status 12 = .ok (.if_icmp .ge 18, 3) := by decide +kernel
theorem dX5_status_15 : decode cX5_status 15 = .ok (.iload_n 2, 1) := by decide +kernel
theorem dX5_status_16 : decode cX5_status 16 = .ok (.aload_n 0, 1) := by decide +kernel
theorem dX5_status_17 : decode cX5_status 17 = .ok (.getfield 53, 3) := by decide +kernel
theorem dX5_status_20 : decode cX5_status 20 = .ok (.iload_n 3, 1) := by decide +kernel
theorem dX5_status_21 : decode cX5_status 21 = .ok (.iaload, 1) := by decide +kernel
theorem dX5_status_22 : decode cX5_status 22 = .ok (.iadd, 1) := by decide +kernel
theorem dX5_status_23 : decode cX5_status 23 = .ok (.istore_n 2, 1) := by decide +kernel
theorem dX5_status_24 : decode cX5_status 24 = .ok (.iinc 3 1, 3) := by decide +kernel
theorem dX5_status_27 : decode cX5_status 27 = .ok (.goto (-18), 3) := by decide +kernel
theorem dX5_status_30 : decode cX5_status 30 = .ok (.iload_n 2, 1) := by decide +kernel
theorem dX5_status_31 : decode cX5_status 31 = .ok (.ireturn, 1) := by decide +kernel
theorem dX5_status_32 : decode cX5_status 32 = .ok (.iload_n 1, 1) := by decide +kernel
theorem dX5_status_33 : decode cX5_status 33 = .ok (.bipush 7, 2) := by decide +kernel
theorem dX5_status_35 : decode cX5_status 35 = .ok (.invokestatic 57, 3) := by decide +kernel
theorem dX5_status_38 : decode cX5_status 38 = .ok (.ifCond .ne 9, 3) := by decide +kernel
theorem dX5_status_41 : decode cX5_status 41 = .ok (.aload_n 0, 1) := by decide +kernel
theorem dX5_status_42 : decode cX5_status 42 = .ok (.iconst 0, 1) := by decide +kernel
theorem dX5_status_43 : decode cX5_status 43 = .ok (.invokevirtual 61, 3) := by decide +kernel
theorem dX5_status_46 : decode cX5_status 46 = .ok (.ireturn, 1) := by decide +kernel
theorem dX5_status_47 : decode cX5_status 47 = .ok (.aload_n 0, 1) := by decide +kernel
theorem dX5_status_48 : decode cX5_status 48 = .ok (.getfield 53, 3) := by decide +kernel
theorem dX5_status_51 : decode cX5_status 51 = .ok (.iload_n 1, 1) := by decide +kernel
theorem dX5_status_52 : decode cX5_status 52 = .ok (.iaload, 1) := by decide +kernel
theorem dX5_status_53 : decode cX5_status 53 = .ok (.ireturn, 1) := by decide +kernel
theorem dX5_finding_0 : decode cX5_finding 0 = .ok (.aload_n 0, 1) := by decide +kernel
theorem dX5_finding_1 : decode cX5_finding 1 = .ok (.getfield 53, 3) := by decide +kernel
theorem dX5_finding_4 : decode cX5_finding 4 = .ok (.iload_n 1, 1) := by decide +kernel
theorem dX5_finding_5 : decode cX5_finding 5 = .ok (.dup2, 1) := by decide +kernel
theorem dX5_finding_6 : decode cX5_finding 6 = .ok (.iaload, 1) := by decide +kernel
theorem dX5_finding_7 : decode cX5_finding 7 = .ok (.iconst 1, 1) := by decide +kernel
theorem dX5_finding_8 : decode cX5_finding 8 = .ok (.iadd, 1) := by decide +kernel
theorem dX5_finding_9 : decode cX5_finding 9 = .ok (.iastore, 1) := by decide +kernel
theorem dX5_finding_10 : decode cX5_finding 10 = .ok (.ldc_w 281, 3) := by decide +kernel
theorem dX5_finding_13 : decode cX5_finding 13 = .ok (.iload_n 1, 1) := by decide +kernel
theorem dX5_finding_14 : decode cX5_finding 14 = .ok (.isub, 1) := by decide +kernel
theorem dX5_finding_15 : decode cX5_finding 15 = .ok (.ireturn, 1) := by decide +kernel
theorem dX5_isBelow_0 : decode cX5_isBelow 0 = .ok (.iload_n 0, 1) := by decide +kernel
theorem dX5_isBelow_1 : decode cX5_isBelow 1 = .ok (.ifCond .lt 12, 3) := by decide +kernel
theorem dX5_isBelow_4 : decode cX5_isBelow 4 = .ok (.iload_n 0, 1) := by decide +kernel
theorem dX5_isBelow_5 : decode cX5_isBelow 5 = .ok (.iload_n 1, 1) := by decide +kernel
theorem dX5_isBelow_6 : decode cX5_isBelow 6 = .ok (.if_icmp .ge 7, 3) := by decide +kernel
theorem dX5_isBelow_9 : decode cX5_isBelow 9 = .ok (.iconst 1, 1) := by decide +kernel
theorem dX5_isBelow_10 : decode cX5_isBelow 10 = .ok (.goto 4, 3) := by decide +kernel
theorem dX5_isBelow_13 : decode cX5_isBelow 13 = .ok (.iconst 0, 1) := by decide +kernel
theorem dX5_isBelow_14 : decode cX5_isBelow 14 = .ok (.ireturn, 1) := by decide +kernel
theorem dX5_isWithin_0 : decode cX5_isWithin 0 = .ok (.iload_n 0, 1) := by decide +kernel
theorem dX5_isWithin_1 : decode cX5_isWithin 1 = .ok (.ifCond .lt 12, 3) := by decide +kernel
theorem dX5_isWithin_4 : decode cX5_isWithin 4 = .ok (.iload_n 0, 1) := by decide +kernel
theorem dX5_isWithin_5 : decode cX5_isWithin 5 = .ok (.iload_n 1, 1) := by decide +kernel
theorem dX5_isWithin_6 : decode cX5_isWithin 6 = .ok (.if_icmp .gt 7, 3) := by decide +kernel
theorem dX5_isWithin_9 : decode cX5_isWithin 9 = .ok (.iconst 1, 1) := by decide +kernel
theorem dX5_isWithin_10 : decode cX5_isWithin 10 = .ok (.goto 4, 3) := by decide +kernel
theorem dX5_isWithin_13 : decode cX5_isWithin 13 = .ok (.iconst 0, 1) := by decide +kernel
theorem dX5_isWithin_14 : decode cX5_isWithin 14 = .ok (.ireturn, 1) := by decide +kernel
theorem dX5_isSetOfStars_0 : decode cX5_isSetOfStars 0 = .ok (.iload_n 1, 1) := by decide +kernel
theorem dX5_isSetOfStars_1 : decode cX5_isSetOfStars 1 = .ok (.iconst 1, 1) := by decide +kernel
theorem dX5_isSetOfStars_2 : decode cX5_isSetOfStars 2 = .ok (.aload_n 0, 1) := by decide +kernel
theorem dX5_isSetOfStars_3 : decode cX5_isSetOfStars 3 = .ok (.getfield 10, 3) := by decide +kernel
theorem dX5_isSetOfStars_6 : decode cX5_isSetOfStars 6 = .ok (.getfield 65, 3) := by decide +kernel
theorem dX5_isSetOfStars_9 : decode cX5_isSetOfStars 9 = .ok (.ishl, 1) := by decide +kernel
theorem dX5_isSetOfStars_10 : decode cX5_isSetOfStars 10 = .ok (.invokestatic 57, 3) := by decide +kernel
theorem dX5_isSetOfStars_13 : decode cX5_isSetOfStars 13 = .ok (.ireturn, 1) := by decide +kernel
theorem dX5_replaced_0 : decode cX5_replaced 0 = .ok (.aload_n 0, 1) := by decide +kernel
theorem dX5_replaced_1 : decode cX5_replaced 1 = .ok (.iload_n 1, 1) := by decide +kernel
theorem dX5_replaced_2 : decode cX5_replaced 2 = .ok (.iaload, 1) := by decide +kernel
theorem dX5_replaced_3 : decode cX5_replaced 3 = .ok (.istore_n 3, 1) := by decide +kernel
theorem dX5_replaced_4 : decode cX5_replaced 4 = .ok (.aload_n 0, 1) := by decide +kernel
theorem dX5_replaced_5 : decode cX5_replaced 5 = .ok (.iload_n 1, 1) := by decide +kernel
theorem dX5_replaced_6 : decode cX5_replaced 6 = .ok (.iload_n 2, 1) := by decide +kernel
theorem dX5_replaced_7 : decode cX5_replaced 7 = .ok (.iastore, 1) := by decide +kernel
theorem dX5_replaced_8 : decode cX5_replaced 8 = .ok (.iload_n 3, 1) := by decide +kernel
theorem dX5_replaced_9 : decode cX5_replaced 9 = .ok (.ireturn, 1) := by decide +kernel
theorem dX5_stepsBetween_0 : decode cX5_stepsBetween 0 = .ok (.iload_n 0, 1) := by decide +kernel
theorem dX5_stepsBetween_1 : decode cX5_stepsBetween 1 = .ok (.iload_n 1, 1) := by decide +kernel
theorem dX5_stepsBetween_2 : decode cX5_stepsBetween 2 = .ok (.isub, 1) := by decide +kernel
theorem dX5_stepsBetween_3 : decode cX5_stepsBetween 3 = .ok (.invokestatic 282, 3) := by decide +kernel
theorem dX5_stepsBetween_6 : decode cX5_stepsBetween 6 = .ok (.istore_n 2, 1) := by decide +kernel
theorem dX5_stepsBetween_7 : decode cX5_stepsBetween 7 = .ok (.iload_n 2, 1) := by decide +kernel
theorem dX5_stepsBetween_8 : decode cX5_stepsBetween 8 = .ok (.bipush 100, 2) := by decide +kernel
theorem dX5_stepsBetween_10 : decode cX5_stepsBetween 10 = .ok (.iload_n 2, 1) := by decide +kernel
theorem dX5_stepsBetween_11 : decode cX5_stepsBetween 11 = .ok (.isub, 1) := by decide +kernel
theorem dX5_stepsBetween_12 : decode cX5_stepsBetween 12 = .ok (.invokestatic 161, 3) := by decide +kernel
theorem dX5_stepsBetween_15 : decode cX5_stepsBetween 15 = .ok (.ireturn, 1) := by decide +kernel
theorem dX5_power_0 : decode cX5_power 0 = .ok (.lconst 1, 1) := by decide +kernel
theorem dX5_power_1 : decode cX5_power 1 = .ok (.lstore_n 2, 1) := by decide +kernel
theorem dX5_power_2 : decode cX5_power 2 = .ok (.iconst 0, 1) := by decide +kernel
theorem dX5_power_3 : decode cX5_power 3 = .ok (.istore 4, 2) := by decide +kernel
theorem dX5_power_5 : decode cX5_power 5 = .ok (.iload 4, 2) := by decide +kernel
theorem dX5_power_7 : decode cX5_power 7 = .ok (.iload_n 1, 1) := by decide +kernel
theorem dX5_power_8 : decode cX5_power 8 = .ok (.if_icmp .ge 14, 3) := by decide +kernel
theorem dX5_power_11 : decode cX5_power 11 = .ok (.lload_n 2, 1) := by decide +kernel
theorem dX5_power_12 : decode cX5_power 12 = .ok (.iload_n 0, 1) := by decide +kernel
theorem dX5_power_13 : decode cX5_power 13 = .ok (.i2l, 1) := by decide +kernel
theorem dX5_power_14 : decode cX5_power 14 = .ok (.lmul, 1) := by decide +kernel
theorem dX5_power_15 : decode cX5_power 15 = .ok (.lstore_n 2, 1) := by decide +kernel
theorem dX5_power_16 : decode cX5_power 16 = .ok (.iinc 4 1, 3) := by decide +kernel
theorem dX5_power_19 : decode cX5_power 19 = .ok (.goto (-14), 3) := by decide +kernel
theorem dX5_power_22 : decode cX5_power 22 = .ok (.lload_n 2, 1) := by decide +kernel
theorem dX5_power_23 : decode cX5_power 23 = .ok (.lreturn, 1) := by decide +kernel
theorem dX5_isUnder_0 : decode cX5_isUnder 0 = .ok (.iload_n 0, 1) := by decide +kernel
theorem dX5_isUnder_1 : decode cX5_isUnder 1 = .ok (.istore_n 2, 1) := by decide +kernel
theorem dX5_isUnder_2 : decode cX5_isUnder 2 = .ok (.iconst 0, 1) := by decide +kernel
theorem dX5_isUnder_3 : decode cX5_isUnder 3 = .ok (.istore_n 3, 1) := by decide +kernel
theorem dX5_isUnder_4 : decode cX5_isUnder 4 = .ok (.iload_n 3, 1) := by decide +kernel
theorem dX5_isUnder_5 : decode cX5_isUnder 5 = .ok (.bipush 7, 2) := by decide +kernel
theorem dX5_isUnder_7 : decode cX5_isUnder 7 = .ok (.if_icmp .ge 25, 3) := by decide +kernel
theorem dX5_isUnder_10 : decode cX5_isUnder 10 = .ok (.iload_n 2, 1) := by decide +kernel
theorem dX5_isUnder_11 : decode cX5_isUnder 11 = .ok (.ifCond .lt 21, 3) := by decide +kernel
theorem dX5_isUnder_14 : decode cX5_isUnder 14 = .ok (.iload_n 2, 1) := by decide +kernel
theorem dX5_isUnder_15 : decode cX5_isUnder 15 = .ok (.iload_n 1, 1) := by decide +kernel
theorem dX5_isUnder_16 : decode cX5_isUnder 16 = .ok (.if_icmp .ne 5, 3) := by decide +kernel
theorem dX5_isUnder_19 : decode cX5_isUnder 19 = .ok (.iconst 1, 1) := by decide +kernel
theorem dX5_isUnder_20 : decode cX5_isUnder 20 = .ok (.ireturn, 1) := by decide +kernel
theorem dX5_isUnder_21 : decode cX5_isUnder 21 = .ok (.iload_n 2, 1) := by decide +kernel
theorem dX5_isUnder_22 : decode cX5_isUnder 22 = .ok (.invokestatic 285, 3) := by decide +kernel
theorem dX5_isUnder_25 : decode cX5_isUnder 25 = .ok (.istore_n 2, 1) := by decide +kernel
theorem dX5_isUnder_26 : decode cX5_isUnder 26 = .ok (.iinc 3 1, 3) := by decide +kernel
theorem dX5_isUnder_29 : decode cX5_isUnder 29 = .ok (.goto (-25), 3) := by decide +kernel
theorem dX5_isUnder_32 : decode cX5_isUnder 32 = .ok (.iconst 0, 1) := by decide +kernel
theorem dX5_isUnder_33 : decode cX5_isUnder 33 = .ok (.ireturn, 1) := by decide +kernel
theorem dX5_kindOver_0 : decode cX5_kindOver 0 = .ok (.iload_n 0, 1) := by decide +kernel
theorem dX5_kindOver_1 : decode cX5_kindOver 1 = .ok (.tableswitch 47 1 6 #[39, 39, 41, 43, 39, 45], 39) := by decide +kernel
theorem dX5_kindOver_40 : decode cX5_kindOver 40 = .ok (.iconst 0, 1) := by decide +kernel
theorem dX5_kindOver_41 : decode cX5_kindOver 41 = .ok (.ireturn, 1) := by decide +kernel
theorem dX5_kindOver_42 : decode cX5_kindOver 42 = .ok (.iconst 2, 1) := by decide +kernel
theorem dX5_kindOver_43 : decode cX5_kindOver 43 = .ok (.ireturn, 1) := by decide +kernel
theorem dX5_kindOver_44 : decode cX5_kindOver 44 = .ok (.iconst 3, 1) := by decide +kernel
theorem dX5_kindOver_45 : decode cX5_kindOver 45 = .ok (.ireturn, 1) := by decide +kernel
theorem dX5_kindOver_46 : decode cX5_kindOver 46 = .ok (.iconst 1, 1) := by decide +kernel
theorem dX5_kindOver_47 : decode cX5_kindOver 47 = .ok (.ireturn, 1) := by decide +kernel
theorem dX5_kindOver_48 : decode cX5_kindOver 48 = .ok (.iconst (-1), 1) := by decide +kernel
theorem dX5_kindOver_49 : decode cX5_kindOver 49 = .ok (.ireturn, 1) := by decide +kernel
theorem dX5_copyLives_0 : decode cX5_copyLives 0 = .ok (.aload_n 0, 1) := by decide +kernel
theorem dX5_copyLives_1 : decode cX5_copyLives 1 = .ok (.getfield 10, 3) := by decide +kernel
theorem dX5_copyLives_4 : decode cX5_copyLives 4 = .ok (.getfield 80, 3) := by decide +kernel
theorem dX5_copyLives_7 : decode cX5_copyLives 7 = .ok (.iconst 0, 1) := by decide +kernel
theorem dX5_copyLives_8 : decode cX5_copyLives 8 = .ok (.aload_n 0, 1) := by decide +kernel
theorem dX5_copyLives_9 : decode cX5_copyLives 9 = .ok (.getfield 49, 3) := by decide +kernel
theorem dX5_copyLives_12 : decode cX5_copyLives 12 = .ok (.iconst 0, 1) := by decide +kernel
theorem dX5_copyLives_13 : decode cX5_copyLives 13 = .ok (.bipush 10, 2) := by decide +kernel
theorem dX5_copyLives_15 : decode cX5_copyLives 15 = .ok (.invokestatic 269, 3) := by decide +kernel
theorem dX5_copyLives_18 : decode cX5_copyLives 18 = .ok (.return_, 1) := by decide +kernel
theorem dX5_bestSet_0 : decode cX5_bestSet 0 = .ok (.aload_n 0, 1) := by decide +kernel
theorem dX5_bestSet_1 : decode cX5_bestSet 1 = .ok (.getfield 42, 3) := by decide +kernel
theorem dX5_bestSet_4 : decode cX5_bestSet 4 = .ok (.aload_n 0, 1) := by decide +kernel
theorem dX5_bestSet_5 : decode cX5_bestSet 5 = .ok (.getfield 10, 3) := by decide +kernel
theorem dX5_bestSet_8 : decode cX5_bestSet 8 = .ok (.aload_n 0, 1) := by decide +kernel
theorem dX5_bestSet_9 : decode cX5_bestSet 9 = .ok (.getfield 10, 3) := by decide +kernel
theorem dX5_bestSet_12 : decode cX5_bestSet 12 = .ok (.getfield 142, 3) := by decide +kernel
theorem dX5_bestSet_15 : decode cX5_bestSet 15 = .ok (.iload_n 1, 1) := by decide +kernel
theorem dX5_bestSet_16 : decode cX5_bestSet 16 = .ok (.iaload, 1) := by decide +kernel
theorem dX5_bestSet_17 : decode cX5_bestSet 17 = .ok (.invokevirtual 173, 3) := by decide +kernel
theorem dX5_bestSet_20 : decode cX5_bestSet 20 = .ok (.iconst 0, 1) := by decide +kernel
theorem dX5_bestSet_21 : decode cX5_bestSet 21 = .ok (.istore_n 2, 1) := by decide +kernel
theorem dX5_bestSet_22 : decode cX5_bestSet 22 = .ok (.iconst 0, 1) := by decide +kernel
theorem dX5_bestSet_23 : decode cX5_bestSet 23 = .ok (.istore_n 3, 1) := by decide +kernel
theorem dX5_bestSet_24 : decode cX5_bestSet 24 = .ok (.iconst 1, 1) := by decide +kernel
theorem dX5_bestSet_25 : decode cX5_bestSet 25 = .ok (.istore 4, 2) := by decide +kernel
theorem dX5_bestSet_27 : decode cX5_bestSet 27 = .ok (.iload 4, 2) := by decide +kernel
theorem dX5_bestSet_29 : decode cX5_bestSet 29 = .ok (.iconst 1, 1) := by decide +kernel
theorem dX5_bestSet_30 : decode cX5_bestSet 30 = .ok (.aload_n 0, 1) := by decide +kernel
theorem dX5_bestSet_31 : decode cX5_bestSet 31 = .ok (.getfield 10, 3) := by decide +kernel
theorem dX5_bestSet_34 : decode cX5_bestSet 34 = .ok (.getfield 65, 3) := by decide +kernel
theorem dX5_bestSet_37 : decode cX5_bestSet 37 = .ok (.ishl, 1) := by decide +kernel
theorem dX5_bestSet_38 : decode cX5_bestSet 38 = .ok (.if_icmp .ge 70, 3) := by decide +kernel
theorem dX5_bestSet_41 : decode cX5_bestSet 41 = .ok (.aload_n 0, 1) := by decide +kernel
theorem dX5_bestSet_42 : decode cX5_bestSet 42 = .ok (.getfield 10, 3) := by decide +kernel
theorem dX5_bestSet_45 : decode cX5_bestSet 45 = .ok (.iload 4, 2) := by decide +kernel
theorem dX5_bestSet_47 : decode cX5_bestSet 47 = .ok (.invokevirtual 139, 3) := by decide +kernel
theorem dX5_bestSet_50 : decode cX5_bestSet 50 = .ok (.istore 5, 2) := by decide +kernel
theorem dX5_bestSet_52 : decode cX5_bestSet 52 = .ok (.iload 5, 2) := by decide +kernel
theorem dX5_bestSet_54 : decode cX5_bestSet 54 = .ok (.iload_n 2, 1) := by decide +kernel
theorem dX5_bestSet_55 : decode cX5_bestSet 55 = .ok (.if_icmp .le 47, 3) := by decide +kernel
theorem dX5_bestSet_58 : decode cX5_bestSet 58 = .ok (.iload 4, 2) := by decide +kernel
theorem dX5_bestSet_60 : decode cX5_bestSet 60 = .ok (.invokestatic 130, 3) := by decide +kernel
theorem dX5_bestSet_63 : decode cX5_bestSet 63 = .ok (.aload_n 0, 1) := by decide +kernel
theorem dX5_bestSet_64 : decode cX5_bestSet 64 = .ok (.getfield 10, 3) := by decide +kernel
theorem dX5_bestSet_67 : decode cX5_bestSet 67 = .ok (.getfield 83, 3) := by decide +kernel
theorem dX5_bestSet_70 : decode cX5_bestSet 70 = .ok (.iconst 3, 1) := by decide +kernel
theorem dX5_bestSet_71 : decode cX5_bestSet 71 = .ok (.iaload, 1) := by decide +kernel
theorem dX5_bestSet_72 : decode cX5_bestSet 72 = .ok (.if_icmp .gt 30, 3) := by decide +kernel
theorem dX5_bestSet_75 : decode cX5_bestSet 75 = .ok (.aload_n 0, 1) := by decide +kernel
theorem dX5_bestSet_76 : decode cX5_bestSet 76 = .ok (.getfield 42, 3) := by decide +kernel
theorem dX5_bestSet_79 : decode cX5_bestSet 79 = .ok (.iload 4, 2) := by decide +kernel
theorem dX5_bestSet_81 : decode cX5_bestSet 81 = .ok (.invokevirtual 177, 3) := by decide +kernel
theorem dX5_bestSet_84 : decode cX5_bestSet 84 = .ok (.aload_n 0, 1) := by decide +kernel
theorem dX5_bestSet_85 : decode cX5_bestSet 85 = .ok (.getfield 10, 3) := by decide +kernel
theorem dX5_bestSet_88 : decode cX5_bestSet 88 = .ok (.getfield 275, 3) := by decide +kernel
theorem dX5_bestSet_91 : decode cX5_bestSet 91 = .ok (.iload_n 1, 1) := by decide +kernel
theorem dX5_bestSet_92 : decode cX5_bestSet 92 = .ok (.iaload, 1) := by decide +kernel
theorem dX5_bestSet_93 : decode cX5_bestSet 93 = .ok (.if_icmp .gt 9, 3) := by decide +kernel
theorem dX5_bestSet_96 : decode cX5_bestSet 96 = .ok (.iload 5, 2) := by decide +kernel
theorem dX5_bestSet_98 : decode cX5_bestSet 98 = .ok (.istore_n 2, 1) := by decide +kernel
theorem dX5_bestSet_99 : decode cX5_bestSet 99 = .ok (.iload 4, 2) := by decide +kernel
theorem dX5_bestSet_101 : decode cX5_bestSet 101 = .ok (.istore_n 3, 1) := by decide +kernel
theorem dX5_bestSet_102 : decode cX5_bestSet 102 = .ok (.iinc 4 1, 3) := by decide +kernel
theorem dX5_bestSet_105 : decode cX5_bestSet 105 = .ok (.goto (-78), 3) := by decide +kernel
theorem dX5_bestSet_108 : decode cX5_bestSet 108 = .ok (.iload_n 3, 1) := by decide +kernel
theorem dX5_bestSet_109 : decode cX5_bestSet 109 = .ok (.ireturn, 1) := by decide +kernel
theorem dX5_canShare_0 : decode cX5_canShare 0 = .ok (.iload_n 1, 1) := by decide +kernel
theorem dX5_canShare_1 : decode cX5_canShare 1 = .ok (.iconst 4, 1) := by decide +kernel
theorem dX5_canShare_2 : decode cX5_canShare 2 = .ok (.invokestatic 57, 3) := by decide +kernel
theorem dX5_canShare_5 : decode cX5_canShare 5 = .ok (.ifCond .eq 28, 3) := by decide +kernel
theorem dX5_canShare_8 : decode cX5_canShare 8 = .ok (.iload_n 2, 1) := by decide +kernel
theorem dX5_canShare_9 : decode cX5_canShare 9 = .ok (.iconst 4, 1) := by decide +kernel
theorem dX5_canShare_10 : decode cX5_canShare 10 = .ok (.invokestatic 57, 3) := by decide +kernel
theorem dX5_canShare_13 : decode cX5_canShare 13 = .ok (.ifCond .eq 20, 3) := by decide +kernel
theorem dX5_canShare_16 : decode cX5_canShare 16 = .ok (.iload_n 1, 1) := by decide +kernel
theorem dX5_canShare_17 : decode cX5_canShare 17 = .ok (.iload_n 2, 1) := by decide +kernel
theorem dX5_canShare_18 : decode cX5_canShare 18 = .ok (.if_icmp .eq 15, 3) := by decide +kernel
theorem dX5_canShare_21 : decode cX5_canShare 21 = .ok (.aload_n 0, 1) := by decide +kernel
theorem dX5_canShare_22 : decode cX5_canShare 22 = .ok (.iload_n 3, 1) := by decide +kernel
theorem dX5_canShare_23 : decode cX5_canShare 23 = .ok (.invokevirtual 169, 3) := by decide +kernel
theorem dX5_canShare_26 : decode cX5_canShare 26 = .ok (.ifCond .eq 7, 3) := by decide +kernel
theorem dX5_canShare_29 : decode cX5_canShare 29 = .ok (.iconst 1, 1) := by decide +kernel
theorem dX5_canShare_30 : decode cX5_canShare 30 = .ok (.goto 4, 3) := by decide +kernel
theorem dX5_canShare_33 : decode cX5_canShare 33 = .ok (.iconst 0, 1) := by decide +kernel
theorem dX5_canShare_34 : decode cX5_canShare 34 = .ok (.ireturn, 1) := by decide +kernel
theorem dX5_firstShare_0 : decode cX5_firstShare 0 = .ok (.aload_n 0, 1) := by decide +kernel
theorem dX5_firstShare_1 : decode cX5_firstShare 1 = .ok (.getfield 42, 3) := by decide +kernel
theorem dX5_firstShare_4 : decode cX5_firstShare 4 = .ok (.aload_n 0, 1) := by decide +kernel
theorem dX5_firstShare_5 : decode cX5_firstShare 5 = .ok (.getfield 10, 3) := by decide +kernel
theorem dX5_firstShare_8 : decode cX5_firstShare 8 = .ok (.aload_n 0, 1) := by decide +kernel
theorem dX5_firstShare_9 : decode cX5_firstShare 9 = .ok (.getfield 10, 3) := by decide +kernel
theorem dX5_firstShare_12 : decode cX5_firstShare 12 = .ok (.getfield 142, 3) := by decide +kernel
theorem dX5_firstShare_15 : decode cX5_firstShare 15 = .ok (.iload_n 1, 1) := by decide +kernel
theorem dX5_firstShare_16 : decode cX5_firstShare 16 = .ok (.iaload, 1) := by decide +kernel
theorem dX5_firstShare_17 : decode cX5_firstShare 17 = .ok (.invokevirtual 173, 3) := by decide +kernel
theorem dX5_firstShare_20 : decode cX5_firstShare 20 = .ok (.aload_n 0, 1) := by decide +kernel
theorem dX5_firstShare_21 : decode cX5_firstShare 21 = .ok (.getfield 46, 3) := by decide +kernel
theorem dX5_firstShare_24 : decode cX5_firstShare 24 = .ok (.aload_n 0, 1) := by decide +kernel
theorem dX5_firstShare_25 : decode cX5_firstShare 25 = .ok (.getfield 10, 3) := by decide +kernel
theorem dX5_firstShare_28 : decode cX5_firstShare 28 = .ok (.aload_n 0, 1) := by decide +kernel
theorem dX5_firstShare_29 : decode cX5_firstShare 29 = .ok (.getfield 10, 3) := by decide +kernel
theorem dX5_firstShare_32 : decode cX5_firstShare 32 = .ok (.getfield 142, 3) := by decide +kernel
theorem dX5_firstShare_35 : decode cX5_firstShare 35 = .ok (.iload_n 2, 1) := by decide +kernel
theorem dX5_firstShare_36 : decode cX5_firstShare 36 = .ok (.iaload, 1) := by decide +kernel
theorem dX5_firstShare_37 : decode cX5_firstShare 37 = .ok (.invokevirtual 173, 3) := by decide +kernel
theorem dX5_firstShare_40 : decode cX5_firstShare 40 = .ok (.ldc 183, 2) := by decide +kernel
theorem dX5_firstShare_42 : decode cX5_firstShare 42 = .ok (.istore 4, 2) := by decide +kernel
theorem dX5_firstShare_44 : decode cX5_firstShare 44 = .ok (.iconst 0, 1) := by decide +kernel
theorem dX5_firstShare_45 : decode cX5_firstShare 45 = .ok (.istore 5, 2) := by decide +kernel
theorem dX5_firstShare_47 : decode cX5_firstShare 47 = .ok (.iconst 0, 1) := by decide +kernel
theorem dX5_firstShare_48 : decode cX5_firstShare 48 = .ok (.istore 6, 2) := by decide +kernel
theorem dX5_firstShare_50 : decode cX5_firstShare 50 = .ok (.iload 6, 2) := by decide +kernel
theorem dX5_firstShare_52 : decode cX5_firstShare 52 = .ok (.iload_n 3, 1) := by decide +kernel
theorem dX5_firstShare_53 : decode cX5_firstShare 53 = .ok (.if_icmp .gt 42, 3) := by decide +kernel
theorem dX5_firstShare_56 : decode cX5_firstShare 56 = .ok (.iload 6, 2) := by decide +kernel
theorem dX5_firstShare_58 : decode cX5_firstShare 58 = .ok (.iload_n 3, 1) := by decide +kernel
theorem dX5_firstShare_59 : decode cX5_firstShare 59 = .ok (.iconst (-1), 1) := by decide +kernel
theorem dX5_firstShare_60 : decode cX5_firstShare 60 = .ok (.ixor, 1) := by decide +kernel
theorem dX5_firstShare_61 : decode cX5_firstShare 61 = .ok (.iand, 1) := by decide +kernel
theorem dX5_firstShare_62 : decode cX5_firstShare 62 = .ok (.ifCond .ne 27, 3) := by decide +kernel
theorem dX5_firstShare_65 : decode cX5_firstShare 65 = .ok (.aload_n 0, 1) := by decide +kernel
theorem dX5_firstShare_66 : decode cX5_firstShare 66 = .ok (.iload 6, 2) := by decide +kernel
theorem dX5_firstShare_68 : decode cX5_firstShare 68 = .ok (.iload_n 3, 1) := by decide +kernel
theorem dX5_firstShare_69 : decode cX5_firstShare 69 = .ok (.invokevirtual 191, 3) := by decide +kernel
theorem dX5_firstShare_72 : decode cX5_firstShare 72 = .ok (.istore 7, 2) := by decide +kernel
theorem dX5_firstShare_74 : decode cX5_firstShare 74 = .ok (.iload 7, 2) := by decide +kernel
theorem dX5_firstShare_76 : decode cX5_firstShare 76 = .ok (.iload 4, 2) := by decide +kernel
theorem dX5_firstShare_78 : decode cX5_firstShare 78 = .ok (.if_icmp .ge 11, 3) := by decide +kernel
theorem dX5_firstShare_81 : decode cX5_firstShare 81 = .ok (.iload 7, 2) := by decide +kernel
theorem dX5_firstShare_83 : decode cX5_firstShare 83 = .ok (.istore 4, 2) := by decide +kernel
theorem dX5_firstShare_85 : decode cX5_firstShare 85 = .ok (.iload 6, 2) := by decide +kernel
theorem dX5_firstShare_87 : decode cX5_firstShare 87 = .ok (.istore 5, 2) := by decide +kernel
theorem dX5_firstShare_89 : decode cX5_firstShare 89 = .ok (.iinc 6 1, 3) := by decide +kernel
theorem dX5_firstShare_92 : decode cX5_firstShare 92 = .ok (.goto (-42), 3) := by decide +kernel
theorem dX5_firstShare_95 : decode cX5_firstShare 95 = .ok (.iload 5, 2) := by decide +kernel
theorem dX5_firstShare_97 : decode cX5_firstShare 97 = .ok (.ireturn, 1) := by decide +kernel
theorem dX5_longerWay_0 : decode cX5_longerWay 0 = .ok (.aload_n 0, 1) := by decide +kernel
theorem dX5_longerWay_1 : decode cX5_longerWay 1 = .ok (.getfield 42, 3) := by decide +kernel
theorem dX5_longerWay_4 : decode cX5_longerWay 4 = .ok (.iload_n 1, 1) := by decide +kernel
theorem dX5_longerWay_5 : decode cX5_longerWay 5 = .ok (.invokevirtual 177, 3) := by decide +kernel
theorem dX5_longerWay_8 : decode cX5_longerWay 8 = .ok (.aload_n 0, 1) := by decide +kernel
theorem dX5_longerWay_9 : decode cX5_longerWay 9 = .ok (.getfield 46, 3) := by decide +kernel
theorem dX5_longerWay_12 : decode cX5_longerWay 12 = .ok (.iload_n 2, 1) := by decide +kernel
theorem dX5_longerWay_13 : decode cX5_longerWay 13 = .ok (.iload_n 1, 1) := by decide +kernel
theorem dX5_longerWay_14 : decode cX5_longerWay 14 = .ok (.iconst (-1), 1) := by decide +kernel
theorem dX5_longerWay_15 : decode cX5_longerWay 15 = .ok (.ixor, 1) := by decide +kernel
theorem dX5_longerWay_16 : decode cX5_longerWay 16 = .ok (.iand, 1) := by decide +kernel
theorem dX5_longerWay_17 : decode cX5_longerWay 17 = .ok (.invokevirtual 177, 3) := by decide +kernel
theorem dX5_longerWay_20 : decode cX5_longerWay 20 = .ok (.invokestatic 288, 3) := by decide +kernel
theorem dX5_longerWay_23 : decode cX5_longerWay 23 = .ok (.ireturn, 1) := by decide +kernel
theorem dX5_lackOfSheet_0 : decode cX5_lackOfSheet 0 = .ok (.iload_n 1, 1) := by decide +kernel
theorem dX5_lackOfSheet_1 : decode cX5_lackOfSheet 1 = .ok (.iconst 4, 1) := by decide +kernel
theorem dX5_lackOfSheet_2 : decode cX5_lackOfSheet 2 = .ok (.invokestatic 57, 3) := by decide +kernel
theorem dX5_lackOfSheet_5 : decode cX5_lackOfSheet 5 = .ok (.ifCond .ne 9, 3) := by decide +kernel
theorem dX5_lackOfSheet_8 : decode cX5_lackOfSheet 8 = .ok (.aload_n 0, 1) := by decide +kernel
theorem dX5_lackOfSheet_9 : decode cX5_lackOfSheet 9 = .ok (.iconst 0, 1) := by decide +kernel
theorem dX5_lackOfSheet_10 : decode cX5_lackOfSheet 10 = .ok (.invokevirtual 61, 3) := by decide +kernel
theorem dX5_lackOfSheet_13 : decode cX5_lackOfSheet 13 = .ok (.ireturn, 1) := by decide +kernel
theorem dX5_lackOfSheet_14 : decode cX5_lackOfSheet 14 = .ok (.aload_n 0, 1) := by decide +kernel
theorem dX5_lackOfSheet_15 : decode cX5_lackOfSheet 15 = .ok (.getfield 35, 3) := by decide +kernel
theorem dX5_lackOfSheet_18 : decode cX5_lackOfSheet 18 = .ok (.iload_n 1, 1) := by decide +kernel
theorem dX5_lackOfSheet_19 : decode cX5_lackOfSheet 19 = .ok (.aaload, 1) := by decide +kernel
theorem dX5_lackOfSheet_20 : decode cX5_lackOfSheet 20 = .ok (.getfield 260, 3) := by decide +kernel
theorem dX5_lackOfSheet_23 : decode cX5_lackOfSheet 23 = .ok (.ifCond .ne 11, 3) := by decide +kernel
theorem dX5_lackOfSheet_26 : decode cX5_lackOfSheet 26 = .ok (.aload_n 0, 1) := by decide +kernel
theorem dX5_lackOfSheet_27 : decode cX5_lackOfSheet 27 = .ok (.iconst 5, 1) := by decide +kernel
theorem dX5_lackOfSheet_28 : decode cX5_lackOfSheet 28 = .ok (.invokevirtual 61, 3) := by decide +kernel
theorem dX5_lackOfSheet_31 : decode cX5_lackOfSheet 31 = .ok (.goto 4, 3) := by decide +kernel
theorem dX5_lackOfSheet_34 : decode cX5_lackOfSheet 34 = .ok (.iconst 0, 1) := by decide +kernel
theorem dX5_lackOfSheet_35 : decode cX5_lackOfSheet 35 = .ok (.ireturn, 1) := by decide +kernel
theorem dX5_isAsSheet_0 : decode cX5_isAsSheet 0 = .ok (.aload_n 0, 1) := by decide +kernel
theorem dX5_isAsSheet_1 : decode cX5_isAsSheet 1 = .ok (.getfield 10, 3) := by decide +kernel
theorem dX5_isAsSheet_4 : decode cX5_isAsSheet 4 = .ok (.getfield 80, 3) := by decide +kernel
theorem dX5_isAsSheet_7 : decode cX5_isAsSheet 7 = .ok (.iload_n 2, 1) := by decide +kernel
theorem dX5_isAsSheet_8 : decode cX5_isAsSheet 8 = .ok (.iaload, 1) := by decide +kernel
theorem dX5_isAsSheet_9 : decode cX5_isAsSheet 9 = .ok (.istore 4, 2) := by decide +kernel
theorem dX5_isAsSheet_11 : decode cX5_isAsSheet 11 = .ok (.iconst 0, 1) := by decide +kernel
theorem dX5_isAsSheet_12 : decode cX5_isAsSheet 12 = .ok (.istore 5, 2) := by decide +kernel
theorem dX5_isAsSheet_14 : decode cX5_isAsSheet 14 = .ok (.iload 5, 2) := by decide +kernel
theorem dX5_isAsSheet_16 : decode cX5_isAsSheet 16 = .ok (.aload_n 1, 1) := by decide +kernel
theorem dX5_isAsSheet_17 : decode cX5_isAsSheet 17 = .ok (.getfield 256, 3) := by decide +kernel
theorem dX5_isAsSheet_20 : decode cX5_isAsSheet 20 = .ok (.if_icmp .ge 54, 3) := by decide +kernel
theorem dX5_isAsSheet_23 : decode cX5_isAsSheet 23 = .ok (.aload_n 1, 1) := by decide +kernel
theorem dX5_isAsSheet_24 : decode cX5_isAsSheet 24 = .ok (.getfield 266, 3) := by decide +kernel
theorem dX5_isAsSheet_27 : decode cX5_isAsSheet 27 = .ok (.iload 5, 2) := by decide +kernel
theorem dX5_isAsSheet_29 : decode cX5_isAsSheet 29 = .ok (.iaload, 1) := by decide +kernel
theorem dX5_isAsSheet_30 : decode cX5_isAsSheet 30 = .ok (.istore 6, 2) := by decide +kernel
theorem dX5_isAsSheet_32 : decode cX5_isAsSheet 32 = .ok (.iload 6, 2) := by decide +kernel
theorem dX5_isAsSheet_34 : decode cX5_isAsSheet 34 = .ok (.iconst (-1), 1) := by decide +kernel
theorem dX5_isAsSheet_35 : decode cX5_isAsSheet 35 = .ok (.if_icmp .eq 12, 3) := by decide +kernel
theorem dX5_isAsSheet_38 : decode cX5_isAsSheet 38 = .ok (.iload 6, 2) := by decide +kernel
theorem dX5_isAsSheet_40 : decode cX5_isAsSheet 40 = .ok (.iload 4, 2) := by decide +kernel
theorem dX5_isAsSheet_42 : decode cX5_isAsSheet 42 = .ok (.if_icmp .eq 5, 3) := by decide +kernel
theorem dX5_isAsSheet_45 : decode cX5_isAsSheet 45 = .ok (.iconst 0, 1) := by decide +kernel
theorem dX5_isAsSheet_46 : decode cX5_isAsSheet 46 = .ok (.ireturn, 1) := by decide +kernel
theorem dX5_isAsSheet_47 : decode cX5_isAsSheet 47 = .ok (.aload_n 0, 1) := by decide +kernel
theorem dX5_isAsSheet_48 : decode cX5_isAsSheet 48 = .ok (.getfield 10, 3) := by decide +kernel
theorem dX5_isAsSheet_51 : decode cX5_isAsSheet 51 = .ok (.iload_n 3, 1) := by decide +kernel
theorem dX5_isAsSheet_52 : decode cX5_isAsSheet 52 = .ok (.iload 4, 2) := by decide +kernel
theorem dX5_isAsSheet_54 : decode cX5_isAsSheet 54 = .ok (.aload_n 0, 1) := by decide +kernel
theorem dX5_isAsSheet_55 : decode cX5_isAsSheet 55 = .ok (.getfield 10, 3) := by decide +kernel
theorem dX5_isAsSheet_58 : decode cX5_isAsSheet 58 = .ok (.getfield 83, 3) := by decide +kernel
theorem dX5_isAsSheet_61 : decode cX5_isAsSheet 61 = .ok (.iconst 0, 1) := by decide +kernel
theorem dX5_isAsSheet_62 : decode cX5_isAsSheet 62 = .ok (.iaload, 1) := by decide +kernel
theorem dX5_isAsSheet_63 : decode cX5_isAsSheet 63 = .ok (.invokevirtual 291, 3) := by decide +kernel
theorem dX5_isAsSheet_66 : decode cX5_isAsSheet 66 = .ok (.istore 4, 2) := by decide +kernel
theorem dX5_isAsSheet_68 : decode cX5_isAsSheet 68 = .ok (.iinc 5 1, 3) := by decide +kernel
theorem dX5_isAsSheet_71 : decode cX5_isAsSheet 71 = .ok (.goto (-57), 3) := by decide +kernel
theorem dX5_isAsSheet_74 : decode cX5_isAsSheet 74 = .ok (.iconst 1, 1) := by decide +kernel
theorem dX5_isAsSheet_75 : decode cX5_isAsSheet 75 = .ok (.ireturn, 1) := by decide +kernel
theorem dX6_init_0 : decode cX6_init 0 = .ok (.aload_n 0, 1) := by decide +kernel
theorem dX6_init_1 : decode cX6_init 1 = .ok (.invokespecial 1, 3) := by decide +kernel
theorem dX6_init_4 : decode cX6_init 4 = .ok (.aload_n 0, 1) := by decide +kernel
theorem dX6_init_5 : decode cX6_init 5 = .ok (.bipush 72, 2) := by decide +kernel
theorem dX6_init_7 : decode cX6_init 7 = .ok (.newarray .int, 2) := by decide +kernel
theorem dX6_init_9 : decode cX6_init 9 = .ok (.putfield 9, 3) := by decide +kernel
theorem dX6_init_12 : decode cX6_init 12 = .ok (.aload_n 0, 1) := by decide +kernel
theorem dX6_init_13 : decode cX6_init 13 = .ok (.bipush 72, 2) := by decide +kernel
theorem dX6_init_15 : decode cX6_init 15 = .ok (.newarray .int, 2) := by decide +kernel
theorem dX6_init_17 : decode cX6_init 17 = .ok (.putfield 13, 3) := by decide +kernel
theorem dX6_init_20 : decode cX6_init 20 = .ok (.aload_n 0, 1) := by decide +kernel
theorem dX6_init_21 : decode cX6_init 21 = .ok (.bipush 72, 2) := by decide +kernel
theorem dX6_init_23 : decode cX6_init 23 = .ok (.newarray .int, 2) := by decide +kernel
theorem dX6_init_25 : decode cX6_init 25 = .ok (.putfield 16, 3) := by decide +kernel
theorem dX6_init_28 : decode cX6_init 28 = .ok (.aload_n 0, 1) := by decide +kernel
theorem dX6_init_29 : decode cX6_init 29 = .ok (.bipush 7, 2) := by decide +kernel
theorem dX6_init_31 : decode cX6_init 31 = .ok (.newarray .int, 2) := by decide +kernel
theorem dX6_init_33 : decode cX6_init 33 = .ok (.putfield 19, 3) := by decide +kernel
theorem dX6_init_36 : decode cX6_init 36 = .ok (.aload_n 0, 1) := by decide +kernel
theorem dX6_init_37 : decode cX6_init 37 = .ok (.bipush 11, 2) := by decide +kernel
theorem dX6_init_39 : decode cX6_init 39 = .ok (.newarray .int, 2) := by decide +kernel
theorem dX6_init_41 : decode cX6_init 41 = .ok (.putfield 22, 3) := by decide +kernel
theorem dX6_init_44 : decode cX6_init 44 = .ok (.aload_n 0, 1) := by decide +kernel
theorem dX6_init_45 : decode cX6_init 45 = .ok (.bipush 120, 2) := by decide +kernel
theorem dX6_init_47 : decode cX6_init 47 = .ok (.newarray .int, 2) := by decide +kernel
theorem dX6_init_49 : decode cX6_init 49 = .ok (.putfield 25, 3) := by decide +kernel
theorem dX6_init_52 : decode cX6_init 52 = .ok (.aload_n 0, 1) := by decide +kernel
theorem dX6_init_53 : decode cX6_init 53 = .ok (.bipush 56, 2) := by decide +kernel
theorem dX6_init_55 : decode cX6_init 55 = .ok (.newarray .char, 2) := by decide +kernel
theorem dX6_init_57 : decode cX6_init 57 = .ok (.dup, 1) := by decide +kernel
theorem dX6_init_58 : decode cX6_init 58 = .ok (.iconst 0, 1) := by decide +kernel
theorem dX6_init_59 : decode cX6_init 59 = .ok (.bipush 108, 2) := by decide +kernel
theorem dX6_init_61 : decode cX6_init 61 = .ok (.castore, 1) := by decide +kernel
theorem dX6_init_62 : decode cX6_init 62 = .ok (.dup, 1) := by decide +kernel
theorem dX6_init_63 : decode cX6_init 63 = .ok (.iconst 1, 1) := by decide +kernel
theorem dX6_init_64 : decode cX6_init 64 = .ok (.bipush 97, 2) := by decide +kernel
theorem dX6_init_66 : decode cX6_init 66 = .ok (.castore, 1) := by decide +kernel
theorem dX6_init_67 : decode cX6_init 67 = .ok (.dup, 1) := by decide +kernel
theorem dX6_init_68 : decode cX6_init 68 = .ok (.iconst 2, 1) := by decide +kernel
theorem dX6_init_69 : decode cX6_init 69 = .ok (.bipush 109, 2) := by decide +kernel
theorem dX6_init_71 : decode cX6_init 71 = .ok (.castore, 1) := by decide +kernel
theorem dX6_init_72 : decode cX6_init 72 = .ok (.dup, 1) := by decide +kernel
theorem dX6_init_73 : decode cX6_init 73 = .ok (.iconst 3, 1) := by decide +kernel
theorem dX6_init_74 : decode cX6_init 74 = .ok (.bipush 112, 2) := by decide +kernel
theorem dX6_init_76 : decode cX6_init 76 = .ok (.castore, 1) := by decide +kernel
theorem dX6_init_77 : decode cX6_init 77 = .ok (.dup, 1) := by decide +kernel
theorem dX6_init_78 : decode cX6_init 78 = .ok (.iconst 4, 1) := by decide +kernel
theorem dX6_init_79 : decode cX6_init 79 = .ok (.bipush 32, 2) := by decide +kernel
theorem dX6_init_81 : decode cX6_init 81 = .ok (.castore, 1) := by decide +kernel
theorem dX6_init_82 : decode cX6_init 82 = .ok (.dup, 1) := by decide +kernel
theorem dX6_init_83 : decode cX6_init 83 = .ok (.iconst 5, 1) := by decide +kernel
theorem dX6_init_84 : decode cX6_init 84 = .ok (.bipush 32, 2) := by decide +kernel
theorem dX6_init_86 : decode cX6_init 86 = .ok (.castore, 1) := by decide +kernel
theorem dX6_init_87 : decode cX6_init 87 = .ok (.dup, 1) := by decide +kernel
theorem dX6_init_88 : decode cX6_init 88 = .ok (.bipush 6, 2) := by decide +kernel
theorem dX6_init_90 : decode cX6_init 90 = .ok (.bipush 32, 2) := by decide +kernel
theorem dX6_init_92 : decode cX6_init 92 = .ok (.castore, 1) := by decide +kernel
theorem dX6_init_93 : decode cX6_init 93 = .ok (.dup, 1) := by decide +kernel
theorem dX6_init_94 : decode cX6_init 94 = .ok (.bipush 7, 2) := by decide +kernel
theorem dX6_init_96 : decode cX6_init 96 = .ok (.bipush 32, 2) := by decide +kernel
theorem dX6_init_98 : decode cX6_init 98 = .ok (.castore, 1) := by decide +kernel
theorem dX6_init_99 : decode cX6_init 99 = .ok (.dup, 1) := by decide +kernel
theorem dX6_init_100 : decode cX6_init 100 = .ok (.bipush 8, 2) := by decide +kernel
theorem dX6_init_102 : decode cX6_init 102 = .ok (.bipush 114, 2) := by decide +kernel
theorem dX6_init_104 : decode cX6_init 104 = .ok (.castore, 1) := by decide +kernel
theorem dX6_init_105 : decode cX6_init 105 = .ok (.dup, 1) := by decide +kernel
theorem dX6_init_106 : decode cX6_init 106 = .ok (.bipush 9, 2) := by decide +kernel
theorem dX6_init_108 : decode cX6_init 108 = .ok (.bipush 101, 2) := by decide +kernel
theorem dX6_init_110 : decode cX6_init 110 = .ok (.castore, 1) := by decide +kernel
theorem dX6_init_111 : decode cX6_init 111 = .ok (.dup, 1) := by decide +kernel
theorem dX6_init_112 : decode cX6_init 112 = .ok (.bipush 10, 2) := by decide +kernel
theorem dX6_init_114 : decode cX6_init 114 = .ok (.bipush 100, 2) := by decide +kernel
theorem dX6_init_116 : decode cX6_init 116 = .ok (.castore, 1) := by decide +kernel
theorem dX6_init_117 : decode cX6_init 117 = .ok (.dup, 1) := by decide +kernel
theorem dX6_init_118 : decode cX6_init 118 = .ok (.bipush 11, 2) := by decide +kernel
theorem dX6_init_120 : decode cX6_init 120 = .ok (.bipush 32, 2) := by decide +kernel
theorem dX6_init_122 : decode cX6_init 122 = .ok (.castore, 1) := by decide +kernel
theorem dX6_init_123 : decode cX6_init 123 = .ok (.dup, 1) := by decide +kernel
theorem dX6_init_124 : decode cX6_init 124 = .ok (.bipush 12, 2) := by decide +kernel
theorem dX6_init_126 : decode cX6_init 126 = .ok (.bipush 32, 2) := by decide +kernel
theorem dX6_init_128 : decode cX6_init 128 = .ok (.castore, 1) := by decide +kernel
theorem dX6_init_129 : decode cX6_init 129 = .ok (.dup, 1) := by decide +kernel
theorem dX6_init_130 : decode cX6_init 130 = .ok (.bipush 13, 2) := by decide +kernel
theorem dX6_init_132 : decode cX6_init 132 = .ok (.bipush 32, 2) := by decide +kernel
theorem dX6_init_134 : decode cX6_init 134 = .ok (.castore, 1) := by decide +kernel
theorem dX6_init_135 : decode cX6_init 135 = .ok (.dup, 1) := by decide +kernel
theorem dX6_init_136 : decode cX6_init 136 = .ok (.bipush 14, 2) := by decide +kernel
theorem dX6_init_138 : decode cX6_init 138 = .ok (.bipush 32, 2) := by decide +kernel
theorem dX6_init_140 : decode cX6_init 140 = .ok (.castore, 1) := by decide +kernel
theorem dX6_init_141 : decode cX6_init 141 = .ok (.dup, 1) := by decide +kernel
theorem dX6_init_142 : decode cX6_init 142 = .ok (.bipush 15, 2) := by decide +kernel
theorem dX6_init_144 : decode cX6_init 144 = .ok (.bipush 32, 2) := by decide +kernel
theorem dX6_init_146 : decode cX6_init 146 = .ok (.castore, 1) := by decide +kernel
theorem dX6_init_147 : decode cX6_init 147 = .ok (.dup, 1) := by decide +kernel
theorem dX6_init_148 : decode cX6_init 148 = .ok (.bipush 16, 2) := by decide +kernel
theorem dX6_init_150 : decode cX6_init 150 = .ok (.bipush 102, 2) := by decide +kernel
theorem dX6_init_152 : decode cX6_init 152 = .ok (.castore, 1) := by decide +kernel
theorem dX6_init_153 : decode cX6_init 153 = .ok (.dup, 1) := by decide +kernel
theorem dX6_init_154 : decode cX6_init 154 = .ok (.bipush 17, 2) := by decide +kernel
theorem dX6_init_156 : decode cX6_init 156 = .ok (.bipush 105, 2) := by decide +kernel
theorem dX6_init_158 : decode cX6_init 158 = .ok (.castore, 1) := by decide +kernel
theorem dX6_init_159 : decode cX6_init 159 = .ok (.dup, 1) := by decide +kernel
theorem dX6_init_160 : decode cX6_init 160 = .ok (.bipush 18, 2) := by decide +kernel
theorem dX6_init_162 : decode cX6_init 162 = .ok (.bipush 120, 2) := by decide +kernel
theorem dX6_init_164 : decode cX6_init 164 = .ok (.castore, 1) := by decide +kernel
theorem dX6_init_165 : decode cX6_init 165 = .ok (.dup, 1) := by decide +kernel
theorem dX6_init_166 : decode cX6_init 166 = .ok (.bipush 19, 2) := by decide +kernel
theorem dX6_init_168 : decode cX6_init 168 = .ok (.bipush 101, 2) := by decide +kernel
theorem dX6_init_170 : decode cX6_init 170 = .ok (.castore, 1) := by decide +kernel
theorem dX6_init_171 : decode cX6_init 171 = .ok (.dup, 1) := by decide +kernel
theorem dX6_init_172 : decode cX6_init 172 = .ok (.bipush 20, 2) := by decide +kernel
theorem dX6_init_174 : decode cX6_init 174 = .ok (.bipush 100, 2) := by decide +kernel
theorem dX6_init_176 : decode cX6_init 176 = .ok (.castore, 1) := by decide +kernel
theorem dX6_init_177 : decode cX6_init 177 = .ok (.dup, 1) := by decide +kernel
theorem dX6_init_178 : decode cX6_init 178 = .ok (.bipush 21, 2) := by decide +kernel
theorem dX6_init_180 : decode cX6_init 180 = .ok (.bipush 32, 2) := by decide +kernel
theorem dX6_init_182 : decode cX6_init 182 = .ok (.castore, 1) := by decide +kernel
theorem dX6_init_183 : decode cX6_init 183 = .ok (.dup, 1) := by decide +kernel
theorem dX6_init_184 : decode cX6_init 184 = .ok (.bipush 22, 2) := by decide +kernel
theorem dX6_init_186 : decode cX6_init 186 = .ok (.bipush 32, 2) := by decide +kernel
theorem dX6_init_188 : decode cX6_init 188 = .ok (.castore, 1) := by decide +kernel
theorem dX6_init_189 : decode cX6_init 189 = .ok (.dup, 1) := by decide +kernel
theorem dX6_init_190 : decode cX6_init 190 = .ok (.bipush 23, 2) := by decide +kernel
theorem dX6_init_192 : decode cX6_init 192 = .ok (.bipush 32, 2) := by decide +kernel
theorem dX6_init_194 : decode cX6_init 194 = .ok (.castore, 1) := by decide +kernel
theorem dX6_init_195 : decode cX6_init 195 = .ok (.dup, 1) := by decide +kernel
theorem dX6_init_196 : decode cX6_init 196 = .ok (.bipush 24, 2) := by decide +kernel
theorem dX6_init_198 : decode cX6_init 198 = .ok (.bipush 112, 2) := by decide +kernel
theorem dX6_init_200 : decode cX6_init 200 = .ok (.castore, 1) := by decide +kernel
theorem dX6_init_201 : decode cX6_init 201 = .ok (.dup, 1) := by decide +kernel
theorem dX6_init_202 : decode cX6_init 202 = .ok (.bipush 25, 2) := by decide +kernel
theorem dX6_init_204 : decode cX6_init 204 = .ok (.bipush 111, 2) := by decide +kernel
theorem dX6_init_206 : decode cX6_init 206 = .ok (.castore, 1) := by decide +kernel
theorem dX6_init_207 : decode cX6_init 207 = .ok (.dup, 1) := by decide +kernel
theorem dX6_init_208 : decode cX6_init 208 = .ok (.bipush 26, 2) := by decide +kernel
theorem dX6_init_210 : decode cX6_init 210 = .ok (.bipush 108, 2) := by decide +kernel
theorem dX6_init_212 : decode cX6_init 212 = .ok (.castore, 1) := by decide +kernel
theorem dX6_init_213 : decode cX6_init 213 = .ok (.dup, 1) := by decide +kernel
theorem dX6_init_214 : decode cX6_init 214 = .ok (.bipush 27, 2) := by decide +kernel
theorem dX6_init_216 : decode cX6_init 216 = .ok (.bipush 101, 2) := by decide +kernel
theorem dX6_init_218 : decode cX6_init 218 = .ok (.castore, 1) := by decide +kernel
theorem dX6_init_219 : decode cX6_init 219 = .ok (.dup, 1) := by decide +kernel
theorem dX6_init_220 : decode cX6_init 220 = .ok (.bipush 28, 2) := by decide +kernel
theorem dX6_init_222 : decode cX6_init 222 = .ok (.bipush 32, 2) := by decide +kernel
theorem dX6_init_224 : decode cX6_init 224 = .ok (.castore, 1) := by decide +kernel
theorem dX6_init_225 : decode cX6_init 225 = .ok (.dup, 1) := by decide +kernel
theorem dX6_init_226 : decode cX6_init 226 = .ok (.bipush 29, 2) := by decide +kernel
theorem dX6_init_228 : decode cX6_init 228 = .ok (.bipush 32, 2) := by decide +kernel
theorem dX6_init_230 : decode cX6_init 230 = .ok (.castore, 1) := by decide +kernel
theorem dX6_init_231 : decode cX6_init 231 = .ok (.dup, 1) := by decide +kernel
theorem dX6_init_232 : decode cX6_init 232 = .ok (.bipush 30, 2) := by decide +kernel
theorem dX6_init_234 : decode cX6_init 234 = .ok (.bipush 32, 2) := by decide +kernel
theorem dX6_init_236 : decode cX6_init 236 = .ok (.castore, 1) := by decide +kernel
theorem dX6_init_237 : decode cX6_init 237 = .ok (.dup, 1) := by decide +kernel
theorem dX6_init_238 : decode cX6_init 238 = .ok (.bipush 31, 2) := by decide +kernel
theorem dX6_init_240 : decode cX6_init 240 = .ok (.bipush 32, 2) := by decide +kernel
theorem dX6_init_242 : decode cX6_init 242 = .ok (.castore, 1) := by decide +kernel
theorem dX6_init_243 : decode cX6_init 243 = .ok (.dup, 1) := by decide +kernel
theorem dX6_init_244 : decode cX6_init 244 = .ok (.bipush 32, 2) := by decide +kernel
theorem dX6_init_246 : decode cX6_init 246 = .ok (.bipush 103, 2) := by decide +kernel
theorem dX6_init_248 : decode cX6_init 248 = .ok (.castore, 1) := by decide +kernel
theorem dX6_init_249 : decode cX6_init 249 = .ok (.dup, 1) := by decide +kernel
theorem dX6_init_250 : decode cX6_init 250 = .ok (.bipush 33, 2) := by decide +kernel
theorem dX6_init_252 : decode cX6_init 252 = .ok (.bipush 117, 2) := by decide +kernel
theorem dX6_init_254 : decode cX6_init 254 = .ok (.castore, 1) := by decide +kernel
theorem dX6_init_255 : decode cX6_init 255 = .ok (.dup, 1) := by decide +kernel
theorem dX6_init_256 : decode cX6_init 256 = .ok (.bipush 34, 2) := by decide +kernel
theorem dX6_init_258 : decode cX6_init 258 = .ok (.bipush 105, 2) := by decide +kernel
theorem dX6_init_260 : decode cX6_init 260 = .ok (.castore, 1) := by decide +kernel
theorem dX6_init_261 : decode cX6_init 261 = .ok (.dup, 1) := by decide +kernel
theorem dX6_init_262 : decode cX6_init 262 = .ok (.bipush 35, 2) := by decide +kernel
theorem dX6_init_264 : decode cX6_init 264 = .ok (.bipush 100, 2) := by decide +kernel
theorem dX6_init_266 : decode cX6_init 266 = .ok (.castore, 1) := by decide +kernel
theorem dX6_init_267 : decode cX6_init 267 = .ok (.dup, 1) := by decide +kernel
theorem dX6_init_268 : decode cX6_init 268 = .ok (.bipush 36, 2) := by decide +kernel
theorem dX6_init_270 : decode cX6_init 270 = .ok (.bipush 101, 2) := by decide +kernel
theorem dX6_init_272 : decode cX6_init 272 = .ok (.castore, 1) := by decide +kernel
theorem dX6_init_273 : decode cX6_init 273 = .ok (.dup, 1) := by decide +kernel
theorem dX6_init_274 : decode cX6_init 274 = .ok (.bipush 37, 2) := by decide +kernel
theorem dX6_init_276 : decode cX6_init 276 = .ok (.bipush 32, 2) := by decide +kernel
theorem dX6_init_278 : decode cX6_init 278 = .ok (.castore, 1) := by decide +kernel
theorem dX6_init_279 : decode cX6_init 279 = .ok (.dup, 1) := by decide +kernel
theorem dX6_init_280 : decode cX6_init 280 = .ok (.bipush 38, 2) := by decide +kernel
theorem dX6_init_282 : decode cX6_init 282 = .ok (.bipush 32, 2) := by decide +kernel
theorem dX6_init_284 : decode cX6_init 284 = .ok (.castore, 1) := by decide +kernel
theorem dX6_init_285 : decode cX6_init 285 = .ok (.dup, 1) := by decide +kernel
theorem dX6_init_286 : decode cX6_init 286 = .ok (.bipush 39, 2) := by decide +kernel
theorem dX6_init_288 : decode cX6_init 288 = .ok (.bipush 32, 2) := by decide +kernel
theorem dX6_init_290 : decode cX6_init 290 = .ok (.castore, 1) := by decide +kernel
theorem dX6_init_291 : decode cX6_init 291 = .ok (.dup, 1) := by decide +kernel
theorem dX6_init_292 : decode cX6_init 292 = .ok (.bipush 40, 2) := by decide +kernel
theorem dX6_init_294 : decode cX6_init 294 = .ok (.bipush 111, 2) := by decide +kernel
theorem dX6_init_296 : decode cX6_init 296 = .ok (.castore, 1) := by decide +kernel
theorem dX6_init_297 : decode cX6_init 297 = .ok (.dup, 1) := by decide +kernel
theorem dX6_init_298 : decode cX6_init 298 = .ok (.bipush 41, 2) := by decide +kernel
theorem dX6_init_300 : decode cX6_init 300 = .ok (.bipush 108, 2) := by decide +kernel
theorem dX6_init_302 : decode cX6_init 302 = .ok (.castore, 1) := by decide +kernel
theorem dX6_init_303 : decode cX6_init 303 = .ok (.dup, 1) := by decide +kernel
theorem dX6_init_304 : decode cX6_init 304 = .ok (.bipush 42, 2) := by decide +kernel
theorem dX6_init_306 : decode cX6_init 306 = .ok (.bipush 100, 2) := by decide +kernel
theorem dX6_init_308 : decode cX6_init 308 = .ok (.castore, 1) := by decide +kernel
theorem dX6_init_309 : decode cX6_init 309 = .ok (.dup, 1) := by decide +kernel
theorem dX6_init_310 : decode cX6_init 310 = .ok (.bipush 43, 2) := by decide +kernel
theorem dX6_init_312 : decode cX6_init 312 = .ok (.bipush 32, 2) := by decide +kernel
theorem dX6_init_314 : decode cX6_init 314 = .ok (.castore, 1) := by decide +kernel
theorem dX6_init_315 : decode cX6_init 315 = .ok (.dup, 1) := by decide +kernel
theorem dX6_init_316 : decode cX6_init 316 = .ok (.bipush 44, 2) := by decide +kernel
theorem dX6_init_318 : decode cX6_init 318 = .ok (.bipush 32, 2) := by decide +kernel
theorem dX6_init_320 : decode cX6_init 320 = .ok (.castore, 1) := by decide +kernel
theorem dX6_init_321 : decode cX6_init 321 = .ok (.dup, 1) := by decide +kernel
theorem dX6_init_322 : decode cX6_init 322 = .ok (.bipush 45, 2) := by decide +kernel
theorem dX6_init_324 : decode cX6_init 324 = .ok (.bipush 32, 2) := by decide +kernel
theorem dX6_init_326 : decode cX6_init 326 = .ok (.castore, 1) := by decide +kernel
theorem dX6_init_327 : decode cX6_init 327 = .ok (.dup, 1) := by decide +kernel
theorem dX6_init_328 : decode cX6_init 328 = .ok (.bipush 46, 2) := by decide +kernel
theorem dX6_init_330 : decode cX6_init 330 = .ok (.bipush 32, 2) := by decide +kernel
theorem dX6_init_332 : decode cX6_init 332 = .ok (.castore, 1) := by decide +kernel
theorem dX6_init_333 : decode cX6_init 333 = .ok (.dup, 1) := by decide +kernel
theorem dX6_init_334 : decode cX6_init 334 = .ok (.bipush 47, 2) := by decide +kernel
theorem dX6_init_336 : decode cX6_init 336 = .ok (.bipush 32, 2) := by decide +kernel
theorem dX6_init_338 : decode cX6_init 338 = .ok (.castore, 1) := by decide +kernel
theorem dX6_init_339 : decode cX6_init 339 = .ok (.dup, 1) := by decide +kernel
theorem dX6_init_340 : decode cX6_init 340 = .ok (.bipush 48, 2) := by decide +kernel
theorem dX6_init_342 : decode cX6_init 342 = .ok (.bipush 103, 2) := by decide +kernel
theorem dX6_init_344 : decode cX6_init 344 = .ok (.castore, 1) := by decide +kernel
theorem dX6_init_345 : decode cX6_init 345 = .ok (.dup, 1) := by decide +kernel
theorem dX6_init_346 : decode cX6_init 346 = .ok (.bipush 49, 2) := by decide +kernel
theorem dX6_init_348 : decode cX6_init 348 = .ok (.bipush 105, 2) := by decide +kernel
theorem dX6_init_350 : decode cX6_init 350 = .ok (.castore, 1) := by decide +kernel
theorem dX6_init_351 : decode cX6_init 351 = .ok (.dup, 1) := by decide +kernel
theorem dX6_init_352 : decode cX6_init 352 = .ok (.bipush 50, 2) := by decide +kernel
theorem dX6_init_354 : decode cX6_init 354 = .ok (.bipush 97, 2) := by decide +kernel
theorem dX6_init_356 : decode cX6_init 356 = .ok (.castore, 1) := by decide +kernel
theorem dX6_init_357 : decode cX6_init 357 = .ok (.dup, 1) := by decide +kernel
theorem dX6_init_358 : decode cX6_init 358 = .ok (.bipush 51, 2) := by decide +kernel
theorem dX6_init_360 : decode cX6_init 360 = .ok (.bipush 110, 2) := by decide +kernel
theorem dX6_init_362 : decode cX6_init 362 = .ok (.castore, 1) := by decide +kernel
theorem dX6_init_363 : decode cX6_init 363 = .ok (.dup, 1) := by decide +kernel
theorem dX6_init_364 : decode cX6_init 364 = .ok (.bipush 52, 2) := by decide +kernel
theorem dX6_init_366 : decode cX6_init 366 = .ok (.bipush 116, 2) := by decide +kernel
theorem dX6_init_368 : decode cX6_init 368 = .ok (.castore, 1) := by decide +kernel
theorem dX6_init_369 : decode cX6_init 369 = .ok (.dup, 1) := by decide +kernel
theorem dX6_init_370 : decode cX6_init 370 = .ok (.bipush 53, 2) := by decide +kernel
theorem dX6_init_372 : decode cX6_init 372 = .ok (.bipush 32, 2) := by decide +kernel
theorem dX6_init_374 : decode cX6_init 374 = .ok (.castore, 1) := by decide +kernel
theorem dX6_init_375 : decode cX6_init 375 = .ok (.dup, 1) := by decide +kernel
theorem dX6_init_376 : decode cX6_init 376 = .ok (.bipush 54, 2) := by decide +kernel
theorem dX6_init_378 : decode cX6_init 378 = .ok (.bipush 32, 2) := by decide +kernel
theorem dX6_init_380 : decode cX6_init 380 = .ok (.castore, 1) := by decide +kernel
theorem dX6_init_381 : decode cX6_init 381 = .ok (.dup, 1) := by decide +kernel
theorem dX6_init_382 : decode cX6_init 382 = .ok (.bipush 55, 2) := by decide +kernel
theorem dX6_init_384 : decode cX6_init 384 = .ok (.bipush 32, 2) := by decide +kernel
theorem dX6_init_386 : decode cX6_init 386 = .ok (.castore, 1) := by decide +kernel
theorem dX6_init_387 : decode cX6_init 387 = .ok (.putfield 28, 3) := by decide +kernel
theorem dX6_init_390 : decode cX6_init 390 = .ok (.aload_n 0, 1) := by decide +kernel
theorem dX6_init_391 : decode cX6_init 391 = .ok (.bipush 24, 2) := by decide +kernel
theorem dX6_init_393 : decode cX6_init 393 = .ok (.newarray .char, 2) := by decide +kernel
theorem dX6_init_395 : decode cX6_init 395 = .ok (.dup, 1) := by decide +kernel
theorem dX6_init_396 : decode cX6_init 396 = .ok (.iconst 0, 1) := by decide +kernel
theorem dX6_init_397 : decode cX6_init 397 = .ok (.bipush 97, 2) := by decide +kernel
theorem dX6_init_399 : decode cX6_init 399 = .ok (.castore, 1) := by decide +kernel
theorem dX6_init_400 : decode cX6_init 400 = .ok (.dup, 1) := by decide +kernel
theorem dX6_init_401 : decode cX6_init 401 = .ok (.iconst 1, 1) := by decide +kernel
theorem dX6_init_402 : decode cX6_init 402 = .ok (.bipush 116, 2) := by decide +kernel
theorem dX6_init_404 : decode cX6_init 404 = .ok (.castore, 1) := by decide +kernel
theorem dX6_init_405 : decode cX6_init 405 = .ok (.dup, 1) := by decide +kernel
theorem dX6_init_406 : decode cX6_init 406 = .ok (.iconst 2, 1) := by decide +kernel
theorem dX6_init_407 : decode cX6_init 407 = .ok (.bipush 32, 2) := by decide +kernel
theorem dX6_init_409 : decode cX6_init 409 = .ok (.castore, 1) := by decide +kernel
theorem dX6_init_410 : decode cX6_init 410 = .ok (.dup, 1) := by decide +kernel
theorem dX6_init_411 : decode cX6_init 411 = .ok (.iconst 3, 1) := by decide +kernel
theorem dX6_init_412 : decode cX6_init 412 = .ok (.bipush 32, 2) := by decide +kernel
theorem dX6_init_414 : decode cX6_init 414 = .ok (.castore, 1) := by decide +kernel
theorem dX6_init_415 : decode cX6_init 415 = .ok (.dup, 1) := by decide +kernel
theorem dX6_init_416 : decode cX6_init 416 = .ok (.iconst 4, 1) := by decide +kernel
theorem dX6_init_417 : decode cX6_init 417 = .ok (.bipush 32, 2) := by decide +kernel
theorem dX6_init_419 : decode cX6_init 419 = .ok (.castore, 1) := by decide +kernel
theorem dX6_init_420 : decode cX6_init 420 = .ok (.dup, 1) := by decide +kernel
theorem dX6_init_421 : decode cX6_init 421 = .ok (.iconst 5, 1) := by decide +kernel
theorem dX6_init_422 : decode cX6_init 422 = .ok (.bipush 32, 2) := by decide +kernel
theorem dX6_init_424 : decode cX6_init 424 = .ok (.castore, 1) := by decide +kernel
theorem dX6_init_425 : decode cX6_init 425 = .ok (.dup, 1) := by decide +kernel
theorem dX6_init_426 : decode cX6_init 426 = .ok (.bipush 6, 2) := by decide +kernel
theorem dX6_init_428 : decode cX6_init 428 = .ok (.bipush 32, 2) := by decide +kernel
theorem dX6_init_430 : decode cX6_init 430 = .ok (.castore, 1) := by decide +kernel
theorem dX6_init_431 : decode cX6_init 431 = .ok (.dup, 1) := by decide +kernel
theorem dX6_init_432 : decode cX6_init 432 = .ok (.bipush 7, 2) := by decide +kernel
theorem dX6_init_434 : decode cX6_init 434 = .ok (.bipush 32, 2) := by decide +kernel
theorem dX6_init_436 : decode cX6_init 436 = .ok (.castore, 1) := by decide +kernel
theorem dX6_init_437 : decode cX6_init 437 = .ok (.dup, 1) := by decide +kernel
theorem dX6_init_438 : decode cX6_init 438 = .ok (.bipush 8, 2) := by decide +kernel
theorem dX6_init_440 : decode cX6_init 440 = .ok (.bipush 108, 2) := by decide +kernel
theorem dX6_init_442 : decode cX6_init 442 = .ok (.castore, 1) := by decide +kernel
theorem dX6_init_443 : decode cX6_init 443 = .ok (.dup, 1) := by decide +kernel
theorem dX6_init_444 : decode cX6_init 444 = .ok (.bipush 9, 2) := by decide +kernel
theorem dX6_init_446 : decode cX6_init 446 = .ok (.bipush 105, 2) := by decide +kernel
theorem dX6_init_448 : decode cX6_init 448 = .ok (.castore, 1) := by decide +kernel
theorem dX6_init_449 : decode cX6_init 449 = .ok (.dup, 1) := by decide +kernel
theorem dX6_init_450 : decode cX6_init 450 = .ok (.bipush 10, 2) := by decide +kernel
theorem dX6_init_452 : decode cX6_init 452 = .ok (.bipush 102, 2) := by decide +kernel
theorem dX6_init_454 : decode cX6_init 454 = .ok (.castore, 1) := by decide +kernel
theorem dX6_init_455 : decode cX6_init 455 = .ok (.dup, 1) := by decide +kernel
theorem dX6_init_456 : decode cX6_init 456 = .ok (.bipush 11, 2) := by decide +kernel
theorem dX6_init_458 : decode cX6_init 458 = .ok (.bipush 101, 2) := by decide +kernel
theorem dX6_init_460 : decode cX6_init 460 = .ok (.castore, 1) := by decide +kernel
theorem dX6_init_461 : decode cX6_init 461 = .ok (.dup, 1) := by decide +kernel
theorem dX6_init_462 : decode cX6_init 462 = .ok (.bipush 12, 2) := by decide +kernel
theorem dX6_init_464 : decode cX6_init 464 = .ok (.bipush 32, 2) := by decide +kernel
theorem dX6_init_466 : decode cX6_init 466 = .ok (.castore, 1) := by decide +kernel
theorem dX6_init_467 : decode cX6_init 467 = .ok (.dup, 1) := by decide +kernel
theorem dX6_init_468 : decode cX6_init 468 = .ok (.bipush 13, 2) := by decide +kernel
theorem dX6_init_470 : decode cX6_init 470 = .ok (.bipush 32, 2) := by decide +kernel
theorem dX6_init_472 : decode cX6_init 472 = .ok (.castore, 1) := by decide +kernel
theorem dX6_init_473 : decode cX6_init 473 = .ok (.dup, 1) := by decide +kernel
theorem dX6_init_474 : decode cX6_init 474 = .ok (.bipush 14, 2) := by decide +kernel
theorem dX6_init_476 : decode cX6_init 476 = .ok (.bipush 32, 2) := by decide +kernel
theorem dX6_init_478 : decode cX6_init 478 = .ok (.castore, 1) := by decide +kernel
theorem dX6_init_479 : decode cX6_init 479 = .ok (.dup, 1) := by decide +kernel
theorem dX6_init_480 : decode cX6_init 480 = .ok (.bipush 15, 2) := by decide +kernel
theorem dX6_init_482 : decode cX6_init 482 = .ok (.bipush 32, 2) := by decide +kernel
theorem dX6_init_484 : decode cX6_init 484 = .ok (.castore, 1) := by decide +kernel
theorem dX6_init_485 : decode cX6_init 485 = .ok (.dup, 1) := by decide +kernel
theorem dX6_init_486 : decode cX6_init 486 = .ok (.bipush 16, 2) := by decide +kernel
theorem dX6_init_488 : decode cX6_init 488 = .ok (.bipush 119, 2) := by decide +kernel
theorem dX6_init_490 : decode cX6_init 490 = .ok (.castore, 1) := by decide +kernel
theorem dX6_init_491 : decode cX6_init 491 = .ok (.dup, 1) := by decide +kernel
theorem dX6_init_492 : decode cX6_init 492 = .ok (.bipush 17, 2) := by decide +kernel
theorem dX6_init_494 : decode cX6_init 494 = .ok (.bipush 111, 2) := by decide +kernel
theorem dX6_init_496 : decode cX6_init 496 = .ok (.castore, 1) := by decide +kernel
theorem dX6_init_497 : decode cX6_init 497 = .ok (.dup, 1) := by decide +kernel
theorem dX6_init_498 : decode cX6_init 498 = .ok (.bipush 18, 2) := by decide +kernel
theorem dX6_init_500 : decode cX6_init 500 = .ok (.bipush 114, 2) := by decide +kernel
theorem dX6_init_502 : decode cX6_init 502 = .ok (.castore, 1) := by decide +kernel
theorem dX6_init_503 : decode cX6_init 503 = .ok (.dup, 1) := by decide +kernel
theorem dX6_init_504 : decode cX6_init 504 = .ok (.bipush 19, 2) := by decide +kernel
theorem dX6_init_506 : decode cX6_init 506 = .ok (.bipush 116, 2) := by decide +kernel
theorem dX6_init_508 : decode cX6_init 508 = .ok (.castore, 1) := by decide +kernel
theorem dX6_init_509 : decode cX6_init 509 = .ok (.dup, 1) := by decide +kernel
theorem dX6_init_510 : decode cX6_init 510 = .ok (.bipush 20, 2) := by decide +kernel
theorem dX6_init_512 : decode cX6_init 512 = .ok (.bipush 104, 2) := by decide +kernel
theorem dX6_init_514 : decode cX6_init 514 = .ok (.castore, 1) := by decide +kernel
theorem dX6_init_515 : decode cX6_init 515 = .ok (.dup, 1) := by decide +kernel
theorem dX6_init_516 : decode cX6_init 516 = .ok (.bipush 21, 2) := by decide +kernel
theorem dX6_init_518 : decode cX6_init 518 = .ok (.bipush 32, 2) := by decide +kernel
theorem dX6_init_520 : decode cX6_init 520 = .ok (.castore, 1) := by decide +kernel
theorem dX6_init_521 : decode cX6_init 521 = .ok (.dup, 1) := by decide +kernel
theorem dX6_init_522 : decode cX6_init 522 = .ok (.bipush 22, 2) := by decide +kernel
theorem dX6_init_524 : decode cX6_init 524 = .ok (.bipush 32, 2) := by decide +kernel
theorem dX6_init_526 : decode cX6_init 526 = .ok (.castore, 1) := by decide +kernel
theorem dX6_init_527 : decode cX6_init 527 = .ok (.dup, 1) := by decide +kernel
theorem dX6_init_528 : decode cX6_init 528 = .ok (.bipush 23, 2) := by decide +kernel
theorem dX6_init_530 : decode cX6_init 530 = .ok (.bipush 32, 2) := by decide +kernel
theorem dX6_init_532 : decode cX6_init 532 = .ok (.castore, 1) := by decide +kernel
theorem dX6_init_533 : decode cX6_init 533 = .ok (.putfield 32, 3) := by decide +kernel
theorem dX6_init_536 : decode cX6_init 536 = .ok (.aload_n 0, 1) := by decide +kernel
theorem dX6_init_537 : decode cX6_init 537 = .ok (.bipush 16, 2) := by decide +kernel
theorem dX6_init_539 : decode cX6_init 539 = .ok (.newarray .char, 2) := by decide +kernel
theorem dX6_init_541 : decode cX6_init 541 = .ok (.dup, 1) := by decide +kernel
theorem dX6_init_542 : decode cX6_init 542 = .ok (.iconst 0, 1) := by decide +kernel
theorem dX6_init_543 : decode cX6_init 543 = .ok (.bipush 97, 2) := by decide +kernel
theorem dX6_init_545 : decode cX6_init 545 = .ok (.castore, 1) := by decide +kernel
theorem dX6_init_546 : decode cX6_init 546 = .ok (.dup, 1) := by decide +kernel
theorem dX6_init_547 : decode cX6_init 547 = .ok (.iconst 1, 1) := by decide +kernel
theorem dX6_init_548 : decode cX6_init 548 = .ok (.bipush 116, 2) := by decide +kernel
theorem dX6_init_550 : decode cX6_init 550 = .ok (.castore, 1) := by decide +kernel
theorem dX6_init_551 : decode cX6_init 551 = .ok (.dup, 1) := by decide +kernel
theorem dX6_init_552 : decode cX6_init 552 = .ok (.iconst 2, 1) := by decide +kernel
theorem dX6_init_553 : decode cX6_init 553 = .ok (.bipush 32, 2) := by decide +kernel
theorem dX6_init_555 : decode cX6_init 555 = .ok (.castore, 1) := by decide +kernel
theorem dX6_init_556 : decode cX6_init 556 = .ok (.dup, 1) := by decide +kernel
theorem dX6_init_557 : decode cX6_init 557 = .ok (.iconst 3, 1) := by decide +kernel
theorem dX6_init_558 : decode cX6_init 558 = .ok (.bipush 32, 2) := by decide +kernel
theorem dX6_init_560 : decode cX6_init 560 = .ok (.castore, 1) := by decide +kernel
theorem dX6_init_561 : decode cX6_init 561 = .ok (.dup, 1) := by decide +kernel
theorem dX6_init_562 : decode cX6_init 562 = .ok (.iconst 4, 1) := by decide +kernel
theorem dX6_init_563 : decode cX6_init 563 = .ok (.bipush 32, 2) := by decide +kernel
theorem dX6_init_565 : decode cX6_init 565 = .ok (.castore, 1) := by decide +kernel
theorem dX6_init_566 : decode cX6_init 566 = .ok (.dup, 1) := by decide +kernel
theorem dX6_init_567 : decode cX6_init 567 = .ok (.iconst 5, 1) := by decide +kernel
theorem dX6_init_568 : decode cX6_init 568 = .ok (.bipush 32, 2) := by decide +kernel
theorem dX6_init_570 : decode cX6_init 570 = .ok (.castore, 1) := by decide +kernel
theorem dX6_init_571 : decode cX6_init 571 = .ok (.dup, 1) := by decide +kernel
theorem dX6_init_572 : decode cX6_init 572 = .ok (.bipush 6, 2) := by decide +kernel
theorem dX6_init_574 : decode cX6_init 574 = .ok (.bipush 32, 2) := by decide +kernel
theorem dX6_init_576 : decode cX6_init 576 = .ok (.castore, 1) := by decide +kernel
theorem dX6_init_577 : decode cX6_init 577 = .ok (.dup, 1) := by decide +kernel
theorem dX6_init_578 : decode cX6_init 578 = .ok (.bipush 7, 2) := by decide +kernel
theorem dX6_init_580 : decode cX6_init 580 = .ok (.bipush 32, 2) := by decide +kernel
theorem dX6_init_582 : decode cX6_init 582 = .ok (.castore, 1) := by decide +kernel
theorem dX6_init_583 : decode cX6_init 583 = .ok (.dup, 1) := by decide +kernel
theorem dX6_init_584 : decode cX6_init 584 = .ok (.bipush 8, 2) := by decide +kernel
theorem dX6_init_586 : decode cX6_init 586 = .ok (.bipush 115, 2) := by decide +kernel
theorem dX6_init_588 : decode cX6_init 588 = .ok (.castore, 1) := by decide +kernel
theorem dX6_init_589 : decode cX6_init 589 = .ok (.dup, 1) := by decide +kernel
theorem dX6_init_590 : decode cX6_init 590 = .ok (.bipush 9, 2) := by decide +kernel
theorem dX6_init_592 : decode cX6_init 592 = .ok (.bipush 116, 2) := by decide +kernel
theorem dX6_init_594 : decode cX6_init 594 = .ok (.castore, 1) := by decide +kernel
theorem dX6_init_595 : decode cX6_init 595 = .ok (.dup, 1) := by decide +kernel
theorem dX6_init_596 : decode cX6_init 596 = .ok (.bipush 10, 2) := by decide +kernel
theorem dX6_init_598 : decode cX6_init 598 = .ok (.bipush 101, 2) := by decide +kernel
theorem dX6_init_600 : decode cX6_init 600 = .ok (.castore, 1) := by decide +kernel
theorem dX6_init_601 : decode cX6_init 601 = .ok (.dup, 1) := by decide +kernel
theorem dX6_init_602 : decode cX6_init 602 = .ok (.bipush 11, 2) := by decide +kernel
theorem dX6_init_604 : decode cX6_init 604 = .ok (.bipush 112, 2) := by decide +kernel
theorem dX6_init_606 : decode cX6_init 606 = .ok (.castore, 1) := by decide +kernel
theorem dX6_init_607 : decode cX6_init 607 = .ok (.dup, 1) := by decide +kernel
theorem dX6_init_608 : decode cX6_init 608 = .ok (.bipush 12, 2) := by decide +kernel
theorem dX6_init_610 : decode cX6_init 610 = .ok (.bipush 115, 2) := by decide +kernel
theorem dX6_init_612 : decode cX6_init 612 = .ok (.castore, 1) := by decide +kernel
theorem dX6_init_613 : decode cX6_init 613 = .ok (.dup, 1) := by decide +kernel
theorem dX6_init_614 : decode cX6_init 614 = .ok (.bipush 13, 2) := by decide +kernel
theorem dX6_init_616 : decode cX6_init 616 = .ok (.bipush 32, 2) := by decide +kernel
theorem dX6_init_618 : decode cX6_init 618 = .ok (.castore, 1) := by decide +kernel
theorem dX6_init_619 : decode cX6_init 619 = .ok (.dup, 1) := by decide +kernel
theorem dX6_init_620 : decode cX6_init 620 = .ok (.bipush 14, 2) := by decide +kernel
theorem dX6_init_622 : decode cX6_init 622 = .ok (.bipush 32, 2) := by decide +kernel
theorem dX6_init_624 : decode cX6_init 624 = .ok (.castore, 1) := by decide +kernel
theorem dX6_init_625 : decode cX6_init 625 = .ok (.dup, 1) := by decide +kernel
theorem dX6_init_626 : decode cX6_init 626 = .ok (.bipush 15, 2) := by decide +kernel
theorem dX6_init_628 : decode cX6_init 628 = .ok (.bipush 32, 2) := by decide +kernel
theorem dX6_init_630 : decode cX6_init 630 = .ok (.castore, 1) := by decide +kernel
theorem dX6_init_631 : decode cX6_init 631 = .ok (.putfield 35, 3) := by decide +kernel
theorem dX6_init_634 : decode cX6_init 634 = .ok (.aload_n 0, 1) := by decide +kernel
theorem dX6_init_635 : decode cX6_init 635 = .ok (.bipush 48, 2) := by decide +kernel
theorem dX6_init_637 : decode cX6_init 637 = .ok (.newarray .char, 2) := by decide +kernel
theorem dX6_init_639 : decode cX6_init 639 = .ok (.dup, 1) := by decide +kernel
theorem dX6_init_640 : decode cX6_init 640 = .ok (.iconst 0, 1) := by decide +kernel
theorem dX6_init_641 : decode cX6_init 641 = .ok (.bipush 100, 2) := by decide +kernel
theorem dX6_init_643 : decode cX6_init 643 = .ok (.castore, 1) := by decide +kernel
theorem dX6_init_644 : decode cX6_init 644 = .ok (.dup, 1) := by decide +kernel
theorem dX6_init_645 : decode cX6_init 645 = .ok (.iconst 1, 1) := by decide +kernel
theorem dX6_init_646 : decode cX6_init 646 = .ok (.bipush 117, 2) := by decide +kernel
theorem dX6_init_648 : decode cX6_init 648 = .ok (.castore, 1) := by decide +kernel
theorem dX6_init_649 : decode cX6_init 649 = .ok (.dup, 1) := by decide +kernel
theorem dX6_init_650 : decode cX6_init 650 = .ok (.iconst 2, 1) := by decide +kernel
theorem dX6_init_651 : decode cX6_init 651 = .ok (.bipush 115, 2) := by decide +kernel
theorem dX6_init_653 : decode cX6_init 653 = .ok (.castore, 1) := by decide +kernel
theorem dX6_init_654 : decode cX6_init 654 = .ok (.dup, 1) := by decide +kernel
theorem dX6_init_655 : decode cX6_init 655 = .ok (.iconst 3, 1) := by decide +kernel
theorem dX6_init_656 : decode cX6_init 656 = .ok (.bipush 116, 2) := by decide +kernel
theorem dX6_init_658 : decode cX6_init 658 = .ok (.castore, 1) := by decide +kernel
theorem dX6_init_659 : decode cX6_init 659 = .ok (.dup, 1) := by decide +kernel
theorem dX6_init_660 : decode cX6_init 660 = .ok (.iconst 4, 1) := by decide +kernel
theorem dX6_init_661 : decode cX6_init 661 = .ok (.bipush 32, 2) := by decide +kernel
theorem dX6_init_663 : decode cX6_init 663 = .ok (.castore, 1) := by decide +kernel
theorem dX6_init_664 : decode cX6_init 664 = .ok (.dup, 1) := by decide +kernel
theorem dX6_init_665 : decode cX6_init 665 = .ok (.iconst 5, 1) := by decide +kernel
theorem dX6_init_666 : decode cX6_init 666 = .ok (.bipush 32, 2) := by decide +kernel
theorem dX6_init_668 : decode cX6_init 668 = .ok (.castore, 1) := by decide +kernel
theorem dX6_init_669 : decode cX6_init 669 = .ok (.dup, 1) := by decide +kernel
theorem dX6_init_670 : decode cX6_init 670 = .ok (.bipush 6, 2) := by decide +kernel
theorem dX6_init_672 : decode cX6_init 672 = .ok (.bipush 32, 2) := by decide +kernel
theorem dX6_init_674 : decode cX6_init 674 = .ok (.castore, 1) := by decide +kernel
theorem dX6_init_675 : decode cX6_init 675 = .ok (.dup, 1) := by decide +kernel
theorem dX6_init_676 : decode cX6_init 676 = .ok (.bipush 7, 2) := by decide +kernel
theorem dX6_init_678 : decode cX6_init 678 = .ok (.bipush 32, 2) := by decide +kernel
theorem dX6_init_680 : decode cX6_init 680 = .ok (.castore, 1) := by decide +kernel
theorem dX6_init_681 : decode cX6_init 681 = .ok (.dup, 1) := by decide +kernel
theorem dX6_init_682 : decode cX6_init 682 = .ok (.bipush 8, 2) := by decide +kernel
theorem dX6_init_684 : decode cX6_init 684 = .ok (.bipush 119, 2) := by decide +kernel
theorem dX6_init_686 : decode cX6_init 686 = .ok (.castore, 1) := by decide +kernel
theorem dX6_init_687 : decode cX6_init 687 = .ok (.dup, 1) := by decide +kernel
theorem dX6_init_688 : decode cX6_init 688 = .ok (.bipush 9, 2) := by decide +kernel
theorem dX6_init_690 : decode cX6_init 690 = .ok (.bipush 105, 2) := by decide +kernel
theorem dX6_init_692 : decode cX6_init 692 = .ok (.castore, 1) := by decide +kernel
theorem dX6_init_693 : decode cX6_init 693 = .ok (.dup, 1) := by decide +kernel
theorem dX6_init_694 : decode cX6_init 694 = .ok (.bipush 10, 2) := by decide +kernel
theorem dX6_init_696 : decode cX6_init 696 = .ok (.bipush 115, 2) := by decide +kernel
theorem dX6_init_698 : decode cX6_init 698 = .ok (.castore, 1) := by decide +kernel
theorem dX6_init_699 : decode cX6_init 699 = .ok (.dup, 1) := by decide +kernel
theorem dX6_init_700 : decode cX6_init 700 = .ok (.bipush 11, 2) := by decide +kernel
theorem dX6_init_702 : decode cX6_init 702 = .ok (.bipush 104, 2) := by decide +kernel
theorem dX6_init_704 : decode cX6_init 704 = .ok (.castore, 1) := by decide +kernel
theorem dX6_init_705 : decode cX6_init 705 = .ok (.dup, 1) := by decide +kernel
theorem dX6_init_706 : decode cX6_init 706 = .ok (.bipush 12, 2) := by decide +kernel
theorem dX6_init_708 : decode cX6_init 708 = .ok (.bipush 101, 2) := by decide +kernel
theorem dX6_init_710 : decode cX6_init 710 = .ok (.castore, 1) := by decide +kernel
theorem dX6_init_711 : decode cX6_init 711 = .ok (.dup, 1) := by decide +kernel
theorem dX6_init_712 : decode cX6_init 712 = .ok (.bipush 13, 2) := by decide +kernel
theorem dX6_init_714 : decode cX6_init 714 = .ok (.bipush 115, 2) := by decide +kernel
theorem dX6_init_716 : decode cX6_init 716 = .ok (.castore, 1) := by decide +kernel
theorem dX6_init_717 : decode cX6_init 717 = .ok (.dup, 1) := by decide +kernel
theorem dX6_init_718 : decode cX6_init 718 = .ok (.bipush 14, 2) := by decide +kernel
theorem dX6_init_720 : decode cX6_init 720 = .ok (.bipush 32, 2) := by decide +kernel
theorem dX6_init_722 : decode cX6_init 722 = .ok (.castore, 1) := by decide +kernel
theorem dX6_init_723 : decode cX6_init 723 = .ok (.dup, 1) := by decide +kernel
theorem dX6_init_724 : decode cX6_init 724 = .ok (.bipush 15, 2) := by decide +kernel
theorem dX6_init_726 : decode cX6_init 726 = .ok (.bipush 32, 2) := by decide +kernel
theorem dX6_init_728 : decode cX6_init 728 = .ok (.castore, 1) := by decide +kernel
theorem dX6_init_729 : decode cX6_init 729 = .ok (.dup, 1) := by decide +kernel
theorem dX6_init_730 : decode cX6_init 730 = .ok (.bipush 16, 2) := by decide +kernel
theorem dX6_init_732 : decode cX6_init 732 = .ok (.bipush 109, 2) := by decide +kernel
theorem dX6_init_734 : decode cX6_init 734 = .ok (.castore, 1) := by decide +kernel
theorem dX6_init_735 : decode cX6_init 735 = .ok (.dup, 1) := by decide +kernel
theorem dX6_init_736 : decode cX6_init 736 = .ok (.bipush 17, 2) := by decide +kernel
theorem dX6_init_738 : decode cX6_init 738 = .ok (.bipush 101, 2) := by decide +kernel
theorem dX6_init_740 : decode cX6_init 740 = .ok (.castore, 1) := by decide +kernel
theorem dX6_init_741 : decode cX6_init 741 = .ok (.dup, 1) := by decide +kernel
theorem dX6_init_742 : decode cX6_init 742 = .ok (.bipush 18, 2) := by decide +kernel
theorem dX6_init_744 : decode cX6_init 744 = .ok (.bipush 110, 2) := by decide +kernel
theorem dX6_init_746 : decode cX6_init 746 = .ok (.castore, 1) := by decide +kernel
theorem dX6_init_747 : decode cX6_init 747 = .ok (.dup, 1) := by decide +kernel
theorem dX6_init_748 : decode cX6_init 748 = .ok (.bipush 19, 2) := by decide +kernel
theorem dX6_init_750 : decode cX6_init 750 = .ok (.bipush 100, 2) := by decide +kernel
theorem dX6_init_752 : decode cX6_init 752 = .ok (.castore, 1) := by decide +kernel
theorem dX6_init_753 : decode cX6_init 753 = .ok (.dup, 1) := by decide +kernel
theorem dX6_init_754 : decode cX6_init 754 = .ok (.bipush 20, 2) := by decide +kernel
theorem dX6_init_756 : decode cX6_init 756 = .ok (.bipush 32, 2) := by decide +kernel
theorem dX6_init_758 : decode cX6_init 758 = .ok (.castore, 1) := by decide +kernel
theorem dX6_init_759 : decode cX6_init 759 = .ok (.dup, 1) := by decide +kernel
theorem dX6_init_760 : decode cX6_init 760 = .ok (.bipush 21, 2) := by decide +kernel
theorem dX6_init_762 : decode cX6_init 762 = .ok (.bipush 32, 2) := by decide +kernel
theorem dX6_init_764 : decode cX6_init 764 = .ok (.castore, 1) := by decide +kernel
theorem dX6_init_765 : decode cX6_init 765 = .ok (.dup, 1) := by decide +kernel
theorem dX6_init_766 : decode cX6_init 766 = .ok (.bipush 22, 2) := by decide +kernel
theorem dX6_init_768 : decode cX6_init 768 = .ok (.bipush 32, 2) := by decide +kernel
theorem dX6_init_770 : decode cX6_init 770 = .ok (.castore, 1) := by decide +kernel
theorem dX6_init_771 : decode cX6_init 771 = .ok (.dup, 1) := by decide +kernel
theorem dX6_init_772 : decode cX6_init 772 = .ok (.bipush 23, 2) := by decide +kernel
theorem dX6_init_774 : decode cX6_init 774 = .ok (.bipush 32, 2) := by decide +kernel
theorem dX6_init_776 : decode cX6_init 776 = .ok (.castore, 1) := by decide +kernel
theorem dX6_init_777 : decode cX6_init 777 = .ok (.dup, 1) := by decide +kernel
theorem dX6_init_778 : decode cX6_init 778 = .ok (.bipush 24, 2) := by decide +kernel
theorem dX6_init_780 : decode cX6_init 780 = .ok (.bipush 112, 2) := by decide +kernel
theorem dX6_init_782 : decode cX6_init 782 = .ok (.castore, 1) := by decide +kernel
theorem dX6_init_783 : decode cX6_init 783 = .ok (.dup, 1) := by decide +kernel
theorem dX6_init_784 : decode cX6_init 784 = .ok (.bipush 25, 2) := by decide +kernel
theorem dX6_init_786 : decode cX6_init 786 = .ok (.bipush 97, 2) := by decide +kernel
theorem dX6_init_788 : decode cX6_init 788 = .ok (.castore, 1) := by decide +kernel
theorem dX6_init_789 : decode cX6_init 789 = .ok (.dup, 1) := by decide +kernel
theorem dX6_init_790 : decode cX6_init 790 = .ok (.bipush 26, 2) := by decide +kernel
theorem dX6_init_792 : decode cX6_init 792 = .ok (.bipush 114, 2) := by decide +kernel
theorem dX6_init_794 : decode cX6_init 794 = .ok (.castore, 1) := by decide +kernel
theorem dX6_init_795 : decode cX6_init 795 = .ok (.dup, 1) := by decide +kernel
theorem dX6_init_796 : decode cX6_init 796 = .ok (.bipush 27, 2) := by decide +kernel
theorem dX6_init_798 : decode cX6_init 798 = .ok (.bipush 116, 2) := by decide +kernel
theorem dX6_init_800 : decode cX6_init 800 = .ok (.castore, 1) := by decide +kernel
theorem dX6_init_801 : decode cX6_init 801 = .ok (.dup, 1) := by decide +kernel
theorem dX6_init_802 : decode cX6_init 802 = .ok (.bipush 28, 2) := by decide +kernel
theorem dX6_init_804 : decode cX6_init 804 = .ok (.bipush 115, 2) := by decide +kernel
theorem dX6_init_806 : decode cX6_init 806 = .ok (.castore, 1) := by decide +kernel
theorem dX6_init_807 : decode cX6_init 807 = .ok (.dup, 1) := by decide +kernel
theorem dX6_init_808 : decode cX6_init 808 = .ok (.bipush 29, 2) := by decide +kernel
theorem dX6_init_810 : decode cX6_init 810 = .ok (.bipush 32, 2) := by decide +kernel
theorem dX6_init_812 : decode cX6_init 812 = .ok (.castore, 1) := by decide +kernel
theorem dX6_init_813 : decode cX6_init 813 = .ok (.dup, 1) := by decide +kernel
theorem dX6_init_814 : decode cX6_init 814 = .ok (.bipush 30, 2) := by decide +kernel
theorem dX6_init_816 : decode cX6_init 816 = .ok (.bipush 32, 2) := by decide +kernel
theorem dX6_init_818 : decode cX6_init 818 = .ok (.castore, 1) := by decide +kernel
theorem dX6_init_819 : decode cX6_init 819 = .ok (.dup, 1) := by decide +kernel
theorem dX6_init_820 : decode cX6_init 820 = .ok (.bipush 31, 2) := by decide +kernel
theorem dX6_init_822 : decode cX6_init 822 = .ok (.bipush 32, 2) := by decide +kernel
theorem dX6_init_824 : decode cX6_init 824 = .ok (.castore, 1) := by decide +kernel
theorem dX6_init_825 : decode cX6_init 825 = .ok (.dup, 1) := by decide +kernel
theorem dX6_init_826 : decode cX6_init 826 = .ok (.bipush 32, 2) := by decide +kernel
theorem dX6_init_828 : decode cX6_init 828 = .ok (.bipush 99, 2) := by decide +kernel
theorem dX6_init_830 : decode cX6_init 830 = .ok (.castore, 1) := by decide +kernel
theorem dX6_init_831 : decode cX6_init 831 = .ok (.dup, 1) := by decide +kernel
theorem dX6_init_832 : decode cX6_init 832 = .ok (.bipush 33, 2) := by decide +kernel
theorem dX6_init_834 : decode cX6_init 834 = .ok (.bipush 114, 2) := by decide +kernel
theorem dX6_init_836 : decode cX6_init 836 = .ok (.castore, 1) := by decide +kernel
theorem dX6_init_837 : decode cX6_init 837 = .ok (.dup, 1) := by decide +kernel
theorem dX6_init_838 : decode cX6_init 838 = .ok (.bipush 34, 2) := by decide +kernel
theorem dX6_init_840 : decode cX6_init 840 = .ok (.bipush 101, 2) := by decide +kernel
theorem dX6_init_842 : decode cX6_init 842 = .ok (.castore, 1) := by decide +kernel
theorem dX6_init_843 : decode cX6_init 843 = .ok (.dup, 1) := by decide +kernel
theorem dX6_init_844 : decode cX6_init 844 = .ok (.bipush 35, 2) := by decide +kernel
theorem dX6_init_846 : decode cX6_init 846 = .ok (.bipush 119, 2) := by decide +kernel
theorem dX6_init_848 : decode cX6_init 848 = .ok (.castore, 1) := by decide +kernel
theorem dX6_init_849 : decode cX6_init 849 = .ok (.dup, 1) := by decide +kernel
theorem dX6_init_850 : decode cX6_init 850 = .ok (.bipush 36, 2) := by decide +kernel
theorem dX6_init_852 : decode cX6_init 852 = .ok (.bipush 32, 2) := by decide +kernel
theorem dX6_init_854 : decode cX6_init 854 = .ok (.castore, 1) := by decide +kernel
theorem dX6_init_855 : decode cX6_init 855 = .ok (.dup, 1) := by decide +kernel
theorem dX6_init_856 : decode cX6_init 856 = .ok (.bipush 37, 2) := by decide +kernel
theorem dX6_init_858 : decode cX6_init 858 = .ok (.bipush 32, 2) := by decide +kernel
theorem dX6_init_860 : decode cX6_init 860 = .ok (.castore, 1) := by decide +kernel
theorem dX6_init_861 : decode cX6_init 861 = .ok (.dup, 1) := by decide +kernel
theorem dX6_init_862 : decode cX6_init 862 = .ok (.bipush 38, 2) := by decide +kernel
theorem dX6_init_864 : decode cX6_init 864 = .ok (.bipush 32, 2) := by decide +kernel
theorem dX6_init_866 : decode cX6_init 866 = .ok (.castore, 1) := by decide +kernel
theorem dX6_init_867 : decode cX6_init 867 = .ok (.dup, 1) := by decide +kernel
theorem dX6_init_868 : decode cX6_init 868 = .ok (.bipush 39, 2) := by decide +kernel
theorem dX6_init_870 : decode cX6_init 870 = .ok (.bipush 32, 2) := by decide +kernel
theorem dX6_init_872 : decode cX6_init 872 = .ok (.castore, 1) := by decide +kernel
theorem dX6_init_873 : decode cX6_init 873 = .ok (.dup, 1) := by decide +kernel
theorem dX6_init_874 : decode cX6_init 874 = .ok (.bipush 40, 2) := by decide +kernel
theorem dX6_init_876 : decode cX6_init 876 = .ok (.bipush 115, 2) := by decide +kernel
theorem dX6_init_878 : decode cX6_init 878 = .ok (.castore, 1) := by decide +kernel
theorem dX6_init_879 : decode cX6_init 879 = .ok (.dup, 1) := by decide +kernel
theorem dX6_init_880 : decode cX6_init 880 = .ok (.bipush 41, 2) := by decide +kernel
theorem dX6_init_882 : decode cX6_init 882 = .ok (.bipush 105, 2) := by decide +kernel
theorem dX6_init_884 : decode cX6_init 884 = .ok (.castore, 1) := by decide +kernel
theorem dX6_init_885 : decode cX6_init 885 = .ok (.dup, 1) := by decide +kernel
theorem dX6_init_886 : decode cX6_init 886 = .ok (.bipush 42, 2) := by decide +kernel
theorem dX6_init_888 : decode cX6_init 888 = .ok (.bipush 103, 2) := by decide +kernel
theorem dX6_init_890 : decode cX6_init 890 = .ok (.castore, 1) := by decide +kernel
theorem dX6_init_891 : decode cX6_init 891 = .ok (.dup, 1) := by decide +kernel
theorem dX6_init_892 : decode cX6_init 892 = .ok (.bipush 43, 2) := by decide +kernel
theorem dX6_init_894 : decode cX6_init 894 = .ok (.bipush 110, 2) := by decide +kernel
theorem dX6_init_896 : decode cX6_init 896 = .ok (.castore, 1) := by decide +kernel
theorem dX6_init_897 : decode cX6_init 897 = .ok (.dup, 1) := by decide +kernel
theorem dX6_init_898 : decode cX6_init 898 = .ok (.bipush 44, 2) := by decide +kernel
theorem dX6_init_900 : decode cX6_init 900 = .ok (.bipush 32, 2) := by decide +kernel
theorem dX6_init_902 : decode cX6_init 902 = .ok (.castore, 1) := by decide +kernel
theorem dX6_init_903 : decode cX6_init 903 = .ok (.dup, 1) := by decide +kernel
theorem dX6_init_904 : decode cX6_init 904 = .ok (.bipush 45, 2) := by decide +kernel
theorem dX6_init_906 : decode cX6_init 906 = .ok (.bipush 32, 2) := by decide +kernel
theorem dX6_init_908 : decode cX6_init 908 = .ok (.castore, 1) := by decide +kernel
theorem dX6_init_909 : decode cX6_init 909 = .ok (.dup, 1) := by decide +kernel
theorem dX6_init_910 : decode cX6_init 910 = .ok (.bipush 46, 2) := by decide +kernel
theorem dX6_init_912 : decode cX6_init 912 = .ok (.bipush 32, 2) := by decide +kernel
theorem dX6_init_914 : decode cX6_init 914 = .ok (.castore, 1) := by decide +kernel
theorem dX6_init_915 : decode cX6_init 915 = .ok (.dup, 1) := by decide +kernel
theorem dX6_init_916 : decode cX6_init 916 = .ok (.bipush 47, 2) := by decide +kernel
theorem dX6_init_918 : decode cX6_init 918 = .ok (.bipush 32, 2) := by decide +kernel
theorem dX6_init_920 : decode cX6_init 920 = .ok (.castore, 1) := by decide +kernel
theorem dX6_init_921 : decode cX6_init 921 = .ok (.putfield 38, 3) := by decide +kernel
theorem dX6_init_924 : decode cX6_init 924 = .ok (.aload_n 0, 1) := by decide +kernel
theorem dX6_init_925 : decode cX6_init 925 = .ok (.iconst 4, 1) := by decide +kernel
theorem dX6_init_926 : decode cX6_init 926 = .ok (.newarray .int, 2) := by decide +kernel
theorem dX6_init_928 : decode cX6_init 928 = .ok (.putfield 41, 3) := by decide +kernel
theorem dX6_init_931 : decode cX6_init 931 = .ok (.aload_n 0, 1) := by decide +kernel
theorem dX6_init_932 : decode cX6_init 932 = .ok (.iconst 4, 1) := by decide +kernel
theorem dX6_init_933 : decode cX6_init 933 = .ok (.newarray .int, 2) := by decide +kernel
theorem dX6_init_935 : decode cX6_init 935 = .ok (.putfield 44, 3) := by decide +kernel
theorem dX6_init_938 : decode cX6_init 938 = .ok (.aload_n 0, 1) := by decide +kernel
theorem dX6_init_939 : decode cX6_init 939 = .ok (.sipush 160, 3) := by decide +kernel
theorem dX6_init_942 : decode cX6_init 942 = .ok (.newarray .int, 2) := by decide +kernel
theorem dX6_init_944 : decode cX6_init 944 = .ok (.putfield 47, 3) := by decide +kernel
theorem dX6_init_947 : decode cX6_init 947 = .ok (.aload_n 0, 1) := by decide +kernel
theorem dX6_init_948 : decode cX6_init 948 = .ok (.bipush 40, 2) := by decide +kernel
theorem dX6_init_950 : decode cX6_init 950 = .ok (.newarray .int, 2) := by decide +kernel
theorem dX6_init_952 : decode cX6_init 952 = .ok (.putfield 50, 3) := by decide +kernel
theorem dX6_init_955 : decode cX6_init 955 = .ok (.aload_n 0, 1) := by decide +kernel
theorem dX6_init_956 : decode cX6_init 956 = .ok (.getfield 9, 3) := by decide +kernel
theorem dX6_init_959 : decode cX6_init 959 = .ok (.iconst 3, 1) := by decide +kernel
theorem dX6_init_960 : decode cX6_init 960 = .ok (.iconst 1, 1) := by decide +kernel
theorem dX6_init_961 : decode cX6_init 961 = .ok (.iastore, 1) := by decide +kernel
theorem dX6_init_962 : decode cX6_init 962 = .ok (.aload_n 0, 1) := by decide +kernel
theorem dX6_init_963 : decode cX6_init 963 = .ok (.getfield 9, 3) := by decide +kernel
theorem dX6_init_966 : decode cX6_init 966 = .ok (.iconst 4, 1) := by decide +kernel
theorem dX6_init_967 : decode cX6_init 967 = .ok (.iconst 1, 1) := by decide +kernel
theorem dX6_init_968 : decode cX6_init 968 = .ok (.iastore, 1) := by decide +kernel
theorem dX6_init_969 : decode cX6_init 969 = .ok (.aload_n 0, 1) := by decide +kernel
theorem dX6_init_970 : decode cX6_init 970 = .ok (.getfield 9, 3) := by decide +kernel
theorem dX6_init_973 : decode cX6_init 973 = .ok (.bipush 6, 2) := by decide +kernel
theorem dX6_init_975 : decode cX6_init 975 = .ok (.iconst 5, 1) := by decide +kernel
theorem dX6_init_976 : decode cX6_init 976 = .ok (.iastore, 1) := by decide +kernel
theorem dX6_init_977 : decode cX6_init 977 = .ok (.aload_n 0, 1) := by decide +kernel
theorem dX6_init_978 : decode cX6_init 978 = .ok (.getfield 9, 3) := by decide +kernel
theorem dX6_init_981 : decode cX6_init 981 = .ok (.bipush 7, 2) := by decide +kernel
theorem dX6_init_983 : decode cX6_init 983 = .ok (.bipush 20, 2) := by decide +kernel
theorem dX6_init_985 : decode cX6_init 985 = .ok (.iastore, 1) := by decide +kernel
theorem dX6_init_986 : decode cX6_init 986 = .ok (.iconst 0, 1) := by decide +kernel
theorem dX6_init_987 : decode cX6_init 987 = .ok (.istore_n 1, 1) := by decide +kernel
theorem dX6_init_988 : decode cX6_init 988 = .ok (.iload_n 1, 1) := by decide +kernel
theorem dX6_init_989 : decode cX6_init 989 = .ok (.iconst 4, 1) := by decide +kernel
theorem dX6_init_990 : decode cX6_init 990 = .ok (.if_icmp .ge 24, 3) := by decide +kernel
theorem dX6_init_993 : decode cX6_init 993 = .ok (.aload_n 0, 1) := by decide +kernel
theorem dX6_init_994 : decode cX6_init 994 = .ok (.getfield 9, 3) := by decide +kernel
theorem dX6_init_997 : decode cX6_init 997 = .ok (.bipush 8, 2) := by decide +kernel
theorem dX6_init_999 : decode cX6_init 999 = .ok (.iconst 2, 1) := by decide +kernel
theorem dX6_init_1000 : decode cX6_init 1000 = .ok (.iload_n 1, 1) := by decide +kernel
theorem dX6_init_1001 : decode cX6_init 1001 = .ok (.imul, 1) := by decide +kernel
theorem dX6_init_1002 : decode cX6_init 1002 = .ok (.iadd, 1) := by decide +kernel
theorem dX6_init_1003 : decode cX6_init 1003 = .ok (.iconst 1, 1) := by decide +kernel
theorem dX6_init_1004 : decode cX6_init 1004 = .ok (.iadd, 1) := by decide +kernel
theorem dX6_init_1005 : decode cX6_init 1005 = .ok (.bipush 60, 2) := by decide +kernel
theorem dX6_init_1007 : decode cX6_init 1007 = .ok (.iastore, 1) := by decide +kernel
theorem dX6_init_1008 : decode cX6_init 1008 = .ok (.iinc 1 1, 3) := by decide +kernel
theorem dX6_init_1011 : decode cX6_init 1011 = .ok (.goto (-23), 3) := by decide +kernel
theorem dX6_init_1014 : decode cX6_init 1014 = .ok (.iconst 0, 1) := by decide +kernel
theorem dX6_init_1015 : decode cX6_init 1015 = .ok (.istore_n 1, 1) := by decide +kernel
theorem dX6_init_1016 : decode cX6_init 1016 = .ok (.iload_n 1, 1) := by decide +kernel
theorem dX6_init_1017 : decode cX6_init 1017 = .ok (.bipush 10, 2) := by decide +kernel
theorem dX6_init_1019 : decode cX6_init 1019 = .ok (.if_icmp .ge 19, 3) := by decide +kernel
theorem dX6_init_1022 : decode cX6_init 1022 = .ok (.aload_n 0, 1) := by decide +kernel
theorem dX6_init_1023 : decode cX6_init 1023 = .ok (.getfield 9, 3) := by decide +kernel
theorem dX6_init_1026 : decode cX6_init 1026 = .ok (.bipush 62, 2) := by decide +kernel
theorem dX6_init_1028 : decode cX6_init 1028 = .ok (.iload_n 1, 1) := by decide +kernel
theorem dX6_init_1029 : decode cX6_init 1029 = .ok (.iadd, 1) := by decide +kernel
theorem dX6_init_1030 : decode cX6_init 1030 = .ok (.iconst (-1), 1) := by decide +kernel
theorem dX6_init_1031 : decode cX6_init 1031 = .ok (.iastore, 1) := by decide +kernel
theorem dX6_init_1032 : decode cX6_init 1032 = .ok (.iinc 1 1, 3) := by decide +kernel
theorem dX6_init_1035 : decode cX6_init 1035 = .ok (.goto (-19), 3) := by decide +kernel
theorem dX6_init_1038 : decode cX6_init 1038 = .ok (.return_, 1) := by decide +kernel
theorem dX6_no_0 : decode cX6_no 0 = .ok (.aload_n 0, 1) := by decide +kernel
theorem dX6_no_1 : decode cX6_no 1 = .ok (.getfield 19, 3) := by decide +kernel
theorem dX6_no_4 : decode cX6_no 4 = .ok (.iload_n 1, 1) := by decide +kernel
theorem dX6_no_5 : decode cX6_no 5 = .ok (.dup2, 1) := by decide +kernel
theorem dX6_no_6 : decode cX6_no 6 = .ok (.iaload, 1) := by decide +kernel
theorem dX6_no_7 : decode cX6_no 7 = .ok (.iconst 1, 1) := by decide +kernel
theorem dX6_no_8 : decode cX6_no 8 = .ok (.iadd, 1) := by decide +kernel
theorem dX6_no_9 : decode cX6_no 9 = .ok (.iastore, 1) := by decide +kernel
theorem dX6_no_10 : decode cX6_no 10 = .ok (.ldc 53, 2) := by decide +kernel
theorem dX6_no_12 : decode cX6_no 12 = .ok (.iload_n 1, 1) := by decide +kernel
theorem dX6_no_13 : decode cX6_no 13 = .ok (.isub, 1) := by decide +kernel
theorem dX6_no_14 : decode cX6_no 14 = .ok (.ireturn, 1) := by decide +kernel
theorem dX6_in1_0 : decode cX6_in1 0 = .ok (.iload_n 0, 1) := by decide +kernel
theorem dX6_in1_1 : decode cX6_in1 1 = .ok (.iload_n 1, 1) := by decide +kernel
theorem dX6_in1_2 : decode cX6_in1 2 = .ok (.if_icmp .lt 12, 3) := by decide +kernel
theorem dX6_in1_5 : decode cX6_in1 5 = .ok (.iload_n 0, 1) := by decide +kernel
theorem dX6_in1_6 : decode cX6_in1 6 = .ok (.iload_n 2, 1) := by decide +kernel
theorem dX6_in1_7 : decode cX6_in1 7 = .ok (.if_icmp .gt 7, 3) := by decide +kernel
theorem dX6_in1_10 : decode cX6_in1 10 = .ok (.iconst 1, 1) := by decide +kernel
theorem dX6_in1_11 : decode cX6_in1 11 = .ok (.goto 4, 3) := by decide +kernel
theorem dX6_in1_14 : decode cX6_in1 14 = .ok (.iconst 0, 1) := by decide +kernel
theorem dX6_in1_15 : decode cX6_in1 15 = .ok (.ireturn, 1) := by decide +kernel
theorem dX6_less_0 : decode cX6_less 0 = .ok (.iload_n 0, 1) := by decide +kernel
theorem dX6_less_1 : decode cX6_less 1 = .ok (.iload_n 1, 1) := by decide +kernel
theorem dX6_less_2 : decode cX6_less 2 = .ok (.if_icmp .ge 7, 3) := by decide +kernel
theorem dX6_less_5 : decode cX6_less 5 = .ok (.iload_n 0, 1) := by decide +kernel
theorem dX6_less_6 : decode cX6_less 6 = .ok (.goto 4, 3) := by decide +kernel
theorem dX6_less_9 : decode cX6_less 9 = .ok (.iload_n 1, 1) := by decide +kernel
theorem dX6_less_10 : decode cX6_less 10 = .ok (.ireturn, 1) := by decide +kernel
theorem dX6_greater_0 : decode cX6_greater 0 = .ok (.iload_n 0, 1) := by decide +kernel
theorem dX6_greater_1 : decode cX6_greater 1 = .ok (.iload_n 1, 1) := by decide +kernel
theorem dX6_greater_2 : decode cX6_greater 2 = .ok (.if_icmp .le 7, 3) := by decide +kernel
theorem dX6_greater_5 : decode cX6_greater 5 = .ok (.iload_n 0, 1) := by decide +kernel
theorem dX6_greater_6 : decode cX6_greater 6 = .ok (.goto 4, 3) := by decide +kernel
theorem dX6_greater_9 : decode cX6_greater 9 = .ok (.iload_n 1, 1) := by decide +kernel
theorem dX6_greater_10 : decode cX6_greater 10 = .ok (.ireturn, 1) := by decide +kernel
theorem dX6_bits_0 : decode cX6_bits 0 = .ok (.iconst 0, 1) := by decide +kernel
theorem dX6_bits_1 : decode cX6_bits 1 = .ok (.istore_n 1, 1) := by decide +kernel
theorem dX6_bits_2 : decode cX6_bits 2 = .ok (.iload_n 0, 1) := by decide +kernel
theorem dX6_bits_3 : decode cX6_bits 3 = .ok (.istore_n 2, 1) := by decide +kernel
theorem dX6_bits_4 : decode cX6_bits 4 = .ok (.iload_n 2, 1) := by decide +kernel
theorem dX6_bits_5 : decode cX6_bits 5 = .ok (.ifCond .eq 15, 3) := by decide +kernel
theorem dX6_bits_8 : decode cX6_bits 8 = .ok (.iinc 1 1, 3) := by decide +kernel
theorem dX6_bits_11 : decode cX6_bits 11 = .ok (.iload_n 2, 1) := by decide +kernel
theorem dX6_bits_12 : decode cX6_bits 12 = .ok (.iload_n 2, 1) := by decide +kernel
theorem dX6_bits_13 : decode cX6_bits 13 = .ok (.iconst 1, 1) := by decide +kernel
theorem dX6_bits_14 : decode cX6_bits 14 = .ok (.isub, 1) := by decide +kernel
theorem dX6_bits_15 : decode cX6_bits 15 = .ok (.iand, 1) := by decide +kernel
theorem dX6_bits_16 : decode cX6_bits 16 = .ok (.istore_n 2, 1) := by decide +kernel
theorem dX6_bits_17 : decode cX6_bits 17 = .ok (.goto (-13), 3) := by decide +kernel
theorem dX6_bits_20 : decode cX6_bits 20 = .ok (.iload_n 1, 1) := by decide +kernel
theorem dX6_bits_21 : decode cX6_bits 21 = .ok (.ireturn, 1) := by decide +kernel
theorem dX6_isIn_0 : decode cX6_isIn 0 = .ok (.iload_n 0, 1) := by decide +kernel
theorem dX6_isIn_1 : decode cX6_isIn 1 = .ok (.iload_n 1, 1) := by decide +kernel
theorem dX6_isIn_2 : decode cX6_isIn 2 = .ok (.ishr, 1) := by decide +kernel
theorem dX6_isIn_3 : decode cX6_isIn 3 = .ok (.iconst 1, 1) := by decide +kernel
theorem dX6_isIn_4 : decode cX6_isIn 4 = .ok (.iand, 1) := by decide +kernel
theorem dX6_isIn_5 : decode cX6_isIn 5 = .ok (.iconst 1, 1) := by decide +kernel
theorem dX6_isIn_6 : decode cX6_isIn 6 = .ok (.if_icmp .ne 7, 3) := by decide +kernel
theorem dX6_isIn_9 : decode cX6_isIn 9 = .ok (.iconst 1, 1) := by decide +kernel
theorem dX6_isIn_10 : decode cX6_isIn 10 = .ok (.goto 4, 3) := by decide +kernel
theorem dX6_isIn_13 : decode cX6_isIn 13 = .ok (.iconst 0, 1) := by decide +kernel
theorem dX6_isIn_14 : decode cX6_isIn 14 = .ok (.ireturn, 1) := by decide +kernel
theorem dX6_isPlace_0 : decode cX6_isPlace 0 = .ok (.iload_n 0, 1) := by decide +kernel
theorem dX6_isPlace_1 : decode cX6_isPlace 1 = .ok (.iconst 0, 1) := by decide +kernel
theorem dX6_isPlace_2 : decode cX6_isPlace 2 = .ok (.bipush 99, 2) := by decide +kernel
theorem dX6_isPlace_4 : decode cX6_isPlace 4 = .ok (.invokestatic 54, 3) := by decide +kernel
theorem dX6_isPlace_7 : decode cX6_isPlace 7 = .ok (.ireturn, 1) := by decide +kernel
theorem dX6_isCrew_0 : decode cX6_isCrew 0 = .ok (.iload_n 0, 1) := by decide +kernel
theorem dX6_isCrew_1 : decode cX6_isCrew 1 = .ok (.iconst 0, 1) := by decide +kernel
theorem dX6_isCrew_2 : decode cX6_isCrew 2 = .ok (.iconst 3, 1) := by decide +kernel
theorem dX6_isCrew_3 : decode cX6_isCrew 3 = .ok (.invokestatic 54, 3) := by decide +kernel
theorem dX6_isCrew_6 : decode cX6_isCrew 6 = .ok (.ireturn, 1) := by decide +kernel
theorem dX6_isStar_0 : decode cX6_isStar 0 = .ok (.iload_n 1, 1) := by decide +kernel
theorem dX6_isStar_1 : decode cX6_isStar 1 = .ok (.iconst 0, 1) := by decide +kernel
theorem dX6_isStar_2 : decode cX6_isStar 2 = .ok (.aload_n 0, 1) := by decide +kernel
theorem dX6_isStar_3 : decode cX6_isStar 3 = .ok (.getfield 9, 3) := by decide +kernel
theorem dX6_isStar_6 : decode cX6_isStar 6 = .ok (.iconst 1, 1) := by decide +kernel
theorem dX6_isStar_7 : decode cX6_isStar 7 = .ok (.iaload, 1) := by decide +kernel
theorem dX6_isStar_8 : decode cX6_isStar 8 = .ok (.iconst 1, 1) := by decide +kernel
theorem dX6_isStar_9 : decode cX6_isStar 9 = .ok (.isub, 1) := by decide +kernel
theorem dX6_isStar_10 : decode cX6_isStar 10 = .ok (.invokestatic 54, 3) := by decide +kernel
theorem dX6_isStar_13 : decode cX6_isStar 13 = .ok (.ireturn, 1) := by decide +kernel
theorem dX6_isSet_0 : decode cX6_isSet 0 = .ok (.iload_n 1, 1) := by decide +kernel
theorem dX6_isSet_1 : decode cX6_isSet 1 = .ok (.iconst 0, 1) := by decide +kernel
theorem dX6_isSet_2 : decode cX6_isSet 2 = .ok (.iconst 1, 1) := by decide +kernel
theorem dX6_isSet_3 : decode cX6_isSet 3 = .ok (.aload_n 0, 1) := by decide +kernel
theorem dX6_isSet_4 : decode cX6_isSet 4 = .ok (.getfield 9, 3) := by decide +kernel
theorem dX6_isSet_7 : decode cX6_isSet 7 = .ok (.iconst 1, 1) := by decide +kernel
theorem dX6_isSet_8 : decode cX6_isSet 8 = .ok (.iaload, 1) := by decide +kernel
theorem dX6_isSet_9 : decode cX6_isSet 9 = .ok (.ishl, 1) := by decide +kernel
theorem dX6_isSet_10 : decode cX6_isSet 10 = .ok (.iconst 1, 1) := by decide +kernel
theorem dX6_isSet_11 : decode cX6_isSet 11 = .ok (.isub, 1) := by decide +kernel
theorem dX6_isSet_12 : decode cX6_isSet 12 = .ok (.invokestatic 54, 3) := by decide +kernel
theorem dX6_isSet_15 : decode cX6_isSet 15 = .ok (.ireturn, 1) := by decide +kernel
theorem dX6_get_0 : decode cX6_get 0 = .ok (.aload_n 0, 1) := by decide +kernel
theorem dX6_get_1 : decode cX6_get 1 = .ok (.getfield 9, 3) := by decide +kernel
theorem dX6_get_4 : decode cX6_get 4 = .ok (.bipush 16, 2) := by decide +kernel
theorem dX6_get_6 : decode cX6_get 6 = .ok (.iconst 4, 1) := by decide +kernel
theorem dX6_get_7 : decode cX6_get 7 = .ok (.iload_n 1, 1) := by decide +kernel
theorem dX6_get_8 : decode cX6_get 8 = .ok (.imul, 1) := by decide +kernel
theorem dX6_get_9 : decode cX6_get 9 = .ok (.iadd, 1) := by decide +kernel
theorem dX6_get_10 : decode cX6_get 10 = .ok (.iload_n 2, 1) := by decide +kernel
theorem dX6_get_11 : decode cX6_get 11 = .ok (.iadd, 1) := by decide +kernel
theorem dX6_get_12 : decode cX6_get 12 = .ok (.iaload, 1) := by decide +kernel
theorem dX6_get_13 : decode cX6_get 13 = .ok (.ireturn, 1) := by decide +kernel
theorem dX6_puts_0 : decode cX6_puts 0 = .ok (.aload_n 0, 1) := by decide +kernel
theorem dX6_puts_1 : decode cX6_puts 1 = .ok (.getfield 9, 3) := by decide +kernel
theorem dX6_puts_4 : decode cX6_puts 4 = .ok (.bipush 16, 2) := by decide +kernel
theorem dX6_puts_6 : decode cX6_puts 6 = .ok (.iconst 4, 1) := by decide +kernel
theorem dX6_puts_7 : decode cX6_puts 7 = .ok (.iload_n 1, 1) := by decide +kernel
theorem dX6_puts_8 : decode cX6_puts 8 = .ok (.imul, 1) := by decide +kernel
theorem dX6_puts_9 : decode cX6_puts 9 = .ok (.iadd, 1) := by decide +kernel
theorem dX6_puts_10 : decode cX6_puts 10 = .ok (.iload_n 2, 1) := by decide +kernel
theorem dX6_puts_11 : decode cX6_puts 11 = .ok (.iadd, 1) := by decide +kernel
theorem dX6_puts_12 : decode cX6_puts 12 = .ok (.iload_n 3, 1) := by decide +kernel
theorem dX6_puts_13 : decode cX6_puts 13 = .ok (.iastore, 1) := by decide +kernel
theorem dX6_puts_14 : decode cX6_puts 14 = .ok (.return_, 1) := by decide +kernel
theorem dX6_at_0 : decode cX6_at 0 = .ok (.aload_n 0, 1) := by decide +kernel
theorem dX6_at_1 : decode cX6_at 1 = .ok (.getfield 9, 3) := by decide +kernel
theorem dX6_at_4 : decode cX6_at 4 = .ok (.bipush 8, 2) := by decide +kernel
theorem dX6_at_6 : decode cX6_at 6 = .ok (.iconst 2, 1) := by decide +kernel
theorem dX6_at_7 : decode cX6_at 7 = .ok (.iload_n 1, 1) := by decide +kernel
theorem dX6_at_8 : decode cX6_at 8 = .ok (.imul, 1) := by decide +kernel
theorem dX6_at_9 : decode cX6_at 9 = .ok (.iadd, 1) := by decide +kernel
theorem dX6_at_10 : decode cX6_at 10 = .ok (.iaload, 1) := by decide +kernel
theorem dX6_at_11 : decode cX6_at 11 = .ok (.ireturn, 1) := by decide +kernel
theorem dX6_stepsOf_0 : decode cX6_stepsOf 0 = .ok (.aload_n 0, 1) := by decide +kernel
theorem dX6_stepsOf_1 : decode cX6_stepsOf 1 = .ok (.getfield 9, 3) := by decide +kernel
theorem dX6_stepsOf_4 : decode cX6_stepsOf 4 = .ok (.bipush 8, 2) := by decide +kernel
theorem dX6_stepsOf_6 : decode cX6_stepsOf 6 = .ok (.iconst 2, 1) := by decide +kernel
theorem dX6_stepsOf_7 : decode cX6_stepsOf 7 = .ok (.iload_n 1, 1) := by decide +kernel
theorem dX6_stepsOf_8 : decode cX6_stepsOf 8 = .ok (.imul, 1) := by decide +kernel
theorem dX6_stepsOf_9 : decode cX6_stepsOf 9 = .ok (.iadd, 1) := by decide +kernel
theorem dX6_stepsOf_10 : decode cX6_stepsOf 10 = .ok (.iconst 1, 1) := by decide +kernel
theorem dX6_stepsOf_11 : decode cX6_stepsOf 11 = .ok (.iadd, 1) := by decide +kernel
theorem dX6_stepsOf_12 : decode cX6_stepsOf 12 = .ok (.iaload, 1) := by decide +kernel
theorem dX6_stepsOf_13 : decode cX6_stepsOf 13 = .ok (.ireturn, 1) := by decide +kernel
theorem dX6_setsAside_0 : decode cX6_setsAside 0 = .ok (.iconst 0, 1) := by decide +kernel
theorem dX6_setsAside_1 : decode cX6_setsAside 1 = .ok (.istore_n 1, 1) := by decide +kernel
theorem dX6_setsAside_2 : decode cX6_setsAside 2 = .ok (.iload_n 1, 1) := by decide +kernel
theorem dX6_setsAside_3 : decode cX6_setsAside 3 = .ok (.bipush 72, 2) := by decide +kernel
theorem dX6_setsAside_5 : decode cX6_setsAside 5 = .ok (.if_icmp .ge 21, 3) := by decide +kernel
theorem dX6_setsAside_8 : decode cX6_setsAside 8 = .ok (.aload_n 0, 1) := by decide +kernel
theorem dX6_setsAside_9 : decode cX6_setsAside 9 = .ok (.getfield 16, 3) := by decide +kernel
theorem dX6_setsAside_12 : decode cX6_setsAside 12 = .ok (.iload_n 1, 1) := by decide +kernel
theorem dX6_setsAside_13 : decode cX6_setsAside 13 = .ok (.aload_n 0, 1) := by decide +kernel
theorem dX6_setsAside_14 : decode cX6_setsAside 14 = .ok (.getfield 9, 3) := by decide +kernel
theorem dX6_setsAside_17 : decode cX6_setsAside 17 = .ok (.iload_n 1, 1) := by decide +kernel
theorem dX6_setsAside_18 : decode cX6_setsAside 18 = .ok (.iaload, 1) := by decide +kernel
theorem dX6_setsAside_19 : decode cX6_setsAside 19 = .ok (.iastore, 1) := by decide +kernel
theorem dX6_setsAside_20 : decode cX6_setsAside 20 = .ok (.iinc 1 1, 3) := by decide +kernel
theorem dX6_setsAside_23 : decode cX6_setsAside 23 = .ok (.goto (-21), 3) := by decide +kernel
theorem dX6_setsAside_26 : decode cX6_setsAside 26 = .ok (.return_, 1) := by decide +kernel
theorem dX6_laysBack_0 : decode cX6_laysBack 0 = .ok (.iconst 0, 1) := by decide +kernel
theorem dX6_laysBack_1 : decode cX6_laysBack 1 = .ok (.istore_n 1, 1) := by decide +kernel
theorem dX6_laysBack_2 : decode cX6_laysBack 2 = .ok (.iload_n 1, 1) := by decide +kernel
theorem dX6_laysBack_3 : decode cX6_laysBack 3 = .ok (.bipush 72, 2) := by decide +kernel
theorem dX6_laysBack_5 : decode cX6_laysBack 5 = .ok (.if_icmp .ge 21, 3) := by decide +kernel
theorem dX6_laysBack_8 : decode cX6_laysBack 8 = .ok (.aload_n 0, 1) := by decide +kernel
theorem dX6_laysBack_9 : decode cX6_laysBack 9 = .ok (.getfield 9, 3) := by decide +kernel
theorem dX6_laysBack_12 : decode cX6_laysBack 12 = .ok (.iload_n 1, 1) := by decide +kernel
theorem dX6_laysBack_13 : decode cX6_laysBack 13 = .ok (.aload_n 0, 1) := by decide +kernel
theorem dX6_laysBack_14 : decode cX6_laysBack 14 = .ok (.getfield 16, 3) := by decide +kernel
theorem dX6_laysBack_17 : decode cX6_laysBack 17 = .ok (.iload_n 1, 1) := by decide +kernel
theorem dX6_laysBack_18 : decode cX6_laysBack 18 = .ok (.iaload, 1) := by decide +kernel
theorem dX6_laysBack_19 : decode cX6_laysBack 19 = .ok (.iastore, 1) := by decide +kernel
theorem dX6_laysBack_20 : decode cX6_laysBack 20 = .ok (.iinc 1 1, 3) := by decide +kernel
theorem dX6_laysBack_23 : decode cX6_laysBack 23 = .ok (.goto (-21), 3) := by decide +kernel
theorem dX6_laysBack_26 : decode cX6_laysBack 26 = .ok (.return_, 1) := by decide +kernel
