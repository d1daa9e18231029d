theorem dX6_wearOf_0 : decode cX6_wearOf 0 = .ok (.aload_n 0, 1) := by decide +kernel
theorem dX6_wearOf_1 : decode cX6_wearOf 1 = .ok (.getfield 9, 3) := by decide +kernel
theorem dX6_wearOf_4 : decode cX6_wearOf 4 = .ok (.iconst 4, 1) := by decide +kernel
theorem dX6_wearOf_5 : decode cX6_wearOf 5 = .ok (.iaload, 1) := by decide +kernel
theorem dX6_wearOf_6 : decode cX6_wearOf 6 = .ok (.iconst 1, 1) := by decide +kernel
theorem dX6_wearOf_7 : decode cX6_wearOf 7 = .ok (.iadd, 1) := by decide +kernel
theorem dX6_wearOf_8 : decode cX6_wearOf 8 = .ok (.istore_n 2, 1) := by decide +kernel
theorem dX6_wearOf_9 : decode cX6_wearOf 9 = .ok (.iload_n 2, 1) := by decide +kernel
theorem dX6_wearOf_10 : decode cX6_wearOf 10 = .ok (.iconst 2, 1) := by decide +kernel
theorem dX6_wearOf_11 : decode cX6_wearOf 11 = .ok (.idiv, 1) := by decide +kernel
theorem dX6_wearOf_12 : decode cX6_wearOf 12 = .ok (.aload_n 0, 1) := by decide +kernel
theorem dX6_wearOf_13 : decode cX6_wearOf 13 = .ok (.getfield 9, 3) := by decide +kernel
theorem dX6_wearOf_16 : decode cX6_wearOf 16 = .ok (.iconst 5, 1) := by decide +kernel
theorem dX6_wearOf_17 : decode cX6_wearOf 17 = .ok (.iaload, 1) := by decide +kernel
theorem dX6_wearOf_18 : decode cX6_wearOf 18 = .ok (.iconst 5, 1) := by decide +kernel
theorem dX6_wearOf_19 : decode cX6_wearOf 19 = .ok (.if_icmp .lt 7, 3) := by decide +kernel
theorem dX6_wearOf_22 : decode cX6_wearOf 22 = .ok (.iconst 1, 1) := by decide +kernel
theorem dX6_wearOf_23 : decode cX6_wearOf 23 = .ok (.goto 4, 3) := by decide +kernel
theorem dX6_wearOf_26 : decode cX6_wearOf 26 = .ok (.iconst 0, 1) := by decide +kernel
theorem dX6_wearOf_27 : decode cX6_wearOf 27 = .ok (.iadd, 1) := by decide +kernel
theorem dX6_wearOf_28 : decode cX6_wearOf 28 = .ok (.istore_n 3, 1) := by decide +kernel
theorem dX6_wearOf_29 : decode cX6_wearOf 29 = .ok (.aload_n 0, 1) := by decide +kernel
theorem dX6_wearOf_30 : decode cX6_wearOf 30 = .ok (.iload_n 1, 1) := by decide +kernel
theorem dX6_wearOf_31 : decode cX6_wearOf 31 = .ok (.iconst 0, 1) := by decide +kernel
theorem dX6_wearOf_32 : decode cX6_wearOf 32 = .ok (.invokevirtual 58, 3) := by decide +kernel
theorem dX6_wearOf_35 : decode cX6_wearOf 35 = .ok (.tableswitch 77 1 6 #[37, 41, 45, 47, 56, 71], 37) := by decide +kernel
theorem dX6_wearOf_72 : decode cX6_wearOf 72 = .ok (.iload_n 2, 1) := by decide +kernel
theorem dX6_wearOf_73 : decode cX6_wearOf 73 = .ok (.iconst 2, 1) := by decide +kernel
theorem dX6_wearOf_74 : decode cX6_wearOf 74 = .ok (.iadd, 1) := by decide +kernel
theorem dX6_wearOf_75 : decode cX6_wearOf 75 = .ok (.ireturn, 1) := by decide +kernel
theorem dX6_wearOf_76 : decode cX6_wearOf 76 = .ok (.iload_n 2, 1) := by decide +kernel
theorem dX6_wearOf_77 : decode cX6_wearOf 77 = .ok (.iconst 2, 1) := by decide +kernel
theorem dX6_wearOf_78 : decode cX6_wearOf 78 = .ok (.idiv, 1) := by decide +kernel
theorem dX6_wearOf_79 : decode cX6_wearOf 79 = .ok (.ireturn, 1) := by decide +kernel
theorem dX6_wearOf_80 : decode cX6_wearOf 80 = .ok (.iload_n 3, 1) := by decide +kernel
theorem dX6_wearOf_81 : decode cX6_wearOf 81 = .ok (.ireturn, 1) := by decide +kernel
theorem dX6_wearOf_82 : decode cX6_wearOf 82 = .ok (.iload_n 3, 1) := by decide +kernel
theorem dX6_wearOf_83 : decode cX6_wearOf 83 = .ok (.aload_n 0, 1) := by decide +kernel
theorem dX6_wearOf_84 : decode cX6_wearOf 84 = .ok (.getfield 9, 3) := by decide +kernel
theorem dX6_wearOf_87 : decode cX6_wearOf 87 = .ok (.iconst 5, 1) := by decide +kernel
theorem dX6_wearOf_88 : decode cX6_wearOf 88 = .ok (.iaload, 1) := by decide +kernel
theorem dX6_wearOf_89 : decode cX6_wearOf 89 = .ok (.iadd, 1) := by decide +kernel
theorem dX6_wearOf_90 : decode cX6_wearOf 90 = .ok (.ireturn, 1) := by decide +kernel
theorem dX6_wearOf_91 : decode cX6_wearOf 91 = .ok (.iload_n 2, 1) := by decide +kernel
theorem dX6_wearOf_92 : decode cX6_wearOf 92 = .ok (.bipush 99, 2) := by decide +kernel
theorem dX6_wearOf_94 : decode cX6_wearOf 94 = .ok (.aload_n 0, 1) := by decide +kernel
theorem dX6_wearOf_95 : decode cX6_wearOf 95 = .ok (.iload_n 1, 1) := by decide +kernel
theorem dX6_wearOf_96 : decode cX6_wearOf 96 = .ok (.iconst 2, 1) := by decide +kernel
theorem dX6_wearOf_97 : decode cX6_wearOf 97 = .ok (.invokevirtual 58, 3) := by decide +kernel
theorem dX6_wearOf_100 : decode cX6_wearOf 100 = .ok (.isub, 1) := by decide +kernel
theorem dX6_wearOf_101 : decode cX6_wearOf 101 = .ok (.bipush 10, 2) := by decide +kernel
theorem dX6_wearOf_103 : decode cX6_wearOf 103 = .ok (.idiv, 1) := by decide +kernel
theorem dX6_wearOf_104 : decode cX6_wearOf 104 = .ok (.iadd, 1) := by decide +kernel
theorem dX6_wearOf_105 : decode cX6_wearOf 105 = .ok (.ireturn, 1) := by decide +kernel
theorem dX6_wearOf_106 : decode cX6_wearOf 106 = .ok (.iconst 2, 1) := by decide +kernel
theorem dX6_wearOf_107 : decode cX6_wearOf 107 = .ok (.iload_n 2, 1) := by decide +kernel
theorem dX6_wearOf_108 : decode cX6_wearOf 108 = .ok (.iconst 2, 1) := by decide +kernel
theorem dX6_wearOf_109 : decode cX6_wearOf 109 = .ok (.iadd, 1) := by decide +kernel
theorem dX6_wearOf_110 : decode cX6_wearOf 110 = .ok (.imul, 1) := by decide +kernel
theorem dX6_wearOf_111 : decode cX6_wearOf 111 = .ok (.ireturn, 1) := by decide +kernel
theorem dX6_wearOf_112 : decode cX6_wearOf 112 = .ok (.iload_n 2, 1) := by decide +kernel
theorem dX6_wearOf_113 : decode cX6_wearOf 113 = .ok (.ireturn, 1) := by decide +kernel
theorem dX6_dimOf_0 : decode cX6_dimOf 0 = .ok (.aload_n 0, 1) := by decide +kernel
theorem dX6_dimOf_1 : decode cX6_dimOf 1 = .ok (.iload_n 1, 1) := by decide +kernel
theorem dX6_dimOf_2 : decode cX6_dimOf 2 = .ok (.iconst 0, 1) := by decide +kernel
theorem dX6_dimOf_3 : decode cX6_dimOf 3 = .ok (.invokevirtual 58, 3) := by decide +kernel
theorem dX6_dimOf_6 : decode cX6_dimOf 6 = .ok (.tableswitch 55 1 6 #[38, 41, 43, 43, 45, 38], 38) := by decide +kernel
theorem dX6_dimOf_44 : decode cX6_dimOf 44 = .ok (.bipush 19, 2) := by decide +kernel
theorem dX6_dimOf_46 : decode cX6_dimOf 46 = .ok (.ireturn, 1) := by decide +kernel
theorem dX6_dimOf_47 : decode cX6_dimOf 47 = .ok (.iconst 4, 1) := by decide +kernel
theorem dX6_dimOf_48 : decode cX6_dimOf 48 = .ok (.ireturn, 1) := by decide +kernel
theorem dX6_dimOf_49 : decode cX6_dimOf 49 = .ok (.iconst 0, 1) := by decide +kernel
theorem dX6_dimOf_50 : decode cX6_dimOf 50 = .ok (.ireturn, 1) := by decide +kernel
theorem dX6_dimOf_51 : decode cX6_dimOf 51 = .ok (.bipush 9, 2) := by decide +kernel
theorem dX6_dimOf_53 : decode cX6_dimOf 53 = .ok (.aload_n 0, 1) := by decide +kernel
theorem dX6_dimOf_54 : decode cX6_dimOf 54 = .ok (.getfield 9, 3) := by decide +kernel
theorem dX6_dimOf_57 : decode cX6_dimOf 57 = .ok (.iconst 5, 1) := by decide +kernel
theorem dX6_dimOf_58 : decode cX6_dimOf 58 = .ok (.iaload, 1) := by decide +kernel
theorem dX6_dimOf_59 : decode cX6_dimOf 59 = .ok (.iadd, 1) := by decide +kernel
theorem dX6_dimOf_60 : decode cX6_dimOf 60 = .ok (.ireturn, 1) := by decide +kernel
theorem dX6_dimOf_61 : decode cX6_dimOf 61 = .ok (.bipush 9, 2) := by decide +kernel
theorem dX6_dimOf_63 : decode cX6_dimOf 63 = .ok (.ireturn, 1) := by decide +kernel
theorem dX6_shines_0 : decode cX6_shines 0 = .ok (.aload_n 0, 1) := by decide +kernel
theorem dX6_shines_1 : decode cX6_shines 1 = .ok (.iload_n 1, 1) := by decide +kernel
theorem dX6_shines_2 : decode cX6_shines 2 = .ok (.iconst 2, 1) := by decide +kernel
theorem dX6_shines_3 : decode cX6_shines 3 = .ok (.invokevirtual 58, 3) := by decide +kernel
theorem dX6_shines_6 : decode cX6_shines 6 = .ok (.aload_n 0, 1) := by decide +kernel
theorem dX6_shines_7 : decode cX6_shines 7 = .ok (.iload_n 1, 1) := by decide +kernel
theorem dX6_shines_8 : decode cX6_shines 8 = .ok (.invokevirtual 62, 3) := by decide +kernel
theorem dX6_shines_11 : decode cX6_shines 11 = .ok (.if_icmp .le 7, 3) := by decide +kernel
theorem dX6_shines_14 : decode cX6_shines 14 = .ok (.iconst 1, 1) := by decide +kernel
theorem dX6_shines_15 : decode cX6_shines 15 = .ok (.goto 4, 3) := by decide +kernel
theorem dX6_shines_18 : decode cX6_shines 18 = .ok (.iconst 0, 1) := by decide +kernel
theorem dX6_shines_19 : decode cX6_shines 19 = .ok (.ireturn, 1) := by decide +kernel
theorem dX6_shining_0 : decode cX6_shining 0 = .ok (.iconst 0, 1) := by decide +kernel
theorem dX6_shining_1 : decode cX6_shining 1 = .ok (.istore_n 1, 1) := by decide +kernel
theorem dX6_shining_2 : decode cX6_shining 2 = .ok (.iconst 0, 1) := by decide +kernel
theorem dX6_shining_3 : decode cX6_shining 3 = .ok (.istore_n 2, 1) := by decide +kernel
theorem dX6_shining_4 : decode cX6_shining 4 = .ok (.iload_n 2, 1) := by decide +kernel
theorem dX6_shining_5 : decode cX6_shining 5 = .ok (.aload_n 0, 1) := by decide +kernel
theorem dX6_shining_6 : decode cX6_shining 6 = .ok (.getfield 9, 3) := by decide +kernel
theorem dX6_shining_9 : decode cX6_shining 9 = .ok (.iconst 1, 1) := by decide +kernel
theorem dX6_shining_10 : decode cX6_shining 10 = .ok (.iaload, 1) := by decide +kernel
theorem dX6_shining_11 : decode cX6_shining 11 = .ok (.if_icmp .ge 27, 3) := by decide +kernel
theorem dX6_shining_14 : decode cX6_shining 14 = .ok (.iload_n 1, 1) := by decide +kernel
theorem dX6_shining_15 : decode cX6_shining 15 = .ok (.aload_n 0, 1) := by decide +kernel
theorem dX6_shining_16 : decode cX6_shining 16 = .ok (.iload_n 2, 1) := by decide +kernel
theorem dX6_shining_17 : decode cX6_shining 17 = .ok (.invokevirtual 66, 3) := by decide +kernel
theorem dX6_shining_20 : decode cX6_shining 20 = .ok (.ifCond .eq 9, 3) := by decide +kernel
theorem dX6_shining_23 : decode cX6_shining 23 = .ok (.iconst 1, 1) := by decide +kernel
theorem dX6_shining_24 : decode cX6_shining 24 = .ok (.iload_n 2, 1) := by decide +kernel
theorem dX6_shining_25 : decode cX6_shining 25 = .ok (.ishl, 1) := by decide +kernel
theorem dX6_shining_26 : decode cX6_shining 26 = .ok (.goto 4, 3) := by decide +kernel
theorem dX6_shining_29 : decode cX6_shining 29 = .ok (.iconst 0, 1) := by decide +kernel
theorem dX6_shining_30 : decode cX6_shining 30 = .ok (.ior, 1) := by decide +kernel
theorem dX6_shining_31 : decode cX6_shining 31 = .ok (.istore_n 1, 1) := by decide +kernel
theorem dX6_shining_32 : decode cX6_shining 32 = .ok (.iinc 2 1, 3) := by decide +kernel
theorem dX6_shining_35 : decode cX6_shining 35 = .ok (.goto (-31), 3) := by decide +kernel
theorem dX6_shining_38 : decode cX6_shining 38 = .ok (.iload_n 1, 1) := by decide +kernel
theorem dX6_shining_39 : decode cX6_shining 39 = .ok (.ireturn, 1) := by decide +kernel
theorem dX6_lives_0 : decode cX6_lives 0 = .ok (.iconst 0, 1) := by decide +kernel
theorem dX6_lives_1 : decode cX6_lives 1 = .ok (.istore_n 1, 1) := by decide +kernel
theorem dX6_lives_2 : decode cX6_lives 2 = .ok (.iconst 0, 1) := by decide +kernel
theorem dX6_lives_3 : decode cX6_lives 3 = .ok (.istore_n 2, 1) := by decide +kernel
theorem dX6_lives_4 : decode cX6_lives 4 = .ok (.iload_n 2, 1) := by decide +kernel
theorem dX6_lives_5 : decode cX6_lives 5 = .ok (.aload_n 0, 1) := by decide +kernel
theorem dX6_lives_6 : decode cX6_lives 6 = .ok (.getfield 9, 3) := by decide +kernel
theorem dX6_lives_9 : decode cX6_lives 9 = .ok (.iconst 1, 1) := by decide +kernel
theorem dX6_lives_10 : decode cX6_lives 10 = .ok (.iaload, 1) := by decide +kernel
theorem dX6_lives_11 : decode cX6_lives 11 = .ok (.if_icmp .ge 18, 3) := by decide +kernel
theorem dX6_lives_14 : decode cX6_lives 14 = .ok (.iload_n 1, 1) := by decide +kernel
theorem dX6_lives_15 : decode cX6_lives 15 = .ok (.aload_n 0, 1) := by decide +kernel
theorem dX6_lives_16 : decode cX6_lives 16 = .ok (.iload_n 2, 1) := by decide +kernel
theorem dX6_lives_17 : decode cX6_lives 17 = .ok (.iconst 2, 1) := by decide +kernel
theorem dX6_lives_18 : decode cX6_lives 18 = .ok (.invokevirtual 58, 3) := by decide +kernel
theorem dX6_lives_21 : decode cX6_lives 21 = .ok (.iadd, 1) := by decide +kernel
theorem dX6_lives_22 : decode cX6_lives 22 = .ok (.istore_n 1, 1) := by decide +kernel
theorem dX6_lives_23 : decode cX6_lives 23 = .ok (.iinc 2 1, 3) := by decide +kernel
theorem dX6_lives_26 : decode cX6_lives 26 = .ok (.goto (-22), 3) := by decide +kernel
theorem dX6_lives_29 : decode cX6_lives 29 = .ok (.iload_n 1, 1) := by decide +kernel
theorem dX6_lives_30 : decode cX6_lives 30 = .ok (.ireturn, 1) := by decide +kernel
theorem dX6_worthOf_0 : decode cX6_worthOf 0 = .ok (.iconst 0, 1) := by decide +kernel
theorem dX6_worthOf_1 : decode cX6_worthOf 1 = .ok (.istore_n 2, 1) := by decide +kernel
theorem dX6_worthOf_2 : decode cX6_worthOf 2 = .ok (.iconst 0, 1) := by decide +kernel
theorem dX6_worthOf_3 : decode cX6_worthOf 3 = .ok (.istore_n 3, 1) := by decide +kernel
theorem dX6_worthOf_4 : decode cX6_worthOf 4 = .ok (.iload_n 3, 1) := by decide +kernel
theorem dX6_worthOf_5 : decode cX6_worthOf 5 = .ok (.aload_n 0, 1) := by decide +kernel
theorem dX6_worthOf_6 : decode cX6_worthOf 6 = .ok (.getfield 9, 3) := by decide +kernel
theorem dX6_worthOf_9 : decode cX6_worthOf 9 = .ok (.iconst 1, 1) := by decide +kernel
theorem dX6_worthOf_10 : decode cX6_worthOf 10 = .ok (.iaload, 1) := by decide +kernel
theorem dX6_worthOf_11 : decode cX6_worthOf 11 = .ok (.if_icmp .ge 30, 3) := by decide +kernel
theorem dX6_worthOf_14 : decode cX6_worthOf 14 = .ok (.iload_n 2, 1) := by decide +kernel
theorem dX6_worthOf_15 : decode cX6_worthOf 15 = .ok (.iload_n 1, 1) := by decide +kernel
theorem dX6_worthOf_16 : decode cX6_worthOf 16 = .ok (.iload_n 3, 1) := by decide +kernel
theorem dX6_worthOf_17 : decode cX6_worthOf 17 = .ok (.invokestatic 70, 3) := by decide +kernel
theorem dX6_worthOf_20 : decode cX6_worthOf 20 = .ok (.ifCond .eq 12, 3) := by decide +kernel
theorem dX6_worthOf_23 : decode cX6_worthOf 23 = .ok (.aload_n 0, 1) := by decide +kernel
theorem dX6_worthOf_24 : decode cX6_worthOf 24 = .ok (.iload_n 3, 1) := by decide +kernel
theorem dX6_worthOf_25 : decode cX6_worthOf 25 = .ok (.iconst 3, 1) := by decide +kernel
theorem dX6_worthOf_26 : decode cX6_worthOf 26 = .ok (.invokevirtual 58, 3) := by decide +kernel
theorem dX6_worthOf_29 : decode cX6_worthOf 29 = .ok (.goto 4, 3) := by decide +kernel
theorem dX6_worthOf_32 : decode cX6_worthOf 32 = .ok (.iconst 0, 1) := by decide +kernel
theorem dX6_worthOf_33 : decode cX6_worthOf 33 = .ok (.iadd, 1) := by decide +kernel
theorem dX6_worthOf_34 : decode cX6_worthOf 34 = .ok (.istore_n 2, 1) := by decide +kernel
theorem dX6_worthOf_35 : decode cX6_worthOf 35 = .ok (.iinc 3 1, 3) := by decide +kernel
theorem dX6_worthOf_38 : decode cX6_worthOf 38 = .ok (.goto (-34), 3) := by decide +kernel
theorem dX6_worthOf_41 : decode cX6_worthOf 41 = .ok (.iload_n 2, 1) := by decide +kernel
theorem dX6_worthOf_42 : decode cX6_worthOf 42 = .ok (.ireturn, 1) := by decide +kernel
theorem dX6_night_0 : decode cX6_night 0 = .ok (.iconst 0, 1) := by decide +kernel
theorem dX6_night_1 : decode cX6_night 1 = .ok (.istore_n 1, 1) := by decide +kernel
theorem dX6_night_2 : decode cX6_night 2 = .ok (.iload_n 1, 1) := by decide +kernel
theorem dX6_night_3 : decode cX6_night 3 = .ok (.aload_n 0, 1) := by decide +kernel
theorem dX6_night_4 : decode cX6_night 4 = .ok (.getfield 9, 3) := by decide +kernel
theorem dX6_night_7 : decode cX6_night 7 = .ok (.iconst 1, 1) := by decide +kernel
theorem dX6_night_8 : decode cX6_night 8 = .ok (.iaload, 1) := by decide +kernel
theorem dX6_night_9 : decode cX6_night 9 = .ok (.if_icmp .ge 31, 3) := by decide +kernel
theorem dX6_night_12 : decode cX6_night 12 = .ok (.aload_n 0, 1) := by decide +kernel
theorem dX6_night_13 : decode cX6_night 13 = .ok (.iload_n 1, 1) := by decide +kernel
theorem dX6_night_14 : decode cX6_night 14 = .ok (.iconst 2, 1) := by decide +kernel
theorem dX6_night_15 : decode cX6_night 15 = .ok (.iconst 0, 1) := by decide +kernel
theorem dX6_night_16 : decode cX6_night 16 = .ok (.aload_n 0, 1) := by decide +kernel
theorem dX6_night_17 : decode cX6_night 17 = .ok (.iload_n 1, 1) := by decide +kernel
theorem dX6_night_18 : decode cX6_night 18 = .ok (.iconst 2, 1) := by decide +kernel
theorem dX6_night_19 : decode cX6_night 19 = .ok (.invokevirtual 58, 3) := by decide +kernel
theorem dX6_night_22 : decode cX6_night 22 = .ok (.aload_n 0, 1) := by decide +kernel
theorem dX6_night_23 : decode cX6_night 23 = .ok (.iload_n 1, 1) := by decide +kernel
theorem dX6_night_24 : decode cX6_night 24 = .ok (.invokevirtual 74, 3) := by decide +kernel
theorem dX6_night_27 : decode cX6_night 27 = .ok (.isub, 1) := by decide +kernel
theorem dX6_night_28 : decode cX6_night 28 = .ok (.invokestatic 77, 3) := by decide +kernel
theorem dX6_night_31 : decode cX6_night 31 = .ok (.invokevirtual 80, 3) := by decide +kernel
theorem dX6_night_34 : decode cX6_night 34 = .ok (.iinc 1 1, 3) := by decide +kernel
theorem dX6_night_37 : decode cX6_night 37 = .ok (.goto (-35), 3) := by decide +kernel
theorem dX6_night_40 : decode cX6_night 40 = .ok (.aload_n 0, 1) := by decide +kernel
theorem dX6_night_41 : decode cX6_night 41 = .ok (.getfield 9, 3) := by decide +kernel
theorem dX6_night_44 : decode cX6_night 44 = .ok (.iconst 0, 1) := by decide +kernel
theorem dX6_night_45 : decode cX6_night 45 = .ok (.ldc 84, 2) := by decide +kernel
theorem dX6_night_47 : decode cX6_night 47 = .ok (.aload_n 0, 1) := by decide +kernel
theorem dX6_night_48 : decode cX6_night 48 = .ok (.getfield 9, 3) := by decide +kernel
theorem dX6_night_51 : decode cX6_night 51 = .ok (.iconst 0, 1) := by decide +kernel
theorem dX6_night_52 : decode cX6_night 52 = .ok (.iaload, 1) := by decide +kernel
theorem dX6_night_53 : decode cX6_night 53 = .ok (.iconst 1, 1) := by decide +kernel
theorem dX6_night_54 : decode cX6_night 54 = .ok (.iadd, 1) := by decide +kernel
theorem dX6_night_55 : decode cX6_night 55 = .ok (.invokestatic 85, 3) := by decide +kernel
theorem dX6_night_58 : decode cX6_night 58 = .ok (.iastore, 1) := by decide +kernel
theorem dX6_night_59 : decode cX6_night 59 = .ok (.return_, 1) := by decide +kernel
theorem dX6_nights_0 : decode cX6_nights 0 = .ok (.iconst 0, 1) := by decide +kernel
theorem dX6_nights_1 : decode cX6_nights 1 = .ok (.istore_n 2, 1) := by decide +kernel
theorem dX6_nights_2 : decode cX6_nights 2 = .ok (.iload_n 2, 1) := by decide +kernel
theorem dX6_nights_3 : decode cX6_nights 3 = .ok (.iload_n 1, 1) := by decide +kernel
theorem dX6_nights_4 : decode cX6_nights 4 = .ok (.if_icmp .ge 13, 3) := by decide +kernel
theorem dX6_nights_7 : decode cX6_nights 7 = .ok (.aload_n 0, 1) := by decide +kernel
theorem dX6_nights_8 : decode cX6_nights 8 = .ok (.invokevirtual 88, 3) := by decide +kernel
theorem dX6_nights_11 : decode cX6_nights 11 = .ok (.iinc 2 1, 3) := by decide +kernel
theorem dX6_nights_14 : decode cX6_nights 14 = .ok (.goto (-12), 3) := by decide +kernel
theorem dX6_nights_17 : decode cX6_nights 17 = .ok (.return_, 1) := by decide +kernel
theorem dX6_addsStar_0 : decode cX6_addsStar 0 = .ok (.aload_n 0, 1) := by decide +kernel
theorem dX6_addsStar_1 : decode cX6_addsStar 1 = .ok (.getfield 9, 3) := by decide +kernel
theorem dX6_addsStar_4 : decode cX6_addsStar 4 = .ok (.iconst 1, 1) := by decide +kernel
theorem dX6_addsStar_5 : decode cX6_addsStar 5 = .ok (.iaload, 1) := by decide +kernel
theorem dX6_addsStar_6 : decode cX6_addsStar 6 = .ok (.istore_n 3, 1) := by decide +kernel
theorem dX6_addsStar_7 : decode cX6_addsStar 7 = .ok (.aload_n 0, 1) := by decide +kernel
theorem dX6_addsStar_8 : decode cX6_addsStar 8 = .ok (.iload_n 3, 1) := by decide +kernel
theorem dX6_addsStar_9 : decode cX6_addsStar 9 = .ok (.iconst 0, 1) := by decide +kernel
theorem dX6_addsStar_10 : decode cX6_addsStar 10 = .ok (.iload_n 1, 1) := by decide +kernel
theorem dX6_addsStar_11 : decode cX6_addsStar 11 = .ok (.invokevirtual 80, 3) := by decide +kernel
theorem dX6_addsStar_14 : decode cX6_addsStar 14 = .ok (.aload_n 0, 1) := by decide +kernel
theorem dX6_addsStar_15 : decode cX6_addsStar 15 = .ok (.iload_n 3, 1) := by decide +kernel
theorem dX6_addsStar_16 : decode cX6_addsStar 16 = .ok (.iconst 1, 1) := by decide +kernel
theorem dX6_addsStar_17 : decode cX6_addsStar 17 = .ok (.iload_n 2, 1) := by decide +kernel
theorem dX6_addsStar_18 : decode cX6_addsStar 18 = .ok (.invokevirtual 80, 3) := by decide +kernel
theorem dX6_addsStar_21 : decode cX6_addsStar 21 = .ok (.aload_n 0, 1) := by decide +kernel
theorem dX6_addsStar_22 : decode cX6_addsStar 22 = .ok (.iload_n 3, 1) := by decide +kernel
theorem dX6_addsStar_23 : decode cX6_addsStar 23 = .ok (.iconst 2, 1) := by decide +kernel
theorem dX6_addsStar_24 : decode cX6_addsStar 24 = .ok (.bipush 50, 2) := by decide +kernel
theorem dX6_addsStar_26 : decode cX6_addsStar 26 = .ok (.invokevirtual 80, 3) := by decide +kernel
theorem dX6_addsStar_29 : decode cX6_addsStar 29 = .ok (.aload_n 0, 1) := by decide +kernel
theorem dX6_addsStar_30 : decode cX6_addsStar 30 = .ok (.iload_n 3, 1) := by decide +kernel
theorem dX6_addsStar_31 : decode cX6_addsStar 31 = .ok (.iconst 3, 1) := by decide +kernel
theorem dX6_addsStar_32 : decode cX6_addsStar 32 = .ok (.iconst 1, 1) := by decide +kernel
theorem dX6_addsStar_33 : decode cX6_addsStar 33 = .ok (.invokevirtual 80, 3) := by decide +kernel
theorem dX6_addsStar_36 : decode cX6_addsStar 36 = .ok (.aload_n 0, 1) := by decide +kernel
theorem dX6_addsStar_37 : decode cX6_addsStar 37 = .ok (.getfield 9, 3) := by decide +kernel
theorem dX6_addsStar_40 : decode cX6_addsStar 40 = .ok (.iconst 1, 1) := by decide +kernel
theorem dX6_addsStar_41 : decode cX6_addsStar 41 = .ok (.dup2, 1) := by decide +kernel
theorem dX6_addsStar_42 : decode cX6_addsStar 42 = .ok (.iaload, 1) := by decide +kernel
theorem dX6_addsStar_43 : decode cX6_addsStar 43 = .ok (.iconst 1, 1) := by decide +kernel
theorem dX6_addsStar_44 : decode cX6_addsStar 44 = .ok (.iadd, 1) := by decide +kernel
theorem dX6_addsStar_45 : decode cX6_addsStar 45 = .ok (.iastore, 1) := by decide +kernel
theorem dX6_addsStar_46 : decode cX6_addsStar 46 = .ok (.return_, 1) := by decide +kernel
theorem dX6_star_0 : decode cX6_star 0 = .ok (.iload_n 1, 1) := by decide +kernel
theorem dX6_star_1 : decode cX6_star 1 = .ok (.iconst 0, 1) := by decide +kernel
theorem dX6_star_2 : decode cX6_star 2 = .ok (.bipush 6, 2) := by decide +kernel
theorem dX6_star_4 : decode cX6_star 4 = .ok (.invokestatic 54, 3) := by decide +kernel
theorem dX6_star_7 : decode cX6_star 7 = .ok (.ifCond .eq 10, 3) := by decide +kernel
theorem dX6_star_10 : decode cX6_star 10 = .ok (.iload_n 2, 1) := by decide +kernel
theorem dX6_star_11 : decode cX6_star 11 = .ok (.invokestatic 91, 3) := by decide +kernel
theorem dX6_star_14 : decode cX6_star 14 = .ok (.ifCond .ne 9, 3) := by decide +kernel
theorem dX6_star_17 : decode cX6_star 17 = .ok (.aload_n 0, 1) := by decide +kernel
theorem dX6_star_18 : decode cX6_star 18 = .ok (.iconst 0, 1) := by decide +kernel
theorem dX6_star_19 : decode cX6_star 19 = .ok (.invokevirtual 94, 3) := by decide +kernel
theorem dX6_star_22 : decode cX6_star 22 = .ok (.ireturn, 1) := by decide +kernel
theorem dX6_star_23 : decode cX6_star 23 = .ok (.aload_n 0, 1) := by decide +kernel
theorem dX6_star_24 : decode cX6_star 24 = .ok (.getfield 9, 3) := by decide +kernel
theorem dX6_star_27 : decode cX6_star 27 = .ok (.iconst 1, 1) := by decide +kernel
theorem dX6_star_28 : decode cX6_star 28 = .ok (.iaload, 1) := by decide +kernel
theorem dX6_star_29 : decode cX6_star 29 = .ok (.bipush 10, 2) := by decide +kernel
theorem dX6_star_31 : decode cX6_star 31 = .ok (.if_icmp .ne 9, 3) := by decide +kernel
theorem dX6_star_34 : decode cX6_star 34 = .ok (.aload_n 0, 1) := by decide +kernel
theorem dX6_star_35 : decode cX6_star 35 = .ok (.iconst 1, 1) := by decide +kernel
theorem dX6_star_36 : decode cX6_star 36 = .ok (.invokevirtual 94, 3) := by decide +kernel
theorem dX6_star_39 : decode cX6_star 39 = .ok (.ireturn, 1) := by decide +kernel
theorem dX6_star_40 : decode cX6_star 40 = .ok (.aload_n 0, 1) := by decide +kernel
theorem dX6_star_41 : decode cX6_star 41 = .ok (.iload_n 1, 1) := by decide +kernel
theorem dX6_star_42 : decode cX6_star 42 = .ok (.iload_n 2, 1) := by decide +kernel
theorem dX6_star_43 : decode cX6_star 43 = .ok (.invokevirtual 97, 3) := by decide +kernel
theorem dX6_star_46 : decode cX6_star 46 = .ok (.aload_n 0, 1) := by decide +kernel
theorem dX6_star_47 : decode cX6_star 47 = .ok (.getfield 9, 3) := by decide +kernel
theorem dX6_star_50 : decode cX6_star 50 = .ok (.iconst 1, 1) := by decide +kernel
theorem dX6_star_51 : decode cX6_star 51 = .ok (.iaload, 1) := by decide +kernel
theorem dX6_star_52 : decode cX6_star 52 = .ok (.iconst 1, 1) := by decide +kernel
theorem dX6_star_53 : decode cX6_star 53 = .ok (.isub, 1) := by decide +kernel
theorem dX6_star_54 : decode cX6_star 54 = .ok (.ireturn, 1) := by decide +kernel
theorem dX6_of_0 : decode cX6_of 0 = .ok (.aload_n 0, 1) := by decide +kernel
theorem dX6_of_1 : decode cX6_of 1 = .ok (.iload_n 1, 1) := by decide +kernel
theorem dX6_of_2 : decode cX6_of 2 = .ok (.invokevirtual 101, 3) := by decide +kernel
theorem dX6_of_5 : decode cX6_of 5 = .ok (.ifCond .eq 13, 3) := by decide +kernel
theorem dX6_of_8 : decode cX6_of 8 = .ok (.iload_n 2, 1) := by decide +kernel
theorem dX6_of_9 : decode cX6_of 9 = .ok (.iconst 0, 1) := by decide +kernel
theorem dX6_of_10 : decode cX6_of 10 = .ok (.bipush 6, 2) := by decide +kernel
theorem dX6_of_12 : decode cX6_of 12 = .ok (.invokestatic 54, 3) := by decide +kernel
theorem dX6_of_15 : decode cX6_of 15 = .ok (.ifCond .ne 9, 3) := by decide +kernel
theorem dX6_of_18 : decode cX6_of 18 = .ok (.aload_n 0, 1) := by decide +kernel
theorem dX6_of_19 : decode cX6_of 19 = .ok (.iconst 0, 1) := by decide +kernel
theorem dX6_of_20 : decode cX6_of 20 = .ok (.invokevirtual 94, 3) := by decide +kernel
theorem dX6_of_23 : decode cX6_of 23 = .ok (.ireturn, 1) := by decide +kernel
theorem dX6_of_24 : decode cX6_of 24 = .ok (.iload_n 2, 1) := by decide +kernel
theorem dX6_of_25 : decode cX6_of 25 = .ok (.iconst 4, 1) := by decide +kernel
theorem dX6_of_26 : decode cX6_of 26 = .ok (.if_icmp .ge 12, 3) := by decide +kernel
theorem dX6_of_29 : decode cX6_of 29 = .ok (.aload_n 0, 1) := by decide +kernel
theorem dX6_of_30 : decode cX6_of 30 = .ok (.iload_n 1, 1) := by decide +kernel
theorem dX6_of_31 : decode cX6_of 31 = .ok (.iload_n 2, 1) := by decide +kernel
theorem dX6_of_32 : decode cX6_of 32 = .ok (.invokevirtual 58, 3) := by decide +kernel
theorem dX6_of_35 : decode cX6_of 35 = .ok (.goto 42, 3) := by decide +kernel
theorem dX6_of_38 : decode cX6_of 38 = .ok (.iload_n 2, 1) := by decide +kernel
theorem dX6_of_39 : decode cX6_of 39 = .ok (.iconst 4, 1) := by decide +kernel
theorem dX6_of_40 : decode cX6_of 40 = .ok (.if_icmp .ne 11, 3) := by decide +kernel
theorem dX6_of_43 : decode cX6_of 43 = .ok (.aload_n 0, 1) := by decide +kernel
theorem dX6_of_44 : decode cX6_of 44 = .ok (.iload_n 1, 1) := by decide +kernel
theorem dX6_of_45 : decode cX6_of 45 = .ok (.invokevirtual 74, 3) := by decide +kernel
theorem dX6_of_48 : decode cX6_of 48 = .ok (.goto 29, 3) := by decide +kernel
theorem dX6_of_51 : decode cX6_of 51 = .ok (.iload_n 2, 1) := by decide +kernel
theorem dX6_of_52 : decode cX6_of 52 = .ok (.iconst 5, 1) := by decide +kernel
theorem dX6_of_53 : decode cX6_of 53 = .ok (.if_icmp .ne 11, 3) := by decide +kernel
theorem dX6_of_56 : decode cX6_of 56 = .ok (.aload_n 0, 1) := by decide +kernel
theorem dX6_of_57 : decode cX6_of 57 = .ok (.iload_n 1, 1) := by decide +kernel
theorem dX6_of_58 : decode cX6_of 58 = .ok (.invokevirtual 62, 3) := by decide +kernel
theorem dX6_of_61 : decode cX6_of 61 = .ok (.goto 16, 3) := by decide +kernel
theorem dX6_of_64 : decode cX6_of 64 = .ok (.aload_n 0, 1) := by decide +kernel
theorem dX6_of_65 : decode cX6_of 65 = .ok (.iload_n 1, 1) := by decide +kernel
theorem dX6_of_66 : decode cX6_of 66 = .ok (.invokevirtual 66, 3) := by decide +kernel
theorem dX6_of_69 : decode cX6_of 69 = .ok (.ifCond .eq 7, 3) := by decide +kernel
theorem dX6_of_72 : decode cX6_of 72 = .ok (.iconst 1, 1) := by decide +kernel
theorem dX6_of_73 : decode cX6_of 73 = .ok (.goto 4, 3) := by decide +kernel
theorem dX6_of_76 : decode cX6_of 76 = .ok (.iconst 0, 1) := by decide +kernel
theorem dX6_of_77 : decode cX6_of 77 = .ok (.ireturn, 1) := by decide +kernel
theorem dX6_change_0 : decode cX6_change 0 = .ok (.aload_n 0, 1) := by decide +kernel
theorem dX6_change_1 : decode cX6_change 1 = .ok (.iload_n 1, 1) := by decide +kernel
theorem dX6_change_2 : decode cX6_change 2 = .ok (.invokevirtual 101, 3) := by decide +kernel
theorem dX6_change_5 : decode cX6_change 5 = .ok (.ifCond .eq 31, 3) := by decide +kernel
theorem dX6_change_8 : decode cX6_change 8 = .ok (.iload_n 2, 1) := by decide +kernel
theorem dX6_change_9 : decode cX6_change 9 = .ok (.iconst 0, 1) := by decide +kernel
theorem dX6_change_10 : decode cX6_change 10 = .ok (.iconst 3, 1) := by decide +kernel
theorem dX6_change_11 : decode cX6_change 11 = .ok (.invokestatic 54, 3) := by decide +kernel
theorem dX6_change_14 : decode cX6_change 14 = .ok (.ifCond .eq 22, 3) := by decide +kernel
theorem dX6_change_17 : decode cX6_change 17 = .ok (.iload_n 3, 1) := by decide +kernel
theorem dX6_change_18 : decode cX6_change 18 = .ok (.iconst 0, 1) := by decide +kernel
theorem dX6_change_19 : decode cX6_change 19 = .ok (.iload_n 2, 1) := by decide +kernel
theorem dX6_change_20 : decode cX6_change 20 = .ok (.ifCond .ne 8, 3) := by decide +kernel
theorem dX6_change_23 : decode cX6_change 23 = .ok (.bipush 6, 2) := by decide +kernel
theorem dX6_change_25 : decode cX6_change 25 = .ok (.goto 5, 3) := by decide +kernel
theorem dX6_change_28 : decode cX6_change 28 = .ok (.bipush 99, 2) := by decide +kernel
theorem dX6_change_30 : decode cX6_change 30 = .ok (.invokestatic 54, 3) := by decide +kernel
theorem dX6_change_33 : decode cX6_change 33 = .ok (.ifCond .ne 9, 3) := by decide +kernel
theorem dX6_change_36 : decode cX6_change 36 = .ok (.aload_n 0, 1) := by decide +kernel
theorem dX6_change_37 : decode cX6_change 37 = .ok (.iconst 0, 1) := by decide +kernel
theorem dX6_change_38 : decode cX6_change 38 = .ok (.invokevirtual 94, 3) := by decide +kernel
theorem dX6_change_41 : decode cX6_change 41 = .ok (.ireturn, 1) := by decide +kernel
theorem dX6_change_42 : decode cX6_change 42 = .ok (.aload_n 0, 1) := by decide +kernel
theorem dX6_change_43 : decode cX6_change 43 = .ok (.iload_n 1, 1) := by decide +kernel
theorem dX6_change_44 : decode cX6_change 44 = .ok (.iload_n 2, 1) := by decide +kernel
theorem dX6_change_45 : decode cX6_change 45 = .ok (.invokevirtual 58, 3) := by decide +kernel
theorem dX6_change_48 : decode cX6_change 48 = .ok (.istore 4, 2) := by decide +kernel
theorem dX6_change_50 : decode cX6_change 50 = .ok (.aload_n 0, 1) := by decide +kernel
theorem dX6_change_51 : decode cX6_change 51 = .ok (.iload_n 1, 1) := by decide +kernel
theorem dX6_change_52 : decode cX6_change 52 = .ok (.iload_n 2, 1) := by decide +kernel
theorem dX6_change_53 : decode cX6_change 53 = .ok (.iload_n 3, 1) := by decide +kernel
theorem dX6_change_54 : decode cX6_change 54 = .ok (.invokevirtual 80, 3) := by decide +kernel
theorem dX6_change_57 : decode cX6_change 57 = .ok (.iload 4, 2) := by decide +kernel
theorem dX6_change_59 : decode cX6_change 59 = .ok (.ireturn, 1) := by decide +kernel
theorem dX6_crew_0 : decode cX6_crew 0 = .ok (.iload_n 1, 1) := by decide +kernel
theorem dX6_crew_1 : decode cX6_crew 1 = .ok (.invokestatic 104, 3) := by decide +kernel
theorem dX6_crew_4 : decode cX6_crew 4 = .ok (.ifCond .eq 32, 3) := by decide +kernel
theorem dX6_crew_7 : decode cX6_crew 7 = .ok (.iload_n 2, 1) := by decide +kernel
theorem dX6_crew_8 : decode cX6_crew 8 = .ok (.iconst 0, 1) := by decide +kernel
theorem dX6_crew_9 : decode cX6_crew 9 = .ok (.iconst 1, 1) := by decide +kernel
theorem dX6_crew_10 : decode cX6_crew 10 = .ok (.invokestatic 54, 3) := by decide +kernel
theorem dX6_crew_13 : decode cX6_crew 13 = .ok (.ifCond .eq 23, 3) := by decide +kernel
theorem dX6_crew_16 : decode cX6_crew 16 = .ok (.iload_n 3, 1) := by decide +kernel
theorem dX6_crew_17 : decode cX6_crew 17 = .ok (.iconst 0, 1) := by decide +kernel
theorem dX6_crew_18 : decode cX6_crew 18 = .ok (.iload_n 2, 1) := by decide +kernel
theorem dX6_crew_19 : decode cX6_crew 19 = .ok (.ifCond .ne 8, 3) := by decide +kernel
theorem dX6_crew_22 : decode cX6_crew 22 = .ok (.bipush 99, 2) := by decide +kernel
theorem dX6_crew_24 : decode cX6_crew 24 = .ok (.goto 6, 3) := by decide +kernel
theorem dX6_crew_27 : decode cX6_crew 27 = .ok (.sipush 999, 3) := by decide +kernel
theorem dX6_crew_30 : decode cX6_crew 30 = .ok (.invokestatic 54, 3) := by decide +kernel
theorem dX6_crew_33 : decode cX6_crew 33 = .ok (.ifCond .ne 9, 3) := by decide +kernel
theorem dX6_crew_36 : decode cX6_crew 36 = .ok (.aload_n 0, 1) := by decide +kernel
theorem dX6_crew_37 : decode cX6_crew 37 = .ok (.iconst 0, 1) := by decide +kernel
theorem dX6_crew_38 : decode cX6_crew 38 = .ok (.invokevirtual 94, 3) := by decide +kernel
theorem dX6_crew_41 : decode cX6_crew 41 = .ok (.ireturn, 1) := by decide +kernel
theorem dX6_crew_42 : decode cX6_crew 42 = .ok (.aload_n 0, 1) := by decide +kernel
theorem dX6_crew_43 : decode cX6_crew 43 = .ok (.getfield 9, 3) := by decide +kernel
theorem dX6_crew_46 : decode cX6_crew 46 = .ok (.bipush 8, 2) := by decide +kernel
theorem dX6_crew_48 : decode cX6_crew 48 = .ok (.iconst 2, 1) := by decide +kernel
theorem dX6_crew_49 : decode cX6_crew 49 = .ok (.iload_n 1, 1) := by decide +kernel
theorem dX6_crew_50 : decode cX6_crew 50 = .ok (.imul, 1) := by decide +kernel
theorem dX6_crew_51 : decode cX6_crew 51 = .ok (.iadd, 1) := by decide +kernel
theorem dX6_crew_52 : decode cX6_crew 52 = .ok (.iload_n 2, 1) := by decide +kernel
theorem dX6_crew_53 : decode cX6_crew 53 = .ok (.iadd, 1) := by decide +kernel
theorem dX6_crew_54 : decode cX6_crew 54 = .ok (.iaload, 1) := by decide +kernel
theorem dX6_crew_55 : decode cX6_crew 55 = .ok (.istore 4, 2) := by decide +kernel
theorem dX6_crew_57 : decode cX6_crew 57 = .ok (.aload_n 0, 1) := by decide +kernel
theorem dX6_crew_58 : decode cX6_crew 58 = .ok (.getfield 9, 3) := by decide +kernel
theorem dX6_crew_61 : decode cX6_crew 61 = .ok (.bipush 8, 2) := by decide +kernel
theorem dX6_crew_63 : decode cX6_crew 63 = .ok (.iconst 2, 1) := by decide +kernel
theorem dX6_crew_64 : decode cX6_crew 64 = .ok (.iload_n 1, 1) := by decide +kernel
theorem dX6_crew_65 : decode cX6_crew 65 = .ok (.imul, 1) := by decide +kernel
theorem dX6_crew_66 : decode cX6_crew 66 = .ok (.iadd, 1) := by decide +kernel
theorem dX6_crew_67 : decode cX6_crew 67 = .ok (.iload_n 2, 1) := by decide +kernel
theorem dX6_crew_68 : decode cX6_crew 68 = .ok (.iadd, 1) := by decide +kernel
theorem dX6_crew_69 : decode cX6_crew 69 = .ok (.iload_n 3, 1) := by decide +kernel
theorem dX6_crew_70 : decode cX6_crew 70 = .ok (.iastore, 1) := by decide +kernel
theorem dX6_crew_71 : decode cX6_crew 71 = .ok (.iload 4, 2) := by decide +kernel
theorem dX6_crew_73 : decode cX6_crew 73 = .ok (.ireturn, 1) := by decide +kernel
theorem dX6_crewOf_0 : decode cX6_crewOf 0 = .ok (.iload_n 1, 1) := by decide +kernel
theorem dX6_crewOf_1 : decode cX6_crewOf 1 = .ok (.invokestatic 104, 3) := by decide +kernel
theorem dX6_crewOf_4 : decode cX6_crewOf 4 = .ok (.ifCond .eq 28, 3) := by decide +kernel
theorem dX6_crewOf_7 : decode cX6_crewOf 7 = .ok (.iload_n 2, 1) := by decide +kernel
theorem dX6_crewOf_8 : decode cX6_crewOf 8 = .ok (.iconst 0, 1) := by decide +kernel
theorem dX6_crewOf_9 : decode cX6_crewOf 9 = .ok (.iconst 1, 1) := by decide +kernel
theorem dX6_crewOf_10 : decode cX6_crewOf 10 = .ok (.invokestatic 54, 3) := by decide +kernel
theorem dX6_crewOf_13 : decode cX6_crewOf 13 = .ok (.ifCond .eq 19, 3) := by decide +kernel
theorem dX6_crewOf_16 : decode cX6_crewOf 16 = .ok (.aload_n 0, 1) := by decide +kernel
theorem dX6_crewOf_17 : decode cX6_crewOf 17 = .ok (.getfield 9, 3) := by decide +kernel
theorem dX6_crewOf_20 : decode cX6_crewOf 20 = .ok (.bipush 8, 2) := by decide +kernel
theorem dX6_crewOf_22 : decode cX6_crewOf 22 = .ok (.iconst 2, 1) := by decide +kernel
theorem dX6_crewOf_23 : decode cX6_crewOf 23 = .ok (.iload_n 1, 1) := by decide +kernel
theorem dX6_crewOf_24 : decode cX6_crewOf 24 = .ok (.imul, 1) := by decide +kernel
theorem dX6_crewOf_25 : decode cX6_crewOf 25 = .ok (.iadd, 1) := by decide +kernel
theorem dX6_crewOf_26 : decode cX6_crewOf 26 = .ok (.iload_n 2, 1) := by decide +kernel
theorem dX6_crewOf_27 : decode cX6_crewOf 27 = .ok (.iadd, 1) := by decide +kernel
theorem dX6_crewOf_28 : decode cX6_crewOf 28 = .ok (.iaload, 1) := by decide +kernel
theorem dX6_crewOf_29 : decode cX6_crewOf 29 = .ok (.goto 8, 3) := by decide +kernel
theorem dX6_crewOf_32 : decode cX6_crewOf 32 = .ok (.aload_n 0, 1) := by decide +kernel
theorem dX6_crewOf_33 : decode cX6_crewOf 33 = .ok (.iconst 0, 1) := by decide +kernel
theorem dX6_crewOf_34 : decode cX6_crewOf 34 = .ok (.invokevirtual 94, 3) := by decide +kernel
theorem dX6_crewOf_37 : decode cX6_crewOf 37 = .ok (.ireturn, 1) := by decide +kernel
theorem dX6_greatest_0 : decode cX6_greatest 0 = .ok (.iload_n 0, 1) := by decide +kernel
theorem dX6_greatest_1 : decode cX6_greatest 1 = .ok (.iconst 2, 1) := by decide +kernel
theorem dX6_greatest_2 : decode cX6_greatest 2 = .ok (.if_icmp .ge 8, 3) := by decide +kernel
theorem dX6_greatest_5 : decode cX6_greatest 5 = .ok (.bipush 9, 2) := by decide +kernel
theorem dX6_greatest_7 : decode cX6_greatest 7 = .ok (.goto 16, 3) := by decide +kernel
theorem dX6_greatest_10 : decode cX6_greatest 10 = .ok (.iload_n 0, 1) := by decide +kernel
theorem dX6_greatest_11 : decode cX6_greatest 11 = .ok (.iconst 2, 1) := by decide +kernel
theorem dX6_greatest_12 : decode cX6_greatest 12 = .ok (.if_icmp .ne 8, 3) := by decide +kernel
theorem dX6_greatest_15 : decode cX6_greatest 15 = .ok (.bipush 99, 2) := by decide +kernel
theorem dX6_greatest_17 : decode cX6_greatest 17 = .ok (.goto 6, 3) := by decide +kernel
theorem dX6_greatest_20 : decode cX6_greatest 20 = .ok (.sipush 9999, 3) := by decide +kernel
theorem dX6_greatest_23 : decode cX6_greatest 23 = .ok (.ireturn, 1) := by decide +kernel
theorem dX6_set_0 : decode cX6_set 0 = .ok (.iload_n 1, 1) := by decide +kernel
theorem dX6_set_1 : decode cX6_set 1 = .ok (.iconst 0, 1) := by decide +kernel
theorem dX6_set_2 : decode cX6_set 2 = .ok (.iconst 3, 1) := by decide +kernel
theorem dX6_set_3 : decode cX6_set 3 = .ok (.invokestatic 54, 3) := by decide +kernel
theorem dX6_set_6 : decode cX6_set 6 = .ok (.ifCond .eq 15, 3) := by decide +kernel
theorem dX6_set_9 : decode cX6_set 9 = .ok (.iload_n 2, 1) := by decide +kernel
theorem dX6_set_10 : decode cX6_set 10 = .ok (.iconst 0, 1) := by decide +kernel
theorem dX6_set_11 : decode cX6_set 11 = .ok (.iload_n 1, 1) := by decide +kernel
theorem dX6_set_12 : decode cX6_set 12 = .ok (.invokestatic 107, 3) := by decide +kernel
theorem dX6_set_15 : decode cX6_set 15 = .ok (.invokestatic 54, 3) := by decide +kernel
theorem dX6_set_18 : decode cX6_set 18 = .ok (.ifCond .ne 9, 3) := by decide +kernel
theorem dX6_set_21 : decode cX6_set 21 = .ok (.aload_n 0, 1) := by decide +kernel
theorem dX6_set_22 : decode cX6_set 22 = .ok (.iconst 0, 1) := by decide +kernel
theorem dX6_set_23 : decode cX6_set 23 = .ok (.invokevirtual 94, 3) := by decide +kernel
theorem dX6_set_26 : decode cX6_set 26 = .ok (.ireturn, 1) := by decide +kernel
theorem dX6_set_27 : decode cX6_set 27 = .ok (.aload_n 0, 1) := by decide +kernel
theorem dX6_set_28 : decode cX6_set 28 = .ok (.getfield 9, 3) := by decide +kernel
theorem dX6_set_31 : decode cX6_set 31 = .ok (.iconst 4, 1) := by decide +kernel
theorem dX6_set_32 : decode cX6_set 32 = .ok (.iload_n 1, 1) := by decide +kernel
theorem dX6_set_33 : decode cX6_set 33 = .ok (.iadd, 1) := by decide +kernel
theorem dX6_set_34 : decode cX6_set 34 = .ok (.iaload, 1) := by decide +kernel
theorem dX6_set_35 : decode cX6_set 35 = .ok (.istore_n 3, 1) := by decide +kernel
theorem dX6_set_36 : decode cX6_set 36 = .ok (.aload_n 0, 1) := by decide +kernel
theorem dX6_set_37 : decode cX6_set 37 = .ok (.getfield 9, 3) := by decide +kernel
theorem dX6_set_40 : decode cX6_set 40 = .ok (.iconst 4, 1) := by decide +kernel
theorem dX6_set_41 : decode cX6_set 41 = .ok (.iload_n 1, 1) := by decide +kernel
theorem dX6_set_42 : decode cX6_set 42 = .ok (.iadd, 1) := by decide +kernel
theorem dX6_set_43 : decode cX6_set 43 = .ok (.iload_n 2, 1) := by decide +kernel
theorem dX6_set_44 : decode cX6_set 44 = .ok (.iastore, 1) := by decide +kernel
theorem dX6_set_45 : decode cX6_set 45 = .ok (.iload_n 3, 1) := by decide +kernel
theorem dX6_set_46 : decode cX6_set 46 = .ok (.ireturn, 1) := by decide +kernel
theorem dX6_apartOf_0 : decode cX6_apartOf 0 = .ok (.iload_n 0, 1) := by decide +kernel
theorem dX6_apartOf_1 : decode cX6_apartOf 1 = .ok (.iload_n 1, 1) := by decide +kernel
theorem dX6_apartOf_2 : decode cX6_apartOf 2 = .ok (.isub, 1) := by decide +kernel
theorem dX6_apartOf_3 : decode cX6_apartOf 3 = .ok (.bipush 100, 2) := by decide +kernel
theorem dX6_apartOf_5 : decode cX6_apartOf 5 = .ok (.iadd, 1) := by decide +kernel
theorem dX6_apartOf_6 : decode cX6_apartOf 6 = .ok (.bipush 100, 2) := by decide +kernel
theorem dX6_apartOf_8 : decode cX6_apartOf 8 = .ok (.irem, 1) := by decide +kernel
theorem dX6_apartOf_9 : decode cX6_apartOf 9 = .ok (.istore_n 2, 1) := by decide +kernel
theorem dX6_apartOf_10 : decode cX6_apartOf 10 = .ok (.iload_n 2, 1) := by decide +kernel
theorem dX6_apartOf_11 : decode cX6_apartOf 11 = .ok (.bipush 100, 2) := by decide +kernel
theorem dX6_apartOf_13 : decode cX6_apartOf 13 = .ok (.iload_n 2, 1) := by decide +kernel
theorem dX6_apartOf_14 : decode cX6_apartOf 14 = .ok (.isub, 1) := by decide +kernel
theorem dX6_apartOf_15 : decode cX6_apartOf 15 = .ok (.invokestatic 85, 3) := by decide +kernel
theorem dX6_apartOf_18 : decode cX6_apartOf 18 = .ok (.ireturn, 1) := by decide +kernel
theorem dX6_apart_0 : decode cX6_apart 0 = .ok (.iload_n 1, 1) := by decide +kernel
theorem dX6_apart_1 : decode cX6_apart 1 = .ok (.invokestatic 91, 3) := by decide +kernel
theorem dX6_apart_4 : decode cX6_apart 4 = .ok (.ifCond .eq 18, 3) := by decide +kernel
theorem dX6_apart_7 : decode cX6_apart 7 = .ok (.iload_n 2, 1) := by decide +kernel
theorem dX6_apart_8 : decode cX6_apart 8 = .ok (.invokestatic 91, 3) := by decide +kernel
theorem dX6_apart_11 : decode cX6_apart 11 = .ok (.ifCond .eq 11, 3) := by decide +kernel
theorem dX6_apart_14 : decode cX6_apart 14 = .ok (.iload_n 1, 1) := by decide +kernel
theorem dX6_apart_15 : decode cX6_apart 15 = .ok (.iload_n 2, 1) := by decide +kernel
theorem dX6_apart_16 : decode cX6_apart 16 = .ok (.invokestatic 110, 3) := by decide +kernel
theorem dX6_apart_19 : decode cX6_apart 19 = .ok (.goto 8, 3) := by decide +kernel
theorem dX6_apart_22 : decode cX6_apart 22 = .ok (.aload_n 0, 1) := by decide +kernel
theorem dX6_apart_23 : decode cX6_apart 23 = .ok (.iconst 0, 1) := by decide +kernel
theorem dX6_apart_24 : decode cX6_apart 24 = .ok (.invokevirtual 94, 3) := by decide +kernel
theorem dX6_apart_27 : decode cX6_apart 27 = .ok (.ireturn, 1) := by decide +kernel
theorem dX6_go_0 : decode cX6_go 0 = .ok (.iload_n 1, 1) := by decide +kernel
theorem dX6_go_1 : decode cX6_go 1 = .ok (.iconst 1, 1) := by decide +kernel
theorem dX6_go_2 : decode cX6_go 2 = .ok (.bipush 60, 2) := by decide +kernel
theorem dX6_go_4 : decode cX6_go 4 = .ok (.invokestatic 54, 3) := by decide +kernel
theorem dX6_go_7 : decode cX6_go 7 = .ok (.ifCond .ne 9, 3) := by decide +kernel
theorem dX6_go_10 : decode cX6_go 10 = .ok (.aload_n 0, 1) := by decide +kernel
theorem dX6_go_11 : decode cX6_go 11 = .ok (.iconst 0, 1) := by decide +kernel
theorem dX6_go_12 : decode cX6_go 12 = .ok (.invokevirtual 94, 3) := by decide +kernel
theorem dX6_go_15 : decode cX6_go 15 = .ok (.ireturn, 1) := by decide +kernel
theorem dX6_go_16 : decode cX6_go 16 = .ok (.aload_n 0, 1) := by decide +kernel
theorem dX6_go_17 : decode cX6_go 17 = .ok (.getfield 9, 3) := by decide +kernel
theorem dX6_go_20 : decode cX6_go 20 = .ok (.iconst 0, 1) := by decide +kernel
theorem dX6_go_21 : decode cX6_go 21 = .ok (.iaload, 1) := by decide +kernel
theorem dX6_go_22 : decode cX6_go 22 = .ok (.iload_n 1, 1) := by decide +kernel
theorem dX6_go_23 : decode cX6_go 23 = .ok (.iadd, 1) := by decide +kernel
theorem dX6_go_24 : decode cX6_go 24 = .ok (.ldc 84, 2) := by decide +kernel
theorem dX6_go_26 : decode cX6_go 26 = .ok (.if_icmp .le 9, 3) := by decide +kernel
theorem dX6_go_29 : decode cX6_go 29 = .ok (.aload_n 0, 1) := by decide +kernel
theorem dX6_go_30 : decode cX6_go 30 = .ok (.iconst 4, 1) := by decide +kernel
theorem dX6_go_31 : decode cX6_go 31 = .ok (.invokevirtual 94, 3) := by decide +kernel
theorem dX6_go_34 : decode cX6_go 34 = .ok (.ireturn, 1) := by decide +kernel
theorem dX6_go_35 : decode cX6_go 35 = .ok (.aload_n 0, 1) := by decide +kernel
theorem dX6_go_36 : decode cX6_go 36 = .ok (.iload_n 1, 1) := by decide +kernel
theorem dX6_go_37 : decode cX6_go 37 = .ok (.invokevirtual 113, 3) := by decide +kernel
theorem dX6_go_40 : decode cX6_go 40 = .ok (.aload_n 0, 1) := by decide +kernel
theorem dX6_go_41 : decode cX6_go 41 = .ok (.invokevirtual 117, 3) := by decide +kernel
theorem dX6_go_44 : decode cX6_go 44 = .ok (.invokestatic 121, 3) := by decide +kernel
theorem dX6_go_47 : decode cX6_go 47 = .ok (.ireturn, 1) := by decide +kernel
theorem dX6_now_0 : decode cX6_now 0 = .ok (.iload_n 1, 1) := by decide +kernel
theorem dX6_now_1 : decode cX6_now 1 = .ok (.tableswitch 91 0 6 #[43, 50, 55, 60, 69, 77, 84], 43) := by decide +kernel
theorem dX6_now_44 : decode cX6_now 44 = .ok (.aload_n 0, 1) := by decide +kernel
theorem dX6_now_45 : decode cX6_now 45 = .ok (.getfield 9, 3) := by decide +kernel
theorem dX6_now_48 : decode cX6_now 48 = .ok (.iconst 0, 1) := by decide +kernel
theorem dX6_now_49 : decode cX6_now 49 = .ok (.iaload, 1) := by decide +kernel
theorem dX6_now_50 : decode cX6_now 50 = .ok (.ireturn, 1) := by decide +kernel
theorem dX6_now_51 : decode cX6_now 51 = .ok (.aload_n 0, 1) := by decide +kernel
theorem dX6_now_52 : decode cX6_now 52 = .ok (.invokevirtual 117, 3) := by decide +kernel
theorem dX6_now_55 : decode cX6_now 55 = .ok (.ireturn, 1) := by decide +kernel
theorem dX6_now_56 : decode cX6_now 56 = .ok (.aload_n 0, 1) := by decide +kernel
theorem dX6_now_57 : decode cX6_now 57 = .ok (.invokevirtual 124, 3) := by decide +kernel
theorem dX6_now_60 : decode cX6_now 60 = .ok (.ireturn, 1) := by decide +kernel
theorem dX6_now_61 : decode cX6_now 61 = .ok (.aload_n 0, 1) := by decide +kernel
theorem dX6_now_62 : decode cX6_now 62 = .ok (.aload_n 0, 1) := by decide +kernel
theorem dX6_now_63 : decode cX6_now 63 = .ok (.invokevirtual 117, 3) := by decide +kernel
theorem dX6_now_66 : decode cX6_now 66 = .ok (.invokevirtual 127, 3) := by decide +kernel
theorem dX6_now_69 : decode cX6_now 69 = .ok (.ireturn, 1) := by decide +kernel
theorem dX6_now_70 : decode cX6_now 70 = .ok (.aload_n 0, 1) := by decide +kernel
theorem dX6_now_71 : decode cX6_now 71 = .ok (.getfield 9, 3) := by decide +kernel
theorem dX6_now_74 : decode cX6_now 74 = .ok (.bipush 7, 2) := by decide +kernel
theorem dX6_now_76 : decode cX6_now 76 = .ok (.iaload, 1) := by decide +kernel
theorem dX6_now_77 : decode cX6_now 77 = .ok (.ireturn, 1) := by decide +kernel
theorem dX6_now_78 : decode cX6_now 78 = .ok (.aload_n 0, 1) := by decide +kernel
theorem dX6_now_79 : decode cX6_now 79 = .ok (.getfield 9, 3) := by decide +kernel
theorem dX6_now_82 : decode cX6_now 82 = .ok (.iconst 4, 1) := by decide +kernel
theorem dX6_now_83 : decode cX6_now 83 = .ok (.iaload, 1) := by decide +kernel
theorem dX6_now_84 : decode cX6_now 84 = .ok (.ireturn, 1) := by decide +kernel
theorem dX6_now_85 : decode cX6_now 85 = .ok (.aload_n 0, 1) := by decide +kernel
theorem dX6_now_86 : decode cX6_now 86 = .ok (.getfield 9, 3) := by decide +kernel
theorem dX6_now_89 : decode cX6_now 89 = .ok (.iconst 5, 1) := by decide +kernel
theorem dX6_now_90 : decode cX6_now 90 = .ok (.iaload, 1) := by decide +kernel
theorem dX6_now_91 : decode cX6_now 91 = .ok (.ireturn, 1) := by decide +kernel
theorem dX6_now_92 : decode cX6_now 92 = .ok (.aload_n 0, 1) := by decide +kernel
theorem dX6_now_93 : decode cX6_now 93 = .ok (.iconst 0, 1) := by decide +kernel
theorem dX6_now_94 : decode cX6_now 94 = .ok (.invokevirtual 94, 3) := by decide +kernel
theorem dX6_now_97 : decode cX6_now 97 = .ok (.ireturn, 1) := by decide +kernel
theorem dX6_mends_0 : decode cX6_mends 0 = .ok (.iload_n 1, 1) := by decide +kernel
theorem dX6_mends_1 : decode cX6_mends 1 = .ok (.invokestatic 104, 3) := by decide +kernel
theorem dX6_mends_4 : decode cX6_mends 4 = .ok (.ifCond .eq 11, 3) := by decide +kernel
theorem dX6_mends_7 : decode cX6_mends 7 = .ok (.aload_n 0, 1) := by decide +kernel
theorem dX6_mends_8 : decode cX6_mends 8 = .ok (.iload_n 2, 1) := by decide +kernel
theorem dX6_mends_9 : decode cX6_mends 9 = .ok (.invokevirtual 101, 3) := by decide +kernel
theorem dX6_mends_12 : decode cX6_mends 12 = .ok (.ifCond .ne 9, 3) := by decide +kernel
theorem dX6_mends_15 : decode cX6_mends 15 = .ok (.aload_n 0, 1) := by decide +kernel
theorem dX6_mends_16 : decode cX6_mends 16 = .ok (.iconst 0, 1) := by decide +kernel
theorem dX6_mends_17 : decode cX6_mends 17 = .ok (.invokevirtual 94, 3) := by decide +kernel
theorem dX6_mends_20 : decode cX6_mends 20 = .ok (.ireturn, 1) := by decide +kernel
theorem dX6_mends_21 : decode cX6_mends 21 = .ok (.aload_n 0, 1) := by decide +kernel
theorem dX6_mends_22 : decode cX6_mends 22 = .ok (.getfield 9, 3) := by decide +kernel
theorem dX6_mends_25 : decode cX6_mends 25 = .ok (.bipush 7, 2) := by decide +kernel
theorem dX6_mends_27 : decode cX6_mends 27 = .ok (.iaload, 1) := by decide +kernel
theorem dX6_mends_28 : decode cX6_mends 28 = .ok (.ifCond .ne 9, 3) := by decide +kernel
theorem dX6_mends_31 : decode cX6_mends 31 = .ok (.aload_n 0, 1) := by decide +kernel
theorem dX6_mends_32 : decode cX6_mends 32 = .ok (.iconst 4, 1) := by decide +kernel
theorem dX6_mends_33 : decode cX6_mends 33 = .ok (.invokevirtual 94, 3) := by decide +kernel
theorem dX6_mends_36 : decode cX6_mends 36 = .ok (.ireturn, 1) := by decide +kernel
theorem dX6_mends_37 : decode cX6_mends 37 = .ok (.aload_n 0, 1) := by decide +kernel
theorem dX6_mends_38 : decode cX6_mends 38 = .ok (.iload_n 1, 1) := by decide +kernel
theorem dX6_mends_39 : decode cX6_mends 39 = .ok (.invokevirtual 130, 3) := by decide +kernel
theorem dX6_mends_42 : decode cX6_mends 42 = .ok (.aload_n 0, 1) := by decide +kernel
theorem dX6_mends_43 : decode cX6_mends 43 = .ok (.iload_n 2, 1) := by decide +kernel
theorem dX6_mends_44 : decode cX6_mends 44 = .ok (.iconst 1, 1) := by decide +kernel
theorem dX6_mends_45 : decode cX6_mends 45 = .ok (.invokevirtual 58, 3) := by decide +kernel
theorem dX6_mends_48 : decode cX6_mends 48 = .ok (.invokestatic 110, 3) := by decide +kernel
theorem dX6_mends_51 : decode cX6_mends 51 = .ok (.istore_n 3, 1) := by decide +kernel
theorem dX6_mends_52 : decode cX6_mends 52 = .ok (.aload_n 0, 1) := by decide +kernel
theorem dX6_mends_53 : decode cX6_mends 53 = .ok (.iload_n 2, 1) := by decide +kernel
theorem dX6_mends_54 : decode cX6_mends 54 = .ok (.iconst 2, 1) := by decide +kernel
theorem dX6_mends_55 : decode cX6_mends 55 = .ok (.bipush 99, 2) := by decide +kernel
theorem dX6_mends_57 : decode cX6_mends 57 = .ok (.invokevirtual 80, 3) := by decide +kernel
theorem dX6_mends_60 : decode cX6_mends 60 = .ok (.aload_n 0, 1) := by decide +kernel
theorem dX6_mends_61 : decode cX6_mends 61 = .ok (.getfield 9, 3) := by decide +kernel
theorem dX6_mends_64 : decode cX6_mends 64 = .ok (.bipush 7, 2) := by decide +kernel
theorem dX6_mends_66 : decode cX6_mends 66 = .ok (.dup2, 1) := by decide +kernel
theorem dX6_mends_67 : decode cX6_mends 67 = .ok (.iaload, 1) := by decide +kernel
theorem dX6_mends_68 : decode cX6_mends 68 = .ok (.iconst 1, 1) := by decide +kernel
theorem dX6_mends_69 : decode cX6_mends 69 = .ok (.isub, 1) := by decide +kernel
theorem dX6_mends_70 : decode cX6_mends 70 = .ok (.iastore, 1) := by decide +kernel
theorem dX6_mends_71 : decode cX6_mends 71 = .ok (.aload_n 0, 1) := by decide +kernel
theorem dX6_mends_72 : decode cX6_mends 72 = .ok (.getfield 9, 3) := by decide +kernel
theorem dX6_mends_75 : decode cX6_mends 75 = .ok (.bipush 8, 2) := by decide +kernel
theorem dX6_mends_77 : decode cX6_mends 77 = .ok (.iconst 2, 1) := by decide +kernel
theorem dX6_mends_78 : decode cX6_mends 78 = .ok (.iload_n 1, 1) := by decide +kernel
theorem dX6_mends_79 : decode cX6_mends 79 = .ok (.imul, 1) := by decide +kernel
theorem dX6_mends_80 : decode cX6_mends 80 = .ok (.iadd, 1) := by decide +kernel
theorem dX6_mends_81 : decode cX6_mends 81 = .ok (.aload_n 0, 1) := by decide +kernel
theorem dX6_mends_82 : decode cX6_mends 82 = .ok (.iload_n 2, 1) := by decide +kernel
theorem dX6_mends_83 : decode cX6_mends 83 = .ok (.iconst 1, 1) := by decide +kernel
theorem dX6_mends_84 : decode cX6_mends 84 = .ok (.invokevirtual 58, 3) := by decide +kernel
theorem dX6_mends_87 : decode cX6_mends 87 = .ok (.iastore, 1) := by decide +kernel
theorem dX6_mends_88 : decode cX6_mends 88 = .ok (.iload_n 3, 1) := by decide +kernel
theorem dX6_mends_89 : decode cX6_mends 89 = .ok (.ireturn, 1) := by decide +kernel
theorem dX6_ahead_0 : decode cX6_ahead 0 = .ok (.aload_n 0, 1) := by decide +kernel
theorem dX6_ahead_1 : decode cX6_ahead 1 = .ok (.iload_n 1, 1) := by decide +kernel
theorem dX6_ahead_2 : decode cX6_ahead 2 = .ok (.invokevirtual 101, 3) := by decide +kernel
theorem dX6_ahead_5 : decode cX6_ahead 5 = .ok (.ifCond .eq 14, 3) := by decide +kernel
theorem dX6_ahead_8 : decode cX6_ahead 8 = .ok (.iload_n 2, 1) := by decide +kernel
theorem dX6_ahead_9 : decode cX6_ahead 9 = .ok (.iconst 0, 1) := by decide +kernel
theorem dX6_ahead_10 : decode cX6_ahead 10 = .ok (.sipush 200, 3) := by decide +kernel
theorem dX6_ahead_13 : decode cX6_ahead 13 = .ok (.invokestatic 54, 3) := by decide +kernel
theorem dX6_ahead_16 : decode cX6_ahead 16 = .ok (.ifCond .ne 9, 3) := by decide +kernel
theorem dX6_ahead_19 : decode cX6_ahead 19 = .ok (.aload_n 0, 1) := by decide +kernel
theorem dX6_ahead_20 : decode cX6_ahead 20 = .ok (.iconst 0, 1) := by decide +kernel
theorem dX6_ahead_21 : decode cX6_ahead 21 = .ok (.invokevirtual 94, 3) := by decide +kernel
theorem dX6_ahead_24 : decode cX6_ahead 24 = .ok (.ireturn, 1) := by decide +kernel
theorem dX6_ahead_25 : decode cX6_ahead 25 = .ok (.aload_n 0, 1) := by decide +kernel
theorem dX6_ahead_26 : decode cX6_ahead 26 = .ok (.invokevirtual 133, 3) := by decide +kernel
theorem dX6_ahead_29 : decode cX6_ahead 29 = .ok (.aload_n 0, 1) := by decide +kernel
theorem dX6_ahead_30 : decode cX6_ahead 30 = .ok (.iload_n 2, 1) := by decide +kernel
theorem dX6_ahead_31 : decode cX6_ahead 31 = .ok (.invokevirtual 113, 3) := by decide +kernel
theorem dX6_ahead_34 : decode cX6_ahead 34 = .ok (.aload_n 0, 1) := by decide +kernel
theorem dX6_ahead_35 : decode cX6_ahead 35 = .ok (.iload_n 1, 1) := by decide +kernel
theorem dX6_ahead_36 : decode cX6_ahead 36 = .ok (.iconst 2, 1) := by decide +kernel
theorem dX6_ahead_37 : decode cX6_ahead 37 = .ok (.invokevirtual 58, 3) := by decide +kernel
theorem dX6_ahead_40 : decode cX6_ahead 40 = .ok (.istore_n 3, 1) := by decide +kernel
theorem dX6_ahead_41 : decode cX6_ahead 41 = .ok (.aload_n 0, 1) := by decide +kernel
theorem dX6_ahead_42 : decode cX6_ahead 42 = .ok (.invokevirtual 136, 3) := by decide +kernel
theorem dX6_ahead_45 : decode cX6_ahead 45 = .ok (.iload_n 3, 1) := by decide +kernel
theorem dX6_ahead_46 : decode cX6_ahead 46 = .ok (.ireturn, 1) := by decide +kernel
theorem dX6_lastsNow_0 : decode cX6_lastsNow 0 = .ok (.aload_n 0, 1) := by decide +kernel
theorem dX6_lastsNow_1 : decode cX6_lastsNow 1 = .ok (.invokevirtual 133, 3) := by decide +kernel
theorem dX6_lastsNow_4 : decode cX6_lastsNow 4 = .ok (.iconst 0, 1) := by decide +kernel
theorem dX6_lastsNow_5 : decode cX6_lastsNow 5 = .ok (.istore_n 2, 1) := by decide +kernel
theorem dX6_lastsNow_6 : decode cX6_lastsNow 6 = .ok (.iload_n 2, 1) := by decide +kernel
theorem dX6_lastsNow_7 : decode cX6_lastsNow 7 = .ok (.sipush 200, 3) := by decide +kernel
theorem dX6_lastsNow_10 : decode cX6_lastsNow 10 = .ok (.if_icmp .gt 21, 3) := by decide +kernel
theorem dX6_lastsNow_13 : decode cX6_lastsNow 13 = .ok (.aload_n 0, 1) := by decide +kernel
theorem dX6_lastsNow_14 : decode cX6_lastsNow 14 = .ok (.iload_n 1, 1) := by decide +kernel
theorem dX6_lastsNow_15 : decode cX6_lastsNow 15 = .ok (.invokevirtual 66, 3) := by decide +kernel
theorem dX6_lastsNow_18 : decode cX6_lastsNow 18 = .ok (.ifCond .eq 13, 3) := by decide +kernel
theorem dX6_lastsNow_21 : decode cX6_lastsNow 21 = .ok (.aload_n 0, 1) := by decide +kernel
theorem dX6_lastsNow_22 : decode cX6_lastsNow 22 = .ok (.invokevirtual 88, 3) := by decide +kernel
theorem dX6_lastsNow_25 : decode cX6_lastsNow 25 = .ok (.iinc 2 1, 3) := by decide +kernel
theorem dX6_lastsNow_28 : decode cX6_lastsNow 28 = .ok (.goto (-22), 3) := by decide +kernel
theorem dX6_lastsNow_31 : decode cX6_lastsNow 31 = .ok (.aload_n 0, 1) := by decide +kernel
theorem dX6_lastsNow_32 : decode cX6_lastsNow 32 = .ok (.invokevirtual 136, 3) := by decide +kernel
theorem dX6_lastsNow_35 : decode cX6_lastsNow 35 = .ok (.iload_n 2, 1) := by decide +kernel
theorem dX6_lastsNow_36 : decode cX6_lastsNow 36 = .ok (.ireturn, 1) := by decide +kernel
theorem dX6_lasts_0 : decode cX6_lasts 0 = .ok (.aload_n 0, 1) := by decide +kernel
theorem dX6_lasts_1 : decode cX6_lasts 1 = .ok (.iload_n 1, 1) := by decide +kernel
theorem dX6_lasts_2 : decode cX6_lasts 2 = .ok (.invokevirtual 101, 3) := by decide +kernel
theorem dX6_lasts_5 : decode cX6_lasts 5 = .ok (.ifCond .ne 9, 3) := by decide +kernel
theorem dX6_lasts_8 : decode cX6_lasts 8 = .ok (.aload_n 0, 1) := by decide +kernel
theorem dX6_lasts_9 : decode cX6_lasts 9 = .ok (.iconst 0, 1) := by decide +kernel
theorem dX6_lasts_10 : decode cX6_lasts 10 = .ok (.invokevirtual 94, 3) := by decide +kernel
theorem dX6_lasts_13 : decode cX6_lasts 13 = .ok (.ireturn, 1) := by decide +kernel
theorem dX6_lasts_14 : decode cX6_lasts 14 = .ok (.aload_n 0, 1) := by decide +kernel
theorem dX6_lasts_15 : decode cX6_lasts 15 = .ok (.iload_n 1, 1) := by decide +kernel
theorem dX6_lasts_16 : decode cX6_lasts 16 = .ok (.invokevirtual 139, 3) := by decide +kernel
theorem dX6_lasts_19 : decode cX6_lasts 19 = .ok (.istore_n 2, 1) := by decide +kernel
theorem dX6_lasts_20 : decode cX6_lasts 20 = .ok (.iload_n 2, 1) := by decide +kernel
theorem dX6_lasts_21 : decode cX6_lasts 21 = .ok (.sipush 200, 3) := by decide +kernel
theorem dX6_lasts_24 : decode cX6_lasts 24 = .ok (.if_icmp .le 11, 3) := by decide +kernel
theorem dX6_lasts_27 : decode cX6_lasts 27 = .ok (.aload_n 0, 1) := by decide +kernel
theorem dX6_lasts_28 : decode cX6_lasts 28 = .ok (.iconst 3, 1) := by decide +kernel
theorem dX6_lasts_29 : decode cX6_lasts 29 = .ok (.invokevirtual 94, 3) := by decide +kernel
theorem dX6_lasts_32 : decode cX6_lasts 32 = .ok (.goto 4, 3) := by decide +kernel
theorem dX6_lasts_35 : decode cX6_lasts 35 = .ok (.iload_n 2, 1) := by decide +kernel
theorem dX6_lasts_36 : decode cX6_lasts 36 = .ok (.ireturn, 1) := by decide +kernel
theorem dX6_shine_0 : decode cX6_shine 0 = .ok (.iload_n 1, 1) := by decide +kernel
theorem dX6_shine_1 : decode cX6_shine 1 = .ok (.iconst 0, 1) := by decide +kernel
theorem dX6_shine_2 : decode cX6_shine 2 = .ok (.sipush 200, 3) := by decide +kernel
theorem dX6_shine_5 : decode cX6_shine 5 = .ok (.invokestatic 54, 3) := by decide +kernel
theorem dX6_shine_8 : decode cX6_shine 8 = .ok (.ifCond .ne 9, 3) := by decide +kernel
theorem dX6_shine_11 : decode cX6_shine 11 = .ok (.aload_n 0, 1) := by decide +kernel
theorem dX6_shine_12 : decode cX6_shine 12 = .ok (.iconst 0, 1) := by decide +kernel
theorem dX6_shine_13 : decode cX6_shine 13 = .ok (.invokevirtual 94, 3) := by decide +kernel
theorem dX6_shine_16 : decode cX6_shine 16 = .ok (.ireturn, 1) := by decide +kernel
theorem dX6_shine_17 : decode cX6_shine 17 = .ok (.aload_n 0, 1) := by decide +kernel
theorem dX6_shine_18 : decode cX6_shine 18 = .ok (.invokevirtual 133, 3) := by decide +kernel
theorem dX6_shine_21 : decode cX6_shine 21 = .ok (.aload_n 0, 1) := by decide +kernel
theorem dX6_shine_22 : decode cX6_shine 22 = .ok (.iload_n 1, 1) := by decide +kernel
theorem dX6_shine_23 : decode cX6_shine 23 = .ok (.invokevirtual 113, 3) := by decide +kernel
theorem dX6_shine_26 : decode cX6_shine 26 = .ok (.aload_n 0, 1) := by decide +kernel
theorem dX6_shine_27 : decode cX6_shine 27 = .ok (.invokevirtual 117, 3) := by decide +kernel
theorem dX6_shine_30 : decode cX6_shine 30 = .ok (.istore_n 2, 1) := by decide +kernel
theorem dX6_shine_31 : decode cX6_shine 31 = .ok (.aload_n 0, 1) := by decide +kernel
theorem dX6_shine_32 : decode cX6_shine 32 = .ok (.invokevirtual 136, 3) := by decide +kernel
theorem dX6_shine_35 : decode cX6_shine 35 = .ok (.iload_n 2, 1) := by decide +kernel
theorem dX6_shine_36 : decode cX6_shine 36 = .ok (.ireturn, 1) := by decide +kernel
theorem dX6_dark_0 : decode cX6_dark 0 = .ok (.iload_n 1, 1) := by decide +kernel
theorem dX6_dark_1 : decode cX6_dark 1 = .ok (.iconst 1, 1) := by decide +kernel
theorem dX6_dark_2 : decode cX6_dark 2 = .ok (.bipush 10, 2) := by decide +kernel
theorem dX6_dark_4 : decode cX6_dark 4 = .ok (.invokestatic 54, 3) := by decide +kernel
theorem dX6_dark_7 : decode cX6_dark 7 = .ok (.ifCond .ne 9, 3) := by decide +kernel
theorem dX6_dark_10 : decode cX6_dark 10 = .ok (.aload_n 0, 1) := by decide +kernel
theorem dX6_dark_11 : decode cX6_dark 11 = .ok (.iconst 0, 1) := by decide +kernel
theorem dX6_dark_12 : decode cX6_dark 12 = .ok (.invokevirtual 94, 3) := by decide +kernel
theorem dX6_dark_15 : decode cX6_dark 15 = .ok (.ireturn, 1) := by decide +kernel
theorem dX6_dark_16 : decode cX6_dark 16 = .ok (.aload_n 0, 1) := by decide +kernel
theorem dX6_dark_17 : decode cX6_dark 17 = .ok (.invokevirtual 133, 3) := by decide +kernel
theorem dX6_dark_20 : decode cX6_dark 20 = .ok (.iconst 0, 1) := by decide +kernel
theorem dX6_dark_21 : decode cX6_dark 21 = .ok (.istore_n 2, 1) := by decide +kernel
theorem dX6_dark_22 : decode cX6_dark 22 = .ok (.iload_n 2, 1) := by decide +kernel
theorem dX6_dark_23 : decode cX6_dark 23 = .ok (.sipush 200, 3) := by decide +kernel
theorem dX6_dark_26 : decode cX6_dark 26 = .ok (.if_icmp .gt 24, 3) := by decide +kernel
theorem dX6_dark_29 : decode cX6_dark 29 = .ok (.aload_n 0, 1) := by decide +kernel
theorem dX6_dark_30 : decode cX6_dark 30 = .ok (.invokevirtual 117, 3) := by decide +kernel
theorem dX6_dark_33 : decode cX6_dark 33 = .ok (.invokestatic 121, 3) := by decide +kernel
theorem dX6_dark_36 : decode cX6_dark 36 = .ok (.iload_n 1, 1) := by decide +kernel
theorem dX6_dark_37 : decode cX6_dark 37 = .ok (.if_icmp .lt 13, 3) := by decide +kernel
theorem dX6_dark_40 : decode cX6_dark 40 = .ok (.aload_n 0, 1) := by decide +kernel
theorem dX6_dark_41 : decode cX6_dark 41 = .ok (.invokevirtual 88, 3) := by decide +kernel
theorem dX6_dark_44 : decode cX6_dark 44 = .ok (.iinc 2 1, 3) := by decide +kernel
theorem dX6_dark_47 : decode cX6_dark 47 = .ok (.goto (-25), 3) := by decide +kernel
theorem dX6_dark_50 : decode cX6_dark 50 = .ok (.aload_n 0, 1) := by decide +kernel
theorem dX6_dark_51 : decode cX6_dark 51 = .ok (.invokevirtual 136, 3) := by decide +kernel
theorem dX6_dark_54 : decode cX6_dark 54 = .ok (.iload_n 2, 1) := by decide +kernel
theorem dX6_dark_55 : decode cX6_dark 55 = .ok (.sipush 200, 3) := by decide +kernel
theorem dX6_dark_58 : decode cX6_dark 58 = .ok (.if_icmp .le 11, 3) := by decide +kernel
theorem dX6_dark_61 : decode cX6_dark 61 = .ok (.aload_n 0, 1) := by decide +kernel
theorem dX6_dark_62 : decode cX6_dark 62 = .ok (.iconst 3, 1) := by decide +kernel
theorem dX6_dark_63 : decode cX6_dark 63 = .ok (.invokevirtual 94, 3) := by decide +kernel
theorem dX6_dark_66 : decode cX6_dark 66 = .ok (.goto 4, 3) := by decide +kernel
theorem dX6_dark_69 : decode cX6_dark 69 = .ok (.iload_n 2, 1) := by decide +kernel
theorem dX6_dark_70 : decode cX6_dark 70 = .ok (.ireturn, 1) := by decide +kernel
theorem dX6_kindFor_0 : decode cX6_kindFor 0 = .ok (.aload_n 0, 1) := by decide +kernel
theorem dX6_kindFor_1 : decode cX6_kindFor 1 = .ok (.iload_n 1, 1) := by decide +kernel
theorem dX6_kindFor_2 : decode cX6_kindFor 2 = .ok (.invokevirtual 101, 3) := by decide +kernel
theorem dX6_kindFor_5 : decode cX6_kindFor 5 = .ok (.ifCond .ne 9, 3) := by decide +kernel
theorem dX6_kindFor_8 : decode cX6_kindFor 8 = .ok (.aload_n 0, 1) := by decide +kernel
theorem dX6_kindFor_9 : decode cX6_kindFor 9 = .ok (.iconst 0, 1) := by decide +kernel
theorem dX6_kindFor_10 : decode cX6_kindFor 10 = .ok (.invokevirtual 94, 3) := by decide +kernel
theorem dX6_kindFor_13 : decode cX6_kindFor 13 = .ok (.ireturn, 1) := by decide +kernel
theorem dX6_kindFor_14 : decode cX6_kindFor 14 = .ok (.aload_n 0, 1) := by decide +kernel
theorem dX6_kindFor_15 : decode cX6_kindFor 15 = .ok (.iload_n 1, 1) := by decide +kernel
theorem dX6_kindFor_16 : decode cX6_kindFor 16 = .ok (.iconst 0, 1) := by decide +kernel
theorem dX6_kindFor_17 : decode cX6_kindFor 17 = .ok (.invokevirtual 58, 3) := by decide +kernel
theorem dX6_kindFor_20 : decode cX6_kindFor 20 = .ok (.istore_n 2, 1) := by decide +kernel
theorem dX6_kindFor_21 : decode cX6_kindFor 21 = .ok (.iconst 0, 1) := by decide +kernel
theorem dX6_kindFor_22 : decode cX6_kindFor 22 = .ok (.istore_n 3, 1) := by decide +kernel
theorem dX6_kindFor_23 : decode cX6_kindFor 23 = .ok (.iconst (-1), 1) := by decide +kernel
theorem dX6_kindFor_24 : decode cX6_kindFor 24 = .ok (.istore 4, 2) := by decide +kernel
theorem dX6_kindFor_26 : decode cX6_kindFor 26 = .ok (.iconst 0, 1) := by decide +kernel
theorem dX6_kindFor_27 : decode cX6_kindFor 27 = .ok (.istore 5, 2) := by decide +kernel
theorem dX6_kindFor_29 : decode cX6_kindFor 29 = .ok (.iload 5, 2) := by decide +kernel
theorem dX6_kindFor_31 : decode cX6_kindFor 31 = .ok (.bipush 6, 2) := by decide +kernel
theorem dX6_kindFor_33 : decode cX6_kindFor 33 = .ok (.if_icmp .gt 53, 3) := by decide +kernel
theorem dX6_kindFor_36 : decode cX6_kindFor 36 = .ok (.aload_n 0, 1) := by decide +kernel
theorem dX6_kindFor_37 : decode cX6_kindFor 37 = .ok (.iload_n 1, 1) := by decide +kernel
theorem dX6_kindFor_38 : decode cX6_kindFor 38 = .ok (.iconst 0, 1) := by decide +kernel
theorem dX6_kindFor_39 : decode cX6_kindFor 39 = .ok (.iload 5, 2) := by decide +kernel
theorem dX6_kindFor_41 : decode cX6_kindFor 41 = .ok (.invokevirtual 80, 3) := by decide +kernel
theorem dX6_kindFor_44 : decode cX6_kindFor 44 = .ok (.sipush 200, 3) := by decide +kernel
theorem dX6_kindFor_47 : decode cX6_kindFor 47 = .ok (.aload_n 0, 1) := by decide +kernel
theorem dX6_kindFor_48 : decode cX6_kindFor 48 = .ok (.iload_n 1, 1) := by decide +kernel
theorem dX6_kindFor_49 : decode cX6_kindFor 49 = .ok (.invokevirtual 139, 3) := by decide +kernel
theorem dX6_kindFor_52 : decode cX6_kindFor 52 = .ok (.invokestatic 85, 3) := by decide +kernel
theorem dX6_kindFor_55 : decode cX6_kindFor 55 = .ok (.istore 6, 2) := by decide +kernel
theorem dX6_kindFor_57 : decode cX6_kindFor 57 = .ok (.iload 6, 2) := by decide +kernel
theorem dX6_kindFor_59 : decode cX6_kindFor 59 = .ok (.iload 4, 2) := by decide +kernel
theorem dX6_kindFor_61 : decode cX6_kindFor 61 = .ok (.if_icmp .le 8, 3) := by decide +kernel
theorem dX6_kindFor_64 : decode cX6_kindFor 64 = .ok (.iload 5, 2) := by decide +kernel
theorem dX6_kindFor_66 : decode cX6_kindFor 66 = .ok (.goto 4, 3) := by decide +kernel
theorem dX6_kindFor_69 : decode cX6_kindFor 69 = .ok (.iload_n 3, 1) := by decide +kernel
theorem dX6_kindFor_70 : decode cX6_kindFor 70 = .ok (.istore_n 3, 1) := by decide +kernel
theorem dX6_kindFor_71 : decode cX6_kindFor 71 = .ok (.iload 4, 2) := by decide +kernel
theorem dX6_kindFor_73 : decode cX6_kindFor 73 = .ok (.iload 6, 2) := by decide +kernel
theorem dX6_kindFor_75 : decode cX6_kindFor 75 = .ok (.invokestatic 77, 3) := by decide +kernel
theorem dX6_kindFor_78 : decode cX6_kindFor 78 = .ok (.istore 4, 2) := by decide +kernel
theorem dX6_kindFor_80 : decode cX6_kindFor 80 = .ok (.iinc 5 1, 3) := by decide +kernel
theorem dX6_kindFor_83 : decode cX6_kindFor 83 = .ok (.goto (-54), 3) := by decide +kernel
theorem dX6_kindFor_86 : decode cX6_kindFor 86 = .ok (.aload_n 0, 1) := by decide +kernel
theorem dX6_kindFor_87 : decode cX6_kindFor 87 = .ok (.iload_n 1, 1) := by decide +kernel
theorem dX6_kindFor_88 : decode cX6_kindFor 88 = .ok (.iconst 0, 1) := by decide +kernel
theorem dX6_kindFor_89 : decode cX6_kindFor 89 = .ok (.iload_n 2, 1) := by decide +kernel
theorem dX6_kindFor_90 : decode cX6_kindFor 90 = .ok (.invokevirtual 80, 3) := by decide +kernel
theorem dX6_kindFor_93 : decode cX6_kindFor 93 = .ok (.iload_n 3, 1) := by decide +kernel
theorem dX6_kindFor_94 : decode cX6_kindFor 94 = .ok (.ireturn, 1) := by decide +kernel
theorem dX6_dustFor_0 : decode cX6_dustFor 0 = .ok (.aload_n 0, 1) := by decide +kernel
theorem dX6_dustFor_1 : decode cX6_dustFor 1 = .ok (.iload_n 1, 1) := by decide +kernel
theorem dX6_dustFor_2 : decode cX6_dustFor 2 = .ok (.invokevirtual 101, 3) := by decide +kernel
theorem dX6_dustFor_5 : decode cX6_dustFor 5 = .ok (.ifCond .eq 14, 3) := by decide +kernel
theorem dX6_dustFor_8 : decode cX6_dustFor 8 = .ok (.iload_n 2, 1) := by decide +kernel
theorem dX6_dustFor_9 : decode cX6_dustFor 9 = .ok (.iconst 0, 1) := by decide +kernel
theorem dX6_dustFor_10 : decode cX6_dustFor 10 = .ok (.sipush 200, 3) := by decide +kernel
theorem dX6_dustFor_13 : decode cX6_dustFor 13 = .ok (.invokestatic 54, 3) := by decide +kernel
theorem dX6_dustFor_16 : decode cX6_dustFor 16 = .ok (.ifCond .ne 9, 3) := by decide +kernel
theorem dX6_dustFor_19 : decode cX6_dustFor 19 = .ok (.aload_n 0, 1) := by decide +kernel
theorem dX6_dustFor_20 : decode cX6_dustFor 20 = .ok (.iconst 0, 1) := by decide +kernel
theorem dX6_dustFor_21 : decode cX6_dustFor 21 = .ok (.invokevirtual 94, 3) := by decide +kernel
theorem dX6_dustFor_24 : decode cX6_dustFor 24 = .ok (.ireturn, 1) := by decide +kernel
theorem dX6_dustFor_25 : decode cX6_dustFor 25 = .ok (.aload_n 0, 1) := by decide +kernel
theorem dX6_dustFor_26 : decode cX6_dustFor 26 = .ok (.invokevirtual 133, 3) := by decide +kernel
theorem dX6_dustFor_29 : decode cX6_dustFor 29 = .ok (.iconst (-1), 1) := by decide +kernel
theorem dX6_dustFor_30 : decode cX6_dustFor 30 = .ok (.istore_n 3, 1) := by decide +kernel
theorem dX6_dustFor_31 : decode cX6_dustFor 31 = .ok (.iconst 0, 1) := by decide +kernel
theorem dX6_dustFor_32 : decode cX6_dustFor 32 = .ok (.istore 4, 2) := by decide +kernel
theorem dX6_dustFor_34 : decode cX6_dustFor 34 = .ok (.iload 4, 2) := by decide +kernel
theorem dX6_dustFor_36 : decode cX6_dustFor 36 = .ok (.bipush 9, 2) := by decide +kernel
theorem dX6_dustFor_38 : decode cX6_dustFor 38 = .ok (.if_icmp .gt 41, 3) := by decide +kernel
theorem dX6_dustFor_41 : decode cX6_dustFor 41 = .ok (.aload_n 0, 1) := by decide +kernel
theorem dX6_dustFor_42 : decode cX6_dustFor 42 = .ok (.getfield 9, 3) := by decide +kernel
theorem dX6_dustFor_45 : decode cX6_dustFor 45 = .ok (.iconst 4, 1) := by decide +kernel
theorem dX6_dustFor_46 : decode cX6_dustFor 46 = .ok (.iload 4, 2) := by decide +kernel
theorem dX6_dustFor_48 : decode cX6_dustFor 48 = .ok (.iastore, 1) := by decide +kernel
theorem dX6_dustFor_49 : decode cX6_dustFor 49 = .ok (.aload_n 0, 1) := by decide +kernel
theorem dX6_dustFor_50 : decode cX6_dustFor 50 = .ok (.iload_n 2, 1) := by decide +kernel
theorem dX6_dustFor_51 : decode cX6_dustFor 51 = .ok (.invokevirtual 113, 3) := by decide +kernel
theorem dX6_dustFor_54 : decode cX6_dustFor 54 = .ok (.aload_n 0, 1) := by decide +kernel
theorem dX6_dustFor_55 : decode cX6_dustFor 55 = .ok (.iload_n 1, 1) := by decide +kernel
theorem dX6_dustFor_56 : decode cX6_dustFor 56 = .ok (.invokevirtual 66, 3) := by decide +kernel
theorem dX6_dustFor_59 : decode cX6_dustFor 59 = .ok (.ifCond .eq 8, 3) := by decide +kernel
theorem dX6_dustFor_62 : decode cX6_dustFor 62 = .ok (.iload 4, 2) := by decide +kernel
theorem dX6_dustFor_64 : decode cX6_dustFor 64 = .ok (.goto 4, 3) := by decide +kernel
theorem dX6_dustFor_67 : decode cX6_dustFor 67 = .ok (.iload_n 3, 1) := by decide +kernel
theorem dX6_dustFor_68 : decode cX6_dustFor 68 = .ok (.istore_n 3, 1) := by decide +kernel
theorem dX6_dustFor_69 : decode cX6_dustFor 69 = .ok (.aload_n 0, 1) := by decide +kernel
theorem dX6_dustFor_70 : decode cX6_dustFor 70 = .ok (.invokevirtual 136, 3) := by decide +kernel
theorem dX6_dustFor_73 : decode cX6_dustFor 73 = .ok (.iinc 4 1, 3) := by decide +kernel
theorem dX6_dustFor_76 : decode cX6_dustFor 76 = .ok (.goto (-42), 3) := by decide +kernel
theorem dX6_dustFor_79 : decode cX6_dustFor 79 = .ok (.iload_n 3, 1) := by decide +kernel
theorem dX6_dustFor_80 : decode cX6_dustFor 80 = .ok (.ifCond .ge 11, 3) := by decide +kernel
theorem dX6_dustFor_83 : decode cX6_dustFor 83 = .ok (.aload_n 0, 1) := by decide +kernel
theorem dX6_dustFor_84 : decode cX6_dustFor 84 = .ok (.iconst 3, 1) := by decide +kernel
theorem dX6_dustFor_85 : decode cX6_dustFor 85 = .ok (.invokevirtual 94, 3) := by decide +kernel
theorem dX6_dustFor_88 : decode cX6_dustFor 88 = .ok (.goto 4, 3) := by decide +kernel
theorem dX6_dustFor_91 : decode cX6_dustFor 91 = .ok (.iload_n 3, 1) := by decide +kernel
theorem dX6_dustFor_92 : decode cX6_dustFor 92 = .ok (.ireturn, 1) := by decide +kernel
theorem dX6_uses_0 : decode cX6_uses 0 = .ok (.iload_n 1, 1) := by decide +kernel
theorem dX6_uses_1 : decode cX6_uses 1 = .ok (.iconst 0, 1) := by decide +kernel
theorem dX6_uses_2 : decode cX6_uses 2 = .ok (.sipush 200, 3) := by decide +kernel
theorem dX6_uses_5 : decode cX6_uses 5 = .ok (.invokestatic 54, 3) := by decide +kernel
theorem dX6_uses_8 : decode cX6_uses 8 = .ok (.ifCond .ne 9, 3) := by decide +kernel
theorem dX6_uses_11 : decode cX6_uses 11 = .ok (.aload_n 0, 1) := by decide +kernel
theorem dX6_uses_12 : decode cX6_uses 12 = .ok (.iconst 0, 1) := by decide +kernel
theorem dX6_uses_13 : decode cX6_uses 13 = .ok (.invokevirtual 94, 3) := by decide +kernel
theorem dX6_uses_16 : decode cX6_uses 16 = .ok (.ireturn, 1) := by decide +kernel
theorem dX6_uses_17 : decode cX6_uses 17 = .ok (.aload_n 0, 1) := by decide +kernel
theorem dX6_uses_18 : decode cX6_uses 18 = .ok (.invokevirtual 133, 3) := by decide +kernel
theorem dX6_uses_21 : decode cX6_uses 21 = .ok (.iconst 0, 1) := by decide +kernel
theorem dX6_uses_22 : decode cX6_uses 22 = .ok (.istore_n 2, 1) := by decide +kernel
theorem dX6_uses_23 : decode cX6_uses 23 = .ok (.iconst 0, 1) := by decide +kernel
theorem dX6_uses_24 : decode cX6_uses 24 = .ok (.istore_n 3, 1) := by decide +kernel
theorem dX6_uses_25 : decode cX6_uses 25 = .ok (.iload_n 3, 1) := by decide +kernel
theorem dX6_uses_26 : decode cX6_uses 26 = .ok (.iload_n 1, 1) := by decide +kernel
theorem dX6_uses_27 : decode cX6_uses 27 = .ok (.if_icmp .ge 78, 3) := by decide +kernel
theorem dX6_uses_30 : decode cX6_uses 30 = .ok (.iconst 0, 1) := by decide +kernel
theorem dX6_uses_31 : decode cX6_uses 31 = .ok (.istore 4, 2) := by decide +kernel
theorem dX6_uses_33 : decode cX6_uses 33 = .ok (.iload 4, 2) := by decide +kernel
theorem dX6_uses_35 : decode cX6_uses 35 = .ok (.aload_n 0, 1) := by decide +kernel
theorem dX6_uses_36 : decode cX6_uses 36 = .ok (.getfield 9, 3) := by decide +kernel
theorem dX6_uses_39 : decode cX6_uses 39 = .ok (.iconst 1, 1) := by decide +kernel
theorem dX6_uses_40 : decode cX6_uses 40 = .ok (.iaload, 1) := by decide +kernel
theorem dX6_uses_41 : decode cX6_uses 41 = .ok (.if_icmp .ge 54, 3) := by decide +kernel
theorem dX6_uses_44 : decode cX6_uses 44 = .ok (.iload_n 2, 1) := by decide +kernel
theorem dX6_uses_45 : decode cX6_uses 45 = .ok (.aload_n 0, 1) := by decide +kernel
theorem dX6_uses_46 : decode cX6_uses 46 = .ok (.iload 4, 2) := by decide +kernel
theorem dX6_uses_48 : decode cX6_uses 48 = .ok (.invokevirtual 66, 3) := by decide +kernel
theorem dX6_uses_51 : decode cX6_uses 51 = .ok (.ifCond .eq 7, 3) := by decide +kernel
theorem dX6_uses_54 : decode cX6_uses 54 = .ok (.iconst 0, 1) := by decide +kernel
theorem dX6_uses_55 : decode cX6_uses 55 = .ok (.goto 4, 3) := by decide +kernel
theorem dX6_uses_58 : decode cX6_uses 58 = .ok (.iconst 1, 1) := by decide +kernel
theorem dX6_uses_59 : decode cX6_uses 59 = .ok (.iadd, 1) := by decide +kernel
theorem dX6_uses_60 : decode cX6_uses 60 = .ok (.istore_n 2, 1) := by decide +kernel
theorem dX6_uses_61 : decode cX6_uses 61 = .ok (.aload_n 0, 1) := by decide +kernel
theorem dX6_uses_62 : decode cX6_uses 62 = .ok (.iload 4, 2) := by decide +kernel
theorem dX6_uses_64 : decode cX6_uses 64 = .ok (.iconst 2, 1) := by decide +kernel
theorem dX6_uses_65 : decode cX6_uses 65 = .ok (.aload_n 0, 1) := by decide +kernel
theorem dX6_uses_66 : decode cX6_uses 66 = .ok (.iload 4, 2) := by decide +kernel
theorem dX6_uses_68 : decode cX6_uses 68 = .ok (.invokevirtual 66, 3) := by decide +kernel
theorem dX6_uses_71 : decode cX6_uses 71 = .ok (.ifCond .eq 13, 3) := by decide +kernel
theorem dX6_uses_74 : decode cX6_uses 74 = .ok (.aload_n 0, 1) := by decide +kernel
theorem dX6_uses_75 : decode cX6_uses 75 = .ok (.iload 4, 2) := by decide +kernel
theorem dX6_uses_77 : decode cX6_uses 77 = .ok (.iconst 2, 1) := by decide +kernel
theorem dX6_uses_78 : decode cX6_uses 78 = .ok (.invokevirtual 58, 3) := by decide +kernel
theorem dX6_uses_81 : decode cX6_uses 81 = .ok (.goto 5, 3) := by decide +kernel
theorem dX6_uses_84 : decode cX6_uses 84 = .ok (.bipush 99, 2) := by decide +kernel
theorem dX6_uses_86 : decode cX6_uses 86 = .ok (.invokevirtual 80, 3) := by decide +kernel
theorem dX6_uses_89 : decode cX6_uses 89 = .ok (.iinc 4 1, 3) := by decide +kernel
theorem dX6_uses_92 : decode cX6_uses 92 = .ok (.goto (-59), 3) := by decide +kernel
theorem dX6_uses_95 : decode cX6_uses 95 = .ok (.aload_n 0, 1) := by decide +kernel
theorem dX6_uses_96 : decode cX6_uses 96 = .ok (.invokevirtual 88, 3) := by decide +kernel
theorem dX6_uses_99 : decode cX6_uses 99 = .ok (.iinc 3 1, 3) := by decide +kernel
theorem dX6_uses_102 : decode cX6_uses 102 = .ok (.goto (-77), 3) := by decide +kernel
theorem dX6_uses_105 : decode cX6_uses 105 = .ok (.aload_n 0, 1) := by decide +kernel
theorem dX6_uses_106 : decode cX6_uses 106 = .ok (.invokevirtual 136, 3) := by decide +kernel
theorem dX6_uses_109 : decode cX6_uses 109 = .ok (.iload_n 2, 1) := by decide +kernel
theorem dX6_uses_110 : decode cX6_uses 110 = .ok (.ireturn, 1) := by decide +kernel
theorem dX6_walk_0 : decode cX6_walk 0 = .ok (.iconst 0, 1) := by decide +kernel
theorem dX6_walk_1 : decode cX6_walk 1 = .ok (.istore_n 3, 1) := by decide +kernel
theorem dX6_walk_2 : decode cX6_walk 2 = .ok (.iconst 0, 1) := by decide +kernel
theorem dX6_walk_3 : decode cX6_walk 3 = .ok (.istore 4, 2) := by decide +kernel
theorem dX6_walk_5 : decode cX6_walk 5 = .ok (.iload 4, 2) := by decide +kernel
theorem dX6_walk_7 : decode cX6_walk 7 = .ok (.aload_n 0, 1) := by decide +kernel
theorem dX6_walk_8 : decode cX6_walk 8 = .ok (.getfield 9, 3) := by decide +kernel
theorem dX6_walk_11 : decode cX6_walk 11 = .ok (.iconst 1, 1) := by decide +kernel
theorem dX6_walk_12 : decode cX6_walk 12 = .ok (.iaload, 1) := by decide +kernel
theorem dX6_walk_13 : decode cX6_walk 13 = .ok (.if_icmp .ge 91, 3) := by decide +kernel
theorem dX6_walk_16 : decode cX6_walk 16 = .ok (.iload_n 2, 1) := by decide +kernel
theorem dX6_walk_17 : decode cX6_walk 17 = .ok (.iload 4, 2) := by decide +kernel
theorem dX6_walk_19 : decode cX6_walk 19 = .ok (.invokestatic 70, 3) := by decide +kernel
theorem dX6_walk_22 : decode cX6_walk 22 = .ok (.ifCond .eq 76, 3) := by decide +kernel
theorem dX6_walk_25 : decode cX6_walk 25 = .ok (.aload_n 0, 1) := by decide +kernel
theorem dX6_walk_26 : decode cX6_walk 26 = .ok (.iload 4, 2) := by decide +kernel
theorem dX6_walk_28 : decode cX6_walk 28 = .ok (.iconst 1, 1) := by decide +kernel
theorem dX6_walk_29 : decode cX6_walk 29 = .ok (.invokevirtual 58, 3) := by decide +kernel
theorem dX6_walk_32 : decode cX6_walk 32 = .ok (.iload_n 1, 1) := by decide +kernel
theorem dX6_walk_33 : decode cX6_walk 33 = .ok (.isub, 1) := by decide +kernel
theorem dX6_walk_34 : decode cX6_walk 34 = .ok (.bipush 100, 2) := by decide +kernel
theorem dX6_walk_36 : decode cX6_walk 36 = .ok (.iadd, 1) := by decide +kernel
theorem dX6_walk_37 : decode cX6_walk 37 = .ok (.bipush 100, 2) := by decide +kernel
theorem dX6_walk_39 : decode cX6_walk 39 = .ok (.irem, 1) := by decide +kernel
theorem dX6_walk_40 : decode cX6_walk 40 = .ok (.istore 5, 2) := by decide +kernel
theorem dX6_walk_42 : decode cX6_walk 42 = .ok (.iload_n 3, 1) := by decide +kernel
theorem dX6_walk_43 : decode cX6_walk 43 = .ok (.istore 6, 2) := by decide +kernel
theorem dX6_walk_45 : decode cX6_walk 45 = .ok (.iload 6, 2) := by decide +kernel
theorem dX6_walk_47 : decode cX6_walk 47 = .ok (.ifCond .le 39, 3) := by decide +kernel
theorem dX6_walk_50 : decode cX6_walk 50 = .ok (.aload_n 0, 1) := by decide +kernel
theorem dX6_walk_51 : decode cX6_walk 51 = .ok (.getfield 22, 3) := by decide +kernel
theorem dX6_walk_54 : decode cX6_walk 54 = .ok (.iload 6, 2) := by decide +kernel
theorem dX6_walk_56 : decode cX6_walk 56 = .ok (.iconst 1, 1) := by decide +kernel
theorem dX6_walk_57 : decode cX6_walk 57 = .ok (.isub, 1) := by decide +kernel
theorem dX6_walk_58 : decode cX6_walk 58 = .ok (.iaload, 1) := by decide +kernel
theorem dX6_walk_59 : decode cX6_walk 59 = .ok (.iload 5, 2) := by decide +kernel
theorem dX6_walk_61 : decode cX6_walk 61 = .ok (.if_icmp .le 25, 3) := by decide +kernel
theorem dX6_walk_64 : decode cX6_walk 64 = .ok (.aload_n 0, 1) := by decide +kernel
theorem dX6_walk_65 : decode cX6_walk 65 = .ok (.getfield 22, 3) := by decide +kernel
theorem dX6_walk_68 : decode cX6_walk 68 = .ok (.iload 6, 2) := by decide +kernel
theorem dX6_walk_70 : decode cX6_walk 70 = .ok (.aload_n 0, 1) := by decide +kernel
theorem dX6_walk_71 : decode cX6_walk 71 = .ok (.getfield 22, 3) := by decide +kernel
theorem dX6_walk_74 : decode cX6_walk 74 = .ok (.iload 6, 2) := by decide +kernel
theorem dX6_walk_76 : decode cX6_walk 76 = .ok (.iconst 1, 1) := by decide +kernel
theorem dX6_walk_77 : decode cX6_walk 77 = .ok (.isub, 1) := by decide +kernel
theorem dX6_walk_78 : decode cX6_walk 78 = .ok (.iaload, 1) := by decide +kernel
theorem dX6_walk_79 : decode cX6_walk 79 = .ok (.iastore, 1) := by decide +kernel
theorem dX6_walk_80 : decode cX6_walk 80 = .ok (.iinc 6 (-1), 3) := by decide +kernel
theorem dX6_walk_83 : decode cX6_walk 83 = .ok (.goto (-38), 3) := by decide +kernel
theorem dX6_walk_86 : decode cX6_walk 86 = .ok (.aload_n 0, 1) := by decide +kernel
theorem dX6_walk_87 : decode cX6_walk 87 = .ok (.getfield 22, 3) := by decide +kernel
theorem dX6_walk_90 : decode cX6_walk 90 = .ok (.iload 6, 2) := by decide +kernel
theorem dX6_walk_92 : decode cX6_walk 92 = .ok (.iload 5, 2) := by decide +kernel
theorem dX6_walk_94 : decode cX6_walk 94 = .ok (.iastore, 1) := by decide +kernel
theorem dX6_walk_95 : decode cX6_walk 95 = .ok (.iinc 3 1, 3) := by decide +kernel
theorem dX6_walk_98 : decode cX6_walk 98 = .ok (.iinc 4 1, 3) := by decide +kernel
theorem dX6_walk_101 : decode cX6_walk 101 = .ok (.goto (-96), 3) := by decide +kernel
theorem dX6_walk_104 : decode cX6_walk 104 = .ok (.iconst (-1), 1) := by decide +kernel
theorem dX6_walk_105 : decode cX6_walk 105 = .ok (.istore 4, 2) := by decide +kernel
theorem dX6_walk_107 : decode cX6_walk 107 = .ok (.iconst 0, 1) := by decide +kernel
theorem dX6_walk_108 : decode cX6_walk 108 = .ok (.istore 5, 2) := by decide +kernel
theorem dX6_walk_110 : decode cX6_walk 110 = .ok (.iload 5, 2) := by decide +kernel
theorem dX6_walk_112 : decode cX6_walk 112 = .ok (.iload_n 3, 1) := by decide +kernel
theorem dX6_walk_113 : decode cX6_walk 113 = .ok (.if_icmp .gt 85, 3) := by decide +kernel
theorem dX6_walk_116 : decode cX6_walk 116 = .ok (.iload 5, 2) := by decide +kernel
theorem dX6_walk_118 : decode cX6_walk 118 = .ok (.ifCond .ne 7, 3) := by decide +kernel
theorem dX6_walk_121 : decode cX6_walk 121 = .ok (.iconst 0, 1) := by decide +kernel
theorem dX6_walk_122 : decode cX6_walk 122 = .ok (.goto 12, 3) := by decide +kernel
theorem dX6_walk_125 : decode cX6_walk 125 = .ok (.aload_n 0, 1) := by decide +kernel
theorem dX6_walk_126 : decode cX6_walk 126 = .ok (.getfield 22, 3) := by decide +kernel
theorem dX6_walk_129 : decode cX6_walk 129 = .ok (.iload 5, 2) := by decide +kernel
theorem dX6_walk_131 : decode cX6_walk 131 = .ok (.iconst 1, 1) := by decide +kernel
theorem dX6_walk_132 : decode cX6_walk 132 = .ok (.isub, 1) := by decide +kernel
theorem dX6_walk_133 : decode cX6_walk 133 = .ok (.iaload, 1) := by decide +kernel
theorem dX6_walk_134 : decode cX6_walk 134 = .ok (.istore 6, 2) := by decide +kernel
theorem dX6_walk_136 : decode cX6_walk 136 = .ok (.iload 5, 2) := by decide +kernel
theorem dX6_walk_138 : decode cX6_walk 138 = .ok (.iload_n 3, 1) := by decide +kernel
theorem dX6_walk_139 : decode cX6_walk 139 = .ok (.if_icmp .ne 7, 3) := by decide +kernel
theorem dX6_walk_142 : decode cX6_walk 142 = .ok (.iconst 0, 1) := by decide +kernel
theorem dX6_walk_143 : decode cX6_walk 143 = .ok (.goto 13, 3) := by decide +kernel
theorem dX6_walk_146 : decode cX6_walk 146 = .ok (.bipush 100, 2) := by decide +kernel
theorem dX6_walk_148 : decode cX6_walk 148 = .ok (.aload_n 0, 1) := by decide +kernel
theorem dX6_walk_149 : decode cX6_walk 149 = .ok (.getfield 22, 3) := by decide +kernel
theorem dX6_walk_152 : decode cX6_walk 152 = .ok (.iload 5, 2) := by decide +kernel
theorem dX6_walk_154 : decode cX6_walk 154 = .ok (.iaload, 1) := by decide +kernel
theorem dX6_walk_155 : decode cX6_walk 155 = .ok (.isub, 1) := by decide +kernel
theorem dX6_walk_156 : decode cX6_walk 156 = .ok (.istore 7, 2) := by decide +kernel
theorem dX6_walk_158 : decode cX6_walk 158 = .ok (.iload 6, 2) := by decide +kernel
theorem dX6_walk_160 : decode cX6_walk 160 = .ok (.iload 7, 2) := by decide +kernel
theorem dX6_walk_162 : decode cX6_walk 162 = .ok (.iadd, 1) := by decide +kernel
theorem dX6_walk_163 : decode cX6_walk 163 = .ok (.iload 6, 2) := by decide +kernel
theorem dX6_walk_165 : decode cX6_walk 165 = .ok (.iload 7, 2) := by decide +kernel
theorem dX6_walk_167 : decode cX6_walk 167 = .ok (.invokestatic 85, 3) := by decide +kernel
theorem dX6_walk_170 : decode cX6_walk 170 = .ok (.iadd, 1) := by decide +kernel
theorem dX6_walk_171 : decode cX6_walk 171 = .ok (.istore 8, 2) := by decide +kernel
theorem dX6_walk_173 : decode cX6_walk 173 = .ok (.iload 4, 2) := by decide +kernel
theorem dX6_walk_175 : decode cX6_walk 175 = .ok (.ifCond .ge 8, 3) := by decide +kernel
theorem dX6_walk_178 : decode cX6_walk 178 = .ok (.iload 8, 2) := by decide +kernel
theorem dX6_walk_180 : decode cX6_walk 180 = .ok (.goto 10, 3) := by decide +kernel
theorem dX6_walk_183 : decode cX6_walk 183 = .ok (.iload 4, 2) := by decide +kernel
theorem dX6_walk_185 : decode cX6_walk 185 = .ok (.iload 8, 2) := by decide +kernel
theorem dX6_walk_187 : decode cX6_walk 187 = .ok (.invokestatic 85, 3) := by decide +kernel
theorem dX6_walk_190 : decode cX6_walk 190 = .ok (.istore 4, 2) := by decide +kernel
theorem dX6_walk_192 : decode cX6_walk 192 = .ok (.iinc 5 1, 3) := by decide +kernel
theorem dX6_walk_195 : decode cX6_walk 195 = .ok (.goto (-85), 3) := by decide +kernel
theorem dX6_walk_198 : decode cX6_walk 198 = .ok (.iload 4, 2) := by decide +kernel
theorem dX6_walk_200 : decode cX6_walk 200 = .ok (.ireturn, 1) := by decide +kernel
theorem dX6_roundOf_0 : decode cX6_roundOf 0 = .ok (.aload_n 0, 1) := by decide +kernel
theorem dX6_roundOf_1 : decode cX6_roundOf 1 = .ok (.iload_n 1, 1) := by decide +kernel
theorem dX6_roundOf_2 : decode cX6_roundOf 2 = .ok (.iload_n 2, 1) := by decide +kernel
theorem dX6_roundOf_3 : decode cX6_roundOf 3 = .ok (.invokevirtual 142, 3) := by decide +kernel
theorem dX6_roundOf_6 : decode cX6_roundOf 6 = .ok (.aload_n 0, 1) := by decide +kernel
theorem dX6_roundOf_7 : decode cX6_roundOf 7 = .ok (.getfield 9, 3) := by decide +kernel
theorem dX6_roundOf_10 : decode cX6_roundOf 10 = .ok (.bipush 6, 2) := by decide +kernel
theorem dX6_roundOf_12 : decode cX6_roundOf 12 = .ok (.iaload, 1) := by decide +kernel
theorem dX6_roundOf_13 : decode cX6_roundOf 13 = .ok (.iload_n 2, 1) := by decide +kernel
theorem dX6_roundOf_14 : decode cX6_roundOf 14 = .ok (.invokestatic 121, 3) := by decide +kernel
theorem dX6_roundOf_17 : decode cX6_roundOf 17 = .ok (.imul, 1) := by decide +kernel
theorem dX6_roundOf_18 : decode cX6_roundOf 18 = .ok (.iadd, 1) := by decide +kernel
theorem dX6_roundOf_19 : decode cX6_roundOf 19 = .ok (.ireturn, 1) := by decide +kernel
theorem dX6_round_0 : decode cX6_round 0 = .ok (.iload_n 1, 1) := by decide +kernel
theorem dX6_round_1 : decode cX6_round 1 = .ok (.invokestatic 104, 3) := by decide +kernel
theorem dX6_round_4 : decode cX6_round 4 = .ok (.ifCond .eq 24, 3) := by decide +kernel
theorem dX6_round_7 : decode cX6_round 7 = .ok (.aload_n 0, 1) := by decide +kernel
theorem dX6_round_8 : decode cX6_round 8 = .ok (.iload_n 2, 1) := by decide +kernel
theorem dX6_round_9 : decode cX6_round 9 = .ok (.invokevirtual 145, 3) := by decide +kernel
theorem dX6_round_12 : decode cX6_round 12 = .ok (.ifCond .eq 16, 3) := by decide +kernel
theorem dX6_round_15 : decode cX6_round 15 = .ok (.aload_n 0, 1) := by decide +kernel
theorem dX6_round_16 : decode cX6_round 16 = .ok (.aload_n 0, 1) := by decide +kernel
theorem dX6_round_17 : decode cX6_round 17 = .ok (.iload_n 1, 1) := by decide +kernel
theorem dX6_round_18 : decode cX6_round 18 = .ok (.invokevirtual 130, 3) := by decide +kernel
theorem dX6_round_21 : decode cX6_round 21 = .ok (.iload_n 2, 1) := by decide +kernel
theorem dX6_round_22 : decode cX6_round 22 = .ok (.invokevirtual 148, 3) := by decide +kernel
theorem dX6_round_25 : decode cX6_round 25 = .ok (.goto 8, 3) := by decide +kernel
theorem dX6_round_28 : decode cX6_round 28 = .ok (.aload_n 0, 1) := by decide +kernel
theorem dX6_round_29 : decode cX6_round 29 = .ok (.iconst 0, 1) := by decide +kernel
theorem dX6_round_30 : decode cX6_round 30 = .ok (.invokevirtual 94, 3) := by decide +kernel
theorem dX6_round_33 : decode cX6_round 33 = .ok (.ireturn, 1) := by decide +kernel
theorem dX6_bestOf_0 : decode cX6_bestOf 0 = .ok (.iconst 0, 1) := by decide +kernel
theorem dX6_bestOf_1 : decode cX6_bestOf 1 = .ok (.istore_n 2, 1) := by decide +kernel
theorem dX6_bestOf_2 : decode cX6_bestOf 2 = .ok (.iconst 1, 1) := by decide +kernel
theorem dX6_bestOf_3 : decode cX6_bestOf 3 = .ok (.istore_n 3, 1) := by decide +kernel
theorem dX6_bestOf_4 : decode cX6_bestOf 4 = .ok (.iload_n 3, 1) := by decide +kernel
theorem dX6_bestOf_5 : decode cX6_bestOf 5 = .ok (.iconst 1, 1) := by decide +kernel
theorem dX6_bestOf_6 : decode cX6_bestOf 6 = .ok (.aload_n 0, 1) := by decide +kernel
theorem dX6_bestOf_7 : decode cX6_bestOf 7 = .ok (.getfield 9, 3) := by decide +kernel
theorem dX6_bestOf_10 : decode cX6_bestOf 10 = .ok (.iconst 1, 1) := by decide +kernel
theorem dX6_bestOf_11 : decode cX6_bestOf 11 = .ok (.iaload, 1) := by decide +kernel
theorem dX6_bestOf_12 : decode cX6_bestOf 12 = .ok (.ishl, 1) := by decide +kernel
theorem dX6_bestOf_13 : decode cX6_bestOf 13 = .ok (.if_icmp .ge 72, 3) := by decide +kernel
theorem dX6_bestOf_16 : decode cX6_bestOf 16 = .ok (.aload_n 0, 1) := by decide +kernel
theorem dX6_bestOf_17 : decode cX6_bestOf 17 = .ok (.iload_n 3, 1) := by decide +kernel
theorem dX6_bestOf_18 : decode cX6_bestOf 18 = .ok (.invokevirtual 127, 3) := by decide +kernel
theorem dX6_bestOf_21 : decode cX6_bestOf 21 = .ok (.aload_n 0, 1) := by decide +kernel
theorem dX6_bestOf_22 : decode cX6_bestOf 22 = .ok (.iload_n 2, 1) := by decide +kernel
theorem dX6_bestOf_23 : decode cX6_bestOf 23 = .ok (.invokevirtual 127, 3) := by decide +kernel
theorem dX6_bestOf_26 : decode cX6_bestOf 26 = .ok (.if_icmp .le 21, 3) := by decide +kernel
theorem dX6_bestOf_29 : decode cX6_bestOf 29 = .ok (.iload_n 3, 1) := by decide +kernel
theorem dX6_bestOf_30 : decode cX6_bestOf 30 = .ok (.invokestatic 121, 3) := by decide +kernel
theorem dX6_bestOf_33 : decode cX6_bestOf 33 = .ok (.aload_n 0, 1) := by decide +kernel
theorem dX6_bestOf_34 : decode cX6_bestOf 34 = .ok (.getfield 9, 3) := by decide +kernel
theorem dX6_bestOf_37 : decode cX6_bestOf 37 = .ok (.bipush 7, 2) := by decide +kernel
theorem dX6_bestOf_39 : decode cX6_bestOf 39 = .ok (.iaload, 1) := by decide +kernel
theorem dX6_bestOf_40 : decode cX6_bestOf 40 = .ok (.if_icmp .gt 7, 3) := by decide +kernel
theorem dX6_bestOf_43 : decode cX6_bestOf 43 = .ok (.iconst 1, 1) := by decide +kernel
theorem dX6_bestOf_44 : decode cX6_bestOf 44 = .ok (.goto 4, 3) := by decide +kernel
theorem dX6_bestOf_47 : decode cX6_bestOf 47 = .ok (.iconst 0, 1) := by decide +kernel
theorem dX6_bestOf_48 : decode cX6_bestOf 48 = .ok (.istore 4, 2) := by decide +kernel
theorem dX6_bestOf_50 : decode cX6_bestOf 50 = .ok (.iload 4, 2) := by decide +kernel
theorem dX6_bestOf_52 : decode cX6_bestOf 52 = .ok (.ifCond .eq 25, 3) := by decide +kernel
theorem dX6_bestOf_55 : decode cX6_bestOf 55 = .ok (.aload_n 0, 1) := by decide +kernel
theorem dX6_bestOf_56 : decode cX6_bestOf 56 = .ok (.aload_n 0, 1) := by decide +kernel
theorem dX6_bestOf_57 : decode cX6_bestOf 57 = .ok (.iload_n 1, 1) := by decide +kernel
theorem dX6_bestOf_58 : decode cX6_bestOf 58 = .ok (.invokevirtual 130, 3) := by decide +kernel
theorem dX6_bestOf_61 : decode cX6_bestOf 61 = .ok (.iload_n 3, 1) := by decide +kernel
theorem dX6_bestOf_62 : decode cX6_bestOf 62 = .ok (.invokevirtual 148, 3) := by decide +kernel
theorem dX6_bestOf_65 : decode cX6_bestOf 65 = .ok (.aload_n 0, 1) := by decide +kernel
theorem dX6_bestOf_66 : decode cX6_bestOf 66 = .ok (.iload_n 1, 1) := by decide +kernel
theorem dX6_bestOf_67 : decode cX6_bestOf 67 = .ok (.invokevirtual 151, 3) := by decide +kernel
theorem dX6_bestOf_70 : decode cX6_bestOf 70 = .ok (.if_icmp .gt 7, 3) := by decide +kernel
theorem dX6_bestOf_73 : decode cX6_bestOf 73 = .ok (.iload_n 3, 1) := by decide +kernel
theorem dX6_bestOf_74 : decode cX6_bestOf 74 = .ok (.goto 4, 3) := by decide +kernel
theorem dX6_bestOf_77 : decode cX6_bestOf 77 = .ok (.iload_n 2, 1) := by decide +kernel
theorem dX6_bestOf_78 : decode cX6_bestOf 78 = .ok (.istore_n 2, 1) := by decide +kernel
theorem dX6_bestOf_79 : decode cX6_bestOf 79 = .ok (.iinc 3 1, 3) := by decide +kernel
theorem dX6_bestOf_82 : decode cX6_bestOf 82 = .ok (.goto (-78), 3) := by decide +kernel
theorem dX6_bestOf_85 : decode cX6_bestOf 85 = .ok (.iload_n 2, 1) := by decide +kernel
theorem dX6_bestOf_86 : decode cX6_bestOf 86 = .ok (.ireturn, 1) := by decide +kernel
theorem dX6_best_0 : decode cX6_best 0 = .ok (.iload_n 1, 1) := by decide +kernel
theorem dX6_best_1 : decode cX6_best 1 = .ok (.invokestatic 104, 3) := by decide +kernel
theorem dX6_best_4 : decode cX6_best 4 = .ok (.ifCond .eq 11, 3) := by decide +kernel
theorem dX6_best_7 : decode cX6_best 7 = .ok (.aload_n 0, 1) := by decide +kernel
theorem dX6_best_8 : decode cX6_best 8 = .ok (.iload_n 1, 1) := by decide +kernel
theorem dX6_best_9 : decode cX6_best 9 = .ok (.invokevirtual 154, 3) := by decide +kernel
theorem dX6_best_12 : decode cX6_best 12 = .ok (.goto 8, 3) := by decide +kernel
theorem dX6_best_15 : decode cX6_best 15 = .ok (.aload_n 0, 1) := by decide +kernel
theorem dX6_best_16 : decode cX6_best 16 = .ok (.iconst 0, 1) := by decide +kernel
theorem dX6_best_17 : decode cX6_best 17 = .ok (.invokevirtual 94, 3) := by decide +kernel
theorem dX6_best_20 : decode cX6_best 20 = .ok (.ireturn, 1) := by decide +kernel
theorem dX6_bestWorth_0 : decode cX6_bestWorth 0 = .ok (.iload_n 1, 1) := by decide +kernel
theorem dX6_bestWorth_1 : decode cX6_bestWorth 1 = .ok (.invokestatic 104, 3) := by decide +kernel
theorem dX6_bestWorth_4 : decode cX6_bestWorth 4 = .ok (.ifCond .eq 15, 3) := by decide +kernel
theorem dX6_bestWorth_7 : decode cX6_bestWorth 7 = .ok (.aload_n 0, 1) := by decide +kernel
theorem dX6_bestWorth_8 : decode cX6_bestWorth 8 = .ok (.aload_n 0, 1) := by decide +kernel
theorem dX6_bestWorth_9 : decode cX6_bestWorth 9 = .ok (.iload_n 1, 1) := by decide +kernel
theorem dX6_bestWorth_10 : decode cX6_bestWorth 10 = .ok (.invokevirtual 154, 3) := by decide +kernel
theorem dX6_bestWorth_13 : decode cX6_bestWorth 13 = .ok (.invokevirtual 127, 3) := by decide +kernel
theorem dX6_bestWorth_16 : decode cX6_bestWorth 16 = .ok (.goto 8, 3) := by decide +kernel
theorem dX6_bestWorth_19 : decode cX6_bestWorth 19 = .ok (.aload_n 0, 1) := by decide +kernel
theorem dX6_bestWorth_20 : decode cX6_bestWorth 20 = .ok (.iconst 0, 1) := by decide +kernel
theorem dX6_bestWorth_21 : decode cX6_bestWorth 21 = .ok (.invokevirtual 94, 3) := by decide +kernel
theorem dX6_bestWorth_24 : decode cX6_bestWorth 24 = .ok (.ireturn, 1) := by decide +kernel
theorem dX6_from_0 : decode cX6_from 0 = .ok (.iload_n 1, 1) := by decide +kernel
theorem dX6_from_1 : decode cX6_from 1 = .ok (.invokestatic 104, 3) := by decide +kernel
theorem dX6_from_4 : decode cX6_from 4 = .ok (.ifCond .eq 11, 3) := by decide +kernel
theorem dX6_from_7 : decode cX6_from 7 = .ok (.aload_n 0, 1) := by decide +kernel
theorem dX6_from_8 : decode cX6_from 8 = .ok (.iload_n 2, 1) := by decide +kernel
theorem dX6_from_9 : decode cX6_from 9 = .ok (.invokevirtual 145, 3) := by decide +kernel
theorem dX6_from_12 : decode cX6_from 12 = .ok (.ifCond .ne 9, 3) := by decide +kernel
theorem dX6_from_15 : decode cX6_from 15 = .ok (.aload_n 0, 1) := by decide +kernel
theorem dX6_from_16 : decode cX6_from 16 = .ok (.iconst 0, 1) := by decide +kernel
theorem dX6_from_17 : decode cX6_from 17 = .ok (.invokevirtual 94, 3) := by decide +kernel
theorem dX6_from_20 : decode cX6_from 20 = .ok (.ireturn, 1) := by decide +kernel
theorem dX6_from_21 : decode cX6_from 21 = .ok (.iconst 0, 1) := by decide +kernel
theorem dX6_from_22 : decode cX6_from 22 = .ok (.istore_n 3, 1) := by decide +kernel
theorem dX6_from_23 : decode cX6_from 23 = .ok (.iconst 1, 1) := by decide +kernel
theorem dX6_from_24 : decode cX6_from 24 = .ok (.istore 4, 2) := by decide +kernel
theorem dX6_from_26 : decode cX6_from 26 = .ok (.iload 4, 2) := by decide +kernel
theorem dX6_from_28 : decode cX6_from 28 = .ok (.bipush 100, 2) := by decide +kernel
theorem dX6_from_30 : decode cX6_from 30 = .ok (.if_icmp .ge 32, 3) := by decide +kernel
theorem dX6_from_33 : decode cX6_from 33 = .ok (.aload_n 0, 1) := by decide +kernel
theorem dX6_from_34 : decode cX6_from 34 = .ok (.iload 4, 2) := by decide +kernel
theorem dX6_from_36 : decode cX6_from 36 = .ok (.iload_n 2, 1) := by decide +kernel
theorem dX6_from_37 : decode cX6_from 37 = .ok (.invokevirtual 148, 3) := by decide +kernel
theorem dX6_from_40 : decode cX6_from 40 = .ok (.aload_n 0, 1) := by decide +kernel
theorem dX6_from_41 : decode cX6_from 41 = .ok (.iload_n 3, 1) := by decide +kernel
theorem dX6_from_42 : decode cX6_from 42 = .ok (.iload_n 2, 1) := by decide +kernel
theorem dX6_from_43 : decode cX6_from 43 = .ok (.invokevirtual 148, 3) := by decide +kernel
theorem dX6_from_46 : decode cX6_from 46 = .ok (.if_icmp .ge 8, 3) := by decide +kernel
theorem dX6_from_49 : decode cX6_from 49 = .ok (.iload 4, 2) := by decide +kernel
theorem dX6_from_51 : decode cX6_from 51 = .ok (.goto 4, 3) := by decide +kernel
theorem dX6_from_54 : decode cX6_from 54 = .ok (.iload_n 3, 1) := by decide +kernel
theorem dX6_from_55 : decode cX6_from 55 = .ok (.istore_n 3, 1) := by decide +kernel
theorem dX6_from_56 : decode cX6_from 56 = .ok (.iinc 4 1, 3) := by decide +kernel
theorem dX6_from_59 : decode cX6_from 59 = .ok (.goto (-33), 3) := by decide +kernel
theorem dX6_from_62 : decode cX6_from 62 = .ok (.iload_n 3, 1) := by decide +kernel
theorem dX6_from_63 : decode cX6_from 63 = .ok (.ireturn, 1) := by decide +kernel
theorem dX6_longerOf_0 : decode cX6_longerOf 0 = .ok (.aload_n 0, 1) := by decide +kernel
theorem dX6_longerOf_1 : decode cX6_longerOf 1 = .ok (.aload_n 0, 1) := by decide +kernel
theorem dX6_longerOf_2 : decode cX6_longerOf 2 = .ok (.iload_n 1, 1) := by decide +kernel
theorem dX6_longerOf_3 : decode cX6_longerOf 3 = .ok (.invokevirtual 130, 3) := by decide +kernel
theorem dX6_longerOf_6 : decode cX6_longerOf 6 = .ok (.iload_n 3, 1) := by decide +kernel
theorem dX6_longerOf_7 : decode cX6_longerOf 7 = .ok (.invokevirtual 148, 3) := by decide +kernel
theorem dX6_longerOf_10 : decode cX6_longerOf 10 = .ok (.aload_n 0, 1) := by decide +kernel
theorem dX6_longerOf_11 : decode cX6_longerOf 11 = .ok (.aload_n 0, 1) := by decide +kernel
theorem dX6_longerOf_12 : decode cX6_longerOf 12 = .ok (.iload_n 2, 1) := by decide +kernel
theorem dX6_longerOf_13 : decode cX6_longerOf 13 = .ok (.invokevirtual 130, 3) := by decide +kernel
theorem dX6_longerOf_16 : decode cX6_longerOf 16 = .ok (.iload 4, 2) := by decide +kernel
theorem dX6_longerOf_18 : decode cX6_longerOf 18 = .ok (.invokevirtual 148, 3) := by decide +kernel
theorem dX6_longerOf_21 : decode cX6_longerOf 21 = .ok (.invokestatic 77, 3) := by decide +kernel
theorem dX6_longerOf_24 : decode cX6_longerOf 24 = .ok (.ireturn, 1) := by decide +kernel
theorem dX6_bestShare_0 : decode cX6_bestShare 0 = .ok (.iconst (-1), 1) := by decide +kernel
theorem dX6_bestShare_1 : decode cX6_bestShare 1 = .ok (.istore 4, 2) := by decide +kernel
theorem dX6_bestShare_3 : decode cX6_bestShare 3 = .ok (.iconst 0, 1) := by decide +kernel
theorem dX6_bestShare_4 : decode cX6_bestShare 4 = .ok (.istore 5, 2) := by decide +kernel
theorem dX6_bestShare_6 : decode cX6_bestShare 6 = .ok (.iconst 0, 1) := by decide +kernel
theorem dX6_bestShare_7 : decode cX6_bestShare 7 = .ok (.istore 6, 2) := by decide +kernel
theorem dX6_bestShare_9 : decode cX6_bestShare 9 = .ok (.iload 6, 2) := by decide +kernel
theorem dX6_bestShare_11 : decode cX6_bestShare 11 = .ok (.iload_n 3, 1) := by decide +kernel
theorem dX6_bestShare_12 : decode cX6_bestShare 12 = .ok (.if_icmp .gt 81, 3) := by decide +kernel
theorem dX6_bestShare_15 : decode cX6_bestShare 15 = .ok (.iload 6, 2) := by decide +kernel
theorem dX6_bestShare_17 : decode cX6_bestShare 17 = .ok (.iload_n 3, 1) := by decide +kernel
theorem dX6_bestShare_18 : decode cX6_bestShare 18 = .ok (.iconst (-1), 1) := by decide +kernel
theorem dX6_bestShare_19 : decode cX6_bestShare 19 = .ok (.ixor, 1) := by decide +kernel
theorem dX6_bestShare_20 : decode cX6_bestShare 20 = .ok (.iand, 1) := by decide +kernel
theorem dX6_bestShare_21 : decode cX6_bestShare 21 = .ok (.ifCond .ne 66, 3) := by decide +kernel
theorem dX6_bestShare_24 : decode cX6_bestShare 24 = .ok (.aload_n 0, 1) := by decide +kernel
theorem dX6_bestShare_25 : decode cX6_bestShare 25 = .ok (.iload_n 1, 1) := by decide +kernel
theorem dX6_bestShare_26 : decode cX6_bestShare 26 = .ok (.iload_n 2, 1) := by decide +kernel
theorem dX6_bestShare_27 : decode cX6_bestShare 27 = .ok (.iload 6, 2) := by decide +kernel
theorem dX6_bestShare_29 : decode cX6_bestShare 29 = .ok (.iload_n 3, 1) := by decide +kernel
theorem dX6_bestShare_30 : decode cX6_bestShare 30 = .ok (.iload 6, 2) := by decide +kernel
theorem dX6_bestShare_32 : decode cX6_bestShare 32 = .ok (.iconst (-1), 1) := by decide +kernel
theorem dX6_bestShare_33 : decode cX6_bestShare 33 = .ok (.ixor, 1) := by decide +kernel
theorem dX6_bestShare_34 : decode cX6_bestShare 34 = .ok (.iand, 1) := by decide +kernel
theorem dX6_bestShare_35 : decode cX6_bestShare 35 = .ok (.invokevirtual 157, 3) := by decide +kernel
theorem dX6_bestShare_38 : decode cX6_bestShare 38 = .ok (.istore 7, 2) := by decide +kernel
theorem dX6_bestShare_40 : decode cX6_bestShare 40 = .ok (.iload 4, 2) := by decide +kernel
theorem dX6_bestShare_42 : decode cX6_bestShare 42 = .ok (.ifCond .lt 10, 3) := by decide +kernel
theorem dX6_bestShare_45 : decode cX6_bestShare 45 = .ok (.iload 7, 2) := by decide +kernel
theorem dX6_bestShare_47 : decode cX6_bestShare 47 = .ok (.iload 5, 2) := by decide +kernel
theorem dX6_bestShare_49 : decode cX6_bestShare 49 = .ok (.if_icmp .ge 7, 3) := by decide +kernel
theorem dX6_bestShare_52 : decode cX6_bestShare 52 = .ok (.iconst 1, 1) := by decide +kernel
theorem dX6_bestShare_53 : decode cX6_bestShare 53 = .ok (.goto 4, 3) := by decide +kernel
theorem dX6_bestShare_56 : decode cX6_bestShare 56 = .ok (.iconst 0, 1) := by decide +kernel
theorem dX6_bestShare_57 : decode cX6_bestShare 57 = .ok (.istore 8, 2) := by decide +kernel
theorem dX6_bestShare_59 : decode cX6_bestShare 59 = .ok (.iload 8, 2) := by decide +kernel
theorem dX6_bestShare_61 : decode cX6_bestShare 61 = .ok (.ifCond .eq 8, 3) := by decide +kernel
theorem dX6_bestShare_64 : decode cX6_bestShare 64 = .ok (.iload 6, 2) := by decide +kernel
theorem dX6_bestShare_66 : decode cX6_bestShare 66 = .ok (.goto 5, 3) := by decide +kernel
theorem dX6_bestShare_69 : decode cX6_bestShare 69 = .ok (.iload 4, 2) := by decide +kernel
theorem dX6_bestShare_71 : decode cX6_bestShare 71 = .ok (.istore 4, 2) := by decide +kernel
theorem dX6_bestShare_73 : decode cX6_bestShare 73 = .ok (.iload 8, 2) := by decide +kernel
theorem dX6_bestShare_75 : decode cX6_bestShare 75 = .ok (.ifCond .eq 8, 3) := by decide +kernel
theorem dX6_bestShare_78 : decode cX6_bestShare 78 = .ok (.iload 7, 2) := by decide +kernel
theorem dX6_bestShare_80 : decode cX6_bestShare 80 = .ok (.goto 5, 3) := by decide +kernel
theorem dX6_bestShare_83 : decode cX6_bestShare 83 = .ok (.iload 5, 2) := by decide +kernel
theorem dX6_bestShare_85 : decode cX6_bestShare 85 = .ok (.istore 5, 2) := by decide +kernel
theorem dX6_bestShare_87 : decode cX6_bestShare 87 = .ok (.iinc 6 1, 3) := by decide +kernel
theorem dX6_bestShare_90 : decode cX6_bestShare 90 = .ok (.goto (-81), 3) := by decide +kernel
theorem dX6_bestShare_93 : decode cX6_bestShare 93 = .ok (.iload 4, 2) := by decide +kernel
theorem dX6_bestShare_95 : decode cX6_bestShare 95 = .ok (.ireturn, 1) := by decide +kernel
theorem dX6_canShare_0 : decode cX6_canShare 0 = .ok (.iload_n 1, 1) := by decide +kernel
theorem dX6_canShare_1 : decode cX6_canShare 1 = .ok (.invokestatic 104, 3) := by decide +kernel
theorem dX6_canShare_4 : decode cX6_canShare 4 = .ok (.ifCond .eq 27, 3) := by decide +kernel
theorem dX6_canShare_7 : decode cX6_canShare 7 = .ok (.iload_n 2, 1) := by decide +kernel
theorem dX6_canShare_8 : decode cX6_canShare 8 = .ok (.invokestatic 104, 3) := by decide +kernel
theorem dX6_canShare_11 : decode cX6_canShare 11 = .ok (.ifCond .eq 20, 3) := by decide +kernel
theorem dX6_canShare_14 : decode cX6_canShare 14 = .ok (.iload_n 1, 1) := by decide +kernel
theorem dX6_canShare_15 : decode cX6_canShare 15 = .ok (.iload_n 2, 1) := by decide +kernel
theorem dX6_canShare_16 : decode cX6_canShare 16 = .ok (.if_icmp .eq 15, 3) := by decide +kernel
theorem dX6_canShare_19 : decode cX6_canShare 19 = .ok (.aload_n 0, 1) := by decide +kernel
theorem dX6_canShare_20 : decode cX6_canShare 20 = .ok (.iload_n 3, 1) := by decide +kernel
theorem dX6_canShare_21 : decode cX6_canShare 21 = .ok (.invokevirtual 145, 3) := by decide +kernel
theorem dX6_canShare_24 : decode cX6_canShare 24 = .ok (.ifCond .eq 7, 3) := by decide +kernel
theorem dX6_canShare_27 : decode cX6_canShare 27 = .ok (.iconst 1, 1) := by decide +kernel
theorem dX6_canShare_28 : decode cX6_canShare 28 = .ok (.goto 4, 3) := by decide +kernel
theorem dX6_canShare_31 : decode cX6_canShare 31 = .ok (.iconst 0, 1) := by decide +kernel
theorem dX6_canShare_32 : decode cX6_canShare 32 = .ok (.ireturn, 1) := by decide +kernel
theorem dX6_share_0 : decode cX6_share 0 = .ok (.aload_n 0, 1) := by decide +kernel
theorem dX6_share_1 : decode cX6_share 1 = .ok (.iload_n 1, 1) := by decide +kernel
theorem dX6_share_2 : decode cX6_share 2 = .ok (.iload_n 2, 1) := by decide +kernel
theorem dX6_share_3 : decode cX6_share 3 = .ok (.iload_n 3, 1) := by decide +kernel
theorem dX6_share_4 : decode cX6_share 4 = .ok (.invokevirtual 161, 3) := by decide +kernel
theorem dX6_share_7 : decode cX6_share 7 = .ok (.ifCond .eq 13, 3) := by decide +kernel
theorem dX6_share_10 : decode cX6_share 10 = .ok (.aload_n 0, 1) := by decide +kernel
theorem dX6_share_11 : decode cX6_share 11 = .ok (.iload_n 1, 1) := by decide +kernel
theorem dX6_share_12 : decode cX6_share 12 = .ok (.iload_n 2, 1) := by decide +kernel
theorem dX6_share_13 : decode cX6_share 13 = .ok (.iload_n 3, 1) := by decide +kernel
theorem dX6_share_14 : decode cX6_share 14 = .ok (.invokevirtual 164, 3) := by decide +kernel
theorem dX6_share_17 : decode cX6_share 17 = .ok (.goto 8, 3) := by decide +kernel
theorem dX6_share_20 : decode cX6_share 20 = .ok (.aload_n 0, 1) := by decide +kernel
theorem dX6_share_21 : decode cX6_share 21 = .ok (.iconst 0, 1) := by decide +kernel
theorem dX6_share_22 : decode cX6_share 22 = .ok (.invokevirtual 94, 3) := by decide +kernel
theorem dX6_share_25 : decode cX6_share 25 = .ok (.ireturn, 1) := by decide +kernel
theorem dX6_longer_0 : decode cX6_longer 0 = .ok (.aload_n 0, 1) := by decide +kernel
theorem dX6_longer_1 : decode cX6_longer 1 = .ok (.iload_n 1, 1) := by decide +kernel
theorem dX6_longer_2 : decode cX6_longer 2 = .ok (.iload_n 2, 1) := by decide +kernel
theorem dX6_longer_3 : decode cX6_longer 3 = .ok (.iload_n 3, 1) := by decide +kernel
theorem dX6_longer_4 : decode cX6_longer 4 = .ok (.invokevirtual 161, 3) := by decide +kernel
theorem dX6_longer_7 : decode cX6_longer 7 = .ok (.ifCond .ne 9, 3) := by decide +kernel
theorem dX6_longer_10 : decode cX6_longer 10 = .ok (.aload_n 0, 1) := by decide +kernel
theorem dX6_longer_11 : decode cX6_longer 11 = .ok (.iconst 0, 1) := by decide +kernel
theorem dX6_longer_12 : decode cX6_longer 12 = .ok (.invokevirtual 94, 3) := by decide +kernel
theorem dX6_longer_15 : decode cX6_longer 15 = .ok (.ireturn, 1) := by decide +kernel
theorem dX6_longer_16 : decode cX6_longer 16 = .ok (.aload_n 0, 1) := by decide +kernel
theorem dX6_longer_17 : decode cX6_longer 17 = .ok (.iload_n 1, 1) := by decide +kernel
theorem dX6_longer_18 : decode cX6_longer 18 = .ok (.iload_n 2, 1) := by decide +kernel
theorem dX6_longer_19 : decode cX6_longer 19 = .ok (.iload_n 3, 1) := by decide +kernel
theorem dX6_longer_20 : decode cX6_longer 20 = .ok (.invokevirtual 164, 3) := by decide +kernel
theorem dX6_longer_23 : decode cX6_longer 23 = .ok (.istore 4, 2) := by decide +kernel
theorem dX6_longer_25 : decode cX6_longer 25 = .ok (.aload_n 0, 1) := by decide +kernel
theorem dX6_longer_26 : decode cX6_longer 26 = .ok (.iload_n 1, 1) := by decide +kernel
theorem dX6_longer_27 : decode cX6_longer 27 = .ok (.iload_n 2, 1) := by decide +kernel
theorem dX6_longer_28 : decode cX6_longer 28 = .ok (.iload 4, 2) := by decide +kernel
theorem dX6_longer_30 : decode cX6_longer 30 = .ok (.iload_n 3, 1) := by decide +kernel
theorem dX6_longer_31 : decode cX6_longer 31 = .ok (.iload 4, 2) := by decide +kernel
theorem dX6_longer_33 : decode cX6_longer 33 = .ok (.iconst (-1), 1) := by decide +kernel
theorem dX6_longer_34 : decode cX6_longer 34 = .ok (.ixor, 1) := by decide +kernel
theorem dX6_longer_35 : decode cX6_longer 35 = .ok (.iand, 1) := by decide +kernel
theorem dX6_longer_36 : decode cX6_longer 36 = .ok (.invokevirtual 157, 3) := by decide +kernel
theorem dX6_longer_39 : decode cX6_longer 39 = .ok (.ireturn, 1) := by decide +kernel
theorem dX6_addsSign_0 : decode cX6_addsSign 0 = .ok (.aload_n 0, 1) := by decide +kernel
theorem dX6_addsSign_1 : decode cX6_addsSign 1 = .ok (.getfield 9, 3) := by decide +kernel
theorem dX6_addsSign_4 : decode cX6_addsSign 4 = .ok (.bipush 56, 2) := by decide +kernel
theorem dX6_addsSign_6 : decode cX6_addsSign 6 = .ok (.aload_n 0, 1) := by decide +kernel
theorem dX6_addsSign_7 : decode cX6_addsSign 7 = .ok (.getfield 9, 3) := by decide +kernel
theorem dX6_addsSign_10 : decode cX6_addsSign 10 = .ok (.iconst 2, 1) := by decide +kernel
theorem dX6_addsSign_11 : decode cX6_addsSign 11 = .ok (.iaload, 1) := by decide +kernel
theorem dX6_addsSign_12 : decode cX6_addsSign 12 = .ok (.iadd, 1) := by decide +kernel
theorem dX6_addsSign_13 : decode cX6_addsSign 13 = .ok (.iload_n 1, 1) := by decide +kernel
theorem dX6_addsSign_14 : decode cX6_addsSign 14 = .ok (.iastore, 1) := by decide +kernel
theorem dX6_addsSign_15 : decode cX6_addsSign 15 = .ok (.aload_n 0, 1) := by decide +kernel
theorem dX6_addsSign_16 : decode cX6_addsSign 16 = .ok (.getfield 9, 3) := by decide +kernel
theorem dX6_addsSign_19 : decode cX6_addsSign 19 = .ok (.iconst 2, 1) := by decide +kernel
theorem dX6_addsSign_20 : decode cX6_addsSign 20 = .ok (.dup2, 1) := by decide +kernel
theorem dX6_addsSign_21 : decode cX6_addsSign 21 = .ok (.iaload, 1) := by decide +kernel
theorem dX6_addsSign_22 : decode cX6_addsSign 22 = .ok (.iconst 1, 1) := by decide +kernel
theorem dX6_addsSign_23 : decode cX6_addsSign 23 = .ok (.iadd, 1) := by decide +kernel
theorem dX6_addsSign_24 : decode cX6_addsSign 24 = .ok (.iastore, 1) := by decide +kernel
theorem dX6_addsSign_25 : decode cX6_addsSign 25 = .ok (.return_, 1) := by decide +kernel
theorem dX6_sign_0 : decode cX6_sign 0 = .ok (.aload_n 0, 1) := by decide +kernel
theorem dX6_sign_1 : decode cX6_sign 1 = .ok (.iload_n 1, 1) := by decide +kernel
theorem dX6_sign_2 : decode cX6_sign 2 = .ok (.invokevirtual 145, 3) := by decide +kernel
theorem dX6_sign_5 : decode cX6_sign 5 = .ok (.ifCond .eq 7, 3) := by decide +kernel
theorem dX6_sign_8 : decode cX6_sign 8 = .ok (.iload_n 1, 1) := by decide +kernel
theorem dX6_sign_9 : decode cX6_sign 9 = .ok (.ifCond .ne 9, 3) := by decide +kernel
theorem dX6_sign_12 : decode cX6_sign 12 = .ok (.aload_n 0, 1) := by decide +kernel
theorem dX6_sign_13 : decode cX6_sign 13 = .ok (.iconst 0, 1) := by decide +kernel
theorem dX6_sign_14 : decode cX6_sign 14 = .ok (.invokevirtual 94, 3) := by decide +kernel
theorem dX6_sign_17 : decode cX6_sign 17 = .ok (.ireturn, 1) := by decide +kernel
theorem dX6_sign_18 : decode cX6_sign 18 = .ok (.aload_n 0, 1) := by decide +kernel
theorem dX6_sign_19 : decode cX6_sign 19 = .ok (.getfield 9, 3) := by decide +kernel
theorem dX6_sign_22 : decode cX6_sign 22 = .ok (.iconst 2, 1) := by decide +kernel
theorem dX6_sign_23 : decode cX6_sign 23 = .ok (.iaload, 1) := by decide +kernel
theorem dX6_sign_24 : decode cX6_sign 24 = .ok (.bipush 6, 2) := by decide +kernel
theorem dX6_sign_26 : decode cX6_sign 26 = .ok (.if_icmp .ne 9, 3) := by decide +kernel
theorem dX6_sign_29 : decode cX6_sign 29 = .ok (.aload_n 0, 1) := by decide +kernel
theorem dX6_sign_30 : decode cX6_sign 30 = .ok (.iconst 1, 1) := by decide +kernel
theorem dX6_sign_31 : decode cX6_sign 31 = .ok (.invokevirtual 94, 3) := by decide +kernel
theorem dX6_sign_34 : decode cX6_sign 34 = .ok (.ireturn, 1) := by decide +kernel
theorem dX6_sign_35 : decode cX6_sign 35 = .ok (.aload_n 0, 1) := by decide +kernel
theorem dX6_sign_36 : decode cX6_sign 36 = .ok (.iload_n 1, 1) := by decide +kernel
theorem dX6_sign_37 : decode cX6_sign 37 = .ok (.invokevirtual 168, 3) := by decide +kernel
theorem dX6_sign_40 : decode cX6_sign 40 = .ok (.aload_n 0, 1) := by decide +kernel
theorem dX6_sign_41 : decode cX6_sign 41 = .ok (.getfield 9, 3) := by decide +kernel
theorem dX6_sign_44 : decode cX6_sign 44 = .ok (.iconst 2, 1) := by decide +kernel
theorem dX6_sign_45 : decode cX6_sign 45 = .ok (.iaload, 1) := by decide +kernel
theorem dX6_sign_46 : decode cX6_sign 46 = .ok (.iconst 1, 1) := by decide +kernel
theorem dX6_sign_47 : decode cX6_sign 47 = .ok (.isub, 1) := by decide +kernel
theorem dX6_sign_48 : decode cX6_sign 48 = .ok (.ireturn, 1) := by decide +kernel
theorem dX6_isSign_0 : decode cX6_isSign 0 = .ok (.iload_n 1, 1) := by decide +kernel
theorem dX6_isSign_1 : decode cX6_isSign 1 = .ok (.iconst 0, 1) := by decide +kernel
theorem dX6_isSign_2 : decode cX6_isSign 2 = .ok (.aload_n 0, 1) := by decide +kernel
theorem dX6_isSign_3 : decode cX6_isSign 3 = .ok (.getfield 9, 3) := by decide +kernel
theorem dX6_isSign_6 : decode cX6_isSign 6 = .ok (.iconst 2, 1) := by decide +kernel
theorem dX6_isSign_7 : decode cX6_isSign 7 = .ok (.iaload, 1) := by decide +kernel
theorem dX6_isSign_8 : decode cX6_isSign 8 = .ok (.iconst 1, 1) := by decide +kernel
theorem dX6_isSign_9 : decode cX6_isSign 9 = .ok (.isub, 1) := by decide +kernel
theorem dX6_isSign_10 : decode cX6_isSign 10 = .ok (.invokestatic 54, 3) := by decide +kernel
theorem dX6_isSign_13 : decode cX6_isSign 13 = .ok (.ireturn, 1) := by decide +kernel
theorem dX6_signOf_0 : decode cX6_signOf 0 = .ok (.aload_n 0, 1) := by decide +kernel
theorem dX6_signOf_1 : decode cX6_signOf 1 = .ok (.iload_n 1, 1) := by decide +kernel
theorem dX6_signOf_2 : decode cX6_signOf 2 = .ok (.invokevirtual 171, 3) := by decide +kernel
theorem dX6_signOf_5 : decode cX6_signOf 5 = .ok (.ifCond .eq 15, 3) := by decide +kernel
theorem dX6_signOf_8 : decode cX6_signOf 8 = .ok (.aload_n 0, 1) := by decide +kernel
theorem dX6_signOf_9 : decode cX6_signOf 9 = .ok (.getfield 9, 3) := by decide +kernel
theorem dX6_signOf_12 : decode cX6_signOf 12 = .ok (.bipush 56, 2) := by decide +kernel
theorem dX6_signOf_14 : decode cX6_signOf 14 = .ok (.iload_n 1, 1) := by decide +kernel
theorem dX6_signOf_15 : decode cX6_signOf 15 = .ok (.iadd, 1) := by decide +kernel
theorem dX6_signOf_16 : decode cX6_signOf 16 = .ok (.iaload, 1) := by decide +kernel
theorem dX6_signOf_17 : decode cX6_signOf 17 = .ok (.goto 8, 3) := by decide +kernel
theorem dX6_signOf_20 : decode cX6_signOf 20 = .ok (.aload_n 0, 1) := by decide +kernel
theorem dX6_signOf_21 : decode cX6_signOf 21 = .ok (.iconst 0, 1) := by decide +kernel
theorem dX6_signOf_22 : decode cX6_signOf 22 = .ok (.invokevirtual 94, 3) := by decide +kernel
theorem dX6_signOf_25 : decode cX6_signOf 25 = .ok (.ireturn, 1) := by decide +kernel
theorem dX6_mayBe_0 : decode cX6_mayBe 0 = .ok (.iconst 0, 1) := by decide +kernel
theorem dX6_mayBe_1 : decode cX6_mayBe 1 = .ok (.istore_n 2, 1) := by decide +kernel
theorem dX6_mayBe_2 : decode cX6_mayBe 2 = .ok (.iconst 0, 1) := by decide +kernel
theorem dX6_mayBe_3 : decode cX6_mayBe 3 = .ok (.istore_n 3, 1) := by decide +kernel
theorem dX6_mayBe_4 : decode cX6_mayBe 4 = .ok (.iload_n 3, 1) := by decide +kernel
theorem dX6_mayBe_5 : decode cX6_mayBe 5 = .ok (.aload_n 0, 1) := by decide +kernel
theorem dX6_mayBe_6 : decode cX6_mayBe 6 = .ok (.getfield 9, 3) := by decide +kernel
theorem dX6_mayBe_9 : decode cX6_mayBe 9 = .ok (.iconst 2, 1) := by decide +kernel
theorem dX6_mayBe_10 : decode cX6_mayBe 10 = .ok (.iaload, 1) := by decide +kernel
theorem dX6_mayBe_11 : decode cX6_mayBe 11 = .ok (.if_icmp .ge 35, 3) := by decide +kernel
theorem dX6_mayBe_14 : decode cX6_mayBe 14 = .ok (.iload_n 2, 1) := by decide +kernel
theorem dX6_mayBe_15 : decode cX6_mayBe 15 = .ok (.iload_n 1, 1) := by decide +kernel
theorem dX6_mayBe_16 : decode cX6_mayBe 16 = .ok (.aload_n 0, 1) := by decide +kernel
theorem dX6_mayBe_17 : decode cX6_mayBe 17 = .ok (.getfield 9, 3) := by decide +kernel
theorem dX6_mayBe_20 : decode cX6_mayBe 20 = .ok (.bipush 56, 2) := by decide +kernel
theorem dX6_mayBe_22 : decode cX6_mayBe 22 = .ok (.iload_n 3, 1) := by decide +kernel
theorem dX6_mayBe_23 : decode cX6_mayBe 23 = .ok (.iadd, 1) := by decide +kernel
theorem dX6_mayBe_24 : decode cX6_mayBe 24 = .ok (.iaload, 1) := by decide +kernel
theorem dX6_mayBe_25 : decode cX6_mayBe 25 = .ok (.iconst (-1), 1) := by decide +kernel
theorem dX6_mayBe_26 : decode cX6_mayBe 26 = .ok (.ixor, 1) := by decide +kernel
theorem dX6_mayBe_27 : decode cX6_mayBe 27 = .ok (.iand, 1) := by decide +kernel
theorem dX6_mayBe_28 : decode cX6_mayBe 28 = .ok (.ifCond .ne 9, 3) := by decide +kernel
theorem dX6_mayBe_31 : decode cX6_mayBe 31 = .ok (.iconst 1, 1) := by decide +kernel
theorem dX6_mayBe_32 : decode cX6_mayBe 32 = .ok (.iload_n 3, 1) := by decide +kernel
theorem dX6_mayBe_33 : decode cX6_mayBe 33 = .ok (.ishl, 1) := by decide +kernel
theorem dX6_mayBe_34 : decode cX6_mayBe 34 = .ok (.goto 4, 3) := by decide +kernel
theorem dX6_mayBe_37 : decode cX6_mayBe 37 = .ok (.iconst 0, 1) := by decide +kernel
theorem dX6_mayBe_38 : decode cX6_mayBe 38 = .ok (.ior, 1) := by decide +kernel
theorem dX6_mayBe_39 : decode cX6_mayBe 39 = .ok (.istore_n 2, 1) := by decide +kernel
theorem dX6_mayBe_40 : decode cX6_mayBe 40 = .ok (.iinc 3 1, 3) := by decide +kernel
theorem dX6_mayBe_43 : decode cX6_mayBe 43 = .ok (.goto (-39), 3) := by decide +kernel
theorem dX6_mayBe_46 : decode cX6_mayBe 46 = .ok (.iload_n 2, 1) := by decide +kernel
theorem dX6_mayBe_47 : decode cX6_mayBe 47 = .ok (.ireturn, 1) := by decide +kernel
theorem dX6_may_0 : decode cX6_may 0 = .ok (.aload_n 0, 1) := by decide +kernel
theorem dX6_may_1 : decode cX6_may 1 = .ok (.iload_n 1, 1) := by decide +kernel
theorem dX6_may_2 : decode cX6_may 2 = .ok (.invokevirtual 145, 3) := by decide +kernel
theorem dX6_may_5 : decode cX6_may 5 = .ok (.ifCond .eq 11, 3) := by decide +kernel
theorem dX6_may_8 : decode cX6_may 8 = .ok (.aload_n 0, 1) := by decide +kernel
theorem dX6_may_9 : decode cX6_may 9 = .ok (.iload_n 1, 1) := by decide +kernel
theorem dX6_may_10 : decode cX6_may 10 = .ok (.invokevirtual 174, 3) := by decide +kernel
theorem dX6_may_13 : decode cX6_may 13 = .ok (.goto 8, 3) := by decide +kernel
theorem dX6_may_16 : decode cX6_may 16 = .ok (.aload_n 0, 1) := by decide +kernel
theorem dX6_may_17 : decode cX6_may 17 = .ok (.iconst 0, 1) := by decide +kernel
theorem dX6_may_18 : decode cX6_may 18 = .ok (.invokevirtual 94, 3) := by decide +kernel
theorem dX6_may_21 : decode cX6_may 21 = .ok (.ireturn, 1) := by decide +kernel
theorem dX6_tells_0 : decode cX6_tells 0 = .ok (.aload_n 0, 1) := by decide +kernel
theorem dX6_tells_1 : decode cX6_tells 1 = .ok (.iload_n 1, 1) := by decide +kernel
theorem dX6_tells_2 : decode cX6_tells 2 = .ok (.invokevirtual 171, 3) := by decide +kernel
theorem dX6_tells_5 : decode cX6_tells 5 = .ok (.ifCond .ne 9, 3) := by decide +kernel
theorem dX6_tells_8 : decode cX6_tells 8 = .ok (.aload_n 0, 1) := by decide +kernel
theorem dX6_tells_9 : decode cX6_tells 9 = .ok (.iconst 0, 1) := by decide +kernel
theorem dX6_tells_10 : decode cX6_tells 10 = .ok (.invokevirtual 94, 3) := by decide +kernel
theorem dX6_tells_13 : decode cX6_tells 13 = .ok (.ireturn, 1) := by decide +kernel
theorem dX6_tells_14 : decode cX6_tells 14 = .ok (.iconst (-1), 1) := by decide +kernel
theorem dX6_tells_15 : decode cX6_tells 15 = .ok (.istore_n 2, 1) := by decide +kernel
theorem dX6_tells_16 : decode cX6_tells 16 = .ok (.iconst 0, 1) := by decide +kernel
theorem dX6_tells_17 : decode cX6_tells 17 = .ok (.istore_n 3, 1) := by decide +kernel
theorem dX6_tells_18 : decode cX6_tells 18 = .ok (.iload_n 3, 1) := by decide +kernel
theorem dX6_tells_19 : decode cX6_tells 19 = .ok (.iconst 1, 1) := by decide +kernel
theorem dX6_tells_20 : decode cX6_tells 20 = .ok (.aload_n 0, 1) := by decide +kernel
theorem dX6_tells_21 : decode cX6_tells 21 = .ok (.getfield 9, 3) := by decide +kernel
theorem dX6_tells_24 : decode cX6_tells 24 = .ok (.iconst 1, 1) := by decide +kernel
theorem dX6_tells_25 : decode cX6_tells 25 = .ok (.iaload, 1) := by decide +kernel
theorem dX6_tells_26 : decode cX6_tells 26 = .ok (.ishl, 1) := by decide +kernel
theorem dX6_tells_27 : decode cX6_tells 27 = .ok (.if_icmp .ge 53, 3) := by decide +kernel
theorem dX6_tells_30 : decode cX6_tells 30 = .ok (.iload_n 2, 1) := by decide +kernel
theorem dX6_tells_31 : decode cX6_tells 31 = .ok (.ifCond .lt 14, 3) := by decide +kernel
theorem dX6_tells_34 : decode cX6_tells 34 = .ok (.iload_n 3, 1) := by decide +kernel
theorem dX6_tells_35 : decode cX6_tells 35 = .ok (.invokestatic 121, 3) := by decide +kernel
theorem dX6_tells_38 : decode cX6_tells 38 = .ok (.iload_n 2, 1) := by decide +kernel
theorem dX6_tells_39 : decode cX6_tells 39 = .ok (.invokestatic 121, 3) := by decide +kernel
theorem dX6_tells_42 : decode cX6_tells 42 = .ok (.if_icmp .ge 7, 3) := by decide +kernel
theorem dX6_tells_45 : decode cX6_tells 45 = .ok (.iconst 1, 1) := by decide +kernel
theorem dX6_tells_46 : decode cX6_tells 46 = .ok (.goto 4, 3) := by decide +kernel
theorem dX6_tells_49 : decode cX6_tells 49 = .ok (.iconst 0, 1) := by decide +kernel
theorem dX6_tells_50 : decode cX6_tells 50 = .ok (.istore 4, 2) := by decide +kernel
theorem dX6_tells_52 : decode cX6_tells 52 = .ok (.iload 4, 2) := by decide +kernel
theorem dX6_tells_54 : decode cX6_tells 54 = .ok (.ifCond .eq 18, 3) := by decide +kernel
theorem dX6_tells_57 : decode cX6_tells 57 = .ok (.aload_n 0, 1) := by decide +kernel
theorem dX6_tells_58 : decode cX6_tells 58 = .ok (.iload_n 3, 1) := by decide +kernel
theorem dX6_tells_59 : decode cX6_tells 59 = .ok (.invokevirtual 174, 3) := by decide +kernel
theorem dX6_tells_62 : decode cX6_tells 62 = .ok (.iconst 1, 1) := by decide +kernel
theorem dX6_tells_63 : decode cX6_tells 63 = .ok (.iload_n 1, 1) := by decide +kernel
theorem dX6_tells_64 : decode cX6_tells 64 = .ok (.ishl, 1) := by decide +kernel
theorem dX6_tells_65 : decode cX6_tells 65 = .ok (.if_icmp .ne 7, 3) := by decide +kernel
theorem dX6_tells_68 : decode cX6_tells 68 = .ok (.iload_n 3, 1) := by decide +kernel
theorem dX6_tells_69 : decode cX6_tells 69 = .ok (.goto 4, 3) := by decide +kernel
theorem dX6_tells_72 : decode cX6_tells 72 = .ok (.iload_n 2, 1) := by decide +kernel
theorem dX6_tells_73 : decode cX6_tells 73 = .ok (.istore_n 2, 1) := by decide +kernel
theorem dX6_tells_74 : decode cX6_tells 74 = .ok (.iinc 3 1, 3) := by decide +kernel
theorem dX6_tells_77 : decode cX6_tells 77 = .ok (.goto (-59), 3) := by decide +kernel
theorem dX6_tells_80 : decode cX6_tells 80 = .ok (.iload_n 2, 1) := by decide +kernel
theorem dX6_tells_81 : decode cX6_tells 81 = .ok (.ifCond .ge 11, 3) := by decide +kernel
theorem dX6_tells_84 : decode cX6_tells 84 = .ok (.aload_n 0, 1) := by decide +kernel
theorem dX6_tells_85 : decode cX6_tells 85 = .ok (.iconst 3, 1) := by decide +kernel
theorem dX6_tells_86 : decode cX6_tells 86 = .ok (.invokevirtual 94, 3) := by decide +kernel
theorem dX6_tells_89 : decode cX6_tells 89 = .ok (.goto 4, 3) := by decide +kernel
theorem dX6_tells_92 : decode cX6_tells 92 = .ok (.iload_n 2, 1) := by decide +kernel
theorem dX6_tells_93 : decode cX6_tells 93 = .ok (.ireturn, 1) := by decide +kernel
theorem dX6_told_0 : decode cX6_told 0 = .ok (.aload_n 0, 1) := by decide +kernel
theorem dX6_told_1 : decode cX6_told 1 = .ok (.invokevirtual 117, 3) := by decide +kernel
theorem dX6_told_4 : decode cX6_told 4 = .ok (.istore_n 1, 1) := by decide +kernel
theorem dX6_told_5 : decode cX6_told 5 = .ok (.iconst 0, 1) := by decide +kernel
theorem dX6_told_6 : decode cX6_told 6 = .ok (.istore_n 2, 1) := by decide +kernel
theorem dX6_told_7 : decode cX6_told 7 = .ok (.iconst 0, 1) := by decide +kernel
theorem dX6_told_8 : decode cX6_told 8 = .ok (.istore_n 3, 1) := by decide +kernel
theorem dX6_told_9 : decode cX6_told 9 = .ok (.iload_n 3, 1) := by decide +kernel
theorem dX6_told_10 : decode cX6_told 10 = .ok (.aload_n 0, 1) := by decide +kernel
theorem dX6_told_11 : decode cX6_told 11 = .ok (.getfield 9, 3) := by decide +kernel
theorem dX6_told_14 : decode cX6_told 14 = .ok (.iconst 2, 1) := by decide +kernel
theorem dX6_told_15 : decode cX6_told 15 = .ok (.iaload, 1) := by decide +kernel
theorem dX6_told_16 : decode cX6_told 16 = .ok (.if_icmp .ge 40, 3) := by decide +kernel
theorem dX6_told_19 : decode cX6_told 19 = .ok (.iload_n 2, 1) := by decide +kernel
theorem dX6_told_20 : decode cX6_told 20 = .ok (.aload_n 0, 1) := by decide +kernel
theorem dX6_told_21 : decode cX6_told 21 = .ok (.aload_n 0, 1) := by decide +kernel
theorem dX6_told_22 : decode cX6_told 22 = .ok (.getfield 9, 3) := by decide +kernel
theorem dX6_told_25 : decode cX6_told 25 = .ok (.bipush 56, 2) := by decide +kernel
theorem dX6_told_27 : decode cX6_told 27 = .ok (.iload_n 3, 1) := by decide +kernel
theorem dX6_told_28 : decode cX6_told 28 = .ok (.iadd, 1) := by decide +kernel
theorem dX6_told_29 : decode cX6_told 29 = .ok (.iaload, 1) := by decide +kernel
theorem dX6_told_30 : decode cX6_told 30 = .ok (.iload_n 1, 1) := by decide +kernel
theorem dX6_told_31 : decode cX6_told 31 = .ok (.iand, 1) := by decide +kernel
theorem dX6_told_32 : decode cX6_told 32 = .ok (.invokevirtual 174, 3) := by decide +kernel
theorem dX6_told_35 : decode cX6_told 35 = .ok (.iconst 1, 1) := by decide +kernel
theorem dX6_told_36 : decode cX6_told 36 = .ok (.iload_n 3, 1) := by decide +kernel
theorem dX6_told_37 : decode cX6_told 37 = .ok (.ishl, 1) := by decide +kernel
theorem dX6_told_38 : decode cX6_told 38 = .ok (.if_icmp .ne 9, 3) := by decide +kernel
theorem dX6_told_41 : decode cX6_told 41 = .ok (.iconst 1, 1) := by decide +kernel
theorem dX6_told_42 : decode cX6_told 42 = .ok (.iload_n 3, 1) := by decide +kernel
theorem dX6_told_43 : decode cX6_told 43 = .ok (.ishl, 1) := by decide +kernel
theorem dX6_told_44 : decode cX6_told 44 = .ok (.goto 4, 3) := by decide +kernel
theorem dX6_told_47 : decode cX6_told 47 = .ok (.iconst 0, 1) := by decide +kernel
theorem dX6_told_48 : decode cX6_told 48 = .ok (.ior, 1) := by decide +kernel
theorem dX6_told_49 : decode cX6_told 49 = .ok (.istore_n 2, 1) := by decide +kernel
theorem dX6_told_50 : decode cX6_told 50 = .ok (.iinc 3 1, 3) := by decide +kernel
theorem dX6_told_53 : decode cX6_told 53 = .ok (.goto (-44), 3) := by decide +kernel
theorem dX6_told_56 : decode cX6_told 56 = .ok (.iload_n 2, 1) := by decide +kernel
theorem dX6_told_57 : decode cX6_told 57 = .ok (.ireturn, 1) := by decide +kernel
theorem dX6_nearest_0 : decode cX6_nearest 0 = .ok (.iconst (-1), 1) := by decide +kernel
theorem dX6_nearest_1 : decode cX6_nearest 1 = .ok (.istore_n 2, 1) := by decide +kernel
theorem dX6_nearest_2 : decode cX6_nearest 2 = .ok (.iconst 0, 1) := by decide +kernel
theorem dX6_nearest_3 : decode cX6_nearest 3 = .ok (.istore_n 3, 1) := by decide +kernel
theorem dX6_nearest_4 : decode cX6_nearest 4 = .ok (.iload_n 3, 1) := by decide +kernel
theorem dX6_nearest_5 : decode cX6_nearest 5 = .ok (.aload_n 0, 1) := by decide +kernel
theorem dX6_nearest_6 : decode cX6_nearest 6 = .ok (.getfield 9, 3) := by decide +kernel
theorem dX6_nearest_9 : decode cX6_nearest 9 = .ok (.iconst 1, 1) := by decide +kernel
theorem dX6_nearest_10 : decode cX6_nearest 10 = .ok (.iaload, 1) := by decide +kernel
theorem dX6_nearest_11 : decode cX6_nearest 11 = .ok (.if_icmp .ge 62, 3) := by decide +kernel
theorem dX6_nearest_14 : decode cX6_nearest 14 = .ok (.iload_n 2, 1) := by decide +kernel
theorem dX6_nearest_15 : decode cX6_nearest 15 = .ok (.ifCond .lt 26, 3) := by decide +kernel
theorem dX6_nearest_18 : decode cX6_nearest 18 = .ok (.iload_n 1, 1) := by decide +kernel
theorem dX6_nearest_19 : decode cX6_nearest 19 = .ok (.aload_n 0, 1) := by decide +kernel
theorem dX6_nearest_20 : decode cX6_nearest 20 = .ok (.iload_n 3, 1) := by decide +kernel
theorem dX6_nearest_21 : decode cX6_nearest 21 = .ok (.iconst 1, 1) := by decide +kernel
theorem dX6_nearest_22 : decode cX6_nearest 22 = .ok (.invokevirtual 58, 3) := by decide +kernel
theorem dX6_nearest_25 : decode cX6_nearest 25 = .ok (.invokestatic 110, 3) := by decide +kernel
theorem dX6_nearest_28 : decode cX6_nearest 28 = .ok (.iload_n 1, 1) := by decide +kernel
theorem dX6_nearest_29 : decode cX6_nearest 29 = .ok (.aload_n 0, 1) := by decide +kernel
theorem dX6_nearest_30 : decode cX6_nearest 30 = .ok (.iload_n 2, 1) := by decide +kernel
theorem dX6_nearest_31 : decode cX6_nearest 31 = .ok (.iconst 1, 1) := by decide +kernel
theorem dX6_nearest_32 : decode cX6_nearest 32 = .ok (.invokevirtual 58, 3) := by decide +kernel
theorem dX6_nearest_35 : decode cX6_nearest 35 = .ok (.invokestatic 110, 3) := by decide +kernel
theorem dX6_nearest_38 : decode cX6_nearest 38 = .ok (.if_icmp .ge 7, 3) := by decide +kernel
theorem dX6_nearest_41 : decode cX6_nearest 41 = .ok (.iconst 1, 1) := by decide +kernel
theorem dX6_nearest_42 : decode cX6_nearest 42 = .ok (.goto 4, 3) := by decide +kernel
theorem dX6_nearest_45 : decode cX6_nearest 45 = .ok (.iconst 0, 1) := by decide +kernel
theorem dX6_nearest_46 : decode cX6_nearest 46 = .ok (.istore 4, 2) := by decide +kernel
theorem dX6_nearest_48 : decode cX6_nearest 48 = .ok (.aload_n 0, 1) := by decide +kernel
theorem dX6_nearest_49 : decode cX6_nearest 49 = .ok (.iload_n 3, 1) := by decide +kernel
theorem dX6_nearest_50 : decode cX6_nearest 50 = .ok (.invokevirtual 66, 3) := by decide +kernel
theorem dX6_nearest_53 : decode cX6_nearest 53 = .ok (.ifCond .eq 12, 3) := by decide +kernel
theorem dX6_nearest_56 : decode cX6_nearest 56 = .ok (.iload 4, 2) := by decide +kernel
theorem dX6_nearest_58 : decode cX6_nearest 58 = .ok (.ifCond .eq 7, 3) := by decide +kernel
theorem dX6_nearest_61 : decode cX6_nearest 61 = .ok (.iload_n 3, 1) := by decide +kernel
theorem dX6_nearest_62 : decode cX6_nearest 62 = .ok (.goto 4, 3) := by decide +kernel
theorem dX6_nearest_65 : decode cX6_nearest 65 = .ok (.iload_n 2, 1) := by decide +kernel
theorem dX6_nearest_66 : decode cX6_nearest 66 = .ok (.istore_n 2, 1) := by decide +kernel
theorem dX6_nearest_67 : decode cX6_nearest 67 = .ok (.iinc 3 1, 3) := by decide +kernel
theorem dX6_nearest_70 : decode cX6_nearest 70 = .ok (.goto (-66), 3) := by decide +kernel
theorem dX6_nearest_73 : decode cX6_nearest 73 = .ok (.iload_n 2, 1) := by decide +kernel
theorem dX6_nearest_74 : decode cX6_nearest 74 = .ok (.ireturn, 1) := by decide +kernel
theorem dX6_steers_0 : decode cX6_steers 0 = .ok (.iload_n 1, 1) := by decide +kernel
theorem dX6_steers_1 : decode cX6_steers 1 = .ok (.invokestatic 91, 3) := by decide +kernel
theorem dX6_steers_4 : decode cX6_steers 4 = .ok (.ifCond .ne 9, 3) := by decide +kernel
theorem dX6_steers_7 : decode cX6_steers 7 = .ok (.aload_n 0, 1) := by decide +kernel
theorem dX6_steers_8 : decode cX6_steers 8 = .ok (.iconst 0, 1) := by decide +kernel
theorem dX6_steers_9 : decode cX6_steers 9 = .ok (.invokevirtual 94, 3) := by decide +kernel
theorem dX6_steers_12 : decode cX6_steers 12 = .ok (.ireturn, 1) := by decide +kernel
theorem dX6_steers_13 : decode cX6_steers 13 = .ok (.aload_n 0, 1) := by decide +kernel
theorem dX6_steers_14 : decode cX6_steers 14 = .ok (.iload_n 1, 1) := by decide +kernel
theorem dX6_steers_15 : decode cX6_steers 15 = .ok (.invokevirtual 177, 3) := by decide +kernel
theorem dX6_steers_18 : decode cX6_steers 18 = .ok (.istore_n 2, 1) := by decide +kernel
theorem dX6_steers_19 : decode cX6_steers 19 = .ok (.iload_n 2, 1) := by decide +kernel
theorem dX6_steers_20 : decode cX6_steers 20 = .ok (.ifCond .ge 11, 3) := by decide +kernel
theorem dX6_steers_23 : decode cX6_steers 23 = .ok (.aload_n 0, 1) := by decide +kernel
theorem dX6_steers_24 : decode cX6_steers 24 = .ok (.iconst 3, 1) := by decide +kernel
theorem dX6_steers_25 : decode cX6_steers 25 = .ok (.invokevirtual 94, 3) := by decide +kernel
theorem dX6_steers_28 : decode cX6_steers 28 = .ok (.goto 4, 3) := by decide +kernel
theorem dX6_steers_31 : decode cX6_steers 31 = .ok (.iload_n 2, 1) := by decide +kernel
theorem dX6_steers_32 : decode cX6_steers 32 = .ok (.ireturn, 1) := by decide +kernel
theorem dX6_sees_0 : decode cX6_sees 0 = .ok (.aload_n 0, 1) := by decide +kernel
theorem dX6_sees_1 : decode cX6_sees 1 = .ok (.iload_n 1, 1) := by decide +kernel
theorem dX6_sees_2 : decode cX6_sees 2 = .ok (.invokevirtual 101, 3) := by decide +kernel
theorem dX6_sees_5 : decode cX6_sees 5 = .ok (.ifCond .ne 9, 3) := by decide +kernel
theorem dX6_sees_8 : decode cX6_sees 8 = .ok (.aload_n 0, 1) := by decide +kernel
theorem dX6_sees_9 : decode cX6_sees 9 = .ok (.iconst 0, 1) := by decide +kernel
theorem dX6_sees_10 : decode cX6_sees 10 = .ok (.invokevirtual 94, 3) := by decide +kernel
theorem dX6_sees_13 : decode cX6_sees 13 = .ok (.ireturn, 1) := by decide +kernel
theorem dX6_sees_14 : decode cX6_sees 14 = .ok (.iconst 0, 1) := by decide +kernel
theorem dX6_sees_15 : decode cX6_sees 15 = .ok (.istore_n 2, 1) := by decide +kernel
theorem dX6_sees_16 : decode cX6_sees 16 = .ok (.iconst 0, 1) := by decide +kernel
theorem dX6_sees_17 : decode cX6_sees 17 = .ok (.istore_n 3, 1) := by decide +kernel
theorem dX6_sees_18 : decode cX6_sees 18 = .ok (.iload_n 3, 1) := by decide +kernel
theorem dX6_sees_19 : decode cX6_sees 19 = .ok (.bipush 100, 2) := by decide +kernel
theorem dX6_sees_21 : decode cX6_sees 21 = .ok (.if_icmp .ge 26, 3) := by decide +kernel
theorem dX6_sees_24 : decode cX6_sees 24 = .ok (.iload_n 2, 1) := by decide +kernel
theorem dX6_sees_25 : decode cX6_sees 25 = .ok (.aload_n 0, 1) := by decide +kernel
theorem dX6_sees_26 : decode cX6_sees 26 = .ok (.iload_n 3, 1) := by decide +kernel
theorem dX6_sees_27 : decode cX6_sees 27 = .ok (.invokevirtual 177, 3) := by decide +kernel
theorem dX6_sees_30 : decode cX6_sees 30 = .ok (.iload_n 1, 1) := by decide +kernel
theorem dX6_sees_31 : decode cX6_sees 31 = .ok (.if_icmp .ne 7, 3) := by decide +kernel
theorem dX6_sees_34 : decode cX6_sees 34 = .ok (.iconst 1, 1) := by decide +kernel
theorem dX6_sees_35 : decode cX6_sees 35 = .ok (.goto 4, 3) := by decide +kernel
theorem dX6_sees_38 : decode cX6_sees 38 = .ok (.iconst 0, 1) := by decide +kernel
theorem dX6_sees_39 : decode cX6_sees 39 = .ok (.iadd, 1) := by decide +kernel
theorem dX6_sees_40 : decode cX6_sees 40 = .ok (.istore_n 2, 1) := by decide +kernel
theorem dX6_sees_41 : decode cX6_sees 41 = .ok (.iinc 3 1, 3) := by decide +kernel
theorem dX6_sees_44 : decode cX6_sees 44 = .ok (.goto (-26), 3) := by decide +kernel
theorem dX6_sees_47 : decode cX6_sees 47 = .ok (.iload_n 2, 1) := by decide +kernel
theorem dX6_sees_48 : decode cX6_sees 48 = .ok (.ireturn, 1) := by decide +kernel
theorem dX6_isSheet_0 : decode cX6_isSheet 0 = .ok (.iload_n 0, 1) := by decide +kernel
theorem dX6_isSheet_1 : decode cX6_isSheet 1 = .ok (.iconst 0, 1) := by decide +kernel
theorem dX6_isSheet_2 : decode cX6_isSheet 2 = .ok (.iconst 3, 1) := by decide +kernel
theorem dX6_isSheet_3 : decode cX6_isSheet 3 = .ok (.invokestatic 54, 3) := by decide +kernel
theorem dX6_isSheet_6 : decode cX6_isSheet 6 = .ok (.ireturn, 1) := by decide +kernel
theorem dX6_wrongSheet_0 : decode cX6_wrongSheet 0 = .ok (.iload_n 1, 1) := by decide +kernel
theorem dX6_wrongSheet_1 : decode cX6_wrongSheet 1 = .ok (.invokestatic 180, 3) := by decide +kernel
theorem dX6_wrongSheet_4 : decode cX6_wrongSheet 4 = .ok (.ifCond .ne 7, 3) := by decide +kernel
theorem dX6_wrongSheet_7 : decode cX6_wrongSheet 7 = .ok (.iconst 0, 1) := by decide +kernel
theorem dX6_wrongSheet_8 : decode cX6_wrongSheet 8 = .ok (.goto 17, 3) := by decide +kernel
theorem dX6_wrongSheet_11 : decode cX6_wrongSheet 11 = .ok (.aload_n 0, 1) := by decide +kernel
theorem dX6_wrongSheet_12 : decode cX6_wrongSheet 12 = .ok (.getfield 41, 3) := by decide +kernel
theorem dX6_wrongSheet_15 : decode cX6_wrongSheet 15 = .ok (.iload_n 1, 1) := by decide +kernel
theorem dX6_wrongSheet_16 : decode cX6_wrongSheet 16 = .ok (.iaload, 1) := by decide +kernel
theorem dX6_wrongSheet_17 : decode cX6_wrongSheet 17 = .ok (.ifCond .ne 7, 3) := by decide +kernel
theorem dX6_wrongSheet_20 : decode cX6_wrongSheet 20 = .ok (.iconst 5, 1) := by decide +kernel
theorem dX6_wrongSheet_21 : decode cX6_wrongSheet 21 = .ok (.goto 4, 3) := by decide +kernel
theorem dX6_wrongSheet_24 : decode cX6_wrongSheet 24 = .ok (.iconst (-1), 1) := by decide +kernel
theorem dX6_wrongSheet_25 : decode cX6_wrongSheet 25 = .ok (.ireturn, 1) := by decide +kernel
theorem dX6_toldAt_0 : decode cX6_toldAt 0 = .ok (.aload_n 0, 1) := by decide +kernel
theorem dX6_toldAt_1 : decode cX6_toldAt 1 = .ok (.getfield 47, 3) := by decide +kernel
theorem dX6_toldAt_4 : decode cX6_toldAt 4 = .ok (.bipush 40, 2) := by decide +kernel
theorem dX6_toldAt_6 : decode cX6_toldAt 6 = .ok (.iload_n 1, 1) := by decide +kernel
theorem dX6_toldAt_7 : decode cX6_toldAt 7 = .ok (.imul, 1) := by decide +kernel
theorem dX6_toldAt_8 : decode cX6_toldAt 8 = .ok (.iload_n 2, 1) := by decide +kernel
theorem dX6_toldAt_9 : decode cX6_toldAt 9 = .ok (.iadd, 1) := by decide +kernel
theorem dX6_toldAt_10 : decode cX6_toldAt 10 = .ok (.iaload, 1) := by decide +kernel
theorem dX6_toldAt_11 : decode cX6_toldAt 11 = .ok (.ireturn, 1) := by decide +kernel
theorem dX6_dimsSo_0 : decode cX6_dimsSo 0 = .ok (.aload_n 0, 1) := by decide +kernel
theorem dX6_dimsSo_1 : decode cX6_dimsSo 1 = .ok (.invokevirtual 133, 3) := by decide +kernel
theorem dX6_dimsSo_4 : decode cX6_dimsSo 4 = .ok (.iconst 1, 1) := by decide +kernel
theorem dX6_dimsSo_5 : decode cX6_dimsSo 5 = .ok (.istore_n 3, 1) := by decide +kernel
theorem dX6_dimsSo_6 : decode cX6_dimsSo 6 = .ok (.iconst 0, 1) := by decide +kernel
theorem dX6_dimsSo_7 : decode cX6_dimsSo 7 = .ok (.istore 4, 2) := by decide +kernel
theorem dX6_dimsSo_9 : decode cX6_dimsSo 9 = .ok (.iload 4, 2) := by decide +kernel
theorem dX6_dimsSo_11 : decode cX6_dimsSo 11 = .ok (.aload_n 0, 1) := by decide +kernel
theorem dX6_dimsSo_12 : decode cX6_dimsSo 12 = .ok (.getfield 44, 3) := by decide +kernel
theorem dX6_dimsSo_15 : decode cX6_dimsSo 15 = .ok (.iload_n 1, 1) := by decide +kernel
theorem dX6_dimsSo_16 : decode cX6_dimsSo 16 = .ok (.iaload, 1) := by decide +kernel
theorem dX6_dimsSo_17 : decode cX6_dimsSo 17 = .ok (.if_icmp .ge 50, 3) := by decide +kernel
theorem dX6_dimsSo_20 : decode cX6_dimsSo 20 = .ok (.iload_n 3, 1) := by decide +kernel
theorem dX6_dimsSo_21 : decode cX6_dimsSo 21 = .ok (.ifCond .eq 46, 3) := by decide +kernel
theorem dX6_dimsSo_24 : decode cX6_dimsSo 24 = .ok (.aload_n 0, 1) := by decide +kernel
theorem dX6_dimsSo_25 : decode cX6_dimsSo 25 = .ok (.iload_n 1, 1) := by decide +kernel
theorem dX6_dimsSo_26 : decode cX6_dimsSo 26 = .ok (.iload 4, 2) := by decide +kernel
theorem dX6_dimsSo_28 : decode cX6_dimsSo 28 = .ok (.invokevirtual 183, 3) := by decide +kernel
theorem dX6_dimsSo_31 : decode cX6_dimsSo 31 = .ok (.iconst (-1), 1) := by decide +kernel
theorem dX6_dimsSo_32 : decode cX6_dimsSo 32 = .ok (.if_icmp .eq 19, 3) := by decide +kernel
theorem dX6_dimsSo_35 : decode cX6_dimsSo 35 = .ok (.aload_n 0, 1) := by decide +kernel
theorem dX6_dimsSo_36 : decode cX6_dimsSo 36 = .ok (.iload_n 1, 1) := by decide +kernel
theorem dX6_dimsSo_37 : decode cX6_dimsSo 37 = .ok (.iload 4, 2) := by decide +kernel
theorem dX6_dimsSo_39 : decode cX6_dimsSo 39 = .ok (.invokevirtual 183, 3) := by decide +kernel
theorem dX6_dimsSo_42 : decode cX6_dimsSo 42 = .ok (.aload_n 0, 1) := by decide +kernel
theorem dX6_dimsSo_43 : decode cX6_dimsSo 43 = .ok (.iload_n 2, 1) := by decide +kernel
theorem dX6_dimsSo_44 : decode cX6_dimsSo 44 = .ok (.iconst 2, 1) := by decide +kernel
theorem dX6_dimsSo_45 : decode cX6_dimsSo 45 = .ok (.invokevirtual 58, 3) := by decide +kernel
theorem dX6_dimsSo_48 : decode cX6_dimsSo 48 = .ok (.if_icmp .ne 7, 3) := by decide +kernel
theorem dX6_dimsSo_51 : decode cX6_dimsSo 51 = .ok (.iconst 1, 1) := by decide +kernel
theorem dX6_dimsSo_52 : decode cX6_dimsSo 52 = .ok (.goto 4, 3) := by decide +kernel
theorem dX6_dimsSo_55 : decode cX6_dimsSo 55 = .ok (.iconst 0, 1) := by decide +kernel
theorem dX6_dimsSo_56 : decode cX6_dimsSo 56 = .ok (.istore_n 3, 1) := by decide +kernel
theorem dX6_dimsSo_57 : decode cX6_dimsSo 57 = .ok (.aload_n 0, 1) := by decide +kernel
theorem dX6_dimsSo_58 : decode cX6_dimsSo 58 = .ok (.invokevirtual 88, 3) := by decide +kernel
theorem dX6_dimsSo_61 : decode cX6_dimsSo 61 = .ok (.iinc 4 1, 3) := by decide +kernel
theorem dX6_dimsSo_64 : decode cX6_dimsSo 64 = .ok (.goto (-55), 3) := by decide +kernel
theorem dX6_dimsSo_67 : decode cX6_dimsSo 67 = .ok (.aload_n 0, 1) := by decide +kernel
theorem dX6_dimsSo_68 : decode cX6_dimsSo 68 = .ok (.invokevirtual 136, 3) := by decide +kernel
theorem dX6_dimsSo_71 : decode cX6_dimsSo 71 = .ok (.iload_n 3, 1) := by decide +kernel
theorem dX6_dimsSo_72 : decode cX6_dimsSo 72 = .ok (.ireturn, 1) := by decide +kernel
theorem dX6_which_0 : decode cX6_which 0 = .ok (.aload_n 0, 1) := by decide +kernel
theorem dX6_which_1 : decode cX6_which 1 = .ok (.iload_n 1, 1) := by decide +kernel
theorem dX6_which_2 : decode cX6_which 2 = .ok (.invokevirtual 186, 3) := by decide +kernel
theorem dX6_which_5 : decode cX6_which 5 = .ok (.istore_n 2, 1) := by decide +kernel
theorem dX6_which_6 : decode cX6_which 6 = .ok (.iload_n 2, 1) := by decide +kernel
theorem dX6_which_7 : decode cX6_which 7 = .ok (.ifCond .lt 9, 3) := by decide +kernel
theorem dX6_which_10 : decode cX6_which 10 = .ok (.aload_n 0, 1) := by decide +kernel
theorem dX6_which_11 : decode cX6_which 11 = .ok (.iload_n 2, 1) := by decide +kernel
theorem dX6_which_12 : decode cX6_which 12 = .ok (.invokevirtual 94, 3) := by decide +kernel
theorem dX6_which_15 : decode cX6_which 15 = .ok (.ireturn, 1) := by decide +kernel
theorem dX6_which_16 : decode cX6_which 16 = .ok (.iconst 0, 1) := by decide +kernel
theorem dX6_which_17 : decode cX6_which 17 = .ok (.istore_n 3, 1) := by decide +kernel
theorem dX6_which_18 : decode cX6_which 18 = .ok (.iconst 0, 1) := by decide +kernel
theorem dX6_which_19 : decode cX6_which 19 = .ok (.istore 4, 2) := by decide +kernel
theorem dX6_which_21 : decode cX6_which 21 = .ok (.iload 4, 2) := by decide +kernel
theorem dX6_which_23 : decode cX6_which 23 = .ok (.aload_n 0, 1) := by decide +kernel
theorem dX6_which_24 : decode cX6_which 24 = .ok (.getfield 9, 3) := by decide +kernel
theorem dX6_which_27 : decode cX6_which 27 = .ok (.iconst 1, 1) := by decide +kernel
theorem dX6_which_28 : decode cX6_which 28 = .ok (.iaload, 1) := by decide +kernel
theorem dX6_which_29 : decode cX6_which 29 = .ok (.if_icmp .ge 30, 3) := by decide +kernel
theorem dX6_which_32 : decode cX6_which 32 = .ok (.iload_n 3, 1) := by decide +kernel
theorem dX6_which_33 : decode cX6_which 33 = .ok (.aload_n 0, 1) := by decide +kernel
theorem dX6_which_34 : decode cX6_which 34 = .ok (.iload_n 1, 1) := by decide +kernel
theorem dX6_which_35 : decode cX6_which 35 = .ok (.iload 4, 2) := by decide +kernel
theorem dX6_which_37 : decode cX6_which 37 = .ok (.invokevirtual 189, 3) := by decide +kernel
theorem dX6_which_40 : decode cX6_which 40 = .ok (.ifCond .eq 10, 3) := by decide +kernel
theorem dX6_which_43 : decode cX6_which 43 = .ok (.iconst 1, 1) := by decide +kernel
theorem dX6_which_44 : decode cX6_which 44 = .ok (.iload 4, 2) := by decide +kernel
theorem dX6_which_46 : decode cX6_which 46 = .ok (.ishl, 1) := by decide +kernel
theorem dX6_which_47 : decode cX6_which 47 = .ok (.goto 4, 3) := by decide +kernel
theorem dX6_which_50 : decode cX6_which 50 = .ok (.iconst 0, 1) := by decide +kernel
theorem dX6_which_51 : decode cX6_which 51 = .ok (.ior, 1) := by decide +kernel
theorem dX6_which_52 : decode cX6_which 52 = .ok (.istore_n 3, 1) := by decide +kernel
theorem dX6_which_53 : decode cX6_which 53 = .ok (.iinc 4 1, 3) := by decide +kernel
theorem dX6_which_56 : decode cX6_which 56 = .ok (.goto (-35), 3) := by decide +kernel
theorem dX6_which_59 : decode cX6_which 59 = .ok (.iload_n 3, 1) := by decide +kernel
theorem dX6_which_60 : decode cX6_which 60 = .ok (.ireturn, 1) := by decide +kernel
theorem dX6_kinds_0 : decode cX6_kinds 0 = .ok (.aload_n 0, 1) := by decide +kernel
theorem dX6_kinds_1 : decode cX6_kinds 1 = .ok (.iload_n 1, 1) := by decide +kernel
theorem dX6_kinds_2 : decode cX6_kinds 2 = .ok (.invokevirtual 186, 3) := by decide +kernel
theorem dX6_kinds_5 : decode cX6_kinds 5 = .ok (.istore_n 3, 1) := by decide +kernel
theorem dX6_kinds_6 : decode cX6_kinds 6 = .ok (.iload_n 3, 1) := by decide +kernel
theorem dX6_kinds_7 : decode cX6_kinds 7 = .ok (.ifCond .ge 13, 3) := by decide +kernel
theorem dX6_kinds_10 : decode cX6_kinds 10 = .ok (.aload_n 0, 1) := by decide +kernel
theorem dX6_kinds_11 : decode cX6_kinds 11 = .ok (.iload_n 2, 1) := by decide +kernel
theorem dX6_kinds_12 : decode cX6_kinds 12 = .ok (.invokevirtual 101, 3) := by decide +kernel
theorem dX6_kinds_15 : decode cX6_kinds 15 = .ok (.ifCond .ne 5, 3) := by decide +kernel
theorem dX6_kinds_18 : decode cX6_kinds 18 = .ok (.iconst 0, 1) := by decide +kernel
theorem dX6_kinds_19 : decode cX6_kinds 19 = .ok (.istore_n 3, 1) := by decide +kernel
theorem dX6_kinds_20 : decode cX6_kinds 20 = .ok (.iload_n 3, 1) := by decide +kernel
theorem dX6_kinds_21 : decode cX6_kinds 21 = .ok (.ifCond .lt 9, 3) := by decide +kernel
theorem dX6_kinds_24 : decode cX6_kinds 24 = .ok (.aload_n 0, 1) := by decide +kernel
theorem dX6_kinds_25 : decode cX6_kinds 25 = .ok (.iload_n 3, 1) := by decide +kernel
theorem dX6_kinds_26 : decode cX6_kinds 26 = .ok (.invokevirtual 94, 3) := by decide +kernel
theorem dX6_kinds_29 : decode cX6_kinds 29 = .ok (.ireturn, 1) := by decide +kernel
theorem dX6_kinds_30 : decode cX6_kinds 30 = .ok (.aload_n 0, 1) := by decide +kernel
theorem dX6_kinds_31 : decode cX6_kinds 31 = .ok (.iload_n 2, 1) := by decide +kernel
theorem dX6_kinds_32 : decode cX6_kinds 32 = .ok (.iconst 0, 1) := by decide +kernel
theorem dX6_kinds_33 : decode cX6_kinds 33 = .ok (.invokevirtual 58, 3) := by decide +kernel
theorem dX6_kinds_36 : decode cX6_kinds 36 = .ok (.istore 4, 2) := by decide +kernel
theorem dX6_kinds_38 : decode cX6_kinds 38 = .ok (.iconst 0, 1) := by decide +kernel
theorem dX6_kinds_39 : decode cX6_kinds 39 = .ok (.istore 5, 2) := by decide +kernel
theorem dX6_kinds_41 : decode cX6_kinds 41 = .ok (.iconst 0, 1) := by decide +kernel
theorem dX6_kinds_42 : decode cX6_kinds 42 = .ok (.istore 6, 2) := by decide +kernel
theorem dX6_kinds_44 : decode cX6_kinds 44 = .ok (.iload 6, 2) := by decide +kernel
theorem dX6_kinds_46 : decode cX6_kinds 46 = .ok (.bipush 6, 2) := by decide +kernel
theorem dX6_kinds_48 : decode cX6_kinds 48 = .ok (.if_icmp .gt 36, 3) := by decide +kernel
theorem dX6_kinds_51 : decode cX6_kinds 51 = .ok (.aload_n 0, 1) := by decide +kernel
theorem dX6_kinds_52 : decode cX6_kinds 52 = .ok (.iload_n 2, 1) := by decide +kernel
theorem dX6_kinds_53 : decode cX6_kinds 53 = .ok (.iconst 0, 1) := by decide +kernel
theorem dX6_kinds_54 : decode cX6_kinds 54 = .ok (.iload 6, 2) := by decide +kernel
theorem dX6_kinds_56 : decode cX6_kinds 56 = .ok (.invokevirtual 80, 3) := by decide +kernel
theorem dX6_kinds_59 : decode cX6_kinds 59 = .ok (.iload 5, 2) := by decide +kernel
theorem dX6_kinds_61 : decode cX6_kinds 61 = .ok (.aload_n 0, 1) := by decide +kernel
theorem dX6_kinds_62 : decode cX6_kinds 62 = .ok (.iload_n 1, 1) := by decide +kernel
theorem dX6_kinds_63 : decode cX6_kinds 63 = .ok (.iload_n 2, 1) := by decide +kernel
theorem dX6_kinds_64 : decode cX6_kinds 64 = .ok (.invokevirtual 189, 3) := by decide +kernel
theorem dX6_kinds_67 : decode cX6_kinds 67 = .ok (.ifCond .eq 7, 3) := by decide +kernel
theorem dX6_kinds_70 : decode cX6_kinds 70 = .ok (.iconst 1, 1) := by decide +kernel
theorem dX6_kinds_71 : decode cX6_kinds 71 = .ok (.goto 4, 3) := by decide +kernel
theorem dX6_kinds_74 : decode cX6_kinds 74 = .ok (.iconst 0, 1) := by decide +kernel
theorem dX6_kinds_75 : decode cX6_kinds 75 = .ok (.iadd, 1) := by decide +kernel
theorem dX6_kinds_76 : decode cX6_kinds 76 = .ok (.istore 5, 2) := by decide +kernel
theorem dX6_kinds_78 : decode cX6_kinds 78 = .ok (.iinc 6 1, 3) := by decide +kernel
theorem dX6_kinds_81 : decode cX6_kinds 81 = .ok (.goto (-37), 3) := by decide +kernel
theorem dX6_kinds_84 : decode cX6_kinds 84 = .ok (.aload_n 0, 1) := by decide +kernel
theorem dX6_kinds_85 : decode cX6_kinds 85 = .ok (.iload_n 2, 1) := by decide +kernel
theorem dX6_kinds_86 : decode cX6_kinds 86 = .ok (.iconst 0, 1) := by decide +kernel
theorem dX6_kinds_87 : decode cX6_kinds 87 = .ok (.iload 4, 2) := by decide +kernel
theorem dX6_kinds_89 : decode cX6_kinds 89 = .ok (.invokevirtual 80, 3) := by decide +kernel
theorem dX6_kinds_92 : decode cX6_kinds 92 = .ok (.iload 5, 2) := by decide +kernel
theorem dX6_kinds_94 : decode cX6_kinds 94 = .ok (.ireturn, 1) := by decide +kernel
theorem dX6_draw_0 : decode cX6_draw 0 = .ok (.aload_n 0, 1) := by decide +kernel
theorem dX6_draw_1 : decode cX6_draw 1 = .ok (.getfield 9, 3) := by decide +kernel
theorem dX6_draw_4 : decode cX6_draw 4 = .ok (.iconst 3, 1) := by decide +kernel
theorem dX6_draw_5 : decode cX6_draw 5 = .ok (.aload_n 0, 1) := by decide +kernel
theorem dX6_draw_6 : decode cX6_draw 6 = .ok (.getfield 9, 3) := by decide +kernel
theorem dX6_draw_9 : decode cX6_draw 9 = .ok (.iconst 3, 1) := by decide +kernel
theorem dX6_draw_10 : decode cX6_draw 10 = .ok (.iaload, 1) := by decide +kernel
theorem dX6_draw_11 : decode cX6_draw 11 = .ok (.ldc 192, 2) := by decide +kernel
theorem dX6_draw_13 : decode cX6_draw 13 = .ok (.imul, 1) := by decide +kernel
theorem dX6_draw_14 : decode cX6_draw 14 = .ok (.sipush 12345, 3) := by decide +kernel
theorem dX6_draw_17 : decode cX6_draw 17 = .ok (.iadd, 1) := by decide +kernel
theorem dX6_draw_18 : decode cX6_draw 18 = .ok (.iastore, 1) := by decide +kernel
theorem dX6_draw_19 : decode cX6_draw 19 = .ok (.aload_n 0, 1) := by decide +kernel
theorem dX6_draw_20 : decode cX6_draw 20 = .ok (.getfield 9, 3) := by decide +kernel
theorem dX6_draw_23 : decode cX6_draw 23 = .ok (.iconst 3, 1) := by decide +kernel
theorem dX6_draw_24 : decode cX6_draw 24 = .ok (.iaload, 1) := by decide +kernel
theorem dX6_draw_25 : decode cX6_draw 25 = .ok (.bipush 8, 2) := by decide +kernel
theorem dX6_draw_27 : decode cX6_draw 27 = .ok (.iushr, 1) := by decide +kernel
theorem dX6_draw_28 : decode cX6_draw 28 = .ok (.ireturn, 1) := by decide +kernel
theorem dX6_drops_0 : decode cX6_drops 0 = .ok (.iload_n 1, 1) := by decide +kernel
theorem dX6_drops_1 : decode cX6_drops 1 = .ok (.iconst 1, 1) := by decide +kernel
theorem dX6_drops_2 : decode cX6_drops 2 = .ok (.bipush 20, 2) := by decide +kernel
theorem dX6_drops_4 : decode cX6_drops 4 = .ok (.invokestatic 54, 3) := by decide +kernel
theorem dX6_drops_7 : decode cX6_drops 7 = .ok (.ifCond .ne 9, 3) := by decide +kernel
theorem dX6_drops_10 : decode cX6_drops 10 = .ok (.aload_n 0, 1) := by decide +kernel
theorem dX6_drops_11 : decode cX6_drops 11 = .ok (.iconst 0, 1) := by decide +kernel
theorem dX6_drops_12 : decode cX6_drops 12 = .ok (.invokevirtual 94, 3) := by decide +kernel
theorem dX6_drops_15 : decode cX6_drops 15 = .ok (.ireturn, 1) := by decide +kernel
theorem dX6_drops_16 : decode cX6_drops 16 = .ok (.aload_n 0, 1) := by decide +kernel
theorem dX6_drops_17 : decode cX6_drops 17 = .ok (.getfield 9, 3) := by decide +kernel
theorem dX6_drops_20 : decode cX6_drops 20 = .ok (.iconst 0, 1) := by decide +kernel
theorem dX6_drops_21 : decode cX6_drops 21 = .ok (.iaload, 1) := by decide +kernel
theorem dX6_drops_22 : decode cX6_drops 22 = .ok (.iload_n 1, 1) := by decide +kernel
theorem dX6_drops_23 : decode cX6_drops 23 = .ok (.iadd, 1) := by decide +kernel
theorem dX6_drops_24 : decode cX6_drops 24 = .ok (.ldc 84, 2) := by decide +kernel
theorem dX6_drops_26 : decode cX6_drops 26 = .ok (.if_icmp .le 9, 3) := by decide +kernel
theorem dX6_drops_29 : decode cX6_drops 29 = .ok (.aload_n 0, 1) := by decide +kernel
theorem dX6_drops_30 : decode cX6_drops 30 = .ok (.iconst 4, 1) := by decide +kernel
theorem dX6_drops_31 : decode cX6_drops 31 = .ok (.invokevirtual 94, 3) := by decide +kernel
theorem dX6_drops_34 : decode cX6_drops 34 = .ok (.ireturn, 1) := by decide +kernel
theorem dX6_drops_35 : decode cX6_drops 35 = .ok (.iconst 0, 1) := by decide +kernel
theorem dX6_drops_36 : decode cX6_drops 36 = .ok (.istore_n 2, 1) := by decide +kernel
theorem dX6_drops_37 : decode cX6_drops 37 = .ok (.iconst 0, 1) := by decide +kernel
theorem dX6_drops_38 : decode cX6_drops 38 = .ok (.istore_n 3, 1) := by decide +kernel
theorem dX6_drops_39 : decode cX6_drops 39 = .ok (.iload_n 3, 1) := by decide +kernel
theorem dX6_drops_40 : decode cX6_drops 40 = .ok (.iload_n 1, 1) := by decide +kernel
theorem dX6_drops_41 : decode cX6_drops 41 = .ok (.if_icmp .ge 42, 3) := by decide +kernel
theorem dX6_drops_44 : decode cX6_drops 44 = .ok (.aload_n 0, 1) := by decide +kernel
theorem dX6_drops_45 : decode cX6_drops 45 = .ok (.invokevirtual 193, 3) := by decide +kernel
theorem dX6_drops_48 : decode cX6_drops 48 = .ok (.bipush 16, 2) := by decide +kernel
theorem dX6_drops_50 : decode cX6_drops 50 = .ok (.irem, 1) := by decide +kernel
theorem dX6_drops_51 : decode cX6_drops 51 = .ok (.istore 4, 2) := by decide +kernel
theorem dX6_drops_53 : decode cX6_drops 53 = .ok (.aload_n 0, 1) := by decide +kernel
theorem dX6_drops_54 : decode cX6_drops 54 = .ok (.iload 4, 2) := by decide +kernel
theorem dX6_drops_56 : decode cX6_drops 56 = .ok (.invokevirtual 101, 3) := by decide +kernel
theorem dX6_drops_59 : decode cX6_drops 59 = .ok (.ifCond .eq 14, 3) := by decide +kernel
theorem dX6_drops_62 : decode cX6_drops 62 = .ok (.aload_n 0, 1) := by decide +kernel
theorem dX6_drops_63 : decode cX6_drops 63 = .ok (.iload 4, 2) := by decide +kernel
theorem dX6_drops_65 : decode cX6_drops 65 = .ok (.iconst 2, 1) := by decide +kernel
theorem dX6_drops_66 : decode cX6_drops 66 = .ok (.iconst 0, 1) := by decide +kernel
theorem dX6_drops_67 : decode cX6_drops 67 = .ok (.invokevirtual 80, 3) := by decide +kernel
theorem dX6_drops_70 : decode cX6_drops 70 = .ok (.iinc 2 1, 3) := by decide +kernel
theorem dX6_drops_73 : decode cX6_drops 73 = .ok (.aload_n 0, 1) := by decide +kernel
theorem dX6_drops_74 : decode cX6_drops 74 = .ok (.invokevirtual 88, 3) := by decide +kernel
theorem dX6_drops_77 : decode cX6_drops 77 = .ok (.iinc 3 1, 3) := by decide +kernel
theorem dX6_drops_80 : decode cX6_drops 80 = .ok (.goto (-41), 3) := by decide +kernel
theorem dX6_drops_83 : decode cX6_drops 83 = .ok (.iload_n 2, 1) := by decide +kernel
theorem dX6_drops_84 : decode cX6_drops 84 = .ok (.ireturn, 1) := by decide +kernel
theorem dX6_odds_0 : decode cX6_odds 0 = .ok (.iload_n 1, 1) := by decide +kernel
theorem dX6_odds_1 : decode cX6_odds 1 = .ok (.iconst 0, 1) := by decide +kernel
theorem dX6_odds_2 : decode cX6_odds 2 = .ok (.bipush 14, 2) := by decide +kernel
theorem dX6_odds_4 : decode cX6_odds 4 = .ok (.invokestatic 54, 3) := by decide +kernel
theorem dX6_odds_7 : decode cX6_odds 7 = .ok (.ifCond .eq 12, 3) := by decide +kernel
theorem dX6_odds_10 : decode cX6_odds 10 = .ok (.iload_n 2, 1) := by decide +kernel
theorem dX6_odds_11 : decode cX6_odds 11 = .ok (.iconst 0, 1) := by decide +kernel
theorem dX6_odds_12 : decode cX6_odds 12 = .ok (.iconst 1, 1) := by decide +kernel
theorem dX6_odds_13 : decode cX6_odds 13 = .ok (.invokestatic 54, 3) := by decide +kernel
theorem dX6_odds_16 : decode cX6_odds 16 = .ok (.ifCond .ne 10, 3) := by decide +kernel
theorem dX6_odds_19 : decode cX6_odds 19 = .ok (.aload_n 0, 1) := by decide +kernel
theorem dX6_odds_20 : decode cX6_odds 20 = .ok (.iconst 0, 1) := by decide +kernel
theorem dX6_odds_21 : decode cX6_odds 21 = .ok (.invokevirtual 94, 3) := by decide +kernel
theorem dX6_odds_24 : decode cX6_odds 24 = .ok (.i2l, 1) := by decide +kernel
theorem dX6_odds_25 : decode cX6_odds 25 = .ok (.lreturn, 1) := by decide +kernel
theorem dX6_odds_26 : decode cX6_odds 26 = .ok (.lconst 1, 1) := by decide +kernel
theorem dX6_odds_27 : decode cX6_odds 27 = .ok (.lstore_n 3, 1) := by decide +kernel
theorem dX6_odds_28 : decode cX6_odds 28 = .ok (.lconst 1, 1) := by decide +kernel
theorem dX6_odds_29 : decode cX6_odds 29 = .ok (.lstore 5, 2) := by decide +kernel
theorem dX6_odds_31 : decode cX6_odds 31 = .ok (.iconst 0, 1) := by decide +kernel
theorem dX6_odds_32 : decode cX6_odds 32 = .ok (.istore 7, 2) := by decide +kernel
theorem dX6_odds_34 : decode cX6_odds 34 = .ok (.iload 7, 2) := by decide +kernel
theorem dX6_odds_36 : decode cX6_odds 36 = .ok (.iload_n 1, 1) := by decide +kernel
theorem dX6_odds_37 : decode cX6_odds 37 = .ok (.if_icmp .ge 31, 3) := by decide +kernel
theorem dX6_odds_40 : decode cX6_odds 40 = .ok (.lload_n 3, 1) := by decide +kernel
theorem dX6_odds_41 : decode cX6_odds 41 = .ok (.ldc2_w 196, 3) := by decide +kernel
theorem dX6_odds_44 : decode cX6_odds 44 = .ok (.aload_n 0, 1) := by decide +kernel
theorem dX6_odds_45 : decode cX6_odds 45 = .ok (.getfield 9, 3) := by decide +kernel
theorem dX6_odds_48 : decode cX6_odds 48 = .ok (.iconst 1, 1) := by decide +kernel
theorem dX6_odds_49 : decode cX6_odds 49 = .ok (.iaload, 1) := by decide +kernel
theorem dX6_odds_50 : decode cX6_odds 50 = .ok (.i2l, 1) := by decide +kernel
theorem dX6_odds_51 : decode cX6_odds 51 = .ok (.lsub, 1) := by decide +kernel
theorem dX6_odds_52 : decode cX6_odds 52 = .ok (.lmul, 1) := by decide +kernel
theorem dX6_odds_53 : decode cX6_odds 53 = .ok (.lstore_n 3, 1) := by decide +kernel
theorem dX6_odds_54 : decode cX6_odds 54 = .ok (.lload 5, 2) := by decide +kernel
theorem dX6_odds_56 : decode cX6_odds 56 = .ok (.ldc2_w 196, 3) := by decide +kernel
theorem dX6_odds_59 : decode cX6_odds 59 = .ok (.lmul, 1) := by decide +kernel
theorem dX6_odds_60 : decode cX6_odds 60 = .ok (.lstore 5, 2) := by decide +kernel
theorem dX6_odds_62 : decode cX6_odds 62 = .ok (.iinc 7 1, 3) := by decide +kernel
theorem dX6_odds_65 : decode cX6_odds 65 = .ok (.goto (-31), 3) := by decide +kernel
theorem dX6_odds_68 : decode cX6_odds 68 = .ok (.lload_n 3, 1) := by decide +kernel
theorem dX6_odds_69 : decode cX6_odds 69 = .ok (.lstore 7, 2) := by decide +kernel
theorem dX6_odds_71 : decode cX6_odds 71 = .ok (.lload 5, 2) := by decide +kernel
theorem dX6_odds_73 : decode cX6_odds 73 = .ok (.lstore 9, 2) := by decide +kernel
theorem dX6_odds_75 : decode cX6_odds 75 = .ok (.lload 9, 2) := by decide +kernel
theorem dX6_odds_77 : decode cX6_odds 77 = .ok (.lconst 0, 1) := by decide +kernel
theorem dX6_odds_78 : decode cX6_odds 78 = .ok (.lcmp, 1) := by decide +kernel
theorem dX6_odds_79 : decode cX6_odds 79 = .ok (.ifCond .eq 21, 3) := by decide +kernel
theorem dX6_odds_82 : decode cX6_odds 82 = .ok (.lload 7, 2) := by decide +kernel
theorem dX6_odds_84 : decode cX6_odds 84 = .ok (.lload 9, 2) := by decide +kernel
theorem dX6_odds_86 : decode cX6_odds 86 = .ok (.lrem, 1) := by decide +kernel
theorem dX6_odds_87 : decode cX6_odds 87 = .ok (.lstore 11, 2) := by decide +kernel
theorem dX6_odds_89 : decode cX6_odds 89 = .ok (.lload 9, 2) := by decide +kernel
theorem dX6_odds_91 : decode cX6_odds 91 = .ok (.lstore 7, 2) := by decide +kernel
theorem dX6_odds_93 : decode cX6_odds 93 = .ok (.lload 11, 2) := by decide +kernel
theorem dX6_odds_95 : decode cX6_odds 95 = .ok (.lstore 9, 2) := by decide +kernel
theorem dX6_odds_97 : decode cX6_odds 97 = .ok (.goto (-22), 3) := by decide +kernel
theorem dX6_odds_100 : decode cX6_odds 100 = .ok (.iload_n 2, 1) := by decide +kernel
theorem dX6_odds_101 : decode cX6_odds 101 = .ok (.ifCond .ne 10, 3) := by decide +kernel
theorem dX6_odds_104 : decode cX6_odds 104 = .ok (.lload_n 3, 1) := by decide +kernel
theorem dX6_odds_105 : decode cX6_odds 105 = .ok (.lload 7, 2) := by decide +kernel
theorem dX6_odds_107 : decode cX6_odds 107 = .ok (.ldiv, 1) := by decide +kernel
theorem dX6_odds_108 : decode cX6_odds 108 = .ok (.goto 8, 3) := by decide +kernel
theorem dX6_odds_111 : decode cX6_odds 111 = .ok (.lload 5, 2) := by decide +kernel
theorem dX6_odds_113 : decode cX6_odds 113 = .ok (.lload 7, 2) := by decide +kernel
theorem dX6_odds_115 : decode cX6_odds 115 = .ok (.ldiv, 1) := by decide +kernel
theorem dX6_odds_116 : decode cX6_odds 116 = .ok (.lreturn, 1) := by decide +kernel
theorem dX6_seed_0 : decode cX6_seed 0 = .ok (.aload_n 0, 1) := by decide +kernel
theorem dX6_seed_1 : decode cX6_seed 1 = .ok (.getfield 9, 3) := by decide +kernel
theorem dX6_seed_4 : decode cX6_seed 4 = .ok (.iconst 3, 1) := by decide +kernel
theorem dX6_seed_5 : decode cX6_seed 5 = .ok (.iaload, 1) := by decide +kernel
theorem dX6_seed_6 : decode cX6_seed 6 = .ok (.istore_n 2, 1) := by decide +kernel
theorem dX6_seed_7 : decode cX6_seed 7 = .ok (.aload_n 0, 1) := by decide +kernel
theorem dX6_seed_8 : decode cX6_seed 8 = .ok (.getfield 9, 3) := by decide +kernel
theorem dX6_seed_11 : decode cX6_seed 11 = .ok (.iconst 3, 1) := by decide +kernel
theorem dX6_seed_12 : decode cX6_seed 12 = .ok (.iload_n 1, 1) := by decide +kernel
theorem dX6_seed_13 : decode cX6_seed 13 = .ok (.iastore, 1) := by decide +kernel
theorem dX6_seed_14 : decode cX6_seed 14 = .ok (.iload_n 2, 1) := by decide +kernel
theorem dX6_seed_15 : decode cX6_seed 15 = .ok (.ireturn, 1) := by decide +kernel
theorem dX6_feed_0 : decode cX6_feed 0 = .ok (.iload_n 2, 1) := by decide +kernel
theorem dX6_feed_1 : decode cX6_feed 1 = .ok (.iconst 1, 1) := by decide +kernel
theorem dX6_feed_2 : decode cX6_feed 2 = .ok (.iconst 4, 1) := by decide +kernel
theorem dX6_feed_3 : decode cX6_feed 3 = .ok (.invokestatic 54, 3) := by decide +kernel
theorem dX6_feed_6 : decode cX6_feed 6 = .ok (.ifCond .ne 9, 3) := by decide +kernel
theorem dX6_feed_9 : decode cX6_feed 9 = .ok (.aload_n 0, 1) := by decide +kernel
theorem dX6_feed_10 : decode cX6_feed 10 = .ok (.iconst 0, 1) := by decide +kernel
theorem dX6_feed_11 : decode cX6_feed 11 = .ok (.invokevirtual 94, 3) := by decide +kernel
theorem dX6_feed_14 : decode cX6_feed 14 = .ok (.ireturn, 1) := by decide +kernel
theorem dX6_feed_15 : decode cX6_feed 15 = .ok (.aload_n 0, 1) := by decide +kernel
theorem dX6_feed_16 : decode cX6_feed 16 = .ok (.getfield 198, 3) := by decide +kernel
theorem dX6_feed_19 : decode cX6_feed 19 = .ok (.iload_n 2, 1) := by decide +kernel
theorem dX6_feed_20 : decode cX6_feed 20 = .ok (.iadd, 1) := by decide +kernel
theorem dX6_feed_21 : decode cX6_feed 21 = .ok (.bipush 120, 2) := by decide +kernel
theorem dX6_feed_23 : decode cX6_feed 23 = .ok (.if_icmp .le 9, 3) := by decide +kernel
theorem dX6_feed_26 : decode cX6_feed 26 = .ok (.aload_n 0, 1) := by decide +kernel
theorem dX6_feed_27 : decode cX6_feed 27 = .ok (.iconst 1, 1) := by decide +kernel
theorem dX6_feed_28 : decode cX6_feed 28 = .ok (.invokevirtual 94, 3) := by decide +kernel
theorem dX6_feed_31 : decode cX6_feed 31 = .ok (.ireturn, 1) := by decide +kernel
theorem dX6_feed_32 : decode cX6_feed 32 = .ok (.iload_n 2, 1) := by decide +kernel
theorem dX6_feed_33 : decode cX6_feed 33 = .ok (.iconst 1, 1) := by decide +kernel
theorem dX6_feed_34 : decode cX6_feed 34 = .ok (.isub, 1) := by decide +kernel
theorem dX6_feed_35 : decode cX6_feed 35 = .ok (.istore_n 3, 1) := by decide +kernel
theorem dX6_feed_36 : decode cX6_feed 36 = .ok (.iload_n 3, 1) := by decide +kernel
theorem dX6_feed_37 : decode cX6_feed 37 = .ok (.ifCond .lt 38, 3) := by decide +kernel
theorem dX6_feed_40 : decode cX6_feed 40 = .ok (.aload_n 0, 1) := by decide +kernel
theorem dX6_feed_41 : decode cX6_feed 41 = .ok (.getfield 25, 3) := by decide +kernel
theorem dX6_feed_44 : decode cX6_feed 44 = .ok (.aload_n 0, 1) := by decide +kernel
theorem dX6_feed_45 : decode cX6_feed 45 = .ok (.getfield 198, 3) := by decide +kernel
theorem dX6_feed_48 : decode cX6_feed 48 = .ok (.iload_n 1, 1) := by decide +kernel
theorem dX6_feed_49 : decode cX6_feed 49 = .ok (.bipush 8, 2) := by decide +kernel
theorem dX6_feed_51 : decode cX6_feed 51 = .ok (.iload_n 3, 1) := by decide +kernel
theorem dX6_feed_52 : decode cX6_feed 52 = .ok (.imul, 1) := by decide +kernel
theorem dX6_feed_53 : decode cX6_feed 53 = .ok (.ishr, 1) := by decide +kernel
theorem dX6_feed_54 : decode cX6_feed 54 = .ok (.sipush 255, 3) := by decide +kernel
theorem dX6_feed_57 : decode cX6_feed 57 = .ok (.iand, 1) := by decide +kernel
theorem dX6_feed_58 : decode cX6_feed 58 = .ok (.iastore, 1) := by decide +kernel
theorem dX6_feed_59 : decode cX6_feed 59 = .ok (.aload_n 0, 1) := by decide +kernel
theorem dX6_feed_60 : decode cX6_feed 60 = .ok (.dup, 1) := by decide +kernel
theorem dX6_feed_61 : decode cX6_feed 61 = .ok (.getfield 198, 3) := by decide +kernel
theorem dX6_feed_64 : decode cX6_feed 64 = .ok (.iconst 1, 1) := by decide +kernel
theorem dX6_feed_65 : decode cX6_feed 65 = .ok (.iadd, 1) := by decide +kernel
theorem dX6_feed_66 : decode cX6_feed 66 = .ok (.putfield 198, 3) := by decide +kernel
theorem dX6_feed_69 : decode cX6_feed 69 = .ok (.iinc 3 (-1), 3) := by decide +kernel
theorem dX6_feed_72 : decode cX6_feed 72 = .ok (.goto (-36), 3) := by decide +kernel
theorem dX6_feed_75 : decode cX6_feed 75 = .ok (.aload_n 0, 1) := by decide +kernel
theorem dX6_feed_76 : decode cX6_feed 76 = .ok (.getfield 198, 3) := by decide +kernel
theorem dX6_feed_79 : decode cX6_feed 79 = .ok (.ireturn, 1) := by decide +kernel
theorem dX6_wipe_0 : decode cX6_wipe 0 = .ok (.aload_n 0, 1) := by decide +kernel
theorem dX6_wipe_1 : decode cX6_wipe 1 = .ok (.getfield 198, 3) := by decide +kernel
theorem dX6_wipe_4 : decode cX6_wipe 4 = .ok (.istore_n 1, 1) := by decide +kernel
theorem dX6_wipe_5 : decode cX6_wipe 5 = .ok (.aload_n 0, 1) := by decide +kernel
theorem dX6_wipe_6 : decode cX6_wipe 6 = .ok (.iconst 0, 1) := by decide +kernel
theorem dX6_wipe_7 : decode cX6_wipe 7 = .ok (.putfield 198, 3) := by decide +kernel
theorem dX6_wipe_10 : decode cX6_wipe 10 = .ok (.iload_n 1, 1) := by decide +kernel
theorem dX6_wipe_11 : decode cX6_wipe 11 = .ok (.ireturn, 1) := by decide +kernel
theorem dX6_isLetter_0 : decode cX6_isLetter 0 = .ok (.iload_n 0, 1) := by decide +kernel
theorem dX6_isLetter_1 : decode cX6_isLetter 1 = .ok (.bipush 97, 2) := by decide +kernel
theorem dX6_isLetter_3 : decode cX6_isLetter 3 = .ok (.bipush 122, 2) := by decide +kernel
theorem dX6_isLetter_5 : decode cX6_isLetter 5 = .ok (.invokestatic 54, 3) := by decide +kernel
theorem dX6_isLetter_8 : decode cX6_isLetter 8 = .ok (.ireturn, 1) := by decide +kernel
theorem dX6_isDigit_0 : decode cX6_isDigit 0 = .ok (.iload_n 0, 1) := by decide +kernel
theorem dX6_isDigit_1 : decode cX6_isDigit 1 = .ok (.bipush 48, 2) := by decide +kernel
theorem dX6_isDigit_3 : decode cX6_isDigit 3 = .ok (.bipush 57, 2) := by decide +kernel
theorem dX6_isDigit_5 : decode cX6_isDigit 5 = .ok (.invokestatic 54, 3) := by decide +kernel
theorem dX6_isDigit_8 : decode cX6_isDigit 8 = .ok (.ireturn, 1) := by decide +kernel
theorem dX6_nextToken_0 : decode cX6_nextToken 0 = .ok (.aload_n 0, 1) := by decide +kernel
theorem dX6_nextToken_1 : decode cX6_nextToken 1 = .ok (.aload_n 0, 1) := by decide +kernel
theorem dX6_nextToken_2 : decode cX6_nextToken 2 = .ok (.getfield 202, 3) := by decide +kernel
theorem dX6_nextToken_5 : decode cX6_nextToken 5 = .ok (.putfield 205, 3) := by decide +kernel
theorem dX6_nextToken_8 : decode cX6_nextToken 8 = .ok (.aload_n 0, 1) := by decide +kernel
theorem dX6_nextToken_9 : decode cX6_nextToken 9 = .ok (.getfield 205, 3) := by decide +kernel
theorem dX6_nextToken_12 : decode cX6_nextToken 12 = .ok (.aload_n 0, 1) := by decide +kernel
theorem dX6_nextToken_13 : decode cX6_nextToken 13 = .ok (.getfield 198, 3) := by decide +kernel
theorem dX6_nextToken_16 : decode cX6_nextToken 16 = .ok (.if_icmp .ge 30, 3) := by decide +kernel
theorem dX6_nextToken_19 : decode cX6_nextToken 19 = .ok (.aload_n 0, 1) := by decide +kernel
theorem dX6_nextToken_20 : decode cX6_nextToken 20 = .ok (.getfield 25, 3) := by decide +kernel
theorem dX6_nextToken_23 : decode cX6_nextToken 23 = .ok (.aload_n 0, 1) := by decide +kernel
theorem dX6_nextToken_24 : decode cX6_nextToken 24 = .ok (.getfield 205, 3) := by decide +kernel
theorem dX6_nextToken_27 : decode cX6_nextToken 27 = .ok (.iaload, 1) := by decide +kernel
theorem dX6_nextToken_28 : decode cX6_nextToken 28 = .ok (.bipush 32, 2) := by decide +kernel
theorem dX6_nextToken_30 : decode cX6_nextToken 30 = .ok (.if_icmp .ne 16, 3) := by decide +kernel
theorem dX6_nextToken_33 : decode cX6_nextToken 33 = .ok (.aload_n 0, 1) := by decide +kernel
theorem dX6_nextToken_34 : decode cX6_nextToken 34 = .ok (.dup, 1) := by decide +kernel
theorem dX6_nextToken_35 : decode cX6_nextToken 35 = .ok (.getfield 205, 3) := by decide +kernel
theorem dX6_nextToken_38 : decode cX6_nextToken 38 = .ok (.iconst 1, 1) := by decide +kernel
theorem dX6_nextToken_39 : decode cX6_nextToken 39 = .ok (.iadd, 1) := by decide +kernel
theorem dX6_nextToken_40 : decode cX6_nextToken 40 = .ok (.putfield 205, 3) := by decide +kernel
theorem dX6_nextToken_43 : decode cX6_nextToken 43 = .ok (.goto (-35), 3) := by decide +kernel
theorem dX6_nextToken_46 : decode cX6_nextToken 46 = .ok (.aload_n 0, 1) := by decide +kernel
theorem dX6_nextToken_47 : decode cX6_nextToken 47 = .ok (.aload_n 0, 1) := by decide +kernel
theorem dX6_nextToken_48 : decode cX6_nextToken 48 = .ok (.getfield 205, 3) := by decide +kernel
theorem dX6_nextToken_51 : decode cX6_nextToken 51 = .ok (.putfield 202, 3) := by decide +kernel
theorem dX6_nextToken_54 : decode cX6_nextToken 54 = .ok (.aload_n 0, 1) := by decide +kernel
theorem dX6_nextToken_55 : decode cX6_nextToken 55 = .ok (.lconst 0, 1) := by decide +kernel
theorem dX6_nextToken_56 : decode cX6_nextToken 56 = .ok (.putfield 208, 3) := by decide +kernel
theorem dX6_nextToken_59 : decode cX6_nextToken 59 = .ok (.aload_n 0, 1) := by decide +kernel
theorem dX6_nextToken_60 : decode cX6_nextToken 60 = .ok (.getfield 205, 3) := by decide +kernel
theorem dX6_nextToken_63 : decode cX6_nextToken 63 = .ok (.aload_n 0, 1) := by decide +kernel
theorem dX6_nextToken_64 : decode cX6_nextToken 64 = .ok (.getfield 198, 3) := by decide +kernel
theorem dX6_nextToken_67 : decode cX6_nextToken 67 = .ok (.if_icmp .ne 11, 3) := by decide +kernel
theorem dX6_nextToken_70 : decode cX6_nextToken 70 = .ok (.aload_n 0, 1) := by decide +kernel
theorem dX6_nextToken_71 : decode cX6_nextToken 71 = .ok (.iconst 0, 1) := by decide +kernel
theorem dX6_nextToken_72 : decode cX6_nextToken 72 = .ok (.putfield 212, 3) := by decide +kernel
theorem dX6_nextToken_75 : decode cX6_nextToken 75 = .ok (.goto 262, 3) := by decide +kernel
theorem dX6_nextToken_78 : decode cX6_nextToken 78 = .ok (.aload_n 0, 1) := by decide +kernel
theorem dX6_nextToken_79 : decode cX6_nextToken 79 = .ok (.getfield 25, 3) := by decide +kernel
theorem dX6_nextToken_82 : decode cX6_nextToken 82 = .ok (.aload_n 0, 1) := by decide +kernel
theorem dX6_nextToken_83 : decode cX6_nextToken 83 = .ok (.getfield 205, 3) := by decide +kernel
theorem dX6_nextToken_86 : decode cX6_nextToken 86 = .ok (.iaload, 1) := by decide +kernel
theorem dX6_nextToken_87 : decode cX6_nextToken 87 = .ok (.invokestatic 215, 3) := by decide +kernel
theorem dX6_nextToken_90 : decode cX6_nextToken 90 = .ok (.ifCond .eq 92, 3) := by decide +kernel
theorem dX6_nextToken_93 : decode cX6_nextToken 93 = .ok (.aload_n 0, 1) := by decide +kernel
theorem dX6_nextToken_94 : decode cX6_nextToken 94 = .ok (.iconst 1, 1) := by decide +kernel
theorem dX6_nextToken_95 : decode cX6_nextToken 95 = .ok (.putfield 212, 3) := by decide +kernel
theorem dX6_nextToken_98 : decode cX6_nextToken 98 = .ok (.aload_n 0, 1) := by decide +kernel
theorem dX6_nextToken_99 : decode cX6_nextToken 99 = .ok (.getfield 202, 3) := by decide +kernel
theorem dX6_nextToken_102 : decode cX6_nextToken 102 = .ok (.aload_n 0, 1) := by decide +kernel
theorem dX6_nextToken_103 : decode cX6_nextToken 103 = .ok (.getfield 198, 3) := by decide +kernel
theorem dX6_nextToken_106 : decode cX6_nextToken 106 = .ok (.if_icmp .ge 231, 3) := by decide +kernel
theorem dX6_nextToken_109 : decode cX6_nextToken 109 = .ok (.aload_n 0, 1) := by decide +kernel
theorem dX6_nextToken_110 : decode cX6_nextToken 110 = .ok (.getfield 25, 3) := by decide +kernel
theorem dX6_nextToken_113 : decode cX6_nextToken 113 = .ok (.aload_n 0, 1) := by decide +kernel
theorem dX6_nextToken_114 : decode cX6_nextToken 114 = .ok (.getfield 202, 3) := by decide +kernel
theorem dX6_nextToken_117 : decode cX6_nextToken 117 = .ok (.iaload, 1) := by decide +kernel
theorem dX6_nextToken_118 : decode cX6_nextToken 118 = .ok (.invokestatic 215, 3) := by decide +kernel
theorem dX6_nextToken_121 : decode cX6_nextToken 121 = .ok (.ifCond .eq 216, 3) := by decide +kernel
theorem dX6_nextToken_124 : decode cX6_nextToken 124 = .ok (.aload_n 0, 1) := by decide +kernel
theorem dX6_nextToken_125 : decode cX6_nextToken 125 = .ok (.aload_n 0, 1) := by decide +kernel
theorem dX6_nextToken_126 : decode cX6_nextToken 126 = .ok (.getfield 208, 3) := by decide +kernel
theorem dX6_nextToken_129 : decode cX6_nextToken 129 = .ok (.ldc2_w 218, 3) := by decide +kernel
theorem dX6_nextToken_132 : decode cX6_nextToken 132 = .ok (.lcmp, 1) := by decide +kernel
theorem dX6_nextToken_133 : decode cX6_nextToken 133 = .ok (.ifCond .le 10, 3) := by decide +kernel
theorem dX6_nextToken_136 : decode cX6_nextToken 136 = .ok (.aload_n 0, 1) := by decide +kernel
theorem dX6_nextToken_137 : decode cX6_nextToken 137 = .ok (.getfield 208, 3) := by decide +kernel
theorem dX6_nextToken_140 : decode cX6_nextToken 140 = .ok (.goto 26, 3) := by decide +kernel
theorem dX6_nextToken_143 : decode cX6_nextToken 143 = .ok (.aload_n 0, 1) := by decide +kernel
theorem dX6_nextToken_144 : decode cX6_nextToken 144 = .ok (.getfield 208, 3) := by decide +kernel
theorem dX6_nextToken_147 : decode cX6_nextToken 147 = .ok (.ldc2_w 220, 3) := by decide +kernel
theorem dX6_nextToken_150 : decode cX6_nextToken 150 = .ok (.lmul, 1) := by decide +kernel
theorem dX6_nextToken_151 : decode cX6_nextToken 151 = .ok (.aload_n 0, 1) := by decide +kernel
theorem dX6_nextToken_152 : decode cX6_nextToken 152 = .ok (.getfield 25, 3) := by decide +kernel
theorem dX6_nextToken_155 : decode cX6_nextToken 155 = .ok (.aload_n 0, 1) := by decide +kernel
theorem dX6_nextToken_156 : decode cX6_nextToken 156 = .ok (.getfield 202, 3) := by decide +kernel
theorem dX6_nextToken_159 : decode cX6_nextToken 159 = .ok (.iaload, 1) := by decide +kernel
theorem dX6_nextToken_160 : decode cX6_nextToken 160 = .ok (.i2l, 1) := by decide +kernel
theorem dX6_nextToken_161 : decode cX6_nextToken 161 = .ok (.ladd, 1) := by decide +kernel
theorem dX6_nextToken_162 : decode cX6_nextToken 162 = .ok (.ldc2_w 222, 3) := by decide +kernel
theorem dX6_nextToken_165 : decode cX6_nextToken 165 = .ok (.lsub, 1) := by decide +kernel
theorem dX6_nextToken_166 : decode cX6_nextToken 166 = .ok (.putfield 208, 3) := by decide +kernel
theorem dX6_nextToken_169 : decode cX6_nextToken 169 = .ok (.aload_n 0, 1) := by decide +kernel
theorem dX6_nextToken_170 : decode cX6_nextToken 170 = .ok (.dup, 1) := by decide +kernel
theorem dX6_nextToken_171 : decode cX6_nextToken 171 = .ok (.getfield 202, 3) := by decide +kernel
theorem dX6_nextToken_174 : decode cX6_nextToken 174 = .ok (.iconst 1, 1) := by decide +kernel
theorem dX6_nextToken_175 : decode cX6_nextToken 175 = .ok (.iadd, 1) := by decide +kernel
theorem dX6_nextToken_176 : decode cX6_nextToken 176 = .ok (.putfield 202, 3) := by decide +kernel
theorem dX6_nextToken_179 : decode cX6_nextToken 179 = .ok (.goto (-81), 3) := by decide +kernel
theorem dX6_nextToken_182 : decode cX6_nextToken 182 = .ok (.aload_n 0, 1) := by decide +kernel
theorem dX6_nextToken_183 : decode cX6_nextToken 183 = .ok (.getfield 25, 3) := by decide +kernel
theorem dX6_nextToken_186 : decode cX6_nextToken 186 = .ok (.aload_n 0, 1) := by decide +kernel
theorem dX6_nextToken_187 : decode cX6_nextToken 187 = .ok (.getfield 205, 3) := by decide +kernel
theorem dX6_nextToken_190 : decode cX6_nextToken 190 = .ok (.iaload, 1) := by decide +kernel
theorem dX6_nextToken_191 : decode cX6_nextToken 191 = .ok (.invokestatic 224, 3) := by decide +kernel
theorem dX6_nextToken_194 : decode cX6_nextToken 194 = .ok (.ifCond .eq 110, 3) := by decide +kernel
theorem dX6_nextToken_197 : decode cX6_nextToken 197 = .ok (.aload_n 0, 1) := by decide +kernel
theorem dX6_nextToken_198 : decode cX6_nextToken 198 = .ok (.getfield 202, 3) := by decide +kernel
theorem dX6_nextToken_201 : decode cX6_nextToken 201 = .ok (.aload_n 0, 1) := by decide +kernel
theorem dX6_nextToken_202 : decode cX6_nextToken 202 = .ok (.getfield 198, 3) := by decide +kernel
theorem dX6_nextToken_205 : decode cX6_nextToken 205 = .ok (.if_icmp .ge 76, 3) := by decide +kernel
theorem dX6_nextToken_208 : decode cX6_nextToken 208 = .ok (.aload_n 0, 1) := by decide +kernel
theorem dX6_nextToken_209 : decode cX6_nextToken 209 = .ok (.getfield 25, 3) := by decide +kernel
theorem dX6_nextToken_212 : decode cX6_nextToken 212 = .ok (.aload_n 0, 1) := by decide +kernel
theorem dX6_nextToken_213 : decode cX6_nextToken 213 = .ok (.getfield 202, 3) := by decide +kernel
theorem dX6_nextToken_216 : decode cX6_nextToken 216 = .ok (.iaload, 1) := by decide +kernel
theorem dX6_nextToken_217 : decode cX6_nextToken 217 = .ok (.invokestatic 224, 3) := by decide +kernel
theorem dX6_nextToken_220 : decode cX6_nextToken 220 = .ok (.ifCond .eq 61, 3) := by decide +kernel
theorem dX6_nextToken_223 : decode cX6_nextToken 223 = .ok (.aload_n 0, 1) := by decide +kernel
theorem dX6_nextToken_224 : decode cX6_nextToken 224 = .ok (.aload_n 0, 1) := by decide +kernel
theorem dX6_nextToken_225 : decode cX6_nextToken 225 = .ok (.getfield 208, 3) := by decide +kernel
theorem dX6_nextToken_228 : decode cX6_nextToken 228 = .ok (.ldc2_w 227, 3) := by decide +kernel
theorem dX6_nextToken_231 : decode cX6_nextToken 231 = .ok (.lcmp, 1) := by decide +kernel
theorem dX6_nextToken_232 : decode cX6_nextToken 232 = .ok (.ifCond .le 10, 3) := by decide +kernel
theorem dX6_nextToken_235 : decode cX6_nextToken 235 = .ok (.aload_n 0, 1) := by decide +kernel
theorem dX6_nextToken_236 : decode cX6_nextToken 236 = .ok (.getfield 208, 3) := by decide +kernel
theorem dX6_nextToken_239 : decode cX6_nextToken 239 = .ok (.goto 26, 3) := by decide +kernel
theorem dX6_nextToken_242 : decode cX6_nextToken 242 = .ok (.aload_n 0, 1) := by decide +kernel
theorem dX6_nextToken_243 : decode cX6_nextToken 243 = .ok (.getfield 208, 3) := by decide +kernel
theorem dX6_nextToken_246 : decode cX6_nextToken 246 = .ok (.ldc2_w 229, 3) := by decide +kernel
theorem dX6_nextToken_249 : decode cX6_nextToken 249 = .ok (.lmul, 1) := by decide +kernel
theorem dX6_nextToken_250 : decode cX6_nextToken 250 = .ok (.aload_n 0, 1) := by decide +kernel
theorem dX6_nextToken_251 : decode cX6_nextToken 251 = .ok (.getfield 25, 3) := by decide +kernel
theorem dX6_nextToken_254 : decode cX6_nextToken 254 = .ok (.aload_n 0, 1) := by decide +kernel
theorem dX6_nextToken_255 : decode cX6_nextToken 255 = .ok (.getfield 202, 3) := by decide +kernel
theorem dX6_nextToken_258 : decode cX6_nextToken 258 = .ok (.iaload, 1) := by decide +kernel
theorem dX6_nextToken_259 : decode cX6_nextToken 259 = .ok (.i2l, 1) := by decide +kernel
theorem dX6_nextToken_260 : decode cX6_nextToken 260 = .ok (.ladd, 1) := by decide +kernel
theorem dX6_nextToken_261 : decode cX6_nextToken 261 = .ok (.ldc2_w 231, 3) := by decide +kernel
theorem dX6_nextToken_264 : decode cX6_nextToken 264 = .ok (.lsub, 1) := by decide +kernel
theorem dX6_nextToken_265 : decode cX6_nextToken 265 = .ok (.putfield 208, 3) := by decide +kernel
theorem dX6_nextToken_268 : decode cX6_nextToken 268 = .ok (.aload_n 0, 1) := by decide +kernel
theorem dX6_nextToken_269 : decode cX6_nextToken 269 = .ok (.dup, 1) := by decide +kernel
theorem dX6_nextToken_270 : decode cX6_nextToken 270 = .ok (.getfield 202, 3) := by decide +kernel
theorem dX6_nextToken_273 : decode cX6_nextToken 273 = .ok (.iconst 1, 1) := by decide +kernel
theorem dX6_nextToken_274 : decode cX6_nextToken 274 = .ok (.iadd, 1) := by decide +kernel
theorem dX6_nextToken_275 : decode cX6_nextToken 275 = .ok (.putfield 202, 3) := by decide +kernel
theorem dX6_nextToken_278 : decode cX6_nextToken 278 = .ok (.goto (-81), 3) := by decide +kernel
theorem dX6_nextToken_281 : decode cX6_nextToken 281 = .ok (.aload_n 0, 1) := by decide +kernel
theorem dX6_nextToken_282 : decode cX6_nextToken 282 = .ok (.aload_n 0, 1) := by decide +kernel
theorem dX6_nextToken_283 : decode cX6_nextToken 283 = .ok (.getfield 208, 3) := by decide +kernel
theorem dX6_nextToken_286 : decode cX6_nextToken 286 = .ok (.ldc2_w 227, 3) := by decide +kernel
theorem dX6_nextToken_289 : decode cX6_nextToken 289 = .ok (.lcmp, 1) := by decide +kernel
theorem dX6_nextToken_290 : decode cX6_nextToken 290 = .ok (.ifCond .le 7, 3) := by decide +kernel
theorem dX6_nextToken_293 : decode cX6_nextToken 293 = .ok (.iconst 4, 1) := by decide +kernel
theorem dX6_nextToken_294 : decode cX6_nextToken 294 = .ok (.goto 4, 3) := by decide +kernel
theorem dX6_nextToken_297 : decode cX6_nextToken 297 = .ok (.iconst 2, 1) := by decide +kernel
theorem dX6_nextToken_298 : decode cX6_nextToken 298 = .ok (.putfield 212, 3) := by decide +kernel
theorem dX6_nextToken_301 : decode cX6_nextToken 301 = .ok (.goto 36, 3) := by decide +kernel
theorem dX6_nextToken_304 : decode cX6_nextToken 304 = .ok (.aload_n 0, 1) := by decide +kernel
theorem dX6_nextToken_305 : decode cX6_nextToken 305 = .ok (.aload_n 0, 1) := by decide +kernel
theorem dX6_nextToken_306 : decode cX6_nextToken 306 = .ok (.getfield 25, 3) := by decide +kernel
theorem dX6_nextToken_309 : decode cX6_nextToken 309 = .ok (.aload_n 0, 1) := by decide +kernel
theorem dX6_nextToken_310 : decode cX6_nextToken 310 = .ok (.getfield 205, 3) := by decide +kernel
theorem dX6_nextToken_313 : decode cX6_nextToken 313 = .ok (.iaload, 1) := by decide +kernel
theorem dX6_nextToken_314 : decode cX6_nextToken 314 = .ok (.bipush 59, 2) := by decide +kernel
theorem dX6_nextToken_316 : decode cX6_nextToken 316 = .ok (.if_icmp .ne 7, 3) := by decide +kernel
theorem dX6_nextToken_319 : decode cX6_nextToken 319 = .ok (.iconst 3, 1) := by decide +kernel
theorem dX6_nextToken_320 : decode cX6_nextToken 320 = .ok (.goto 4, 3) := by decide +kernel
theorem dX6_nextToken_323 : decode cX6_nextToken 323 = .ok (.iconst 4, 1) := by decide +kernel
theorem dX6_nextToken_324 : decode cX6_nextToken 324 = .ok (.putfield 212, 3) := by decide +kernel
theorem dX6_nextToken_327 : decode cX6_nextToken 327 = .ok (.aload_n 0, 1) := by decide +kernel
theorem dX6_nextToken_328 : decode cX6_nextToken 328 = .ok (.dup, 1) := by decide +kernel
theorem dX6_nextToken_329 : decode cX6_nextToken 329 = .ok (.getfield 202, 3) := by decide +kernel
theorem dX6_nextToken_332 : decode cX6_nextToken 332 = .ok (.iconst 1, 1) := by decide +kernel
theorem dX6_nextToken_333 : decode cX6_nextToken 333 = .ok (.iadd, 1) := by decide +kernel
theorem dX6_nextToken_334 : decode cX6_nextToken 334 = .ok (.putfield 202, 3) := by decide +kernel
theorem dX6_nextToken_337 : decode cX6_nextToken 337 = .ok (.return_, 1) := by decide +kernel
theorem dX6_wordOf_0 : decode cX6_wordOf 0 = .ok (.iconst (-1), 1) := by decide +kernel
theorem dX6_wordOf_1 : decode cX6_wordOf 1 = .ok (.istore_n 2, 1) := by decide +kernel
theorem dX6_wordOf_2 : decode cX6_wordOf 2 = .ok (.iconst 0, 1) := by decide +kernel
theorem dX6_wordOf_3 : decode cX6_wordOf 3 = .ok (.istore_n 3, 1) := by decide +kernel
theorem dX6_wordOf_4 : decode cX6_wordOf 4 = .ok (.iload_n 3, 1) := by decide +kernel
theorem dX6_wordOf_5 : decode cX6_wordOf 5 = .ok (.aload_n 1, 1) := by decide +kernel
theorem dX6_wordOf_6 : decode cX6_wordOf 6 = .ok (.arraylength, 1) := by decide +kernel
theorem dX6_wordOf_7 : decode cX6_wordOf 7 = .ok (.bipush 8, 2) := by decide +kernel
theorem dX6_wordOf_9 : decode cX6_wordOf 9 = .ok (.idiv, 1) := by decide +kernel
theorem dX6_wordOf_10 : decode cX6_wordOf 10 = .ok (.if_icmp .ge 94, 3) := by decide +kernel
theorem dX6_wordOf_13 : decode cX6_wordOf 13 = .ok (.aload_n 0, 1) := by decide +kernel
theorem dX6_wordOf_14 : decode cX6_wordOf 14 = .ok (.getfield 212, 3) := by decide +kernel
theorem dX6_wordOf_17 : decode cX6_wordOf 17 = .ok (.iconst 1, 1) := by decide +kernel
theorem dX6_wordOf_18 : decode cX6_wordOf 18 = .ok (.if_icmp .ne 86, 3) := by decide +kernel
theorem dX6_wordOf_21 : decode cX6_wordOf 21 = .ok (.lconst 0, 1) := by decide +kernel
theorem dX6_wordOf_22 : decode cX6_wordOf 22 = .ok (.lstore 4, 2) := by decide +kernel
theorem dX6_wordOf_24 : decode cX6_wordOf 24 = .ok (.iconst 0, 1) := by decide +kernel
theorem dX6_wordOf_25 : decode cX6_wordOf 25 = .ok (.istore 6, 2) := by decide +kernel
theorem dX6_wordOf_27 : decode cX6_wordOf 27 = .ok (.iload 6, 2) := by decide +kernel
theorem dX6_wordOf_29 : decode cX6_wordOf 29 = .ok (.bipush 8, 2) := by decide +kernel
theorem dX6_wordOf_31 : decode cX6_wordOf 31 = .ok (.if_icmp .ge 51, 3) := by decide +kernel
theorem dX6_wordOf_34 : decode cX6_wordOf 34 = .ok (.aload_n 1, 1) := by decide +kernel
theorem dX6_wordOf_35 : decode cX6_wordOf 35 = .ok (.bipush 8, 2) := by decide +kernel
theorem dX6_wordOf_37 : decode cX6_wordOf 37 = .ok (.iload_n 3, 1) := by decide +kernel
theorem dX6_wordOf_38 : decode cX6_wordOf 38 = .ok (.imul, 1) := by decide +kernel
theorem dX6_wordOf_39 : decode cX6_wordOf 39 = .ok (.iload 6, 2) := by decide +kernel
theorem dX6_wordOf_41 : decode cX6_wordOf 41 = .ok (.iadd, 1) := by decide +kernel
theorem dX6_wordOf_42 : decode cX6_wordOf 42 = .ok (.caload, 1) := by decide +kernel
theorem dX6_wordOf_43 : decode cX6_wordOf 43 = .ok (.bipush 32, 2) := by decide +kernel
theorem dX6_wordOf_45 : decode cX6_wordOf 45 = .ok (.if_icmp .ne 8, 3) := by decide +kernel
theorem dX6_wordOf_48 : decode cX6_wordOf 48 = .ok (.lload 4, 2) := by decide +kernel
theorem dX6_wordOf_50 : decode cX6_wordOf 50 = .ok (.goto 24, 3) := by decide +kernel
theorem dX6_wordOf_53 : decode cX6_wordOf 53 = .ok (.lload 4, 2) := by decide +kernel
theorem dX6_wordOf_55 : decode cX6_wordOf 55 = .ok (.ldc2_w 220, 3) := by decide +kernel
theorem dX6_wordOf_58 : decode cX6_wordOf 58 = .ok (.lmul, 1) := by decide +kernel
theorem dX6_wordOf_59 : decode cX6_wordOf 59 = .ok (.aload_n 1, 1) := by decide +kernel
theorem dX6_wordOf_60 : decode cX6_wordOf 60 = .ok (.bipush 8, 2) := by decide +kernel
theorem dX6_wordOf_62 : decode cX6_wordOf 62 = .ok (.iload_n 3, 1) := by decide +kernel
theorem dX6_wordOf_63 : decode cX6_wordOf 63 = .ok (.imul, 1) := by decide +kernel
theorem dX6_wordOf_64 : decode cX6_wordOf 64 = .ok (.iload 6, 2) := by decide +kernel
theorem dX6_wordOf_66 : decode cX6_wordOf 66 = .ok (.iadd, 1) := by decide +kernel
theorem dX6_wordOf_67 : decode cX6_wordOf 67 = .ok (.caload, 1) := by decide +kernel
theorem dX6_wordOf_68 : decode cX6_wordOf 68 = .ok (.i2l, 1) := by decide +kernel
theorem dX6_wordOf_69 : decode cX6_wordOf 69 = .ok (.ladd, 1) := by decide +kernel
theorem dX6_wordOf_70 : decode cX6_wordOf 70 = .ok (.ldc2_w 222, 3) := by decide +kernel
theorem dX6_wordOf_73 : decode cX6_wordOf 73 = .ok (.lsub, 1) := by decide +kernel
theorem dX6_wordOf_74 : decode cX6_wordOf 74 = .ok (.lstore 4, 2) := by decide +kernel
theorem dX6_wordOf_76 : decode cX6_wordOf 76 = .ok (.iinc 6 1, 3) := by decide +kernel
theorem dX6_wordOf_79 : decode cX6_wordOf 79 = .ok (.goto (-52), 3) := by decide +kernel
theorem dX6_wordOf_82 : decode cX6_wordOf 82 = .ok (.lload 4, 2) := by decide +kernel
theorem dX6_wordOf_84 : decode cX6_wordOf 84 = .ok (.aload_n 0, 1) := by decide +kernel
theorem dX6_wordOf_85 : decode cX6_wordOf 85 = .ok (.getfield 208, 3) := by decide +kernel
theorem dX6_wordOf_88 : decode cX6_wordOf 88 = .ok (.lcmp, 1) := by decide +kernel
theorem dX6_wordOf_89 : decode cX6_wordOf 89 = .ok (.ifCond .ne 7, 3) := by decide +kernel
theorem dX6_wordOf_92 : decode cX6_wordOf 92 = .ok (.iload_n 3, 1) := by decide +kernel
theorem dX6_wordOf_93 : decode cX6_wordOf 93 = .ok (.goto 4, 3) := by decide +kernel
theorem dX6_wordOf_96 : decode cX6_wordOf 96 = .ok (.iload_n 2, 1) := by decide +kernel
